/-! Row.remove, Shelf.from, Shelf.to -/
def sfrom (xs : List Int32) (x : Int32) : Int32 := if x < 1 then 0 else if nI xs.length < x then 0 else xs.getD (x - 1).toNatClampNeg 0
def sto (xs : List Int32) (x : Int32) : Int32 := if x < 0 then 0 else if nI xs.length ≤ x then 0 else xs.getD x.toNatClampNeg 0
def rremL (xs : List Int32) (x y : Int32) : List Int32 := if x < 0 then xs else if y < x then xs else if y ≤ nI xs.length then xs.take x.toNatClampNeg ++ xs.drop y.toNatClampNeg else xs
theorem pk_from {x : Int32} {n : Nat} (h1 : ¬ x < 1) (h2 : ¬ nI n < x) (hn : n < 2 ^ 30) : ∃ j, j < n ∧ x - 1 = nI j ∧ (x - 1).toNatClampNeg = j := by
  have h0 : ¬ x < 0 := fun h => h1 (by
    rw [Int32.lt_iff_toInt_lt] at h ⊢
    have e0 : (0 : Int32).toInt = 0 := rfl
    have e1 : (1 : Int32).toInt = 1 := rfl
    omega)
  obtain ⟨k, hk, rfl⟩ := nI_of h0
  have k1 : 1 ≤ k := Nat.not_lt.mp fun q => h1 (nI_lt (b := 1) q (by decide))
  have k2 : k ≤ n := Nat.not_lt.mp fun q => h2 (nI_lt q hk)
  have e : nI k - 1 = nI (k - 1) := pk_sub (b := 1) k1
  exact ⟨k - 1, by omega, e, by rw [e]; exact nI_clamp (by omega)⟩
abbrev cX8_from : ByteArray := prog_10_method_5_code
def yX8_from : MethodName := ⟨RX8, "from", "(I)I"⟩
theorem wcX8_from : Cond.code yX8_from cX8_from 2 (some .int) ∈ tb := tb_4 (i := 206) rfl rfl
theorem wnX8_from : Cond.instanceMethod yX8_from ∈ tb := tb_4 (i := 204) (by decide +kernel) rfl
theorem wlX8_from : Cond.selects RX8 yX8_from yX8_from ∈ tb := tb_4 (i := 205) (by decide +kernel) rfl
theorem YX8_from : Yv yX8_from cX8_from 2 (some .int) 1 := ⟨wcX8_from, wlX8_from, wnX8_from, wi_8, by decide +kernel, by decide +kernel, by decide +kernel⟩
theorem dX8_from_0 : decode cX8_from 0 = .ok (.iload_n 1, 1) := by decide +kernel
theorem dX8_from_1 : decode cX8_from 1 = .ok (.iconst 1, 1) := by decide +kernel
theorem dX8_from_2 : decode cX8_from 2 = .ok (.if_icmp .lt 28, 3) := by decide +kernel
theorem dX8_from_5 : decode cX8_from 5 = .ok (.iload_n 1, 1) := by decide +kernel
theorem dX8_from_6 : decode cX8_from 6 = .ok (.aload_n 0, 1) := by decide +kernel
theorem dX8_from_7 : decode cX8_from 7 = .ok (.getfield 18, 3) := by decide +kernel
theorem dX8_from_10 : decode cX8_from 10 = .ok (.getfield 24, 3) := by decide +kernel
theorem dX8_from_13 : decode cX8_from 13 = .ok (.if_icmp .gt 17, 3) := by decide +kernel
theorem dX8_from_16 : decode cX8_from 16 = .ok (.aload_n 0, 1) := by decide +kernel
theorem dX8_from_17 : decode cX8_from 17 = .ok (.getfield 18, 3) := by decide +kernel
theorem dX8_from_20 : decode cX8_from 20 = .ok (.getfield 32, 3) := by decide +kernel
theorem dX8_from_23 : decode cX8_from 23 = .ok (.iload_n 1, 1) := by decide +kernel
theorem dX8_from_24 : decode cX8_from 24 = .ok (.iconst 1, 1) := by decide +kernel
theorem dX8_from_25 : decode cX8_from 25 = .ok (.isub, 1) := by decide +kernel
theorem dX8_from_26 : decode cX8_from 26 = .ok (.iaload, 1) := by decide +kernel
theorem dX8_from_27 : decode cX8_from 27 = .ok (.goto 4, 3) := by decide +kernel
theorem dX8_from_30 : decode cX8_from 30 = .ok (.iconst 0, 1) := by decide +kernel
theorem dX8_from_31 : decode cX8_from 31 = .ok (.ireturn, 1) := by decide +kernel
abbrev cX8_to : ByteArray := prog_10_method_6_code
def yX8_to : MethodName := ⟨RX8, "to", "(I)I"⟩
theorem wcX8_to : Cond.code yX8_to cX8_to 2 (some .int) ∈ tb := tb_4 (i := 202) rfl rfl
theorem wnX8_to : Cond.instanceMethod yX8_to ∈ tb := tb_4 (i := 200) (by decide +kernel) rfl
theorem wlX8_to : Cond.selects RX8 yX8_to yX8_to ∈ tb := tb_4 (i := 201) (by decide +kernel) rfl
theorem YX8_to : Yv yX8_to cX8_to 2 (some .int) 1 := ⟨wcX8_to, wlX8_to, wnX8_to, wi_8, by decide +kernel, by decide +kernel, by decide +kernel⟩
theorem dX8_to_0 : decode cX8_to 0 = .ok (.iload_n 1, 1) := by decide +kernel
theorem dX8_to_1 : decode cX8_to 1 = .ok (.ifCond .lt 26, 3) := by decide +kernel
theorem dX8_to_4 : decode cX8_to 4 = .ok (.iload_n 1, 1) := by decide +kernel
theorem dX8_to_5 : decode cX8_to 5 = .ok (.aload_n 0, 1) := by decide +kernel
theorem dX8_to_6 : decode cX8_to 6 = .ok (.getfield 18, 3) := by decide +kernel
theorem dX8_to_9 : decode cX8_to 9 = .ok (.getfield 24, 3) := by decide +kernel
theorem dX8_to_12 : decode cX8_to 12 = .ok (.if_icmp .ge 15, 3) := by decide +kernel
theorem dX8_to_15 : decode cX8_to 15 = .ok (.aload_n 0, 1) := by decide +kernel
theorem dX8_to_16 : decode cX8_to 16 = .ok (.getfield 18, 3) := by decide +kernel
theorem dX8_to_19 : decode cX8_to 19 = .ok (.getfield 32, 3) := by decide +kernel
theorem dX8_to_22 : decode cX8_to 22 = .ok (.iload_n 1, 1) := by decide +kernel
theorem dX8_to_23 : decode cX8_to 23 = .ok (.iaload, 1) := by decide +kernel
theorem dX8_to_24 : decode cX8_to 24 = .ok (.goto 4, 3) := by decide +kernel
theorem dX8_to_27 : decode cX8_to 27 = .ok (.iconst 0, 1) := by decide +kernel
theorem dX8_to_28 : decode cX8_to 28 = .ok (.ireturn, 1) := by decide +kernel
abbrev cX5_remove : ByteArray := prog_7_method_11_code
def yX5_remove : MethodName := ⟨RX5, "remove", "(II)V"⟩
theorem wcX5_remove : Cond.code yX5_remove cX5_remove 3 none ∈ tb := tb_6 (i := 83) rfl rfl
theorem wnX5_remove : Cond.instanceMethod yX5_remove ∈ tb := tb_6 (i := 81) (by decide +kernel) rfl
theorem wlX5_remove : Cond.selects RX5 yX5_remove yX5_remove ∈ tb := tb_6 (i := 82) (by decide +kernel) rfl
theorem YX5_remove : Yv yX5_remove cX5_remove 3 none 2 := ⟨wcX5_remove, wlX5_remove, wnX5_remove, wi_5, by decide +kernel, by decide +kernel, by decide +kernel⟩
theorem dX5_remove_0 : decode cX5_remove 0 = .ok (.iload_n 1, 1) := by decide +kernel
theorem dX5_remove_1 : decode cX5_remove 1 = .ok (.ifCond .lt 16, 3) := by decide +kernel
theorem dX5_remove_4 : decode cX5_remove 4 = .ok (.iload_n 2, 1) := by decide +kernel
theorem dX5_remove_5 : decode cX5_remove 5 = .ok (.iload_n 1, 1) := by decide +kernel
theorem dX5_remove_6 : decode cX5_remove 6 = .ok (.if_icmp .lt 11, 3) := by decide +kernel
theorem dX5_remove_9 : decode cX5_remove 9 = .ok (.iload_n 2, 1) := by decide +kernel
theorem dX5_remove_10 : decode cX5_remove 10 = .ok (.aload_n 0, 1) := by decide +kernel
theorem dX5_remove_11 : decode cX5_remove 11 = .ok (.getfield 15, 3) := by decide +kernel
theorem dX5_remove_14 : decode cX5_remove 14 = .ok (.if_icmp .le 4, 3) := by decide +kernel
theorem dX5_remove_17 : decode cX5_remove 17 = .ok (.return_, 1) := by decide +kernel
theorem dX5_remove_18 : decode cX5_remove 18 = .ok (.aload_n 0, 1) := by decide +kernel
theorem dX5_remove_19 : decode cX5_remove 19 = .ok (.getfield 9, 3) := by decide +kernel
theorem dX5_remove_22 : decode cX5_remove 22 = .ok (.iload_n 2, 1) := by decide +kernel
theorem dX5_remove_23 : decode cX5_remove 23 = .ok (.aload_n 0, 1) := by decide +kernel
theorem dX5_remove_24 : decode cX5_remove 24 = .ok (.getfield 9, 3) := by decide +kernel
theorem dX5_remove_27 : decode cX5_remove 27 = .ok (.iload_n 1, 1) := by decide +kernel
theorem dX5_remove_28 : decode cX5_remove 28 = .ok (.aload_n 0, 1) := by decide +kernel
theorem dX5_remove_29 : decode cX5_remove 29 = .ok (.getfield 15, 3) := by decide +kernel
theorem dX5_remove_32 : decode cX5_remove 32 = .ok (.iload_n 2, 1) := by decide +kernel
theorem dX5_remove_33 : decode cX5_remove 33 = .ok (.isub, 1) := by decide +kernel
theorem dX5_remove_34 : decode cX5_remove 34 = .ok (.invokestatic 20, 3) := by decide +kernel
theorem dX5_remove_37 : decode cX5_remove 37 = .ok (.aload_n 0, 1) := by decide +kernel
theorem dX5_remove_38 : decode cX5_remove 38 = .ok (.dup, 1) := by decide +kernel
theorem dX5_remove_39 : decode cX5_remove 39 = .ok (.getfield 15, 3) := by decide +kernel
theorem dX5_remove_42 : decode cX5_remove 42 = .ok (.iload_n 2, 1) := by decide +kernel
theorem dX5_remove_43 : decode cX5_remove 43 = .ok (.iload_n 1, 1) := by decide +kernel
theorem dX5_remove_44 : decode cX5_remove 44 = .ok (.isub, 1) := by decide +kernel
theorem dX5_remove_45 : decode cX5_remove 45 = .ok (.isub, 1) := by decide +kernel
theorem dX5_remove_46 : decode cX5_remove 46 = .ok (.putfield 15, 3) := by decide +kernel
theorem dX5_remove_49 : decode cX5_remove 49 = .ok (.return_, 1) := by decide +kernel
theorem k_RX8_24 : Cond.fieldLinkNest RX8 24 RX5 "size" "I" "TypeRoom" ∈ tables_1 := tn_1 (i := 45) (by decide +kernel)
theorem k_RX8_32 : Cond.fieldLinkNest RX8 32 RX5 "cells" "[I" "TypeRoom" ∈ tables_1 := tn_1 (i := 41) (by decide +kernel)
theorem ct_X8_to (l : Launch) (D : va_G) (G : Nat → ClassId) (t : Nat → Nat) (N : Nat) (ad : Nat → Nat) (cl : Nat → va_E) (i cap : Nat) (xs : List Int32) (hi : i < N) (hS : cl i = .inr (8, [.ref (ad (i + 1)), .ref (ad (i + 3))])) (hR : RowL G N ad cl (i + 3) cap xs) (x : Int32) (d : Nat) : CtI l yX8_to cX8_to 2 (rmD d 0 0) D G t (N, ad, cl) [.ref (ad i), .int x] (fun r u => r = sto xs x ∧ u = (N, ad, cl)) := by
  obtain ⟨hN, hc0, ⟨f, hc1, hf⟩, hcap, hcm, hcM⟩ := hR
  refine ct_I (own := RX8) (by decide +kernel) rfl (Nat.le_of_ble_eq_true rfl) rfl ?_
  intro p e s m args below meth c A ls X hr hl w
  obtain ⟨hx, hb, hml, hown, hts, -⟩ := id X
  have hl : lv_has ls 2 [(0, .ref (ad (i))), (1, .int (x))] := hl
  refine lv_iload_n hx hb dX8_to_0 rfl (lv_at hl 1 rfl) ?_
  refine lv_if_lt (tgt := 27) hx hb dX8_to_1 (by decide) (fun h1 => ?_) (fun h1 => ?_)
  · refine lv_iconst (v := 0) hx hb dX8_to_27 (by decide) ?_
    exact e_I X hr w ⟨by rw [sto, if_pos h1], rfl⟩ (Nat.zero_le _) (Nat.zero_le _) dX8_to_28
  · refine lv_iload_n hx hb dX8_to_4 rfl (lv_at hl 1 rfl) ?_
    refine lv_aload_n hx hb dX8_to_5 rfl (lv_at hl 0 rfl) ?_
    refine g_get X w i rfl hi hS kc8 1 (by decide) rfl k_RX8_18 rfl dX8_to_6 ?_
    refine g_getN X w (i + 3) rfl (by omega) hc0 kc5 1 (by decide) rfl k_RX8_24 rfl dX8_to_9 ?_
    refine lv_icmp_ge (tgt := 27) hx hb dX8_to_12 (by decide) (fun h2 => ?_) (fun h2 => ?_)
    · refine lv_iconst (v := 0) hx hb dX8_to_27 (by decide) ?_
      exact e_I X hr w ⟨by rw [sto, if_neg h1, if_pos h2], rfl⟩ (Nat.zero_le _) (Nat.zero_le _) dX8_to_28
    · obtain ⟨j, hj, ej, -, ec, -⟩ := pk_mu h1 h2 (by omega)
      refine lv_aload_n hx hb dX8_to_15 rfl (lv_at hl 0 rfl) ?_
      refine g_get X w i rfl hi hS kc8 1 (by decide) rfl k_RX8_18 rfl dX8_to_16 ?_
      refine g_getN X w (i + 3) rfl (by omega) hc0 kc5 0 (by decide) rfl k_RX8_32 rfl dX8_to_19 ?_
      refine lv_iload_n hx hb dX8_to_22 rfl (lv_at hl 1 rfl) ?_
      refine g_iald X w (i + 3 + 1) rfl (by omega) hc1 (x := x) (by rw [ej]; exact row_in (by omega) hcM) dX8_to_23 ?_
      refine lv_goto (tgt := 28) hx hb dX8_to_24 (by decide) ?_
      exact e_I X hr w ⟨by rw [sto, if_neg h1, if_neg h2, ec, hf j hj], rfl⟩ (Nat.zero_le _) (Nat.zero_le _) dX8_to_28
theorem ct_X8_from (l : Launch) (D : va_G) (G : Nat → ClassId) (t : Nat → Nat) (N : Nat) (ad : Nat → Nat) (cl : Nat → va_E) (i cap : Nat) (xs : List Int32) (hi : i < N) (hS : cl i = .inr (8, [.ref (ad (i + 1)), .ref (ad (i + 3))])) (hR : RowL G N ad cl (i + 3) cap xs) (x : Int32) (d : Nat) : CtI l yX8_from cX8_from 2 (rmD d 0 0) D G t (N, ad, cl) [.ref (ad i), .int x] (fun r u => r = sfrom xs x ∧ u = (N, ad, cl)) := by
  obtain ⟨hN, hc0, ⟨f, hc1, hf⟩, hcap, hcm, hcM⟩ := hR
  refine ct_I (own := RX8) (by decide +kernel) rfl (Nat.le_of_ble_eq_true rfl) rfl ?_
  intro p e s m args below meth c A ls X hr hl w
  obtain ⟨hx, hb, hml, hown, hts, -⟩ := id X
  have hl : lv_has ls 2 [(0, .ref (ad (i))), (1, .int (x))] := hl
  refine lv_iload_n hx hb dX8_from_0 rfl (lv_at hl 1 rfl) ?_
  refine lv_iconst (v := 1) hx hb dX8_from_1 (by decide) ?_
  refine lv_icmp_lt (tgt := 30) hx hb dX8_from_2 (by decide) (fun h1 => ?_) (fun h1 => ?_)
  · refine lv_iconst (v := 0) hx hb dX8_from_30 (by decide) ?_
    exact e_I X hr w ⟨by rw [sfrom, if_pos h1], rfl⟩ (Nat.zero_le _) (Nat.zero_le _) dX8_from_31
  · refine lv_iload_n hx hb dX8_from_5 rfl (lv_at hl 1 rfl) ?_
    refine lv_aload_n hx hb dX8_from_6 rfl (lv_at hl 0 rfl) ?_
    refine g_get X w i rfl hi hS kc8 1 (by decide) rfl k_RX8_18 rfl dX8_from_7 ?_
    refine g_getN X w (i + 3) rfl (by omega) hc0 kc5 1 (by decide) rfl k_RX8_24 rfl dX8_from_10 ?_
    refine lv_icmp_gt (tgt := 30) hx hb dX8_from_13 (by decide) (fun h2 => ?_) (fun h2 => ?_)
    · refine lv_iconst (v := 0) hx hb dX8_from_30 (by decide) ?_
      exact e_I X hr w ⟨by rw [sfrom, if_neg h1, if_pos h2], rfl⟩ (Nat.zero_le _) (Nat.zero_le _) dX8_from_31
    · obtain ⟨j, hj, ej, ec⟩ := pk_from h1 h2 (by omega)
      refine lv_aload_n hx hb dX8_from_16 rfl (lv_at hl 0 rfl) ?_
      refine g_get X w i rfl hi hS kc8 1 (by decide) rfl k_RX8_18 rfl dX8_from_17 ?_
      refine g_getN X w (i + 3) rfl (by omega) hc0 kc5 0 (by decide) rfl k_RX8_32 rfl dX8_from_20 ?_
      refine lv_iload_n hx hb dX8_from_23 rfl (lv_at hl 1 rfl) ?_
      refine lv_iconst (v := 1) hx hb dX8_from_24 (by decide) ?_
      refine lv_isub hx hb dX8_from_25 ?_
      refine g_iald X w (i + 3 + 1) rfl (by omega) hc1 (x := x - 1) (by rw [ej]; exact row_in (by omega) hcM) dX8_from_26 ?_
      refine lv_goto (tgt := 31) hx hb dX8_from_27 (by decide) ?_
      exact e_I X hr w ⟨by rw [sfrom, if_neg h1, if_neg h2, ec, hf j hj], rfl⟩ (Nat.zero_le _) (Nat.zero_le _) dX8_from_31
theorem ct_X5_remove (l : Launch) (D : va_G) (G : Nat → ClassId) (t : Nat → Nat) (N : Nat) (ad : Nat → Nat) (cl : Nat → va_E) (i cap : Nat) (xs : List Int32) (hR : RowL G N ad cl i cap xs) (x y : Int32) (d : Nat) (hd : 1 ≤ d) : CtV l yX5_remove cX5_remove 3 (rmD d 0 0) D G t (N, ad, cl) [.ref (ad i), .int x, .int y] (fun u => ∃ ad' cl', u = (N, ad', cl') ∧ RowL G N ad' cl' i cap (rremL xs x y) ∧ FrR N i ad cl ad' cl') := by
  have hR0 := hR
  obtain ⟨hN, hc0, ⟨f, hc1, hf⟩, hcap, hcm, hcM⟩ := hR
  refine ct_V (own := RX5) (by decide +kernel) rfl (Nat.le_of_ble_eq_true rfl) rfl ?_
  intro p e s m args below meth c A ls X hr hin hl w
  obtain ⟨hx, hb, hml, hown, hts, -⟩ := id X
  have hl : lv_has ls 3 [(0, .ref (ad (i))), (1, .int (x)), (2, .int (y))] := hl
  refine lv_iload_n hx hb dX5_remove_0 rfl (lv_at hl 1 rfl) ?_
  refine lv_if_lt (tgt := 17) hx hb dX5_remove_1 (by decide) (fun h1 => ?_) (fun h1 => ?_)
  · exact e_V X hr w ⟨ad, cl, rfl, by rw [(by rw [rremL, if_pos h1] : rremL xs x y = xs)]; exact hR0, FrR.rf⟩ (Nat.zero_le _) (Nat.zero_le _) dX5_remove_17
  refine lv_iload_n hx hb dX5_remove_4 rfl (lv_at hl 2 rfl) ?_
  refine lv_iload_n hx hb dX5_remove_5 rfl (lv_at hl 1 rfl) ?_
  refine lv_icmp_lt (tgt := 17) hx hb dX5_remove_6 (by decide) (fun h2 => ?_) (fun h2 => ?_)
  · exact e_V X hr w ⟨ad, cl, rfl, by rw [(by rw [rremL, if_neg h1, if_pos h2] : rremL xs x y = xs)]; exact hR0, FrR.rf⟩ (Nat.zero_le _) (Nat.zero_le _) dX5_remove_17
  refine lv_iload_n hx hb dX5_remove_9 rfl (lv_at hl 2 rfl) ?_
  refine lv_aload_n hx hb dX5_remove_10 rfl (lv_at hl 0 rfl) ?_
  refine g_get X w (i) rfl (by omega) hc0 kc5 1 (by decide) rfl k_RX5_15 rfl dX5_remove_11 ?_
  refine lv_icmp_le (tgt := 18) hx hb dX5_remove_14 (by decide) (fun h3 => ?_) (fun h3 => ?_)
  · obtain ⟨a, ha, rfl⟩ := nI_of h1
    have h0y : ¬ y < 0 := fun h => h2 (by
      rw [Int32.lt_iff_toInt_lt] at h ⊢
      have e0 : (0 : Int32).toInt = 0 := rfl
      rw [nI_toInt ha]
      omega)
    obtain ⟨b, hb9, rfl⟩ := nI_of h0y
    have hab : a ≤ b := Nat.not_lt.mp fun q => h2 (nI_lt q ha)
    have hbn : b ≤ xs.length := Nat.not_lt.mp fun q => absurd h3 (by
      intro h
      have := nI_lt q hb9
      rw [Int32.lt_iff_toInt_lt] at this
      rw [Int32.le_iff_toInt_le] at h
      omega)
    refine lv_aload_n hx hb dX5_remove_18 rfl (lv_at hl 0 rfl) ?_
    refine g_get X w (i) rfl (by omega) hc0 kc5 0 (by decide) rfl k_RX5_9 rfl dX5_remove_19 ?_
    refine lv_iload_n hx hb dX5_remove_22 rfl (lv_at hl 2 rfl) ?_
    refine lv_aload_n hx hb dX5_remove_23 rfl (lv_at hl 0 rfl) ?_
    refine g_get X w (i) rfl (by omega) hc0 kc5 0 (by decide) rfl k_RX5_9 rfl dX5_remove_24 ?_
    refine lv_iload_n hx hb dX5_remove_27 rfl (lv_at hl 1 rfl) ?_
    refine lv_aload_n hx hb dX5_remove_28 rfl (lv_at hl 0 rfl) ?_
    refine g_get X w (i) rfl (by omega) hc0 kc5 1 (by decide) rfl k_RX5_15 rfl dX5_remove_29 ?_
    refine lv_iload_n hx hb dX5_remove_32 rfl (lv_at hl 2 rfl) ?_
    refine lv_isub hx hb dX5_remove_33 ?_
    refine g_copyI X w hl.1 wo_copy (i + 1) (i + 1) rfl rfl (by omega) (by omega) hc1 hc1 b a (xs.length - b) rfl rfl (pk_sub hbn) (by omega) (by omega) (by omega) (by omega) (by decide) ⟨hd, rm_loc hd (by decide)⟩ dX5_remove_34 (fun H locs w => ?_)
    generalize e4 : va_up cl (i + 1) (.inl (G 0, cap, .inl (va_cpy f f b a (xs.length - b)))) = cl3 at w
    have c5 : cl3 (i) = .inr (5, [.ref (ad (i + 1)), .int (nI xs.length)]) := by rw [← e4, va_up_ne _ _ (by omega)]; exact hc0
    have c6 : cl3 (i + 1) = .inl (G 0, cap, .inl (va_cpy f f b a (xs.length - b))) := by rw [← e4, va_up_self]
    refine lv_aload_n hx hb dX5_remove_37 rfl (lv_at hl 0 rfl) ?_
    refine lv_dup hx hb dX5_remove_38 rfl ?_
    refine g_get X w (i) rfl (by omega) c5 kc5 1 (by decide) rfl k_RX5_15 rfl dX5_remove_39 ?_
    refine lv_iload_n hx hb dX5_remove_42 rfl (lv_at hl 2 rfl) ?_
    refine lv_iload_n hx hb dX5_remove_43 rfl (lv_at hl 1 rfl) ?_
    refine lv_isub hx hb dX5_remove_44 ?_
    refine lv_isub hx hb dX5_remove_45 ?_
    rw [pk_sub hab, pk_sub (show b - a ≤ xs.length by omega)]
    refine g_put X w (i) rfl (by omega) c5 kc5 1 (by decide) rfl k_RX5_15 rfl rfl rfl (Nat.le_of_ble_eq_true rfl) dX5_remove_46 (fun H locs w => ?_)
    have w : Wd D A s H locs (N) ad (va_up cl3 (i) (.inr (5, [.ref (ad (i + 1)), .int (nI (xs.length - (b - a)))]))) := w
    generalize e5 : va_up cl3 (i) (.inr (5, [.ref (ad (i + 1)), .int (nI (xs.length - (b - a)))])) = cl4 at w
    have c7 : cl4 (i) = .inr (5, [.ref (ad (i + 1)), .int (nI (xs.length - (b - a)))]) := by rw [← e5, va_up_self]
    have c8 : cl4 (i + 1) = .inl (G 0, cap, .inl (va_cpy f f b a (xs.length - b))) := by rw [← e5, va_up_ne _ _ (by omega)]; exact c6
    have er : rremL xs (nI a) (nI b) = xs.take a ++ xs.drop b := by rw [rremL, if_neg h1, if_neg h2, if_pos h3, nI_clamp ha, nI_clamp hb9]
    have hlen : (xs.take a ++ xs.drop b).length = xs.length - (b - a) := by rw [List.length_append, List.length_take, List.length_drop]; omega
    refine e_V X hr w ⟨ad, cl4, rfl, ?_, fun _ _ _ => rfl, fun k h0 h1 h2 => ?_⟩ (Nat.zero_le _) (Nat.zero_le _) dX5_remove_49
    · rw [er]
      refine ⟨hN, by rw [hlen]; exact c7, ⟨_, c8, fun z hz => ?_⟩, by rw [hlen]; omega, hcm, hcM⟩
      rw [hlen] at hz
      unfold va_cpy
      by_cases q : a ≤ z ∧ z < a + (xs.length - b)
      · rw [if_pos q, hf _ (by omega), List.getD_eq_getElem?_getD, List.getD_eq_getElem?_getD, List.getElem?_append_right (by rw [List.length_take]; omega), List.length_take, List.getElem?_drop, Nat.min_eq_left (by omega)]
      · rw [if_neg q, hf _ (by omega), List.getD_eq_getElem?_getD, List.getD_eq_getElem?_getD, List.getElem?_append_left (by rw [List.length_take]; omega), List.getElem?_take_of_lt (by omega)]
    · rw [← e5, va_up_ne _ _ h1, ← e4, va_up_ne _ _ h2]
  · exact e_V X hr w ⟨ad, cl, rfl, by rw [(by rw [rremL, if_neg h1, if_neg h2, if_neg h3] : rremL xs x y = xs)]; exact hR0, FrR.rf⟩ (Nat.zero_le _) (Nat.zero_le _) dX5_remove_17
