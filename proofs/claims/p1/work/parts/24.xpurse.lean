/-! Purse, Rules.told, Setter.pageRoom -/
def toldV (f : Nat → Int32) (k : Int32) : Int32 := if k < 0 then 0 else if 13 ≤ k then 0 else f k.toNatClampNeg
abbrev cX4_pay : ByteArray := prog_6_method_3_code
def yX4_pay : MethodName := ⟨RX4, "pay", "(I)Z"⟩
theorem wcX4_pay : Cond.code yX4_pay cX4_pay 2 (some .boolean) ∈ tb := tb_3 (i := 203) rfl rfl
theorem wnX4_pay : Cond.instanceMethod yX4_pay ∈ tb := tb_3 (i := 201) (by decide +kernel) rfl
theorem wlX4_pay : Cond.selects RX4 yX4_pay yX4_pay ∈ tb := tb_3 (i := 202) (by decide +kernel) rfl
theorem YX4_pay : Yv yX4_pay cX4_pay 2 (some .boolean) 1 := ⟨wcX4_pay, wlX4_pay, wnX4_pay, wi_4, by decide +kernel, by decide +kernel, by decide +kernel⟩
theorem dX4_pay_0 : decode cX4_pay 0 = .ok (.iload_n 1, 1) := by decide +kernel
theorem dX4_pay_1 : decode cX4_pay 1 = .ok (.ldc 18, 2) := by decide +kernel
theorem dX4_pay_3 : decode cX4_pay 3 = .ok (.aload_n 0, 1) := by decide +kernel
theorem dX4_pay_4 : decode cX4_pay 4 = .ok (.getfield 19, 3) := by decide +kernel
theorem dX4_pay_7 : decode cX4_pay 7 = .ok (.isub, 1) := by decide +kernel
theorem dX4_pay_8 : decode cX4_pay 8 = .ok (.if_icmp .le 5, 3) := by decide +kernel
theorem dX4_pay_11 : decode cX4_pay 11 = .ok (.iconst 0, 1) := by decide +kernel
theorem dX4_pay_12 : decode cX4_pay 12 = .ok (.ireturn, 1) := by decide +kernel
theorem dX4_pay_13 : decode cX4_pay 13 = .ok (.aload_n 0, 1) := by decide +kernel
theorem dX4_pay_14 : decode cX4_pay 14 = .ok (.dup, 1) := by decide +kernel
theorem dX4_pay_15 : decode cX4_pay 15 = .ok (.getfield 19, 3) := by decide +kernel
theorem dX4_pay_18 : decode cX4_pay 18 = .ok (.iload_n 1, 1) := by decide +kernel
theorem dX4_pay_19 : decode cX4_pay 19 = .ok (.iadd, 1) := by decide +kernel
theorem dX4_pay_20 : decode cX4_pay 20 = .ok (.putfield 19, 3) := by decide +kernel
theorem dX4_pay_23 : decode cX4_pay 23 = .ok (.iconst 1, 1) := by decide +kernel
theorem dX4_pay_24 : decode cX4_pay 24 = .ok (.ireturn, 1) := by decide +kernel
theorem k_RX4_18 : Cond.constant RX4 18 (400000) ∈ tb := tb_3 (i := 204) (by decide +kernel) rfl
theorem k_RX4_19 : Cond.fieldLink RX4 19 RX4 "ever" "I" ∈ tb := tb_1 (i := 67) (by decide +kernel) rfl
abbrev cX4_spend : ByteArray := prog_6_method_4_code
def yX4_spend : MethodName := ⟨RX4, "spend", "(I)V"⟩
theorem wcX4_spend : Cond.code yX4_spend cX4_spend 2 none ∈ tb := tb_4 (i := 51) rfl rfl
theorem wnX4_spend : Cond.instanceMethod yX4_spend ∈ tb := tb_4 (i := 49) (by decide +kernel) rfl
theorem wlX4_spend : Cond.selects RX4 yX4_spend yX4_spend ∈ tb := tb_4 (i := 50) (by decide +kernel) rfl
theorem YX4_spend : Yv yX4_spend cX4_spend 2 none 1 := ⟨wcX4_spend, wlX4_spend, wnX4_spend, wi_4, by decide +kernel, by decide +kernel, by decide +kernel⟩
theorem dX4_spend_0 : decode cX4_spend 0 = .ok (.iload_n 1, 1) := by decide +kernel
theorem dX4_spend_1 : decode cX4_spend 1 = .ok (.ldc 22, 2) := by decide +kernel
theorem dX4_spend_3 : decode cX4_spend 3 = .ok (.aload_n 0, 1) := by decide +kernel
theorem dX4_spend_4 : decode cX4_spend 4 = .ok (.getfield 9, 3) := by decide +kernel
theorem dX4_spend_7 : decode cX4_spend 7 = .ok (.isub, 1) := by decide +kernel
theorem dX4_spend_8 : decode cX4_spend 8 = .ok (.if_icmp .gt 14, 3) := by decide +kernel
theorem dX4_spend_11 : decode cX4_spend 11 = .ok (.iload_n 1, 1) := by decide +kernel
theorem dX4_spend_12 : decode cX4_spend 12 = .ok (.ldc 18, 2) := by decide +kernel
theorem dX4_spend_14 : decode cX4_spend 14 = .ok (.aload_n 0, 1) := by decide +kernel
theorem dX4_spend_15 : decode cX4_spend 15 = .ok (.getfield 19, 3) := by decide +kernel
theorem dX4_spend_18 : decode cX4_spend 18 = .ok (.isub, 1) := by decide +kernel
theorem dX4_spend_19 : decode cX4_spend 19 = .ok (.if_icmp .le 17, 3) := by decide +kernel
theorem dX4_spend_22 : decode cX4_spend 22 = .ok (.aload_n 0, 1) := by decide +kernel
theorem dX4_spend_23 : decode cX4_spend 23 = .ok (.bipush 8, 2) := by decide +kernel
theorem dX4_spend_25 : decode cX4_spend 25 = .ok (.putfield 15, 3) := by decide +kernel
theorem dX4_spend_28 : decode cX4_spend 28 = .ok (.new 23, 3) := by decide +kernel
theorem dX4_spend_31 : decode cX4_spend 31 = .ok (.dup, 1) := by decide +kernel
theorem dX4_spend_32 : decode cX4_spend 32 = .ok (.invokespecial 25, 3) := by decide +kernel
theorem dX4_spend_35 : decode cX4_spend 35 = .ok (.athrow, 1) := by decide +kernel
theorem dX4_spend_36 : decode cX4_spend 36 = .ok (.aload_n 0, 1) := by decide +kernel
theorem dX4_spend_37 : decode cX4_spend 37 = .ok (.dup, 1) := by decide +kernel
theorem dX4_spend_38 : decode cX4_spend 38 = .ok (.getfield 9, 3) := by decide +kernel
theorem dX4_spend_41 : decode cX4_spend 41 = .ok (.iload_n 1, 1) := by decide +kernel
theorem dX4_spend_42 : decode cX4_spend 42 = .ok (.iadd, 1) := by decide +kernel
theorem dX4_spend_43 : decode cX4_spend 43 = .ok (.putfield 9, 3) := by decide +kernel
theorem dX4_spend_46 : decode cX4_spend 46 = .ok (.aload_n 0, 1) := by decide +kernel
theorem dX4_spend_47 : decode cX4_spend 47 = .ok (.dup, 1) := by decide +kernel
theorem dX4_spend_48 : decode cX4_spend 48 = .ok (.getfield 19, 3) := by decide +kernel
theorem dX4_spend_51 : decode cX4_spend 51 = .ok (.iload_n 1, 1) := by decide +kernel
theorem dX4_spend_52 : decode cX4_spend 52 = .ok (.iadd, 1) := by decide +kernel
theorem dX4_spend_53 : decode cX4_spend 53 = .ok (.putfield 19, 3) := by decide +kernel
theorem dX4_spend_56 : decode cX4_spend 56 = .ok (.return_, 1) := by decide +kernel
theorem k_RX4_22 : Cond.constant RX4 22 (60000) ∈ tb := tb_4 (i := 52) (by decide +kernel) rfl
abbrev cX4_fail : ByteArray := prog_6_method_5_code
def yX4_fail : MethodName := ⟨RX4, "fail", "(I)V"⟩
theorem wcX4_fail : Cond.code yX4_fail cX4_fail 2 none ∈ tb := tb_4 (i := 183) rfl rfl
theorem wnX4_fail : Cond.instanceMethod yX4_fail ∈ tb := tb_4 (i := 181) (by decide +kernel) rfl
theorem wlX4_fail : Cond.selects RX4 yX4_fail yX4_fail ∈ tb := tb_4 (i := 182) (by decide +kernel) rfl
theorem YX4_fail : Yv yX4_fail cX4_fail 2 none 1 := ⟨wcX4_fail, wlX4_fail, wnX4_fail, wi_4, by decide +kernel, by decide +kernel, by decide +kernel⟩
theorem dX4_fail_0 : decode cX4_fail 0 = .ok (.aload_n 0, 1) := by decide +kernel
theorem dX4_fail_1 : decode cX4_fail 1 = .ok (.iload_n 1, 1) := by decide +kernel
theorem dX4_fail_2 : decode cX4_fail 2 = .ok (.putfield 15, 3) := by decide +kernel
theorem dX4_fail_5 : decode cX4_fail 5 = .ok (.new 23, 3) := by decide +kernel
theorem dX4_fail_8 : decode cX4_fail 8 = .ok (.dup, 1) := by decide +kernel
theorem dX4_fail_9 : decode cX4_fail 9 = .ok (.invokespecial 25, 3) := by decide +kernel
theorem dX4_fail_12 : decode cX4_fail 12 = .ok (.athrow, 1) := by decide +kernel
abbrev cX6_told : ByteArray := prog_8_method_3_code
def yX6_told : MethodName := ⟨RX6, "told", "(I)I"⟩
theorem wcX6_told : Cond.code yX6_told cX6_told 2 (some .int) ∈ tb := tb_5 (i := 13) rfl rfl
theorem wnX6_told : Cond.instanceMethod yX6_told ∈ tb := tb_5 (i := 11) (by decide +kernel) rfl
theorem wlX6_told : Cond.selects RX6 yX6_told yX6_told ∈ tb := tb_5 (i := 12) (by decide +kernel) rfl
theorem YX6_told : Yv yX6_told cX6_told 2 (some .int) 1 := ⟨wcX6_told, wlX6_told, wnX6_told, wi_6, by decide +kernel, by decide +kernel, by decide +kernel⟩
theorem dX6_told_0 : decode cX6_told 0 = .ok (.iload_n 1, 1) := by decide +kernel
theorem dX6_told_1 : decode cX6_told 1 = .ok (.ifCond .lt 18, 3) := by decide +kernel
theorem dX6_told_4 : decode cX6_told 4 = .ok (.iload_n 1, 1) := by decide +kernel
theorem dX6_told_5 : decode cX6_told 5 = .ok (.bipush 13, 2) := by decide +kernel
theorem dX6_told_7 : decode cX6_told 7 = .ok (.if_icmp .ge 12, 3) := by decide +kernel
theorem dX6_told_10 : decode cX6_told 10 = .ok (.aload_n 0, 1) := by decide +kernel
theorem dX6_told_11 : decode cX6_told 11 = .ok (.getfield 15, 3) := by decide +kernel
theorem dX6_told_14 : decode cX6_told 14 = .ok (.iload_n 1, 1) := by decide +kernel
theorem dX6_told_15 : decode cX6_told 15 = .ok (.iaload, 1) := by decide +kernel
theorem dX6_told_16 : decode cX6_told 16 = .ok (.goto 4, 3) := by decide +kernel
theorem dX6_told_19 : decode cX6_told 19 = .ok (.iconst 0, 1) := by decide +kernel
theorem dX6_told_20 : decode cX6_told 20 = .ok (.ireturn, 1) := by decide +kernel
set_option maxHeartbeats 4000000 in
set_option maxRecDepth 100000 in
theorem ct_X4_pay (l : Launch) (D : va_G) (G : Nat → ClassId) (t : Nat → Nat) (N : Nat) (ad : Nat → Nat) (cl : Nat → va_E) (c : Nat → Nat) (xs : Nat → List Int32) (v : Nat → Nat → Int32) (g : Nat → Nat → Int32) (nb : Nat → Nat) (Wx : XW G N ad cl c xs v g nb) (k : Int32) (d : Nat) : CtZ l yX4_pay cX4_pay 2 (rmD d 0 0) D G t (N, ad, cl) [.ref (ad 22), .int k] (fun r u => (400000 - v 22 1 < k ∧ r = 0 ∧ u = (N, ad, cl)) ∨ (¬ 400000 - v 22 1 < k ∧ r = 1 ∧ ∃ cl', u = (N, ad, cl') ∧ XW G N ad cl' c xs (vset v 22 1 (v 22 1 + k)) g nb ∧ FrX N ad cl ad cl')) := by
  refine ct_Z (own := RX4) (by decide +kernel) rfl (Nat.le_of_ble_eq_true rfl) rfl ?_
  intro p e s m args below meth cd A ls X hr hl w
  obtain ⟨hx, hb, hml, hown, hts, -⟩ := id X
  have hl : lv_has ls 2 [(0, .ref (ad 22)), (1, .int (k))] := hl
  have F : FrX N ad cl ad cl := FrX.rf
  refine lv_iload_n hx hb dX4_pay_0 rfl (lv_at hl 1 rfl) ?_
  refine lv_ldc hx hb hown (hts _ k_RX4_18) dX4_pay_1 ?_
  refine lv_aload_n hx hb dX4_pay_3 rfl (lv_at hl 0 rfl) ?_
  refine g_get X w 22 rfl (by have := Wx.1; omega) (Wx.o xm_22) kc4 1 (by decide) rfl k_RX4_19 (v := .int (v 22 1)) rfl dX4_pay_4 ?_
  refine lv_isub hx hb dX4_pay_7 ?_
  refine lv_icmp_le (tgt := 13) hx hb dX4_pay_8 (by decide) (fun h1 => ?_) (fun h1 => ?_)
  · refine lv_aload_n hx hb dX4_pay_13 rfl (lv_at hl 0 rfl) ?_
    refine lv_dup hx hb dX4_pay_14 rfl ?_
    refine g_get X w 22 rfl (by have := Wx.1; omega) (Wx.o xm_22) kc4 1 (by decide) rfl k_RX4_19 (v := .int (v 22 1)) rfl dX4_pay_15 ?_
    refine lv_iload_n hx hb dX4_pay_18 rfl (lv_at hl 1 rfl) ?_
    refine lv_iadd hx hb dX4_pay_19 ?_
    refine x_puti X w Wx xm_22 (by decide) rfl kc4 1 (by decide) rfl k_RX4_19 rfl (x := (v 22 1) + k) rfl rfl rfl dX4_pay_20 (fun H locs cl2 w Wx F9 => ?_)
    have F := F.tr F9
    refine lv_iconst (v := 1) hx hb dX4_pay_23 (by decide) ?_
    exact e_Z X hr b_1 w (Or.inr ⟨Int32.not_lt.mpr h1, rfl, cl2, rfl, Wx, F⟩) (Nat.zero_le _) (Nat.zero_le _) dX4_pay_24
  · refine lv_iconst (v := 0) hx hb dX4_pay_11 (by decide) ?_
    exact e_Z X hr b_0 w (Or.inl ⟨Int32.not_le.mp h1, rfl, rfl⟩) (Nat.zero_le _) (Nat.zero_le _) dX4_pay_12
set_option maxHeartbeats 4000000 in
set_option maxRecDepth 100000 in
theorem ct_X4_spend (l : Launch) (D : va_G) (G : Nat → ClassId) (t : Nat → Nat) (N : Nat) (ad : Nat → Nat) (cl : Nat → va_E) (c : Nat → Nat) (xs : Nat → List Int32) (v : Nat → Nat → Int32) (g : Nat → Nat → Int32) (nb : Nat → Nat) (Wx : XW G N ad cl c xs v g nb) (k : Int32) (hst : l.stackTraces = false) (d : Nat) (hd : 6 ≤ d) : CtVX l yX4_spend cX4_spend 2 (rmD d 1 6) D G t (N, ad, cl) [.ref (ad 22), .int k] (fun u => ¬ 60000 - v 22 0 < k ∧ ¬ 400000 - v 22 1 < k ∧ ∃ cl', u = (N, ad, cl') ∧ XW G N ad cl' c xs (vset (vset v 22 0 (v 22 0 + k)) 22 1 (v 22 1 + k)) g nb ∧ FrX N ad cl ad cl') (fun E u => E = "java/lang/IllegalStateException" ∧ (60000 - v 22 0 < k ∨ 400000 - v 22 1 < k) ∧ ∃ cl', u = (N, ad, cl') ∧ XW G N ad cl' c xs (vset v 22 2 8) g nb ∧ FrX N ad cl ad cl') := by
  refine ct_VX (own := RX4) (by decide +kernel) rfl (Nat.le_of_ble_eq_true rfl) rfl ?_
  intro p e s m args below meth cd A ls X hr hno hl w
  obtain ⟨hx, hb, hml, hown, hts, -⟩ := id X
  have F : FrX N ad cl ad cl := FrX.rf
  have hl : lv_has ls 2 [(0, .ref (ad 22)), (1, .int (k))] := hl
  refine lv_iload_n hx hb dX4_spend_0 rfl (lv_at hl 1 rfl) ?_
  refine lv_ldc hx hb hown (hts _ k_RX4_22) dX4_spend_1 ?_
  refine lv_aload_n hx hb dX4_spend_3 rfl (lv_at hl 0 rfl) ?_
  refine g_get X w 22 rfl (by have := Wx.1; omega) (Wx.o xm_22) kc4 0 (by decide) rfl k_RX4_9 (v := .int (v 22 0)) rfl dX4_spend_4 ?_
  refine lv_isub hx hb dX4_spend_7 ?_
  refine lv_icmp_gt (tgt := 22) hx hb dX4_spend_8 (by decide) (fun h1 => ?_) (fun h1 => ?_)
  · refine lv_aload_n hx hb dX4_spend_22 rfl (lv_at hl 0 rfl) ?_
    refine lv_bipush (v := 8) hx hb dX4_spend_23 (by decide) ?_
    refine x_puti X w Wx xm_22 (by decide) rfl kc4 2 (by decide) rfl k_RX4_15 rfl (x := 8) rfl rfl rfl dX4_spend_25 (fun H locs cl2 w Wx F9 => ?_)
    have F := F.tr F9
    exact x_throw (mc := 1) (ms := 6) hst X hl.1 hno w ⟨rfl, Or.inl h1, cl2, rfl, Wx, F⟩ (by decide +kernel) tk_4_23 ti_ISE th_4_25 tx_4_25 to_4_25 dX4_spend_28 dX4_spend_31 dX4_spend_32 dX4_spend_35 (by decide) ⟨hd, Nat.le_trans (by decide) (Nat.mul_le_mul_left 60 hd)⟩ (Nat.le_refl _) (Nat.le_refl _) (Nat.le_refl _) (Nat.le_refl _)
  · refine lv_iload_n hx hb dX4_spend_11 rfl (lv_at hl 1 rfl) ?_
    refine lv_ldc hx hb hown (hts _ k_RX4_18) dX4_spend_12 ?_
    refine lv_aload_n hx hb dX4_spend_14 rfl (lv_at hl 0 rfl) ?_
    refine g_get X w 22 rfl (by have := Wx.1; omega) (Wx.o xm_22) kc4 1 (by decide) rfl k_RX4_19 (v := .int (v 22 1)) rfl dX4_spend_15 ?_
    refine lv_isub hx hb dX4_spend_18 ?_
    refine lv_icmp_le (tgt := 36) hx hb dX4_spend_19 (by decide) (fun h3 => ?_) (fun h3 => ?_)
    · refine lv_aload_n hx hb dX4_spend_36 rfl (lv_at hl 0 rfl) ?_
      refine lv_dup hx hb dX4_spend_37 rfl ?_
      refine g_get X w 22 rfl (by have := Wx.1; omega) (Wx.o xm_22) kc4 0 (by decide) rfl k_RX4_9 (v := .int (v 22 0)) rfl dX4_spend_38 ?_
      refine lv_iload_n hx hb dX4_spend_41 rfl (lv_at hl 1 rfl) ?_
      refine lv_iadd hx hb dX4_spend_42 ?_
      refine x_puti X w Wx xm_22 (by decide) rfl kc4 0 (by decide) rfl k_RX4_9 rfl (x := (v 22 0) + k) rfl rfl rfl dX4_spend_43 (fun H locs cl4 w Wx F9 => ?_)
      have F := F.tr F9
      refine lv_aload_n hx hb dX4_spend_46 rfl (lv_at hl 0 rfl) ?_
      refine lv_dup hx hb dX4_spend_47 rfl ?_
      refine g_get X w 22 rfl (by have := Wx.1; omega) (Wx.o xm_22) kc4 1 (by decide) rfl k_RX4_19 (v := .int (v 22 1)) rfl dX4_spend_48 ?_
      refine lv_iload_n hx hb dX4_spend_51 rfl (lv_at hl 1 rfl) ?_
      refine lv_iadd hx hb dX4_spend_52 ?_
      refine x_puti X w Wx xm_22 (by decide) rfl kc4 1 (by decide) rfl k_RX4_19 rfl (x := (v 22 1) + k) rfl rfl rfl dX4_spend_53 (fun H locs cl5 w Wx F9 => ?_)
      have F := F.tr F9
      exact vx_ret (e_V X hr w ⟨h1, Int32.not_lt.mpr h3, cl5, rfl, Wx, F⟩ (Nat.zero_le _) (Nat.zero_le _) dX4_spend_56)
    · refine lv_aload_n hx hb dX4_spend_22 rfl (lv_at hl 0 rfl) ?_
      refine lv_bipush (v := 8) hx hb dX4_spend_23 (by decide) ?_
      refine x_puti X w Wx xm_22 (by decide) rfl kc4 2 (by decide) rfl k_RX4_15 rfl (x := 8) rfl rfl rfl dX4_spend_25 (fun H locs cl6 w Wx F9 => ?_)
      have F := F.tr F9
      exact x_throw (mc := 1) (ms := 6) hst X hl.1 hno w ⟨rfl, Or.inr (Int32.not_le.mp h3), cl6, rfl, Wx, F⟩ (by decide +kernel) tk_4_23 ti_ISE th_4_25 tx_4_25 to_4_25 dX4_spend_28 dX4_spend_31 dX4_spend_32 dX4_spend_35 (by decide) ⟨hd, Nat.le_trans (by decide) (Nat.mul_le_mul_left 60 hd)⟩ (Nat.le_refl _) (Nat.le_refl _) (Nat.le_refl _) (Nat.le_refl _)
set_option maxHeartbeats 4000000 in
set_option maxRecDepth 100000 in
theorem ct_X4_fail (l : Launch) (D : va_G) (G : Nat → ClassId) (t : Nat → Nat) (N : Nat) (ad : Nat → Nat) (cl : Nat → va_E) (c : Nat → Nat) (xs : Nat → List Int32) (v : Nat → Nat → Int32) (g : Nat → Nat → Int32) (nb : Nat → Nat) (Wx : XW G N ad cl c xs v g nb) (k : Int32) (hst : l.stackTraces = false) (d : Nat) (hd : 6 ≤ d) : CtVX l yX4_fail cX4_fail 2 (rmD d 1 6) D G t (N, ad, cl) [.ref (ad 22), .int k] (fun _ => False) (fun E u => E = "java/lang/IllegalStateException" ∧ ∃ cl', u = (N, ad, cl') ∧ XW G N ad cl' c xs (vset v 22 2 k) g nb ∧ FrX N ad cl ad cl') := by
  refine ct_VX (own := RX4) (by decide +kernel) rfl (Nat.le_of_ble_eq_true rfl) rfl ?_
  intro p e s m args below meth cd A ls X hr hno hl w
  obtain ⟨hx, hb, hml, hown, hts, -⟩ := id X
  have F : FrX N ad cl ad cl := FrX.rf
  have hl : lv_has ls 2 [(0, .ref (ad 22)), (1, .int (k))] := hl
  refine lv_aload_n hx hb dX4_fail_0 rfl (lv_at hl 0 rfl) ?_
  refine lv_iload_n hx hb dX4_fail_1 rfl (lv_at hl 1 rfl) ?_
  refine x_puti X w Wx xm_22 (by decide) rfl kc4 2 (by decide) rfl k_RX4_15 rfl (x := k) rfl rfl rfl dX4_fail_2 (fun H locs cl1 w Wx F9 => ?_)
  have F := F.tr F9
  exact x_throw (mc := 1) (ms := 6) hst X hl.1 hno w ⟨rfl, cl1, rfl, Wx, F⟩ (by decide +kernel) tk_4_23 ti_ISE th_4_25 tx_4_25 to_4_25 dX4_fail_5 dX4_fail_8 dX4_fail_9 dX4_fail_12 (by decide) ⟨hd, Nat.le_trans (by decide) (Nat.mul_le_mul_left 60 hd)⟩ (Nat.le_refl _) (Nat.le_refl _) (Nat.le_refl _) (Nat.le_refl _)
set_option maxHeartbeats 4000000 in
set_option maxRecDepth 100000 in
theorem ct_X6_told (l : Launch) (D : va_G) (G : Nat → ClassId) (t : Nat → Nat) (N : Nat) (ad : Nat → Nat) (cl : Nat → va_E) (c : Nat → Nat) (xs : Nat → List Int32) (v : Nat → Nat → Int32) (g : Nat → Nat → Int32) (nb : Nat → Nat) (Wx : XW G N ad cl c xs v g nb) (k : Int32) (d : Nat) : CtI l yX6_told cX6_told 2 (rmD d 0 0) D G t (N, ad, cl) [.ref (ad 23), .int k] (fun r u => r = toldV (g 24) k ∧ u = (N, ad, cl)) := by
  refine ct_I (own := RX6) (by decide +kernel) rfl (Nat.le_of_ble_eq_true rfl) rfl ?_
  intro p e s m args below meth cd A ls X hr hl w
  obtain ⟨hx, hb, hml, hown, hts, -⟩ := id X
  have hl : lv_has ls 2 [(0, .ref (ad 23)), (1, .int (k))] := hl
  refine lv_iload_n hx hb dX6_told_0 rfl (lv_at hl 1 rfl) ?_
  refine lv_if_lt (tgt := 19) hx hb dX6_told_1 (by decide) (fun h1 => ?_) (fun h1 => ?_)
  · refine lv_iconst (v := 0) hx hb dX6_told_19 (by decide) ?_
    exact e_I X hr w ⟨by rw [toldV, if_pos h1], rfl⟩ (Nat.zero_le _) (Nat.zero_le _) dX6_told_20
  · refine lv_iload_n hx hb dX6_told_4 rfl (lv_at hl 1 rfl) ?_
    refine lv_bipush (v := 13) hx hb dX6_told_5 (by decide) ?_
    refine lv_icmp_ge (tgt := 19) hx hb dX6_told_7 (by decide) (fun h2 => ?_) (fun h2 => ?_)
    · refine lv_iconst (v := 0) hx hb dX6_told_19 (by decide) ?_
      exact e_I X hr w ⟨by rw [toldV, if_neg h1, if_pos h2], rfl⟩ (Nat.zero_le _) (Nat.zero_le _) dX6_told_20
    · obtain ⟨j, hj, ej, -, -, -⟩ := pk_mu (L := 13) h1 h2 (by decide)
      refine lv_aload_n hx hb dX6_told_10 rfl (lv_at hl 0 rfl) ?_
      refine g_get X w 23 rfl (by have := Wx.1; omega) (Wx.o xm_23) kc6 1 (by decide) rfl k_RX6_15 (v := .ref (ad 24)) rfl dX6_told_11 ?_
      refine lv_iload_n hx hb dX6_told_14 rfl (lv_at hl 1 rfl) ?_
      refine g_iald X w 24 rfl (by have := Wx.1; omega) (Wx.a xa_24) (x := k) (by rw [ej]; exact vp_in_nI hj (by decide)) dX6_told_15 ?_
      refine lv_goto (tgt := 20) hx hb dX6_told_16 (by decide) ?_
      exact e_I X hr w ⟨by rw [toldV, if_neg h1, if_neg h2], rfl⟩ (Nat.zero_le _) (Nat.zero_le _) dX6_told_20
