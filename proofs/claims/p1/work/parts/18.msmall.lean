abbrev cX12_letter : ByteArray := prog_14_method_131_code
def yX12_letter : MethodName := ⟨RX12, "letter", "(I)I"⟩
theorem wcX12_letter : Cond.code yX12_letter cX12_letter 2 (some .int) ∈ tb := tb_12 (i := 77) rfl rfl
theorem wnX12_letter : Cond.instanceMethod yX12_letter ∈ tb := tb_12 (i := 75) (by decide +kernel) rfl
theorem wlX12_letter : Cond.selects RX12 yX12_letter yX12_letter ∈ tb := tb_12 (i := 76) (by decide +kernel) rfl
theorem YX12_letter : Yv yX12_letter cX12_letter 2 (some .int) 1 := ⟨wcX12_letter, wlX12_letter, wnX12_letter, wi_12, by decide +kernel, by decide +kernel, by decide +kernel⟩
theorem dX12_letter_0 : decode cX12_letter 0 = .ok (.aload_n 0, 1) := by decide +kernel
theorem dX12_letter_1 : decode cX12_letter 1 = .ok (.iconst 0, 1) := by decide +kernel
theorem dX12_letter_2 : decode cX12_letter 2 = .ok (.putfield 349, 3) := by decide +kernel
theorem dX12_letter_5 : decode cX12_letter 5 = .ok (.iload_n 1, 1) := by decide +kernel
theorem dX12_letter_6 : decode cX12_letter 6 = .ok (.ifCond .lt 20, 3) := by decide +kernel
theorem dX12_letter_9 : decode cX12_letter 9 = .ok (.iload_n 1, 1) := by decide +kernel
theorem dX12_letter_10 : decode cX12_letter 10 = .ok (.aload_n 0, 1) := by decide +kernel
theorem dX12_letter_11 : decode cX12_letter 11 = .ok (.getfield 868, 3) := by decide +kernel
theorem dX12_letter_14 : decode cX12_letter 14 = .ok (.if_icmp .ge 12, 3) := by decide +kernel
theorem dX12_letter_17 : decode cX12_letter 17 = .ok (.aload_n 0, 1) := by decide +kernel
theorem dX12_letter_18 : decode cX12_letter 18 = .ok (.getfield 13, 3) := by decide +kernel
theorem dX12_letter_21 : decode cX12_letter 21 = .ok (.iload_n 1, 1) := by decide +kernel
theorem dX12_letter_22 : decode cX12_letter 22 = .ok (.baload, 1) := by decide +kernel
theorem dX12_letter_23 : decode cX12_letter 23 = .ok (.goto 4, 3) := by decide +kernel
theorem dX12_letter_26 : decode cX12_letter 26 = .ok (.iconst (-1), 1) := by decide +kernel
theorem dX12_letter_27 : decode cX12_letter 27 = .ok (.ireturn, 1) := by decide +kernel
theorem k_RX12_349 : Cond.fieldLink RX12 349 RX12 "thrown" "I" ∈ tb := tb_8 (i := 24) (by decide +kernel) rfl
theorem k_RX12_868 : Cond.fieldLink RX12 868 RX12 "size" "I" ∈ tb := tb_8 (i := 31) (by decide +kernel) rfl
abbrev cX12_answer : ByteArray := prog_14_method_143_code
def yX12_answer : MethodName := ⟨RX12, "answer", "(I)I"⟩
theorem wcX12_answer : Cond.code yX12_answer cX12_answer 2 (some .int) ∈ tb := tb_12 (i := 125) rfl rfl
theorem wnX12_answer : Cond.instanceMethod yX12_answer ∈ tb := tb_12 (i := 123) (by decide +kernel) rfl
theorem wlX12_answer : Cond.selects RX12 yX12_answer yX12_answer ∈ tb := tb_12 (i := 124) (by decide +kernel) rfl
theorem YX12_answer : Yv yX12_answer cX12_answer 2 (some .int) 1 := ⟨wcX12_answer, wlX12_answer, wnX12_answer, wi_12, by decide +kernel, by decide +kernel, by decide +kernel⟩
theorem dX12_answer_0 : decode cX12_answer 0 = .ok (.aload_n 0, 1) := by decide +kernel
theorem dX12_answer_1 : decode cX12_answer 1 = .ok (.iconst 0, 1) := by decide +kernel
theorem dX12_answer_2 : decode cX12_answer 2 = .ok (.putfield 349, 3) := by decide +kernel
theorem dX12_answer_5 : decode cX12_answer 5 = .ok (.iload_n 1, 1) := by decide +kernel
theorem dX12_answer_6 : decode cX12_answer 6 = .ok (.ifCond .lt 20, 3) := by decide +kernel
theorem dX12_answer_9 : decode cX12_answer 9 = .ok (.iload_n 1, 1) := by decide +kernel
theorem dX12_answer_10 : decode cX12_answer 10 = .ok (.aload_n 0, 1) := by decide +kernel
theorem dX12_answer_11 : decode cX12_answer 11 = .ok (.getfield 928, 3) := by decide +kernel
theorem dX12_answer_14 : decode cX12_answer 14 = .ok (.if_icmp .ge 12, 3) := by decide +kernel
theorem dX12_answer_17 : decode cX12_answer 17 = .ok (.aload_n 0, 1) := by decide +kernel
theorem dX12_answer_18 : decode cX12_answer 18 = .ok (.getfield 295, 3) := by decide +kernel
theorem dX12_answer_21 : decode cX12_answer 21 = .ok (.iload_n 1, 1) := by decide +kernel
theorem dX12_answer_22 : decode cX12_answer 22 = .ok (.baload, 1) := by decide +kernel
theorem dX12_answer_23 : decode cX12_answer 23 = .ok (.goto 4, 3) := by decide +kernel
theorem dX12_answer_26 : decode cX12_answer 26 = .ok (.iconst (-1), 1) := by decide +kernel
theorem dX12_answer_27 : decode cX12_answer 27 = .ok (.ireturn, 1) := by decide +kernel
theorem k_RX12_928 : Cond.fieldLink RX12 928 RX12 "answered" "I" ∈ tb := tb_8 (i := 164) (by decide +kernel) rfl
abbrev cX12_thrown : ByteArray := prog_14_method_2_code
def yX12_thrown : MethodName := ⟨RX12, "thrown", "()I"⟩
theorem wcX12_thrown : Cond.code yX12_thrown cX12_thrown 1 (some .int) ∈ tb := tb_10 (i := 40) rfl rfl
theorem wnX12_thrown : Cond.instanceMethod yX12_thrown ∈ tb := tb_10 (i := 38) (by decide +kernel) rfl
theorem wlX12_thrown : Cond.selects RX12 yX12_thrown yX12_thrown ∈ tb := tb_10 (i := 39) (by decide +kernel) rfl
theorem YX12_thrown : Yv yX12_thrown cX12_thrown 1 (some .int) 0 := ⟨wcX12_thrown, wlX12_thrown, wnX12_thrown, wi_12, by decide +kernel, by decide +kernel, by decide +kernel⟩
theorem dX12_thrown_0 : decode cX12_thrown 0 = .ok (.aload_n 0, 1) := by decide +kernel
theorem dX12_thrown_1 : decode cX12_thrown 1 = .ok (.getfield 349, 3) := by decide +kernel
theorem dX12_thrown_4 : decode cX12_thrown 4 = .ok (.ireturn, 1) := by decide +kernel
abbrev cX12_pages : ByteArray := prog_14_method_134_code
def yX12_pages : MethodName := ⟨RX12, "pages", "()I"⟩
theorem wcX12_pages : Cond.code yX12_pages cX12_pages 1 (some .int) ∈ tb := tb_12 (i := 81) rfl rfl
theorem wnX12_pages : Cond.instanceMethod yX12_pages ∈ tb := tb_12 (i := 79) (by decide +kernel) rfl
theorem wlX12_pages : Cond.selects RX12 yX12_pages yX12_pages ∈ tb := tb_12 (i := 80) (by decide +kernel) rfl
theorem YX12_pages : Yv yX12_pages cX12_pages 1 (some .int) 0 := ⟨wcX12_pages, wlX12_pages, wnX12_pages, wi_12, by decide +kernel, by decide +kernel, by decide +kernel⟩
theorem dX12_pages_0 : decode cX12_pages 0 = .ok (.aload_n 0, 1) := by decide +kernel
theorem dX12_pages_1 : decode cX12_pages 1 = .ok (.aload_n 0, 1) := by decide +kernel
theorem dX12_pages_2 : decode cX12_pages 2 = .ok (.getfield 874, 3) := by decide +kernel
theorem dX12_pages_5 : decode cX12_pages 5 = .ok (.ifCond .eq 7, 3) := by decide +kernel
theorem dX12_pages_8 : decode cX12_pages 8 = .ok (.iconst 0, 1) := by decide +kernel
theorem dX12_pages_9 : decode cX12_pages 9 = .ok (.goto 4, 3) := by decide +kernel
theorem dX12_pages_12 : decode cX12_pages 12 = .ok (.iconst 1, 1) := by decide +kernel
theorem dX12_pages_13 : decode cX12_pages 13 = .ok (.putfield 349, 3) := by decide +kernel
theorem dX12_pages_16 : decode cX12_pages 16 = .ok (.aload_n 0, 1) := by decide +kernel
theorem dX12_pages_17 : decode cX12_pages 17 = .ok (.getfield 874, 3) := by decide +kernel
theorem dX12_pages_20 : decode cX12_pages 20 = .ok (.ifCond .eq 10, 3) := by decide +kernel
theorem dX12_pages_23 : decode cX12_pages 23 = .ok (.aload_n 0, 1) := by decide +kernel
theorem dX12_pages_24 : decode cX12_pages 24 = .ok (.getfield 835, 3) := by decide +kernel
theorem dX12_pages_27 : decode cX12_pages 27 = .ok (.goto 4, 3) := by decide +kernel
theorem dX12_pages_30 : decode cX12_pages 30 = .ok (.iconst 0, 1) := by decide +kernel
theorem dX12_pages_31 : decode cX12_pages 31 = .ok (.ireturn, 1) := by decide +kernel
theorem k_RX12_874 : Cond.fieldLink RX12 874 RX12 "proof" "Z" ∈ tb := tb_8 (i := 137) (by decide +kernel) rfl
theorem k_RX12_835 : Cond.fieldLink RX12 835 RX12 "pages" "I" ∈ tb := tb_8 (i := 146) (by decide +kernel) rfl
/-! the reference's small methods -/
def mget (f : Nat → Int32) (n : Nat) (k : Int32) : Int32 := if k < 0 then -1 else if nI n ≤ k then -1 else f k.toNatClampNeg
set_option maxHeartbeats 4000000 in
set_option maxRecDepth 100000 in
theorem ct_X12_letter (l : Launch) (D : va_G) (G : Nat → ClassId) (t : Nat → Nat) (N : Nat) (ad : Nat → Nat) (cl : Nat → va_E) (o : Nat) (v : Nat → Int32) (lw : Int64) (a : Nat → Nat → Int32) (M : MW G N ad cl o v lw a) (x : Int32) (n : Nat) (hn : v 7 = nI n) (hn4 : n ≤ 4000) (d : Nat) : CtI l yX12_letter cX12_letter 2 (rmD d 0 0) D G t (N, ad, cl) [.ref (ad o), .int x] (fun r u => r = mget (a 1) n x ∧ ∃ cl', u = (N, ad, cl') ∧ (∀ z, z < o ∨ o + 105 ≤ z → cl' z = cl z) ∧ MW G N ad cl' o (va_up v 0 0) lw a) := by
  refine ct_I (own := RX12) (by decide +kernel) rfl (Nat.le_of_ble_eq_true rfl) rfl ?_
  intro p e s m args below meth c A ls X hr hl w
  obtain ⟨hx, hb, hml, hown, hts, -⟩ := id X
  have hl : lv_has ls 2 [(0, .ref (ad (o))), (1, .int (x))] := hl
  have hf : ∀ z, z < o ∨ o + 105 ≤ z → cl z = cl z := fun _ _ => rfl
  refine lv_aload_n hx hb dX12_letter_0 rfl (lv_at hl 0 rfl) ?_
  refine lv_iconst (v := 0) hx hb dX12_letter_1 (by decide) ?_
  refine m_puti X w M rfl 0 (by decide) rfl (by decide) rfl k_RX12_349 rfl rfl rfl dX12_letter_2 (fun H locs cl1 w M fz => ?_)
  have hf : ∀ z, z < o ∨ o + 105 ≤ z → cl1 z = cl z := fun z hz => (fz z (by omega)).trans (hf z hz)
  refine lv_iload_n hx hb dX12_letter_5 rfl (lv_at hl 1 rfl) ?_
  refine lv_if_lt (tgt := 26) hx hb dX12_letter_6 (by decide) (fun h2 => ?_) (fun h2 => ?_)
  · refine lv_iconst (v := (-1)) hx hb dX12_letter_26 (by decide) ?_
    exact e_I X hr w ⟨by rw [mget, if_pos h2], cl1, rfl, hf, M⟩ (Nat.zero_le _) (Nat.zero_le _) dX12_letter_27
  · refine lv_iload_n hx hb dX12_letter_9 rfl (lv_at hl 1 rfl) ?_
    refine lv_aload_n hx hb dX12_letter_10 rfl (lv_at hl 0 rfl) ?_
    refine m_geti X w M rfl 7 (by decide) rfl (by decide) rfl k_RX12_868 (x := nI n) hn dX12_letter_11 ?_
    refine lv_icmp_ge (tgt := 26) hx hb dX12_letter_14 (by decide) (fun h3 => ?_) (fun h3 => ?_)
    · refine lv_iconst (v := (-1)) hx hb dX12_letter_26 (by decide) ?_
      exact e_I X hr w ⟨by rw [mget, if_neg h2, if_pos h3], cl1, rfl, hf, M⟩ (Nat.zero_le _) (Nat.zero_le _) dX12_letter_27
    · obtain ⟨i, hi, ei, -, -, -⟩ := pk_mu h2 h3 (by omega)
      refine lv_aload_n hx hb dX12_letter_17 rfl (lv_at hl 0 rfl) ?_
      refine m_geta X w M rfl 2 (by decide) (j := 1) rfl rfl k_RX12_13 dX12_letter_18 ?_
      refine lv_iload_n hx hb dX12_letter_21 rfl (lv_at hl 1 rfl) ?_
      refine m_bld X w M 1 (by decide) rfl (x := x) (by rw [ei]; exact vp_in_nI (show i < 4000 by omega) (by decide)) (y := a 1 (x).toNatClampNeg) (rfl) dX12_letter_22 ?_
      refine lv_goto (tgt := 27) hx hb dX12_letter_23 (by decide) ?_
      exact e_I X hr w ⟨by rw [mget, if_neg h2, if_neg h3], cl1, rfl, hf, M⟩ (Nat.zero_le _) (Nat.zero_le _) dX12_letter_27
set_option maxHeartbeats 4000000 in
set_option maxRecDepth 100000 in
theorem ct_X12_answer (l : Launch) (D : va_G) (G : Nat → ClassId) (t : Nat → Nat) (N : Nat) (ad : Nat → Nat) (cl : Nat → va_E) (o : Nat) (v : Nat → Int32) (lw : Int64) (a : Nat → Nat → Int32) (M : MW G N ad cl o v lw a) (x : Int32) (n : Nat) (hn : v 141 = nI n) (hn4 : n ≤ 70000) (d : Nat) : CtI l yX12_answer cX12_answer 2 (rmD d 0 0) D G t (N, ad, cl) [.ref (ad o), .int x] (fun r u => r = mget (a 89) n x ∧ ∃ cl', u = (N, ad, cl') ∧ (∀ z, z < o ∨ o + 105 ≤ z → cl' z = cl z) ∧ MW G N ad cl' o (va_up v 0 0) lw a) := by
  refine ct_I (own := RX12) (by decide +kernel) rfl (Nat.le_of_ble_eq_true rfl) rfl ?_
  intro p e s m args below meth c A ls X hr hl w
  obtain ⟨hx, hb, hml, hown, hts, -⟩ := id X
  have hl : lv_has ls 2 [(0, .ref (ad (o))), (1, .int (x))] := hl
  have hf : ∀ z, z < o ∨ o + 105 ≤ z → cl z = cl z := fun _ _ => rfl
  refine lv_aload_n hx hb dX12_answer_0 rfl (lv_at hl 0 rfl) ?_
  refine lv_iconst (v := 0) hx hb dX12_answer_1 (by decide) ?_
  refine m_puti X w M rfl 0 (by decide) rfl (by decide) rfl k_RX12_349 rfl rfl rfl dX12_answer_2 (fun H locs cl1 w M fz => ?_)
  have hf : ∀ z, z < o ∨ o + 105 ≤ z → cl1 z = cl z := fun z hz => (fz z (by omega)).trans (hf z hz)
  refine lv_iload_n hx hb dX12_answer_5 rfl (lv_at hl 1 rfl) ?_
  refine lv_if_lt (tgt := 26) hx hb dX12_answer_6 (by decide) (fun h2 => ?_) (fun h2 => ?_)
  · refine lv_iconst (v := (-1)) hx hb dX12_answer_26 (by decide) ?_
    exact e_I X hr w ⟨by rw [mget, if_pos h2], cl1, rfl, hf, M⟩ (Nat.zero_le _) (Nat.zero_le _) dX12_answer_27
  · refine lv_iload_n hx hb dX12_answer_9 rfl (lv_at hl 1 rfl) ?_
    refine lv_aload_n hx hb dX12_answer_10 rfl (lv_at hl 0 rfl) ?_
    refine m_geti X w M rfl 141 (by decide) rfl (by decide) rfl k_RX12_928 (x := nI n) hn dX12_answer_11 ?_
    refine lv_icmp_ge (tgt := 26) hx hb dX12_answer_14 (by decide) (fun h3 => ?_) (fun h3 => ?_)
    · refine lv_iconst (v := (-1)) hx hb dX12_answer_26 (by decide) ?_
      exact e_I X hr w ⟨by rw [mget, if_neg h2, if_pos h3], cl1, rfl, hf, M⟩ (Nat.zero_le _) (Nat.zero_le _) dX12_answer_27
    · obtain ⟨i, hi, ei, -, -, -⟩ := pk_mu h2 h3 (by omega)
      refine lv_aload_n hx hb dX12_answer_17 rfl (lv_at hl 0 rfl) ?_
      refine m_geta X w M rfl 140 (by decide) (j := 89) rfl rfl k_RX12_295 dX12_answer_18 ?_
      refine lv_iload_n hx hb dX12_answer_21 rfl (lv_at hl 1 rfl) ?_
      refine m_bld X w M 89 (by decide) rfl (x := x) (by rw [ei]; exact vp_in_nI (show i < 70000 by omega) (by decide)) (y := a 89 (x).toNatClampNeg) (rfl) dX12_answer_22 ?_
      refine lv_goto (tgt := 27) hx hb dX12_answer_23 (by decide) ?_
      exact e_I X hr w ⟨by rw [mget, if_neg h2, if_neg h3], cl1, rfl, hf, M⟩ (Nat.zero_le _) (Nat.zero_le _) dX12_answer_27
set_option maxHeartbeats 4000000 in
set_option maxRecDepth 100000 in
theorem ct_X12_thrown (l : Launch) (D : va_G) (G : Nat → ClassId) (t : Nat → Nat) (N : Nat) (ad : Nat → Nat) (cl : Nat → va_E) (o : Nat) (v : Nat → Int32) (lw : Int64) (a : Nat → Nat → Int32) (M : MW G N ad cl o v lw a) (d : Nat) : CtI l yX12_thrown cX12_thrown 1 (rmD d 0 0) D G t (N, ad, cl) [.ref (ad o)] (fun r u => r = v 0 ∧ u = (N, ad, cl)) := by
  refine ct_I (own := RX12) (by decide +kernel) rfl (Nat.le_of_ble_eq_true rfl) rfl ?_
  intro p e s m args below meth c A ls X hr hl w
  obtain ⟨hx, hb, hml, hown, hts, -⟩ := id X
  have hl : lv_has ls 1 [(0, .ref (ad (o)))] := hl
  have hf : ∀ z, z < o ∨ o + 105 ≤ z → cl z = cl z := fun _ _ => rfl
  refine lv_aload_n hx hb dX12_thrown_0 rfl (lv_at hl 0 rfl) ?_
  refine m_geti X w M rfl 0 (by decide) rfl (by decide) rfl k_RX12_349 (x := v 0) rfl dX12_thrown_1 ?_
  exact e_I X hr w ⟨rfl, rfl⟩ (Nat.zero_le _) (Nat.zero_le _) dX12_thrown_4
set_option maxHeartbeats 4000000 in
set_option maxRecDepth 100000 in
theorem ct_X12_pages (l : Launch) (D : va_G) (G : Nat → ClassId) (t : Nat → Nat) (N : Nat) (ad : Nat → Nat) (cl : Nat → va_E) (o : Nat) (v : Nat → Int32) (lw : Int64) (a : Nat → Nat → Int32) (M : MW G N ad cl o v lw a) (d : Nat) : CtI l yX12_pages cX12_pages 1 (rmD d 0 0) D G t (N, ad, cl) [.ref (ad o)] (fun r u => r = (if v 114 = 0 then 0 else v 123) ∧ ∃ cl', u = (N, ad, cl') ∧ (∀ z, z < o ∨ o + 105 ≤ z → cl' z = cl z) ∧ MW G N ad cl' o (va_up v 0 (if v 114 = 0 then 1 else 0)) lw a) := by
  refine ct_I (own := RX12) (by decide +kernel) rfl (Nat.le_of_ble_eq_true rfl) rfl ?_
  intro p e s m args below meth c A ls X hr hl w
  obtain ⟨hx, hb, hml, hown, hts, -⟩ := id X
  have hl : lv_has ls 1 [(0, .ref (ad (o)))] := hl
  have hf : ∀ z, z < o ∨ o + 105 ≤ z → cl z = cl z := fun _ _ => rfl
  refine lv_aload_n hx hb dX12_pages_0 rfl (lv_at hl 0 rfl) ?_
  refine lv_aload_n hx hb dX12_pages_1 rfl (lv_at hl 0 rfl) ?_
  refine m_geti X w M rfl 114 (by decide) rfl (by decide) rfl k_RX12_874 (x := v 114) rfl dX12_pages_2 ?_
  refine lv_if_eq (tgt := 12) hx hb dX12_pages_5 (by decide) (fun h1 => ?_) (fun h1 => ?_)
  · refine lv_iconst (v := 1) hx hb dX12_pages_12 (by decide) ?_
    refine m_puti X w M rfl 0 (by decide) rfl (by decide) rfl k_RX12_349 rfl rfl rfl dX12_pages_13 (fun H locs cl2 w M fz => ?_)
    have hf : ∀ z, z < o ∨ o + 105 ≤ z → cl2 z = cl z := fun z hz => (fz z (by omega)).trans (hf z hz)
    refine lv_aload_n hx hb dX12_pages_16 rfl (lv_at hl 0 rfl) ?_
    refine m_geti X w M rfl 114 (by decide) rfl (by decide) rfl k_RX12_874 (x := (va_up (v) 0 (1)) 114) rfl dX12_pages_17 ?_
    refine lv_if_eq (tgt := 30) hx hb dX12_pages_20 (by decide) (fun h3 => ?_) (fun h3 => absurd h1 h3)
    refine lv_iconst (v := 0) hx hb dX12_pages_30 (by decide) ?_
    exact e_I X hr w ⟨(if_pos h1).symm, cl2, rfl, hf, by rw [if_pos h1]; exact M⟩ (Nat.zero_le _) (Nat.zero_le _) dX12_pages_31
  · refine lv_iconst (v := 0) hx hb dX12_pages_8 (by decide) ?_
    refine lv_goto (tgt := 13) hx hb dX12_pages_9 (by decide) ?_
    refine m_puti X w M rfl 0 (by decide) rfl (by decide) rfl k_RX12_349 rfl rfl rfl dX12_pages_13 (fun H locs cl4 w M fz => ?_)
    have hf : ∀ z, z < o ∨ o + 105 ≤ z → cl4 z = cl z := fun z hz => (fz z (by omega)).trans (hf z hz)
    refine lv_aload_n hx hb dX12_pages_16 rfl (lv_at hl 0 rfl) ?_
    refine m_geti X w M rfl 114 (by decide) rfl (by decide) rfl k_RX12_874 (x := (va_up (v) 0 (0)) 114) rfl dX12_pages_17 ?_
    refine lv_if_eq (tgt := 30) hx hb dX12_pages_20 (by decide) (fun h5 => absurd h5 h1) (fun h5 => ?_)
    refine lv_aload_n hx hb dX12_pages_23 rfl (lv_at hl 0 rfl) ?_
    refine m_geti X w M rfl 123 (by decide) rfl (by decide) rfl k_RX12_835 (x := (va_up (v) 0 (0)) 123) rfl dX12_pages_24 ?_
    refine lv_goto (tgt := 31) hx hb dX12_pages_27 (by decide) ?_
    exact e_I X hr w ⟨(if_neg h1).symm, cl4, rfl, hf, by rw [if_neg h1]; exact M⟩ (Nat.zero_le _) (Nat.zero_le _) dX12_pages_31
