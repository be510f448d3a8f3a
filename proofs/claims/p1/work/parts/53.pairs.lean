/-! PAIRS OF CALLS -/
theorem pair_ret {νx νm : Nat} {ax : List Value} {σ σ1 σ2 : SS} {K : KK} {v : Int32} (hx : Ev 999 νx 0 (lv_args 0 (.ref 0 :: ax)) [] σ (Ret (some v) σ1 0 0)) (hm : Ev 999 νm 0 (lv_args 0 (.ref 246 :: ax)) [] σ1 (Ret (some v) σ2 0 0)) (hN : sN σ1 = sN σ) (hS : sS σ1 = sS σ) (hK : K σ2 0 0) : Pair νx νm ax σ K := by
  refine Ev.mono hx (fun o s k n h => ?_)
  obtain ⟨rfl, rfl, rfl, rfl⟩ := h
  refine ⟨v, rfl, hN, hS, Ev.mono hm (fun o s k n h => ?_)⟩
  obtain ⟨rfl, rfl, rfl, rfl⟩ := h
  exact ⟨rfl, hK⟩
theorem pairT_thr {νx νm : Nat} {E : String} {ax : List Value} {σ σ1 σ2 : SS} {K : KK} {b : Int32} (hx : Ev 998 νx 0 (lv_args 0 (.ref 0 :: ax)) [] σ (Thr E σ1 1 6)) (hm : Ev 999 νm 0 (lv_args 0 (.ref 246 :: ax)) [] σ1 (Ret (some b) σ2 0 0)) (hN : sN σ1 = sN σ) (hS : sS σ1 = sS σ) (ht : sI σ2 246 0 = 1) (hK : K σ2 1 6) : PairT νx νm E ax σ K := by
  refine Ev.mono hx (fun o s k n h => ?_)
  obtain ⟨rfl, rfl, rfl, rfl⟩ := h
  refine ⟨hN, hS, Or.inr ⟨rfl, Ev.mono hm (fun o s k n h => ?_)⟩⟩
  obtain ⟨rfl, rfl, rfl, rfl⟩ := h
  exact ⟨⟨b, rfl⟩, ht, hK⟩
/-- a row of the class, an array of the reference with its counter -/
def RA (N c a : Nat) (σ : SS) (T : List Int32) : Prop := T.length ≤ N ∧ sI σ 246 c = nI T.length ∧ ∀ j, j < T.length → sI σ a j = T.getD j 0
theorem RA.in {N c a : Nat} {σ : SS} {T : List Int32} (h : RA N c a σ T) (hN : N < 2 ^ 31) {x : Int32} (h0 : ¬ x < 0) (h1 : ¬ sI σ 246 c ≤ x) : am_in x N = true := by
  obtain ⟨j, hj, rfl⟩ := nI_of h0
  rw [h.2.1] at h1
  have := h.1
  exact am_in_nI (Nat.lt_of_lt_of_le (Nat.lt_of_not_le (fun z => h1 (nI_le z hj))) h.1) hN
theorem RA.get {N c a : Nat} {σ : SS} {T : List Int32} (h : RA N c a σ T) (hN : N < 2 ^ 31) (x : Int32) : (if x < 0 then -1 else if sI σ 246 c ≤ x then -1 else sI σ a x.toNatClampNeg) = rget T x := by
  unfold rget
  by_cases h0 : x < 0
  · rw [if_pos h0, if_pos h0]
  · rw [if_neg h0, if_neg h0, h.2.1]
    by_cases h1 : nI T.length ≤ x
    · rw [if_pos h1, if_pos h1]
    · rw [if_neg h1, if_neg h1]
      obtain ⟨j, hj, rfl⟩ := nI_of h0
      rw [nI_clamp hj]
      exact h.2.2 j (Nat.lt_of_not_le (fun z => h1 (nI_le z hj)))
theorem pair_letter {σ : SS} {x : Int32} {K : KK} (h : RA 4000 7 248 σ (sX σ 3)) (hK : K (ip σ 246 0 0) 0 0) : Pair 152 314 [.int x] σ K := by
  refine pair_ret (sp_X11_letter σ x (by decide)) (?_) rfl rfl hK
  rw [← h.get (by decide) x]
  exact sp_X12_letter σ x (fun h0 h1 => h.in (by decide) h0 h1)
theorem pair_answer {σ : SS} {x : Int32} {K : KK} (h : RA 70000 141 336 σ (sX σ 5)) (hK : K (ip σ 246 0 0) 0 0) : Pair 163 326 [.int x] σ K := by
  refine pair_ret (sp_X11_answer σ x (by decide)) (?_) rfl rfl hK
  rw [← h.get (by decide) x]
  exact sp_X12_answer σ x (fun h0 h1 => h.in (by decide) h0 h1)
theorem nop_lines {σ : SS} {a1 : Int32} {K : KK} (hx : sI σ 212 0 = 0) (hm : sI σ 246 114 = 0) (hK : K (ip σ 246 0 1) 1 6) : PairT 155 318 "java/lang/IllegalStateException" [.int a1] σ K := pairT_thr (np_X11_lines hx (by decide)) (nm_X12_lines hm (by decide)) rfl rfl rfl hK
theorem nop_length {σ : SS} {a1 a2 : Int32} {K : KK} (hx : sI σ 212 0 = 0) (hm : sI σ 246 114 = 0) (hK : K (ip σ 246 0 1) 1 6) : PairT 156 319 "java/lang/IllegalStateException" [.int a1, .int a2] σ K := pairT_thr (np_X11_length hx (by decide)) (nm_X12_length hm (by decide)) rfl rfl rfl hK
theorem nop_sign {σ : SS} {a1 a2 a3 : Int32} {K : KK} (hx : sI σ 212 0 = 0) (hm : sI σ 246 114 = 0) (hK : K (ip σ 246 0 1) 1 6) : PairT 157 320 "java/lang/IllegalStateException" [.int a1, .int a2, .int a3] σ K := pairT_thr (np_X11_sign hx (by decide)) (nm_X12_sign hm (by decide)) rfl rfl rfl hK
theorem nop_style {σ : SS} {a1 a2 a3 : Int32} {K : KK} (hx : sI σ 212 0 = 0) (hm : sI σ 246 114 = 0) (hK : K (ip σ 246 0 1) 1 6) : PairT 158 321 "java/lang/IllegalStateException" [.int a1, .int a2, .int a3] σ K := pairT_thr (np_X11_style hx (by decide)) (nm_X12_style hm (by decide)) rfl rfl rfl hK
theorem nop_origin {σ : SS} {a1 a2 : Int32} {K : KK} (hx : sI σ 212 0 = 0) (hm : sI σ 246 114 = 0) (hK : K (ip σ 246 0 1) 1 6) : PairT 159 322 "java/lang/IllegalStateException" [.int a1, .int a2] σ K := pairT_thr (np_X11_origin hx (by decide)) (nm_X12_origin hm (by decide)) rfl rfl rfl hK
theorem nop_changed {σ : SS} {a1 : Int32} {K : KK} (hx : sI σ 212 0 = 0) (hm : sI σ 246 114 = 0) (hK : K (ip σ 246 0 1) 1 6) : PairT 165 332 "java/lang/IllegalStateException" [.int a1] σ K := pairT_thr (np_X11_changed hx (by decide)) (nm_X12_changed hm) rfl rfl rfl hK
theorem out_replace {σ : SS} {a1 : Int32} {K : KK} (h : a1 < 0 ∨ ¬ a1 ≤ 7) (hK : K (ip (ip (ip (uX σ 1 (sC σ 1) []) 246 0 0) 246 6 0) 246 0 1) 1 6) : PairT 149 311 "java/lang/IllegalArgumentException" [.int a1] σ K := pairT_thr (no_X11_replace h (by decide)) (no_X12_replace h) rfl rfl rfl hK
theorem out_count {σ : SS} {a1 : Int32} {K : KK} (h : a1 < 0 ∨ ¬ a1 ≤ 19) (hK : K (ip σ 246 0 0) 0 0) : Pair 166 333 [.int a1] σ K := by
  have ht : a1.toInt < 0 ∨ 19 < a1.toInt := by
    rcases h with h | h
    · left; rw [Int32.lt_iff_toInt_lt] at h; exact h
    · right; rw [Int32.le_iff_toInt_le] at h; exact Int.lt_of_not_ge h
  exact pair_ret (no_X11_count h ht) (no_X12_count h ht) rfl rfl hK
theorem emp_find {σ : SS} {a1 : Int32} {K : KK} (h : sX σ 1 = []) (hm : sI σ 246 6 = 0) (hK : K (ip (ip (uX σ 1 (sC σ 1) []) 246 0 0) 246 6 0) 0 0) : Pair 151 313 [.int a1] σ K := pair_ret (ne_X11_find h (by decide)) (ne_X12_find hm) rfl rfl hK
theorem le_cases {x : Int32} (n : Nat) (hn : n < 2 ^ 31) : (x < 0 ∨ ¬ x ≤ nI n) ∨ ∃ j : Nat, j ≤ n ∧ x = nI j := by
  by_cases h0 : x < 0
  · exact Or.inl (Or.inl h0)
  · by_cases h1 : x ≤ nI n
    · obtain ⟨j, hj, rfl⟩ := nI_of h0
      exact Or.inr ⟨j, (nI_leI hj hn).mp h1, rfl⟩
    · exact Or.inl (Or.inr h1)
