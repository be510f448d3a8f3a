/-! GROUND RUNS FROM THE START -/
def s00 : SS := σ0 0 (fun _ => 0)
theorem s0_ns (L : Nat) (scr : Nat → Int32) : σ0 L scr = ns L scr s00 := rfl
def KP (L : Nat) (scr : Nat → Int32) : KK := fun σ k s => sN σ = L ∧ sS σ = scr ∧ k ≤ 10000 ∧ s ≤ 1000000
def gPair (f νx νm : Nat) (ax : List Value) : Bool := match am_x f 999 νx 0 (lv_args 0 (.ref 0 :: ax)) [] s00 with
  | some (.inl (some v), σ1, k, s) => (match am_x f 999 νm 0 (lv_args 0 (.ref 246 :: ax)) [] σ1 with
    | some (.inl (some v2), _, k2, s2) => decide (v2 = v) && (decide (k + k2 ≤ 10000) && decide (s + s2 ≤ 1000000))
    | _ => false)
  | _ => false
def gPairT (f νx νm : Nat) (E : String) (ax : List Value) : Bool := match am_x f 998 νx 0 (lv_args 0 (.ref 0 :: ax)) [] s00 with
  | some (.inl (some v), σ1, k, s) => (match am_x f 999 νm 0 (lv_args 0 (.ref 246 :: ax)) [] (outp σ1 v) with
    | some (.inl (some v2), σ2, k2, s2) => decide (v2 = v) && (decide (sI σ2 246 0 = 0) && (decide (sO σ2 0 = v.toInt64) && (decide (k + k2 ≤ 10000) && decide (s + s2 ≤ 1000000))))
    | _ => false)
  | some (.inr E', σ1, k, s) => (match am_x f 999 νm 0 (lv_args 0 (.ref 246 :: ax)) [] σ1 with
    | some (.inl (some _), σ2, k2, s2) => decide (E' = E) && (decide (sI σ2 246 0 = 1) && (decide (k + k2 ≤ 10000) && decide (s + s2 ≤ 1000000)))
    | _ => false)
  | _ => false
theorem run_ns {f d μ pc N k s : Nat} {lo : ALo} {st : List Value} {σ σ' : SS} {S : Nat → Int32} {out : AO} (hμ : ¬ mK μ = 9) (e : am_x f d μ pc lo st σ = some (out, σ', k, s)) : am_x f d μ pc lo st (ns N S σ) = some (out, ns N S σ', k, s) := by
  rw [x_ns f _ _ _ _ _ _ hμ, e]
  rfl
theorem pair_g {f νx νm L : Nat} {ax : List Value} {scr : Nat → Int32} (hx : ¬ mK νx = 9) (hm : ¬ mK νm = 9) (h : gPair f νx νm ax = true) : Pair νx νm ax (σ0 L scr) (KP L scr) := by
  unfold gPair at h
  split at h
  · rename_i v σ1 k s e1
    split at h
    · rename_i v2 σ2 k2 s2 e2
      simp only [Bool.and_eq_true, decide_eq_true_eq] at h
      obtain ⟨rfl, h1, h2⟩ := h
      unfold Pair
      rw [s0_ns]
      refine ev_of_run f _ _ _ _ _ _ _ _ _ _ _ (lva_kn _ _) (run_ns hx e1) ?_
      refine ⟨_, rfl, rfl, rfl, ?_⟩
      refine ev_of_run f _ _ _ _ _ _ _ _ _ _ _ (lva_kn _ _) (run_ns hm e2) ?_
      exact ⟨rfl, rfl, rfl, h1, h2⟩
    · cases h
  · cases h
theorem pairT_g {f νx νm L : Nat} {E : String} {ax : List Value} {scr : Nat → Int32} (hx : ¬ mK νx = 9) (hm : ¬ mK νm = 9) (h : gPairT f νx νm E ax = true) : PairT νx νm E ax (σ0 L scr) (KP L scr) := by
  unfold gPairT at h
  split at h
  · rename_i v σ1 k s e1
    split at h
    · rename_i v2 σ2 k2 s2 e2
      simp only [Bool.and_eq_true, decide_eq_true_eq] at h
      obtain ⟨rfl, h3, h4, h1, h2⟩ := h
      unfold PairT
      rw [s0_ns]
      refine ev_of_run f _ _ _ _ _ _ _ _ _ _ _ (lva_kn _ _) (run_ns hx e1) ?_
      refine ⟨rfl, rfl, Or.inl ⟨_, rfl, ?_⟩⟩
      refine ev_of_run f _ _ _ _ _ _ _ _ _ _ _ (lva_kn _ _) (run_ns hm e2) ?_
      exact ⟨rfl, h3, h4, rfl, rfl, h1, h2⟩
    · cases h
  · rename_i E' σ1 k s e1
    split at h
    · rename_i b σ2 k2 s2 e2
      simp only [Bool.and_eq_true, decide_eq_true_eq] at h
      obtain ⟨rfl, h3, h1, h2⟩ := h
      unfold PairT
      rw [s0_ns]
      refine ev_of_run f _ _ _ _ _ _ _ _ _ _ _ (lva_kn _ _) (run_ns hx e1) ?_
      refine ⟨rfl, rfl, Or.inr ⟨rfl, ?_⟩⟩
      refine ev_of_run f _ _ _ _ _ _ _ _ _ _ _ (lva_kn _ _) (run_ns hm e2) ?_
      exact ⟨⟨_, rfl⟩, h3, rfl, rfl, h1, h2⟩
    · cases h
  · cases h

theorem gq_write : gPair 3000 147 306 [] = true := by decide +kernel
theorem gq_back : gPair 3000 150 312 [] = true := by decide +kernel
theorem gq_add : gPair 3000 148 308 [] = true := by decide +kernel
theorem gq_labelled : gPair 3000 160 323 [] = true := by decide +kernel
theorem gq_tell : gPair 3000 161 324 [] = true := by decide +kernel
theorem gq_hyphens : gPair 3000 162 325 [] = true := by decide +kernel
theorem gq_set : gPair 20000 153 302 [] = true := by decide +kernel
theorem gq_pages : gPairT 3000 154 317 "java/lang/IllegalStateException" [] = true := by decide +kernel
theorem gq_keep : gPairT 3000 164 327 "java/lang/IllegalStateException" [] = true := by decide +kernel
theorem gq_replace_0 : gPairT 3000 149 311 "java/lang/IllegalArgumentException" [.int 0] = true := by decide +kernel
theorem gq_replace_1 : gPairT 3000 149 311 "java/lang/IllegalArgumentException" [.int 1] = true := by decide +kernel
theorem gq_replace_2 : gPairT 3000 149 311 "java/lang/IllegalArgumentException" [.int 2] = true := by decide +kernel
theorem gq_replace_3 : gPairT 3000 149 311 "java/lang/IllegalArgumentException" [.int 3] = true := by decide +kernel
theorem gq_replace_4 : gPairT 3000 149 311 "java/lang/IllegalArgumentException" [.int 4] = true := by decide +kernel
theorem gq_replace_5 : gPairT 3000 149 311 "java/lang/IllegalArgumentException" [.int 5] = true := by decide +kernel
theorem gq_replace_6 : gPairT 3000 149 311 "java/lang/IllegalArgumentException" [.int 6] = true := by decide +kernel
theorem gq_replace_7 : gPairT 3000 149 311 "java/lang/IllegalArgumentException" [.int 7] = true := by decide +kernel
theorem gq_count_0 : gPair 3000 166 333 [.int 0] = true := by decide +kernel
theorem gq_count_1 : gPair 3000 166 333 [.int 1] = true := by decide +kernel
theorem gq_count_2 : gPair 3000 166 333 [.int 2] = true := by decide +kernel
theorem gq_count_3 : gPair 3000 166 333 [.int 3] = true := by decide +kernel
theorem gq_count_4 : gPair 3000 166 333 [.int 4] = true := by decide +kernel
theorem gq_count_5 : gPair 3000 166 333 [.int 5] = true := by decide +kernel
theorem gq_count_6 : gPair 3000 166 333 [.int 6] = true := by decide +kernel
theorem gq_count_7 : gPair 3000 166 333 [.int 7] = true := by decide +kernel
theorem gq_count_8 : gPair 3000 166 333 [.int 8] = true := by decide +kernel
theorem gq_count_9 : gPair 3000 166 333 [.int 9] = true := by decide +kernel
theorem gq_count_10 : gPair 3000 166 333 [.int 10] = true := by decide +kernel
theorem gq_count_11 : gPair 3000 166 333 [.int 11] = true := by decide +kernel
theorem gq_count_12 : gPair 3000 166 333 [.int 12] = true := by decide +kernel
theorem gq_count_13 : gPair 3000 166 333 [.int 13] = true := by decide +kernel
theorem gq_count_14 : gPair 3000 166 333 [.int 14] = true := by decide +kernel
theorem gq_count_15 : gPair 3000 166 333 [.int 15] = true := by decide +kernel
theorem gq_count_16 : gPair 3000 166 333 [.int 16] = true := by decide +kernel
theorem gq_count_17 : gPair 3000 166 333 [.int 17] = true := by decide +kernel
theorem gq_count_18 : gPair 3000 166 333 [.int 18] = true := by decide +kernel
theorem gq_count_19 : gPair 3000 166 333 [.int 19] = true := by decide +kernel
