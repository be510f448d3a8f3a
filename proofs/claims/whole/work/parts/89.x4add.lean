/-! ADD: class and reference -/
theorem pour_at {L : List Int} : ∀ (r p : List Int), L = p ++ r → pourM (rgt L) r.length (p.length : Int) = r
  | [], _, _ => rfl
  | x :: r, p, he => by
    show rgt L (p.length : Int) :: pourM (rgt L) r.length ((p.length : Int) + 1) = x :: r
    rw [rgt_at he, ← len_sn (x := x), pour_at r (p ++ [x]) (nxt_at he)]
theorem pour_all {L : List Int} : pourM (rgt L) ((L.length : Int) - 0).toNat 0 = L := by
  rw [show ((L.length : Int) - 0).toNat = L.length by omega]
  exact pour_at L [] rfl
theorem T_add.s {σ : MS} {Q : MQ9} {t c : Nat} (h : PaR σ t c) (hM : (mX σ 3).length ≤ 4000) (hT : (mX σ 1).length ≤ 4000) (he : 0 ≤ mV σ 22 1 ∧ mV σ 22 1 ≤ 400000)
    (h1 : 4000 < (mX σ 3).length + (mX σ 1).length → Q (.inl (some (-1))) (wX σ 1 []))
    (h2 : (mX σ 3).length + (mX σ 1).length ≤ 4000 → 400000 < mV σ 22 1 + (mX σ 3).length → Q (.inl (some (-4))) (wX σ 1 []))
    (h3 : (mX σ 3).length + (mX σ 1).length ≤ 4000 → mV σ 22 1 + (mX σ 3).length ≤ 400000 → Q (.inl (some (lnR (mX σ 3 ++ mX σ 1)))) (wX (wX (tre (wV σ 22 1 (mV σ 22 1 + (mX σ 3).length)) t c) 3 (mX σ 3 ++ mX σ 1)) 1 [])) : T_add σ Q := by
  obtain ⟨ht, hc, q6, q5, -, -⟩ := h
  refine T_add.i ⟨by unfold Rg; omega, fun a => ?_, fun a => h1 (by omega)⟩
  refine Purse_pay.i ⟨by unfold Rg; omega, by unfold Rg; omega, fun b => ⟨by unfold Rg; omega, ⟨fun _ => ?_, fun d => absurd d (by decide)⟩⟩, fun b => ⟨fun d => absurd rfl d, fun _ => h2 (by omega) (by omega)⟩⟩
  have hq := h3 (by omega) (by omega)
  generalize es : wV σ 22 1 (mV σ 22 1 + ((mX σ 3).length : Int)) = σ1 at hq ⊢
  have eX : mX σ1 = mX σ := by rw [← es]; rfl
  have e6 : mV σ1 0 6 = (t : Int) := by rw [← es, wV_ne (Or.inl (by decide))]; exact q6
  have e5 : mV σ1 0 5 = (c : Int) := by rw [← es, wV_ne (Or.inl (by decide))]; exact q5
  refine T_remember.s ht e6 (by rw [e5]; omega) (by rw [eX]; omega) ?_
  rw [e5]
  have x3 : mX (tre σ1 t c) 3 = mX σ 3 := by rw [tre_X (by omega), eX]
  have x1 : mX (tre σ1 t c) 1 = mX σ 1 := by rw [tre_X (by omega), eX]
  show (mX (tre σ1 t c) 3).length + (((mX (tre σ1 t c) 1).length : Int) - 0).toNat ≤ 4096 ∧ T_lineCount (wX (wX (tre σ1 t c) 3 (mX (tre σ1 t c) 3 ++ pourM (rgt (mX (tre σ1 t c) 1)) (((mX (tre σ1 t c) 1).length : Int) - 0).toNat 0)) 1 []) _
  rw [x3, x1, pour_all]
  refine ⟨by omega, T_lineCount.s ?_⟩
  have e9 : mX (wX (wX (tre σ1 t c) 3 (mX σ 3 ++ mX σ 1)) 1 []) 3 = mX σ 3 ++ mX σ 1 := by rw [wX_ne (by decide), wX_self]
  rw [e9]
  exact hq
theorem R_add_49.s {σ : MS} {Q : MQ9} {M T : List Int} (h7 : mV σ 246 7 = (M.length : Int)) (hM : hol σ 248 M) (hT : hol σ 247 T) (hl : M.length + T.length ≤ 4000) (hb : smB T) (hq : Q (.inl (some (lnR (M ++ T)))) (wV (wF σ 248 M.length T) 246 7 ((M.length : Int) + T.length))) : R_add_49 (T.length : Int) 0 σ Q := by
  refine loopF (z := 248) (a := M.length) (n := T.length) (f := fun i => T.getD i 0) (P := fun i s => R_add_49 (T.length : Int) i s Q) (fun i hi h => ?_) ?_
  · have e1 : mV (wF σ 248 M.length (ofF (fun i => T.getD i 0) i)) 246 7 = (M.length : Int) := by rw [wF_ne (Or.inl (by decide)), h7]
    have e2 : mV (wF σ 248 M.length (ofF (fun i => T.getD i 0) i)) 247 i = T.getD i 0 := by rw [wF_ne (Or.inl (by decide))]; exact hT i hi
    refine R_add_49.i ⟨Rg.n (by omega), fun h9 => absurd h9 (by omega), fun _ => ⟨by omega, by omega, by rw [e1]; omega, by rw [e1]; omega, ?_⟩⟩
    rw [e1, show ((i : Int)).toNat = i from rfl, e2, hb.at hi, show ((M.length : Int) + (i : Int)).toNat = M.length + i by omega]
    exact h
  · rw [ofF_list]
    have e1 : mV (wF σ 248 M.length T) 246 7 = (M.length : Int) := by rw [wF_ne (Or.inl (by decide)), h7]
    refine R_add_49.i ⟨Rg.n (by omega), fun _ => ⟨by rw [e1]; unfold Rg; omega, ?_⟩, fun h9 => absurd h9 (by omega)⟩
    rw [e1]
    have hlen : (M ++ T).length = M.length + T.length := List.length_append
    refine R_linesOf.s (L := M ++ T) (by rw [wV_self, hlen]; omega) (fun i hi => ?_) (by rw [hlen]; exact hl) hq
    rw [wV_ne (Or.inl (by decide))]
    by_cases e : i < M.length
    · rw [wF_ne (Or.inr (Or.inl e)), hM i e, getD_l e]
    · obtain ⟨j, rfl⟩ : ∃ j, i = M.length + j := ⟨i - M.length, by omega⟩
      rw [wF_at (by rw [hlen] at hi; omega), List.getD_eq_getElem?_getD, List.getD_eq_getElem?_getD, List.getElem?_append_right (by omega), Nat.add_sub_cancel_left]
theorem R_add.s {σ : MS} {Q : MQ9} {M T : List Int} (h8 : 0 ≤ mV σ 246 8 ∧ mV σ 246 8 ≤ 6) (h7 : mV σ 246 7 = (M.length : Int)) (hM : hol σ 248 M) (hl : M.length ≤ 4000) (hb : smB M) (h6 : mV σ 246 6 = (T.length : Int)) (hT : hol σ 247 T) (hlT : T.length ≤ 4000) (hbT : smB T) (he : 0 ≤ mV σ 246 33 ∧ mV σ 246 33 ≤ 400000)
    (h1 : 4000 < M.length + T.length → Q (.inl (some (-1))) (wV (wV σ 246 0 0) 246 6 0))
    (h2 : M.length + T.length ≤ 4000 → 400000 < mV σ 246 33 + M.length → Q (.inl (some (-4))) (wV (wV σ 246 0 0) 246 6 0))
    (h3 : M.length + T.length ≤ 4000 → mV σ 246 33 + M.length ≤ 400000 → Q (.inl (some (lnR (M ++ T)))) (wV (wF (rre (wV (wV (wV σ 246 0 0) 246 6 0) 246 33 (mV σ 246 33 + M.length)) M) 248 M.length T) 246 7 ((M.length : Int) + T.length))) : R_add σ Q := by
  refine R_add.i ⟨by rw [h7, h6]; unfold Rg; omega, fun a => ?_, fun a => h1 (by rw [h7, h6] at a; omega)⟩
  rw [h7, h6] at a
  have e33 : mV (wV (wV σ 246 0 0) 246 6 0) 246 33 = mV σ 246 33 := by rw [wV_ne (Or.inr (by decide)), wV_ne (Or.inr (by decide))]
  rw [h7, h6]
  refine R_spendsEver.i ?_
  rw [e33]
  refine ⟨by unfold Rg; omega, fun b => ⟨by unfold Rg; omega, ⟨fun _ => ?_, fun d => absurd d (by decide)⟩⟩, fun b => ⟨fun d => absurd rfl d, fun _ => h2 (by omega) (by omega)⟩⟩
  have hq := h3 (by omega) (by omega)
  generalize es : wV (wV (wV σ 246 0 0) 246 6 0) 246 33 (mV σ 246 33 + (M.length : Int)) = σ1 at hq ⊢
  have eV : ∀ z k, z ≠ 246 → mV σ1 z k = mV σ z k := fun z k hz => by rw [← es, wV_ne (Or.inl hz), wV_ne (Or.inl hz), wV_ne (Or.inl hz)]
  have e8 : mV σ1 246 8 = mV σ 246 8 := by rw [← es, wV_ne (Or.inr (by decide)), wV_ne (Or.inr (by decide)), wV_ne (Or.inr (by decide))]
  have e7 : mV σ1 246 7 = (M.length : Int) := by rw [← es, wV_ne (Or.inr (by decide)), wV_ne (Or.inr (by decide)), wV_ne (Or.inr (by decide))]; exact h7
  refine R_remembers.s (M := M) (by rw [e8]; exact h8) e7 (fun i hi => by rw [eV _ _ (by decide)]; exact hM i hi) hl hb ?_
  refine R_add_49.s (σ := rre σ1 M) (M := M) (T := T) ?_ (fun i hi => ?_) (fun i hi => ?_) (by omega) hbT hq
  · rw [rre_V (by decide) (by decide) (Or.inr (by decide))]; exact e7
  · rw [rre_V (by decide) (by decide) (Or.inl (by decide)), eV _ _ (by decide)]; exact hM i hi
  · rw [rre_V (by decide) (by decide) (Or.inl (by decide)), eV _ _ (by decide)]; exact hT i hi
