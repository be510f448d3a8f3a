/-! ADD: both answer alike, and agree again -/
theorem smB.app {L M : List Int} (h : smB L) (h' : smB M) : smB (L ++ M) := fun x hx => by
  rcases List.mem_append.mp hx with hx | hx
  · exact h x hx
  · exact h' x hx
theorem hol_app {σ : MS} {z : Nat} {M T : List Int} (hM : hol σ z M) : hol (wF σ z M.length T) z (M ++ T) := fun i hi => by
  have hlen : (M ++ T).length = M.length + T.length := List.length_append
  by_cases e : i < M.length
  · rw [wF_ne (Or.inr (Or.inl e)), hM i e, getD_l e]
  · obtain ⟨j, rfl⟩ : ∃ j, i = M.length + j := ⟨i - M.length, by omega⟩
    rw [wF_at (by rw [hlen] at hi; omega), List.getD_eq_getElem?_getD, List.getD_eq_getElem?_getD, List.getElem?_append_right (by omega), Nat.add_sub_cancel_left]
theorem add_no {σ : MS} (h : MemR σ) : MemR (wV (wV (wX σ 1 []) 246 0 0) 246 6 0) ∧ FrM σ (wV (wV (wX σ 1 []) 246 0 0) 246 6 0) := by
  obtain ⟨⟨p1, p2, p3, p4⟩, ⟨m1, m2, m3, m4⟩, ⟨t, c, hP⟩, e1, e2, e3⟩ := h
  have n0 : ∀ {z k : Nat}, (z ≠ 246 ∨ (k ≠ 0 ∧ k ≠ 6)) → mV (wV (wV (wX σ 1 []) 246 0 0) 246 6 0) z k = mV σ z k := by
    intro z k h
    rw [wV_ne (by omega), wV_ne (by omega)]
    rfl
  have gX : ∀ q, mX (wV (wV (wX σ 1 []) 246 0 0) 246 6 0) q = mX (wX σ 1 []) q := fun q => rfl
  refine ⟨⟨⟨?_, ?_, ?_, ?_⟩, ⟨?_, ?_, ?_, ?_⟩, ⟨t, c, PaR.cg hP (fun j hj => ?_) (fun k => ?_) (fun k => ?_) ?_ ?_ ?_⟩, ?_, ?_, ?_⟩, (FrM.X (by decide)).tr ((FrM.r (by decide)).tr (FrM.r (by decide)))⟩
  · rw [gX, wX_self]; exact wV_self
  · rw [gX, wX_self]; exact fun i hi => absurd hi (Nat.not_lt_zero i)
  · rw [gX, wX_self]; exact Nat.zero_le _
  · rw [gX, wX_self]; exact fun x hx => absurd hx List.not_mem_nil
  · rw [gX, wX_ne (by decide), n0 (by omega)]; exact m1
  · rw [gX, wX_ne (by decide)]; exact fun i hi => by rw [n0 (Or.inl (by decide))]; exact m2 i hi
  · rw [gX, wX_ne (by decide)]; exact m3
  · rw [gX, wX_ne (by decide)]; exact m4
  · rw [gX, wX_ne (by omega)]
  · exact n0 (Or.inl (by decide))
  · exact n0 (Or.inl (by decide))
  · exact n0 (by omega)
  · exact n0 (Or.inl (by decide))
  · exact n0 (Or.inl (by decide))
  · rw [n0 (Or.inl (by decide)), n0 (by omega)]; exact e1
  · rw [n0 (Or.inl (by decide))]; exact e2
  · rw [n0 (Or.inl (by decide))]; exact e3
theorem add_b {σ : MS} {Q : MQ9} {th th' : String → MS → Prop} (h : MemR σ) (hq : ∀ r σ', MemR σ' → FrM σ σ' → Q (.inl (some r)) σ') : T_add σ (kI th fun r σ1 => R_add σ1 (kI th' fun r' σ2 => r' = r ∧ Q (.inl (some r)) σ2)) := by
  obtain ⟨n1, n2⟩ := add_no h
  obtain ⟨⟨p1, p2, p3, p4⟩, ⟨m1, m2, m3, m4⟩, ⟨t, c, hP⟩, e1, e2, e3⟩ := h
  have ht := hP.1
  have h8 : 0 ≤ mV σ 246 8 ∧ mV σ 246 8 ≤ 6 := by
    rw [hP.2.2.2.2.1]
    have := hP.2.1
    omega
  have e33 : 0 ≤ mV σ 246 33 ∧ mV σ 246 33 ≤ 400000 := by rw [← e1]; exact ⟨e2, e3⟩
  refine T_add.s hP m3 p3 ⟨e2, e3⟩ (fun a => ?_) (fun a b => ?_) (fun a b => ?_)
  · show R_add (wX σ 1 []) _
    exact R_add.s (σ := wX σ 1 []) (M := mX σ 3) (T := mX σ 1) h8 m1 m2 m3 m4 p1 p2 p3 p4 e33 (fun _ => ⟨rfl, hq _ _ n1 n2⟩) (fun a' => absurd a' (by omega)) (fun a' => absurd a' (by omega))
  · show R_add (wX σ 1 []) _
    exact R_add.s (σ := wX σ 1 []) (M := mX σ 3) (T := mX σ 1) h8 m1 m2 m3 m4 p1 p2 p3 p4 e33 (fun a' => absurd a' (by omega)) (fun _ _ => ⟨rfl, hq _ _ n1 n2⟩) (fun _ b' => absurd b' (by show ¬ mV σ 246 33 + _ ≤ _; rw [← e1]; omega))
  · show R_add (wX (wX (tre (wV σ 22 1 (mV σ 22 1 + ((mX σ 3).length : Int))) t c) 3 (mX σ 3 ++ mX σ 1)) 1 []) _
    generalize e0 : wV σ 22 1 (mV σ 22 1 + ((mX σ 3).length : Int)) = σ0
    have z0 : ∀ {z k : Nat}, z ≠ 22 → mV σ0 z k = mV σ z k := fun hz => by rw [← e0]; exact wV_ne (Or.inl hz)
    have zE : mV σ0 22 1 = mV σ 22 1 + ((mX σ 3).length : Int) := by rw [← e0]; exact wV_self
    have zX : ∀ q, mX σ0 q = mX σ q := fun q => by rw [← e0]; rfl
    have f0 : FrM σ σ0 := by rw [← e0]; exact FrM.V (Or.inr (Or.inr (Or.inl ⟨rfl, rfl, by omega⟩)))
    have hP0 : PaR σ0 t c := hP.cg (fun j _ => zX _) (fun k => z0 (by decide)) (fun k => z0 (by decide)) (z0 (by decide)) (z0 (by decide)) (z0 (by decide))
    have hM0 : MsR σ0 := ⟨by rw [z0 (by decide), zX]; exact m1, fun i hi => by rw [zX] at hi; rw [z0 (by decide), zX]; exact m2 i hi, by rw [zX]; exact m3, by rw [zX]; exact m4⟩
    generalize es : wX (wX (tre σ0 t c) 3 (mX σ 3 ++ mX σ 1)) 1 [] = σ1
    have eV : ∀ {z k : Nat}, z ≠ 0 → mV σ1 z k = mV σ0 z k := fun hz => by rw [← es]; exact tre_V hz
    have eV0 : ∀ k, mV σ1 0 k = mV (tre σ0 t c) 0 k := fun k => by rw [← es]; rfl
    have x1 : mX σ1 1 = [] := by rw [← es]; exact wX_self
    have x3 : mX σ1 3 = mX σ 3 ++ mX σ 1 := by rw [← es, wX_ne (by decide), wX_self]
    have xr : ∀ j, j < 6 → mX σ1 (10 + 2 * j) = mX (tre σ0 t c) (10 + 2 * j) := fun j hj => by rw [← es, wX_ne (by omega), wX_ne (by omega)]
    have f1 : FrM σ σ1 := by rw [← es]; exact f0.tr ((FrM.tre ht).tr ((FrM.X (by decide)).tr (FrM.X (by decide))))
    have s0 : ∀ {z k : Nat}, z ≠ 0 → z ≠ 22 → mV σ1 z k = mV σ z k := fun h1 h2 => (eV h1).trans (z0 h2)
    refine R_add.s (M := mX σ 3) (T := mX σ 1) (by rw [s0 (by decide) (by decide)]; exact h8) (by rw [s0 (by decide) (by decide)]; exact m1) (fun i hi => by rw [s0 (by decide) (by decide)]; exact m2 i hi) m3 m4 (by rw [s0 (by decide) (by decide)]; exact p1) (fun i hi => by rw [s0 (by decide) (by decide)]; exact p2 i hi) p3 p4 (by rw [s0 (by decide) (by decide)]; exact e33) (fun a' => absurd a' (by omega)) (fun _ b' => absurd b' (by rw [s0 (by decide) (by decide), ← e1]; omega)) (fun _ _ => ⟨rfl, hq _ _ ?_ ?_⟩)
    · rw [s0 (z := 246) (k := 33) (by decide) (by decide)]
      generalize er : wV (wV (wV σ1 246 0 0) 246 6 0) 246 33 (mV σ 246 33 + ((mX σ 3).length : Int)) = σ2
      have r0 : ∀ {z k : Nat}, (z ≠ 246 ∨ (k ≠ 0 ∧ k ≠ 6 ∧ k ≠ 33)) → mV σ2 z k = mV σ1 z k := by
        intro z k h
        rw [← er, wV_ne (by omega), wV_ne (by omega), wV_ne (by omega)]
      have r33 : mV σ2 246 33 = mV σ 246 33 + ((mX σ 3).length : Int) := by rw [← er]; exact wV_self
      have r6 : mV σ2 246 6 = 0 := by rw [← er, wV_ne (Or.inr (by decide)), wV_self]
      have rX : mX σ2 = mX σ1 := by rw [← er]; rfl
      have hre := PaR.re (σ1 := σ2) hP0 hM0 (fun j hj => by rw [rX]; exact xr j hj) (fun k => by rw [r0 (Or.inl (by decide)), eV (by decide)]) (fun k => by rw [r0 (Or.inl (by decide)), eV (by decide)]) (by rw [r0 (by omega), eV (by decide)]) (by rw [r0 (Or.inl (by decide)), eV0]) (by rw [r0 (Or.inl (by decide)), eV0])
      rw [zX] at hre
      have g0 : ∀ {z k : Nat}, z ≠ 250 → z ≠ 251 → z ≠ 248 → (z ≠ 246 ∨ (k ≠ 7 ∧ k ≠ 8)) → mV (wV (wF (rre σ2 (mX σ 3)) 248 (mX σ 3).length (mX σ 1)) 246 7 (((mX σ 3).length : Int) + (mX σ 1).length)) z k = mV σ2 z k := by
        intro z k h1 h2 h3 h4
        rw [wV_ne (by omega), wF_ne (Or.inl h3), rre_V h1 h2 (by omega)]
      have gX : ∀ q, mX (wV (wF (rre σ2 (mX σ 3)) 248 (mX σ 3).length (mX σ 1)) 246 7 (((mX σ 3).length : Int) + (mX σ 1).length)) q = mX σ1 q := fun q => by
        show mX (rre σ2 (mX σ 3)) q = mX σ1 q
        rw [rre_X, rX]
      have hlen : (mX σ 3 ++ mX σ 1).length = (mX σ 3).length + (mX σ 1).length := List.length_append
      refine ⟨⟨?_, ?_, ?_, ?_⟩, ⟨?_, ?_, ?_, ?_⟩, ⟨_, _, PaR.cg hre (fun j hj => rfl) (fun k => ?_) (fun k => ?_) ?_ ?_ ?_⟩, ?_, ?_, ?_⟩
      · rw [gX, x1, g0 (by decide) (by decide) (by decide) (by omega), r6]; rfl
      · rw [gX, x1]; exact fun i hi => absurd hi (Nat.not_lt_zero i)
      · rw [gX, x1]; exact Nat.zero_le _
      · rw [gX, x1]; exact fun x hx => absurd hx List.not_mem_nil
      · rw [gX, x3, wV_self, hlen]; rfl
      · rw [gX, x3]
        refine hol.V (hol_app (fun i hi => ?_)) (by decide)
        rw [rre_V (by decide) (by decide) (Or.inl (by decide)), r0 (Or.inl (by decide)), s0 (by decide) (by decide)]
        exact m2 i hi
      · rw [gX, x3, hlen]; exact a
      · rw [gX, x3]; exact m4.app p4
      · rw [wV_ne (Or.inl (by decide)), wF_ne (Or.inl (by decide))]
      · rw [wV_ne (Or.inl (by decide)), wF_ne (Or.inl (by decide))]
      · rw [wV_ne (Or.inr (by decide)), wF_ne (Or.inl (by decide))]
      · rw [wV_ne (Or.inl (by decide)), wF_ne (Or.inl (by decide))]
      · rw [wV_ne (Or.inl (by decide)), wF_ne (Or.inl (by decide))]
      · rw [g0 (by decide) (by decide) (by decide) (Or.inl (by decide)), g0 (by decide) (by decide) (by decide) (by omega), r33, r0 (Or.inl (by decide)), eV (by decide), zE, e1]
      · rw [g0 (by decide) (by decide) (by decide) (Or.inl (by decide)), r0 (Or.inl (by decide)), eV (by decide), zE]; omega
      · rw [g0 (by decide) (by decide) (by decide) (Or.inl (by decide)), r0 (Or.inl (by decide)), eV (by decide), zE]; omega
    · exact f1.tr ((FrM.r (by decide)).tr ((FrM.r (by decide)).tr ((FrM.r (by decide)).tr (FrM.rr9.tr ((FrM.F (by decide)).tr (FrM.r (by decide)))))))
