/-! WHAT IS THE SAME IN CLASS AND REFERENCE: tape, manuscript, former manuscripts, work ever -/
def MemR (σ : MS) : Prop := TpR σ ∧ MsR σ ∧ (∃ t c, PaR σ t c) ∧ mV σ 22 1 = mV σ 246 33 ∧ 0 ≤ mV σ 22 1 ∧ mV σ 22 1 ≤ 400000
/-- nothing else has changed -/
def FrM (σ σ' : MS) : Prop := (∀ q, q ∉ [1, 3, 7, 10, 12, 14, 16, 18, 20] → mX σ' q = mX σ q) ∧ (∀ z k, z ∉ [247, 248, 249, 250, 251] → ¬ (z = 0 ∧ (k = 5 ∨ k = 6)) → ¬ (z = 22 ∧ k = 1) → ¬ (z = 246 ∧ k ∈ [0, 6, 7, 8, 33]) → mV σ' z k = mV σ z k) ∧ σ'.2.2 = σ.2.2 ∧ mV σ 22 1 ≤ mV σ' 22 1
theorem FrM.rf {σ : MS} : FrM σ σ := ⟨fun _ _ => rfl, fun _ _ _ _ _ _ => rfl, rfl, Int.le_refl _⟩
theorem FrM.tr {σ σ1 σ2 : MS} (h : FrM σ σ1) (h' : FrM σ1 σ2) : FrM σ σ2 := ⟨fun q hq => (h'.1 q hq).trans (h.1 q hq), fun z k a b c d => (h'.2.1 z k a b c d).trans (h.2.1 z k a b c d), h'.2.2.1.trans h.2.2.1, Int.le_trans h.2.2.2 h'.2.2.2⟩
theorem FrM.X {σ : MS} {q : Nat} {L : List Int} (hq : q ∈ [1, 3, 7, 10, 12, 14, 16, 18, 20]) : FrM σ (wX σ q L) := ⟨fun q' h => wX_ne (fun e => h (by rw [e]; exact hq)), fun _ _ _ _ _ _ => rfl, rfl, Int.le_refl _⟩
theorem FrM.F {σ : MS} {z a : Nat} {L : List Int} (hz : z ∈ [247, 248, 249, 250, 251]) : FrM σ (wF σ z a L) := ⟨fun _ _ => rfl, fun z' k h _ _ _ => wF_ne (Or.inl (fun e => h (by rw [e]; exact hz))), rfl, Int.le_of_eq (wF_ne (Or.inl (fun e => by
  rw [← e] at hz
  exact absurd hz (by decide)))).symm⟩
theorem FrM.V {σ : MS} {z k : Nat} {x : Int} (h : z ∈ [247, 248, 249, 250, 251] ∨ (z = 0 ∧ (k = 5 ∨ k = 6)) ∨ (z = 22 ∧ k = 1 ∧ mV σ 22 1 ≤ x) ∨ (z = 246 ∧ k ∈ [0, 6, 7, 8, 33])) : FrM σ (wV σ z k x) := by
  refine ⟨fun _ _ => rfl, fun z' k' a b c d => wV_ne ?_, rfl, ?_⟩
  rotate_left
  · by_cases e : z = 22 ∧ k = 1
    · rcases h with h | h | h | h
      · rw [e.1] at h
        exact absurd h (by decide)
      · omega
      · rw [e.1, e.2, wV_self]
        exact h.2.2
      · omega
    · exact Int.le_of_eq (wV_ne (by omega)).symm
  by_cases e : z' = z
  · refine Or.inr (fun e2 => ?_)
    subst e e2
    rcases h with h | h | h | h
    · exact a h
    · exact b h
    · exact c ⟨h.1, h.2.1⟩
    · exact d h
  · exact Or.inl e
theorem ring_in {t : Nat} (ht : t < 6) : 10 + 2 * t ∈ [1, 3, 7, 10, 12, 14, 16, 18, 20] := by
  have h : ∀ t, t < 6 → 10 + 2 * t ∈ [1, 3, 7, 10, 12, 14, 16, 18, 20] := by decide
  exact h t ht
theorem FrM.tre {σ : MS} {t c : Nat} (ht : t < 6) : FrM σ (tre σ t c) := (FrM.X (ring_in ht)).tr ((FrM.V (Or.inr (Or.inl ⟨rfl, Or.inr rfl⟩))).tr (FrM.V (Or.inr (Or.inl ⟨rfl, Or.inl rfl⟩))))
theorem FrM.rm1 {σ : MS} : FrM σ (rm1 σ) := (FrM.F (by decide)).tr ((FrM.F (by decide)).tr (FrM.V (Or.inr (Or.inr (Or.inr ⟨rfl, by decide⟩)))))
theorem FrM.rm2 {σ : MS} {M : List Int} : FrM σ (rm2 σ M) := (FrM.F (by decide)).tr ((FrM.V (Or.inl (by decide))).tr (FrM.V (Or.inr (Or.inr (Or.inr ⟨rfl, by decide⟩)))))
theorem FrM.rr9 {σ : MS} {M : List Int} : FrM σ (rre σ M) := by
  unfold rre
  split
  · exact FrM.rm1.tr FrM.rm2
  · exact FrM.rm2
theorem FrM.r {σ : MS} {k : Nat} {x : Int} (hk : k ∈ [0, 6, 7, 8, 33]) : FrM σ (wV σ 246 k x) := FrM.V (Or.inr (Or.inr (Or.inr ⟨rfl, hk⟩)))
theorem PaR.cg {σ σ' : MS} {t c : Nat} (h : PaR σ t c) (h1 : ∀ j, j < 6 → mX σ' (10 + 2 * j) = mX σ (10 + 2 * j)) (h2 : ∀ k, mV σ' 251 k = mV σ 251 k) (h3 : ∀ k, mV σ' 250 k = mV σ 250 k) (h4 : mV σ' 246 8 = mV σ 246 8) (h5 : mV σ' 0 6 = mV σ 0 6) (h6 : mV σ' 0 5 = mV σ 0 5) : PaR σ' t c := by
  obtain ⟨a1, a2, a3, a4, a5, a6⟩ := h
  exact ⟨a1, a2, by rw [h5]; exact a3, by rw [h6]; exact a4, by rw [h4]; exact a5, a6.cg h1 h2 h3⟩
/-- write: both answer alike, and agree again -/
theorem write_b {σ : MS} {Q : MQ9} {th th' : String → MS → Prop} (h : MemR σ) (hq : ∀ σ', MemR σ' → FrM σ σ' → Q (.inl (some (lnR (mX σ 1)))) σ') : T_write σ (kI th fun r σ1 => R_write σ1 (kI th' fun r' σ2 => r' = r ∧ Q (.inl (some r)) σ2)) := by
  obtain ⟨⟨p1, p2, p3, p4⟩, ⟨m1, m2, m3, m4⟩, ⟨t, c, hP⟩, e1, e2, e3⟩ := h
  have ht := hP.1
  refine T_write.s hP m3 p3 ?_
  show R_write (wX (wX (tre σ t c) 3 (mX σ 1)) 1 []) _
  generalize es : wX (wX (tre σ t c) 3 (mX σ 1)) 1 [] = σ1
  have eV : ∀ z k, z ≠ 0 → mV σ1 z k = mV σ z k := fun z k hz => by rw [← es]; exact tre_V hz
  have eV0 : ∀ k, mV σ1 0 k = mV (tre σ t c) 0 k := fun k => by rw [← es]; rfl
  have x1 : mX σ1 1 = [] := by rw [← es]; exact wX_self
  have x3 : mX σ1 3 = mX σ 1 := by rw [← es, wX_ne (by decide), wX_self]
  have xr : ∀ j, j < 6 → mX σ1 (10 + 2 * j) = mX (tre σ t c) (10 + 2 * j) := fun j hj => by rw [← es, wX_ne (by omega), wX_ne (by omega)]
  have f1 : FrM σ σ1 := by rw [← es]; exact (FrM.tre ht).tr ((FrM.X (by decide)).tr (FrM.X (by decide)))
  have h8 : 0 ≤ mV σ1 246 8 ∧ mV σ1 246 8 ≤ 6 := by
    rw [eV _ _ (by decide), hP.2.2.2.2.1]
    have := hP.2.1
    omega
  refine R_write.s (M := mX σ 3) (T := mX σ 1) h8 (by rw [eV _ _ (by decide)]; exact m1) (fun i hi => by rw [eV _ _ (by decide)]; exact m2 i hi) m3 m4 (by rw [eV _ _ (by decide)]; exact p1) (fun i hi => by rw [eV _ _ (by decide)]; exact p2 i hi) p3 p4 ?_
  refine ⟨rfl, hq _ ?_ ?_⟩
  · have hre := PaR.re (σ1 := wV σ1 246 0 0) hP ⟨m1, m2, m3, m4⟩ (fun j hj => xr j hj) (fun k => by rw [wV_ne (Or.inl (by decide)), eV _ _ (by decide)]) (fun k => by rw [wV_ne (Or.inl (by decide)), eV _ _ (by decide)]) (by rw [wV_ne (Or.inr (by decide)), eV _ _ (by decide)]) (by rw [wV_ne (Or.inl (by decide)), eV0]) (by rw [wV_ne (Or.inl (by decide)), eV0])
    have gX : ∀ q, mX (wV (wV (wF (rre (wV σ1 246 0 0) (mX σ 3)) 248 0 (mX σ 1)) 246 7 ((mX σ 1).length : Int)) 246 6 0) q = mX σ1 q := fun q => by
      show mX (rre (wV σ1 246 0 0) (mX σ 3)) q = mX σ1 q
      rw [rre_X]
      rfl
    refine ⟨⟨?_, ?_, ?_, ?_⟩, ⟨?_, ?_, ?_, ?_⟩, ⟨_, _, PaR.cg hre (fun j hj => rfl) (fun k => ?_) (fun k => ?_) ?_ ?_ ?_⟩, ?_, ?_, ?_⟩
    · rw [gX, x1]; exact wV_self
    · rw [gX, x1]; exact fun i hi => absurd hi (Nat.not_lt_zero i)
    · rw [gX, x1]; exact Nat.zero_le _
    · rw [gX, x1]; exact fun x hx => absurd hx List.not_mem_nil
    · rw [gX, x3, wV_ne (Or.inr (by decide)), wV_self]
    · rw [gX, x3]; exact hol.V (hol.V hol.F (by decide)) (by decide)
    · rw [gX, x3]; exact p3
    · rw [gX, x3]; exact p4
    · rw [wV_ne (Or.inl (by decide)), wV_ne (Or.inl (by decide)), wF_ne (Or.inl (by decide))]
    · rw [wV_ne (Or.inl (by decide)), wV_ne (Or.inl (by decide)), wF_ne (Or.inl (by decide))]
    · rw [wV_ne (Or.inr (by decide)), wV_ne (Or.inr (by decide)), wF_ne (Or.inl (by decide))]
    · rw [wV_ne (Or.inl (by decide)), wV_ne (Or.inl (by decide)), wF_ne (Or.inl (by decide))]
    · rw [wV_ne (Or.inl (by decide)), wV_ne (Or.inl (by decide)), wF_ne (Or.inl (by decide))]
    · rw [wV_ne (Or.inl (by decide)), wV_ne (Or.inl (by decide)), wF_ne (Or.inl (by decide)), rre_V (by decide) (by decide) (Or.inl (by decide)), wV_ne (Or.inl (by decide)), eV _ _ (by decide)]
      rw [wV_ne (Or.inr (by decide)), wV_ne (Or.inr (by decide)), wF_ne (Or.inl (by decide)), rre_V (by decide) (by decide) (Or.inr (by decide)), wV_ne (Or.inr (by decide)), eV _ _ (by decide)]
      exact e1
    · rw [wV_ne (Or.inl (by decide)), wV_ne (Or.inl (by decide)), wF_ne (Or.inl (by decide)), rre_V (by decide) (by decide) (Or.inl (by decide)), wV_ne (Or.inl (by decide)), eV _ _ (by decide)]
      exact e2
    · rw [wV_ne (Or.inl (by decide)), wV_ne (Or.inl (by decide)), wF_ne (Or.inl (by decide)), rre_V (by decide) (by decide) (Or.inl (by decide)), wV_ne (Or.inl (by decide)), eV _ _ (by decide)]
      exact e3
  · exact f1.tr ((FrM.r (by decide)).tr (FrM.rr9.tr ((FrM.F (by decide)).tr ((FrM.r (by decide)).tr (FrM.r (by decide))))))
