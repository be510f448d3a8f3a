/-! THE FORMER MANUSCRIPTS OF CLASS AND REFERENCE -/
def holA (σ : MS) (z a : Nat) (L : List Int) : Prop := ∀ i, i < L.length → mV σ z (a + i) = L.getD i 0
/-- the class's row of the k-th former manuscript, the oldest first -/
def fI (t c k : Nat) : Nat := 10 + 2 * ((t + 6 - c + k) % 6)
def FoR (σ : MS) (t c : Nat) : Prop := ∀ k, k < c → (mX σ (fI t c k)).length ≤ 4000 ∧ smB (mX σ (fI t c k)) ∧ mV σ 251 k = ((mX σ (fI t c k)).length : Int) ∧ holA σ 250 (4000 * k) (mX σ (fI t c k))
/-- what counts of a state for the former manuscripts -/
theorem FoR.cg {σ σ' : MS} {t c : Nat} (h : FoR σ t c) (h1 : ∀ j, j < 6 → mX σ' (10 + 2 * j) = mX σ (10 + 2 * j)) (h2 : ∀ k, mV σ' 251 k = mV σ 251 k) (h3 : ∀ k, mV σ' 250 k = mV σ 250 k) : FoR σ' t c := by
  intro k hk
  have e : mX σ' (fI t c k) = mX σ (fI t c k) := h1 _ (Nat.mod_lt _ (by decide))
  obtain ⟨a1, a2, a3, a4⟩ := h k hk
  rw [e]
  exact ⟨a1, a2, by rw [h2]; exact a3, fun i hi => by rw [h3]; exact a4 i hi⟩
theorem rm1_251 {σ : MS} {k : Nat} (hk : k < 5) : mV (rm1 σ) 251 k = mV σ 251 (k + 1) := by
  unfold rm1
  rw [wV_ne (Or.inl (by decide))]
  have e1 := wF_at (σ := wF σ 250 0 (ofF (fun i => b8 (mV σ 250 (i + 4000))) 20000)) (z := 251) (a := 0) (L := ofF (fun i => mV σ 251 (i + 1)) 5) (j := k) (by rw [ofF_len]; exact hk)
  rw [Nat.zero_add, ofF_get hk] at e1
  exact e1
theorem rm1_250 {σ : MS} {j : Nat} (hj : j < 20000) : mV (rm1 σ) 250 j = b8 (mV σ 250 (j + 4000)) := by
  unfold rm1
  rw [wV_ne (Or.inl (by decide)), wF_ne (Or.inl (by decide))]
  have e1 := wF_at (σ := σ) (z := 250) (a := 0) (L := ofF (fun i => b8 (mV σ 250 (i + 4000))) 20000) (j := j) (by rw [ofF_len]; exact hj)
  rw [Nat.zero_add, ofF_get hj] at e1
  exact e1
/-- the oldest goes -/
theorem FoR.shift {σ : MS} {t : Nat} (ht : t < 6) (h : FoR σ t 6) : ∀ k, k < 5 → (mX (rm1 σ) (10 + 2 * ((t + 1 + k) % 6))).length ≤ 4000 ∧ smB (mX (rm1 σ) (10 + 2 * ((t + 1 + k) % 6))) ∧ mV (rm1 σ) 251 k = ((mX (rm1 σ) (10 + 2 * ((t + 1 + k) % 6))).length : Int) ∧ holA (rm1 σ) 250 (4000 * k) (mX (rm1 σ) (10 + 2 * ((t + 1 + k) % 6))) := by
  intro k hk
  have ei : fI t 6 (k + 1) = 10 + 2 * ((t + 1 + k) % 6) := by
    unfold fI
    rw [show t + 6 - 6 + (k + 1) = t + 1 + k by omega]
  obtain ⟨a1, a2, a3, a4⟩ := h (k + 1) (by omega)
  rw [ei] at a1 a2 a3 a4
  refine ⟨a1, a2, ?_, fun i hi => ?_⟩
  · rw [rm1_251 hk]
    exact a3
  · have hi2 : i < (mX σ (10 + 2 * ((t + 1 + k) % 6))).length := hi
    rw [rm1_250 (by omega), show 4000 * k + i + 4000 = 4000 * (k + 1) + i by omega, a4 i hi2]
    exact a2.at hi2
/-- the newest comes -/
theorem FoR.add {σ : MS} {t c : Nat} {M : List Int} (ht : t < 6) (hc : c < 6) (h8 : mV σ 246 8 = (c : Int)) (hr : mX σ (10 + 2 * t) = M) (hl : M.length ≤ 4000) (hb : smB M) (h : ∀ k, k < c → (mX σ (10 + 2 * ((t + 6 - c + k) % 6))).length ≤ 4000 ∧ smB (mX σ (10 + 2 * ((t + 6 - c + k) % 6))) ∧ mV σ 251 k = ((mX σ (10 + 2 * ((t + 6 - c + k) % 6))).length : Int) ∧ holA σ 250 (4000 * k) (mX σ (10 + 2 * ((t + 6 - c + k) % 6)))) : FoR (rm2 σ M) ((t + 1) % 6) (c + 1) := by
  have e8 : (mV σ 246 8).toNat = c := by rw [h8]; rfl
  intro k hk
  have ei : fI ((t + 1) % 6) (c + 1) k = 10 + 2 * ((t + 6 - c + k) % 6) := by
    unfold fI
    have e : ((t + 1) % 6 + 6 - (c + 1) + k) % 6 = (t + 6 - c + k) % 6 := by omega
    rw [e]
  have hX : ∀ q, mX (rm2 σ M) q = mX σ q := fun q => rfl
  rw [ei, hX]
  by_cases e : k = c
  · have et : (t + 6 - c + k) % 6 = t := by omega
    rw [et, hr]
    refine ⟨hl, hb, ?_, fun i hi => ?_⟩
    · unfold rm2
      rw [wV_ne (Or.inl (by decide)), e8, e, wV_self]
    · unfold rm2
      rw [wV_ne (Or.inl (by decide)), wV_ne (Or.inl (by decide)), e8, e]
      exact wF_at hi
  · obtain ⟨a1, a2, a3, a4⟩ := h k (by omega)
    refine ⟨a1, a2, ?_, fun i hi => ?_⟩
    · unfold rm2
      rw [wV_ne (Or.inl (by decide)), wV_ne (Or.inr (by rw [e8]; exact e)), wF_ne (Or.inl (by decide))]
      exact a3
    · unfold rm2
      rw [wV_ne (Or.inl (by decide)), wV_ne (Or.inl (by decide)), wF_ne (Or.inr (Or.inl (by rw [e8]; omega)))]
      exact a4 i hi
