/-! WRITE: class and reference -/
def TpR (σ : MS) : Prop := mV σ 246 6 = ((mX σ 1).length : Int) ∧ hol σ 247 (mX σ 1) ∧ (mX σ 1).length ≤ 4000 ∧ smB (mX σ 1)
def MsR (σ : MS) : Prop := mV σ 246 7 = ((mX σ 3).length : Int) ∧ hol σ 248 (mX σ 3) ∧ (mX σ 3).length ≤ 4000 ∧ smB (mX σ 3)
def PaR (σ : MS) (t c : Nat) : Prop := t < 6 ∧ c ≤ 6 ∧ mV σ 0 6 = (t : Int) ∧ mV σ 0 5 = (c : Int) ∧ mV σ 246 8 = (c : Int) ∧ FoR σ t c
/-- the class's state when it has remembered -/
def tre (σ : MS) (t c : Nat) : MS := wV (wV (wX σ (10 + 2 * t) (mX σ 3)) 0 6 (((t + 1) % 6 : Nat) : Int)) 0 5 (min 6 ((c : Int) + 1))
theorem tre_X {σ : MS} {t c q : Nat} (h : q ≠ 10 + 2 * t) : mX (tre σ t c) q = mX σ q := wX_ne h
theorem tre_V {σ : MS} {t c z k : Nat} (h : z ≠ 0) : mV (tre σ t c) z k = mV σ z k := by
  unfold tre
  rw [wV_ne (Or.inl h), wV_ne (Or.inl h)]
  rfl
theorem T_write.s {σ : MS} {Q : MQ9} {t c : Nat} (h : PaR σ t c) (hM : (mX σ 3).length ≤ 4000) (hT : (mX σ 1).length ≤ 4000) (hq : Q (.inl (some (lnR (mX σ 1)))) (wX (wX (tre σ t c) 3 (mX σ 1)) 1 [])) : T_write σ Q := by
  obtain ⟨ht, hc, h6, h5, -, -⟩ := h
  have e1 : mX (tre σ t c) 1 = mX σ 1 := tre_X (by omega)
  refine T_write.i (T_remember.s ht h6 (by rw [h5]; omega) (by omega) ?_)
  rw [h5]
  show (mX (tre σ t c) 1).length ≤ 4096 ∧ T_lineCount (wX (wX (tre σ t c) 3 (mX (tre σ t c) 1)) 1 []) _
  rw [e1]
  refine ⟨by omega, T_lineCount.s ?_⟩
  have e3 : mX (wX (wX (tre σ t c) 3 (mX σ 1)) 1 []) 3 = mX σ 1 := by rw [wX_ne (by decide), wX_self]
  rw [e3]
  exact hq
/-- the reference's state when it has remembered -/
def rre (σ : MS) (M : List Int) : MS := rm2 (if mV σ 246 8 = 6 then rm1 σ else σ) M
theorem rm1_V {σ : MS} {z k : Nat} (h0 : z ≠ 250) (h1 : z ≠ 251) (h2 : z ≠ 246 ∨ k ≠ 8) : mV (rm1 σ) z k = mV σ z k := by
  unfold rm1
  rw [wV_ne h2, wF_ne (Or.inl h1), wF_ne (Or.inl h0)]
theorem rm2_V {σ : MS} {M : List Int} {z k : Nat} (h0 : z ≠ 250) (h1 : z ≠ 251) (h2 : z ≠ 246 ∨ k ≠ 8) : mV (rm2 σ M) z k = mV σ z k := by
  unfold rm2
  rw [wV_ne h2, wV_ne (Or.inl h1), wF_ne (Or.inl h0)]
theorem rre_V {σ : MS} {M : List Int} {z k : Nat} (h0 : z ≠ 250) (h1 : z ≠ 251) (h2 : z ≠ 246 ∨ k ≠ 8) : mV (rre σ M) z k = mV σ z k := by
  unfold rre
  rw [rm2_V h0 h1 h2]
  split
  · exact rm1_V h0 h1 h2
  · rfl
theorem rre_X {σ : MS} {M : List Int} : mX (rre σ M) = mX σ := by
  unfold rre
  split <;> rfl
theorem R_write.s {σ : MS} {Q : MQ9} {M T : List Int} (h8 : 0 ≤ mV σ 246 8 ∧ mV σ 246 8 ≤ 6) (h7 : mV σ 246 7 = (M.length : Int)) (hM : hol σ 248 M) (hl : M.length ≤ 4000) (hb : smB M) (h6 : mV σ 246 6 = (T.length : Int)) (hT : hol σ 247 T) (hlT : T.length ≤ 4000) (hbT : smB T) (hq : Q (.inl (some (lnR T))) (wV (wV (wF (rre (wV σ 246 0 0) M) 248 0 T) 246 7 (T.length : Int)) 246 6 0)) : R_write σ Q := by
  have e8 : mV (wV σ 246 0 0) 246 8 = mV σ 246 8 := wV_ne (Or.inr (by decide))
  refine R_write.i (R_remembers.s (M := M) (by rw [e8]; exact h8) (by rw [wV_ne (Or.inr (by decide))]; exact h7) (hol.V hM (by decide)) hl hb ?_)
  refine R_write_11.s (σ := rre (wV σ 246 0 0) M) (T := T) ?_ (fun i hi => ?_) hlT hbT hq
  · rw [rre_V (by decide) (by decide) (Or.inr (by decide)), wV_ne (Or.inr (by decide))]; exact h6
  · rw [rre_V (by decide) (by decide) (Or.inl (by decide)), wV_ne (Or.inl (by decide))]; exact hT i hi
/-- the former manuscripts agree when both have remembered -/
theorem PaR.re {σ : MS} {t c : Nat} (h : PaR σ t c) (hm : MsR σ) {σ1 : MS} (h1 : ∀ j, j < 6 → mX σ1 (10 + 2 * j) = mX (tre σ t c) (10 + 2 * j)) (h2 : ∀ k, mV σ1 251 k = mV σ 251 k) (h3 : ∀ k, mV σ1 250 k = mV σ 250 k) (h4 : mV σ1 246 8 = mV σ 246 8) (h5 : mV σ1 0 6 = mV (tre σ t c) 0 6) (h6 : mV σ1 0 5 = mV (tre σ t c) 0 5) : PaR (rre σ1 (mX σ 3)) ((t + 1) % 6) (min 6 (c + 1)) := by
  obtain ⟨ht, hc, q6, q5, q8, hF⟩ := h
  obtain ⟨m1, m2, m3, m4⟩ := hm
  have eX : ∀ j, j < 6 → j ≠ t → mX σ1 (10 + 2 * j) = mX σ (10 + 2 * j) := fun j hj hn => by rw [h1 j hj, tre_X (by omega)]
  have et : mX σ1 (10 + 2 * t) = mX σ 3 := by rw [h1 t ht]; exact wX_self
  refine ⟨Nat.mod_lt _ (by decide), by omega, ?_, ?_, ?_, ?_⟩
  · rw [rre_V (by decide) (by decide) (Or.inl (by decide)), h5]
    unfold tre
    rw [wV_ne (Or.inr (by decide)), wV_self]
  · rw [rre_V (by decide) (by decide) (Or.inl (by decide)), h6]
    unfold tre
    rw [wV_self]
    omega
  · unfold rre
    by_cases e6 : mV σ1 246 8 = 6
    · rw [if_pos e6]
      unfold rm2
      rw [wV_self]
      have e9 : mV (rm1 σ1) 246 8 = 5 := wV_self
      rw [e9]
      rw [h4, q8] at e6
      omega
    · rw [if_neg e6]
      unfold rm2
      rw [wV_self, h4, q8]
      rw [h4, q8] at e6
      omega
  · unfold rre
    by_cases e6 : mV σ1 246 8 = 6
    · rw [if_pos e6]
      rw [h4, q8] at e6
      have c6 : c = 6 := by omega
      subst c6
      have e9 : mV (rm1 σ1) 246 8 = ((5 : Nat) : Int) := wV_self
      have key := FoR.add (σ := rm1 σ1) (M := mX σ 3) ht (show 5 < 6 by decide) e9 et m3 m4 (fun k hk => ?_)
      · exact key
      · have ei : (t + 6 - 5 + k) % 6 = (t + 1 + k) % 6 := by rw [show t + 6 - 5 + k = t + 1 + k by omega]
        rw [ei]
        have en : (t + 1 + k) % 6 ≠ t := by omega
        have fi : fI t 6 (k + 1) = 10 + 2 * ((t + 1 + k) % 6) := by
          unfold fI
          rw [show t + 6 - 6 + (k + 1) = t + 1 + k by omega]
        have eXk : mX σ1 (10 + 2 * ((t + 1 + k) % 6)) = mX σ (10 + 2 * ((t + 1 + k) % 6)) := eX _ (Nat.mod_lt _ (by decide)) en
        have hs := FoR.shift ht hF k hk
        obtain ⟨a1, a2, a3, a4⟩ := hs
        have r1 : mX (rm1 σ1) (10 + 2 * ((t + 1 + k) % 6)) = mX (rm1 σ) (10 + 2 * ((t + 1 + k) % 6)) := eXk
        rw [r1]
        refine ⟨a1, a2, ?_, fun i hi => ?_⟩
        · rw [← a3, rm1_251 hk, rm1_251 hk, h2]
        · have hi2 : i < (mX (rm1 σ) (10 + 2 * ((t + 1 + k) % 6))).length := hi
          rw [← a4 i hi2, rm1_250 (show 4000 * k + i < 20000 by omega), rm1_250 (show 4000 * k + i < 20000 by omega), h3]
    · rw [if_neg e6]
      rw [h4, q8] at e6
      have hc6 : c < 6 := by omega
      have key := FoR.add (σ := σ1) (M := mX σ 3) ht hc6 (h4.trans q8) et m3 m4 (fun k hk => ?_)
      · rw [show min 6 (c + 1) = c + 1 by omega]
        exact key
      · have en : (t + 6 - c + k) % 6 ≠ t := by omega
        rw [eX _ (Nat.mod_lt _ (by decide)) en]
        obtain ⟨a1, a2, a3, a4⟩ := hF k hk
        exact ⟨a1, a2, by rw [h2]; exact a3, fun i hi => by rw [h3]; exact a4 i hi⟩
