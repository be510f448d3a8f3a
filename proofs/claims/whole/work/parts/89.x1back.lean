/-! BACK: class and reference -/
theorem T_back.s {σ : MS} {Q : MQ9} {t c : Nat} (h : PaR σ t c) (h0 : c = 0 → Q (.inl (some 0)) σ) (h1 : 0 < c → Q (.inl (some 1)) (wX (wV (wV σ 0 6 (((t + 5) % 6 : Nat) : Int)) 0 5 ((c : Int) - 1)) 3 (mX σ (10 + 2 * ((t + 5) % 6))))) : T_back σ Q := by
  obtain ⟨ht, hc, h6, h5, -, hF⟩ := h
  have e : Int.tmod (mV σ 0 6 + 6 - 1) 6 = (((t + 5) % 6 : Nat) : Int) := by
    rw [h6, Int.tmod_eq_emod_of_nonneg (by omega)]
    omega
  refine T_back.i ⟨fun h => ?_, fun h => h0 (by omega)⟩
  have hc0 : 0 < c := by omega
  obtain ⟨r1, -, r2, r3⟩ := ring_ok ((t + 5) % 6) (Nat.mod_lt _ (by decide))
  obtain ⟨a1, -⟩ := hF (c - 1) (by omega)
  have ei : fI t c (c - 1) = 10 + 2 * ((t + 5) % 6) := by
    unfold fI
    rw [show t + 6 - c + (c - 1) = t + 5 by omega]
  rw [ei] at a1
  have hm : (t + 5) % 6 < 6 := Nat.mod_lt _ (by decide)
  refine ⟨by unfold Rg; omega, by omega, by unfold Rg; omega, by rw [e]; omega, by rw [e]; omega, ?_⟩
  rw [e, show ((((t + 5) % 6 : Nat) : Int)).toNat = (t + 5) % 6 from rfl, h5]
  exact tB.i r1 (tB.i r2 ⟨by omega, h1 hc0⟩)
theorem R_back_39.s {σ : MS} {Q : MQ9} {M : List Int} (h8 : 0 ≤ mV σ 246 8 ∧ mV σ 246 8 < 6) (h7 : mV σ 246 7 = (M.length : Int)) (hM : holA σ 250 (4000 * (mV σ 246 8).toNat) M) (hl : M.length ≤ 4000) (hb : smB M) (hq : Q (.inl (some 1)) (wF σ 248 0 M)) : R_back_39 0 σ Q := by
  refine loopF (z := 248) (a := 0) (n := M.length) (f := fun i => M.getD i 0) (P := fun i s => R_back_39 i s Q) (fun i hi h => ?_) ?_
  · have e1 : mV (wF σ 248 0 (ofF (fun i => M.getD i 0) i)) 246 7 = (M.length : Int) := by rw [wF_ne (Or.inl (by decide)), h7]
    have e2 : mV (wF σ 248 0 (ofF (fun i => M.getD i 0) i)) 246 8 = mV σ 246 8 := wF_ne (Or.inl (by decide))
    have e3 : mV (wF σ 248 0 (ofF (fun i => M.getD i 0) i)) 250 (4000 * (mV σ 246 8).toNat + i) = M.getD i 0 := by rw [wF_ne (Or.inl (by decide))]; exact hM i hi
    refine R_back_39.i ⟨Rg.n (by omega), fun h9 => absurd h9 (by rw [e1]; omega), fun _ => ⟨by rw [e2]; omega, by rw [e2]; omega, by omega, by omega, ?_⟩⟩
    rw [e2, show ((i : Int)).toNat = i from rfl, show (4000 * mV σ 246 8 + (i : Int)).toNat = 4000 * (mV σ 246 8).toNat + i by omega, e3, hb.at hi]
    rw [Nat.zero_add] at h
    exact h
  · rw [ofF_list]
    have e1 : mV (wF σ 248 0 M) 246 7 = (M.length : Int) := by rw [wF_ne (Or.inl (by decide)), h7]
    exact R_back_39.i ⟨Rg.n (by omega), fun _ => hq, fun h9 => absurd h9 (by rw [e1]; omega)⟩
theorem R_back.s {σ : MS} {Q : MQ9} {c : Nat} {M : List Int} (hc : c ≤ 6) (h8 : mV σ 246 8 = (c : Int)) (h0 : c = 0 → Q (.inl (some 0)) (wV σ 246 0 0)) (h1 : 0 < c → mV σ 251 (c - 1) = (M.length : Int) ∧ holA σ 250 (4000 * (c - 1)) M ∧ M.length ≤ 4000 ∧ smB M ∧ Q (.inl (some 1)) (wF (wV (wV (wV σ 246 0 0) 246 8 ((c : Int) - 1)) 246 7 (M.length : Int)) 248 0 M)) : R_back σ Q := by
  refine R_back.i ⟨fun h => ?_, fun h => h0 (by omega)⟩
  have hc0 : 0 < c := by omega
  obtain ⟨a1, a2, a3, a4, a5⟩ := h1 hc0
  have e : (mV σ 246 8 - 1).toNat = c - 1 := by rw [h8]; omega
  refine ⟨by unfold Rg; omega, by omega, by omega, ?_⟩
  rw [e, a1, h8]
  have e8 : mV (wV (wV (wV σ 246 0 0) 246 8 ((c : Int) - 1)) 246 7 (M.length : Int)) 246 8 = (c : Int) - 1 := by rw [wV_ne (Or.inr (by decide)), wV_self]
  refine R_back_39.s (M := M) (by rw [e8]; omega) wV_self (fun i hi => ?_) a3 a4 a5
  rw [e8, show ((c : Int) - 1).toNat = c - 1 by omega, wV_ne (Or.inl (by decide)), wV_ne (Or.inl (by decide)), wV_ne (Or.inl (by decide))]
  exact a2 i hi
/-- one manuscript back: the former ones agree -/
theorem FoR.back {σ σ' : MS} {t c : Nat} (ht : t < 6) (hc : c ≤ 6) (h : FoR σ t c) (h1 : ∀ j, j < 6 → mX σ' (10 + 2 * j) = mX σ (10 + 2 * j)) (h2 : ∀ k, mV σ' 251 k = mV σ 251 k) (h3 : ∀ k, mV σ' 250 k = mV σ 250 k) : FoR σ' ((t + 5) % 6) (c - 1) := by
  intro k hk
  have ei : fI ((t + 5) % 6) (c - 1) k = fI t c k := by
    unfold fI
    have e : ((t + 5) % 6 + 6 - (c - 1) + k) % 6 = (t + 6 - c + k) % 6 := by omega
    rw [e]
  rw [ei]
  exact (h.cg h1 h2 h3) k (by omega)
