/-! REMEMBERING THE MANUSCRIPT -/
theorem i_ne {i n : Nat} (h : i < n) : ¬ (n : Int) ≤ (i : Int) := by omega
/-- the reference's older manuscripts, the oldest gone -/
def rm1 (σ : MS) : MS := wV (wF (wF σ 250 0 (ofF (fun i => b8 (mV σ 250 (i + 4000))) 20000)) 251 0 (ofF (fun i => mV σ 251 (i + 1)) 5)) 246 8 5
/-- one more -/
def rm2 (σ : MS) (M : List Int) : MS := wV (wV (wF σ 250 (4000 * (mV σ 246 8).toNat) M) 251 (mV σ 246 8).toNat (M.length : Int)) 246 8 (mV σ 246 8 + 1)
theorem R_remembers_74.s {σ : MS} {Q : MQ9} {M : List Int} (h8 : 0 ≤ mV σ 246 8 ∧ mV σ 246 8 < 6) (h7 : mV σ 246 7 = (M.length : Int)) (hM : hol σ 248 M) (hl : M.length ≤ 4000) (hb : smB M) (hq : Q (.inl none) (rm2 σ M)) : R_remembers_74 0 σ Q := by
  refine loopF (z := 250) (a := 4000 * (mV σ 246 8).toNat) (n := M.length) (f := fun i => M.getD i 0) (P := fun i s => R_remembers_74 i s Q) (fun i hi h => ?_) ?_
  · have e1 : mV (wF σ 250 (4000 * (mV σ 246 8).toNat) (ofF (fun i => M.getD i 0) i)) 246 7 = (M.length : Int) := by rw [wF_ne (Or.inl (by decide)), h7]
    have e2 : mV (wF σ 250 (4000 * (mV σ 246 8).toNat) (ofF (fun i => M.getD i 0) i)) 246 8 = mV σ 246 8 := wF_ne (Or.inl (by decide))
    have e3 : mV (wF σ 250 (4000 * (mV σ 246 8).toNat) (ofF (fun i => M.getD i 0) i)) 248 i = M.getD i 0 := by rw [wF_ne (Or.inl (by decide))]; exact hM i hi
    refine R_remembers_74.i ⟨Rg.n (by omega), fun h9 => absurd h9 (by rw [e1]; omega), fun _ => ⟨by omega, by omega, by rw [e2]; omega, by rw [e2]; omega, ?_⟩⟩
    rw [e2, show ((i : Int)).toNat = i from rfl, e3, hb.at hi, show (4000 * mV σ 246 8 + (i : Int)).toNat = 4000 * (mV σ 246 8).toNat + i by omega]
    exact h
  · rw [ofF_list]
    have e1 : mV (wF σ 250 (4000 * (mV σ 246 8).toNat) M) 246 7 = (M.length : Int) := by rw [wF_ne (Or.inl (by decide)), h7]
    have e2 : mV (wF σ 250 (4000 * (mV σ 246 8).toNat) M) 246 8 = mV σ 246 8 := wF_ne (Or.inl (by decide))
    refine R_remembers_74.i ⟨Rg.n (by omega), fun _ => ⟨by rw [e2]; omega, by rw [e2]; omega, by rw [e2]; unfold Rg; omega, ?_⟩, fun h9 => absurd h9 (by rw [e1]; omega)⟩
    rw [e1, e2]
    exact hq
theorem R_remembers_42.s {σ : MS} {Q : MQ9} (h : R_remembers_72 (wV (wF σ 251 0 (ofF (fun i => mV σ 251 (i + 1)) 5)) 246 8 5) Q) : R_remembers_42 0 σ Q := by
  refine loopF (z := 251) (a := 0) (n := 5) (f := fun i => mV σ 251 (i + 1)) (P := fun i s => R_remembers_42 i s Q) (fun i hi h => ?_) ?_
  · have e1 : mV (wF σ 251 0 (ofF (fun i => mV σ 251 (i + 1)) i)) 251 (i + 1) = mV σ 251 (i + 1) := wF_ne (Or.inr (Or.inr (by rw [ofF_len]; omega)))
    refine R_remembers_42.i ⟨Rg.n (by omega), fun h9 => absurd h9 (by omega), fun _ => ⟨by omega, by omega, by omega, by omega, ?_⟩⟩
    rw [show ((i : Int)).toNat = i from rfl, show ((i : Int) + 1).toNat = i + 1 from rfl, e1]
    rw [Nat.zero_add] at h
    exact h
  · exact R_remembers_42.i ⟨Rg.n (by omega), fun _ => h, fun h9 => absurd h9 (by omega)⟩
theorem R_remembers_11.s {σ : MS} {Q : MQ9} (h : R_remembers_42 0 (wF σ 250 0 (ofF (fun i => b8 (mV σ 250 (i + 4000))) 20000)) Q) : R_remembers_11 0 σ Q := by
  refine loopF (z := 250) (a := 0) (n := 20000) (f := fun i => b8 (mV σ 250 (i + 4000))) (P := fun i s => R_remembers_11 i s Q) (fun i hi h => ?_) ?_
  · have e1 : mV (wF σ 250 0 (ofF (fun i => b8 (mV σ 250 (i + 4000))) i)) 250 (i + 4000) = mV σ 250 (i + 4000) := wF_ne (Or.inr (Or.inr (by rw [ofF_len]; omega)))
    refine R_remembers_11.i ⟨Rg.n (by omega), fun h9 => absurd h9 (by omega), fun _ => ⟨by omega, by omega, by omega, by omega, ?_⟩⟩
    rw [show ((i : Int)).toNat = i from rfl, show ((i : Int) + 4000).toNat = i + 4000 by omega, e1]
    rw [Nat.zero_add] at h
    exact h
  · exact R_remembers_11.i ⟨Rg.n (by omega), fun _ => h, fun h9 => absurd h9 (by omega)⟩
/-- the reference remembers -/
theorem R_remembers.s {σ : MS} {Q : MQ9} {M : List Int} (h8 : 0 ≤ mV σ 246 8 ∧ mV σ 246 8 ≤ 6) (h7 : mV σ 246 7 = (M.length : Int)) (hM : hol σ 248 M) (hl : M.length ≤ 4000) (hb : smB M) (hq : Q (.inl none) (rm2 (if mV σ 246 8 = 6 then rm1 σ else σ) M)) : R_remembers σ Q := by
  refine R_remembers.i ⟨fun h => ?_, fun h => ?_⟩
  · rw [if_neg h] at hq
    exact R_remembers_72.i (R_remembers_74.s (by omega) h7 hM hl hb hq)
  · rw [if_pos h] at hq
    refine R_remembers_11.s (R_remembers_42.s (R_remembers_72.i (R_remembers_74.s (M := M) ?_ ?_ ?_ hl hb ?_)))
    · rw [wV_self]; omega
    · rw [wV_ne (Or.inr (by decide)), wF_ne (Or.inl (by decide)), wF_ne (Or.inl (by decide))]; exact h7
    · exact hol.V (hol.F' (hol.F' hM (by decide)) (by decide)) (by decide)
    · have e : wF σ 250 0 (ofF (fun i => b8 (mV σ 250 (i + 4000))) 20000) = wF σ 250 0 (ofF (fun i => b8 (mV σ 250 (i + 4000))) 20000) := rfl
      have e2 : (fun i => mV (wF σ 250 0 (ofF (fun i => b8 (mV σ 250 (i + 4000))) 20000)) 251 (i + 1)) = fun i => mV σ 251 (i + 1) := by
        funext i
        exact wF_ne (Or.inl (by decide))
      rw [e2]
      exact hq
/-- the class remembers -/
theorem ring_ok : ∀ t, t < 6 → isRow (10 + 2 * t) = true ∧ neB 3 (10 + 2 * t) = true ∧ neB (10 + 2 * t) 3 = true ∧ capOf (10 + 2 * t) = 4096 := by decide +kernel
theorem T_remember.s {σ : MS} {Q : MQ9} {t : Nat} (ht : t < 6) (h6 : mV σ 0 6 = (t : Int)) (h5 : 0 ≤ mV σ 0 5 ∧ mV σ 0 5 ≤ 6) (hl : (mX σ 3).length ≤ 4096) (hq : Q (.inl none) (wV (wV (wX σ (10 + 2 * t) (mX σ 3)) 0 6 (((t + 1) % 6 : Nat) : Int)) 0 5 (min 6 (mV σ 0 5 + 1)))) : T_remember σ Q := by
  obtain ⟨r1, r2, -, r3⟩ := ring_ok t ht
  have e : (mV σ 0 6).toNat = t := by rw [h6]; rfl
  refine T_remember.i ⟨by omega, by omega, ?_⟩
  rw [e]
  refine tB.i r1 (tB.i r1 (tB.i r2 ⟨by rw [r3]; exact hl, by unfold Rg; omega, by omega, by unfold Rg; omega, ?_⟩))
  rw [h6, show Int.tmod ((t : Int) + 1) 6 = (((t + 1) % 6 : Nat) : Int) by rw [Int.tmod_eq_emod_of_nonneg (by omega)]; omega]
  exact hq
