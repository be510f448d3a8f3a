/-! SETTLED: headings and labels, the reference -/
section
variable {σ : MS} {Q : MQ9} {nw : Nat} {B B' : BF9}
/-- headings -/
theorem ras_210 (hnw : nw ≤ 1) (h59 : mV σ 246 59 = (nw : Int)) (hI : CtB B'.2.1) (hI0 : CtB B.2.1) (h' : MkR9 σ nw B') (h : MkR9 σ (1 - nw) B) (hle : B'.2.1.1.length = B.2.1.1.length) (h1 : (∀ j, j < B'.2.1.1.length → B'.2.1.1.getD j [] = B.2.1.1.getD j [] ∧ B'.2.1.2.1.getD j 0 = B.2.1.2.1.getD j 0 ∧ B'.2.1.2.2.getD j 0 = B.2.1.2.2.getD j 0) → R_areSettled_328 1 σ Q) (h0 : ¬ (∀ j, j < B'.2.1.1.length → B'.2.1.1.getD j [] = B.2.1.1.getD j [] ∧ B'.2.1.2.1.getD j 0 = B.2.1.2.1.getD j 0 ∧ B'.2.1.2.2.getD j 0 = B.2.1.2.2.getD j 0) → Q (.inl (some 0)) σ) : ∀ (n k : Nat), k + n = B'.2.1.1.length → (∀ j, j < k → B'.2.1.1.getD j [] = B.2.1.1.getD j [] ∧ B'.2.1.2.1.getD j 0 = B.2.1.2.1.getD j 0 ∧ B'.2.1.2.2.getD j 0 = B.2.1.2.2.getD j 0) → R_areSettled_210 (60 * (nw : Int)) (60 * (1 - (nw : Int))) 1 (k : Int) σ Q := by
  have e292 : mV σ 292 nw = (B'.2.1.1.length : Int) := h'.2.1.1
  have l1 := hI.1
  have ar : arN 286 = 140000 := rfl
  intro n
  induction n with
  | zero =>
    intro k hk hj
    refine R_areSettled_210.i ?_
    rw [h59, Int.toNat_natCast, e292]
    exact ⟨by omega, by omega, by unfold Rg; omega, fun _ => h1 (fun j h9 => hj j (by omega)), fun h9 => absurd h9 (by omega)⟩
  | succ n ih =>
    intro k hk hj
    have hkl : k < B'.2.1.1.length := by omega
    obtain ⟨a1, a2, a3, a4, a5⟩ := h'.2.1.2 k hkl
    obtain ⟨b1, b2, b3, b4, b5⟩ := h.2.1.2 k (by omega)
    have s1 := suM_at9 hkl
    have s2 := suM_at9 (K := B.2.1.1) (i := k) (by omega)
    have t1 := hI.2.2.2.1
    have t2 := hI0.2.2.2.1
    have no : ¬ (B'.2.1.1.getD k [] = B.2.1.1.getD k [] ∧ B'.2.1.2.1.getD k 0 = B.2.1.2.1.getD k 0 ∧ B'.2.1.2.2.getD k 0 = B.2.1.2.2.getD k 0) → R_areSettled_320 (60 * (nw : Int)) (60 * (1 - (nw : Int))) (k : Int) σ Q := fun hne => R_areSettled_320.i (R_areSettled_321.i (ras_n210 hnw h59 (by unfold Rg; omega) (h0 (fun h9 => hne (h9 k hkl)))))
    refine R_areSettled_210.i ?_
    rw [h59, Int.toNat_natCast, e292, show (60 * (nw : Int) + (k : Int)).toNat = 60 * nw + k by omega, show (60 * (1 - (nw : Int)) + (k : Int)).toNat = 60 * (1 - nw) + k by omega, a1, a2, a4, a5, b1, b2, b4, b5]
    refine ⟨by omega, by omega, by unfold Rg; omega, fun h9 => absurd h9 (by omega), fun _ => ⟨fun h9 => absurd h9 (by decide), fun _ => ⟨by omega, by omega, by omega, by omega, fun hp => no (fun h9 => hp h9.2.2), fun hp => ⟨by omega, by omega, by omega, by omega, fun hv => no (fun h9 => hv h9.2.1), fun hv => ⟨by omega, by omega, by omega, by omega, by omega, by omega, by omega, by omega, ?_⟩⟩⟩⟩⟩
    refine R_areSame.p (by decide) ⟨by omega, by omega⟩ (by rw [ar]; omega) (by rw [ar]; omega) a3 b3 ?_
    refine sa_0 (fun hc => no (fun h9 => hc h9.1)) (fun hc => R_areSettled_321.i ?_)
    rw [show (k : Int) + 1 = ((k + 1 : Nat) : Int) by omega]
    refine ih (k + 1) (by omega) (fun j h9 => ?_)
    by_cases e : j = k
    · rw [e]
      exact ⟨hc, hv, hp⟩
    · exact hj j (by omega)
/-- labels -/
theorem ras_72 (hnw : nw ≤ 1) (h59 : mV σ 246 59 = (nw : Int)) (hI : BfI B') (hI0 : BfI B) (h' : MkR9 σ nw B') (h : MkR9 σ (1 - nw) B) (hle : B'.1.1.length = B.1.1.length) (h1 : (∀ j, j < B'.1.1.length → B'.1.1.getD j [] = B.1.1.getD j [] ∧ B'.1.2.1.getD j [] = B.1.2.1.getD j [] ∧ B'.1.2.2.1.getD j 0 = B.1.2.2.1.getD j 0) → R_areSettled_207 (60 * (nw : Int)) (60 * (1 - (nw : Int))) 1 σ Q) (h0 : ¬ (∀ j, j < B'.1.1.length → B'.1.1.getD j [] = B.1.1.getD j [] ∧ B'.1.2.1.getD j [] = B.1.2.1.getD j [] ∧ B'.1.2.2.1.getD j 0 = B.1.2.2.1.getD j 0) → Q (.inl (some 0)) σ) : ∀ (n k : Nat), k + n = B'.1.1.length → (∀ j, j < k → B'.1.1.getD j [] = B.1.1.getD j [] ∧ B'.1.2.1.getD j [] = B.1.2.1.getD j [] ∧ B'.1.2.2.1.getD j 0 = B.1.2.2.1.getD j 0) → R_areSettled_72 (60 * (nw : Int)) (60 * (1 - (nw : Int))) 1 (k : Int) σ Q := by
  obtain ⟨c1, c2, c3, c4⟩ := h'.1
  obtain ⟨d1, d2, d3, d4⟩ := h.1
  have l1 := hI.1.2.2.1
  have r1 := hI.1.1
  have r2 := hI0.1.1
  have ar : arN 279 = 1440 := rfl
  have ar2 : arN 281 = 3840 := rfl
  intro n
  induction n with
  | zero =>
    intro k hk hj
    refine R_areSettled_72.i ?_
    rw [h59, Int.toNat_natCast, c1]
    exact ⟨by omega, by omega, by unfold Rg; omega, fun _ => h1 (fun j h9 => hj j (by omega)), fun h9 => absurd h9 (by omega)⟩
  | succ n ih =>
    intro k hk hj
    have hkl : k < B'.1.1.length := by omega
    obtain ⟨a1, a2⟩ := c2 k hkl
    obtain ⟨a3, a4⟩ := c3 k (by omega)
    obtain ⟨b1, b2⟩ := d2 k (by omega)
    obtain ⟨b3, b4⟩ := d3 k (by omega)
    have p1 := c4 k hkl
    have p2 := d4 k (by omega)
    have w1 := (smW.at hI.1.2.2.2.1 k).1
    have w2 := (smW.at hI0.1.2.2.2.1 k).1
    have w3 := (smW.at hI.1.2.2.2.2.1 k).1
    have w4 := (smW.at hI0.1.2.2.2.2.1 k).1
    have no : ¬ (B'.1.1.getD k [] = B.1.1.getD k [] ∧ B'.1.2.1.getD k [] = B.1.2.1.getD k [] ∧ B'.1.2.2.1.getD k 0 = B.1.2.2.1.getD k 0) → R_areSettled_199 (60 * (nw : Int)) (60 * (1 - (nw : Int))) (k : Int) σ Q := fun hne => R_areSettled_199.i (R_areSettled_200.i (ras_n72 hnw h59 (by unfold Rg; omega) (h0 (fun h9 => hne (h9 k hkl)))))
    refine R_areSettled_72.i ?_
    rw [h59, Int.toNat_natCast, c1, show (60 * (nw : Int) + (k : Int)).toNat = 60 * nw + k by omega, show (60 * (1 - (nw : Int)) + (k : Int)).toNat = 60 * (1 - nw) + k by omega, p1, p2, a1, b1, show 12 * (60 * (nw : Int) + (k : Int)) = ((12 * (60 * nw + k) : Nat) : Int) by omega, show 12 * (60 * (1 - (nw : Int)) + (k : Int)) = ((12 * (60 * (1 - nw) + k) : Nat) : Int) by omega]
    refine ⟨by omega, by omega, by unfold Rg; omega, fun h9 => absurd h9 (by omega), fun _ => ⟨fun h9 => absurd h9 (by decide), fun _ => ⟨by omega, by omega, by omega, by omega, fun hp => no (fun h9 => hp h9.2.2), fun hp => ⟨by omega, by omega, by omega, by omega, ?_⟩⟩⟩⟩
    refine R_areSame.p (by decide) ⟨by omega, by omega⟩ (by rw [ar]; omega) (by rw [ar]; omega) a2 b2 ?_
    refine sa_0 (fun hc => no (fun h9 => hc h9.1)) (fun hc => ⟨by omega, by omega, by omega, by omega, ?_⟩)
    rw [a3, b3, show 32 * (60 * (nw : Int) + (k : Int)) = ((32 * (60 * nw + k) : Nat) : Int) by omega, show 32 * (60 * (1 - (nw : Int)) + (k : Int)) = ((32 * (60 * (1 - nw) + k) : Nat) : Int) by omega]
    refine R_areSame.p (by decide) ⟨by omega, by omega⟩ (by rw [ar2]; omega) (by rw [ar2]; omega) a4 b4 ?_
    refine sa_0 (fun hd => no (fun h9 => hd h9.2.1)) (fun hd => R_areSettled_200.i ?_)
    rw [show (k : Int) + 1 = ((k + 1 : Nat) : Int) by omega]
    refine ih (k + 1) (by omega) (fun j h9 => ?_)
    by_cases e : j = k
    · rw [e]
      exact ⟨hc, hd, hp⟩
    · exact hj j (by omega)
end
