/-! SETTLED: the reference -/
section
variable {σ : MS} {Q : MQ9} {nw : Nat} {B B' : BF9}
theorem R_areSettled.p (hnw : nw ≤ 1) (h59 : mV σ 246 59 = (nw : Int)) (hI : BfI B') (hI0 : BfI B) (h' : MkR9 σ nw B') (h : MkR9 σ (1 - nw) B) (hq : Q (.inl (some (bZ (lkB B' B)))) σ) : R_areSettled σ Q := by
  have no : ¬ (B'.1.1 = B.1.1 ∧ B'.1.2.1 = B.1.2.1 ∧ B'.1.2.2.1 = B.1.2.2.1 ∧ B'.2.1.1 = B.2.1.1 ∧ B'.2.1.2.1 = B.2.1.2.1 ∧ B'.2.1.2.2 = B.2.1.2.2 ∧ B'.2.2.1 = B.2.2.1 ∧ B'.2.2.2 = B.2.2.2) → Q (.inl (some 0)) σ := fun c => by
    have e : lkB B' B = false := decide_eq_false c
    rw [e] at hq
    exact hq
  have key : ∀ (z x y : Nat), mV σ z nw = (x : Int) → mV σ z (1 - nw) = (y : Int) → (mV σ z 0 = mV σ z 1 ↔ x = y) := fun z x y e1 e2 => by
    have : nw = 0 ∨ nw = 1 := by omega
    rcases this with rfl | rfl
    · rw [e1, show mV σ z 1 = (y : Int) from e2]
      omega
    · rw [e1, show mV σ z 0 = (y : Int) from e2]
      omega
  have k1 := key 285 _ _ h'.1.1 h.1.1
  have k2 := key 292 _ _ h'.2.1.1 h.2.1.1
  have k3 := key 298 _ _ h'.2.2.1.1 h.2.2.1.1
  have n67 : Q (.inl (some 0)) σ → R_areSettled_67 (60 * (nw : Int)) (60 * (1 - (nw : Int))) σ Q := fun h9 => R_areSettled_67.i (R_areSettled_68.i (ras_n72 hnw h59 (by decide) h9))
  refine R_areSettled.i ?_
  rw [h59]
  refine ⟨by decide, by decide, by decide, by decide, fun c => n67 (no (fun h9 => c (k1.mpr (by rw [h9.1])))), fun c1 => ⟨by decide, by decide, by decide, by decide, fun c => n67 (no (fun h9 => c (k2.mpr (by rw [h9.2.2.2.1])))), fun c2 => ⟨by decide, by decide, by decide, by decide, fun c => n67 (no (fun h9 => c (k3.mpr (by rw [h9.2.2.2.2.2.2.1])))), fun c3 => R_areSettled_68.i ?_⟩⟩⟩
  have e1 := k1.mp c1
  have e2 := k2.mp c2
  have e3 := k3.mp c3
  refine ras_72 hnw h59 hI hI0 h' h e1 (fun q1 => R_areSettled_207.i ?_) (fun q1 => no (fun h9 => q1 (fun j _ => ⟨by rw [h9.1], by rw [h9.2.1], by rw [h9.2.2.1]⟩))) B'.1.1.length 0 (by omega) (fun j h9 => absurd h9 (Nat.not_lt_zero _))
  refine ras_210 hnw h59 hI.2.1 hI0.2.1 h' h e2 (fun q2 => R_areSettled_328.i ?_) (fun q2 => no (fun h9 => q2 (fun j _ => ⟨by rw [h9.2.2.2.1], by rw [h9.2.2.2.2.1], by rw [h9.2.2.2.2.2.1]⟩))) B'.2.1.1.length 0 (by omega) (fun j h9 => absurd h9 (Nat.not_lt_zero _))
  rw [h59]
  refine ras_349 hnw h59 hI.2.2.1 hI0.2.2.1 h' h e3 (fun q3 => ?_) (fun q3 => no (fun h9 => q3 (fun j _ => ⟨by rw [h9.2.2.2.2.2.2.1], by rw [h9.2.2.2.2.2.2.2]⟩))) B'.2.2.1.length 0 (by omega) (fun j h9 => absurd h9 (Nat.not_lt_zero _))
  have a1 := hI.1.1
  have a2 := hI.1.2.1
  have b1 := hI0.1.1
  have b2 := hI0.1.2.1
  have a3 := hI.2.1.2.1
  have a4 := hI.2.1.2.2.1
  have b3 := hI0.2.1.2.1
  have b4 := hI0.2.1.2.2.1
  have a5 := hI.2.2.1.2.1
  have b5 := hI0.2.2.1.2.1
  have e : lkB B' B = true := decide_eq_true ⟨ext_gdL e1 (fun j h9 => (q1 j h9).1), ext_gdL (by omega) (fun j h9 => (q1 j (by omega)).2.1), ext_gd9 (by omega) (fun j h9 => (q1 j (by omega)).2.2), ext_gdL e2 (fun j h9 => (q2 j h9).1), ext_gd9 (by omega) (fun j h9 => (q2 j (by omega)).2.1), ext_gd9 (by omega) (fun j h9 => (q2 j (by omega)).2.2), ext_gdL e3 (fun j h9 => (q3 j h9).1), ext_gd9 (by omega) (fun j h9 => (q3 j (by omega)).2)⟩
  rw [e] at hq
  exact hq
end
