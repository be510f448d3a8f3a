/-! SETTLED: two rounds tell alike, the reference -/
/-- what a bank of the reference tells -/
def MkR9 (σ : MS) (n : Nat) (B : BF9) : Prop := (mV σ 285 n = (B.1.1.length : Int) ∧ nmS σ 279 280 12 (60 * n) B.1.1 ∧ nmS σ 281 282 32 (60 * n) B.1.2.1 ∧ ∀ q, q < B.1.1.length → mV σ 283 (60 * n + q) = B.1.2.2.1.getD q 0) ∧ CtR9 σ n B.2.1 ∧ KyR σ n B.2.2.1 ∧ ∀ i, i < B.2.2.1.length → mV σ 296 (100 * n + i) = B.2.2.2.getD i 0
theorem ext_gdL : ∀ {U W : List (List Int)}, U.length = W.length → (∀ j, j < U.length → U.getD j [] = W.getD j []) → U = W
  | [], [], _, _ => rfl
  | [], w :: W, h, _ => by cases h
  | u :: U, [], h, _ => by cases h
  | u :: U, w :: W, h, hj => by
    have e0 : u = w := hj 0 (by show 0 < U.length + 1; omega)
    have := ext_gdL (U := U) (W := W) (Nat.succ.inj h) (fun j h9 => hj (j + 1) (by show j + 1 < U.length + 1; omega))
    rw [e0, this]
section
variable {σ : MS} {Q : MQ9} {nw : Nat} {B B' : BF9}
theorem ras_n349 {l1 l2 l4 : Int} (hnw : nw ≤ 1) (h59 : mV σ 246 59 = (nw : Int)) (hl : Rg l4) (hq : Q (.inl (some 0)) σ) : R_areSettled_349 l1 l2 0 l4 σ Q := R_areSettled_349.i ⟨by omega, by omega, hl, fun _ => b01.i (Or.inl rfl) hq, fun _ => ⟨fun _ => b01.i (Or.inl rfl) hq, fun h => absurd rfl h⟩⟩
theorem ras_n210 {l1 l2 l4 : Int} (hnw : nw ≤ 1) (h59 : mV σ 246 59 = (nw : Int)) (hl : Rg l4) (hq : Q (.inl (some 0)) σ) : R_areSettled_210 l1 l2 0 l4 σ Q := by
  have h3 : R_areSettled_328 0 σ Q := R_areSettled_328.i (ras_n349 hnw h59 (by decide) hq)
  exact R_areSettled_210.i ⟨by omega, by omega, hl, fun _ => h3, fun _ => ⟨fun _ => h3, fun h => absurd rfl h⟩⟩
theorem ras_n72 {l1 l2 l4 : Int} (hnw : nw ≤ 1) (h59 : mV σ 246 59 = (nw : Int)) (hl : Rg l4) (hq : Q (.inl (some 0)) σ) : R_areSettled_72 l1 l2 0 l4 σ Q := by
  have h3 : R_areSettled_207 l1 l2 0 σ Q := R_areSettled_207.i (ras_n210 hnw h59 (by decide) hq)
  exact R_areSettled_72.i ⟨by omega, by omega, hl, fun _ => h3, fun _ => ⟨fun _ => h3, fun h => absurd rfl h⟩⟩
theorem sa_0 {X Y : Prop} {U W : List Int} (h0 : ¬ U = W → X) (h1 : U = W → Y) : (bZ (decide (U = W)) = 0 → X) ∧ (¬ bZ (decide (U = W)) = 0 → Y) := ⟨fun h9 => h0 (of_decide_eq_false (bZ_z h9)), fun h9 => h1 (of_decide_eq_true (bZ_ne h9))⟩
/-- keys -/
theorem ras_349 (hnw : nw ≤ 1) (h59 : mV σ 246 59 = (nw : Int)) (hI : IxB B'.2.2.1 B'.2.2.2) (hI0 : IxB B.2.2.1 B.2.2.2) (h' : MkR9 σ nw B') (h : MkR9 σ (1 - nw) B) (hle : B'.2.2.1.length = B.2.2.1.length) (h1 : (∀ j, j < B'.2.2.1.length → B'.2.2.1.getD j [] = B.2.2.1.getD j [] ∧ B'.2.2.2.getD j 0 = B.2.2.2.getD j 0) → Q (.inl (some 1)) σ) (h0 : ¬ (∀ j, j < B'.2.2.1.length → B'.2.2.1.getD j [] = B.2.2.1.getD j [] ∧ B'.2.2.2.getD j 0 = B.2.2.2.getD j 0) → Q (.inl (some 0)) σ) : ∀ (n k : Nat), k + n = B'.2.2.1.length → (∀ j, j < k → B'.2.2.1.getD j [] = B.2.2.1.getD j [] ∧ B'.2.2.2.getD j 0 = B.2.2.2.getD j 0) → R_areSettled_349 (100 * (nw : Int)) (100 * (1 - (nw : Int))) 1 (k : Int) σ Q := by
  have e298 : mV σ 298 nw = (B'.2.2.1.length : Int) := h'.2.2.1.1
  have l1 := hI.1
  have ar : arN 293 = 140000 := rfl
  intro n
  induction n with
  | zero =>
    intro k hk hj
    refine R_areSettled_349.i ?_
    rw [h59, Int.toNat_natCast, e298]
    exact ⟨by omega, by omega, by unfold Rg; omega, fun _ => b01.i (Or.inr rfl) (h1 (fun j h9 => hj j (by omega))), fun h9 => absurd h9 (by omega)⟩
  | succ n ih =>
    intro k hk hj
    have hkl : k < B'.2.2.1.length := by omega
    obtain ⟨a1, a2, a3⟩ := h'.2.2.1.2 k hkl
    obtain ⟨b1, b2, b3⟩ := h.2.2.1.2 k (by omega)
    have p1 := h'.2.2.2 k hkl
    have p2 := h.2.2.2 k (by omega)
    have s1 := suM_at9 hkl
    have s2 := suM_at9 (K := B.2.2.1) (i := k) (by omega)
    have t1 := hI.2.2.1
    have t2 := hI0.2.2.1
    have no : ¬ (B'.2.2.1.getD k [] = B.2.2.1.getD k [] ∧ B'.2.2.2.getD k 0 = B.2.2.2.getD k 0) → R_areSettled_438 (100 * (nw : Int)) (100 * (1 - (nw : Int))) (k : Int) σ Q := fun hne => R_areSettled_438.i (R_areSettled_439.i (ras_n349 hnw h59 (by unfold Rg; omega) (h0 (fun h9 => hne (h9 k hkl)))))
    refine R_areSettled_349.i ?_
    rw [h59, Int.toNat_natCast, e298, show (100 * (nw : Int) + (k : Int)).toNat = 100 * nw + k by omega, show (100 * (1 - (nw : Int)) + (k : Int)).toNat = 100 * (1 - nw) + k by omega, p1, p2, a1, a2, b1, b2]
    refine ⟨by omega, by omega, by unfold Rg; omega, fun h9 => absurd h9 (by omega), fun _ => ⟨fun h9 => absurd h9 (by decide), fun _ => ⟨by omega, by omega, by omega, by omega, fun hp => no (fun h9 => hp h9.2), fun hp => ⟨by omega, by omega, by omega, by omega, by omega, by omega, by omega, by omega, ?_⟩⟩⟩⟩
    refine R_areSame.p (by decide) ⟨by omega, by omega⟩ (by rw [ar]; omega) (by rw [ar]; omega) a3 b3 ?_
    refine sa_0 (fun hc => no (fun h9 => hc h9.1)) (fun hc => R_areSettled_439.i ?_)
    rw [show (k : Int) + 1 = ((k + 1 : Nat) : Int) by omega]
    refine ih (k + 1) (by omega) (fun j h9 => ?_)
    by_cases e : j = k
    · rw [e]
      exact ⟨hc, hp⟩
    · exact hj j (by omega)
end
