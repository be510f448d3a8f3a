/-! SETTLED: rows compared, the reference -/
theorem ext_gd9 : ∀ {U W : List Int}, U.length = W.length → (∀ j, j < U.length → U.getD j 0 = W.getD j 0) → U = W
  | [], [], _, _ => rfl
  | [], w :: W, h, _ => by cases h
  | u :: U, [], h, _ => by cases h
  | u :: U, w :: W, h, hj => by
    have e0 : u = w := hj 0 (by show 0 < U.length + 1; omega)
    have := ext_gd9 (U := U) (W := W) (Nat.succ.inj h) (fun j h9 => hj (j + 1) (by show j + 1 < U.length + 1; omega))
    rw [e0, this]
section
variable {σ : MS} {Q : MQ9} {z a b : Nat} {U W : List Int}
theorem R_areSame.p (hz : isBy z = true) (hl : U.length ≤ 100000 ∧ W.length ≤ 100000) (ha : a + U.length ≤ arN z) (hb : b + W.length ≤ arN z) (hA : holA σ z a U) (hB : holA σ z b W) (hq : Q (.inl (some (bZ (decide (U = W))))) σ) : R_areSame z (a : Int) (U.length : Int) (b : Int) (W.length : Int) σ Q := by
  refine R_areSame.i ⟨by unfold Rg; omega, by unfold Rg; omega, fun hne => R_areSame_11.i ?_, fun he => R_areSame_11.i ?_⟩
  · rw [decide_eq_false (fun e => hne (by rw [e]))] at hq
    exact R_areSame_16.i ⟨by decide, by unfold Rg; omega, fun _ => b01.i (Or.inl rfl) hq, fun _ => ⟨fun _ => b01.i (Or.inl rfl) hq, fun h9 => absurd rfl h9⟩⟩
  · have he : U.length = W.length := by omega
    have go : ∀ (n k : Nat), k + n = U.length → (∀ j, j < k → U.getD j 0 = W.getD j 0) → R_areSame_16 z (a : Int) (U.length : Int) (b : Int) 1 (k : Int) σ Q := by
      intro n
      induction n with
      | zero =>
        intro k hk hj
        have e : U = W := ext_gd9 he (fun j h9 => hj j (by omega))
        rw [decide_eq_true e] at hq
        exact R_areSame_16.i ⟨by unfold Rg; omega, by unfold Rg; omega, fun _ => b01.i (Or.inr rfl) hq, fun h => absurd h (by omega)⟩
      | succ n ih =>
        intro k hk hj
        have eA := hA k (by omega)
        have eB := hB k (by omega)
        refine R_areSame_16.i ⟨by unfold Rg; omega, by unfold Rg; omega, fun h => absurd h (by omega), fun _ => ⟨fun h => absurd h (by decide), fun _ => tB.i hz ⟨by omega, by omega, tB.i hz ⟨by omega, by omega, ?_⟩⟩⟩⟩
        rw [show ((a : Int) + (k : Int)).toNat = a + k by omega, show ((b : Int) + (k : Int)).toNat = b + k by omega, eA, eB]
        refine ⟨fun h9 => R_areSame_47.i ?_, fun h9 => R_areSame_47.i ?_⟩
        · rw [decide_eq_false (fun e => h9 (by rw [e]))] at hq
          exact R_areSame_16.i ⟨by unfold Rg; omega, by unfold Rg; omega, fun _ => b01.i (Or.inl rfl) hq, fun _ => ⟨fun _ => b01.i (Or.inl rfl) hq, fun h8 => absurd rfl h8⟩⟩
        · rw [show (k : Int) + 1 = ((k + 1 : Nat) : Int) by omega]
          refine ih (k + 1) (by omega) (fun j h8 => ?_)
          by_cases e : j = k
          · rw [e]
            exact h9
          · exact hj j (by omega)
    exact go U.length 0 (by omega) (fun j h => absurd h (Nat.not_lt_zero _))
end
