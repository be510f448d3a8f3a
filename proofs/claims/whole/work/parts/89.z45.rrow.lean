/-! TABLES: a row's line ends with a sign, the reference -/
section
variable {σ σ0 : MS} {Q : MQ9}
theorem rrw_321 {l1 l2 l3 l5 : Int} {D0 : List Int} (hq : ∀ σ', FrZ [] [160] σ0 σ' → LbR σ' (trB D0) → R_row_357 l1 l2 l3 l5 σ' Q) : ∀ (n : Nat) (D : List Int) (σ : MS), D.length = n → D.length ≤ 399 → FrZ [] [160] σ0 σ → LbR σ D → trB D = trB D0 → R_row_321 l1 l2 l3 l5 σ Q := by
  intro n
  induction n with
  | zero =>
    intro D σ hn h4 hf hL he
    have d0 := List.eq_nil_of_length_eq_zero hn
    have e0 : mV σ 246 160 = 0 := by
      rw [hL.1, d0]
      rfl
    have q0 := hq σ hf (by
      rw [← he, d0]
      rw [d0] at hL
      exact hL)
    refine R_row_321.i ?_
    rw [e0]
    exact ⟨fun _ => q0, fun h => absurd h (by decide)⟩
  | succ n ih =>
    intro D σ hn h4 hf hL he
    obtain ⟨M, c, e⟩ : ∃ M c, D = M ++ [c] := by
      rcases List.eq_nil_or_concat D with h | ⟨M, c, h⟩
      · rw [h] at hn
        cases hn
      · exact ⟨M, c, by rw [h, List.concat_eq_append]⟩
    have lD : D.length = M.length + 1 := by
      rw [e, List.length_append]
      rfl
    have hc : mV σ 338 M.length = c % 128 := by
      have h1 := (hL.2 M.length (by omega)).1
      rw [Nat.zero_add] at h1
      rw [h1, e]
      unfold List.getD
      rw [List.getElem?_append_right (Nat.le_refl _), Nat.sub_self]
      rfl
    have e160 : mV σ 246 160 = ((M.length + 1 : Nat) : Int) := by rw [hL.1, lD]
    refine R_row_321.i ?_
    rw [e160, show ((M.length + 1 : Nat) : Int) - 1 = (M.length : Int) by omega, Int.toNat_natCast, hc]
    refine ⟨fun h => absurd h (by omega), fun _ => ⟨by omega, by omega, fun h => ?_, fun h => ⟨by unfold Rg; omega, ?_⟩⟩⟩
    · have : trB D = D := by
        rw [e, trB_sn, if_neg h]
      refine hq σ hf ?_
      rw [← he, this]
      exact hL
    · have eM : trB D = trB M := by
        rw [e, trB_sn, if_pos h]
      refine ih M _ (by omega) (by omega) (hf.tr (FrZ.wf (by decide))) ⟨wV_self, fun i hi => ?_⟩ (eM.symm.trans he)
      have h1 := hL.2 i (by omega)
      have h2 : D.getD i 0 = M.getD i 0 := by
        rw [e]
        exact app_gd hi
      rw [h2] at h1
      rw [wV_ne (Or.inl (by decide)), wV_ne (Or.inl (by decide))]
      exact h1
end
