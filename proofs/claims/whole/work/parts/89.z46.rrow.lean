/-! TABLES: where a row's cells begin, the reference -/
section
variable {σ σ0 : MS} {Q : MQ9}
theorem rrw_25 {l2 : Int} {r c0 m : Nat} {f : Nat → Int} (hr : r < 4002) (h344 : mV σ0 344 r = (c0 : Int)) (hm : m ≤ 8) (hc : c0 + m ≤ 4200) (hf9 : ∀ k, k < m → mV σ0 342 (c0 + k) = f k) (hq : ∀ σ', FrZ [347] [] σ0 σ' → (∀ k, k < m → mV σ' 347 k = f k) → R_row_61 (r : Int) l2 (m : Int) 1 σ' Q) : ∀ (n k : Nat) (σ : MS), k + n = m → FrZ [347] [] σ0 σ → (∀ j, j < k → mV σ 347 j = f j) → R_row_25 (r : Int) l2 (m : Int) (k : Int) σ Q := by
  intro n
  induction n with
  | zero =>
    intro k σ hk hf hv
    rw [show k = m by omega] at hv ⊢
    exact R_row_25.i ⟨by unfold Rg; omega, by unfold Rg; omega, fun _ => hq σ hf hv, fun h => absurd h (by omega)⟩
  | succ n ih =>
    intro k σ hk hf hv
    have z : ∀ y j, y ≠ 347 → y ≠ 246 → mV σ y j = mV σ0 y j := fun y j a b => hf.z (by rw [List.mem_singleton]; exact a) b
    refine R_row_25.i ⟨by unfold Rg; omega, by unfold Rg; omega, fun h => absurd h (by omega), fun _ => ?_⟩
    rw [Int.toNat_natCast, z 344 r (by decide) (by decide), h344, show (c0 : Int) + (k : Int) = ((c0 + k : Nat) : Int) by omega, Int.toNat_natCast, Int.toNat_natCast, z 342 _ (by decide) (by decide), hf9 k (by omega)]
    refine ⟨by omega, by omega, by omega, by omega, by omega, by omega, ?_⟩
    rw [show (k : Int) + 1 = ((k + 1 : Nat) : Int) by omega]
    refine ih (k + 1) _ (by omega) (hf.tr (FrZ.wz (by decide))) (fun j hj => ?_)
    by_cases e : j = k
    · rw [e, wV_self]
    · rw [wV_ne (Or.inr e)]
      exact hv j (by omega)
end
