/-! ITEMS: the class counts them -/
def FrC9 (σ σ' : MS) : Prop := mX σ' = mX σ ∧ σ'.2.2 = σ.2.2 ∧ ∀ z k, z ≠ 211 → mV σ' z k = mV σ z k
section
variable {σ σ0 : MS} {Q : MQ9}
theorem ite_58 {l1 l2 l4 l5 : Int} {s : Nat} (hs : s ≤ 3) (hq : ∀ σ', FrC9 σ0 σ' → (∀ k, k < 3 → mV σ' 211 k = if k < s then mV σ0 211 k else 0) → Setter_beginItem_58 l1 l2 l4 l5 3 σ' Q) : ∀ (n j : Nat) (σ : MS), j + n = 3 → s ≤ j → FrC9 σ0 σ → (∀ k, k < 3 → mV σ 211 k = if k < s then mV σ0 211 k else if k < j then 0 else mV σ0 211 k) → Setter_beginItem_58 l1 l2 l4 l5 (j : Int) σ Q := by
  intro n
  induction n with
  | zero =>
    intro j σ hj hsj hf hc
    have e : j = 3 := by omega
    rw [e] at hc ⊢
    exact hq σ hf (fun k hk => by
      rw [hc k hk]
      by_cases h : k < s
      · rw [if_pos h, if_pos h]
      · rw [if_neg h, if_neg h, if_pos hk])
  | succ n ih =>
    intro j σ hj hsj hf hc
    refine Setter_beginItem_58.i ⟨by unfold Rg; omega, fun h => absurd h (by omega), fun _ => ⟨by omega, by omega, ?_⟩⟩
    rw [Int.toNat_natCast, show (j : Int) + 1 = ((j + 1 : Nat) : Int) by omega]
    refine ih (j + 1) _ (by omega) (by omega) ⟨hf.1, hf.2.1, fun z k h => (wV_ne (Or.inl h)).trans (hf.2.2 z k h)⟩ (fun k hk => ?_)
    by_cases e : k = j
    · rw [e, wV_self, if_neg (by omega), if_pos (by omega)]
    · rw [wV_ne (Or.inr e), hc k hk]
      by_cases h : k < s
      · rw [if_pos h, if_pos h]
      · rw [if_neg h, if_neg h]
        by_cases h2 : k < j
        · rw [if_pos h2, if_pos (by omega)]
        · rw [if_neg h2, if_neg (by omega)]
theorem ite_44 {l1 l2 l4 : Int} {d : Nat} {jo : Bool} {cn : List Int} (hd : d ≤ 2) (hcn : cn.length = 3) (hc : hol σ 211 cn) (hq : ∀ σ', FrC9 σ σ' → hol σ' 211 (itC cn d jo) → Setter_beginItem_58 l1 l2 l4 (d : Int) 3 σ' Q) : Setter_beginItem_44 l1 l2 (bZ jo) l4 (d : Int) σ Q := by
  have go : ∀ s : Nat, s ≤ 3 → s = (if jo = true then d + 1 else 0) → Setter_beginItem_56 l1 l2 l4 (d : Int) (s : Int) σ Q := fun s hs e => by
    refine Setter_beginItem_56.i (ite_58 hs (fun σ' f h => hq σ' f (fun k hk => ?_)) (3 - s) s σ (by omega) (Nat.le_refl _) ⟨rfl, rfl, fun _ _ _ => rfl⟩ (fun k hk => ?_))
    · unfold itC at hk ⊢
      rw [ofF_len] at hk
      rw [ofF_get hk, h k hk]
      cases jo
      · have e : s = 0 := e
        rw [if_neg (by omega), if_neg (fun h => absurd h.1 (by decide))]
      · have e : s = d + 1 := e
        by_cases h2 : k ≤ d
        · rw [if_pos (by omega), if_pos ⟨rfl, h2⟩]
          exact hc k (by omega)
        · rw [if_neg (by omega), if_neg (fun h => h2 h.2)]
    · by_cases h : k < s
      · rw [if_pos h]
      · rw [if_neg h, if_neg h]
  refine Setter_beginItem_44.i ⟨by cases jo <;> decide, fun h => ?_, fun h => ?_⟩
  · have := go 0 (by omega) (by rw [bZ_z h]; rfl)
    exact this
  · have := go (d + 1) (by omega) (by rw [bZ_ne h]; rfl)
    exact this
end
