/-! TABLES: the reference narrows columns -/
section
variable {σ σ0 : MS} {Q : MQ9} {W : List Int} {c : Nat}
/-- more turns than needed change nothing -/
theorem nwF_mo {wide : Int} (hw : 0 ≤ wide) (hc : 1 ≤ c ∧ c ≤ 8) : ∀ (n m : Nat) (W : List Int), W.length = 8 → (nwS W c ≤ n) → (nwS W c ≤ m) → nwF wide c n W = nwF wide c m W
  | 0, 0, W, _, _, _ => rfl
  | 0, m + 1, W, _, h1, _ => by
    unfold nwF
    rw [if_pos (by omega)]
  | n + 1, 0, W, _, _, h2 => by
    unfold nwF
    rw [if_pos (by omega)]
  | n + 1, m + 1, W, hl, h1, h2 => by
    unfold nwF
    by_cases h3 : nwS W c ≤ wide
    · rw [if_pos h3, if_pos h3]
    · rw [if_neg h3, if_neg h3]
      by_cases h4 : W.getD (nwX W c) 0 ≤ 1
      · rw [if_pos h4, if_pos h4]
      · rw [if_neg h4, if_neg h4]
        have e := nwS_set (W := W) (c := c) ⟨hc.1, by omega⟩
        exact nwF_mo hw hc n m _ (by rw [List.length_set]; exact hl) (by rw [e]; omega) (by rw [e]; omega)
theorem R_narrows.p {wide : Int} (hw : 0 ≤ wide ∧ wide ≤ 1000) (hw0 : mV σ 275 0 = wide) (hc : 1 ≤ c ∧ c ≤ 8) (hW : hol σ 346 W) (hl : W.length = 8) (hb : ∀ k, k < 8 → 1 ≤ W.getD k 0 ∧ W.getD k 0 ≤ 70000) (hq : ∀ σ', FrZ [346] [] σ σ' → hol σ' 346 (nwD9 wide c W) → Q (.inl none) σ') : R_narrows (c : Int) σ Q := by
  have sb : ∀ (W : List Int), (∀ k, k < 8 → 1 ≤ W.getD k 0 ∧ W.getD k 0 ≤ 70000) → ∀ j, j ≤ 8 → 0 ≤ suF W j ∧ suF W j ≤ 70000 * j := by
    intro W hb j
    induction j with
    | zero => intro _; exact ⟨Int.le_refl _, Int.le_refl _⟩
    | succ j ih =>
      intro hj
      have := ih (by omega)
      have := hb j (by omega)
      show 0 ≤ suF W j + W.getD j 0 ∧ suF W j + W.getD j 0 ≤ 70000 * ((j + 1 : Nat) : Int)
      omega
  have sS : ∀ (W : List Int), (∀ k, k < 8 → 1 ≤ W.getD k 0 ∧ W.getD k 0 ≤ 70000) → 0 ≤ nwS W c ∧ nwS W c ≤ 600000 := fun W hb => by
    have := sb W hb c hc.2
    unfold nwS
    omega
  have loop : ∀ (n : Nat) (W : List Int) (σ1 : MS), W.length = 8 → (∀ k, k < 8 → 1 ≤ W.getD k 0 ∧ W.getD k 0 ≤ 70000) → hol σ1 346 W → FrZ [346] [] σ σ1 → nwS W c ≤ n → (∀ σ', FrZ [346] [] σ σ' → hol σ' 346 (nwF wide c n W) → Q (.inl none) σ') → R_narrows_28 (c : Int) (nwS W c) σ1 Q := by
    intro n
    induction n with
    | zero =>
      intro W σ1 hl hb hW hf hn hq
      have ss := sS W hb
      have e0 : mV σ1 275 0 = wide := (hf.z (by decide) (by decide)).trans hw0
      exact R_narrows_28.i ⟨by decide, by decide, by unfold Rg; omega, fun _ => hq σ1 hf hW, fun h => absurd h (by omega)⟩
    | succ n ih =>
      intro W σ1 hl hb hW hf hn hq
      have ss := sS W hb
      have e0 : mV σ1 275 0 = wide := (hf.z (by decide) (by decide)).trans hw0
      refine R_narrows_28.i ⟨by decide, by decide, by unfold Rg; omega, fun h => hq σ1 hf (by
        unfold nwF
        rw [if_pos (by omega)]
        exact hW), fun h => ?_⟩
      have xb := nwX_b (W := W) hc.1
      have w43 : ∀ (n' k m : Nat), k + n' = c → m < c → nwG W n' k m = nwX W c → R_narrows_43 (c : Int) (nwS W c) (m : Int) (k : Int) σ1 Q := by
        intro n'
        induction n' with
        | zero =>
          intro k m hk hm hg
          have hg : m = nwX W c := hg
          have em : mV σ1 346 m = W.getD m 0 := hW m (by omega)
          have wb := hb m (by omega)
          refine R_narrows_43.i ⟨by unfold Rg; omega, by unfold Rg; omega, fun _ => ⟨by omega, by omega, ?_⟩, fun h => absurd h (by omega)⟩
          rw [Int.toNat_natCast, em]
          refine ⟨fun h1 => ⟨by omega, by omega, by omega, by omega, by unfold Rg; omega, ?_⟩, fun h1 => hq σ1 hf ?_⟩
          · have e2 := nwS_set (W := W) (c := c) ⟨hc.1, by omega⟩
            have e1 : nwS W c + (-1) = nwS (W.set (nwX W c) (W.getD (nwX W c) 0 - 1)) c := by
              rw [e2]
              omega
            rw [e1]
            refine ih (W.set (nwX W c) (W.getD (nwX W c) 0 - 1)) _ (by rw [List.length_set]; exact hl) (fun k hk => ?_) (fun k hk => ?_) (hf.tr (FrZ.wz (by decide))) (by rw [e2]; omega) (fun σ' f' h' => hq σ' f' ?_)
            · rw [set_gd (by omega)]
              split
              · rw [← hg]
                omega
              · exact hb k hk
            · rw [List.length_set] at hk
              rw [set_gd hk, ← hg]
              by_cases e : k = m
              · rw [e, wV_self, if_pos rfl]
              · rw [wV_ne (Or.inr e), if_neg e]
                exact hW k hk
            · unfold nwF
              rw [if_neg (by omega), if_neg (by rw [← hg]; omega)]
              exact h'
          · unfold nwF
            rw [if_neg (by omega), if_pos (by rw [← hg]; omega)]
            exact hW
        | succ n' ih2 =>
          intro k m hk hm hg
          have hg : nwG W n' (k + 1) (if W.getD m 0 < W.getD k 0 then k else m) = nwX W c := hg
          refine R_narrows_43.i ⟨by unfold Rg; omega, by unfold Rg; omega, fun h => absurd h (by omega), fun _ => ⟨by omega, by omega, by omega, by omega, ?_⟩⟩
          rw [Int.toNat_natCast, Int.toNat_natCast, hW k (by omega), hW m (by omega)]
          refine ⟨fun h1 => R_narrows_68.i ?_, fun h1 => R_narrows_68.i ?_⟩
          · rw [if_neg (by omega)] at hg
            rw [show (k : Int) + 1 = ((k + 1 : Nat) : Int) by omega]
            exact ih2 (k + 1) m (by omega) hm hg
          · rw [if_pos h1] at hg
            rw [show (k : Int) + 1 = ((k + 1 : Nat) : Int) by omega]
            exact ih2 (k + 1) k (by omega) (by omega) hg
      exact w43 (c - 1) 1 0 (by omega) (by omega) rfl
  have l8 : ∀ (n j : Nat), j + n = c → R_narrows_8 (c : Int) (3 * ((c : Int) - 1) + suF W j) (j : Int) σ Q := by
    intro n
    induction n with
    | zero =>
      intro j hj
      rw [show j = c by omega]
      have ss := sS W hb
      refine R_narrows_8.i ⟨by unfold Rg; omega, by unfold Rg; omega, fun _ => ?_, fun h => absurd h (by omega)⟩
      exact loop (nwS W c).toNat W σ hl hb hW FrZ.rf (by omega) hq
    | succ n ih =>
      intro j hj
      refine R_narrows_8.i ⟨by unfold Rg; omega, by unfold Rg; omega, fun h => absurd h (by omega), fun _ => ⟨by omega, by omega, ?_⟩⟩
      rw [Int.toNat_natCast, hW j (by omega), show (j : Int) + 1 = ((j + 1 : Nat) : Int) by omega, Int.add_assoc]
      exact ih (j + 1) (by omega)
  refine R_narrows.i ?_
  have := l8 c 0 (by omega)
  rw [show 3 * ((c : Int) - 1) + suF W 0 = 3 * ((c : Int) - 1) from Int.add_zero _] at this
  exact this
end
