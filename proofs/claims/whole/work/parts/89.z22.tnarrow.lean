/-! TABLES: columns are narrowed; the class -/
def suF (W : List Int) : Nat → Int
  | 0 => 0
  | c + 1 => suF W c + W.getD c 0
def nwS (W : List Int) (c : Nat) : Int := 3 * ((c : Int) - 1) + suF W c
def nwG (W : List Int) : Nat → Nat → Nat → Nat
  | 0, _, m => m
  | n + 1, k, m => nwG W n (k + 1) (if W.getD m 0 < W.getD k 0 then k else m)
def nwX (W : List Int) (c : Nat) : Nat := nwG W (c - 1) 1 0
def nwF (wide : Int) (c : Nat) : Nat → List Int → List Int
  | 0, W => W
  | n + 1, W => if nwS W c ≤ wide then W else if W.getD (nwX W c) 0 ≤ 1 then W else nwF wide c n (W.set (nwX W c) (W.getD (nwX W c) 0 - 1))
def nwD9 (wide : Int) (c : Nat) (W : List Int) : List Int := nwF wide c (nwS W c).toNat W
theorem nwG_b {W : List Int} {c : Nat} : ∀ (n k m : Nat), k + n = c → m < c → nwG W n k m < c
  | 0, k, m, _, hm => hm
  | n + 1, k, m, hk, hm => nwG_b n (k + 1) _ (by omega) (by split <;> omega)
theorem nwX_b {W : List Int} {c : Nat} (h : 1 ≤ c) : nwX W c < c := nwG_b (c - 1) 1 0 (by omega) (by omega)
theorem suF_set {W : List Int} {x : Nat} {v : Int} (hx : x < W.length) : ∀ c, c ≤ W.length → suF (W.set x v) c = if x < c then suF W c - W.getD x 0 + v else suF W c
  | 0, _ => by rw [if_neg (Nat.not_lt_zero _)]; rfl
  | c + 1, h => by
    show suF (W.set x v) c + (W.set x v).getD c 0 = _
    rw [suF_set hx c (by omega), set_gd (by omega)]
    show _ = if x < c + 1 then suF W c + W.getD c 0 - W.getD x 0 + v else suF W c + W.getD c 0
    by_cases e : c = x
    · rw [if_pos e, if_neg (by omega), if_pos (by omega), e]
      omega
    · rw [if_neg e]
      by_cases h9 : x < c
      · rw [if_pos h9, if_pos (by omega)]
        omega
      · rw [if_neg h9, if_neg (by omega)]
theorem nwS_set {W : List Int} {c : Nat} (hc : 1 ≤ c ∧ c ≤ W.length) : nwS (W.set (nwX W c) (W.getD (nwX W c) 0 - 1)) c = nwS W c - 1 := by
  have b := nwX_b (W := W) hc.1
  unfold nwS
  rw [suF_set (by omega) c hc.2, if_pos b]
  omega
section
variable {σ σ0 : MS} {Q : MQ9} {W : List Int} {c : Nat}
/-- only widths change -/
def FrNw (σ σ' : MS) : Prop := mX σ' = mX σ ∧ σ'.2.2 = σ.2.2 ∧ ∀ y k, y ≠ 161 → mV σ' y k = mV σ y k
theorem Tables_narrow.nn {wide : Int} (hw : 0 ≤ wide ∧ wide ≤ 1000) (hc : c ≤ 8) (h9 : mV σ 150 9 = (c : Int)) (hW : hol σ 161 W) (hl : W.length = 8) (hb : ∀ k, k < 8 → 1 ≤ W.getD k 0 ∧ W.getD k 0 ≤ 70000) (hq : ∀ σ', FrNw σ σ' → hol σ' 161 (nwD9 wide c W) → Q (.inl none) σ') : Tables_narrow wide σ Q := by
  have sb : ∀ (W : List Int), (∀ k, k < 8 → 1 ≤ W.getD k 0 ∧ W.getD k 0 ≤ 70000) → ∀ j, j ≤ 8 → 0 ≤ suF W j ∧ suF W j ≤ 70000 * j := by
    intro W hb j
    induction j with
    | zero => intro _; exact ⟨Int.le_refl _, Int.le_refl _⟩
    | succ j ih =>
      intro hj
      have := ih (by omega)
      have := hb j (by omega)
      show 0 ≤ suF W j + W.getD j 0 ∧ suF W j + W.getD j 0 ≤ 70000 * ((j + 1 : Nat) : Int)
      omega
  have sS : ∀ (W : List Int), (∀ k, k < 8 → 1 ≤ W.getD k 0 ∧ W.getD k 0 ≤ 70000) → -3 ≤ nwS W c ∧ nwS W c ≤ 600000 := fun W hb => by
    have := sb W hb c hc
    unfold nwS
    omega
  have loop : ∀ (n : Nat) (W : List Int) (σ1 : MS) (t : Int), W.length = 8 → (∀ k, k < 8 → 1 ≤ W.getD k 0 ∧ W.getD k 0 ≤ 70000) → hol σ1 161 W → FrNw σ σ1 → n = t.toNat → (t ≤ 1000000 ∧ -10 ≤ t) → (∀ σ', FrNw σ σ' → hol σ' 161 (nwF wide c n W) → Q (.inl none) σ') → Tables_narrow_36 wide (nwS W c) t σ1 Q := by
    intro n
    induction n with
    | zero =>
      intro W σ1 t hl hb hW hf hn ht hq
      exact Tables_narrow_36.i ⟨by unfold Rg; omega, fun _ => hq σ1 hf hW, fun h => absurd h (by omega)⟩
    | succ n ih =>
      intro W σ1 t hl hb hW hf hn ht hq
      have ss := sS W hb
      have e9 : mV σ1 150 9 = (c : Int) := (hf.2.2 _ _ (by decide)).trans h9
      refine Tables_narrow_36.i ⟨by unfold Rg; omega, fun h => absurd h (by omega), fun _ => ⟨by unfold Rg; omega, by unfold Rg; omega, fun h => hq σ1 hf (by
        unfold nwF
        rw [if_pos h]
        exact hW), fun h => ?_⟩⟩
      have hc1 : 1 ≤ c := by
        by_cases h0 : c = 0
        · exfalso
          have : nwS W c = -3 := by
            rw [h0]
            rfl
          omega
        · omega
      have xb := nwX_b (W := W) hc1
      have w51 : ∀ (n' k m : Nat), k + n' = c → m < c → nwG W n' k m = nwX W c → Tables_narrow_51 wide (nwS W c) t (m : Int) (k : Int) σ1 Q := by
        intro n'
        induction n' with
        | zero =>
          intro k m hk hm hg
          have hg : m = nwX W c := hg
          have em : mV σ1 161 m = W.getD m 0 := hW m (by omega)
          have wb := hb m (by omega)
          refine Tables_narrow_51.i ⟨by unfold Rg; omega, fun _ => ⟨by omega, by omega, ?_⟩, fun h => absurd h (by omega)⟩
          rw [Int.toNat_natCast, em]
          refine ⟨fun h1 => ⟨by omega, by omega, by omega, by omega, by unfold Rg; omega, ?_⟩, fun h1 => hq σ1 hf ?_⟩
          · have e1 : nwS W c + (-1) = nwS (W.set (nwX W c) (W.getD (nwX W c) 0 - 1)) c := by
              rw [nwS_set ⟨hc1, by omega⟩]
              omega
            rw [e1]
            refine ih (W.set (nwX W c) (W.getD (nwX W c) 0 - 1)) _ (t + (-1)) (by rw [List.length_set]; exact hl) (fun k hk => ?_) (fun k hk => ?_) ⟨hf.1, hf.2.1, fun y k h => (wV_ne (Or.inl h)).trans (hf.2.2 y k h)⟩ (by omega) (by omega) (fun σ' f' h' => hq σ' f' ?_)
            · rw [set_gd (by omega)]
              split
              · rw [← hg]
                omega
              · exact hb k hk
            · rw [List.length_set] at hk
              rw [set_gd hk, ← hg]
              by_cases e : k = m
              · rw [e, wV_self, if_pos rfl]
              · rw [wV_ne (Or.inr e), if_neg e]
                exact hW k hk
            · unfold nwF
              rw [if_neg (by omega), if_neg (by rw [← hg]; omega)]
              exact h'
          · unfold nwF
            rw [if_neg (by omega), if_pos (by rw [← hg]; exact h1)]
            exact hW
        | succ n' ih2 =>
          intro k m hk hm hg
          have hg : nwG W n' (k + 1) (if W.getD m 0 < W.getD k 0 then k else m) = nwX W c := hg
          refine Tables_narrow_51.i ⟨by unfold Rg; omega, fun h => absurd h (by omega), fun _ => ⟨by omega, by omega, by omega, by omega, ?_⟩⟩
          rw [Int.toNat_natCast, Int.toNat_natCast, hW k (by omega), hW m (by omega)]
          refine ⟨fun h1 => Tables_narrow_84.i ?_, fun h1 => Tables_narrow_84.i ?_⟩
          · rw [if_neg (by omega)] at hg
            rw [show (k : Int) + 1 = ((k + 1 : Nat) : Int) by omega]
            exact ih2 (k + 1) m (by omega) hm hg
          · rw [if_pos h1] at hg
            rw [show (k : Int) + 1 = ((k + 1 : Nat) : Int) by omega]
            exact ih2 (k + 1) k (by omega) (by omega) hg
      exact w51 (c - 1) 1 0 (by omega) (by omega) rfl
  have l11 : ∀ (n j : Nat), j + n = c → Tables_narrow_11 wide (3 * ((c : Int) - 1) + suF W j) (j : Int) σ Q := by
    intro n
    induction n with
    | zero =>
      intro j hj
      rw [show j = c by omega]
      have ss := sS W hb
      refine Tables_narrow_11.i ⟨by unfold Rg; omega, fun _ => ?_, fun h => absurd h (by omega)⟩
      exact loop (nwS W c).toNat W σ (nwS W c) hl hb hW ⟨rfl, rfl, fun _ _ _ => rfl⟩ rfl (by omega) hq
    | succ n ih =>
      intro j hj
      refine Tables_narrow_11.i ⟨by unfold Rg; omega, fun h => absurd h (by omega), fun _ => ⟨by omega, by omega, ?_⟩⟩
      rw [Int.toNat_natCast, hW j (by omega), show (j : Int) + 1 = ((j + 1 : Nat) : Int) by omega, Int.add_assoc]
      exact ih (j + 1) (by omega)
  refine Tables_narrow.i ?_
  rw [h9]
  have := l11 c 0 (by omega)
  rw [show 3 * ((c : Int) - 1) + suF W 0 = 3 * ((c : Int) - 1) from Int.add_zero _] at this
  exact this
end
