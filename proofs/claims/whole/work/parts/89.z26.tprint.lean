/-! TABLES: widths behind narrowing; dashes -/
theorem nwG_mx {W : List Int} : ∀ (n k m j : Nat), (j < k → W.getD j 0 ≤ W.getD m 0) → j < k + n → W.getD j 0 ≤ W.getD (nwG W n k m) 0
  | 0, k, m, j, h, hj => h hj
  | n + 1, k, m, j, h, hj => by
    show W.getD j 0 ≤ W.getD (nwG W n (k + 1) (if W.getD m 0 < W.getD k 0 then k else m)) 0
    refine nwG_mx n (k + 1) _ j (fun h9 => ?_) (by omega)
    by_cases e : j = k
    · rw [e]
      split <;> omega
    · have := h (by omega)
      split <;> omega
theorem nwX_mx {W : List Int} {c j : Nat} (hj : j < c) : W.getD j 0 ≤ W.getD (nwX W c) 0 := nwG_mx (c - 1) 1 0 j (fun h => by
  have e : j = 0 := by omega
  rw [e]
  exact Int.le_refl _) (by omega)
theorem suF_b {W : List Int} {j : Nat} : ∀ c, (∀ k, k < c → 1 ≤ W.getD k 0) → j < c → W.getD j 0 + ((c : Int) - 1) ≤ suF W c
  | 0, _, hj => absurd hj (Nat.not_lt_zero _)
  | c + 1, h, hj => by
    show _ ≤ suF W c + W.getD c 0
    by_cases e : j = c
    · have : ∀ c, (∀ k, k < c → 1 ≤ W.getD k 0) → (c : Int) ≤ suF W c := by
        intro c
        induction c with
        | zero => intro _; exact Int.le_refl _
        | succ c ih =>
          intro h
          have h1 := ih (fun k hk => h k (by omega))
          have h2 := h c (by omega)
          show ((c + 1 : Nat) : Int) ≤ suF W c + W.getD c 0
          omega
      have := this c (fun k hk => h k (by omega))
      rw [e]
      omega
    · have h1 := suF_b (j := j) c (fun k hk => h k (by omega)) (by omega)
      have h2 := h c (by omega)
      omega
theorem nwF_b {wide : Int} {c : Nat} (hc : c ≤ 8) : ∀ (n : Nat) (W : List Int), W.length = 8 → (∀ k, k < 8 → 1 ≤ W.getD k 0) → (nwF wide c n W).length = 8 ∧ (∀ k, k < 8 → 1 ≤ (nwF wide c n W).getD k 0) ∧ (nwS (nwF wide c n W) c ≤ wide ∨ (nwF wide c n W).getD (nwX (nwF wide c n W) c) 0 ≤ 1 ∨ (1 ≤ c ∧ nwS (nwF wide c n W) c = nwS W c - n) ∨ c = 0)
  | 0, W, hl, hb => by
    refine ⟨hl, hb, ?_⟩
    by_cases h0 : c = 0
    · exact Or.inr (Or.inr (Or.inr h0))
    · exact Or.inr (Or.inr (Or.inl ⟨by omega, (Int.sub_zero _).symm⟩))
  | n + 1, W, hl, hb => by
    unfold nwF
    by_cases h1 : nwS W c ≤ wide
    · rw [if_pos h1]
      exact ⟨hl, hb, Or.inl h1⟩
    · rw [if_neg h1]
      by_cases h2 : W.getD (nwX W c) 0 ≤ 1
      · rw [if_pos h2]
        exact ⟨hl, hb, Or.inr (Or.inl h2)⟩
      · rw [if_neg h2]
        by_cases h0 : c = 0
        · have ih := nwF_b (wide := wide) hc n (W.set (nwX W c) (W.getD (nwX W c) 0 - 1)) (by rw [List.length_set]; exact hl) (fun k hk => by
            rw [set_gd (by omega)]
            split
            · omega
            · exact hb k hk)
          exact ⟨ih.1, ih.2.1, Or.inr (Or.inr (Or.inr h0))⟩
        · have ih := nwF_b (wide := wide) hc n (W.set (nwX W c) (W.getD (nwX W c) 0 - 1)) (by rw [List.length_set]; exact hl) (fun k hk => by
            rw [set_gd (by omega)]
            split
            · omega
            · exact hb k hk)
          refine ⟨ih.1, ih.2.1, ?_⟩
          rcases ih.2.2 with h | h | h | h
          · exact Or.inl h
          · exact Or.inr (Or.inl h)
          · refine Or.inr (Or.inr (Or.inl ⟨h.1, ?_⟩))
            rw [h.2, nwS_set ⟨h.1, by omega⟩]
            omega
          · exact absurd h h0
theorem nwD_b {wide : Int} {c : Nat} {W : List Int} (hw : 12 ≤ wide ∧ wide ≤ 80) (hc : c ≤ 8) (hl : W.length = 8) (hb : ∀ k, k < 8 → 1 ≤ W.getD k 0) : (nwD9 wide c W).length = 8 ∧ ∀ k, k < c → 1 ≤ (nwD9 wide c W).getD k 0 ∧ (nwD9 wide c W).getD k 0 ≤ 80 := by
  have b := nwF_b (wide := wide) hc (nwS W c).toNat W hl hb
  refine ⟨b.1, fun k hk => ⟨b.2.1 k (by omega), ?_⟩⟩
  have sm : nwS (nwD9 wide c W) c ≤ wide → (nwD9 wide c W).getD k 0 ≤ 80 := fun h => by
    have := suF_b (W := nwD9 wide c W) (j := k) c (fun j hj => b.2.1 j (by omega)) hk
    unfold nwS at h
    omega
  rcases b.2.2 with h | h | h | h
  · exact sm h
  · have := nwX_mx (W := nwD9 wide c W) hk
    have h : (nwD9 wide c W).getD (nwX (nwD9 wide c W) c) 0 ≤ 1 := h
    omega
  · have h2 : nwS (nwD9 wide c W) c = nwS W c - ((nwS W c).toNat : Int) := h.2
    exact sm (by omega)
  · omega
section
variable {σ σ0 : MS} {Q : MQ9} {D : List Int}
theorem Tables_printDashes.nn {W : List Int} {c m : Nat} (hD : mX σ 130 = D) (hDl : D.length ≤ 100000) (hc : c ≤ 8) (h9 : mV σ 150 9 = (c : Int)) (hW : ∀ k, k < c → mV σ 161 k = W.getD k 0 ∧ 1 ≤ W.getD k 0 ∧ W.getD k 0 ≤ m) (hm : m ≤ 1000) (hq : Q (.inl none) (wX σ 130 (D ++ tpJ [45, 43, 45] (fun k => List.replicate (W.getD k 0).toNat 45) c))) : Tables_printDashes σ Q := by
  have jl : ∀ k, k ≤ c → (tpJ [45, 43, 45] (fun k => List.replicate (W.getD k 0).toNat (45 : Int)) k).length ≤ (m + 3) * k := by
    intro k
    induction k with
    | zero => intro _; exact Nat.zero_le _
    | succ k ih =>
      intro hk
      have h1 := ih (by omega)
      have h2 := hW k (by omega)
      show (tpJ _ _ k ++ (if 1 ≤ k then [45, 43, 45] else []) ++ List.replicate (W.getD k 0).toNat 45).length ≤ (m + 3) * (k + 1)
      rw [List.length_append, List.length_append, Nat.mul_succ, List.length_replicate]
      split
      · show _ + 3 + _ ≤ _
        omega
      · show _ + 0 + _ ≤ _
        omega
  have bd : ∀ k, k ≤ c → (m + 3) * k ≤ 9000 := fun k hk => by
    have : (m + 3) * k ≤ (m + 3) * 8 := Nat.mul_le_mul_left _ (by omega)
    omega
  have key : ∀ (n k : Nat), k + n = c → Tables_printDashes_13 (k : Int) (wX σ 130 (D ++ tpJ [45, 43, 45] (fun k => List.replicate (W.getD k 0).toNat 45) k)) Q := by
    intro n
    induction n with
    | zero =>
      intro k hk
      rw [show k = c by omega]
      exact Tables_printDashes_13.i ⟨by unfold Rg; omega, fun _ => hq, fun h => by
        have h : (c : Int) < mV σ 150 9 := h
        omega⟩
    | succ n ih =>
      intro k hk
      have l1 := jl k (by omega)
      have l2 := bd (k + 1) (by omega)
      have wk := hW k (by omega)
      rw [Nat.mul_succ] at l2
      generalize hC : tpJ [45, 43, 45] (fun k => List.replicate (W.getD k 0).toNat (45 : Int)) k = C at l1
      have s43 : ∀ E9 : List Int, E9 = C ++ (if 1 ≤ k then [45, 43, 45] else []) → Tables_printDashes_43 (k : Int) (wX σ 130 (D ++ E9)) Q := fun E9 hE => by
        have le : E9.length ≤ C.length + 3 := by
          rw [hE, List.length_append]
          split
          · exact Nat.le_refl _
          · exact Nat.le_add_right _ _
        refine Tables_printDashes_43.i ⟨by omega, by omega, ?_⟩
        show (mX (wX σ 130 (D ++ E9)) 130).length + (mV σ 161 (k : Int).toNat).toNat ≤ 131072 ∧ Tables_printDashes_13 ((k : Int) + 1) (wX (wX σ 130 (D ++ E9)) 130 (mX (wX σ 130 (D ++ E9)) 130 ++ List.replicate ((mV σ 161 (k : Int).toNat).toNat) 45)) Q
        rw [wX_self, Int.toNat_natCast, wk.1, wX_wX]
        refine ⟨by rw [List.length_append]; omega, ?_⟩
        have e9 : D ++ E9 ++ List.replicate (W.getD k 0).toNat 45 = D ++ tpJ [45, 43, 45] (fun k => List.replicate (W.getD k 0).toNat 45) (k + 1) := by
          show _ = D ++ (tpJ [45, 43, 45] (fun k => List.replicate (W.getD k 0).toNat 45) k ++ (if 1 ≤ k then [45, 43, 45] else []) ++ List.replicate (W.getD k 0).toNat 45)
          rw [hC, ← hE, List.append_assoc]
        rw [e9, show (k : Int) + 1 = ((k + 1 : Nat) : Int) by omega]
        exact ih (k + 1) (by omega)
      refine Tables_printDashes_13.i ⟨by unfold Rg; omega, fun h => by
        have h : mV σ 150 9 ≤ (k : Int) := h
        omega, fun _ => ⟨by unfold Rg; omega, fun h => ?_, fun h => ?_⟩⟩
      · exact s43 C (by rw [if_neg (by omega), List.append_nil])
      · rw [wX_self]
        refine ⟨by rw [List.length_append]; omega, by rw [List.length_append, List.length_append]; show _ + 1 < _; omega, by rw [List.length_append, List.length_append, List.length_append]; show _ + 1 + 1 < _; omega, ?_⟩
        rw [wX_wX, wX_wX, wX_wX, List.append_assoc (D ++ C), List.append_assoc (D ++ C), List.append_assoc D C]
        exact s43 (C ++ ([45] ++ ([43] ++ [45]))) (by rw [if_pos (by omega)]; rfl)
  have := key c 0 (by omega)
  rw [show tpJ [45, 43, 45] (fun k => List.replicate (W.getD k 0).toNat (45 : Int)) 0 = [] from rfl, List.append_nil, ← hD, wX_id] at this
  exact Tables_printDashes.i this
end
