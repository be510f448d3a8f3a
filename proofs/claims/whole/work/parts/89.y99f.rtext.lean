/-! THE TEXT OF A PARAGRAPH OR AN ITEM: the reference; where lines may end a page -/
def BkS : List Nat := [256, 348, 303, 304, 308, 309, 310, 311, 312, 313, 314, 315, 316, 317, 318, 320, 321, 338, 339, 340, 341, 350, 284, 297, 337]
def BkK : List Nat := TRK ++ [98, 99, 112, 113, 146, 147, 148, 160, 161, 163]
/-- what a block may change in the reference -/
def AlB (nw z k : Nat) : Prop := (z = 246 ∧ k ∈ BkK) ∨ z ∈ BkS ∨ (z ∈ TRS ∧ (bkW z = 0 ∨ k / bkW z = nw))
def FrB (nw : Nat) (σ σ' : MS) : Prop := FrA (AlB nw) σ σ'
section
variable {σ σ0 : MS} {Q : MQ9} {nw : Nat}
theorem FrB.z {S K : List Nat} {σ1 : MS} (h : FrZ S K σ σ1) (hs : ∀ x ∈ S, x ∈ BkS) (hk : ∀ x ∈ K, x ∈ BkK) : FrB nw σ σ1 := ⟨h.1, h.2.1, fun z k n => h.2.2 z k (fun e => n (Or.inr (Or.inl (hs z e)))) (by
  by_cases h6 : z = 246
  · exact Or.inr (fun e => n (Or.inl ⟨h6, hk k e⟩))
  · exact Or.inl h6)⟩
theorem FrB.u {g kt c : Nat} {σ1 : MS} (h : FrU g kt c nw σ σ1) : FrB nw σ σ1 := FrA.mo h (fun z k a => by
  rcases a with a | a
  · exact Or.inl ⟨a.1, List.mem_append_left _ a.2⟩
  · exact Or.inr (Or.inr ⟨a.1, a.2.2⟩))
theorem FrB.tr {σ1 σ2 : MS} (h : FrB nw σ σ1) (h' : FrB nw σ1 σ2) : FrB nw σ σ2 := FrA.tr h h'
theorem LiR.fl {σ1 : MS} {Ls A B : List GL9} (h : LiR σ (Ls ++ A)) (hl : A.length = B.length) (hc : ∀ i, i < A.length → (A.getD i ([], 0, 0)).1 = (B.getD i ([], 0, 0)).1 ∧ (A.getD i ([], 0, 0)).2.1 = (B.getD i ([], 0, 0)).2.1 ∧ decide (2 ≤ (A.getD i ([], 0, 0)).2.2) = decide (2 ≤ (B.getD i ([], 0, 0)).2.2)) (f : FrZ [314] [] σ σ1) (h1 : ∀ i, i < Ls.length → mV σ1 314 i = mV σ 314 i) (h2 : ∀ i, i < A.length → mV σ1 314 (Ls.length + i) = bZ (decide ((B.getD i ([], 0, 0)).2.2 % 2 = 0))) : LiR σ1 (Ls ++ B) := by
  have em : A.map (·.1) = B.map (·.1) := by
    refine List.ext_getElem (by rw [List.length_map, List.length_map]; exact hl) (fun i a b => ?_)
    rw [List.length_map] at a b
    have := (hc i a).1
    unfold List.getD at this
    rw [List.getElem?_eq_getElem a, List.getElem?_eq_getElem b, Option.getD_some, Option.getD_some] at this
    rw [List.getElem_map, List.getElem_map]
    exact this
  have emm : (Ls ++ A).map (·.1) = (Ls ++ B).map (·.1) := by rw [List.map_append, List.map_append, em]
  have gd : ∀ (Z : List GL9) (i : Nat), (Ls ++ Z).getD i ([], 0, 0) = if i < Ls.length then Ls.getD i ([], 0, 0) else Z.getD (i - Ls.length) ([], 0, 0) := fun Z i => by
    unfold List.getD
    by_cases h9 : i < Ls.length
    · rw [if_pos h9, List.getElem?_append_left h9]
    · rw [if_neg h9, List.getElem?_append_right (by omega)]
  refine ⟨?_, ?_, fun i hi => ?_⟩
  · rw [f.f (by decide) (by decide), h.1, List.length_append, List.length_append, hl]
  · rw [f.f (by decide) (by decide), h.2.1, emm]
  · rw [List.length_append, ← hl] at hi
    have old := h.2.2 i (by rw [List.length_append]; exact hi)
    rw [emm, gd] at old
    rw [gd]
    have z : ∀ y k, y ≠ 314 → y ≠ 246 → mV σ1 y k = mV σ y k := fun y k a b => f.z (by rw [List.mem_singleton]; exact a) b
    by_cases h9 : i < Ls.length
    · rw [if_pos h9] at old ⊢
      exact old.cg (fun y hy => by
        by_cases e : y = 314
        · rw [e]
          exact h1 i h9
        · exact z y i e (by omega)) (fun k _ _ => ⟨z _ _ (by decide) (by decide), z _ _ (by decide) (by decide)⟩)
    · rw [if_neg h9] at old ⊢
      have hi2 : i - Ls.length < A.length := by omega
      have c := hc (i - Ls.length) hi2
      obtain ⟨o1, o2, o3, o4, o5, o6⟩ := old
      rw [c.1] at o2 o6
      rw [c.2.1] at o3
      rw [c.2.2] at o4
      have v := h2 (i - Ls.length) hi2
      rw [show Ls.length + (i - Ls.length) = i by omega] at v
      exact ⟨(z _ _ (by decide) (by decide)).trans o1, (z _ _ (by decide) (by decide)).trans o2, (z _ _ (by decide) (by decide)).trans o3, (z _ _ (by decide) (by decide)).trans o4, v, o6.cg (fun k _ _ => ⟨z _ _ (by decide) (by decide), z _ _ (by decide) (by decide)⟩)⟩
/-- where pages may end -/
theorem txr_201 {l5 l6 hold : Int} {n0 k : Nat} (h99 : mV σ0 246 99 = ((n0 + k : Nat) : Int)) (hk : n0 + k ≤ 1500) (hh : mV σ0 275 7 = hold) (hho : 0 ≤ hold ∧ hold ≤ 3) (hq : ∀ σ', FrZ [314] [] σ0 σ' → (∀ i, (i < n0 ∨ n0 + k ≤ i + 1) → mV σ' 314 i = mV σ0 314 i) → (∀ i, i + 1 < k → mV σ' 314 (n0 + i) = bZ (! hoF hold k i)) → R_text_201 l5 l6 (n0 : Int) (((n0 + k : Nat) : Int) - 1) σ' Q) (hk1 : 1 ≤ k) : ∀ (n j : Nat) (σ : MS), j + n + 1 = k → FrZ [314] [] σ0 σ → (∀ i, (i < n0 ∨ n0 + k ≤ i + 1) → mV σ 314 i = mV σ0 314 i) → (∀ i, i < j → mV σ 314 (n0 + i) = bZ (! hoF hold k i)) → R_text_201 l5 l6 (n0 : Int) ((n0 + j : Nat) : Int) σ Q := by
  intro n
  induction n with
  | zero =>
    intro j σ hj hf h1 h2
    have := hq σ hf h1 (fun i hi => h2 i (by omega))
    rw [show ((n0 + j : Nat) : Int) = ((n0 + k : Nat) : Int) - 1 by omega]
    exact this
  | succ n ih =>
    intro j σ hj hf h1 h2
    have e9 := (hf.f (k := 99) (by decide) (by decide)).trans h99
    have e7 : mV σ 275 7 = hold := (hf.z (by decide) (by decide)).trans hh
    have nx : ∀ s2 : Int, s2 = bZ (! hoF hold k j) → R_text_259 l5 l6 (n0 : Int) ((n0 + j : Nat) : Int) ((n0 + j : Nat) : Int) s2 σ Q := fun s2 hs2 => by
      refine R_text_259.i ⟨by omega, by omega, ?_⟩
      rw [Int.toNat_natCast, show s2 % 2 = bZ (! hoF hold k j) by rw [hs2]; cases hoF hold k j <;> rfl, show ((n0 + j : Nat) : Int) + 1 = ((n0 + (j + 1) : Nat) : Int) by omega]
      refine ih (j + 1) _ (by omega) (hf.tr (FrZ.wz (by decide))) (fun i hi => ?_) (fun i hi => ?_)
      · rw [wV_ne (Or.inr (by omega))]
        exact h1 i hi
      · by_cases e : i = j
        · rw [e, wV_self]
        · rw [wV_ne (Or.inr (by omega))]
          exact h2 i (by omega)
    have no : (((j : Int) + 1 < hold) ∨ ((k : Int) - j - 1 < hold)) → R_text_258 l5 l6 (n0 : Int) ((n0 + j : Nat) : Int) ((n0 + j : Nat) : Int) σ Q := fun h9 => R_text_258.i (nx 0 (by
      unfold hoF
      rw [decide_eq_true (Or.inl ⟨by omega, h9⟩)]
      rfl))
    refine R_text_201.i ⟨by unfold Rg; omega, by rw [e9]; unfold Rg; omega, fun h9 => absurd h9 (by rw [e9]; omega), fun _ => ⟨by decide, by decide, ?_⟩⟩
    rw [e7, e9]
    refine ⟨by unfold Rg; omega, fun h8 => no (by omega), fun h8 => ⟨by decide, by decide, by unfold Rg; omega, fun h7 => no (by omega), fun h7 => nx 1 ?_⟩⟩
    unfold hoF
    rw [decide_eq_false (by omega)]
    rfl
end
