/-! THE TEXT OF A PARAGRAPH OR AN ITEM: the reference, the whole -/
def TmR (σ : MS) (nw : Nat) (m : TM) : Prop := RxC σ m ∧ RxL σ nw m ∧ RxK σ nw m ∧ mV σ 246 86 = m.2.2.2.1.2.2 ∧ mV σ 246 85 = m.2.2.2.2
/-- a mark's place in the flow and its line -/
def PlF (F : List Int) (p q : Int) : Prop := 0 ≤ p ∧ p < F.length ∧ 0 ≤ F.getD p.toNat 0 ∧ q = F.getD p.toNat 0
def MkL (σ : MS) (zl : Nat) (F V : List Int) : Prop := ∀ j, j < V.length → PlF F (V.getD j 0) (mV σ zl j)
def nlA (σ : MS) (qs : List Nat) (q : Nat) : Prop := (cnL qs q = cnU qs q → mV σ 317 q = 0 ∧ mV σ 318 q = 0) ∧ (¬ cnL qs q = cnU qs q → mV σ 317 q = (cnL qs q : Int) ∧ mV σ 318 q = (cnU qs q : Int))
def fqs (F A : List Int) : List Nat := A.map (fun f => (F.getD f.toNat 0).toNat)
def NnR (σ : MS) (F A : List Int) (sp : List (Int × Int)) : Prop := (∀ k, k < sp.length → mV σ 303 k = (sp.getD k (0, 0)).1 ∧ mV σ 304 k = (sp.getD k (0, 0)).2) ∧ (∀ f ∈ A, 0 ≤ f ∧ f < F.length ∧ 0 ≤ F.getD f.toNat 0) ∧ ∀ i, i < F.length → 0 ≤ F.getD i 0 → nlA σ (fqs F A) (F.getD i 0).toNat
/-- the reference between blocks -/
def BkR (σ : MS) (E : TE) (nw : Nat) (b : BK9) : Prop := RxG σ (bkG b) ∧ RxE σ E nw ∧ TmR σ nw b.1.2.2 ∧ UnB σ ∧ (ElR σ b.2.1.2 ∧ mV σ 246 113 = bZ b.2.2.2) ∧ (MkL σ 284 b.2.1.2 b.1.2.2.2.1.2.2 ∧ MkL σ 297 b.2.1.2 b.1.2.2.2.2.1.2) ∧ NnR σ b.2.1.2 b.2.2.1.1 b.2.2.1.2
/-- the flow's lines have been made -/
def FlB (b : BK9) : Prop := ∀ x ∈ b.2.1.2, x < (b.2.1.1.length : Int)
section
variable {σ σ0 : MS} {Q : MQ9} {nw : Nat} {E : TE}
theorem RxE.k {S K : List Nat} {σ1 : MS} (h : RxE σ E nw) (q : FrZ S K σ σ1) (h1 : ∀ z ∈ [246, 252, 264, 265, 266, 267, 268, 279, 280, 281, 282, 283, 285, 300], z ∉ S) (h2 : ∀ k ∈ [46, 52, 53, 59, 84], k ∉ K) : RxE σ1 E nw := by
  obtain ⟨⟨a1, a2⟩, ⟨⟨b1, b2, b3⟩, b4, b5⟩, ⟨c1, c2, c3, c4⟩, d1, e1⟩ := h
  have z : ∀ y j, y ∈ [252, 264, 265, 266, 267, 268, 279, 280, 281, 282, 283, 285, 300] → mV σ1 y j = mV σ y j := fun y j hy => q.z (h1 y (List.mem_cons_of_mem _ hy)) (fun e => by rw [e] at hy; exact absurd hy (by decide))
  have f : ∀ j, j ∈ [46, 52, 53, 59, 84] → mV σ1 246 j = mV σ 246 j := fun j hj => q.f (h2 j hj) (h1 246 (by decide))
  refine ⟨⟨a1, (f _ (by decide)).trans a2⟩, ⟨⟨(f _ (by decide)).trans b1, b2, fun i hi => ⟨(z _ _ (by decide)).trans (b3 i hi).1, (b3 i hi).2.1, (b3 i hi).2.2.cg (fun k _ _ => z _ _ (by decide))⟩⟩, b4, fun i hi => ?_⟩, ⟨(z _ _ (by decide)).trans c1, c2.cg (fun k => z _ _ (by decide)) (fun k => z _ _ (by decide)), c3.cg (fun k => z _ _ (by decide)) (fun k => z _ _ (by decide)), fun j hj => (z _ _ (by decide)).trans (c4 j hj)⟩, fun hp => ⟨(f _ (by decide)).trans (d1 hp).1, (f _ (by decide)).trans (d1 hp).2⟩, fun hp => ⟨(f _ (by decide)).trans (e1 hp).1, fun i hi => (z _ _ (by decide)).trans ((e1 hp).2 i hi)⟩⟩
  obtain ⟨g1, x, g2, g4, g5⟩ := b5 i hi
  exact ⟨(z _ _ (by decide)).trans g1, x, (z _ _ (by decide)).trans g2, (z _ _ (by decide)).trans g4, g5.cg (fun k => z _ _ (by decide))⟩
theorem crL_l {n : Nat} {f : Int → Int} {V : List Int} : (crL n f V).length = V.length := by
  unfold crL
  rw [List.length_append, List.length_map, ← List.length_append, List.take_append_drop]
theorem crL_at {n j : Nat} {f : Int → Int} {V : List Int} (hj : j < V.length) : (crL n f V).getD j 0 = if j < n then V.getD j 0 else f (V.getD j 0) := by
  unfold crL
  by_cases h : j < n
  · rw [if_pos h]
    unfold List.getD
    rw [List.getElem?_append_left (by rw [List.length_take]; omega), List.getElem?_take, if_pos h]
  · rw [if_neg h]
    unfold List.getD
    rw [List.getElem?_append_right (by rw [List.length_take]; omega), List.length_take, List.getElem?_map, List.getElem?_drop, show n + (j - min n V.length) = j by omega, List.getElem?_eq_getElem hj]
    rfl
theorem PlF.app {F Z : List Int} {p q : Int} (h : PlF F p q) : PlF (F ++ Z) p q := by
  obtain ⟨h1, h2, h3, h4⟩ := h
  have e : (F ++ Z).getD p.toNat 0 = F.getD p.toNat 0 := by
    unfold List.getD
    rw [List.getElem?_append_left (by omega)]
  refine ⟨h1, by rw [List.length_append]; omega, by rw [e]; exact h3, by rw [e]; exact h4⟩
/-- a new line's place -/
theorem PlF.new {F : List Int} {n0 k i : Nat} (hi : i < k) : PlF (F ++ seqZ n0 k) ((F.length + i : Nat) : Int) ((n0 + i : Nat) : Int) := by
  have e : (F ++ seqZ n0 k).getD (((F.length + i : Nat) : Int)).toNat 0 = ((n0 + i : Nat) : Int) := by
    rw [Int.toNat_natCast]
    unfold List.getD
    rw [List.getElem?_append_right (by omega), show F.length + i - F.length = i by omega]
    exact seqZ_at k n0 i hi
  refine ⟨by omega, by rw [List.length_append, seqZ_l]; omega, by rw [e]; omega, e.symm⟩
theorem MkL.new {σ1 : MS} {zl : Nat} {F Z V0 V : List Int} {n0 k l0 : Nat} {g : Int → Int} (h : MkL σ zl F V0) (hV0 : V0.length = l0) (hVV : ∀ j, j < l0 → V.getD j 0 = V0.getD j 0) (hl : l0 ≤ V.length) (ho : ∀ j, j < l0 → mV σ1 zl j = mV σ zl j) (hn : ∀ j, l0 ≤ j → j < V.length → ∃ i, i < k ∧ g (V.getD j 0) = (((F ++ Z).length + i : Nat) : Int) ∧ mV σ1 zl j = ((n0 + i : Nat) : Int)) : MkL σ1 zl (F ++ Z ++ seqZ n0 k) (crL l0 g V) := fun j hj => by
  rw [crL_l] at hj
  rw [crL_at hj]
  by_cases h9 : j < l0
  · rw [if_pos h9, hVV j h9, ho j h9]
    exact ((h j (by omega)).app (Z := Z)).app
  · rw [if_neg h9]
    obtain ⟨i, i1, i2, i3⟩ := hn j (by omega) hj
    rw [i2, i3]
    exact PlF.new i1
end
