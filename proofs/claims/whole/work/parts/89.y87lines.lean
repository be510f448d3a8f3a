/-! LINES OF A BLOCK ARE PRINTED: the class -/
def hoF (hold : Int) (many i : Nat) : Bool := decide ((i + 1 < many ∧ ((i : Int) + 1 < hold ∨ (many : Int) - i - 1 < hold)) ∨ hold = 9999)
def prB (P : List Int) (hg J W : Int) (U : List Int) (hold : Int) (many : Nat) : Nat → List (Nat × Nat × Bool) → List (List Int × Int)
  | _, [] => []
  | i, x :: r => (prL P hg J W r.isEmpty U i x, bZ (hoF hold many i) + 2 * bZ x.2.2) :: prB P hg J W U hold many (i + 1) r
/-- a row without words has its prefix alone -/
def prN (P : List Int) (hg J W : Int) (U : List Int) (hold : Int) (X : List (Nat × Nat × Bool)) : List (List Int × Int) := if X.isEmpty = true then [(sgT P 0 (P.length - 1), 0)] else prB P hg J W U hold X.length 0 X
theorem prAB {P : List Int} {hg J W : Int} {U : List Int} {hold : Int} {many : Nat} : ∀ (X : List (Nat × Nat × Bool)) (i : Nat), (prB P hg J W U hold many i X).map (·.1) = (prA P hg J W U i X).map (·.1)
  | [], _ => rfl
  | x :: r, i => by
    show prL P hg J W r.isEmpty U i x :: (prB P hg J W U hold many (i + 1) r).map (·.1) = prL P hg J W r.isEmpty U i x :: (prA P hg J W U (i + 1) r).map (·.1)
    rw [prAB r (i + 1)]
section
variable {σ σ0 : MS} {Q : MQ9} {G : GS9} {d9 : Int} {q x0 : Nat} {U P : List Int} {hg J W o hold : Int} {X : List (Nat × Nat × Bool)}
/-- what printing reads -/
def PrC (σ : MS) (q x0 : Nat) (U P : List Int) (hg J W o : Int) (X : List (Nat × Nat × Bool)) : Prop := LnC σ q x0 U ∧ mX σ 112 = lnA x0 X ∧ mX σ 114 = lnB x0 X ∧ mX σ 116 = lnP X ∧ mX σ 118 = P ∧ mV σ 24 0 = W ∧ mV σ 111 9 = hg ∧ mV σ 111 10 = J ∧ mV σ 127 16 = o
theorem PrC.ga {σ' : MS} (h : PrC σ q x0 U P hg J W o X) (hq : q ≠ 130 ∧ q ≠ 132 ∧ q ≠ 134 ∧ q ≠ 136 ∧ q ≠ 138) (f : FrGa σ σ') : PrC σ' q x0 U P hg J W o X := by
  obtain ⟨h1, h2, h3, h4, h5, h6, h7, h8, h9⟩ := h
  exact ⟨⟨h1.1, h1.2.1, fun t ht => by rw [f.1 q hq.1 hq.2.1 hq.2.2.1 hq.2.2.2.1 hq.2.2.2.2]; exact h1.2.2 t ht⟩, (f.1 _ (by decide) (by decide) (by decide) (by decide) (by decide)).trans h2, (f.1 _ (by decide) (by decide) (by decide) (by decide) (by decide)).trans h3, (f.1 _ (by decide) (by decide) (by decide) (by decide) (by decide)).trans h4, (f.1 _ (by decide) (by decide) (by decide) (by decide) (by decide)).trans h5, (f.2.2 _ _ (by decide)).trans h6, (f.2.2 _ _ (by decide)).trans h7, (f.2.2 _ _ (by decide)).trans h8, (f.2.2 _ _ (by decide)).trans h9⟩
theorem bor2 {b : Bool} : bor (bZ b) 2 = bZ b + 2 := by cases b <;> decide
theorem prt_70 {fw : Bool} (hq9 : q ≠ 130 ∧ q ≠ 132 ∧ q ≠ 134 ∧ q ≠ 136 ∧ q ≠ 138) (hX6 : X.length ≤ 65536) (hX : ∀ x ∈ X, x.1 < x.2.1 ∧ x.2.1 ≤ U.length ∧ x.2.1 - x.1 ≤ 80) (hP6 : P.length ≤ 64) (hh : 0 ≤ hg ∧ hg ≤ 100) (hW : 12 ≤ W ∧ W ≤ 80) (ho : Rg o) (hho : 0 ≤ hold ∧ hold ≤ 10000) (hc : d9 ≤ 1000) : ∀ (r p : List (Nat × Nat × Bool)) (σ : MS) (G : GS9), X = p ++ r → PrC σ q x0 U P hg J W o X → GaC σ G [] → GB9 d9 G → (∀ G' σ', gAll o fw (prB P hg J W U hold X.length p.length r) G = .inl G' → GaC σ' G' [] → FrGa σ σ' → Q (.inl none) σ') → (∀ e σ', gAll o fw (prB P hg J W U hold X.length p.length r) G = .inr e → TxF σ' e → FrGa σ σ' → Q (.inr (exN 0)) σ') → Setter_printLines_70 q hold (bZ fw) (X.length : Int) (p.length : Int) σ Q := by
  intro r
  induction r with
  | nil =>
    intro p σ G he hC hG hB hy hn
    have hl : X.length = p.length := by rw [he, List.append_nil]
    exact Setter_printLines_70.i ⟨by unfold Rg; omega, fun _ => hy G σ rfl hG FrGa.rf, fun h9 => absurd h9 (by omega)⟩
  | cons x r ih =>
    intro p σ G he hC hG hB hy hn
    have hl : X.length = p.length + (r.length + 1) := by rw [he, List.length_append, List.length_cons]
    have hgx : X.getD p.length (0, 0, false) = x := by
      rw [he]
      unfold List.getD
      rw [List.getElem?_append_right (Nat.le_refl _), Nat.sub_self]
      rfl
    have hx := hX x (by rw [he]; exact List.mem_append_right _ List.mem_cons_self)
    have ls : decide (X.length ≤ p.length + 1) = r.isEmpty := by
      rw [hl]
      cases r with
      | nil => exact decide_eq_true (Nat.le_refl _)
      | cons y r => exact decide_eq_false (by rw [List.length_cons]; omega)
    have pl := prL_l (P := P) (hg := hg) (J := J) (W := W) (ls := r.isEmpty) (U := U) (i := p.length) (x := x) hP6 hh hW hx.2.1 hx.2.2
    have gl := hG.len
    have b4 := hB.2.2.2.1
    have b1 := hB.1
    have hC0 := hC
    obtain ⟨c1, c2, c3, c4, c5, c6, c7, c8, c9⟩ := hC
    refine Setter_printLines_70.i ⟨by unfold Rg; omega, fun h9 => absurd h9 (by omega), fun _ => Filler_print.c c1 hq9.1 (by omega) hX6 c2 c3 c4 c6 hW c5 hP6 c7 hh c8 hgx ⟨hx.1, hx.2.1⟩ ?_ ?_⟩
    · rw [ls, gl]
      show suM _ + 0 + _ ≤ _
      omega
    rw [ls]
    have hG1 := hG.put (D := prL P hg J W r.isEmpty U p.length x)
    rw [List.nil_append] at hG1
    have hC1 : PrC (wX σ 130 (mX σ 130 ++ prL P hg J W r.isEmpty U p.length x)) q x0 U P hg J W o X := hC0.ga hq9 (FrGa.x (by decide))
    have f1 : FrGa σ (wX σ 130 (mX σ 130 ++ prL P hg J W r.isEmpty U p.length x)) := FrGa.x (by decide)
    show Rg ((p.length : Int) + 1) ∧ _
    generalize wX σ 130 (mX σ 130 ++ prL P hg J W r.isEmpty U p.length x) = σ1 at hG1 hC1 f1
    have c14 : rgt (mX σ1 116) (p.length : Int) = bZ x.2.2 := by
      have := lnA_at (Ls := X) (i := p.length) (by omega) _ hC1.2.2.2.1
      rw [hgx] at this
      exact this
    have c19 : mV σ1 127 16 = o := hC1.2.2.2.2.2.2.2.2
    have s176 : ∀ s2 : Int, s2 = bZ (hoF hold X.length p.length) + 2 * bZ x.2.2 → Setter_printLines_176 q hold (bZ fw) (X.length : Int) (p.length : Int) o s2 σ1 Q := fun s2 h2 => by
      rw [h2]
      have e0 : ∀ r2, gAll o fw (prB P hg J W U hold X.length p.length (x :: r)) G = r2 ↔ gBd (gFin o (prL P hg J W r.isEmpty U p.length x) (bZ (hoF hold X.length p.length) + 2 * bZ x.2.2) fw G) (gAll o fw (prB P hg J W U hold X.length (p.length + 1) r)) = r2 := fun r2 => Iff.rfl
      refine Setter_printLines_176.i (Galley_finish.c hG1 hB (by omega) hc ho (by
        have h1 : 0 ≤ bZ (hoF hold X.length p.length) ∧ bZ (hoF hold X.length p.length) ≤ 1 := by cases hoF hold X.length p.length <;> decide
        have h2 : 0 ≤ bZ x.2.2 ∧ bZ x.2.2 ≤ 1 := by cases x.2.2 <;> decide
        unfold Rg
        omega) (fun G' σ' q1 q2 q3 q4 => ?_) (fun e σ' q1 q2 q3 => ?_))
      · show Setter_printLines_70 q hold (bZ fw) (X.length : Int) ((p.length : Int) + 1) σ' Q
        have := ih (p ++ [x]) σ' G' (by rw [List.append_assoc]; exact he) (hC1.ga hq9 q4) q2 (q3.mo (by omega)) (fun G2 σ2 w1 w2 w3 => hy G2 σ2 (by
          rw [e0, q1]
          rw [List.length_append] at w1
          exact w1) w2 ((f1.tr q4).tr w3)) (fun e σ2 w1 w2 w3 => hn e σ2 (by
          rw [e0, q1]
          rw [List.length_append] at w1
          exact w1) w2 ((f1.tr q4).tr w3))
        rw [List.length_append] at this
        exact this
      · exact hn e σ' (by
          rw [e0, q1]
          rfl) q2 (f1.tr q3)
    have s141 : ∀ s0 : Int, s0 = bZ (hoF hold X.length p.length) → Setter_printLines_141 q hold (bZ fw) (X.length : Int) (p.length : Int) s0 σ1 Q := fun s0 h0 => by
      rw [h0]
      refine Setter_printLines_141.i ⟨by unfold Rg; omega, ?_⟩
      rw [c14, c19]
      refine ⟨fun h9 => s176 _ ?_, fun h9 => s176 _ ?_⟩
      · cases e : x.2.2
        · show _ = _ + 2 * 0
          omega
        · rw [e] at h9
          exact absurd rfl h9
      · rw [bor2, h9]
        rfl
    have no : ¬ ((p.length + 1 < X.length ∧ ((p.length : Int) + 1 < hold ∨ (X.length : Int) - p.length - 1 < hold))) → Setter_printLines_121 q hold (bZ fw) (X.length : Int) (p.length : Int) σ1 Q := fun h9 => by
      refine Setter_printLines_121.i (Setter_printLines_122.i ⟨fun h8 => absurd rfl h8, fun _ => ⟨by unfold Rg; omega, fun h8 => s141 0 ?_, fun h8 => Setter_printLines_136.i (s141 1 ?_)⟩⟩)
      · unfold hoF
        rw [decide_eq_false (by
          rintro (h | h)
          · exact h9 h
          · exact h8 h)]
        rfl
      · unfold hoF
        rw [decide_eq_true (Or.inr h8)]
        rfl
    have yes : ((p.length + 1 < X.length ∧ ((p.length : Int) + 1 < hold ∨ (X.length : Int) - p.length - 1 < hold))) → Setter_printLines_117 q hold (bZ fw) (X.length : Int) (p.length : Int) σ1 Q := fun h9 => by
      refine Setter_printLines_117.i (Setter_printLines_122.i ⟨fun _ => Setter_printLines_136.i (s141 1 ?_), fun h8 => absurd h8 (by decide)⟩)
      unfold hoF
      rw [decide_eq_true (Or.inl h9)]
      rfl
    refine ⟨by unfold Rg; omega, fun h9 => no (by omega), fun h9 => ⟨by unfold Rg; omega, by unfold Rg; omega, fun h8 => yes (by omega), fun h8 => ⟨by unfold Rg; omega, by unfold Rg; omega, fun h7 => no (by omega), fun h7 => yes (by omega)⟩⟩⟩
theorem Setter_printLines.c {fw : Bool} (hq9 : q ≠ 130 ∧ q ≠ 132 ∧ q ≠ 134 ∧ q ≠ 136 ∧ q ≠ 138) (hX6 : X.length ≤ 65536) (hX : ∀ x ∈ X, x.1 < x.2.1 ∧ x.2.1 ≤ U.length ∧ x.2.1 - x.1 ≤ 80) (hP6 : P.length ≤ 64) (hh : 0 ≤ hg ∧ hg ≤ 100) (hW : 12 ≤ W ∧ W ≤ 80) (ho : Rg o) (hho : 0 ≤ hold ∧ hold ≤ 10000) (hc : d9 ≤ 1000) (hC : PrC σ q x0 U P hg J W o X) (hG : GaC σ G []) (hB : GB9 d9 G) (hy : ∀ G' σ', gAll o fw (prN P hg J W U hold X) G = .inl G' → GaC σ' G' [] → FrGa σ σ' → Q (.inl none) σ') (hn : ∀ e σ', gAll o fw (prN P hg J W U hold X) G = .inr e → TxF σ' e → FrGa σ σ' → Q (.inr (exN 0)) σ') : Setter_printLines q hold (bZ fw) σ Q := by
  have hl : (mX σ 112).length = X.length := by
    rw [hC.2.1]
    exact List.length_map ..
  have gl := hG.len
  have b4 := hB.2.2.2.1
  have b1 := hB.1
  refine Setter_printLines.i ?_
  rw [hl]
  refine ⟨fun h9 => Setter_printLines_67.i ?_, fun h9 => ?_⟩
  · have e : prN P hg J W U hold X = prB P hg J W U hold X.length 0 X := by
      unfold prN
      rw [if_neg]
      cases X with
      | nil => exact absurd rfl h9
      | cons x r => exact fun h => absurd h Bool.false_ne_true
    rw [e] at hy hn
    exact prt_70 hq9 hX6 hX hP6 hh hW ho hho hc X [] σ G rfl hC hG hB hy hn
  · have hX0 : X = [] := List.eq_nil_of_length_eq_zero (by omega)
    have e118 := hC.2.2.2.2.1
    have e16 := hC.2.2.2.2.2.2.2.2
    have lc : LnC σ 118 0 P := ⟨by decide, by omega, fun t ht => by
      rw [e118, show ((0 : Nat) : Int) + (t : Int) = (t : Int) by omega]
      exact rgt_n ht⟩
    have pe := lc.pour (p := 0) (b := P.length - 1) (Nat.zero_le _) (Nat.sub_le _ _)
    rw [e118] at pe
    rw [e118, e16, show (((P.length : Int) - 1) - 0).toNat = P.length - 1 - 0 by omega, show pourM (rgt P) (P.length - 1 - 0) 0 = sgT P 0 (P.length - 1) from pe]
    have e : prN P hg J W U hold X = [(sgT P 0 (P.length - 1), 0)] := by
      rw [hX0]
      rfl
    rw [e] at hy hn
    have sl := sgT_l (U := P) (a := 0) (b := P.length - 1) (by omega)
    have e0 : ∀ r2, gAll o fw [(sgT P 0 (P.length - 1), 0)] G = r2 ↔ gBd (gFin o (sgT P 0 (P.length - 1)) 0 fw G) (gAll o fw []) = r2 := fun r2 => Iff.rfl
    have hG1 := hG.put (D := sgT P 0 (P.length - 1))
    rw [List.nil_append] at hG1
    refine ⟨by unfold Rg; omega, ?_, Galley_finish.c hG1 hB (by omega) hc ho (by decide) (fun G' σ' q1 q2 q3 q4 => ?_) (fun e σ' q1 q2 q3 => ?_)⟩
    · rw [gl]
      show suM _ + 0 + _ ≤ _
      omega
    · show Setter_printLines_67 q hold (bZ fw) (X.length : Int) σ' Q
      refine Setter_printLines_67.i ?_
      refine prt_70 hq9 hX6 hX hP6 hh hW ho hho hc X [] σ' G' rfl ((hC.ga hq9 (FrGa.x (by decide))).ga hq9 q4) q2 (q3.mo (by omega)) (fun G2 σ2 w1 w2 w3 => ?_) (fun e σ2 w1 w2 w3 => ?_)
      · rw [hX0] at w1
        have e2 : G' = G2 := Sum.inl.inj w1
        rw [← e2] at w2
        exact hy G' σ2 ((e0 _).mpr (by rw [q1]; rfl)) w2 (((FrGa.x (by decide)).tr q4).tr w3)
      · rw [hX0] at w1
        exact absurd w1 (by simp [prB, gAll])
    · exact hn e σ' ((e0 _).mpr (by rw [q1]; rfl)) q2 ((FrGa.x (by decide)).tr q3)
/-- which line has a place -/
def lnO (p : Int) : List (Nat × Nat × Bool) → Nat
  | [] => 0
  | x :: r => if r.isEmpty = false ∧ (x.2.1 : Int) ≤ p then lnO p r + 1 else 0
theorem Setter_lineOf.c {p : Int} (hp : Rg p) (hX6 : X.length ≤ 65536) (hx6 : x0 ≤ 70000) (hX : ∀ x ∈ X, x.2.1 ≤ 70000) (h114 : mX σ 114 = lnB x0 X) (hq : Q (.inl (some (lnO (p - x0) X : Int))) σ) : Setter_lineOf p σ Q := by
  have hl : (mX σ 114).length = X.length := by
    rw [h114]
    exact List.length_map ..
  have key : ∀ (r a : List (Nat × Nat × Bool)), X = a ++ r → a.length + lnO (p - x0) r = lnO (p - x0) X → Setter_lineOf_2 p (a.length : Int) σ Q := by
    intro r
    induction r with
    | nil =>
      intro a he h
      have h2 : X.length = a.length := by rw [he, List.append_nil]
      refine Setter_lineOf_2.i ⟨by unfold Rg; omega, fun _ => ⟨by unfold Rg; omega, ?_⟩, fun h9 => absurd h9 (by rw [hl]; omega)⟩
      rw [← h] at hq
      exact hq
    | cons x r ih =>
      intro a he h
      have h2 : X.length = a.length + (r.length + 1) := by rw [he, List.length_append, List.length_cons]
      have hgx : X.getD a.length (0, 0, false) = x := by
        rw [he]
        unfold List.getD
        rw [List.getElem?_append_right (Nat.le_refl _), Nat.sub_self]
        rfl
      have c3 := lnA_at (Ls := X) (i := a.length) (by omega) _ h114
      rw [hgx] at c3
      have hx := hX x (by rw [he]; exact List.mem_append_right _ List.mem_cons_self)
      have stop : ¬ (r.isEmpty = false ∧ (x.2.1 : Int) ≤ p - x0) → Q (.inl (some (a.length : Int))) σ := fun h9 => by
        have e : lnO (p - x0) (x :: r) = 0 := if_neg h9
        rw [e, Nat.add_zero] at h
        rw [← h] at hq
        exact hq
      have re : r.isEmpty = false ↔ 0 < r.length := by
        cases r with
        | nil => exact ⟨fun h => absurd h (by decide), fun h => absurd h (by decide)⟩
        | cons y r => exact ⟨fun _ => Nat.succ_pos _, fun _ => rfl⟩
      refine Setter_lineOf_2.i ⟨by unfold Rg; omega, fun h9 => ⟨by unfold Rg; omega, stop (fun h8 => ?_)⟩, fun h9 => ⟨by unfold Rg; omega, hp, ?_⟩⟩
      · have := re.mp h8.1
        rw [hl] at h9
        omega
      · rw [c3]
        refine ⟨fun h8 => ⟨by unfold Rg; omega, stop (fun h7 => by omega)⟩, fun h8 => ?_⟩
        rw [hl] at h9
        have yes : r.isEmpty = false ∧ (x.2.1 : Int) ≤ p - x0 := ⟨re.mpr (by omega), by omega⟩
        have e : lnO (p - x0) (x :: r) = lnO (p - x0) r + 1 := if_pos yes
        rw [e] at h
        have := ih (a ++ [x]) (by rw [List.append_assoc]; exact he) (by rw [List.length_append]; show a.length + 1 + _ = _; omega)
        rw [List.length_append] at this
        exact this
  exact Setter_lineOf.i (key X [] rfl (Nat.zero_add _))
end
