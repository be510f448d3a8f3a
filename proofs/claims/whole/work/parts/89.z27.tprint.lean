/-! TABLES: the class prints the lines of a row -/
def tpX (H : HY9) (W : List Int) (row : List (List Int)) (k : Nat) : List (Nat × Nat × Bool) := if k < row.length then fiL (false, H.2) (pkL (row.getD k [])) (W.getD k 0).toNat (W.getD k 0).toNat (pkL (row.getD k [])).length 0 else []
def tpN (f : Nat → Nat) : Nat → Nat
  | 0 => 1
  | k + 1 => max (tpN f k) (f k)
def tpL (H : HY9) (W A : List Int) (row : List (List Int)) (c i : Nat) : List Int := trB (tpJ [32, 124, 32] (fun k => tpK (W.getD k 0) (A.getD k 0) (tpI (pkL (row.getD k [])) (tpX H W row k) i)) c)
def tpG (f : Nat → List Int) (first : Bool) (many : Nat) : Nat → Nat → List (List Int × Int)
  | 0, _ => []
  | n + 1, i => (f i, if first = true ∨ i + 1 < many then 1 else 0) :: tpG f first many n (i + 1)
def tpM (H : HY9) (W : List Int) (row : List (List Int)) (c : Nat) : Nat := tpN (fun k => (tpX H W row k).length) c
def tdR (W : List Int) (c : Nat) : List Int := tpJ [45, 43, 45] (fun k => List.replicate (W.getD k 0).toNat 45) c
def tpR (H : HY9) (W A : List Int) (c : Nat) (first : Bool) (row : List (List Int)) : List (List Int × Int) := tpG (tpL H W A row c) first (tpM H W row c) (tpM H W row c) 0 ++ (if first = true then [(tdR W c, 1)] else [])
def tbO (H : HY9) (W A : List Int) (c : Nat) : Bool → List (List (List Int)) → List (List Int × Int)
  | _, [] => []
  | first, row :: r => tpR H W A c first row ++ tbO H W A c false r
def PpC (σ : MS) (off x0 : Nat → Nat) (U : Nat → List Int) (X : Nat → List (Nat × Nat × Bool)) (W A : List Int) (c : Nat) : Prop := mV σ 150 9 = (c : Int) ∧ (∀ k, k ≤ c → mV σ 162 k = (off k : Int) ∧ off k ≤ 70000) ∧ (∀ k, k < c → off (k + 1) = off k + (X k).length) ∧ (∀ k j, k < c → j < (X k).length → rgt (mX σ 112) ((off k + j : Nat) : Int) = ((x0 k + ((X k).getD j (0, 0, false)).1 : Nat) : Int) ∧ rgt (mX σ 114) ((off k + j : Nat) : Int) = ((x0 k + ((X k).getD j (0, 0, false)).2.1 : Nat) : Int)) ∧ (∀ k, k < c → 0 < (X k).length → LnC σ 152 (x0 k) (U k)) ∧ (∀ k j, k < c → j < (X k).length → ((X k).getD j (0, 0, false)).1 ≤ ((X k).getD j (0, 0, false)).2.1 ∧ ((X k).getD j (0, 0, false)).2.1 ≤ (U k).length ∧ ((X k).getD j (0, 0, false)).2.1 - ((X k).getD j (0, 0, false)).1 ≤ 80) ∧ (∀ k, k < c → mV σ 161 k = W.getD k 0 ∧ 1 ≤ W.getD k 0 ∧ W.getD k 0 ≤ ((80 : Nat) : Int)) ∧ (∀ k, k < c → mV σ 160 k = A.getD k 0)
theorem gAll_a {o : Int} {fw : Bool} {Y : List (List Int × Int)} : ∀ {X : List (List Int × Int)} {G : GS9}, gAll o fw (X ++ Y) G = gBd (gAll o fw X G) (gAll o fw Y)
  | [], G => rfl
  | x :: r, G => by
    show gBd (gFin o x.1 x.2 fw G) (gAll o fw (r ++ Y)) = gBd (gBd (gFin o x.1 x.2 fw G) (gAll o fw r)) (gAll o fw Y)
    cases gFin o x.1 x.2 fw G with
    | inl G1 => exact gAll_a
    | inr e => rfl
theorem tpJ_l {m : List Int} {f : Nat → List Int} {n : Nat} (h3 : m.length = 3) : ∀ c, (∀ k, k < c → (f k).length ≤ n) → (tpJ m f c).length ≤ (n + 3) * c
  | 0, _ => Nat.zero_le _
  | c + 1, h => by
    have h1 := tpJ_l (m := m) (f := f) (n := n) h3 c (fun k hk => h k (by omega))
    have h2 := h c (by omega)
    show (tpJ m f c ++ (if 1 ≤ c then m else []) ++ f c).length ≤ _
    rw [List.length_append, List.length_append, Nat.mul_succ]
    split
    · omega
    · show _ + 0 + _ ≤ _
      omega
section
variable {σ σ0 : MS} {Q : MQ9} {off x0 : Nat → Nat} {U : Nat → List Int} {X : Nat → List (Nat × Nat × Bool)} {W A : List Int} {c : Nat} {o : Int}
theorem PpC.fr {σ1 : MS} (h : PpC σ off x0 U X W A c) (f : FrGa σ σ1) : PpC σ1 off x0 U X W A c := by
  obtain ⟨h1, h2, h3, h4, h5, h6, h7, h8⟩ := h
  have v : ∀ y k, y ≠ 22 → mV σ1 y k = mV σ y k := f.2.2
  have x : ∀ q, q < 130 ∨ 139 ≤ q → mX σ1 q = mX σ q := fun q h => f.1 q (by omega) (by omega) (by omega) (by omega) (by omega)
  refine ⟨(v _ _ (by decide)).trans h1, fun k hk => ⟨(v _ _ (by decide)).trans (h2 k hk).1, (h2 k hk).2⟩, h3, fun k j hk hj => ?_, fun k hk hx => ?_, h6, fun k hk => ⟨(v _ _ (by decide)).trans (h7 k hk).1, (h7 k hk).2⟩, fun k hk => (v _ _ (by decide)).trans (h8 k hk)⟩
  · rw [x 112 (by omega), x 114 (by omega)]
    exact h4 k j hk hj
  · have := h5 k hk hx
    exact ⟨this.1, this.2.1, fun t ht => by rw [x 152 (by omega)]; exact this.2.2 t ht⟩
theorem tpr_188 {r9 many : Nat} (hc : c ≤ 8) (ho : Rg o) (hr : r9 ≤ 4000) (hmany : many ≤ 70000) {f : Nat → List Int} (hf : f = fun i => trB (tpJ [32, 124, 32] (fun k => tpK (W.getD k 0) (A.getD k 0) (tpI (U k) (X k) i)) c)) : ∀ (n i : Nat) (G : GS9) (σ : MS), i + n = many → PpC σ off x0 U X W A c → GaC σ G [] → GB9 90 G → (∀ G' σ', gAll o true (tpG f (decide (r9 = 0)) many n i ++ (if decide (r9 = 0) = true then [(tdR W c, 1)] else [])) G = .inl G' → GaC σ' G' [] → GB9 90 G' → FrGa σ σ' → Tables_print_252 o (r9 : Int) σ' Q) → (∀ e σ', gAll o true (tpG f (decide (r9 = 0)) many n i ++ (if decide (r9 = 0) = true then [(tdR W c, 1)] else [])) G = .inr e → TxF σ' e → FrGa σ σ' → Q (.inr (exN 0)) σ') → Tables_print_188 o (r9 : Int) (many : Int) (i : Int) σ Q := by
  intro n
  induction n with
  | zero =>
    intro i G σ hi hP hG hB hy hn
    have lD : (mX σ 130).length ≤ 100000 := by
      rw [hG.len]
      have := hB.1.2
      have := hB.2.2.2.1
      show _ + 0 ≤ _
      omega
    refine Tables_print_188.i ⟨by unfold Rg; omega, fun _ => ⟨by unfold Rg; omega, fun h => ?_, fun h => ?_⟩, fun h => absurd h (by omega)⟩
    · have e : decide (r9 = 0) = false := decide_eq_false (by omega)
      rw [e] at hy
      exact hy G σ rfl hG hB FrGa.rf
    · have e : decide (r9 = 0) = true := decide_eq_true (by omega)
      rw [e] at hy hn
      have lT : (tdR W c).length ≤ 2000 := by
        have := tpJ_l (m := [45, 43, 45]) (f := fun k => List.replicate (W.getD k 0).toNat (45 : Int)) (n := 80) rfl c (fun k hk => by
          have := hP.2.2.2.2.2.2.1 k hk
          show (List.replicate (W.getD k 0).toNat (45 : Int)).length ≤ 80
          rw [List.length_replicate]
          omega)
        have h2 : (80 + 3) * c ≤ (80 + 3) * 8 := Nat.mul_le_mul_left _ hc
        unfold tdR
        omega
      refine Tables_printDashes.nn (m := 80) rfl lD hc hP.1 hP.2.2.2.2.2.2.1 (by decide) ?_
      have g1 := hG.put (D := tdR W c)
      rw [List.nil_append] at g1
      show Galley_finish o 1 1 (wX σ 130 (mX σ 130 ++ tdR W c)) _
      refine (Galley_finish.c (fw := true) (d9 := 90) g1 hB lT (by decide) ho (by decide) (fun G' σ' w1 w2 w3 w4 => ?_) (fun e1 σ' w1 w2 w4 => ?_) : Galley_finish o 1 (bZ true) _ _)
      · exact hy G' σ' (by
          show gBd (gFin o (tdR W c) 1 true G) (gAll o true []) = _
          rw [w1]
          rfl) w2 (w3.mo (by decide)) ((FrGa.x (Or.inl rfl)).tr w4)
      · exact hn e1 σ' (by
          show gBd (gFin o (tdR W c) 1 true G) (gAll o true []) = _
          rw [w1]
          rfl) w2 ((FrGa.x (Or.inl rfl)).tr w4)
  | succ n ih =>
    intro i G σ hi hP hG hB hy hn
    have lD : (mX σ 130).length ≤ 100000 := by
      rw [hG.len]
      have := hB.1.2
      have := hB.2.2.2.1
      show _ + 0 ≤ _
      omega
    have tl : ∀ k, k < c → (tpI (U k) (X k) i).length ≤ 80 := fun k hk => by
      unfold tpI
      split
      · rename_i h
        have := hP.2.2.2.2.2.1 k i hk h
        rw [sgT_l this.2.1]
        omega
      · exact Nat.zero_le _
    have lF : (f i).length ≤ 2000 := by
      have h1 := tpJ_l (m := [32, 124, 32]) (f := fun k => tpK (W.getD k 0) (A.getD k 0) (tpI (U k) (X k) i)) (n := 80) rfl c (fun k hk => tpK_l (hP.2.2.2.2.2.2.1 k hk).2 (tl k hk))
      have h2 : (80 + 3) * c ≤ (80 + 3) * 8 := Nat.mul_le_mul_left _ hc
      have h3 := trB_l _ (tpJ [32, 124, 32] (fun k => tpK (W.getD k 0) (A.getD k 0) (tpI (U k) (X k) i)) c) rfl
      rw [hf]
      show (trB _).length ≤ 2000
      omega
    refine Tables_print_188.i ⟨by unfold Rg; omega, fun h => absurd h (by omega), fun _ => ?_⟩
    refine Tables_printParts.nn (m := 80) rfl lD hc hP.1 hP.2.1 hP.2.2.1 (by omega) hP.2.2.2.1 hP.2.2.2.2.1 hP.2.2.2.2.2.1 hP.2.2.2.2.2.2.1 hP.2.2.2.2.2.2.2 (by decide) ?_
    have g1 := hG.put (D := f i)
    rw [List.nil_append] at g1
    have go : ∀ fl : Int, fl = (if decide (r9 = 0) = true ∨ i + 1 < many then 1 else 0) → Tables_print_224 o (r9 : Int) (many : Int) (i : Int) o fl (wX σ 130 (mX σ 130 ++ f i)) Q := fun fl hfl => by
      have eG : ∀ Z, tpG f (decide (r9 = 0)) many (n + 1) i ++ Z = (f i, fl) :: (tpG f (decide (r9 = 0)) many n (i + 1) ++ Z) := fun Z => by
        rw [hfl]
        rfl
      refine Tables_print_224.i (Galley_finish.c (fw := true) (d9 := 90) g1 hB lF (by decide) ho (by rw [hfl]; split <;> decide) (fun G' σ' w1 w2 w3 w4 => ?_) (fun e1 σ' w1 w2 w4 => ?_) : Galley_finish o fl (bZ true) _ _)
      · have fr : FrGa σ σ' := (FrGa.x (Or.inl rfl)).tr w4
        show Tables_print_188 o (r9 : Int) (many : Int) ((i : Int) + 1) σ' Q
        rw [show (i : Int) + 1 = ((i + 1 : Nat) : Int) by omega]
        refine ih (i + 1) G' σ' (by omega) (hP.fr fr) w2 (w3.mo (by decide)) (fun G2 σ2 v1 v2 v3 v4 => hy G2 σ2 ?_ v2 v3 (fr.tr v4)) (fun e2 σ2 v1 v2 v4 => hn e2 σ2 ?_ v2 (fr.tr v4))
        · rw [eG]
          show gBd (gFin o (f i) fl true G) _ = _
          rw [w1]
          exact v1
        · rw [eG]
          show gBd (gFin o (f i) fl true G) _ = _
          rw [w1]
          exact v1
      · refine hn e1 σ' ?_ w2 ((FrGa.x (Or.inl rfl)).tr w4)
        rw [eG]
        show gBd (gFin o (f i) fl true G) _ = _
        rw [w1]
        rfl
    have st : wX σ 130 (mX σ 130 ++ trB (tpJ [32, 124, 32] (fun k => tpK (W.getD k 0) (A.getD k 0) (tpI (U k) (X k) i)) c)) = wX σ 130 (mX σ 130 ++ f i) := by rw [hf]
    rw [st]
    show Rg (r9 : Int) ∧ _
    refine ⟨by unfold Rg; omega, fun h => Tables_print_219.i (go 1 ?_), fun h => ⟨by unfold Rg; omega, fun h2 => go 0 ?_, fun h2 => Tables_print_219.i (go 1 ?_)⟩⟩
    · rw [if_pos (Or.inl (decide_eq_true (by omega)))]
    · rw [if_neg (by
        rw [decide_eq_true_iff]
        omega)]
    · rw [if_pos (Or.inr (by omega))]
end
