/-! PAGES: marks turn to pages, the class -/
theorem set_ap9 : ∀ {L R : List Int} {x y : Int}, (L ++ x :: R).set L.length y = L ++ y :: R
  | [], R, x, y => rfl
  | a :: L, R, x, y => congrArg (a :: ·) (set_ap9 (L := L))
theorem ralt_ap {L R : List Int} {x y : Int} : ralt (L ++ x :: R) (L.length : Int) y = L ++ y :: R := by
  unfold ralt
  rw [if_pos ⟨by omega, by rw [List.length_append]; show (L.length : Int) < ((L.length + (R.length + 1) : Nat) : Int); omega⟩, Int.toNat_natCast]
  exact set_ap9
section
variable {σ : MS} {Q : MQ9} {P : List (Nat × Nat)} {q : Nat}
theorem pgN_l : ∀ {P : List (Nat × Nat)} {x : Int}, pgN P x ≤ P.length
  | [], x => Nat.le_refl _
  | p :: P, x => by
    have := pgN_l (P := P) (x := x)
    show (if x ≤ (p.2 : Int) then 0 else pgN P x + 1) ≤ P.length + 1
    split <;> omega
theorem pgN_lt : ∀ {P : List (Nat × Nat)} {x : Int} {j : Nat}, j < pgN P x → ¬ x ≤ ((P.getD j (0, 0)).2 : Int)
  | [], x, j, h => absurd h (Nat.not_lt_zero _)
  | p :: P, x, j, h => by
    have h : j < (if x ≤ (p.2 : Int) then 0 else pgN P x + 1) := h
    by_cases c : x ≤ (p.2 : Int)
    · rw [if_pos c] at h
      omega
    · rw [if_neg c] at h
      cases j with
      | zero => exact c
      | succ j => exact pgN_lt (P := P) (by omega)
theorem pgN_at : ∀ {P : List (Nat × Nat)} {x : Int}, pgN P x < P.length → x ≤ ((P.getD (pgN P x) (0, 0)).2 : Int)
  | [], x, h => absurd h (Nat.not_lt_zero _)
  | p :: P, x, h => by
    have e : pgN (p :: P) x = if x ≤ (p.2 : Int) then 0 else pgN P x + 1 := rfl
    rw [e] at h ⊢
    by_cases c : x ≤ (p.2 : Int)
    · rw [if_pos c]
      exact c
    · rw [if_neg c] at h ⊢
      have h : pgN P x + 1 < P.length + 1 := h
      exact pgN_at (P := P) (by omega)
theorem p2_at {k : Nat} (h : k < P.length) : rgt (P.map (fun p => (p.2 : Int))) (k : Int) = ((P.getD k (0, 0)).2 : Int) := by
  rw [rgt_n (by rw [List.length_map]; exact h)]
  unfold List.getD
  rw [List.getElem?_map, List.getElem?_eq_getElem h]
  rfl
theorem gtp_12 {i : Nat} {v : Int} {X : List Int} (hr : isRow q = true) (hP : P.length ≤ 99) (h148 : mX σ 148 = P.map (fun p => (p.2 : Int))) (hX : mX σ q = X) (hi : i < X.length) (hi9 : i ≤ 1000) (hv : X.getD i 0 = v) (hq : Galley_turnToPages_45 q (i : Int) (pgN P v : Int) σ Q) : ∀ (n j : Nat), j + n = pgN P v → Galley_turnToPages_12 q (i : Int) (j : Int) σ Q := by
  have pl := pgN_l (P := P) (x := v)
  have l148 : (mX σ 148).length = P.length := by rw [h148, List.length_map]
  have ev : rgt (mX σ q) (i : Int) = v := by rw [hX, rgt_n hi]; exact hv
  intro n
  induction n with
  | zero =>
    intro j hj
    have ej : j = pgN P v := by omega
    rw [ej]
    refine Galley_turnToPages_12.i ⟨by unfold Rg; omega, fun _ => hq, fun h => ⟨by unfold Rg; omega, tB.i hr (tB.i hr ⟨by unfold Rg; omega, fun _ => hq, fun h9 => ?_⟩)⟩⟩
    rw [l148] at h
    rw [ev, h148, p2_at (by omega)] at h9
    have := pgN_at (P := P) (x := v) (by omega)
    omega
  | succ n ih =>
    intro j hj
    have lt := pgN_lt (P := P) (x := v) (j := j) (by omega)
    refine Galley_turnToPages_12.i ⟨by unfold Rg; omega, fun h => by rw [l148] at h; omega, fun h => ⟨by unfold Rg; omega, tB.i hr (tB.i hr ⟨by unfold Rg; omega, fun h9 => ?_, fun _ => ?_⟩)⟩⟩
    · rw [ev, h148, p2_at (by omega)] at h9
      exact absurd h9 lt
    · rw [show (j : Int) + 1 = ((j + 1 : Nat) : Int) by omega]
      exact ih (j + 1) (by omega)
/-- places become pages -/
theorem Galley_turnToPages.c {V : List Int} (hr : isRow q = true) (hq8 : q ≠ 148) (hP : P.length ≤ 99) (h148 : mX σ 148 = P.map (fun p => (p.2 : Int))) (hV : mX σ q = V) (hl : V.length ≤ 1000) (hq : ∀ σ', mX σ' q = V.map (fun v => (pgN P v : Int)) → (∀ y, y ≠ q → mX σ' y = mX σ y) → σ'.2 = σ.2 → Q (.inl none) σ') : Galley_turnToPages q σ Q := by
  have go : ∀ (r p : List Int) (σ1 : MS), V = p ++ r → mX σ1 q = p.map (fun v => (pgN P v : Int)) ++ r → (∀ y, y ≠ q → mX σ1 y = mX σ y) → σ1.2 = σ.2 → Galley_turnToPages_2 q (p.length : Int) σ1 Q := by
    intro r
    induction r with
    | nil =>
      intro p σ1 he hx ho h2
      rw [List.append_nil] at he hx
      refine Galley_turnToPages_2.i (tB.i hr ⟨by unfold Rg; rw [he] at hl; omega, fun _ => hq σ1 (by rw [hx, he]) ho h2, fun h => ?_⟩)
      rw [hx, List.length_map] at h
      omega
    | cons v r ih =>
      intro p σ1 he hx ho h2
      have lp : (p.map (fun v => (pgN P v : Int))).length = p.length := List.length_map ..
      have lV : V.length = p.length + (r.length + 1) := by rw [he, List.length_append]; rfl
      have lX : (mX σ1 q).length = p.length + (r.length + 1) := by rw [hx, List.length_append, lp]; rfl
      refine Galley_turnToPages_2.i (tB.i hr ⟨by unfold Rg; omega, fun h => by rw [lX] at h; omega, fun _ => ?_⟩)
      have ev : (p.map (fun v => (pgN P v : Int)) ++ v :: r).getD p.length 0 = v := by
        have := ap_r (A := p.map (fun v => (pgN P v : Int))) (B := v :: r) (i := 0)
        rw [lp, Nat.add_zero] at this
        exact this
      refine gtp_12 (X := p.map (fun v => (pgN P v : Int)) ++ v :: r) (v := v) hr hP ((ho _ (fun e => hq8 e.symm)).trans h148) hx (by rw [← hx, lX]; omega) (by omega) ev ?_ (pgN P v) 0 (by omega)
      have pl := pgN_l (P := P) (x := v)
      refine Galley_turnToPages_45.i (tB.i hr (tB.i hr ⟨by unfold Rg; omega, by unfold Rg; omega, ?_⟩))
      rw [show (p.length : Int) + 1 = ((p ++ [v]).length : Int) by rw [List.length_append]; rfl]
      refine ih (p ++ [v]) _ (by rw [he, List.append_assoc]; rfl) ?_ (fun y hy => (wX_ne hy).trans (ho y hy)) h2
      rw [wX_self, hx, ← lp, ralt_ap, List.map_append, List.append_assoc]
      rfl
  exact Galley_turnToPages.i (go V [] σ rfl hV (fun _ _ => rfl) rfl)
end
