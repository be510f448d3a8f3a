/-! TABLES: cells are worked; the class -/
def tcW (E : TE) (M : List Int) : List (Nat × Nat) → TS → (List (List Int) × TS) ⊕ (Int × Int × Int)
  | [], s => .inl ([], s)
  | p :: r, s => match tSp 15 s with
    | .inr e => .inr e
    | .inl s0 => match wkD 30 (eZ E) false [] (sgT M p.1 p.2) (tx0 s0) with
      | .inr e => .inr e
      | .inl s1 => match tcW E M r (tx0 s1) with
        | .inr e => .inr e
        | .inl w => .inl (s1.2.1 :: w.1, w.2)
def reC : Nat → List (List (List Int)) → List Int
  | _, [] => []
  | a, r :: t => ((a + r.length : Nat) : Int) :: reC (a + r.length) t
def tbD (k : Nat) (R : List (List (List Int))) : Int := R.foldl (fun m row => if k < row.length then max m ((pkL (row.getD k [])).length : Int) else m) 1
def tbC (R : List (List (List Int))) : Nat := R.foldl (fun m row => max m row.length) 0
def TaC (σ : MS) (R : List (List (List Int))) (p : List (List Int)) : Prop := shR σ 151 ((R.flatten ++ p).map pkL) ∧ mX σ 156 = reC 0 R ∧ (∀ k, k < 8 → mV σ 161 k = tbD k (R ++ [p])) ∧ mV σ 150 9 = (tbC (R ++ [p]) : Int)
def tbP (C : List (List Int)) : Int := (suM C : Nat) + 15 * (C.length : Int)
theorem reC_sn : ∀ {R : List (List (List Int))} {a : Nat} {r : List (List Int)}, reC a (R ++ [r]) = reC a R ++ [((a + R.flatten.length + r.length : Nat) : Int)]
  | [], a, r => by
    show [((a + r.length : Nat) : Int)] = [((a + 0 + r.length : Nat) : Int)]
    rw [Nat.add_zero]
  | x :: t, a, r => by
    show ((a + x.length : Nat) : Int) :: reC (a + x.length) (t ++ [r]) = ((a + x.length : Nat) : Int) :: (reC (a + x.length) t ++ [((a + (x ++ t.flatten).length + r.length : Nat) : Int)])
    rw [reC_sn, List.length_append, show a + x.length + t.flatten.length = a + (x.length + t.flatten.length) by omega]
theorem reC_l : ∀ {R : List (List (List Int))} {a : Nat}, (reC a R).length = R.length
  | [], a => rfl
  | x :: t, a => by
    show (reC (a + x.length) t).length + 1 = t.length + 1
    rw [reC_l]
theorem tbD_sn {k : Nat} {R : List (List (List Int))} {p : List (List Int)} : tbD k (R ++ [p]) = if k < p.length then max (tbD k R) ((pkL (p.getD k [])).length : Int) else tbD k R := by
  unfold tbD
  rw [List.foldl_append]
  rfl
theorem tbC_sn {R : List (List (List Int))} {p : List (List Int)} : tbC (R ++ [p]) = max (tbC R) p.length := by
  unfold tbC
  rw [List.foldl_append]
  rfl
theorem tbD_1 {k : Nat} : ∀ {R : List (List (List Int))}, 1 ≤ tbD k R := by
  intro R
  have key : ∀ (R : List (List (List Int))) (m : Int), 1 ≤ m → 1 ≤ R.foldl (fun m row => if k < row.length then max m ((pkL (row.getD k [])).length : Int) else m) m := by
    intro R
    induction R with
    | nil => intro m h; exact h
    | cons r t ih =>
      intro m h
      refine ih _ ?_
      show 1 ≤ (if k < r.length then max m ((pkL (r.getD k [])).length : Int) else m)
      split
      · omega
      · exact h
  exact key R 1 (Int.le_refl 1)
section
variable {σ σ0 : MS} {Q : MQ9} {E : TE} {z z' : Nat} {R : List (List (List Int))} {p : List (List Int)} {M : List Int}
theorem TaC.cg {σ1 : MS} (h : TaC σ R p) (x : ∀ q, q = 152 ∨ q = 154 ∨ q = 156 → mX σ1 q = mX σ q) (v : ∀ y k, y = 161 ∨ (y = 150 ∧ k = 9) → mV σ1 y k = mV σ y k) : TaC σ1 R p := ⟨⟨(x _ (by omega)).trans h.1.1, (x _ (by omega)).trans h.1.2⟩, (x _ (by omega)).trans h.2.1, fun k hk => (v _ _ (Or.inl rfl)).trans (h.2.2.1 k hk), (v _ _ (Or.inr ⟨rfl, rfl⟩)).trans h.2.2.2⟩
theorem Tables_takeCell.c {L : List Int} (h : TaC σ R p) (hp8 : p.length < 8) (h87 : mX σ 87 = pkL L) (hb1 : suM (R.flatten ++ p) + L.length ≤ 65536) (hb2 : R.flatten.length + p.length < 4096) (hR : R.length ≤ 4000) (hq : ∀ σ', TaC σ' R (p ++ [L]) → (∀ q, q ≠ 152 → q ≠ 154 → mX σ' q = mX σ q) → σ'.2.2 = σ.2.2 → (∀ y k, y ≠ 161 → ¬ (y = 150 ∧ k = 9) → mV σ' y k = mV σ y k) → Q (.inl none) σ') : Tables_takeCell 87 σ Q := by
  obtain ⟨⟨h1, h3⟩, h6, hw, hc⟩ := h
  have l4 : (mX σ 154).length = R.flatten.length + p.length := by
    rw [h3, enS_len, List.length_map, List.length_append]
  have lL := pkL_q (L := L)
  have sC : suM ((R.flatten ++ p).map pkL) ≤ suM (R.flatten ++ p) := suM_pq _
  have go : ∀ x : Int, x = (R.flatten.length : Int) → Tables_takeCell_37 87 ((R.flatten.length + p.length : Nat) : Int) x σ Q := fun x hx => by
    rw [hx]
    refine Tables_takeCell_37.i (tB.i (by decide) (tB.i (by decide) (tB.i (by decide) ⟨?_, ?_⟩)))
    · rw [h1, flat_len, h87]
      omega
    rw [h87, pour_all, h1]
    have e1 : mX (wX σ 152 (((R.flatten ++ p).map pkL).flatten ++ pkL L)) 152 = ((R.flatten ++ (p ++ [L])).map pkL).flatten := by
      rw [wX_self, ← List.append_assoc, List.map_append (l₁ := R.flatten ++ p), List.flatten_append]
      show _ = ((R.flatten ++ p).map pkL).flatten ++ (pkL L ++ [])
      rw [List.append_nil]
    have e3 : mX (wX σ 152 (((R.flatten ++ p).map pkL).flatten ++ pkL L)) 154 = enS 0 ((R.flatten ++ p).map pkL) := by
      rw [wX_ne (by decide)]
      exact h3
    have eA : (R.flatten ++ p).map pkL ++ [pkL L] = (R.flatten ++ (p ++ [L])).map pkL := by
      rw [← List.append_assoc, List.map_append (l₁ := R.flatten ++ p)]
      rfl
    have cl := shR.close (σ := wX σ 152 (((R.flatten ++ p).map pkL).flatten ++ pkL L)) (q := 151) (W := (R.flatten ++ p).map pkL) (w := pkL L) (by rw [eA]; exact e1) e3
    refine Shelf_close.i (tB.i (by decide) (tB.i (by decide) (tB.i (by decide) (tB.i (by decide) (tB.i (by decide) ⟨?_, ?_⟩)))))
    · rw [e3, enS_len, List.length_map, List.length_append]
      exact Nat.lt_of_lt_of_le hb2 (by decide)
    have cl : mX (wX σ 152 (((R.flatten ++ p).map pkL).flatten ++ pkL L)) (151 + 3) ++ [((mX (wX σ 152 (((R.flatten ++ p).map pkL).flatten ++ pkL L)) (151 + 1)).length : Int)] = enS 0 ((R.flatten ++ (p ++ [L])).map pkL) := by
      rw [← eA]
      exact cl
    rw [cl]
    generalize hσ1 : wX (wX σ 152 (((R.flatten ++ p).map pkL).flatten ++ pkL L)) (151 + 3) (enS 0 ((R.flatten ++ (p ++ [L])).map pkL)) = σ1
    have x1 : ∀ q, q ≠ 152 → q ≠ 154 → mX σ1 q = mX σ q := fun q a b => by
      rw [← hσ1, wX_ne b, wX_ne a]
    have v1 : mV σ1 = mV σ := by
      rw [← hσ1]
      rfl
    have s1 : σ1.2.2 = σ.2.2 := by
      rw [← hσ1]
      rfl
    have y1 : mX σ1 152 = ((R.flatten ++ (p ++ [L])).map pkL).flatten := by
      rw [← hσ1, wX_ne (by decide)]
      exact e1
    have y3 : mX σ1 154 = enS 0 ((R.flatten ++ (p ++ [L])).map pkL) := by
      rw [← hσ1]
      exact wX_self
    show Rg _ ∧ _
    rw [show ((R.flatten.length + p.length : Nat) : Int) - (R.flatten.length : Int) = (p.length : Int) by omega, Int.toNat_natCast, v1, x1 87 (by decide) (by decide), h87, hw _ hp8, hc]
    refine ⟨by unfold Rg; omega, fun h => absurd h (by omega), fun _ => ⟨by unfold Rg; omega, fun h => absurd h (by omega), fun _ => ⟨by omega, by omega, tB.i (by decide) ⟨by omega, by omega, by unfold Rg; omega, ?_⟩⟩⟩⟩
    refine hq _ ⟨⟨y1, y3⟩, (x1 156 (by decide) (by decide)).trans h6, fun k hk => ?_, ?_⟩ (fun q a b => x1 q a b) s1 (fun y k a b => ?_)
    · rw [wV_ne (Or.inl (by decide)), tbD_sn (p := p ++ [L]), List.length_append]
      show mV (wV σ1 161 p.length _) 161 k = if k < p.length + 1 then _ else _
      by_cases e : k = p.length
      · rw [e, wV_self, if_pos (by omega), tbD_sn, if_neg (by omega)]
        have : (p ++ [L]).getD p.length [] = L := by
          unfold List.getD
          rw [List.getElem?_append_right (Nat.le_refl _), Nat.sub_self]
          rfl
        rw [this]
      · rw [wV_ne (Or.inr e), v1, hw k hk, tbD_sn]
        by_cases h9 : k < p.length
        · have : (p ++ [L]).getD k [] = p.getD k [] := by
            unfold List.getD
            rw [List.getElem?_append_left h9]
          rw [if_pos h9, if_pos (by omega), this]
        · rw [if_neg h9, if_neg (by omega)]
    · rw [wV_self, tbC_sn, tbC_sn, List.length_append]
      show max ((max (tbC R) p.length : Nat) : Int) ((p.length : Int) + 1) = ((max (tbC R) (p.length + 1) : Nat) : Int)
      omega
    · rw [wV_ne (by omega), wV_ne (Or.inl a), v1]
  refine Tables_takeCell.i (Shelf_rows.i (tB.i (by decide) (tB.i (by decide) ?_)))
  show (((mX σ 156).length : Int) ≤ 0 → Tables_takeCell_37 87 (((mX σ (151 + 3)).length : Nat) : Int) 0 σ Q) ∧ (0 < ((mX σ 156).length : Int) → _ ∧ Tables_takeCell_37 87 (((mX σ (151 + 3)).length : Nat) : Int) _ σ Q)
  rw [show (mX σ (151 + 3)).length = R.flatten.length + p.length from l4, h6, reC_l]
  refine ⟨fun h => go 0 ?_, fun h => ⟨?_, go _ ?_⟩⟩
  · have : R = [] := List.eq_nil_of_length_eq_zero (by omega)
    rw [this]
    rfl
  · unfold Rg
    omega
  · obtain ⟨R0, r, e⟩ : ∃ R0 r, R = R0 ++ [r] := by
      rcases List.eq_nil_or_concat R with h0 | ⟨R0, r, h0⟩
      · rw [h0] at h
        exact absurd h (by decide)
      · exact ⟨R0, r, by rw [h0, List.concat_eq_append]⟩
    have el : ((R.length : Nat) : Int) - 1 = (((reC 0 R0).length : Nat) : Int) := by
      rw [reC_l, e, List.length_append]
      show ((R0.length + 1 : Nat) : Int) - 1 = _
      omega
    rw [el, e, reC_sn, rgt_at rfl, List.flatten_append, List.length_append]
    show ((0 + R0.flatten.length + r.length : Nat) : Int) = ((R0.flatten.length + (r ++ []).length : Nat) : Int)
    rw [List.append_nil, Nat.zero_add]
end
