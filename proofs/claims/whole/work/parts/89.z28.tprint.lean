/-! TABLES: the class fills the cells of a row, and prints all rows -/
def caF (f : Nat → List Int) : Nat → List Int
  | 0 => []
  | k + 1 => caF f k ++ f k
def ofX (X : Nat → List (Nat × Nat × Bool)) : Nat → Nat
  | 0 => 0
  | k + 1 => ofX X k + (X k).length
theorem caF_l {f : Nat → List Int} {X : Nat → List (Nat × Nat × Bool)} (h : ∀ k, (f k).length = (X k).length) : ∀ k, (caF f k).length = ofX X k
  | 0 => rfl
  | k + 1 => by
    show (caF f k ++ f k).length = ofX X k + (X k).length
    rw [List.length_append, caF_l h k, h k]
theorem caF_pre {f : Nat → List Int} {k : Nat} : ∀ {c : Nat}, k < c → ∃ t, caF f c = caF f k ++ (f k ++ t)
  | 0, h => absurd h (Nat.not_lt_zero _)
  | c + 1, h => by
    by_cases e : k = c
    · rw [e]
      exact ⟨[], by rw [List.append_nil]; rfl⟩
    · obtain ⟨t, ht⟩ := caF_pre (f := f) (c := c) (show k < c by omega)
      refine ⟨t ++ f c, ?_⟩
      show caF f c ++ f c = _
      rw [ht, List.append_assoc, List.append_assoc]
theorem caF_at {f : Nat → List Int} {k c j : Nat} (hk : k < c) (hj : j < (f k).length) : rgt (caF f c) (((caF f k).length + j : Nat) : Int) = (f k).getD j 0 := by
  obtain ⟨t, ht⟩ := caF_pre (f := f) hk
  rw [ht, rgt_n (by rw [List.length_append, List.length_append]; omega)]
  unfold List.getD
  rw [List.getElem?_append_right (by omega), show (caF f k).length + j - (caF f k).length = j by omega, List.getElem?_append_left hj]
theorem reC_a : ∀ {p : List (List (List Int))} {a : Nat} {row : List (List Int)} {r : List (List (List Int))}, reC a (p ++ row :: r) = reC a p ++ ((a + p.flatten.length + row.length : Nat) : Int) :: reC (a + p.flatten.length + row.length) r
  | [], a, row, r => by
    show ((a + row.length : Nat) : Int) :: reC (a + row.length) r = ((a + 0 + row.length : Nat) : Int) :: reC (a + 0 + row.length) r
    rw [Nat.add_zero]
  | x :: t, a, row, r => by
    show ((a + x.length : Nat) : Int) :: reC (a + x.length) (t ++ row :: r) = ((a + x.length : Nat) : Int) :: (reC (a + x.length) t ++ ((a + (x ++ t.flatten).length + row.length : Nat) : Int) :: reC (a + (x ++ t.flatten).length + row.length) r)
    rw [reC_a, List.length_append, show a + x.length + t.flatten.length = a + (x.length + t.flatten.length) by omega]
theorem shR.ln {σ : MS} {z : Nat} {A B : List (List Int)} {u : List Int} (h : shR σ z (A ++ u :: B)) (hr : isRow (z + 1) = true) (hb : suM A + u.length ≤ 70000) : LnC σ (z + 1) (suM A) u := ⟨hr, hb, fun t ht => by
  rw [h.1, List.flatten_append, show ((suM A : Nat) : Int) + (t : Int) = ((A.flatten.length + t : Nat) : Int) by rw [flat_len]; omega]
  have e : (A.flatten ++ (u :: B).flatten) = A.flatten ++ (u ++ B.flatten) := rfl
  rw [e, rgt_n (by rw [List.length_append, List.length_append]; omega)]
  unfold List.getD
  rw [List.getElem?_append_right (by omega), show A.flatten.length + t - A.flatten.length = t by omega, List.getElem?_append_left ht]⟩
def x0R (p : List (List (List Int))) (row : List (List Int)) (k : Nat) : Nat := suM ((p.flatten ++ row.take k).map pkL)
/-- what filling a row changes -/
def FrTf (σ σ' : MS) : Prop := (∀ q, q ≠ 112 → q ≠ 114 → q ≠ 116 → mX σ' q = mX σ q) ∧ σ'.2.2 = σ.2.2 ∧ ∀ y k, y ≠ 126 → ¬ (y = 111 ∧ k = 12) → y ≠ 162 → mV σ' y k = mV σ y k
section
variable {σ σ0 : MS} {Q : MQ9} {H : HY9} {W A : List Int} {c : Nat} {o : Int}
theorem FrTf.tr {σ1 σ2 : MS} (h : FrTf σ σ1) (h' : FrTf σ1 σ2) : FrTf σ σ2 := ⟨fun q a b d => (h'.1 q a b d).trans (h.1 q a b d), h'.2.1.trans h.2.1, fun y k a b d => (h'.2.2 y k a b d).trans (h.2.2 y k a b d)⟩
theorem row_sp {p r : List (List (List Int))} {row : List (List Int)} {k : Nat} (hk : k < row.length) : (p ++ row :: r).flatten.map pkL = (p.flatten ++ row.take k).map pkL ++ pkL (row.getD k []) :: (row.drop (k + 1) ++ r.flatten).map pkL := by
  have e1 : (p ++ row :: r).flatten = p.flatten ++ (row ++ r.flatten) := by
    rw [List.flatten_append]
    rfl
  have e2 : row = row.take k ++ row.getD k [] :: row.drop (k + 1) := by
    have h1 := (List.take_append_drop k row).symm
    have h2 : row.drop k = row.getD k [] :: row.drop (k + 1) := by
      rw [List.drop_eq_getElem_cons hk]
      unfold List.getD
      rw [List.getElem?_eq_getElem hk, Option.getD_some]
    rw [h2] at h1
    exact h1
  have e3 : (p ++ row :: r).flatten = (p.flatten ++ row.take k) ++ row.getD k [] :: (row.drop (k + 1) ++ r.flatten) := by
    rw [e1]
    conv => lhs; rw [e2]
    rw [List.append_assoc, List.append_assoc]
    rfl
  rw [e3, List.map_append, List.map_cons]
theorem tpr_45 {p r : List (List (List Int))} {row : List (List Int)} (hc : 1 ≤ c ∧ c ≤ 8) (hp : p.length ≤ 4000) (hrow : row.length ≤ c) (hfl : (p ++ row :: r).flatten.length ≤ 70000) (hsu : suM (p ++ row :: r).flatten ≤ 65000) (hok : ∀ u ∈ (p ++ row :: r).flatten, okK u) (hS : shR σ0 151 ((p ++ row :: r).flatten.map pkL)) (h156 : mX σ0 156 = reC 0 (p ++ row :: r)) (h9 : mV σ0 150 9 = (c : Int)) (hW : ∀ k, k < c → mV σ0 161 k = W.getD k 0 ∧ 1 ≤ W.getD k 0 ∧ W.getD k 0 ≤ 80) (hb : HyB H.2.1 H.2.2.1 H.2.2.2.1 H.2.2.2.2) (hHy : HyC σ0 H.2.1 H.2.2.1 H.2.2.2.1 H.2.2.2.2) (h11 : mV σ0 111 11 = 0) (hq : ∀ σ', FrTf σ0 σ' → mX σ' 112 = caF (fun k => lnA (x0R p row k) (tpX H W row k)) c → mX σ' 114 = caF (fun k => lnB (x0R p row k) (tpX H W row k)) c → (∀ k, k ≤ c → mV σ' 162 k = (ofX (tpX H W row) k : Int) ∧ ofX (tpX H W row) k ≤ 70000) → Tables_print_188 o (p.length : Int) (tpM H W row c : Int) 0 σ' Q) : ∀ (n k : Nat) (σ : MS), k + n = c → FrTf σ0 σ → mX σ 112 = caF (fun k => lnA (x0R p row k) (tpX H W row k)) k → mX σ 114 = caF (fun k => lnB (x0R p row k) (tpX H W row k)) k → (mX σ 116).length = ofX (tpX H W row) k → ofX (tpX H W row) k ≤ suM (row.take k) → (1 ≤ k → ∀ j, j ≤ k → mV σ 162 j = (ofX (tpX H W row) j : Int)) → Tables_print_45 o (p.length : Int) ((p.flatten.length : Nat) : Int) (tpN (fun k => (tpX H W row k).length) k : Int) (k : Int) σ Q := by
  have lA : ∀ k, (lnA (x0R p row k) (tpX H W row k)).length = (tpX H W row k).length := fun k => List.length_map ..
  have lB : ∀ k, (lnB (x0R p row k) (tpX H W row k)).length = (tpX H W row k).length := fun k => List.length_map ..
  have sTk : ∀ k, suM (row.take k) ≤ suM (p ++ row :: r).flatten := fun k => by
    rw [List.flatten_append, suM_app]
    show _ ≤ suM p.flatten + suM (row ++ r.flatten)
    rw [suM_app]
    have : suM (row.take k) ≤ suM row := by
      conv => rhs; rw [← List.take_append_drop k row, suM_app]
      omega
    omega
  have mo : ∀ j k, j ≤ k → ofX (tpX H W row) j ≤ ofX (tpX H W row) k := by
    intro j k
    induction k with
    | zero => intro h; rw [show j = 0 by omega]; exact Nat.le_refl _
    | succ k ih =>
      intro h
      by_cases e : j = k + 1
      · rw [e]
        exact Nat.le_refl _
      · have := ih (by omega)
        show _ ≤ ofX (tpX H W row) k + _
        omega
  have mnb : ∀ k, tpN (fun k => (tpX H W row k).length) k ≤ ofX (tpX H W row) k + 1 := by
    intro k
    induction k with
    | zero => exact Nat.le_refl _
    | succ k ih =>
      show max (tpN (fun k => (tpX H W row k).length) k) (tpX H W row k).length ≤ ofX (tpX H W row) k + (tpX H W row k).length + 1
      omega
  intro n
  induction n with
  | zero =>
    intro k σ hk hf x112 x114 x116 hof h162
    have ek : k = c := by omega
    rw [ek] at x112 x114 h162 hof ⊢
    have sb := sTk c
    refine Tables_print_45.i ⟨by unfold Rg; omega, fun _ => hq σ hf x112 x114 (fun j hj => ⟨h162 hc.1 j hj, by have := mo j c hj; omega⟩), fun h => absurd h (by rw [hf.2.2 150 9 (by decide) (by decide) (by decide)]; omega)⟩
  | succ n ih =>
    intro k σ hk hf x112 x114 x116 hof h162
    have hkc : k < c := by omega
    have e9 : mV σ 150 9 = (c : Int) := (hf.2.2 _ _ (by decide) (by decide) (by decide)).trans h9
    have sb := sTk k
    have sb1 := sTk (k + 1)
    have l112 : (mX σ 112).length = ofX (tpX H W row) k := by rw [x112]; exact caF_l lA k
    have l114 : (mX σ 114).length = ofX (tpX H W row) k := by rw [x114]; exact caF_l lB k
    have e156 : rgt (mX σ 156) (p.length : Int) = ((p.flatten.length + row.length : Nat) : Int) := by
      rw [hf.1 156 (by decide) (by decide) (by decide), h156, reC_a]
      have := rgt_at (L := reC 0 p ++ ((0 + p.flatten.length + row.length : Nat) : Int) :: reC (0 + p.flatten.length + row.length) r) (p := reC 0 p) (x := ((0 + p.flatten.length + row.length : Nat) : Int)) (r := reC (0 + p.flatten.length + row.length) r) rfl
      rw [reC_l, Nat.zero_add] at this
      rw [Nat.zero_add]
      exact this
    have s136 : ∀ σ1 : MS, FrTf σ0 σ1 → mX σ1 112 = caF (fun k => lnA (x0R p row k) (tpX H W row k)) (k + 1) → mX σ1 114 = caF (fun k => lnB (x0R p row k) (tpX H W row k)) (k + 1) → (mX σ1 116).length = ofX (tpX H W row) (k + 1) → ofX (tpX H W row) (k + 1) ≤ suM (row.take (k + 1)) → (∀ j, j ≤ k → mV σ1 162 j = (ofX (tpX H W row) j : Int)) → Tables_print_136 o (p.length : Int) ((p.flatten.length : Nat) : Int) (tpN (fun k => (tpX H W row k).length) k : Int) (k : Int) σ1 Q := fun σ1 f1 y1 y2 y3 y4 y5 => by
      have l1 : (mX σ1 112).length = ofX (tpX H W row) (k + 1) := by rw [y1]; exact caF_l lA (k + 1)
      have eo : ofX (tpX H W row) (k + 1) = ofX (tpX H W row) k + (tpX H W row k).length := rfl
      refine Tables_print_136.i ?_
      rw [show ((k : Int) + 1).toNat = k + 1 by omega, Int.toNat_natCast, wV_self, wV_ne (Or.inr (by omega)), y5 k (Nat.le_refl _), l1]
      refine ⟨by omega, by omega, by omega, by omega, by omega, by omega, by unfold Rg; omega, ?_⟩
      rw [show max (tpN (fun k => (tpX H W row k).length) k : Int) (((ofX (tpX H W row) (k + 1) : Nat) : Int) - ((ofX (tpX H W row) k : Nat) : Int)) = ((tpN (fun k => (tpX H W row k).length) (k + 1) : Nat) : Int) by
        show _ = ((max (tpN (fun k => (tpX H W row k).length) k) (tpX H W row k).length : Nat) : Int)
        omega, show (k : Int) + 1 = ((k + 1 : Nat) : Int) by omega]
      refine ih (k + 1) _ (by omega) (f1.tr ⟨fun _ _ _ _ => rfl, rfl, fun y k _ _ a => wV_ne (Or.inl a)⟩) y1 y2 y3 y4 (fun _ j hj => ?_)
      by_cases e : j = k + 1
      · rw [e, wV_self]
      · rw [wV_ne (Or.inr e)]
        exact y5 j (by omega)
    have f1 : FrTf σ0 (wV σ 162 k ((mX σ 112).length : Int)) := hf.tr ⟨fun _ _ _ _ => rfl, rfl, fun y k _ _ a => wV_ne (Or.inl a)⟩
    have w1 : ∀ j, j ≤ k → mV (wV σ 162 k ((mX σ 112).length : Int)) 162 j = (ofX (tpX H W row) j : Int) := fun j hj => by
      by_cases e : j = k
      · rw [e, wV_self, l112]
      · rw [wV_ne (Or.inr e)]
        exact h162 (by omega) j hj
    have wk := hW k hkc
    refine Tables_print_45.i ⟨by unfold Rg; omega, fun h => absurd h (by omega), fun _ => ⟨by omega, by omega, by unfold Rg; omega, ?_⟩⟩
    have flp : p.flatten.length + row.length ≤ 70000 := by
      rw [List.flatten_append, List.length_append] at hfl
      have hfl : p.flatten.length + (row ++ r.flatten).length ≤ 70000 := hfl
      rw [List.length_append] at hfl
      omega
    rw [e156, Int.toNat_natCast]
    refine ⟨by unfold Rg; omega, fun h => ?_, fun h => ⟨by unfold Rg; omega, by unfold Rg; omega, by omega, by omega, by omega, by omega, ?_⟩⟩
    · have eX : tpX H W row k = [] := if_neg (by omega)
      have eo : ofX (tpX H W row) (k + 1) = ofX (tpX H W row) k := by
        show ofX (tpX H W row) k + (tpX H W row k).length = _
        rw [eX]
        rfl
      refine s136 _ f1 ?_ ?_ (by rw [eo]; exact x116) (by
        rw [eo]
        rw [List.take_of_length_le (by omega)] at hof ⊢
        exact hof) w1
      · show mX σ 112 = caF _ k ++ lnA _ (tpX H W row k)
        rw [eX, x112]
        exact (List.append_nil _).symm
      · show mX σ 114 = caF _ k ++ lnB _ (tpX H W row k)
        rw [eX, x114]
        exact (List.append_nil _).symm
    · have hkr : k < row.length := by omega
      have eX : tpX H W row k = fiL (false, H.2) (pkL (row.getD k [])) (W.getD k 0).toNat (W.getD k 0).toNat (pkL (row.getD k [])).length 0 := if_pos hkr
      have sp := row_sp (p := p) (r := r) hkr
      have sh := hS
      rw [sp] at sh
      have lci : ((p.flatten ++ row.take k).map pkL).length = p.flatten.length + k := by
        rw [List.length_map, List.length_append, List.length_take]
        omega
      have eci : ((p.flatten.length : Nat) : Int) + (k : Int) = ((((p.flatten ++ row.take k).map pkL).length : Nat) : Int) := by
        rw [lci]
        omega
      have ef : sfrM (mX σ 154) (((p.flatten.length : Nat) : Int) + (k : Int)) = ((x0R p row k : Nat) : Int) := by
        rw [hf.1 154 (by decide) (by decide) (by decide), sh.2, eci]
        exact sfr_at
      have et : stoM (mX σ 154) (((p.flatten.length : Nat) : Int) + (k : Int)) = ((x0R p row k + (pkL (row.getD k [])).length : Nat) : Int) := by
        rw [hf.1 154 (by decide) (by decide) (by decide), sh.2, eci]
        exact sto_at
      have hmem : row.getD k [] ∈ (p ++ row :: r).flatten := by
        refine List.mem_flatten.mpr ⟨row, List.mem_append_right _ List.mem_cons_self, ?_⟩
        unfold List.getD
        rw [List.getElem?_eq_getElem hkr, Option.getD_some]
        exact List.getElem_mem _
      have hoku := hok _ hmem
      have lq := pkL_q (L := row.getD k [])
      have stk : suM (row.take (k + 1)) = suM (row.take k) + (row.getD k []).length := by
        have : row.take (k + 1) = row.take k ++ [row.getD k []] := by
          rw [List.take_add_one]
          unfold List.getD
          rw [List.getElem?_eq_getElem hkr]
          rfl
        rw [this, suM_sn]
      have x0b : x0R p row k + (pkL (row.getD k [])).length ≤ 65000 := by
        have h1 : suM (((p ++ row :: r).flatten).map pkL) ≤ suM (p ++ row :: r).flatten := suM_pq _
        rw [sp, suM_app] at h1
        have h2 : suM (pkL (row.getD k []) :: (row.drop (k + 1) ++ r.flatten).map pkL) = (pkL (row.getD k [])).length + suM ((row.drop (k + 1) ++ r.flatten).map pkL) := rfl
        unfold x0R
        omega
      have lnc : LnC (wV σ 162 k ((mX σ 112).length : Int)) 152 (x0R p row k) (pkL (row.getD k [])) := by
        have := sh.ln (z := 151) (by decide) (by unfold x0R at x0b; omega)
        exact ⟨this.1, this.2.1, fun t ht => by
          show rgt (mX σ 152) _ = _
          rw [hf.1 152 (by decide) (by decide) (by decide)]
          exact this.2.2 t ht⟩
      rw [ef, et, hf.2.2 161 k (by decide) (by omega) (by decide), wk.1, show W.getD k 0 = (((W.getD k 0).toNat : Nat) : Int) by omega]
      have g0 : ∀ q, q ≠ 112 → q ≠ 114 → q ≠ 116 → mX (wV σ 162 k ((mX σ 112).length : Int)) q = mX σ0 q := f1.1
      have g1 : ∀ y j, y ≠ 126 → ¬ (y = 111 ∧ j = 12) → y ≠ 162 → mV (wV σ 162 k ((mX σ 112).length : Int)) y j = mV σ0 y j := f1.2.2
      refine Filler_fill.c (H := (false, H.2)) (U := pkL (row.getD k [])) (pkL_ok hoku) bkE.pk hb (by decide) (by omega) (by omega) (by show (mX σ 112).length + _ ≤ _; omega) (by show (mX σ 114).length + _ ≤ _; omega) (by show (mX σ 116).length + _ ≤ _; omega) lnc ⟨hHy.1.cg (g0 _ (by decide) (by decide) (by decide)) (g0 _ (by decide) (by decide) (by decide)), hHy.2.1.cg (g0 _ (by decide) (by decide) (by decide)) (g0 _ (by decide) (by decide) (by decide)), (g1 _ _ (by decide) (by decide) (by decide)).trans hHy.2.2.1, (g1 _ _ (by decide) (by decide) (by decide)).trans hHy.2.2.2⟩ ((g1 _ _ (by decide) (by decide) (by decide)).trans h11) (fun σ2 f2 y1 y2 y3 => ?_)
      rw [← eX] at y1 y2 y3
      have lX : (tpX H W row k).length ≤ (pkL (row.getD k [])).length := by
        rw [eX]
        exact (fiL_m (H := (false, H.2)) (by omega) (by omega) _ 0).1
      have f02 : FrTf σ0 σ2 := f1.tr ⟨fun q a b d => f2.1 q a b d, f2.2.1, fun y j a b _ => f2.2.2 y j a b⟩
      refine s136 σ2 f02 (y1.trans (by show mX σ 112 ++ _ = _; rw [x112]; rfl)) (y2.trans (by show mX σ 114 ++ _ = _; rw [x114]; rfl)) ?_ ?_ (fun j hj => (f2.2.2 162 j (by decide) (by omega)).trans (w1 j hj))
      · rw [y3, List.length_append]
        show (mX σ 116).length + (lnP (tpX H W row k)).length = ofX (tpX H W row) k + _
        rw [x116]
        unfold lnP
        rw [List.length_map]
      · show ofX (tpX H W row) k + (tpX H W row k).length ≤ _
        rw [stk]
        omega
end
