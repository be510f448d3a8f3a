/-! TABLES: the class prints one, the whole -/
def FrTr (σ σ' : MS) : Prop := (∀ q, q ∉ [112, 114, 116, 118, 130, 132, 134, 136, 138] → mX σ' q = mX σ q) ∧ σ'.2.2 = σ.2.2 ∧ ∀ y k, y ≠ 22 → y ≠ 126 → y ≠ 162 → ¬ (y = 111 ∧ (k = 9 ∨ k = 10 ∨ k = 11 ∨ k = 12)) → mV σ' y k = mV σ y k
section
variable {σ σ0 : MS} {Q : MQ9} {H : HY9} {W A : List Int} {c : Nat} {o : Int} {R : List (List (List Int))}
theorem FrTr.tr {σ1 σ2 : MS} (h : FrTr σ σ1) (h' : FrTr σ1 σ2) : FrTr σ σ2 := ⟨fun q a => (h'.1 q a).trans (h.1 q a), h'.2.1.trans h.2.1, fun y k a b d e => (h'.2.2 y k a b d e).trans (h.2.2 y k a b d e)⟩
theorem FrTr.ga {σ1 : MS} (h : FrGa σ σ1) : FrTr σ σ1 := ⟨fun q a => by
  simp only [List.mem_cons, List.not_mem_nil, or_false, not_or] at a
  exact h.1 q (by omega) (by omega) (by omega) (by omega) (by omega), h.2.1, fun y k a _ _ _ => h.2.2 y k a⟩
theorem FrTr.f {σ1 : MS} (h : FrTf σ σ1) : FrTr σ σ1 := ⟨fun q a => by
  simp only [List.mem_cons, List.not_mem_nil, or_false, not_or] at a
  exact h.1 q (by omega) (by omega) (by omega), h.2.1, fun y k _ a b d => h.2.2 y k a (by omega) b⟩
theorem Tables_print.nn (hc : 1 ≤ c ∧ c ≤ 8) (hRl : R.length ≤ 4000) (hR8 : ∀ row ∈ R, row.length ≤ c) (hfl : R.flatten.length ≤ 70000) (hsu : suM R.flatten ≤ 65000) (hok : ∀ u ∈ R.flatten, okK u) (ho : Rg o) (hS : shR σ0 151 (R.flatten.map pkL)) (h156 : mX σ0 156 = reC 0 R) (h9 : mV σ0 150 9 = (c : Int)) (hW : ∀ k, k < c → mV σ0 161 k = W.getD k 0 ∧ 1 ≤ W.getD k 0 ∧ W.getD k 0 ≤ 80) (hA : ∀ k, k < c → mV σ0 160 k = A.getD k 0) (hb : HyB H.2.1 H.2.2.1 H.2.2.2.1 H.2.2.2.2) (hHy : HyC σ0 H.2.1 H.2.2.1 H.2.2.2.1 H.2.2.2.2) : ∀ (r p : List (List (List Int))) (G : GS9) (σ : MS), R = p ++ r → FrTr σ0 σ → GaC σ G [] → GB9 90 G → (∀ G' σ', gAll o true (tbO H W A c (decide (p.length = 0)) r) G = .inl G' → GaC σ' G' [] → GB9 90 G' → FrTr σ0 σ' → Q (.inl none) σ') → (∀ e σ', gAll o true (tbO H W A c (decide (p.length = 0)) r) G = .inr e → TxF σ' e → FrTr σ0 σ' → Q (.inr (exN 0)) σ') → Tables_print_2 o (p.length : Int) σ Q := by
  intro r
  induction r with
  | nil =>
    intro p G σ hR hf hG hB hy hn
    rw [List.append_nil] at hR
    have e6 : (mX σ 156).length = p.length := by
      rw [hf.1 156 (by decide), h156, reC_l, hR]
    exact Tables_print_2.i ⟨by rw [← hR]; unfold Rg; omega, fun _ => hy G σ rfl hG hB hf, fun h => absurd h (by omega)⟩
  | cons row r ih =>
    intro p G σ hR hf hG hB hy hn
    have l2 : R.length = p.length + (r.length + 1) := by rw [hR, List.length_append, List.length_cons]
    have e6 : (mX σ 156).length = R.length := by
      rw [hf.1 156 (by decide), h156, reC_l]
    have x : ∀ q, q ∉ [112, 114, 116, 118, 130, 132, 134, 136, 138] → mX σ q = mX σ0 q := hf.1
    have v : ∀ y k, y ≠ 22 → y ≠ 126 → y ≠ 162 → ¬ (y = 111 ∧ (k = 9 ∨ k = 10 ∨ k = 11 ∨ k = 12)) → mV σ y k = mV σ0 y k := hf.2.2
    have flp : p.flatten.length ≤ 70000 := by
      rw [hR, List.flatten_append, List.length_append] at hfl
      omega
    have s31 : Tables_print_31 o (p.length : Int) ((p.flatten.length : Nat) : Int) σ Q := by
      refine Tables_print_31.i (Filler_openPlain.c (fun σ1 f1 k1 w1 e1 v1 => ?_))
      have x1 : ∀ q, q ≠ 112 → q ≠ 114 → q ≠ 116 → q ≠ 118 → mX σ1 q = mX σ q := fun q a b d e => by
        by_cases h9 : q ∈ [130, 132, 134, 136, 138, 142, 144]
        · exact k1 q h9
        · simp only [List.mem_cons, List.not_mem_nil, or_false, not_or] at h9
          exact f1.1 q (by
            simp only [List.mem_cons, List.not_mem_nil, or_false]
            omega)
      have y1 : ∀ y k, y ≠ 126 → ¬ (y = 111 ∧ (k = 9 ∨ k = 10 ∨ k = 11 ∨ k = 12)) → mV σ1 y k = mV σ y k := fun y k a b => by
        by_cases h22 : y = 22
        · rw [h22]
          exact w1 k
        · exact f1.2.2 y k h22 a b
      have fr1 : FrTr σ0 σ1 := hf.tr ⟨fun q a => by
        simp only [List.mem_cons, List.not_mem_nil, or_false, not_or] at a
        exact x1 q (by omega) (by omega) (by omega) (by omega), f1.2.1, fun y k _ a _ b => y1 y k a b⟩
      have g1 : GaC σ1 G [] := hG.fr (fun q hq => x1 q (by omega) (by omega) (by omega) (by omega)) (fun k _ => y1 22 k (by decide) (by omega))
      have z1 : ∀ q, q ∉ [112, 114, 116, 118, 130, 132, 134, 136, 138] → mX σ1 q = mX σ0 q := fr1.1
      have u1 : ∀ y k, y ≠ 22 → y ≠ 126 → y ≠ 162 → ¬ (y = 111 ∧ (k = 9 ∨ k = 10 ∨ k = 11 ∨ k = 12)) → mV σ1 y k = mV σ0 y k := fr1.2.2
      have hS1 : shR σ1 151 ((p ++ row :: r).flatten.map pkL) := by
        rw [← hR]
        exact ⟨(z1 _ (by decide)).trans hS.1, (z1 _ (by decide)).trans hS.2⟩
      have h1561 : mX σ1 156 = reC 0 (p ++ row :: r) := by
        rw [← hR]
        exact (z1 _ (by decide)).trans h156
      have mrow : row ∈ R := by rw [hR]; exact List.mem_append_right _ List.mem_cons_self
      have mX9 : ∀ k, k < c → (tpX H W row k).length ≤ (pkL (row.getD k [])).length ∧ ∀ x ∈ tpX H W row k, x.1 < x.2.1 ∧ x.2.1 ≤ (pkL (row.getD k [])).length ∧ x.2.1 - x.1 ≤ 80 := fun k hk => by
        have wk := hW k hk
        unfold tpX
        split
        · exact fiL_m (H := (false, H.2)) (by omega) (by omega) _ 0
        · exact ⟨Nat.zero_le _, fun x hx => absurd hx List.not_mem_nil⟩
      have key := tpr_45 (Q := Q) (σ0 := σ1) (H := H) (W := W) (c := c) (o := o) (p := p) (r := r) (row := row) hc (by omega) (hR8 row mrow) (by rw [← hR]; exact hfl) (by rw [← hR]; exact hsu) (by rw [← hR]; exact hok) hS1 h1561 ((u1 _ _ (by decide) (by decide) (by decide) (by decide)).trans h9) (fun k hk => ⟨(u1 _ _ (by decide) (by decide) (by decide) (by omega)).trans (hW k hk).1, (hW k hk).2⟩) hb ⟨hHy.1.cg (z1 _ (by decide)) (z1 _ (by decide)), hHy.2.1.cg (z1 _ (by decide)) (z1 _ (by decide)), (u1 _ _ (by decide) (by decide) (by decide) (by decide)).trans hHy.2.2.1, (u1 _ _ (by decide) (by decide) (by decide) (by decide)).trans hHy.2.2.2⟩ v1.2.2 (fun σ2 f2 y112 y114 y162 => ?_) c 0 σ1 (by omega) ⟨fun _ _ _ _ => rfl, rfl, fun _ _ _ _ _ => rfl⟩ e1.1 e1.2.1 (by rw [e1.2.2.1]; rfl) (Nat.zero_le _) (fun h => absurd h (by decide))
      · exact key
      have fr2 : FrTr σ0 σ2 := fr1.tr (FrTr.f f2)
      have g2 : GaC σ2 G [] := g1.fr (fun q hq => f2.1 q (by omega) (by omega) (by omega)) (fun k _ => f2.2.2 22 k (by decide) (by omega) (by decide))
      have gm : ∀ {X : List (Nat × Nat × Bool)} {j : Nat}, j < X.length → X.getD j (0, 0, false) ∈ X := fun h => by
        unfold List.getD
        rw [List.getElem?_eq_getElem h, Option.getD_some]
        exact List.getElem_mem _
      have pp : PpC σ2 (ofX (tpX H W row)) (x0R p row) (fun k => pkL (row.getD k [])) (tpX H W row) W A c := by
        refine ⟨(fr2.2.2 _ _ (by decide) (by decide) (by decide) (by decide)).trans h9, y162, fun k hk => rfl, fun k j hk hj => ⟨?_, ?_⟩, fun k hk hx => ?_, fun k j hk hj => ?_, fun k hk => ⟨(fr2.2.2 _ _ (by decide) (by decide) (by decide) (by omega)).trans (hW k hk).1, (hW k hk).2⟩, fun k hk => (fr2.2.2 _ _ (by decide) (by decide) (by decide) (by omega)).trans (hA k hk)⟩
        · have := caF_at (f := fun k => lnA (x0R p row k) (tpX H W row k)) (k := k) (c := c) (j := j) hk (by show j < (lnA _ _).length; unfold lnA; rw [List.length_map]; exact hj)
          rw [caF_l (f := fun k => lnA (x0R p row k) (tpX H W row k)) (X := tpX H W row) (fun k => List.length_map ..) k, ← y112] at this
          rw [this]
          show (lnA (x0R p row k) (tpX H W row k)).getD j 0 = _
          unfold lnA List.getD
          rw [List.getElem?_map, List.getElem?_eq_getElem hj]
          rfl
        · have := caF_at (f := fun k => lnB (x0R p row k) (tpX H W row k)) (k := k) (c := c) (j := j) hk (by show j < (lnB _ _).length; unfold lnB; rw [List.length_map]; exact hj)
          rw [caF_l (f := fun k => lnB (x0R p row k) (tpX H W row k)) (X := tpX H W row) (fun k => List.length_map ..) k, ← y114] at this
          rw [this]
          show (lnB (x0R p row k) (tpX H W row k)).getD j 0 = _
          unfold lnB List.getD
          rw [List.getElem?_map, List.getElem?_eq_getElem hj]
          rfl
        · have hkr : k < row.length := by
            by_cases h : k < row.length
            · exact h
            · have e : tpX H W row k = [] := if_neg h
              rw [e] at hx
              exact absurd hx (by decide)
          have sp := row_sp (p := p) (r := r) hkr
          have sh := hS1
          rw [sp] at sh
          have sm : suM ((p.flatten ++ row.take k).map pkL) + (pkL (row.getD k [])).length ≤ 65000 := by
            have h1 : suM (((p ++ row :: r).flatten).map pkL) ≤ suM (p ++ row :: r).flatten := suM_pq _
            rw [sp, suM_app, ← hR] at h1
            have h2 : suM (pkL (row.getD k []) :: (row.drop (k + 1) ++ r.flatten).map pkL) = (pkL (row.getD k [])).length + suM ((row.drop (k + 1) ++ r.flatten).map pkL) := rfl
            omega
          have := sh.ln (z := 151) (by decide) (by omega)
          exact ⟨this.1, this.2.1, fun t ht => by
            show rgt (mX σ2 152) _ = _
            rw [f2.1 152 (by decide) (by decide) (by decide)]
            exact this.2.2 t ht⟩
        · have h8 := (mX9 k hk).2 _ (gm hj)
          exact ⟨by omega, h8.2.1, h8.2.2⟩
      have mb : tpM H W row c ≤ 70000 := by
        have : ∀ k, k ≤ c → tpN (fun k => (tpX H W row k).length) k ≤ ofX (tpX H W row) k + 1 := by
          intro k
          induction k with
          | zero => intro _; exact Nat.le_refl _
          | succ k ih =>
            intro hk
            have := ih (by omega)
            show max (tpN (fun k => (tpX H W row k).length) k) (tpX H W row k).length ≤ ofX (tpX H W row) k + (tpX H W row k).length + 1
            omega
        have h1 := this c (Nat.le_refl _)
        have h2 : ofX (tpX H W row) c ≤ 65000 := by
          have : ∀ k, k ≤ c → ofX (tpX H W row) k ≤ suM (row.take k) := by
            intro k
            induction k with
            | zero => intro _; exact Nat.zero_le _
            | succ k ih =>
              intro hk
              have h3 := ih (by omega)
              have h4 := (mX9 k (by omega)).1
              show ofX (tpX H W row) k + (tpX H W row k).length ≤ _
              by_cases hkr : k < row.length
              · have : row.take (k + 1) = row.take k ++ [row.getD k []] := by
                  rw [List.take_add_one]
                  unfold List.getD
                  rw [List.getElem?_eq_getElem hkr]
                  rfl
                rw [this, suM_sn]
                have := pkL_q (L := row.getD k [])
                omega
              · have e : tpX H W row k = [] := if_neg hkr
                rw [e, List.take_of_length_le (by omega)]
                rw [List.take_of_length_le (by omega)] at h3
                exact h3
          have h5 := this c (Nat.le_refl _)
          have h6 : suM (row.take c) ≤ suM row := by
            conv => rhs; rw [← List.take_append_drop c row, suM_app]
            omega
          have h7 : suM R.flatten = suM p.flatten + (suM row + suM r.flatten) := by
            rw [hR, List.flatten_append, suM_app]
            show _ + suM (row ++ r.flatten) = _
            rw [suM_app]
          omega
        unfold tpM
        omega
      have eT : tbO H W A c (decide (p.length = 0)) (row :: r) = tpR H W A c (decide (p.length = 0)) row ++ tbO H W A c false r := rfl
      refine tpr_188 (off := ofX (tpX H W row)) (x0 := x0R p row) (U := fun k => pkL (row.getD k [])) (X := tpX H W row) (f := tpL H W A row c) hc.2 ho (by omega) mb rfl (tpM H W row c) 0 G σ2 (by omega) pp g2 hB (fun G3 σ3 q1 q2 q3 q4 => ?_) (fun e σ3 q1 q2 q4 => ?_)
      · have q1 : gAll o true (tpR H W A c (decide (p.length = 0)) row) G = .inl G3 := q1
        refine Tables_print_252.i ?_
        have e0 : decide ((p ++ [row]).length = 0) = false := decide_eq_false (by rw [List.length_append]; show ¬ _ + 1 = 0; omega)
        have := ih (p ++ [row]) G3 σ3 (by rw [List.append_assoc]; exact hR) (fr2.tr (FrTr.ga q4)) q2 q3 (fun G4 σ4 t1 t2 t3 t4 => hy G4 σ4 ?_ t2 t3 t4) (fun e σ4 t1 t2 t4 => hn e σ4 ?_ t2 t4)
        · rw [List.length_append] at this
          rw [show (p.length : Int) + 1 = ((p.length + [row].length : Nat) : Int) by
            show (p.length : Int) + 1 = ((p.length + 1 : Nat) : Int)
            omega]
          exact this
        · rw [e0] at t1
          rw [eT, gAll_a, q1]
          exact t1
        · rw [e0] at t1
          rw [eT, gAll_a, q1]
          exact t1
      · have q1 : gAll o true (tpR H W A c (decide (p.length = 0)) row) G = .inr e := q1
        refine hn e σ3 ?_ q2 (fr2.tr (FrTr.ga q4))
        rw [eT, gAll_a, q1]
        rfl
    refine Tables_print_2.i ⟨by unfold Rg; omega, fun h => absurd h (by omega), fun _ => ⟨by unfold Rg; omega, fun h => ?_, fun h => ⟨by unfold Rg; omega, ?_⟩⟩⟩
    · have p0 : p = [] := List.eq_nil_of_length_eq_zero (by omega)
      rw [p0] at s31 ⊢
      exact s31
    · obtain ⟨p0, q, e⟩ : ∃ p0 q, p = p0 ++ [q] := by
        rcases List.eq_nil_or_concat p with h0 | ⟨p0, q, h0⟩
        · rw [h0] at h
          exact absurd h (by decide)
        · exact ⟨p0, q, by rw [h0, List.concat_eq_append]⟩
      have e7 : rgt (mX σ 156) ((p.length : Int) - 1) = ((p.flatten.length : Nat) : Int) := by
        rw [x 156 (by decide), h156, hR]
        have e8 : p ++ row :: r = p0 ++ q :: (row :: r) := by rw [e, List.append_assoc]; rfl
        have e9 : (p.length : Int) - 1 = ((reC 0 p0).length : Int) := by
          rw [reC_l, e, List.length_append]
          show ((p0.length + 1 : Nat) : Int) - 1 = _
          omega
        rw [e8, reC_a, e9, rgt_at rfl, e, List.flatten_append, List.length_append]
        show ((0 + p0.flatten.length + q.length : Nat) : Int) = ((p0.flatten.length + (q ++ []).length : Nat) : Int)
        rw [List.append_nil, Nat.zero_add]
      rw [e7]
      exact s31
end
