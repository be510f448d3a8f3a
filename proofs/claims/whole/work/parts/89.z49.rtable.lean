/-! TABLES: all rows, the reference -/
theorem fiL_w {H : HY9} {U : List Int} {R : Nat} (hR : 1 ≤ R) : ∀ (n a : Nat), ∀ x ∈ fiL H U R R n a, x.2.1 - x.1 ≤ R
  | 0, a => fun x hx => absurd hx List.not_mem_nil
  | n + 1, a => fun x hx => by
    unfold fiL at hx
    split at hx
    · exact absurd hx List.not_mem_nil
    · rw [ite_self] at hx
      rcases List.mem_cons.mp hx with h | h
      · rw [h]
        have := fiN_b (H := H) (U := U) (a := a) hR R (Nat.le_refl _)
        show fiN H U a R R - a ≤ R
        omega
      · exact fiL_w hR n _ x h
theorem tpF_w {H : HY9} {W A : List Int} {row : List (List Int)} {i k : Nat} (hW : 1 ≤ W.getD k 0) : ((tpF H W A row i k).length : Int) ≤ W.getD k 0 := by
  have h : (tpF H W A row i k).length ≤ (W.getD k 0).toNat := by
    unfold tpF
    refine tpK_l ⟨hW, by omega⟩ ?_
    unfold tpI
    split
    · rename_i hi
      have hm : (tpX H W row k).getD i (0, 0, false) ∈ tpX H W row k := by
        unfold List.getD
        rw [List.getElem?_eq_getElem hi, Option.getD_some]
        exact List.getElem_mem _
      have hx : ∀ x ∈ tpX H W row k, x.2.1 - x.1 ≤ (W.getD k 0).toNat := by
        unfold tpX
        split
        · exact fiL_w (by omega) _ _
        · exact fun x hx => absurd hx List.not_mem_nil
      have := hx _ hm
      unfold sgT
      exact Nat.le_trans (List.length_take_le _ _) this
    · exact Nat.zero_le _
  omega
theorem tbA_al {E : TE} {M : List Int} {ls : List (Nat × Nat)} {s : TS} {q : (List (List (List Int)) × List Int) × TS} (h : tbA E M ls s = .inl q) : ∀ k, k < 8 → (q.1.2.getD k 0 = 60 ∨ q.1.2.getD k 0 = 94 ∨ q.1.2.getD k 0 = 62) := by
  have a60 : ∀ k, k < 8 → al60.getD k 0 = 60 := by decide
  cases ls with
  | nil =>
    cases h
    exact fun k hk => Or.inl (a60 k hk)
  | cons l r =>
    rw [tbA_c] at h
    by_cases h8 : 8 < (tcL M l.1 l.2).length
    · rw [if_pos h8] at h
      cases h
    · rw [if_neg h8] at h
      by_cases hA : tcA M (tcL M l.1 l.2) = true
      · rw [if_pos hA] at h
        cases h1 : tbR E M r s with
        | inr e => simp only [h1] at h; cases h
        | inl v =>
          simp only [h1] at h
          cases h
          intro k hk
          have e : (tcV M (tcL M l.1 l.2)).getD k 0 = (if k < (tcL M l.1 l.2).length then alO M ((tcL M l.1 l.2).getD k (0, 0)) else 60) := by
            unfold tcV
            exact ofF_get hk
          show (tcV M (tcL M l.1 l.2)).getD k 0 = 60 ∨ _
          rw [e]
          by_cases hkl : k < (tcL M l.1 l.2).length
          · rw [if_pos hkl]
            have hm : (tcL M l.1 l.2).getD k (0, 0) ∈ tcL M l.1 l.2 := by
              unfold List.getD
              rw [List.getElem?_eq_getElem hkl, Option.getD_some]
              exact List.getElem_mem _
            have ha : ¬ alO M ((tcL M l.1 l.2).getD k (0, 0)) = -1 := by
              unfold tcA at hA
              rw [Bool.and_eq_true, List.all_eq_true] at hA
              exact of_decide_eq_true (hA.2 _ hm)
            rcases alO_b (M := M) (p := (tcL M l.1 l.2).getD k (0, 0)) with h | h | h | h
            · exact absurd h ha
            · exact Or.inl h
            · exact Or.inr (Or.inl h)
            · exact Or.inr (Or.inr h)
          · rw [if_neg hkl]
            exact Or.inl rfl
      · rw [if_neg hA] at h
        cases h1 : tbR E M (l :: r) s with
        | inr e => simp only [h1] at h; cases h
        | inl v =>
          simp only [h1] at h
          cases h
          exact fun k hk => Or.inl (a60 k hk)
section
variable {σ σ0 : MS} {Q : MQ9} {H : HY9} {W A : List Int} {R : List (List (List Int))} {c : Nat} {o c9 : Int}
theorem CpR.z {S K : List Nat} {σ1 : MS} {C : List (List Int)} {n : Nat} (h : CpR σ H C n) (f : FrZ S K σ σ1) (hs : ∀ z ∈ [254, 255, 256, 342, 343], z ∉ S) : CpR σ1 H C n := fun j hj => by
  obtain ⟨a, b, t1, t2, t3, t4, t5⟩ := h j hj
  exact ⟨a, b, t1, (f.z (hs _ (by decide)) (by decide)).trans t2, (f.z (hs _ (by decide)) (by decide)).trans t3, fun k hk => ⟨(f.z (hs _ (by decide)) (by decide)).trans (t4 k hk).1, (f.z (hs _ (by decide)) (by decide)).trans (t4 k hk).2⟩, fun hn t ht => (f.z (hs _ (by decide)) (by decide)).trans (t5 hn t ht)⟩
/-- the cells of one row -/
theorem CpR.row {p r : List (List (List Int))} {row : List (List Int)} (hR : R = p ++ row :: r) (h : CpR σ H R.flatten R.flatten.length) (hok : ∀ u ∈ R.flatten, okK u) (hsu : suM R.flatten ≤ 65000) : ∃ x : Nat → Nat × List Int, ∀ k, k < row.length → CvR σ H (x k).1 (x k).2 ∧ pkL (x k).2 = pkL (row.getD k []) ∧ mV σ 343 (p.flatten.length + k) = (((x k).1 + (x k).2.length : Nat) : Int) ∧ mV σ 342 (p.flatten.length + k) = ((x k).1 : Int) ∧ (0 < (x k).2.length → sbl ((x k).2.getD 0 0) = false) := by
  have key : ∀ k, ∃ y : Nat × List Int, k < row.length → CvR σ H y.1 y.2 ∧ pkL y.2 = pkL (row.getD k []) ∧ mV σ 343 (p.flatten.length + k) = ((y.1 + y.2.length : Nat) : Int) ∧ mV σ 342 (p.flatten.length + k) = (y.1 : Int) ∧ (0 < y.2.length → sbl (y.2.getD 0 0) = false) := fun k => by
    by_cases hk : k < row.length
    · have eF : R.flatten = p.flatten ++ (row ++ r.flatten) := by
        rw [hR, List.flatten_append, List.flatten_cons]
      have lF : R.flatten.length = p.flatten.length + (row.length + r.flatten.length) := by
        rw [eF, List.length_append, List.length_append]
      have eg : R.flatten.getD (p.flatten.length + k) [] = row.getD k [] := by
        rw [eF]
        unfold List.getD
        rw [List.getElem?_append_right (by omega), show p.flatten.length + k - p.flatten.length = k by omega, List.getElem?_append_left hk]
      have hj : p.flatten.length + k < R.flatten.length := by omega
      obtain ⟨a, b, t1, t2, t3, t4, t5⟩ := h (p.flatten.length + k) hj
      have hm : R.flatten.getD (p.flatten.length + k) [] ∈ R.flatten := by
        unfold List.getD
        rw [List.getElem?_eq_getElem hj, Option.getD_some]
        exact List.getElem_mem _
      have sm := suM_tk (W := R.flatten) (i := p.flatten.length + k) hj
      have okL := hok _ hm
      rw [eg] at t1 t4 t5 sm okL
      have tb := t1.2.1
      have ta := t1.1
      have lS : (sgT (row.getD k []) a b).length = b - a := sgT_l tb
      have gS : ∀ i, i < b - a → (sgT (row.getD k []) a b).getD i 0 = (row.getD k []).getD (a + i) 0 := fun i hi => by
        unfold sgT
        exact sgT_at hi
      refine ⟨(suM (R.flatten.take (p.flatten.length + k)) + a, sgT (row.getD k []) a b), fun _ => ⟨⟨fun x hx => okL x (List.mem_of_mem_drop (List.mem_of_mem_take hx)), ?_, ⟨Nat.le_refl _, ?_, fun j h1 h2 => absurd h2 (by omega)⟩, fun i hi => ?_, fun j hj2 => ?_⟩, t1.pk, ?_, t2, fun h0 => ?_⟩⟩
      · show _ + _ + (sgT (row.getD k []) a b).length ≤ 139000
        rw [lS]
        omega
      · show (sgT (row.getD k []) a b).length = 0 ∨ _
        rw [lS]
        by_cases hab : a < b
        · refine Or.inr ?_
          show sbl ((sgT (row.getD k []) a b).getD (b - a - 1) 0) = false
          rw [gS _ (by omega), show a + (b - a - 1) = b - 1 by omega]
          exact (t1.2.2.2.2 hab).2
        · exact Or.inl (by omega)
      · have hi : i < (sgT (row.getD k []) a b).length := hi
        rw [lS] at hi
        have e := t4 (a + i) (by omega)
        show mV σ 254 (_ + a + i) = cgB ((sgT (row.getD k []) a b).getD i 0) ∧ _
        rw [gS i hi, Nat.add_assoc]
        exact e
      · have hj2 : j < (sgT (row.getD k []) a b).length := hj2
        rw [lS] at hj2
        exact t5 hj j hj2
      · show _ = ((_ + a + (sgT (row.getD k []) a b).length : Nat) : Int)
        rw [t3, lS]
        omega
      · have h0 : 0 < (sgT (row.getD k []) a b).length := h0
        rw [lS] at h0
        show sbl ((sgT (row.getD k []) a b).getD 0 0) = false
        rw [gS 0 h0]
        exact (t1.2.2.2.2 (by omega)).1
    · exact ⟨(0, []), fun h => absurd h hk⟩
  exact ⟨fun k => Classical.choose (key k), fun k => Classical.choose_spec (key k)⟩
theorem trr_351 {l6 : Int} (hc : 1 ≤ c ∧ c ≤ 8) (hrows : ∀ row ∈ R, row.length ≤ c) (hRl : R.length ≤ 4000) (hfl : R.flatten.length ≤ 4100) (hsu : suM R.flatten ≤ 65000) (hok : ∀ u ∈ R.flatten, okK u) (hWb : ∀ k, k < c → 1 ≤ W.getD k 0 ∧ W.getD k 0 ≤ 80) (hAb : ∀ k, k < c → (A.getD k 0 = 60 ∨ A.getD k 0 = 94 ∨ A.getD k 0 = 62)) (h11 : ∀ row i k, k ≤ c → (tpJ [32, 124, 32] (tpF H W A row i) k).length ≤ 110) (h30 : ∀ k, k ≤ c → (tpJ [45, 43, 45] (fun k => List.replicate (W.getD k 0).toNat (45 : Int)) k).length ≤ 300) (hc9 : c9 ≤ 0) : ∀ (r p : List (List (List Int))) (G : GS9) (σ : MS), R = p ++ r → CpR σ (false, H.2) R.flatten R.flatten.length → (∀ k, k < c → mV σ 346 k = W.getD k 0) → (∀ k, k < c → mV σ 345 k = alN (A.getD k 0)) → (∀ i, i ≤ R.length → mV σ 344 i = (((R.take i).flatten.length : Nat) : Int)) → mV σ 246 29 = o → RxG σ G → GB9 c9 G → (∀ G' σ', gAll o false (tbO H W A c (decide (p.length = 0)) r) G = .inl G' → RxG σ' G' → FrRw G.2.1.length σ σ' → (∀ j, G.2.1.length ≤ j → j < G'.2.1.length → mV σ' 317 j = 0 ∧ mV σ' 318 j = 0) → R_table_397 l6 σ' Q) → (∀ e σ', gAll o false (tbO H W A c (decide (p.length = 0)) r) G = .inr e → TxR σ' e → FrRw G.2.1.length σ σ' → R_table_397 l6 σ' Q) → R_table_351 (R.length : Int) (c : Int) l6 (p.length : Int) σ Q := by
  intro r
  induction r with
  | nil =>
    intro p G σ hR hC hW hA h344 ho hG hB hy hn
    rw [List.append_nil] at hR
    rw [← hR]
    exact R_table_351.i ⟨by unfold Rg; omega, by unfold Rg; omega, fun _ => hy G σ rfl hG FrRw.rf (fun j a b => by omega), fun h => absurd h (by omega)⟩
  | cons row r ih =>
    intro p G σ hR hC hW hA h344 ho hG hB hy hn
    have lR : R.length = p.length + (r.length + 1) := by rw [hR, List.length_append, List.length_cons]
    have hrw := hrows row (by rw [hR]; exact List.mem_append_right _ List.mem_cons_self)
    have lF : R.flatten.length = p.flatten.length + (row.length + r.flatten.length) := by
      rw [hR, List.flatten_append, List.flatten_cons, List.length_append, List.length_append]
    have eT : R.take p.length = p := by
      rw [hR]
      exact List.take_left' rfl
    have eT1 : R.take (p.length + 1) = p ++ [row] := by
      rw [hR, show p ++ row :: r = (p ++ [row]) ++ r by rw [List.append_assoc]; rfl]
      exact List.take_left' (by rw [List.length_append]; rfl)
    obtain ⟨x, hx⟩ := hC.row hR hok hsu
    have e3 : mV σ 344 p.length = (p.flatten.length : Int) := by
      rw [h344 _ (by omega), eT]
    have e4 : mV σ 344 (p.length + 1) = ((p.flatten.length + row.length : Nat) : Int) := by
      rw [h344 _ (by omega), eT1, List.flatten_append, List.length_append, List.flatten_cons, List.flatten_nil, List.append_nil]
    have e0 : ∀ y, gAll o false (tbO H W A c (decide (p.length = 0)) (row :: r)) G = y ↔ gBd (gBd (gAll o false (tpG (tpL H W A row c) (decide (p.length = 0)) (tpM H W row c) (tpM H W row c) 0) G) (gAll o false (if decide (p.length = 0) = true then [(tdR W c, 1)] else []))) (gAll o false (tbO H W A c false r)) = y := fun y => by
      show gAll o false (tpR H W A c (decide (p.length = 0)) row ++ tbO H W A c false r) G = y ↔ _
      unfold tpR
      rw [gAll_a, gAll_a]
    have nx : ∀ (G2 : GS9) (σ2 : MS), (∀ y, gAll o false (tbO H W A c false r) G2 = y → gAll o false (tbO H W A c (decide (p.length = 0)) (row :: r)) G = y) → RxG σ2 G2 → GB9 c9 G2 → G.2.1.length ≤ G2.2.1.length → FrRw G.2.1.length σ σ2 → (∀ j, G.2.1.length ≤ j → j < G2.2.1.length → mV σ2 317 j = 0 ∧ mV σ2 318 j = 0) → R_table_391 (R.length : Int) (c : Int) l6 (p.length : Int) σ2 Q := fun G2 σ2 eG rx2 gb2 le2 f2 n2 => by
      refine R_table_391.i ?_
      rw [show (p.length : Int) + 1 = (((p ++ [row]).length : Nat) : Int) by rw [List.length_append]; rfl]
      have ef : decide ((p ++ [row]).length = 0) = false := decide_eq_false (by rw [List.length_append]; show ¬ p.length + 1 = 0; omega)
      refine ih (p ++ [row]) G2 σ2 (by rw [List.append_assoc]; exact hR) (hC.z f2.1 (by decide)) (fun k hk => (f2.1.z (by decide) (by decide)).trans (hW k hk)) (fun k hk => (f2.1.z (by decide) (by decide)).trans (hA k hk)) (fun i hi => (f2.1.z (by decide) (by decide)).trans (h344 i hi)) ((f2.1.f (by decide) (by decide)).trans ho) rx2 gb2 (fun G' σ' y1 y2 y3 y4 => ?_) (fun e σ' y1 y2 y3 => ?_)
      · rw [ef] at y1
        refine hy G' σ' (eG _ y1) y2 (f2.tr le2 y3) (fun j a b => ?_)
        by_cases hj : j < G2.2.1.length
        · rw [y3.2 317 j (by decide) hj, y3.2 318 j (by decide) hj]
          exact n2 j a hj
        · exact y4 j (by omega) b
      · rw [ef] at y1
        exact hn e σ' (eG _ y1) y2 (f2.tr le2 y3)
    have bad : ∀ (e : Int × Int × Int) (σ2 : MS), gAll o false (tbO H W A c (decide (p.length = 0)) (row :: r)) G = .inr e → TxR σ2 e → FrRw G.2.1.length σ σ2 → R_table_391 (R.length : Int) (c : Int) l6 (p.length : Int) σ2 Q := fun e σ2 h1 h2 h3 => by
      have hk9 := gAll_k h1
      have fin := hn e σ2 h1 h2 h3
      exact R_table_391.i (R_table_351.i ⟨by unfold Rg; omega, by unfold Rg; omega, fun _ => fin, fun _ => ⟨fun _ => fin, fun h => absurd (h2.1.symm.trans h) (by omega)⟩⟩)
    refine R_table_351.i ⟨by unfold Rg; omega, by unfold Rg; omega, fun h => absurd h (by omega), fun _ => ⟨fun h => absurd hG.1 h, fun _ => ?_⟩⟩
    refine R_row.p (r := p.length) (c := c) (c0 := p.flatten.length) (o := o) (c9 := c9) (u := fun k => (x k).1) (V := fun k => (x k).2) (row := row) (H := H) (W := W) (A := A) (G := G) ⟨hc.2, hrw, by omega, by omega, fun k hk => ⟨hWb k hk, hAb k hk⟩, fun i k hk => h11 row i k hk⟩ ⟨e3, fun k hk => ⟨(hx k hk).1, (hx k hk).2.1, (hx k hk).2.2.1⟩, fun k hk => ⟨hW k hk, hA k hk⟩⟩ e4 (fun k hk => ⟨(hx k hk).2.2.2.1, (hx k hk).2.2.2.2⟩) ho hG hB (fun G1 σ1 y1 y2 y3 y4 => ?_) (fun e σ1 y1 y2 y3 => ?_)
    · have gl := gAll_l y1
      have le1 : G.2.1.length ≤ G1.2.1.length := by
        rw [gl.1, List.length_append]
        omega
      have gb1 : GB9 c9 G1 := gAll_b hc9 _ hB y1
      show Rg (p.length : Int) ∧ (¬ (p.length : Int) = 0 → _) ∧ ((p.length : Int) = 0 → _)
      refine ⟨by unfold Rg; omega, fun h => ?_, fun h => ⟨fun h2 => absurd y2.1 h2, fun _ => ?_⟩⟩
      · refine nx G1 σ1 (fun y hy1 => (e0 y).mpr ?_) y2 gb1 le1 y3 y4
        rw [y1, decide_eq_false (by omega)]
        exact hy1
      · refine R_ruled.p (W := W) (o := o) (c9 := c9) (G := G1) hc.2 (fun k hk => ⟨(y3.1.z (by decide) (by decide)).trans (hW k hk), hWb k hk⟩) h30 y2 gb1 ((y3.1.f (by decide) (by decide)).trans ho) (fun G2 σ2 w1 w2 w3 w4 => ?_) (fun e σ2 w1 w2 w3 => ?_)
        · have g2 := gFin_b gb1 w1
          have l2 : G2.2.1.length = G1.2.1.length + 1 := by
            rw [g2.2.1]
            exact List.length_append ..
          refine nx G2 σ2 (fun y hy1 => (e0 y).mpr ?_) w2 (g2.1.mo (by omega)) (by omega) (y3.tr le1 (FrRw.l w3)) (fun j a b => ?_)
          · rw [y1, decide_eq_true (by omega)]
            show gBd (gBd (gFin o (tdR W c) 1 false G1) _) _ = y
            rw [w1]
            exact hy1
          · by_cases hj : j < G1.2.1.length
            · rw [w3.2 317 j (by decide) hj, w3.2 318 j (by decide) hj]
              exact y4 j a hj
            · rw [show j = G1.2.1.length by omega]
              exact w4
        · refine bad e σ2 ((e0 _).mpr ?_) w2 (y3.tr le1 (FrRw.l w3))
          rw [y1, decide_eq_true (by omega)]
          show gBd (gBd (gFin o (tdR W c) 1 false G1) _) _ = _
          rw [w1]
          rfl
    · have b1 := bad e σ1 ((e0 _).mpr (by rw [y1]; rfl)) y2 y3
      have hk9 := gAll_k y1
      show Rg (p.length : Int) ∧ (¬ (p.length : Int) = 0 → _) ∧ ((p.length : Int) = 0 → _)
      exact ⟨by unfold Rg; omega, fun _ => b1, fun _ => ⟨fun _ => b1, fun h => absurd (y2.1.symm.trans h) (by omega)⟩⟩
end
