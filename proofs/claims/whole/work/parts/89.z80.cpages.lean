/-! PAGES: the class -/
/-- the galley of the class, for pages -/
def PgC (σ : MS) (F : List Int) (Ls : List GL9) (A : List Int) (sp : List (Int × Int)) : Prop := mX σ 138 = F ∧ mX σ 136 = Ls.map (·.2.2) ∧ mX σ 140 = A ∧ mX σ 142 = sp.map (·.1) ∧ mX σ 144 = sp.map (·.2)
/-- bounds for pages -/
def PgB (room : Int) (F : List Int) (Ls : List GL9) (A : List Int) (sp : List (Int × Int)) : Prop := (0 ≤ room ∧ room ≤ 60) ∧ F.length ≤ 6600 ∧ Ls.length ≤ 1500 ∧ FlW Ls.length F ∧ MkP F A ∧ srt9 A ∧ SpP Ls.length sp ∧ sp.length = A.length ∧ A.length ≤ 60
section
variable {σ : MS} {Q : MQ9} {room : Int} {F : List Int} {Ls : List GL9} {A : List Int} {sp : List (Int × Int)} {fr i : Nat}
theorem sp_1 {k : Nat} (h : k < sp.length) : rgt (sp.map (·.1)) (k : Int) = (sp.getD k (0, 0)).1 := by
  rw [rgt_n (by rw [List.length_map]; exact h)]
  unfold List.getD
  rw [List.getElem?_map, List.getElem?_eq_getElem h]
  rfl
theorem sp_2 {k : Nat} (h : k < sp.length) : rgt (sp.map (·.2)) (k : Int) = (sp.getD k (0, 0)).2 := by
  rw [rgt_n (by rw [List.length_map]; exact h)]
  unfold List.getD
  rw [List.getElem?_map, List.getElem?_eq_getElem h]
  rfl
theorem pS_b (hB : PgB room F Ls A sp) : ∀ {k : Nat}, k ≤ sp.length → 0 ≤ pS sp k ∧ pS sp k ≤ 1500 * (k : Int)
  | 0, _ => by
    have : pS sp 0 = 0 := by cases sp <;> rfl
    omega
  | k + 1, h => by
    have ih := pS_b hB (k := k) (by omega)
    rw [pS_s (by omega)]
    have a := hB.2.2.2.2.2.2.1 _ (gdp_mem (L := sp) (i := k) (by omega))
    have b := hB.2.2.1
    omega
theorem A_b (hB : PgB room F Ls A sp) {k : Nat} (h : k < A.length) : 0 ≤ A.getD k 0 ∧ A.getD k 0 ≤ 6600 := by
  have a := hB.2.2.2.2.1 _ (gd_mem h)
  have b := hB.2.1
  omega
theorem Galley_firstNote.c (hB : PgB room F Ls A sp) (hA : mX σ 140 = A) (hfr : fr ≤ 6600) (hq : Q (.inl (some (nB A (fr : Int) : Int))) σ) : Galley_firstNote (fr : Int) σ Q := by
  have la := hB.2.2.2.2.2.2.2.2
  have nl := nB_l (A := A) (x := (fr : Int))
  have go : ∀ (n k : Nat), k + n = nB A (fr : Int) → Galley_firstNote_2 (fr : Int) (k : Int) σ Q := by
    intro n
    induction n with
    | zero =>
      intro k hk
      have e : k = nB A (fr : Int) := by omega
      refine Galley_firstNote_2.i ⟨by unfold Rg; omega, fun _ => ⟨by unfold Rg; omega, by rw [e]; exact hq⟩, fun h => ⟨by unfold Rg; omega, by unfold Rg; omega, fun _ => ⟨by unfold Rg; omega, by rw [e]; exact hq⟩, fun h9 => ?_⟩⟩
      rw [hA] at h h9
      rw [rgt_n (by omega)] at h9
      rw [e] at h h9
      exact absurd h9 (nB_at (by omega))
    | succ n ih =>
      intro k hk
      have lt := nB_lt (A := A) (x := (fr : Int)) (k := k) (by omega)
      refine Galley_firstNote_2.i ⟨by unfold Rg; omega, fun h => ?_, fun h => ⟨by unfold Rg; omega, by unfold Rg; omega, fun h9 => ?_, fun _ => ?_⟩⟩
      · rw [hA] at h
        omega
      · rw [hA, rgt_n (by omega)] at h9
        omega
      · rw [show (k : Int) + 1 = ((k + 1 : Nat) : Int) by omega]
        exact ih (k + 1) (by omega)
  exact Galley_firstNote.i (go (nB A (fr : Int)) 0 (by omega))
theorem gpe_45 {l1 l2 l3 l4 m0 : Int} (hB : PgB room F Ls A sp) (hC : PgC σ F Ls A sp) (hi : i ≤ 6600) (hm : 0 ≤ m0 ∧ m0 ≤ 90000) (hq : Galley_pageEnd_101 l1 l2 l3 l4 (pS sp (nB A ((i : Int) + 1)) - m0) (nB A ((i : Int) + 1) : Int) (i : Int) σ Q) : ∀ (n k : Nat), k + n = nB A ((i : Int) + 1) → Galley_pageEnd_45 l1 l2 l3 l4 (pS sp k - m0) (k : Int) (i : Int) σ Q := by
  obtain ⟨c1, c2, c3, c4, c5⟩ := hC
  have la := hB.2.2.2.2.2.2.2.2
  have ls := hB.2.2.2.2.2.2.2.1
  have nl := nB_l (A := A) (x := (i : Int) + 1)
  intro n
  induction n with
  | zero =>
    intro k hk
    have e : k = nB A ((i : Int) + 1) := by omega
    refine Galley_pageEnd_45.i ⟨by unfold Rg; omega, fun _ => by rw [e]; exact hq, fun h => ⟨by unfold Rg; omega, by unfold Rg; omega, fun _ => by rw [e]; exact hq, fun h9 => ?_⟩⟩
    rw [c3] at h h9
    rw [rgt_n (by omega)] at h9
    rw [e] at h h9
    exact absurd (show A.getD (nB A ((i : Int) + 1)) 0 < (i : Int) + 1 by omega) (nB_at (by omega))
  | succ n ih =>
    intro k hk
    have lt := nB_lt (A := A) (x := (i : Int) + 1) (k := k) (by omega)
    refine Galley_pageEnd_45.i ⟨by unfold Rg; omega, fun h => ?_, fun h => ⟨by unfold Rg; omega, by unfold Rg; omega, fun h9 => ?_, fun _ => ⟨by unfold Rg; omega, by unfold Rg; omega, ?_⟩⟩⟩
    · rw [c3] at h
      omega
    · rw [c3, rgt_n (by omega)] at h9
      omega
    · rw [c4, c5, sp_1 (by omega), sp_2 (by omega), show (k : Int) + 1 = ((k + 1 : Nat) : Int) by omega]
      have := ih (k + 1) (by omega)
      rw [pS_s (by omega)] at this
      rw [show pS sp k - m0 + ((sp.getD k (0, 0)).2 - (sp.getD k (0, 0)).1) = pS sp k + ((sp.getD k (0, 0)).2 - (sp.getD k (0, 0)).1) - m0 by omega]
      exact this
theorem F_b (hB : PgB room F Ls A sp) {k : Nat} (h : k < F.length) : -3 ≤ F.getD k 0 ∧ F.getD k 0 < (Ls.length : Int) := by
  rcases hB.2.2.2.1.1 k h with h | h | h
  · omega
  · omega
  · omega
theorem flE_at {x : Int} (h0 : 0 ≤ x) (h1 : x < (Ls.length : Int)) : rgt (Ls.map (·.2.2)) x = flE Ls x := by
  obtain ⟨m, rfl⟩ : ∃ m : Nat, x = (m : Int) := ⟨x.toNat, by omega⟩
  rw [rgt_n (by rw [List.length_map]; omega)]
  unfold flE
  rw [Int.toNat_natCast]
  unfold List.getD
  rw [List.getElem?_map, List.getElem?_eq_getElem (by omega)]
  rfl
theorem gpe_195 {may fits : Int} (hm : -1 ≤ may ∧ may ≤ 6600) (hf : -1 ≤ fits ∧ fits ≤ 6600) (hfr : fr ≤ 6600) (hq : Q (.inl (some (peE fr may fits).1)) σ) : Galley_pageEnd_195 (fr : Int) may fits σ Q := by
  unfold peE at hq
  have hq : Q (.inl (some (if may = -1 then (if fits = -1 then (fr : Int) else fits) else may))) σ := hq
  refine Galley_pageEnd_195.i ⟨by unfold Rg; omega, fun h => ⟨by unfold Rg; omega, fun h2 => ⟨by unfold Rg; omega, ?_⟩, fun h2 => ⟨by unfold Rg; omega, ?_⟩⟩, fun h => ⟨by unfold Rg; omega, ?_⟩⟩
  · rw [if_pos h, if_pos h2] at hq
    exact hq
  · rw [if_pos h, if_neg h2] at hq
    exact hq
  · rw [if_neg h] at hq
    exact hq
theorem gpe_18 (hB : PgB room F Ls A sp) (hC : PgC σ F Ls A sp) (hfr : fr ≤ 6600) : ∀ (n i : Nat) (may fits : Int), F.length ≤ i + n → fr ≤ i → i ≤ F.length → (-1 ≤ may ∧ may ≤ 6600) → (-1 ≤ fits ∧ fits ≤ 6600) → Q (.inl (some (peD room F Ls A sp fr n i may fits).1)) σ → Galley_pageEnd_18 (fr : Int) room may fits (pS sp (nB A (i : Int)) - pS sp (nB A (fr : Int))) (nB A (i : Int) : Int) (i : Int) σ Q := by
  have la := hB.2.2.2.2.2.2.2.2
  have ls := hB.2.2.2.2.2.2.2.1
  have lf := hB.2.1
  have r6 := hB.1
  obtain ⟨c1, c2, c3, c4, c5⟩ := hC
  have mb := pS_b hB (k := nB A (fr : Int)) (by have := nB_l (A := A) (x := (fr : Int)); omega)
  have mb2 : nB A (fr : Int) ≤ 60 := by have := nB_l (A := A) (x := (fr : Int)); omega
  intro n
  induction n with
  | zero =>
    intro i may fits hn hi hl hm hf hq
    refine Galley_pageEnd_18.i ⟨by unfold Rg; omega, fun _ => gpe_195 hm hf hfr hq, fun h => ?_⟩
    rw [c1] at h
    omega
  | succ n ih =>
    intro i may fits hn hi hl hm hf hq
    unfold peD at hq
    refine Galley_pageEnd_18.i ⟨by unfold Rg; omega, fun h => ?_, fun h => ⟨by unfold Rg; omega, fun h0 => ?_, fun h0 => ?_⟩⟩
    · rw [c1] at h
      rw [if_pos (by omega)] at hq
      exact gpe_195 hm hf hfr hq
    · rw [c1] at h h0
      rw [rgt_n (by omega)] at h0
      rw [if_neg (by omega), if_neg (by omega)] at hq
      refine gpe_45 (m0 := pS sp (nB A (fr : Int))) hB ⟨c1, c2, c3, c4, c5⟩ (by omega) (by omega) ?_ (nB A ((i : Int) + 1) - nB A (i : Int)) (nB A (i : Int)) (by have := nB_mo (A := A) (x := (i : Int)) (y := (i : Int) + 1) (by omega); omega)
      have pb := pS_b hB (k := nB A ((i : Int) + 1)) (by have := nB_l (A := A) (x := (i : Int) + 1); omega)
      have pb2 : nB A ((i : Int) + 1) ≤ 60 := by have := nB_l (A := A) (x := (i : Int) + 1); omega
      have pm := pS_mo (sp := sp) hB.2.2.2.2.2.2.1 (k := nB A (fr : Int)) (n := nB A ((i : Int) + 1)) (nB_mo (by omega)) (by have := nB_l (A := A) (x := (i : Int) + 1); omega)
      have eft : pS sp (nB A ((i : Int) + 1)) - pS sp (nB A (fr : Int)) = ftP A sp fr i := rfl
      rw [eft]
      have bft : 0 ≤ ftP A sp fr i ∧ ftP A sp fr i ≤ 90000 := by
        rw [← eft]
        omega
      have nxt : ∀ may' : Int, (-1 ≤ may' ∧ may' ≤ 6600) → Q (.inl (some (peD room F Ls A sp fr n (i + 1) may' (i : Int)).1)) σ → Galley_pageEnd_189 (fr : Int) room may' (i : Int) (ftP A sp fr i) (nB A ((i : Int) + 1) : Int) (i : Int) σ Q := fun may' hm' hq' => by
        refine Galley_pageEnd_189.i ?_
        have := ih (i + 1) may' (i : Int) (by omega) (by omega) (by omega) hm' (by omega) hq'
        rw [show ((i + 1 : Nat) : Int) = (i : Int) + 1 by omega] at this
        exact this
      have go : ∀ s1 : Int, s1 = (if 0 < ftP A sp fr i then ftP A sp fr i + 1 else 0) → Galley_pageEnd_120 (fr : Int) room may fits (ftP A sp fr i) (nB A ((i : Int) + 1) : Int) (i : Int) (((i : Int) - (fr : Int)) + 1) s1 σ Q := fun s1 hs => by
        have fe : (((i : Int) - (fr : Int)) + 1) + s1 ≤ room ↔ fitP room A sp fr i = true := by
          rw [hs]
          exact decide_eq_true_iff.symm
        have sb : 0 ≤ s1 ∧ s1 ≤ 90001 := by
          rw [hs]
          split <;> omega
        refine Galley_pageEnd_120.i ⟨by unfold Rg; omega, by unfold Rg; omega, fun hfit => ?_, fun hno => ?_⟩
        · have hfit := fe.mp hfit
          rw [if_pos hfit] at hq
          refine ⟨by unfold Rg; omega, fun he => ⟨by unfold Rg; omega, ?_⟩, fun he => ⟨by unfold Rg; omega, fun h3 => ⟨by unfold Rg; omega, fun h2 => ?_, fun h2 => ?_⟩, fun h3 => ⟨by unfold Rg; omega, ?_⟩⟩⟩
          · rw [c1] at he
            rw [if_pos (Or.inl (by omega))] at hq
            exact hq
          · rw [c1] at he h3 h2
            rw [show (i : Int) + 1 = ((i + 1 : Nat) : Int) by omega, rgt_n (by omega)] at h3
            have hF := F_b hB (k := i) (by omega)
            have efl : rgt (mX σ 136) (rgt F (i : Int)) = flE Ls (F.getD i 0) := by
              rw [c2, rgt_n (i := i) (by omega)]
              exact flE_at (by omega) hF.2
            rw [efl] at h2
            rw [if_neg (by omega), if_neg h2] at hq
            exact nxt may hm hq
          · rw [c1] at he h3 h2
            rw [show (i : Int) + 1 = ((i + 1 : Nat) : Int) by omega, rgt_n (by omega)] at h3
            have hF := F_b hB (k := i) (by omega)
            have efl : rgt (mX σ 136) (rgt F (i : Int)) = flE Ls (F.getD i 0) := by
              rw [c2, rgt_n (i := i) (by omega)]
              exact flE_at (by omega) hF.2
            rw [efl] at h2
            rw [if_neg (by omega), if_pos h2] at hq
            exact nxt (i : Int) (by omega) hq
          · rw [c1] at he h3
            rw [show (i : Int) + 1 = ((i + 1 : Nat) : Int) by omega, rgt_n (by omega)] at h3
            rw [if_pos (Or.inr h3)] at hq
            exact hq
        · rw [if_neg (fun h9 => absurd (fe.mpr h9) (by omega))] at hq
          exact gpe_195 hm hf hfr hq
      exact Galley_pageEnd_101.i ⟨by unfold Rg; omega, fun h9 => go 0 (by rw [if_neg (by omega)]), fun h9 => go _ (by rw [if_pos h9])⟩
    · rw [c1] at h h0
      rw [rgt_n (by omega)] at h0
      rw [if_neg (by omega), if_pos h0] at hq
      refine Galley_pageEnd_189.i ?_
      have := ih (i + 1) may fits (by omega) (by omega) (by omega) hm hf hq
      rw [show ((i + 1 : Nat) : Int) = (i : Int) + 1 by omega, nB_sk hB.2.2.2.2.1 h0] at this
      exact this
theorem Galley_pageEnd.c (hB : PgB room F Ls A sp) (hC : PgC σ F Ls A sp) (hfr : fr < F.length) (h0 : 0 ≤ F.getD fr 0) (hq : Q (.inl (some (pgE room F Ls A sp fr : Int))) σ) : Galley_pageEnd (fr : Int) room σ Q := by
  have lf := hB.2.1
  refine Galley_pageEnd.i (Galley_firstNote.c hB hC.2.2.1 (by omega) ?_)
  have := gpe_18 (Q := Q) (fr := fr) hB hC (by omega) F.length fr (-1) (-1) (by omega) (Nat.le_refl _) (by omega) (by decide) (by decide) (by
    have := (pgE_p (room := room) (Ls := Ls) (A := A) (sp := sp) hfr h0).2.2.2.1
    rw [← this]
    exact hq)
  rw [Int.sub_self] at this
  exact this
def FrPa (σ σ' : MS) : Prop := (∀ q, q ≠ 146 → q ≠ 148 → mX σ' q = mX σ q) ∧ σ'.2.2 = σ.2.2 ∧ ∀ y k, y ≠ 22 → mV σ' y k = mV σ y k
theorem gpg_sk {l1 : Int} {e : Nat} (lf : F.length ≤ 6600) (c1 : mX σ 138 = F) (he : e < F.length) (hq : Galley_paginate_4 l1 ((e : Int) + 1) ((e + 1 : Nat) : Int) σ Q) : ∀ (n j : Nat), j + n = e + 1 → Galley_paginate_4 l1 ((e : Int) + 1) (j : Int) σ Q := by
  intro n
  induction n with
  | zero =>
    intro j hj
    rw [show j = e + 1 by omega]
    exact hq
  | succ n ih =>
    intro j hj
    refine Galley_paginate_4.i ⟨by unfold Rg; omega, fun h => ?_, fun h => ⟨by unfold Rg; omega, by unfold Rg; omega, fun _ => Galley_paginate_82.i ?_, fun h9 => absurd h9 (by omega)⟩⟩
    · rw [c1] at h
      omega
    · rw [show (j : Int) + 1 = ((j + 1 : Nat) : Int) by omega]
      exact ih (j + 1) (by omega)
theorem gpg_4 {σ0 : MS} (hB : PgB room F Ls A sp) (hC : PgC σ0 F Ls A sp) : ∀ (n i : Nat) (l2 : Int) (P0 : List (Nat × Nat)) (σ : MS), F.length ≤ i + n → i ≤ F.length → (0 ≤ l2 ∧ l2 ≤ (i : Int)) → P0.length ≤ 99 → FrPa σ0 σ → (∀ y k, mV σ y k = mV σ0 y k) → mX σ 146 = P0.map (fun p => (p.1 : Int)) → mX σ 148 = P0.map (fun p => (p.2 : Int)) → (∀ P σ', pgD room F Ls A sp n i P0.length = some P → (P0 ++ P).length ≤ 99 → mX σ' 146 = (P0 ++ P).map (fun p => (p.1 : Int)) → mX σ' 148 = (P0 ++ P).map (fun p => (p.2 : Int)) → FrPa σ0 σ' → (∀ y k, mV σ' y k = mV σ0 y k) → Q (.inl none) σ') → (∀ σ', pgD room F Ls A sp n i P0.length = none → FrPa σ0 σ' → mV σ' 22 2 = 9 → (∀ k, k ≠ 2 → mV σ' 22 k = mV σ0 22 k) → Q (.inr (exN 0)) σ') → Galley_paginate_4 room l2 (i : Int) σ Q := by
  have lf := hB.2.1
  intro n
  induction n with
  | zero =>
    intro i l2 P0 σ hn hi hl hP hf hv x1 x2 hy hno
    have c1 : mX σ 138 = F := (hf.1 _ (by decide) (by decide)).trans hC.1
    refine Galley_paginate_4.i ⟨by unfold Rg; omega, fun _ => hy [] σ rfl (by rw [List.append_nil]; exact hP) (by rw [List.append_nil]; exact x1) (by rw [List.append_nil]; exact x2) hf hv, fun h => ?_⟩
    rw [c1] at h
    omega
  | succ n ih =>
    intro i l2 P0 σ hn hi hl hP hf hv x1 x2 hy hno
    have c1 : mX σ 138 = F := (hf.1 _ (by decide) (by decide)).trans hC.1
    have hC' : PgC σ F Ls A sp := ⟨c1, (hf.1 _ (by decide) (by decide)).trans hC.2.1, (hf.1 _ (by decide) (by decide)).trans hC.2.2.1, (hf.1 _ (by decide) (by decide)).trans hC.2.2.2.1, (hf.1 _ (by decide) (by decide)).trans hC.2.2.2.2⟩
    have l146 : (mX σ 146).length = P0.length := by rw [x1, List.length_map]
    have l148 : (mX σ 148).length = P0.length := by rw [x2, List.length_map]
    refine Galley_paginate_4.i ⟨by unfold Rg; omega, fun h => ?_, fun h => ⟨by unfold Rg; omega, by unfold Rg; omega, fun h9 => absurd h9 (by omega), fun _ => ⟨by unfold Rg; omega, fun h0 => ?_, fun h0 => ?_⟩⟩⟩
    · rw [c1] at h
      refine hy [] σ ?_ (by rw [List.append_nil]; exact hP) (by rw [List.append_nil]; exact x1) (by rw [List.append_nil]; exact x2) hf hv
      unfold pgD
      rw [if_pos (by omega)]
    · rw [c1] at h h0
      rw [rgt_n (by omega)] at h0
      have e0 : pgD room F Ls A sp (n + 1) i P0.length = pgD room F Ls A sp n (i + 1) P0.length := by
        conv => lhs; unfold pgD
        rw [if_neg (by omega), if_pos h0]
      rw [e0] at hy hno
      refine Galley_paginate_82.i ?_
      have := ih (i + 1) l2 P0 σ (by omega) (by omega) (by omega) hP hf hv x1 x2 hy hno
      rw [show ((i + 1 : Nat) : Int) = (i : Int) + 1 by omega] at this
      exact this
    · rw [c1] at h h0
      rw [rgt_n (by omega)] at h0
      have hil : i < F.length := by omega
      obtain ⟨g1, g2, g3, -⟩ := pgE_p (room := room) (Ls := Ls) (A := A) (sp := sp) hil h0
      refine ⟨fun h99 => ?_, fun h99 => ?_⟩
      · rw [l146] at h99
        refine Galley_paginate_52.i (Galley_pageEnd.c hB hC' hil h0 ?_)
        refine ⟨by unfold Rg; omega, by rw [l146]; omega, by rw [l148]; omega, Galley_paginate_82.i ?_⟩
        rw [show (i : Int) + 1 = ((i + 1 : Nat) : Int) by omega]
        refine gpg_sk (F := F) (e := pgE room F Ls A sp i) lf ((wX_ne (by decide)).trans ((wX_ne (by decide)).trans c1)) g2 ?_ (pgE room F Ls A sp i - i) (i + 1) (by omega)
        have e0 : ∀ r, (match pgD room F Ls A sp n (pgE room F Ls A sp i + 1) (P0.length + 1) with
          | none => none
          | some P => some ((i, pgE room F Ls A sp i) :: P)) = r ↔ pgD room F Ls A sp (n + 1) i P0.length = r := fun r => by
          conv => rhs; lhs; unfold pgD
          rw [if_neg (by omega), if_neg (by omega), if_neg (by omega)]
          exact Iff.rfl
        have eP : ∀ P : List (Nat × Nat), P0 ++ (i, pgE room F Ls A sp i) :: P = (P0 ++ [(i, pgE room F Ls A sp i)]) ++ P := fun P => by rw [List.append_assoc]; rfl
        have := ih (pgE room F Ls A sp i + 1) ((pgE room F Ls A sp i : Int) + 1) (P0 ++ [(i, pgE room F Ls A sp i)]) (wX (wX σ 146 (mX σ 146 ++ [(i : Int)])) 148 (mX σ 148 ++ [(pgE room F Ls A sp i : Int)])) (by omega) (by omega) (by omega) (by rw [List.length_append]; show P0.length + 1 ≤ 99; omega) ⟨fun q a b => (wX_ne b).trans ((wX_ne a).trans (hf.1 q a b)), hf.2.1, hf.2.2⟩ hv (by rw [wX_ne (by decide), wX_self, x1, List.map_append]; rfl) (by rw [wX_self, x2, List.map_append]; rfl) (fun P σ' w1 w2 w3 w4 w5 w6 => hy ((i, pgE room F Ls A sp i) :: P) σ' ((e0 _).mp (by rw [List.length_append] at w1; rw [show pgD room F Ls A sp n (pgE room F Ls A sp i + 1) (P0.length + 1) = some P from w1])) (by rw [eP]; exact w2) (by rw [eP]; exact w3) (by rw [eP]; exact w4) w5 w6) (fun σ' w1 w2 w3 w4 => hno σ' ((e0 _).mp (by rw [List.length_append] at w1; rw [show pgD room F Ls A sp n (pgE room F Ls A sp i + 1) (P0.length + 1) = none from w1])) w2 w3 w4)
        rw [show ((pgE room F Ls A sp i + 1 : Nat) : Int) = (pgE room F Ls A sp i : Int) + 1 by omega] at this ⊢
        exact this
      · rw [l146] at h99
        refine Purse_fail.i ⟨by decide, ?_⟩
        have fin := hno (wV σ 22 2 9) (by
          unfold pgD
          rw [if_neg (by omega), if_neg (by omega), if_pos (by omega)]) ⟨hf.1, hf.2.1, fun y k a => (wV_ne (Or.inl a)).trans (hf.2.2 y k a)⟩ wV_self (fun k hk => (wV_ne (Or.inr hk)).trans (hv _ _))
        exact fin
theorem Galley_paginate.c (hB : PgB room F Ls A sp) (hC : PgC σ F Ls A sp) (h1 : mX σ 146 = []) (h2 : mX σ 148 = []) (hy : ∀ P σ', pgD room F Ls A sp F.length 0 0 = some P → P.length ≤ 99 → mX σ' 146 = P.map (fun p => (p.1 : Int)) → mX σ' 148 = P.map (fun p => (p.2 : Int)) → FrPa σ σ' → (∀ y k, mV σ' y k = mV σ y k) → Q (.inl none) σ') (hn : ∀ σ', pgD room F Ls A sp F.length 0 0 = none → FrPa σ σ' → mV σ' 22 2 = 9 → (∀ k, k ≠ 2 → mV σ' 22 k = mV σ 22 k) → Q (.inr (exN 0)) σ') : Galley_paginate room σ Q := Galley_paginate.i (gpg_4 hB hC F.length 0 0 [] σ (by omega) (Nat.zero_le _) (by decide) (by decide) ⟨fun _ _ _ => rfl, rfl, fun _ _ _ => rfl⟩ (fun _ _ => rfl) h1 h2 (fun P σ' w1 w2 w3 w4 w5 w6 => hy P σ' w1 w2 w3 w4 w5 w6) hn)
end
