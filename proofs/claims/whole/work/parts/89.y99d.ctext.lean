/-! THE TEXT OF A PARAGRAPH OR AN ITEM: the class, the whole -/
def TxR9 : List Nat := [112, 114, 116, 120, 122, 124, 130, 132, 134, 136, 138, 140]
def FrTx (z' : Nat) (σ σ' : MS) : Prop := (∀ q, q ∉ TXX → q ∉ TxR9 → mX σ' q = mX σ q) ∧ (∀ q, z' ≤ q → q ≤ z' + 36 → mX σ' q = mX σ q) ∧ σ'.2.2 = σ.2.2 ∧ ∀ y k, y ≠ 22 → y ≠ 86 → y ≠ 126 → ¬ (y = 111 ∧ (k = 10 ∨ k = 11 ∨ k = 12)) → ¬ ((y = 49 ∨ y = 163) ∧ (k = 12 ∨ k = 13)) → ¬ (y = 128 ∧ k = 10) → mV σ' y k = mV σ y k
section
variable {σ σ0 : MS} {Q : MQ9} {H : HY9} {T P S : List Int} {hg o sp : Int} {z z' : Nat} {E : TE} {b : BK9} {item : Bool}
theorem FrTx.tr {σ1 σ2 : MS} (h : FrTx z' σ σ1) (h' : FrTx z' σ1 σ2) : FrTx z' σ σ2 := ⟨fun q a c => (h'.1 q a c).trans (h.1 q a c), fun q a c => (h'.2.1 q a c).trans (h.2.1 q a c), h'.2.2.1.trans h.2.2.1, fun y k a1 a2 a3 a4 a5 a6 => (h'.2.2.2 y k a1 a2 a3 a4 a5 a6).trans (h.2.2.2 y k a1 a2 a3 a4 a5 a6)⟩
theorem FrTx.ot {σ1 : MS} (hz' : z' = 49 ∨ z' = 163) (h : FrOt σ σ1) : FrTx z' σ σ1 := ⟨fun q a _ => h.1 q (fun e => a (by
  unfold OtX at e
  simp only [List.mem_cons, List.not_mem_nil, or_false] at e
  rcases e with rfl | rfl | rfl | rfl | rfl | rfl | rfl <;> decide)), fun q a c => h.1 q (by
  unfold OtX
  simp only [List.mem_cons, List.not_mem_nil, or_false]
  omega), h.2.1, fun y k _ a2 _ _ _ _ => h.2.2 y k a2⟩
theorem FrTx.t {σ1 : MS} (hz' : z' = 49 ∨ z' = 163) (hB : mB σ 3 = z' ∧ mB σ 2 ≠ z') (h : FrT σ σ1) : FrTx z' σ σ1 := ⟨fun q a _ => h.1 q a, fun q a c => h.2.2.2.1.2 z' (Or.inl hB) hz' q a c, h.2.1, fun y k a1 a2 _ _ a5 _ => h.2.2.1 y k a1 a2 a5⟩
theorem FrTx.fx {σ1 : MS} (hz' : z' = 49 ∨ z' = 163) (h : FrFx σ σ1) : FrTx z' σ σ1 := ⟨fun q _ a => by
  unfold TxR9 at a
  simp only [List.mem_cons, List.not_mem_nil, or_false, not_or] at a
  exact h.1 q (by omega) (by omega) (by omega) (by omega) (by omega) (by omega), fun q a c => h.1 q (by omega) (by omega) (by omega) (by omega) (by omega) (by omega), h.2.1, fun y k _ _ a3 a4 _ _ => h.2.2 y k a3 a4⟩
theorem FrTx.f7 {σ1 : MS} (hz : z = 49 ∨ z = 163) (hz' : z' = 49 ∨ z' = 163) (hne : z ≠ z') (h : FrF7 z σ σ1) : FrTx z' σ σ1 := ⟨fun q a1 a2 => h.1 q (fun e => by
  unfold F7X at e
  unfold TxR9 at a2
  simp only [List.mem_cons, List.not_mem_nil, or_false, not_or] at e a2
  rcases hz with rfl | rfl
  · rcases e with e | e | e | e | e | e | e | e
    all_goals first
      | omega
      | exact a1 (by rw [e]; decide)
  · rcases e with e | e | e | e | e | e | e | e
    all_goals first
      | omega
      | exact a1 (by rw [e]; decide)), fun q a c => h.1 q (by
  unfold F7X
  simp only [List.mem_cons, List.not_mem_nil, or_false]
  omega), h.2.1, fun y k a1 _ _ _ _ a6 => h.2.2 y k a1 a6⟩
/-- what a text block of the class rests on -/
def TbC (σ : MS) (E : TE) (z z' : Nat) (H : HY9) (S P : List Int) (hg o : Int) (b : BK9) : Prop := RdC σ E z z' b.1 ∧ FiC σ H S P hg ∧ GaC σ (bkG b) [] ∧ mX σ 140 = b.2.2.1.1 ∧ mV σ 128 10 = bZ b.2.2.2 ∧ mV σ 127 16 = o
def TbB (E : TE) (H : HY9) (S P : List Int) (hg o : Int) (b : BK9) : Prop := EI E ∧ E.2.2.2 = 2 ∧ StB S ∧ HyB H.2.1 H.2.2.1 H.2.2.2.1 H.2.2.2.2 ∧ P.length ≤ 64 ∧ (0 ≤ hg ∧ hg ≤ 100) ∧ Rg o ∧ TI 0 0 (tx0 b.1) ∧ PlS (tx0 b.1) ∧ GB9 (-45) (bkG b) ∧ (b.2.2.1.1.length : Int) = b.1.2.2.2.2.2.1.2.2
theorem Setter_fillText.c (hT : mX σ 206 = T) (hTb : smB T) (hT4 : T.length ≤ 8000) (hB : TbB E H S P hg o b) (hC : TbC σ E z z' H S P hg o b) (hsp : 0 ≤ sp ∧ sp ≤ 3) (h3 : ∀ s1 σ', wkD 30 E false [] T (tx0 b.1) = .inl s1 → ¬ (mkd b.1 s1 = true ∧ foP (pkL s1.2.1) = -1) → pkL s1.2.1 = [] → item = false → RdC σ' E z z' (tx0 s1) → GaC σ' ((s1.1.1, s1.1.2.1), b.2.1) [] → shR σ' 104 (s1.2.2.2.2.2.1.1.map pkL) → mX σ' 140 = b.2.2.1.1 → mV σ' 128 10 = bZ b.2.2.2 → FrTx z' σ σ' → Q (.inl none) σ') (h4 : ∀ s1 G1 σ', wkD 30 E false [] T (tx0 b.1) = .inl s1 → ¬ (mkd b.1 s1 = true ∧ foP (pkL s1.2.1) = -1) → ¬ (pkL s1.2.1 = [] ∧ item = false) → gAll o true (prN P hg (S.getD 2 0) (S.getD 0 0) (pkL s1.2.1) (S.getD 7 0) (txX H S P hg (pkL s1.2.1))) ((s1.1.1, s1.1.2.1), b.2.1.1, flS b sp) = .inl G1 → RdC σ' E z z' (txM s1 G1.1 b.1.2.2.2.1.1.length b.1.2.2.2.2.1.1.length (crF (foP (pkL s1.2.1)) (flS b sp).length (txX H S P hg (pkL s1.2.1)))) → GaC σ' G1 [] → shR σ' 104 (s1.2.2.2.2.2.1.1.map pkL) → mX σ' 140 = b.2.2.1.1 ++ s1.2.2.2.2.2.1.2.1.map (fun c => (((flS b sp).length + lnO c (txX H S P hg (pkL s1.2.1)) : Nat) : Int)) → mV σ' 128 10 = 1 → FrTx z' σ σ' → Q (.inl none) σ') (hn : ∀ e σ', txD o E H S P hg sp item T b = .inr e → TxF σ' e → FrTx z' σ σ' → Q (.inr (exN 0)) σ') : Setter_fillText sp (bZ item) σ Q := by
  obtain ⟨hE, hE2, hS, hb, hP6, hh, ho, hTI, hPl, hGB, hAl⟩ := hB
  obtain ⟨hR, hF, hG, hA, hbg, h16⟩ := hC
  have hKZ := hR.2.1.2.1
  have hz := hKZ.2.2.1
  have hz' := hKZ.2.2.2.1
  have hne := hR.2.1.2.2
  have hB0 := hR.2.1.1
  have mkz : isMarks z = true ∧ isShelf (z + 1) = true ∧ isShelf (z + 24) = true ∧ isRow (z + 4) = true ∧ isRow (z + 27) = true := by
    rcases hz with rfl | rfl <;> decide +kernel
  refine Setter_fillText.i ?_
  rw [show (2 : Int) = E.2.2.2 from hE2.symm]
  refine Texts_openText.c hR hTI.1.1.1 (by rw [hE2]; decide) (fun σ1 f1 hc1 => ?_)
  have e1 : σ1.2.2 = σ.2.2 := f1.2.1
  have b1 : mB σ1 0 = z := by rw [show mB σ1 = mB σ from congrArg Prod.fst e1]; exact hB0
  have km1 := hc1.1.2.2.1.2.2.2.1.2 (by omega)
  show tB (isMarks (mB σ1 0)) (tB (isShelf (mB σ1 0 + 1)) (Shelf_rows (mB σ1 0 + 1) σ1 _))
  rw [b1]
  refine tB.i mkz.1 (tB.i mkz.2.1 (Shelf_rows.i (tB.i mkz.2.1 (tB.i mkz.2.2.2.1 ?_))))
  show tB (isMarks (mB σ1 0)) (tB (isShelf (mB σ1 0 + 24)) (Shelf_rows (mB σ1 0 + 24) σ1 _))
  rw [b1]
  refine tB.i mkz.1 (tB.i mkz.2.2.1 (Shelf_rows.i (tB.i mkz.2.2.1 (tB.i mkz.2.2.2.2 ?_))))
  have la : (mX σ1 (z + 1 + 3)).length = b.1.2.2.2.1.1.length := by
    rw [km1.1.1.2, enS_len]
    rfl
  have lk : (mX σ1 (z + 24 + 3)).length = b.1.2.2.2.2.1.1.length := by
    rw [km1.2.1.1.2, enS_len]
    rfl
  show Texts_work 240 206 0 (((mX σ1 206).length : Nat) : Int) 0 σ1 _
  rw [la, lk]
  have t1 : mX σ1 206 = T := (f1.1 206 (by decide)).trans hT
  have hSg : SgT σ1 206 0 T := ⟨by decide, by decide, by omega, fun t ht => by
    rw [t1, show ((0 : Nat) : Int) + (t : Int) = (t : Int) by omega]
    exact rgt_n ht⟩
  have hBz : mB σ1 3 = z' ∧ mB σ1 2 ≠ z' := by
    rw [show mB σ1 = mB σ from congrArg Prod.fst e1]
    exact ⟨hKZ.2.1, by rw [hKZ.1]; exact hne⟩
  rw [show (((mX σ1 206).length : Nat) : Int) = ((0 + T.length : Nat) : Int) by rw [t1, Nat.zero_add]]
  refine Texts_work.c (D := 30) (dep := 0) hE (is_c hE 30 (by decide)) (by decide) (by decide) hSg hTb hc1 hTI ⟨fun s1 σ4 w4 d4 => ?_, fun e σ4 w4 q4 f4 => hn e σ4 (by unfold txD; rw [w4]) q4 ((FrTx.ot hz' f1).tr (FrTx.t hz' hBz f4))⟩
  obtain ⟨f4, R4, c4, -⟩ := d4
  have ti1 := wkD_ti hE (Int.le_refl 0) (Int.le_refl 0) hTI (fun w hw => absurd hw List.not_mem_nil) hTb w4
  have pl1 := (plc_wk s1 w4).2 hPl
  have f04 : FrTx z' σ σ4 := (FrTx.ot hz' f1).tr (FrTx.t hz' hBz f4)
  have km4 := c4.2.2.1.2.2.2.1.2 (by omega)
  have kz4 := c4.2.2.1.2.1
  have kc4 := c4.2.2.1.2.2.1
  have kb4 := c4.2.2.1.2.2.2.2.1
  have ku4 := c4.2.2.1.2.2.2.2.2
  have hU4 : mX σ4 87 = pkL s1.2.1 := by
    rw [c4.2.1.1.1, (c4.2.1.2.2.2.2 rfl).1]
    rfl
  have b4 : mB σ4 0 = z := by rw [show mB σ4 = mB σ from congrArg Prod.fst f04.2.2.1]; exact hB0
  have la4 : (mX σ4 (z + 1 + 3)).length = s1.2.2.2.1.1.length := by rw [km4.1.1.2, enS_len]
  have lk4 : (mX σ4 (z + 24 + 3)).length = s1.2.2.2.2.1.1.length := by rw [km4.2.1.1.2, enS_len]
  have eD : ∀ r, txD o E H S P hg sp item T b = r ↔ (if mkd b.1 s1 = true ∧ foP (pkL s1.2.1) = -1 then (Sum.inr (6, s1.1.1, s1.1.2.1) : BK9 ⊕ (Int × Int × Int)) else if pkL s1.2.1 = [] ∧ item = false then .inl (tx0 s1, b.2) else txF o H S P hg sp b s1) = r := fun r => by
    unfold txD
    rw [w4]
  have hG4 : GaC σ4 ((s1.1.1, s1.1.2.1), b.2.1) [] := by
    have k : ∀ q, q = 130 ∨ q = 132 ∨ q = 134 ∨ q = 136 ∨ q = 138 → mX σ4 q = mX σ q := fun q hq => by
      rw [f4.1 q (by rcases hq with rfl | rfl | rfl | rfl | rfl <;> decide), f1.1 q (by rcases hq with rfl | rfl | rfl | rfl | rfl <;> decide)]
    exact ⟨(k _ (by decide)).trans hG.1, (k _ (by decide)).trans hG.2.1, (k _ (by decide)).trans hG.2.2.1, (k _ (by decide)).trans hG.2.2.2.1, (k _ (by decide)).trans hG.2.2.2.2.1, c4.1.1, c4.1.2.1⟩
  have hA4 : mX σ4 140 = b.2.2.1.1 := by rw [f4.1 140 (by decide), f1.1 140 (by decide)]; exact hA
  have hbg4 : mV σ4 128 10 = bZ b.2.2.2 := (f4.2.2.1 _ _ (by decide) (by decide) (by decide)).trans ((f1.2.2 _ _ (by decide)).trans hbg)
  have hRd4 : RdC σ4 E z z' (tx0 s1) := ⟨⟨c4.1.1, c4.1.2.1⟩, ⟨b4, kz4, hne⟩, kc4, ⟨km4.1, km4.2.1, km4.2.2.1.1, km4.2.2.2.1, km4.2.2.2.2⟩, kb4, ku4⟩
  have hU6 : (pkL s1.2.1).length ≤ 65000 := by
    have h1 := pkL_q (L := s1.2.1)
    have h2 := ti1.2.2.2.2.2.2
    have h3 := ti1.1.1.2
    omega
  have s112 : ¬ (mkd b.1 s1 = true ∧ foP (pkL s1.2.1) = -1) → Setter_fillText_112 sp (bZ item) ((b.1.2.2.2.1.1.length : Nat) : Int) ((b.1.2.2.2.2.1.1.length : Nat) : Int) σ4 Q := fun hno => by
    have s134 : ¬ (pkL s1.2.1 = [] ∧ item = false) → Setter_fillText_134 sp ((b.1.2.2.2.1.1.length : Nat) : Int) ((b.1.2.2.2.2.1.1.length : Nat) : Int) σ4 Q := fun hne2 => by
      have hF4 : FiC σ4 H S P hg := by
        obtain ⟨t1, t2, t3, ⟨t4, t5, t6⟩, t7, t8⟩ := hF
        have k : ∀ q, q ∉ TXX → mX σ4 q = mX σ q := fun q hq => (f4.1 q hq).trans (f1.1 q (fun e => hq (by
          unfold OtX at e
          simp only [List.mem_cons, List.not_mem_nil, or_false] at e
          rcases e with rfl | rfl | rfl | rfl | rfl | rfl | rfl <;> decide)))
        have v : ∀ y k, y ≠ 22 → y ≠ 86 → ¬ ((y = 49 ∨ y = 163) ∧ (k = 12 ∨ k = 13)) → mV σ4 y k = mV σ y k := fun y k a1 a2 a3 => (f4.2.2.1 y k a1 a2 a3).trans (f1.2.2 y k a2)
        exact ⟨fun j hj => (v _ _ (by decide) (by decide) (by omega)).trans (t1 j hj), (k _ (by decide)).trans t2, (v _ _ (by decide) (by decide) (by decide)).trans t3, ⟨(k _ (by decide)).trans t4, (k _ (by decide)).trans t5, (k _ (by decide)).trans t6⟩, ⟨t7.1.cg (k _ (by decide)) (k _ (by decide)), t7.2.1.cg (k _ (by decide)) (k _ (by decide)), (v _ _ (by decide) (by decide) (by decide)).trans t7.2.2.1, (v _ _ (by decide) (by decide) (by decide)).trans t7.2.2.2⟩, t8⟩
      refine ft_134 hS hU4 (by omega) (pkL_ok ti1.1.2.2.2) bkE.pk hb hF4 hP6 hh (fun σ5 f5 x1 x2 x3 j5 => ?_)
      have xm : (txX H S P hg (pkL s1.2.1)).length ≤ (pkL s1.2.1).length ∧ ∀ x ∈ txX H S P hg (pkL s1.2.1), x.1 < x.2.1 ∧ x.2.1 ≤ (pkL s1.2.1).length ∧ x.2.1 - x.1 ≤ 80 := by
        have r1 : rmO (S.getD 0 0) (P.length : Int) = max 4 (S.getD 0 0 - (P.length : Int)) := rfl
        have r2 : rmO (S.getD 0 0) hg = max 4 (S.getD 0 0 - hg) := rfl
        have s0 := hS.1
        exact liX_m (by omega) (by omega)
      have k5 : ∀ q, q ≠ 112 → q ≠ 114 → q ≠ 116 → q ≠ 120 → q ≠ 122 → q ≠ 124 → mX σ5 q = mX σ4 q := f5.1
      have hU5 : mX σ5 87 = pkL s1.2.1 := (k5 87 (by decide) (by decide) (by decide) (by decide) (by decide) (by decide)).trans hU4
      have hB5 : mB σ5 0 = z := by rw [show mB σ5 = mB σ4 from congrArg Prod.fst f5.2.1]; exact b4
      have hG5 : GaC σ5 ((s1.1.1, s1.1.2.1), b.2.1) [] := hG4.fr (fun q hq => k5 q (by omega) (by omega) (by omega) (by omega) (by omega) (by omega)) (fun k _ => f5.2.2 _ _ (by decide) (by omega))
      have w16 : mV σ5 127 16 = o := (f5.2.2 _ _ (by decide) (by decide)).trans ((f4.2.2.1 _ _ (by decide) (by decide) (by decide)).trans ((f1.2.2 _ _ (by decide)).trans h16))
      have pr5 : PrC σ5 87 0 (pkL s1.2.1) P hg (S.getD 2 0) (S.getD 0 0) o (txX H S P hg (pkL s1.2.1)) := ⟨LnC.w (by decide) hU5 (by omega), x1, x2, x3, (k5 118 (by decide) (by decide) (by decide) (by decide) (by decide) (by decide)).trans hF4.2.1, (f5.2.2 _ _ (by decide) (by decide)).trans (hF4.1 0 (by decide)), (f5.2.2 _ _ (by decide) (by decide)).trans hF4.2.2.1, j5, w16⟩
      have wge : (tx0 b.1).1.1 ≤ s1.1.1 := (plc_wk s1 w4).1
      have wge : b.1.1.1 ≤ s1.1.1 := wge
      have gb5 : GB9 (-45) ((s1.1.1, s1.1.2.1), b.2.1) := by
        obtain ⟨g1, g2, g3, g4, g5⟩ := hGB
        have g4 : ((suM (b.2.1.1.map (·.1)) : Nat) : Int) + 20 * b.2.1.1.length ≤ b.1.1.1 := g4
        have g5 : 45 * (b.2.1.2.length : Int) ≤ 3 * b.1.1.1 + 75 * b.2.1.1.length + (-45) := g5
        refine ⟨ti1.1.1, ti1.1.2.1, g3, ?_, ?_⟩
        · show ((suM (b.2.1.1.map (·.1)) : Nat) : Int) + 20 * b.2.1.1.length ≤ s1.1.1
          omega
        · show 45 * (b.2.1.2.length : Int) ≤ 3 * s1.1.1 + 75 * b.2.1.1.length + (-45)
          omega
      have z5 : ∀ q, z ≤ q → q ≤ z + 36 → mX σ5 q = mX σ4 q := fun q a c => k5 q (by omega) (by omega) (by omega) (by omega) (by omega) (by omega)
      have rgv : ∀ {V : List Int}, PlV V → ∀ v ∈ V, Rg v := fun h v hv => by
        have := h v hv
        unfold Rg
        omega
      have tl : s1.2.2.2.1.2.2.length = s1.2.2.2.1.1.length := ti1.2.2.1.2.1
      have tk : s1.2.2.2.2.1.2.length = s1.2.2.2.2.1.1.length := ti1.2.2.2.1.1
      have tn : s1.2.2.2.2.2.1.2.1.length = s1.2.2.2.2.2.1.1.length := ti1.2.2.2.2.1.1
      have t6l : s1.2.2.2.1.1.length ≤ 60 := ti1.2.2.1.2.2.1
      have t6k : s1.2.2.2.2.1.1.length ≤ 100 := ti1.2.2.2.1.2.1
      have grow := gr_wk s1 w4
      refine ft_257 (l0 := b.1.2.2.2.1.1.length) (k0 := b.1.2.2.2.2.1.1.length) hS hz hB5 hU5 (by omega) xm.1 xm.2 hP6 hh ho pr5 ((f5.2.2 _ _ (by decide) (by decide)).trans (hF4.1 7 (by decide))) hG5 gb5 ((f5.2.2 _ _ (by decide) (by decide)).trans hbg4) hsp ((z5 _ (by omega) (by omega)).trans km4.1.2.2) ((z5 _ (by omega) (by omega)).trans km4.2.1.2) ⟨by omega, by rw [tl]; exact grow.1⟩ (rgv pl1.2.1) ⟨by omega, by rw [tk]; exact grow.2.1⟩ (rgv pl1.2.2.1) ⟨(k5 105 (by decide) (by decide) (by decide) (by decide) (by decide) (by decide)).trans km4.2.2.1.2.1.1, (k5 107 (by decide) (by decide) (by decide) (by decide) (by decide) (by decide)).trans km4.2.2.1.2.1.2⟩ ((k5 109 (by decide) (by decide) (by decide) (by decide) (by decide) (by decide)).trans km4.2.2.1.2.2) (by rw [List.length_map]; exact tn) (rgv pl1.2.2.2) ((k5 140 (by decide) (by decide) (by decide) (by decide) (by decide) (by decide)).trans hA4) ?_ (fun G1 σ6 q1 q2 q3 q4 q5 q6 q7 => ?_) (fun e σ6 q1 q2 q3 => ?_)
      · have h9 := ti1.2.2.2.2.1.2.2.1
        have hg3 : (s1.2.2.2.2.2.1.1.length : Int) - ((0 : Nat) : Int) = s1.2.2.2.2.2.1.2.2 - b.1.2.2.2.2.2.1.2.2 := grow.2.2
        omega
      · have f06 := (f04.tr (FrTx.fx hz' f5)).tr (FrTx.f7 hz hz' hne q3)
        have k6 : ∀ q, q ∉ F7X z → mX σ6 q = mX σ5 q := q3.1
        have n6 : ∀ q, z ≤ q → q ≤ z + 36 → q ≠ z + 11 → q ≠ z + 29 → mX σ6 q = mX σ4 q := fun q a c d e => (k6 q (by
          unfold F7X
          simp only [List.mem_cons, List.not_mem_nil, or_false]
          omega)).trans (z5 q a c)
        have m6 : ∀ q, q < 49 ∨ (86 ≤ q ∧ q < 112) → mX σ6 q = mX σ4 q := fun q a => (k6 q (by
          unfold F7X
          simp only [List.mem_cons, List.not_mem_nil, or_false]
          omega)).trans (k5 q (by omega) (by omega) (by omega) (by omega) (by omega) (by omega))
        have v6 : ∀ y k, (y = 49 ∨ y = 163) → mV σ6 y k = mV σ4 y k := fun y k a => (q3.2.2 y k (by omega) (by omega)).trans (f5.2.2 y k (by omega) (by omega))
        have sh : ∀ {y : Nat} {R : List (List Int)}, shR σ4 y R → (y = z + 1 ∨ y = z + 6 ∨ y = z + 24) → shR σ6 y R := fun h a => ⟨(n6 _ (by omega) (by omega) (by omega) (by omega)).trans h.1, (n6 _ (by omega) (by omega) (by omega) (by omega)).trans h.2⟩
        have eB6 : mB σ6 = mB σ4 := congrArg Prod.fst (q3.2.1.trans f5.2.1)
        have rd : RdC σ6 E z z' (txM s1 G1.1 b.1.2.2.2.1.1.length b.1.2.2.2.2.1.1.length (crF (foP (pkL s1.2.1)) (flS b sp).length (txX H S P hg (pkL s1.2.1)))) := by
          refine ⟨⟨q2.2.2.2.2.2.1, q2.2.2.2.2.2.2⟩, ⟨by rw [eB6]; exact b4, ⟨by rw [eB6]; exact kz4.1, by rw [eB6]; exact kz4.2.1, kz4.2.2⟩, hne⟩, kc4.cg (m6 _ (by omega)) (m6 _ (by omega)) (m6 _ (by omega)), ⟨⟨sh km4.1.1 (by omega), sh km4.1.2.1 (by omega), q5⟩, ⟨sh km4.2.1.1 (by omega), q6⟩, (v6 _ _ hz).trans km4.2.2.1.1, (v6 _ _ hz).trans km4.2.2.2.1, (n6 _ (by omega) (by omega) (by omega) (by omega)).trans km4.2.2.2.2⟩, kb4.cg hz' (fun q a c => ?_) (v6 _ _ hz') (v6 _ _ hz'), ku4.cg (fun q a c => m6 q (by omega))⟩
          exact (k6 q (by
            unfold F7X
            simp only [List.mem_cons, List.not_mem_nil, or_false]
            omega)).trans (k5 q (by omega) (by omega) (by omega) (by omega) (by omega) (by omega))
        exact h4 s1 G1 σ6 w4 hno hne2 q1 rd q2 ⟨(m6 105 (by omega)).trans km4.2.2.1.2.1.1, (m6 107 (by omega)).trans km4.2.2.1.2.1.2⟩ q7 q4 f06
      · refine hn e σ6 ((eD _).mpr ?_) q2 ((f04.tr (FrTx.fx hz' f5)).tr (FrTx.f7 hz hz' hne q3))
        rw [if_neg hno, if_neg hne2]
        unfold txF
        show (match gAll o true _ ((s1.1.1, s1.1.2.1), b.2.1.1, b.2.1.2 ++ (if b.2.2.2 = true then List.replicate sp.toNat (-2) else [])) with
          | .inr e => (Sum.inr e : BK9 ⊕ (Int × Int × Int))
          | .inl G1 => _) = _
        rw [q1]
    refine Setter_fillText_112.i ?_
    rw [hU4]
    refine ⟨fun h9 => s134 (fun h => h9 (by rw [h.1]; rfl)), fun h9 => ⟨by cases item <;> decide, fun h8 => s134 (fun h => h8 (by rw [h.2]; rfl)), fun h8 => ?_⟩⟩
    exact h3 s1 σ4 w4 hno (List.eq_nil_of_length_eq_zero (by omega)) (bZ_z h8) hRd4 hG4 km4.2.2.1.2.1 hA4 hbg4 f04
  have s85 : ∀ s0 : Int, s0 = bZ (mkd b.1 s1) → Setter_fillText_85 sp (bZ item) ((b.1.2.2.2.1.1.length : Nat) : Int) ((b.1.2.2.2.2.1.1.length : Nat) : Int) s0 σ4 Q := fun s0 hs0 => by
    rw [hs0]
    refine Setter_fillText_85.i ⟨fun h9 => s112 (fun h => by rw [bZ_z h9] at h; exact absurd h.1 (by decide)), fun h9 => Texts_firstSolid.c hU4 (by omega) ⟨fun h8 => s112 (fun h => h8 h.2), fun h8 => ?_⟩⟩
    refine Purse_fail.g (by decide) c4.1.1 c4.1.2.1 (fun hx => hn _ _ ((eD _).mpr (if_pos ⟨bZ_ne h9, h8⟩)) hx (f04.tr ⟨fun _ _ _ => rfl, fun _ _ _ => rfl, rfl, fun y k a1 _ _ _ _ _ => wV_ne (Or.inl a1)⟩))
  show tB (isMarks (mB σ4 0)) (tB (isShelf (mB σ4 0 + 1)) (Shelf_rows (mB σ4 0 + 1) σ4 _))
  rw [b4]
  refine tB.i mkz.1 (tB.i mkz.2.1 (Shelf_rows.i (tB.i mkz.2.1 (tB.i mkz.2.2.2.1 ?_))))
  show (((b.1.2.2.2.1.1.length : Nat) : Int) < (((mX σ4 (z + 1 + 3)).length : Nat) : Int) → _) ∧ ((((mX σ4 (z + 1 + 3)).length : Nat) : Int) ≤ ((b.1.2.2.2.1.1.length : Nat) : Int) → _)
  rw [la4]
  refine ⟨fun h9 => Setter_fillText_80.i (s85 1 ?_), fun h9 => ?_⟩
  · unfold mkd
    rw [decide_eq_true (Or.inl (by omega))]
    rfl
  · rw [b4]
    refine tB.i mkz.1 (tB.i mkz.2.2.1 (Shelf_rows.i (tB.i mkz.2.2.1 (tB.i mkz.2.2.2.2 ?_))))
    show ((((mX σ4 (z + 24 + 3)).length : Nat) : Int) ≤ ((b.1.2.2.2.2.1.1.length : Nat) : Int) → _) ∧ (((b.1.2.2.2.2.1.1.length : Nat) : Int) < (((mX σ4 (z + 24 + 3)).length : Nat) : Int) → _)
    rw [lk4]
    refine ⟨fun h8 => s85 0 ?_, fun h8 => Setter_fillText_80.i (s85 1 ?_)⟩
    · unfold mkd
      rw [decide_eq_false (by omega)]
      rfl
    · unfold mkd
      rw [decide_eq_true (Or.inr (by omega))]
      rfl
end
