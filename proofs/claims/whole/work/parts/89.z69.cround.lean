/-! A ROUND: the class, headings and directives -/
section
variable {σ σ0 : MS} {Q : MQ9} {z z' c i : Nat} {M : List Int} {B : BF9} {jo : Bool} {d : RD9} {E : TE} {b : BK9}
/-- a heading, the class -/
theorem blc_2 (hi : i < (mlL M).length) (hk : kdL M i = 2) (hM4 : M.length ≤ 4000) (hMb : smB M) (hB : BfI B) (h : RDI d i) (h15 : ¬ (60000 < d.1.1.1.1 + 15 ∨ 400000 < d.1.1.1.2.1 + 15)) (hC : CdC σ M B z z' jo c (b15 d.1, d.2)) (h16 : mV σ 127 16 = (i : Int) + 1) {N : MS → Prop} (hy : ∀ d' σ', heaD B M i (b15 d.1, d.2) = .inl d' → CdC σ' M B z z' false c d' → FrRC σ σ' → mV σ' 127 16 = (i : Int) + 1 → N σ') (hn : ∀ x σ', heaD B M i (b15 d.1, d.2) = .inr x → TxF σ' x.2 → RuC σ' x.1 c → FrRC σ σ' → mV σ' 127 16 = (i : Int) + 1 → Q (.inr (exN 0)) σ') : Setter_heading (i : Int) σ (kV (thQ Q) fun σ4 => N σ4) := by
  have bn := bnE_l hi
  have ml4 : (mlL M).length ≤ 4000 := Nat.le_trans (mlF_l (T := M) M.length 0) hM4
  obtain ⟨r0, ti, gb⟩ := h.1.sp (by omega) (by omega)
  obtain ⟨⟨m1, m2⟩, k1, h1, r1, ⟨n1, cn, cl, ch, cb, -⟩, bb, t1, i1⟩ := hC
  have hz : z = 49 ∨ z = 163 := k1.1.2.1.2.1.2.2.1
  have hz' : z' = 49 ∨ z' = 163 := k1.1.2.1.2.1.2.2.2.1
  have hne : z ≠ z' := k1.1.2.1.2.2
  have r1' : RuC σ d.2.2.1 c := r1
  have tb := h.tb (P := []) (hg := 0) (o := (i : Int) + 1) hB h15 (by decide) (by decide) (by unfold Rg; omega)
  have lv := lv_b (ki_2 hk)
  have lvb : 1 ≤ lvL (lnU M i) ∧ lvL (lnU M i) ≤ 3 := ⟨lv.1, lv.2.1⟩
  have lU : (lnU M i).length ≤ ((mlL M).getD i (0, 0)).2 - ((mlL M).getD i (0, 0)).1 := by
    unfold lnU sgT
    exact List.length_take_le _ _
  have lv4 : rnW 61 (lnU M i) < (lnU M i).length := lv.2.2.2.1
  have lv3 : lvL (lnU M i) = (rnW 61 (lnU M i) : Int) := lv.2.2.1
  have tl : (tpT (sgT M (((mlL M).getD i (0, 0)).1 + ((lvL (lnU M i)).toNat + 1)) ((mlL M).getD i (0, 0)).2)).length ≤ 8000 := by
    rw [tpT_len]
    have := sgT_ll (M := M) (a := ((mlL M).getD i (0, 0)).1 + ((lvL (lnU M i)).toNat + 1)) (e := ((mlL M).getD i (0, 0)).2)
    omega
  have fr : ∀ σ1, FrHd z σ σ1 → FrRC σ σ1 ∧ RuC σ1 d.2.2.1 c ∧ mV σ1 127 16 = (i : Int) + 1 := fun σ1 f => ⟨⟨fun q a => f.1 q (by
    unfold TXX
    simp only [List.mem_cons, List.not_mem_nil, or_false]
    omega) (by
    unfold HdX HcX
    simp only [List.mem_append, List.mem_cons, List.not_mem_nil, or_false]
    omega), f.2.1, fun y k a => f.2.2.1 y k (by omega) (by omega) (by omega) (by omega) (by omega) (by omega) (by omega)⟩, r1'.cg (Nat.le_refl _) (fun q hq _ _ => f.1 q (by
    unfold FOX at hq
    unfold TXX
    simp only [List.mem_cons, List.not_mem_nil, or_false] at hq ⊢
    omega) (by
    unfold FOX at hq
    unfold HdX HcX
    simp only [List.mem_append, List.mem_cons, List.not_mem_nil, or_false] at hq ⊢
    omega)) (fun k => f.2.2.1 24 k (by decide) (by decide) (by decide) (by decide) (by omega) (by omega) (by omega)), (f.2.2.1 127 16 (by decide) (by decide) (by decide) (by decide) (by decide) (by decide) (by decide)).trans h16⟩
  refine Setter_heading.c (l := (lvL (lnU M i)).toNat) (o := (i : Int) + 1) (S := d.2.2.1.1) (H := rdH d.2.2.1) (E := rdE B d.2.2.1 d.2.2.2.2.2) (z := z) (z' := z') (b := b15 d.1) (g := d.2.1) (nu := d.2.2.2.1) (Lt := hgJ (hgN d.2.2.2.1 (lvL (lnU M i)).toNat) (lvL (lnU M i)).toNat) m1 hM4 m2 hi (by show lvL (lnU M i) = _; omega) (by omega) (by omega) rfl (tpT_sm9 hMb.sg9) tl tb ti r0.2.2.2.2.2.2.1 r1'.1 r1'.hy k1 h16 h1 n1 h.2.2.1.1 h.2.2.1.2 rfl (fun b' g' σ1 w1 w2 w3 w4 w5 => ?_) (fun e σ1 w1 w2 w3 => ?_)
  · obtain ⟨g1, g2, g3⟩ := fr σ1 w5
    have xo : ∀ q, q < 49 ∨ (200 ≤ q ∧ q ≠ 206) → mX σ1 q = mX σ q := fun q a => w5.1 q (by
      unfold TXX
      simp only [List.mem_cons, List.not_mem_nil, or_false]
      omega) (by
      unfold HdX HcX
      simp only [List.mem_append, List.mem_cons, List.not_mem_nil, or_false]
      omega)
    have xz : ∀ q, z' ≤ q → q ≤ z' + 36 → mX σ1 q = mX σ q := fun q a b => w5.2.2.2 q (by omega) (by omega)
    obtain ⟨l1', l2', l3'⟩ := m2
    obtain ⟨⟨a1, a2⟩, a3, a4⟩ := t1
    obtain ⟨⟨a5, a6⟩, a7⟩ := i1
    refine hy (b', g', d.2.2.1, hgN d.2.2.2.1 (lvL (lnU M i)).toNat, d.2.2.2.2.1, hgJ (hgN d.2.2.2.1 (lvL (lnU M i)).toNat) (lvL (lnU M i)).toNat) σ1 (by unfold heaD; rw [w1]) ⟨⟨(xo _ (by omega)).trans m1, (xo _ (by omega)).trans l1', (xo _ (by omega)).trans l2', (xo _ (by omega)).trans l3'⟩, w2, w3, g2, ⟨w4, cn, cl, fun k hk => (w5.2.2.1 211 k (by decide) (by decide) (by decide) (by decide) (by omega) (by omega) (by omega)).trans (ch k hk), cb, fun e => absurd e (by decide)⟩, by rw [show mB σ1 = mB σ from congrArg Prod.fst w5.2.1]; exact bb, ⟨⟨(xz _ (by omega) (by omega)).trans a1, (xz _ (by omega) (by omega)).trans a2⟩, (xz _ (by omega) (by omega)).trans a3, (xz _ (by omega) (by omega)).trans a4⟩, ⟨⟨(xz _ (by omega) (by omega)).trans a5, (xz _ (by omega) (by omega)).trans a6⟩, (xz _ (by omega) (by omega)).trans a7⟩⟩ g1 g3
  · obtain ⟨g1, g2, g3⟩ := fr σ1 w3
    exact hn (d.2.2.1, e) σ1 (by unfold heaD; rw [w1]) w2 g2 g1 g3
/-- a directive's rules have been told -/
theorem BkC.fo {σ1 : MS} {s : TS} {Mc : TMc} (h : BkC σ E z z' b) (f : FrFo σ σ1) (hs : s.2 = b.1.2) (w0 : mV σ1 22 0 = s.1.1) (w1 : mV σ1 22 1 = s.1.2.1) (hU : KU σ1 (Mc, E.2)) : BkC σ1 (Mc, E.2) z z' (s, b.2) := by
  obtain ⟨k1, k2, k3, k4, k5, k6⟩ := h
  obtain ⟨-, ⟨r3, r4, r5⟩, r6, ⟨⟨m1, m2, m3⟩, ⟨m4, m5⟩, m6, m7, m8⟩, r7, -⟩ := k1
  have hz := r4.2.2.1
  have hz' := r4.2.2.2.1
  have nx : ∀ q, (49 ≤ q ∧ q ≠ 87 ∧ q ≠ 89) → mX σ1 q = mX σ q := fun q a => f.1 q (by
    unfold FOX
    simp only [List.mem_cons, List.not_mem_nil, or_false]
    omega)
  have v : ∀ y k, y = 49 ∨ y = 163 ∨ y = 128 → mV σ1 y k = mV σ y k := fun y k a => f.2.2 y k (by omega) (by omega) (by omega)
  have eB : mB σ1 = mB σ := congrArg Prod.fst f.2.1
  obtain ⟨sw, sr⟩ := s
  have hs : sr = b.1.2 := hs
  subst hs
  have sh : ∀ {y : Nat} {R : List (List Int)}, shR σ y R → (z ≤ y ∧ y + 3 ≤ z + 36) → shR σ1 y R := fun h a => ⟨(nx _ (by omega)).trans h.1, (nx _ (by omega)).trans h.2⟩
  refine ⟨⟨⟨w0, w1⟩, ⟨by rw [eB]; exact r3, ⟨by rw [eB]; exact r4.1, by rw [eB]; exact r4.2.1, r4.2.2⟩, r5⟩, ?_, ⟨⟨sh m1 (by omega), sh m2 (by omega), (nx _ (by omega)).trans m3⟩, ⟨sh m4 (by omega), (nx _ (by omega)).trans m5⟩, (v _ _ (by omega)).trans m6, (v _ _ (by omega)).trans m7, (nx _ (by omega)).trans m8⟩, KB.cg (E := (Mc, E.2)) hz' r7 (fun q a c => nx q (by omega)) (v _ _ (by omega)) (v _ _ (by omega)), hU⟩, ?_, (nx _ (by omega)).trans k3, (nx _ (by omega)).trans k4, (nx _ (by omega)).trans k5, (v 128 10 (by omega)).trans k6⟩
  · exact KC.cg (s := (sw, b.1.2)) r6 (nx _ (by omega)) (nx _ (by omega)) (nx _ (by omega))
  · obtain ⟨g1, g2, g3, g4, g5, -, -⟩ := k2
    exact ⟨(nx _ (by omega)).trans g1, (nx _ (by omega)).trans g2, (nx _ (by omega)).trans g3, (nx _ (by omega)).trans g4, (nx _ (by omega)).trans g5, w0, w1⟩
theorem lnU_l (hi : i < (mlL M).length) : (lnU M i).length = ((mlL M).getD i (0, 0)).2 - ((mlL M).getD i (0, 0)).1 ∧ ((mlL M).getD i (0, 0)).1 ≤ ((mlL M).getD i (0, 0)).2 ∧ ((mlL M).getD i (0, 0)).2 ≤ M.length := by
  have p := (ml_p (T := M) hi).1
  exact ⟨sgT_l p.2.1, p.1, p.2.1⟩
/-- a directive, the class -/
theorem blc_1 (hi : i < (mlL M).length) (hM4 : M.length ≤ 4000) (hMb : smB M) (hB : BfI B) (hc : c ≤ ((mlL M).getD i (0, 0)).1) (h : RDI d i) (h15 : ¬ (60000 < d.1.1.1.1 + 15 ∨ 400000 < d.1.1.1.2.1 + 15)) (hC : CdC σ M B z z' jo c (b15 d.1, d.2)) (h16 : mV σ 127 16 = (i : Int) + 1) {N : MS → Prop} (hy : ∀ d' σ', dirD B M i (b15 d.1, d.2) = .inl d' → CdC σ' M B z z' false (c + (lnU M i).length + 1) d' → FrRC σ σ' → mV σ' 127 16 = (i : Int) + 1 → N σ') (hn : ∀ x σ', dirD B M i (b15 d.1, d.2) = .inr x → TxF σ' x.2 → RuC σ' x.1 (c + (lnU M i).length + 1) → FrRC σ σ' → mV σ' 127 16 = (i : Int) + 1 → Q (.inr (exN 0)) σ') : Rules_follow 3 (rgt (mX σ 200) (i : Int)) (rgt (mX σ 202) (i : Int)) σ (kI (thQ Q) fun r1 σ1 => ((¬ r1 = 1 → ((¬ r1 = 2 → ((¬ r1 = 3 → N σ1) ∧ (r1 = 3 → (mX σ1 138).length < 8192 ∧ N (wX σ1 138 (mX σ1 138 ++ [(-3)]))))) ∧ (r1 = 2 → Setter_index σ1 (kV (thQ Q) fun σ2 => N σ2)))) ∧ (r1 = 1 → Setter_contents σ1 (kV (thQ Q) fun σ3 => N σ3)))) := by
  have ml4 : (mlL M).length ≤ 4000 := Nat.le_trans (mlF_l (T := M) M.length 0) hM4
  obtain ⟨lu, le1, le2⟩ := lnU_l hi
  obtain ⟨r0, ti, gb⟩ := h.1.sp (by omega) (by omega)
  have hC0 := hC
  obtain ⟨⟨m1, m2⟩, k1, h1, r1, ⟨n1, cn, cl, ch, cb, -⟩, bb, t1, i1⟩ := hC
  have hz : z = 49 ∨ z = 163 := k1.1.2.1.2.1.2.2.1
  have hz' : z' = 49 ∨ z' = 163 := k1.1.2.1.2.1.2.2.2.1
  have hne : z ≠ z' := k1.1.2.1.2.2
  have r1' : RuC σ d.2.2.1 c := r1
  have e1 : rgt (mX σ 200) (i : Int) = (((mlL M).getD i (0, 0)).1 : Int) := mlA_at hi _ m2.1
  have e2 : rgt (mX σ 202) (i : Int) = ((((mlL M).getD i (0, 0)).1 + (lnU M i).length : Nat) : Int) := by
    rw [mlA_at hi _ m2.2.1]
    omega
  have ln : LnC σ 3 ((mlL M).getD i (0, 0)).1 (lnU M i) := by
    have := (LnC.w (q := 3) (by decide) m1 (by omega)).sg le1 le2
    rw [Nat.zero_add] at this
    exact this
  rw [e1, e2]
  have w0 : mV σ 22 0 = (b15 d.1).1.1.1 := k1.1.1.1
  have w1 : mV σ 22 1 = (b15 d.1).1.1.2.1 := k1.1.1.2
  have tf : ∀ σ1, FrFo σ σ1 → FrRC σ σ1 ∧ mV σ1 127 16 = (i : Int) + 1 := fun σ1 f => ⟨⟨fun q a => f.1 q (by
    unfold FOX
    simp only [List.mem_cons, List.not_mem_nil, or_false]
    omega), f.2.1, fun y k a => f.2.2 y k (by omega) (by omega) (by omega)⟩, (f.2.2 127 16 (by decide) (by decide) (by decide)).trans h16⟩
  refine Rules_follow.c (R := d.2.2.1) (s := (b15 d.1).1) (c := c) ln hMb.sg9 (by omega) (by decide) h.2.1 r1' (by omega) w0 w1 ti.1.1 ti.1.2.1 (fun R' s' σ1 x1 x2 x3 x4 f1 => ?_) (fun R' e σ1 x1 x2 x3 f1 => ?_)
  · have u := drD_u.1 _ x1
    have u : WkU (b15 d.1).1 s' := u
    have ru := (drD_ok (T := lnU M i) hMb.sg9 (by omega) h.2.1).1 _ x1
    have ru : RuI R' := ru
    obtain ⟨fr1, h161⟩ := tf σ1 f1
    have k2 : BkC σ1 (rdE B R' d.2.2.2.2.2) z z' (s', d.1.2) := k1.fo f1 u.1 x3 x4 (KUc.ku (E := (R'.2.1, (rdE B d.2.2.1 d.2.2.2.2.2).2)) x2.2.1 (by omega))
    have xo : ∀ q, q ∉ FOX → mX σ1 q = mX σ q := f1.1
    have xa : ∀ q, q = 3 ∨ (49 ≤ q ∧ q ≠ 87 ∧ q ≠ 89) → mX σ1 q = mX σ q := fun q a => xo q (by
      unfold FOX
      simp only [List.mem_cons, List.not_mem_nil, or_false]
      omega)
    have v1 : ∀ y k, y ≠ 22 → y ≠ 24 → y ≠ 86 → mV σ1 y k = mV σ y k := fun y k a b c => f1.2.2 y k a b (by omega)
    have eB : mB σ1 = mB σ := congrArg Prod.fst f1.2.1
    -- the state behind the directive's word
    have C1 : CdC σ1 M B z z' false (c + (lnU M i).length + 1) ((s', d.1.2), d.2.1, R', d.2.2.2) := by
      obtain ⟨⟨a1, a2⟩, a3, a4⟩ := t1
      obtain ⟨⟨a5, a6⟩, a7⟩ := i1
      obtain ⟨⟨a8, a9⟩, a10, a11, a12⟩ := h1
      obtain ⟨l1', l2', l3'⟩ := m2
      exact ⟨⟨(xa _ (by omega)).trans m1, (xa _ (by omega)).trans l1', (xa _ (by omega)).trans l2', (xa _ (by omega)).trans l3'⟩, k2, ⟨⟨(xa _ (by omega)).trans a8, (xa _ (by omega)).trans a9⟩, (xa _ (by omega)).trans a10, (xa _ (by omega)).trans a11, (xa _ (by omega)).trans a12⟩, x2, ⟨fun k hk => (v1 210 k (by decide) (by decide) (by decide)).trans (n1 k hk), cn, cl, fun k hk => (v1 211 k (by decide) (by decide) (by decide)).trans (ch k hk), cb, fun e => absurd e (by decide)⟩, by rw [eB]; exact bb, ⟨⟨(xa _ (by omega)).trans a1, (xa _ (by omega)).trans a2⟩, (xa _ (by omega)).trans a3, (xa _ (by omega)).trans a4⟩, ⟨⟨(xa _ (by omega)).trans a5, (xa _ (by omega)).trans a6⟩, (xa _ (by omega)).trans a7⟩⟩
    have gb1 : GB9 (-45) (bkG (s', d.1.2)) := GB9.up (b := b15 d.1) (s := s') gb (Int.le_refl _) ⟨u.2.2.1, u.2.2.2.2.1 gb.1.2⟩ ⟨by
      have := u.2.2.2.1
      have : 0 ≤ (b15 d.1).1.1.2.1 := gb.2.1.1
      omega, u.2.2.2.2.2 gb.2.1.2⟩
    have eD : ∀ r, dirD B M i (b15 d.1, d.2) = r ↔ diD B M i ((s', d.1.2), d.2.1, R', d.2.2.2) = r := fun r => by
      unfold dirD
      rw [show drD (lnU M i) (b15 d.1, d.2).2.2.1 (b15 d.1, d.2).1.1 = .inl (R', s') from x1]
      exact Iff.rfl
    have kb : mV σ1 z' 14 = B.1.2.2.2.1 ∧ mV σ1 z' 15 = B.1.2.2.2.2 := ⟨k2.1.2.2.2.2.1.2.2.2.1, k2.1.2.2.2.2.1.2.2.2.2⟩
    have bnd := hB.1
    show (¬ drT (lnU M i) = 1 → _) ∧ (drT (lnU M i) = 1 → _)
    refine ⟨fun c1 => ⟨fun c2 => ⟨fun c3 => ?_, fun c3 => ?_⟩, fun c2 => ?_⟩, fun c1 => ?_⟩
    · exact hy _ σ1 ((eD _).mpr (by unfold diD; rw [if_neg c1, if_neg c2, if_neg c3])) C1 fr1 h161
    · have g138 : mX σ1 138 = d.1.2.1.2 := k2.2.1.2.2.2.2.1
      have lf : d.1.2.1.2.length ≤ 6600 := GB9.fl gb1 (by decide)
      refine ⟨by rw [g138]; omega, hy (cuB (s', d.1.2), d.2.1, R', d.2.2.2) _ ((eD _).mpr (by unfold diD; rw [if_neg c1, if_neg c2, if_pos c3])) ?_ (fr1.tr ⟨fun q a => wX_ne (by omega), rfl, fun _ _ _ => rfl⟩) h161⟩
      have f2 : FrBc z z' σ1 (wX σ1 138 (mX σ1 138 ++ [-3])) := ⟨fun q a => wX_ne (by omega), rfl, fun _ _ _ => rfl⟩
      refine C1.nx hz hz' f2 ?_
      obtain ⟨a1, a2, a3, a4, a5, a6⟩ := k2
      refine ⟨RdC.g3 (w := (s'.1.1, s'.1.2.1)) a1 (fun q a _ _ => wX_ne (by omega)) rfl (fun _ _ _ => rfl) a1.1.1 a1.1.2, ?_, (wX_ne (by decide)).trans a3, (wX_ne (by decide)).trans a4, (wX_ne (by decide)).trans a5, a6⟩
      obtain ⟨g1, g2, g3, g4, g5, g6, g7⟩ := a2
      exact ⟨(wX_ne (by decide)).trans g1, (wX_ne (by decide)).trans g2, (wX_ne (by decide)).trans g3, (wX_ne (by decide)).trans g4, by rw [wX_self, g5]; rfl, g6, g7⟩
    · refine Setter_index.c (S := R'.1) (H := rdH R') (K := B.2.2.1) (P := B.2.2.2) (f := B.1.2.2.2.1) (s := B.1.2.2.2.2) (o := (i : Int) + 1) (E := rdE B R' d.2.2.2.2.2) (z := z) (z' := z') (b := (s', d.1.2)) ru.st (by unfold Rg; omega) hB.2.2.1 bnd.2.2.2.2.2.2.1 (fun h9 => hB.2.2.2 (Or.inr h9)) ru.hb ⟨C1.2.2.2.2.2.1, C1.2.2.2.2.2.2.2, kb, x2.hy, x2.1, h161⟩ k2 gb1 (fun b' σ2 y1 y2 y3 => ?_) (fun e σ2 y1 y2 y3 => ?_)
      · have f2 := FrBc.ix hz hz' hne y3
        exact hy (b', d.2.1, R', d.2.2.2) σ2 ((eD _).mpr (by unfold diD upB; rw [if_neg c1, if_pos c2, y1])) (C1.nx hz hz' f2 y2) (fr1.tr f2.ro) ((f2.2.2 127 16 (by omega)).trans h161)
      · have f2 := FrBc.ix hz hz' hne y3
        exact hn (R', e) σ2 ((eD _).mpr (by unfold diD upB; rw [if_neg c1, if_pos c2, y1])) y2 (x2.bc f2) (fr1.tr f2.ro) ((f2.2.2 127 16 (by omega)).trans h161)
    · refine Setter_contents.c (S := R'.1) (B := B.2.1) (f := B.1.2.2.2.1) (s := B.1.2.2.2.2) (o := (i : Int) + 1) (E := rdE B R' d.2.2.2.2.2) (z := z) (z' := z') (b := (s', d.1.2)) ru.st (by unfold Rg; omega) hB.2.1 bnd.2.2.2.2.2.2.1 (fun h9 => hB.2.2.2 (Or.inl h9)) x2.1 h161 C1.2.2.2.2.2.1 C1.2.2.2.2.2.2.1 kb.1 kb.2 k2 gb1 (fun b' σ2 y1 y2 y3 => ?_) (fun e σ2 y1 y2 y3 => ?_)
      · have f2 := FrBc.ix hz hz' hne y3
        exact hy (b', d.2.1, R', d.2.2.2) σ2 ((eD _).mpr (by unfold diD upB; rw [if_pos c1, y1])) (C1.nx hz hz' f2 y2) (fr1.tr f2.ro) ((f2.2.2 127 16 (by omega)).trans h161)
      · have f2 := FrBc.ix hz hz' hne y3
        exact hn (R', e) σ2 ((eD _).mpr (by unfold diD upB; rw [if_pos c1, y1])) y2 (x2.bc f2) (fr1.tr f2.ro) ((f2.2.2 127 16 (by omega)).trans h161)
  · obtain ⟨fr1, h161⟩ := tf σ1 f1
    refine hn (R', e) σ1 ?_ x3 x2 fr1 h161
    unfold dirD
    rw [show drD (lnU M i) (b15 d.1, d.2).2.2.1 (b15 d.1, d.2).1.1 = .inr (R', e) from x1]
end
