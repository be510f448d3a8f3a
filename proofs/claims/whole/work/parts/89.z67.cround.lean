/-! A ROUND: the class, block by block -/
/-- what blocks leave: the manuscript, the rules, headings, the round before -/
def FrBc (z z' : Nat) (σ σ' : MS) : Prop := (∀ q, q < 49 ∨ q = 146 ∨ q = 148 ∨ (200 ≤ q ∧ q ≠ 206 ∧ q ≠ 208) ∨ (z' ≤ q ∧ q ≤ z' + 30) ∨ (z + 13 ≤ q ∧ q ≤ z + 22) → mX σ' q = mX σ q) ∧ σ'.2.2 = σ.2.2 ∧ ∀ y k, y < 22 ∨ y = 24 ∨ y = 127 ∨ y = 210 ∨ y = 211 ∨ 212 ≤ y ∨ ((y = 49 ∨ y = 163) ∧ (k = 14 ∨ k = 15)) → mV σ' y k = mV σ y k
/-- what a round leaves -/
def FrRC (σ σ' : MS) : Prop := (∀ q, q < 22 ∨ 212 ≤ q ∨ q = 146 ∨ q = 148 → mX σ' q = mX σ q) ∧ σ'.2.2 = σ.2.2 ∧ ∀ y k, y < 22 ∨ 212 ≤ y ∨ ((y = 49 ∨ y = 163) ∧ (k = 14 ∨ k = 15)) ∨ (y = 127 ∧ k = 17) → mV σ' y k = mV σ y k
/-- the class between blocks -/
def CdC (σ : MS) (M : List Int) (B : BF9) (z z' : Nat) (jo : Bool) (c : Nat) (d : RD9) : Prop := (mX σ 3 = M ∧ LnM σ M (mlL M)) ∧ BkC σ (rdE B d.2.2.1 d.2.2.2.2.2) z z' d.1 ∧ HdC σ z d.2.1 ∧ RuC σ d.2.2.1 c ∧ (hol σ 210 d.2.2.2.1 ∧ ∃ cn : List Int, cn.length = 3 ∧ hol σ 211 cn ∧ True ∧ (jo = true → cn = d.2.2.2.2.1)) ∧ mB σ 1 = z' ∧ CtC σ z' B.2.1 ∧ IxC σ z' B.2.2.1 B.2.2.2
section
variable {σ σ0 : MS} {Q : MQ9} {z z' c i : Nat} {M : List Int} {B : BF9} {jo : Bool} {d : RD9} {E : TE} {b : BK9}
theorem FrRC.rf : FrRC σ σ := ⟨fun _ _ => rfl, rfl, fun _ _ _ => rfl⟩
theorem FrRC.tr {σ1 σ2 : MS} (h : FrRC σ σ1) (h' : FrRC σ1 σ2) : FrRC σ σ2 := ⟨fun q a => (h'.1 q a).trans (h.1 q a), h'.2.1.trans h.2.1, fun y k a => (h'.2.2 y k a).trans (h.2.2 y k a)⟩
theorem FrBc.tr {σ1 σ2 : MS} (h : FrBc z z' σ σ1) (h' : FrBc z z' σ1 σ2) : FrBc z z' σ σ2 := ⟨fun q a => (h'.1 q a).trans (h.1 q a), h'.2.1.trans h.2.1, fun y k a => (h'.2.2 y k a).trans (h.2.2 y k a)⟩
theorem FrBc.ro {σ1 : MS} (h : FrBc z z' σ σ1) : FrRC σ σ1 := ⟨fun q a => h.1 q (by omega), h.2.1, fun y k a => h.2.2 y k (by omega)⟩
theorem FrBc.ty {σ1 : MS} (hz : z = 49 ∨ z = 163) (h : FrTy z' σ σ1) : FrBc z z' σ σ1 := ⟨fun q a => by
  by_cases c : z' ≤ q ∧ q ≤ z' + 36
  · exact h.2.1 q c.1 c.2
  · exact h.1 q (by
      unfold TXX
      simp only [List.mem_cons, List.not_mem_nil, or_false]
      omega) (by
      unfold TyR9
      simp only [List.mem_cons, List.not_mem_nil, or_false]
      omega), h.2.2.1, fun y k a => h.2.2.2 y k (by omega) (by omega) (by omega) (by omega) (by omega) (by omega)⟩
theorem FrBc.tt {σ1 : MS} (hz : z = 49 ∨ z = 163) (hz' : z' = 49 ∨ z' = 163) (h : FrTt σ σ1) : FrBc z z' σ σ1 := ⟨fun q a => h.1 q (by
  unfold TXY
  simp only [List.mem_cons, List.not_mem_nil, or_false]
  omega) (by
  unfold TtX
  simp only [List.mem_cons, List.not_mem_nil, or_false]
  omega), h.2.1, fun y k a => h.2.2 y k (by omega) (by omega) (by omega) (by omega) (by omega) (by omega) (by omega) (by omega) (by omega) (by omega)⟩
theorem FrBc.bl {σ1 : MS} (hz : z = 49 ∨ z = 163) (hz' : z' = 49 ∨ z' = 163) (h : FrBl σ σ1) : FrBc z z' σ σ1 := ⟨fun q a => h.1 q (by omega) (by omega) (by omega) (by omega) (by omega), h.2.1, fun y k a => h.2.2 y k (by omega) (by omega)⟩
theorem FrBc.ix {σ1 : MS} (hz : z = 49 ∨ z = 163) (hz' : z' = 49 ∨ z' = 163) (hne : z ≠ z') (h : FrIx z' σ σ1) : FrBc z z' σ σ1 := ⟨fun q a => h.1 q (by
  simp only [List.mem_cons, List.not_mem_nil, or_false]
  omega) (by omega) (by omega), h.2.1, fun y k a => h.2.2 y k (by omega) (by omega) (by omega) (by omega)⟩
theorem RuC.hy {R : RU} (h : RuC σ R c) : HyC σ (rdH R).2.1 (rdH R).2.2.1 (rdH R).2.2.2.1 (rdH R).2.2.2.2 := ⟨h.2.2.1, h.2.2.2, h.1 4 (by decide), h.1 5 (by decide)⟩
theorem RuC.bc {R : RU} {σ1 : MS} (h : RuC σ R c) (f : FrBc z z' σ σ1) : RuC σ1 R c := h.cg (Nat.le_refl _) (fun q hq a1 a2 => f.1 q (by
  unfold FOX at hq
  simp only [List.mem_cons, List.not_mem_nil, or_false] at hq
  omega)) (fun k => f.2.2 24 k (by omega))
theorem HdC.bc {g : HG9} {σ1 : MS} (hz : z = 49 ∨ z = 163) (h : HdC σ z g) (f : FrBc z z' σ σ1) : HdC σ1 z g := ⟨⟨(f.1 _ (by omega)).trans h.1.1, (f.1 _ (by omega)).trans h.1.2⟩, (f.1 _ (by omega)).trans h.2.1, (f.1 _ (by omega)).trans h.2.2.1, (f.1 _ (by omega)).trans h.2.2.2⟩
/-- a block has changed but what blocks change -/
theorem CdC.nx {σ1 : MS} {b' : BK9} (h : CdC σ M B z z' jo c d) (hz : z = 49 ∨ z = 163) (hz' : z' = 49 ∨ z' = 163) (f : FrBc z z' σ σ1) (hK : BkC σ1 (rdE B d.2.2.1 d.2.2.2.2.2) z z' b') : CdC σ1 M B z z' false c (b', d.2) := by
  obtain ⟨⟨m1, m2, m3, m4⟩, k1, h1, r1, ⟨n1, cn, cl, ch, cb, -⟩, bb, ⟨⟨t1, t2⟩, t3, t4⟩, ⟨⟨i1, i2⟩, i3⟩⟩ := h
  refine ⟨⟨(f.1 _ (by omega)).trans m1, (f.1 _ (by omega)).trans m2, (f.1 _ (by omega)).trans m3, (f.1 _ (by omega)).trans m4⟩, hK, h1.bc hz f, r1.bc f, ⟨fun k hk => (f.2.2 _ _ (by omega)).trans (n1 k hk), cn, cl, fun k hk => (f.2.2 _ _ (by omega)).trans (ch k hk), cb, fun e => absurd e (by decide)⟩, by rw [show mB σ1 = mB σ from congrArg Prod.fst f.2.1]; exact bb, ⟨⟨(f.1 _ (by omega)).trans t1, (f.1 _ (by omega)).trans t2⟩, (f.1 _ (by omega)).trans t3, (f.1 _ (by omega)).trans t4⟩, ⟨⟨(f.1 _ (by omega)).trans i1, (f.1 _ (by omega)).trans i2⟩, (f.1 _ (by omega)).trans i3⟩⟩
theorem BkC.fr9 {σ1 : MS} (h : BkC σ E z z' b) (nx : ∀ q, q < 111 ∨ (130 ≤ q ∧ q ≤ 199) → mX σ1 q = mX σ q) (h2 : σ1.2.2 = σ.2.2) (v : ∀ y k, y = 22 ∨ y = 49 ∨ y = 163 ∨ y = 128 → mV σ1 y k = mV σ y k) : BkC σ1 E z z' b := by
  obtain ⟨k1, k2, k3, k4, k5, k6⟩ := h
  exact ⟨RdC.g3 (w := (b.1.1.1, b.1.1.2.1)) k1 (fun q a _ _ => nx q (by omega)) h2 (fun y k a => v y k (by omega)) ((v 22 0 (by omega)).trans k1.1.1) ((v 22 1 (by omega)).trans k1.1.2), k2.fr (fun q hq => nx q (by omega)) (fun k _ => v 22 k (by omega)), (nx _ (by omega)).trans k3, (nx _ (by omega)).trans k4, (nx _ (by omega)).trans k5, (v 128 10 (by omega)).trans k6⟩
/-- bounds for texts -/
theorem RDI.tb {P : List Int} {hg o : Int} (h : RDI d i) (hB : BfI B) (h15 : ¬ (60000 < d.1.1.1.1 + 15 ∨ 400000 < d.1.1.1.2.1 + 15)) (hP : P.length ≤ 64) (hh : 0 ≤ hg ∧ hg ≤ 100) (ho : Rg o) : TbB (rdE B d.2.2.1 d.2.2.2.2.2) (rdH d.2.2.1) d.2.2.1.1 P hg o (b15 d.1) := by
  obtain ⟨r0, ti, gb⟩ := h.1.sp (by omega) (by omega)
  exact ⟨h.2.1.ei hB h.2.2.2.2.1 h.2.2.2.2.2, rfl, h.2.1.st, h.2.1.hb, hP, hh, ho, ti.mo (by omega) (Int.le_refl _), r0.pl, gb, r0.2.2.1.1⟩
/-- a paragraph, the class -/
theorem blc_6 {N : MS → Prop} (hi : i < (mlL M).length) (hM4 : M.length ≤ 4000) (hMb : smB M) (hB : BfI B) (h : RDI d i) (h15 : ¬ (60000 < d.1.1.1.1 + 15 ∨ 400000 < d.1.1.1.2.1 + 15)) (hC : CdC σ M B z z' jo c (b15 d.1, d.2)) (h16 : mV σ 127 16 = (i : Int) + 1) (hy : ∀ d' σ', parD B M i (b15 d.1, d.2) = .inl d' → CdC σ' M B z z' false c d' → FrRC σ σ' → mV σ' 127 16 = (i : Int) + 1 → N σ') (hn : ∀ x σ', parD B M i (b15 d.1, d.2) = .inr x → TxF σ' x.2 → RuC σ' x.1 c → FrRC σ σ' → mV σ' 127 16 = (i : Int) + 1 → Q (.inr (exN 0)) σ') : Setter_beginParagraph (i : Int) (bnE M i : Int) σ (kV (thQ Q) fun σ12 => Rules_told 8 σ12 (kI (thQ Q) fun r13 σ13 => Setter_fillText r13 0 σ13 (kV (thQ Q) fun σ14 => Setter_printNotes σ14 (kV (thQ Q) fun σ15 => N σ15)))) := by
  have bn := bnE_l hi
  have ml4 : (mlL M).length ≤ 4000 := Nat.le_trans (mlF_l (T := M) M.length 0) hM4
  have hC0 := hC
  obtain ⟨⟨m1, m2⟩, k1, h1, r1, n1, bb, t1, i1⟩ := hC
  have hz : z = 49 ∨ z = 163 := k1.1.2.1.2.1.2.2.1
  have hz' : z' = 49 ∨ z' = 163 := k1.1.2.1.2.1.2.2.2.1
  have st := h.2.1.st
  have r1' : RuC σ d.2.2.1 c := r1
  refine Setter_beginParagraph.c (S := d.2.2.1.1) st m1 hM4 m2 (by omega) bn.2 (r1'.1 1 (by decide)) (fun σ1 e206 e118 e11 e9 x1 c1 v1 => ?_)
  have f1 : FrBc z z' σ σ1 := ⟨fun q a => x1 q (by
    simp only [List.mem_cons, List.not_mem_nil, or_false]
    omega), c1, fun y k a => v1 y k (by omega) (by omega)⟩
  have k1' : BkC σ1 (rdE B d.2.2.1 d.2.2.2.2.2) z z' (b15 d.1) := k1.fr9 (fun q a => x1 q (by
    simp only [List.mem_cons, List.not_mem_nil, or_false]
    omega)) c1 (fun y k a => v1 y k (by omega) (by omega))
  have r11 := r1'.bc f1
  have C1 := hC0.nx hz hz' f1 k1'
  have tb := h.tb (P := List.replicate (d.2.2.1.1.getD 1 0).toNat 32) (hg := 0) (o := (i : Int) + 1) hB h15 (by rw [List.length_replicate]; have := st.2.1; omega) (by decide) (by unfold Rg; omega)
  show Rules_told 8 σ1 _
  refine told_c (k := 8) (by decide) (r11.1 8 (by decide)) ?_
  have tl : (tpT (sgT M ((mlL M).getD i (0, 0)).1 ((mlL M).getD (bnE M i - 1) (0, 0)).2)).length ≤ 8000 := by
    rw [tpT_len]
    have := sgT_ll (M := M) (a := ((mlL M).getD i (0, 0)).1) (e := ((mlL M).getD (bnE M i - 1) (0, 0)).2)
    omega
  refine txt_c (item := false) (z := z) (z' := z') (S := d.2.2.1.1) (P := List.replicate (d.2.2.1.1.getD 1 0).toNat 32) (hg := 0) (H := rdH d.2.2.1) (o := (i : Int) + 1) (E := rdE B d.2.2.1 d.2.2.2.2.2) (b := b15 d.1) e206 (tpT_sm9 hMb.sg9) tl tb ⟨r11.1, e118, e9, e11, r11.hy, rfl⟩ k1' ((f1.2.2 127 16 (by omega)).trans h16) h.1.2.2.1.2 st.2.2.2.2.2.2 (fun b' σ2 w1 w2 w3 => ?_) (fun e σ2 w1 w2 w3 => ?_)
  · have f2 := FrBc.ty (z' := z') hz w3
    exact hy (b', d.2) σ2 (by unfold parD upB; rw [w1]) (C1.nx hz hz' f2 w2) (f1.tr f2).ro ((f2.2.2 127 16 (by omega)).trans ((f1.2.2 127 16 (by omega)).trans h16))
  · have f2 := FrBc.ty (z' := z') hz w3
    have fin := hn (d.2.2.1, e) σ2 (by unfold parD upB; rw [w1]) w2 (r11.bc f2) (f1.tr f2).ro ((f2.2.2 127 16 (by omega)).trans ((f1.2.2 127 16 (by omega)).trans h16))
    exact ⟨fin, fin⟩
end
