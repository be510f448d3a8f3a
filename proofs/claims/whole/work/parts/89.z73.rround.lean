/-! A ROUND: the reference, block by block -/
section
variable {σ σ0 σ1 : MS} {Q : MQ9} {nw i : Nat} {M : List Int} {B : BF9} {jo : Bool} {d : RD9} {E : TE} {b : BK9}
theorem P9.no349 {k : Nat} {A : Nat → Nat → Prop} (f : FrA A σ σ1) (h : ¬ A 349 k) : mV σ1 349 k = mV σ 349 k := f.2.2 349 k h
theorem ln_end (hi : i < (mlL M).length) : ((mlL M).getD i (0, 0)).1 ≤ ((mlL M).getD (bnE M i - 1) (0, 0)).2 ∧ ((mlL M).getD (bnE M i - 1) (0, 0)).2 ≤ M.length := by
  have bn := bnE_l hi
  have hj : bnE M i - 1 < (mlL M).length := by omega
  have p := (ml_p (T := M) hj).1
  have := ml_mo9 (M := M) (i := i) (j := bnE M i - 1) (by omega) hj
  have p1 := p.1
  exact ⟨by omega, p.2.1⟩
/-- a paragraph, the reference -/
theorem blr_6 (hi : i < (mlL M).length) (hMb : smB M) (hB : BfI B) (h : RDI d i) (h15 : ¬ (60000 < d.1.1.1.1 + 15 ∨ 400000 < d.1.1.1.2.1 + 15)) (hC : CdR σ M B nw jo (b15 d.1, d.2)) (h29 : mV σ 246 29 = (i : Int) + 1) (hq : RyR Q σ M B nw false (parD B M i (b15 d.1, d.2))) : R_paragraph (((mlL M).getD i (0, 0)).1 : Int) (((mlL M).getD (bnE M i - 1) (0, 0)).2 : Int) σ Q := by
  obtain ⟨r0, ti, gb⟩ := h.1.sp (by omega) (by omega)
  have hC0 := hC
  obtain ⟨h1, h2, h3, h4, h5, h6⟩ := hC
  have M4 := h1.2.1
  have ml4 : (mlL M).length ≤ 4000 := Nat.le_trans (mlF_l (T := M) M.length 0) M4
  obtain ⟨le1, le2⟩ := ln_end hi
  have st := h.2.1.st
  have h4 : RuR σ d.2.2.1 := h4
  have tb := h.tb (P := List.replicate (d.2.2.1.1.getD 1 0).toNat 32) (hg := 0) (o := (i : Int) + 1) hB h15 (by rw [List.length_replicate]; have := st.2.1; omega) (by decide) (by unfold Rg; omega)
  have hT := SgR.src (a := ((mlL M).getD i (0, 0)).1) (e := ((mlL M).getD (bnE M i - 1) (0, 0)).2) h1.2.2.1 M4 le1 le2
  have lT : (tpT (sgT M ((mlL M).getD i (0, 0)).1 ((mlL M).getD (bnE M i - 1) (0, 0)).2)).length = ((mlL M).getD (bnE M i - 1) (0, 0)).2 - ((mlL M).getD i (0, 0)).1 := by
    rw [tpT_len]
    exact sgT_l le2
  have key := R_paragraph.p (Q := Q) (S := d.2.2.1.1) (H := rdH d.2.2.1) (o := (i : Int) + 1) (E := rdE B d.2.2.1 d.2.2.2.2.2) (nw := nw) (b := b15 d.1) hT (tpT_sm9 hMb.sg9) tb h2 r0.2.2.2.1.flb r0.2.2.1.2 h4.1 rfl h4.hy h29 (fun b' σ1 w1 w2 w3 => ?_) (fun e σ1 w1 w2 w3 w4 => ?_)
  · rw [lT, show ((((mlL M).getD i (0, 0)).1 + (((mlL M).getD (bnE M i - 1) (0, 0)).2 - ((mlL M).getD i (0, 0)).1) : Nat) : Int) = (((mlL M).getD (bnE M i - 1) (0, 0)).2 : Int) by omega] at key
    exact key
  · refine hq.1 (b', d.2) σ1 (by unfold parD upB; rw [w1]) (hC0.n0 hB (P9.bb w3) (fun k => w3.2.2 349 k ?_) w2 (txD_x w1)) (FrD9.p (P9.bb w3))
    rintro (⟨a, -⟩ | a | ⟨a, -⟩) <;> exact absurd a (by decide)
  · exact hq.2 (d.2.2.1, e) σ1 (by unfold parD upB; rw [w1]) (txD_k9 w1) w2 w3 (h4.r9 (P9.r (P9.bb w4))) (FrD9.p (P9.bb w4))
/-- raw lines, the reference -/
theorem blr_4 (hi : i < (mlL M).length) (hk : kdL M i = 4) (hMb : smB M) (hB : BfI B) (h : RDI d i) (h15 : ¬ (60000 < d.1.1.1.1 + 15 ∨ 400000 < d.1.1.1.2.1 + 15)) (hC : CdR σ M B nw jo (b15 d.1, d.2)) (h29 : mV σ 246 29 = (i : Int) + 1) (hq : RyR Q σ M B nw false (upB (b15 d.1, d.2) (rwD ((i : Int) + 1) d.2.2.1.1 M i (bnE M i) (b15 d.1)))) : R_raws (i : Int) ((bnE M i : Int) - (i : Int)) σ Q := by
  have bn := bnE_l hi
  obtain ⟨r0, ti, gb⟩ := h.1.sp (by omega) (by omega)
  have hC0 := hC
  obtain ⟨h1, h2, h3, h4, h5, h6⟩ := hC
  have h4 : RuR σ d.2.2.1 := h4
  refine R_raws.p (E := rdE B d.2.2.1 d.2.2.2.2.2) (nw := nw) (b := b15 d.1) (S := d.2.2.1.1) (o := (i : Int) + 1) h.2.1.st hMb h1 (by omega) bn.2 (fun j a e => (bn_kd (by omega) j a e).trans hk) (fun j hj e => ln_so (by omega) (by omega)) h4.1 h29 h2 r0.2.2.2.1.flb r0.2.2.1.2 gb (fun b' σ1 w1 w2 w3 => ?_) (fun e σ1 w1 w2 w3 w4 => ?_)
  · have f : FrA (AlP9 nw) σ σ1 := P9.z w3 (by decide) (by decide)
    exact hq.1 (b', d.2) σ1 (by unfold upB; rw [w1]) (hC0.n0 hB f (fun k => w3.z (by decide) (by decide)) w2 (rwD_x w1)) (FrD9.p f)
  · have f : FrA (AlP9 nw) σ σ1 := P9.z w4 (by decide) (by decide)
    have u := h2.2.2.2.1
    have e85 : mV σ1 246 85 = mV σ 246 85 := w4.f (by decide) (by decide)
    have u1 := u.1
    have u2 := u.2
    exact hq.2 (d.2.2.1, e) σ1 (by unfold upB; rw [w1]) (rwD_k9 w1) w2 ⟨by rw [e85]; exact u1, by rw [e85]; omega⟩ (h4.r9 (P9.r f)) (FrD9.p f)
/-- a table, the reference -/
theorem blr_3 (hi : i < (mlL M).length) (hk : kdL M i = 3) (hMb : smB M) (hB : BfI B) (h : RDI d i) (h15 : ¬ (60000 < d.1.1.1.1 + 15 ∨ 400000 < d.1.1.1.2.1 + 15)) (hC : CdR σ M B nw jo (b15 d.1, d.2)) (h29 : mV σ 246 29 = (i : Int) + 1) (hq : RyR Q σ M B nw false (upB (b15 d.1, d.2) (tbF ((i : Int) + 1) (rdE B d.2.2.1 d.2.2.2.2.2) (rdH d.2.2.1) d.2.2.1.1 M i (bnE M i) (b15 d.1)))) : R_table (i : Int) ((bnE M i : Int) - (i : Int)) σ Q := by
  have bn := bnE_l hi
  obtain ⟨r0, ti, gb⟩ := h.1.sp (by omega) (by omega)
  have hC0 := hC
  obtain ⟨h1, h2, h3, h4, h5, h6⟩ := hC
  have h4 : RuR σ d.2.2.1 := h4
  have M4 := h1.2.1
  have ml4 : (mlL M).length ≤ 4000 := Nat.le_trans (mlF_l (T := M) M.length 0) M4
  have tb := h.tb (P := []) (hg := 0) (o := (i : Int) + 1) hB h15 (by decide) (by decide) (by unfold Rg; omega)
  refine R_table.p (t0 := (suM d.2.1.1 : Nat) + 110) (E := rdE B d.2.2.1 d.2.2.2.2.2) (nw := nw) (b := b15 d.1) (S := d.2.2.1.1) (H := rdH d.2.2.1) (o := (i : Int) + 1) tb hMb h1 (by omega) ti (by omega) bn.2 (fun j a e => ln_so (by omega) (by rw [bn_kd (by omega) j a e, hk]; decide)) h4.1 h4.hy h29 h2 r0.2.2.2.1.flb r0.2.2.1.2 (fun b' σ1 w1 w2 w3 => ?_) (fun e σ1 w1 w2 w3 w4 => ?_)
  · have f : FrA (AlP9 nw) σ σ1 := P9.q w3
    refine hq.1 (b', d.2) σ1 (by unfold upB; rw [w1]) (hC0.n0 hB f (fun k => w3.2.2 349 k ?_) w2 (tbF_x w1)) (FrD9.p f)
    rintro (((((⟨a, -⟩ | a | ⟨a, -⟩) | a) | a) | a) | a | a | a | ⟨a, -⟩) <;> exact absurd a (by decide)
  · have f : FrA (AlP9 nw) σ σ1 := P9.q w4
    exact hq.2 (d.2.2.1, e) σ1 (by unfold upB; rw [w1]) (tbF_k9 w1) w2 w3 (h4.r9 (P9.r f)) (FrD9.p f)
/-- an item, the reference -/
theorem blr_5 (hi : i < (mlL M).length) (hk : kdL M i = 5) (hMb : smB M) (hB : BfI B) (h : RDI d i) (h15 : ¬ (60000 < d.1.1.1.1 + 15 ∨ 400000 < d.1.1.1.2.1 + 15)) (hC : CdR σ M B nw jo (b15 d.1, d.2)) (h29 : mV σ 246 29 = (i : Int) + 1) (hq : RyR Q σ M B nw true (itmD B M i jo (b15 d.1, d.2))) : R_item (2 * (itQ (lnU M i) : Int)) (bZ (itH (lnU M i))) ((((mlL M).getD i (0, 0)).1 + (2 * itQ (lnU M i) + 2) : Nat) : Int) (((mlL M).getD (bnE M i - 1) (0, 0)).2 : Int) (bZ jo) σ Q := by
  have bn := bnE_l hi
  obtain ⟨r0, ti, gb⟩ := h.1.sp (by omega) (by omega)
  have hC0 := hC
  obtain ⟨h1, h2, h3, h4, ⟨h5, cn, cl, ch, cb, ce⟩, h6⟩ := hC
  have h4 : RuR σ d.2.2.1 := h4
  have ce : jo = true → cn = d.2.2.2.2.1 := ce
  have M4 := h1.2.1
  have ml4 : (mlL M).length ≤ 4000 := Nat.le_trans (mlF_l (T := M) M.length 0) M4
  have hit := ki_5 (U := sgT M ((mlL M).getD i (0, 0)).1 ((mlL M).getD i (0, 0)).2) hk
  have hq2 : itQ (lnU M i) ≤ 2 ∧ 2 * itQ (lnU M i) + 2 ≤ (lnU M i).length := by
    have := of_decide_eq_true hit
    unfold lnU itQ
    omega
  obtain ⟨lu, le1, le2⟩ := lnU_l hi
  obtain ⟨le3, le4⟩ := ln_end hi
  have mo : ((mlL M).getD i (0, 0)).2 ≤ ((mlL M).getD (bnE M i - 1) (0, 0)).2 := by
    by_cases e : bnE M i - 1 = i
    · rw [e]
      exact Nat.le_refl _
    · have h9 := (ml_p (T := M) hi).2 (by omega)
      have := ml_mo9 (M := M) (i := i + 1) (j := bnE M i - 1) (by omega) (by omega)
      have p := (ml_p (T := M) (i := bnE M i - 1) (by omega)).1.1
      omega
  have hT := SgR.src (a := ((mlL M).getD i (0, 0)).1 + (2 * itQ (lnU M i) + 2)) (e := ((mlL M).getD (bnE M i - 1) (0, 0)).2) h1.2.2.1 M4 (by omega) le4
  have lT : (tpT (sgT M (((mlL M).getD i (0, 0)).1 + (2 * itQ (lnU M i) + 2)) ((mlL M).getD (bnE M i - 1) (0, 0)).2)).length = ((mlL M).getD (bnE M i - 1) (0, 0)).2 - (((mlL M).getD i (0, 0)).1 + (2 * itQ (lnU M i) + 2)) := by
    rw [tpT_len]
    exact sgT_l le4
  have eP := it_P (q := itQ (lnU M i)) (co := itH (lnU M i)) ce
  have eN := it_N (q := itQ (lnU M i)) (co := itH (lnU M i)) ce
  have eE := it_E (E := rdE B d.2.2.1 d.2.2.2.2.2) (q := itQ (lnU M i)) (co := itH (lnU M i)) ce
  have tb0 := h.tb (P := itP d.2.2.2.2.1 (itQ (lnU M i)) jo (itH (lnU M i))) (hg := ((itP d.2.2.2.2.1 (itQ (lnU M i)) jo (itH (lnU M i))).length : Int)) (o := (i : Int) + 1) hB h15 (by rw [itP_l]; have := itM_l (cn := d.2.2.2.2.1) (d := itQ (lnU M i)) (jo := jo) (co := itH (lnU M i)); omega) (by rw [itP_l]; have := itM_l (cn := d.2.2.2.2.1) (d := itQ (lnU M i)) (jo := jo) (co := itH (lnU M i)); omega) (by unfold Rg; omega)
  have tb : TbB (itE (rdE B d.2.2.1 d.2.2.2.2.2) cn (itQ (lnU M i)) jo (itH (lnU M i))) (rdH d.2.2.1) d.2.2.1.1 (itP cn (itQ (lnU M i)) jo (itH (lnU M i))) ((itP cn (itQ (lnU M i)) jo (itH (lnU M i))).length : Int) ((i : Int) + 1) (b15 d.1) := by
    rw [eP, eE]
    exact ⟨tb0.1.it, by rw [itE_e]; rfl, tb0.2.2⟩
  have nb := itN_b (d := itQ (lnU M i)) (jo := jo) (co := itH (lnU M i)) (by omega : (0 : Int) ≤ (i : Int)) h.2.2.2.1.2
  have key := R_item.p (Q := Q) (d := itQ (lnU M i)) (co := itH (lnU M i)) (jo := jo) (cn := cn) (S := d.2.2.1.1) (H := rdH d.2.2.1) (o := (i : Int) + 1) (E := rdE B d.2.2.1 d.2.2.2.2.2) (nw := nw) (b := b15 d.1) hq2.1 cl ch (fun hj k hk => by rw [ce hj]; have := h.2.2.2.1.2 k hk; omega) hT (tpT_sm9 hMb.sg9) tb rfl h2 r0.2.2.2.1.flb r0.2.2.1.2 h4.1 rfl h4.hy h29 (fun b' σ1 w1 w2 w3 w4 => ?_) (fun e σ1 w1 w2 w3 w4 => ?_)
  · rw [lT, show ((((mlL M).getD i (0, 0)).1 + (2 * itQ (lnU M i) + 2) + (((mlL M).getD (bnE M i - 1) (0, 0)).2 - (((mlL M).getD i (0, 0)).1 + (2 * itQ (lnU M i) + 2))) : Nat) : Int) = (((mlL M).getD (bnE M i - 1) (0, 0)).2 : Int) by omega] at key
    exact key
  · rw [eP, eE] at w1
    rw [eE] at w2
    rw [eN] at w3
    have f := P9.it w4
    rw [itE_e] at w2
    refine hq.1 (b', d.2.1, d.2.2.1, d.2.2.2.1, itN d.2.2.2.2.1 (itQ (lnU M i)) jo (itH (lnU M i)), (itE (rdE B d.2.2.1 d.2.2.2.2.2) d.2.2.2.2.1 (itQ (lnU M i)) jo (itH (lnU M i))).2.2.1) σ1 (by unfold itmD; rw [w1]) (hC0.nx hB f w2 (txD_x w1) ⟨_, itN_l, w3, trivial, fun _ => rfl⟩) (FrD9.p f)
  · rw [eP, eE] at w1
    have f := P9.it w4
    exact hq.2 (d.2.2.1, e) σ1 (by unfold itmD; rw [w1]) (txD_k9 w1) w2 w3 (h4.r9 (P9.r f)) (FrD9.p f)
/-- a heading, the reference -/
theorem blr_2 (hi : i < (mlL M).length) (hk : kdL M i = 2) (hMb : smB M) (hB : BfI B) (h : RDI d i) (h15 : ¬ (60000 < d.1.1.1.1 + 15 ∨ 400000 < d.1.1.1.2.1 + 15)) (hC : CdR σ M B nw jo (b15 d.1, d.2)) (h29 : mV σ 246 29 = (i : Int) + 1) (hq : RyR Q σ M B nw false (heaD B M i (b15 d.1, d.2))) : R_heading (lvL (lnU M i)) ((((mlL M).getD i (0, 0)).1 + ((lvL (lnU M i)).toNat + 1) : Nat) : Int) (((mlL M).getD i (0, 0)).2 : Int) σ Q := by
  obtain ⟨r0, ti, gb⟩ := h.1.sp (by omega) (by omega)
  obtain ⟨h1, h2, h3, h4, ⟨h5, cn, cl, ch, cb, ce⟩, h6⟩ := hC
  have h4 : RuR σ d.2.2.1 := h4
  have M4 := h1.2.1
  have hw := h2.2.1.1.1
  have ml4 : (mlL M).length ≤ 4000 := Nat.le_trans (mlF_l (T := M) M.length 0) M4
  have tb := h.tb (P := []) (hg := 0) (o := (i : Int) + 1) hB h15 (by decide) (by decide) (by unfold Rg; omega)
  have lv := lv_b (ki_2 hk)
  have lvb : 1 ≤ lvL (lnU M i) ∧ lvL (lnU M i) ≤ 3 := ⟨lv.1, lv.2.1⟩
  have lv4 : rnW 61 (lnU M i) < (lnU M i).length := lv.2.2.2.1
  have lv3 : lvL (lnU M i) = (rnW 61 (lnU M i) : Int) := lv.2.2.1
  obtain ⟨lu, le1, le2⟩ := lnU_l hi
  have hT := SgR.src (a := ((mlL M).getD i (0, 0)).1 + ((lvL (lnU M i)).toNat + 1)) (e := ((mlL M).getD i (0, 0)).2) h1.2.2.1 M4 (by omega) le2
  have lT : (tpT (sgT M (((mlL M).getD i (0, 0)).1 + ((lvL (lnU M i)).toNat + 1)) ((mlL M).getD i (0, 0)).2)).length = ((mlL M).getD i (0, 0)).2 - (((mlL M).getD i (0, 0)).1 + ((lvL (lnU M i)).toNat + 1)) := by
    rw [tpT_len]
    exact sgT_l le2
  have key := R_heading.p (Q := Q) (l := (lvL (lnU M i)).toNat) (o := (i : Int) + 1) (S := d.2.2.1.1) (H := rdH d.2.2.1) (E := rdE B d.2.2.1 d.2.2.2.2.2) (nw := nw) (b := b15 d.1) (g := d.2.1) (nu := d.2.2.2.1) (Lt := hgJ (hgN d.2.2.2.1 (lvL (lnU M i)).toNat) (lvL (lnU M i)).toNat) (by omega) hT (tpT_sm9 hMb.sg9) tb ti r0.2.2.2.2.2.2.1 h2 r0.2.2.2.1.flb r0.2.2.1.2 h3 h5 h.2.2.1.1 h.2.2.1.2 rfl h4.1 h4.hy h29 (fun b' g' σ1 w1 w2 w3 w4 w5 => ?_) (fun e σ1 w1 w2 w3 w4 => ?_)
  · rw [lT, show ((((mlL M).getD i (0, 0)).1 + ((lvL (lnU M i)).toNat + 1) + (((mlL M).getD i (0, 0)).2 - (((mlL M).getD i (0, 0)).1 + ((lvL (lnU M i)).toNat + 1))) : Nat) : Int) = (((mlL M).getD i (0, 0)).2 : Int) by omega, show (((lvL (lnU M i)).toNat : Nat) : Int) = lvL (lnU M i) by omega] at key
    exact key
  · have f := R9.h w5
    refine hq.1 (b', g', d.2.2.1, hgN d.2.2.2.1 (lvL (lnU M i)).toNat, d.2.2.2.2.1, hgJ (hgN d.2.2.2.1 (lvL (lnU M i)).toNat) (lvL (lnU M i)).toNat) σ1 (by unfold heaD; rw [w1]) ⟨h1.r9 f, w2, w3, h4.r9 f, ⟨w4, cn, cl, fun k hk => (w5.2.2 349 k ?_).trans (ch k hk), cb, fun e => absurd e (by decide)⟩, h6.r9 hB hw f⟩ (FrD9.r f)
    rintro ((⟨a, -⟩ | a | ⟨a, -⟩) | a | ⟨a, -⟩ | ⟨a, -⟩) <;> exact absurd a (by decide)
  · have f := R9.h w4
    exact hq.2 (d.2.2.1, e) σ1 (by unfold heaD; rw [w1]) (hgD_k9 w1) w2 w3 (h4.r9 f) (FrD9.r f)
end
