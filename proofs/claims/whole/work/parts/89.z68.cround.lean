/-! A ROUND: the class, items, raw lines, tables, headings -/
theorem ki_0 {U : List Int} (h : ¬ kiL U = 0) : 1 ≤ U.length := by
  cases U with
  | nil => exact absurd rfl h
  | cons c r => show 1 ≤ r.length + 1; omega
theorem ki_5 {U : List Int} (h : kiL U = 5) : itL U = true := by
  unfold kiL at h
  split at h
  · exact absurd h (by decide)
  · split at h
    · exact absurd h (by decide)
    · split at h
      · exact absurd h (by decide)
      · split at h
        · exact absurd h (by decide)
        · split at h
          · split at h <;> exact absurd h (by decide)
          · split at h
            · assumption
            · exact absurd h (by decide)
section
variable {M : List Int} {i : Nat}
theorem bnN_c {kd : Int} : ∀ (n j0 j : Nat), j0 ≤ j → j < bnN M kd n j0 → bnC M kd j = true
  | 0, j0, j, h1, h2 => by
    have h2 : j < j0 := h2
    omega
  | n + 1, j0, j, h1, h2 => by
    by_cases c : j0 < (mlL M).length ∧ bnC M kd j0 = true
    · rw [bnN_s c] at h2
      by_cases e : j = j0
      · rw [e]
        exact c.2
      · exact bnN_c n (j0 + 1) j (by omega) h2
    · rw [bnN_e c] at h2
      omega
theorem bn_kd (hk : kdL M i = 3 ∨ kdL M i = 4 ∨ kdL M i = 6) : ∀ j, i ≤ j → j < bnE M i → kdL M j = kdL M i := fun j h1 h2 => by
  by_cases e : j = i
  · rw [e]
  · have := bnN_c _ _ j (by omega : i + 1 ≤ j) h2
    rcases of_decide_eq_true this with h | h
    · exact h.2
    · omega
theorem ln_so (hi : i < (mlL M).length) (hk : ¬ kdL M i = 0) : ((mlL M).getD i (0, 0)).1 + 1 ≤ ((mlL M).getD i (0, 0)).2 := by
  have h1 := ki_0 (U := sgT M ((mlL M).getD i (0, 0)).1 ((mlL M).getD i (0, 0)).2) hk
  have h2 : (sgT M ((mlL M).getD i (0, 0)).1 ((mlL M).getD i (0, 0)).2).length ≤ ((mlL M).getD i (0, 0)).2 - ((mlL M).getD i (0, 0)).1 := by
    unfold sgT
    exact List.length_take_le _ _
  omega
theorem ml_mo9 : ∀ {j : Nat}, i ≤ j → j < (mlL M).length → ((mlL M).getD i (0, 0)).1 ≤ ((mlL M).getD j (0, 0)).1
  | 0, h, hj => by
    rw [show i = 0 by omega]
    exact Nat.le_refl _
  | j + 1, h, hj => by
    by_cases e : i = j + 1
    · rw [e]
      exact Nat.le_refl _
    · have ih := ml_mo9 (j := j) (by omega) (by omega)
      have p := ml_p (T := M) (i := j) (by omega)
      have p1 := p.1.1
      have p2 := p.2 hj
      omega
end
section
variable {σ σ0 : MS} {Q : MQ9} {z z' c i : Nat} {M : List Int} {B : BF9} {jo : Bool} {d : RD9} {E : TE} {b : BK9}
theorem it_N {cn cn' : List Int} {q : Nat} {co : Bool} (h : jo = true → cn' = cn) : itN cn' q jo co = itN cn q jo co := by
  cases jo with
  | true => rw [h rfl]
  | false =>
    have e : itC cn' q false = itC cn q false := by
      unfold itC
      simp
    unfold itN
    rw [e]
theorem it_P {cn cn' : List Int} {q : Nat} {co : Bool} (h : jo = true → cn' = cn) : itP cn' q jo co = itP cn q jo co := by
  unfold itP itM
  rw [it_N h]
theorem it_E {cn cn' : List Int} {q : Nat} {co : Bool} (h : jo = true → cn' = cn) : itE E cn' q jo co = itE E cn q jo co := by
  unfold itE
  rw [it_N h]
/-- the latest number has changed -/
theorem BkC.it {σ1 : MS} {Lt : List Int} (h : BkC σ E z z' b) (nx : ∀ q, q < 111 ∨ (130 ≤ q ∧ q ≤ 199) → q ≠ z + 35 → mX σ1 q = mX σ q) (h2 : σ1.2.2 = σ.2.2) (v : ∀ y k, y = 22 ∨ y = 49 ∨ y = 163 ∨ y = 128 → mV σ1 y k = mV σ y k) (hl : mX σ1 (z + 35) = Lt) : BkC σ1 (E.1, E.2.1, Lt, E.2.2.2) z z' b := by
  obtain ⟨k1, k2, k3, k4, k5, k6⟩ := h
  obtain ⟨⟨r1, r2⟩, ⟨r3, r4, r5⟩, r6, ⟨⟨m1, m2, m3⟩, ⟨m4, m5⟩, m6, m7, m8⟩, r7, r8⟩ := k1
  have hz := r4.2.2.1
  have hz' := r4.2.2.2.1
  have eB : mB σ1 = mB σ := congrArg Prod.fst h2
  have sh : ∀ {y : Nat} {R : List (List Int)}, shR σ y R → (z ≤ y ∧ y + 3 ≤ z + 34) → shR σ1 y R := fun h a => ⟨(nx _ (by omega) (by omega)).trans h.1, (nx _ (by omega) (by omega)).trans h.2⟩
  refine ⟨⟨⟨(v _ _ (by omega)).trans r1, (v _ _ (by omega)).trans r2⟩, ⟨by rw [eB]; exact r3, ⟨by rw [eB]; exact r4.1, by rw [eB]; exact r4.2.1, r4.2.2⟩, r5⟩, r6.cg (nx _ (by omega) (by omega)) (nx _ (by omega) (by omega)) (nx _ (by omega) (by omega)), ⟨⟨sh m1 (by omega), sh m2 (by omega), (nx _ (by omega) (by omega)).trans m3⟩, ⟨sh m4 (by omega), (nx _ (by omega) (by omega)).trans m5⟩, (v _ _ (by omega)).trans m6, (v _ _ (by omega)).trans m7, hl⟩, KB.cg (E := (E.1, E.2.1, Lt, E.2.2.2)) hz' r7 (fun q a c => nx q (by omega) (by omega)) (v _ _ (by omega)) (v _ _ (by omega)), KU.cg (E := (E.1, E.2.1, Lt, E.2.2.2)) r8 (fun q a c => nx q (by omega) (by omega))⟩, k2.fr (fun q hq => nx q (by omega) (by omega)) (fun k _ => v 22 k (by omega)), (nx _ (by omega) (by omega)).trans k3, (nx _ (by omega) (by omega)).trans k4, (nx _ (by omega) (by omega)).trans k5, (v 128 10 (by omega)).trans k6⟩
/-- an item, the class -/
theorem blc_5 {N : MS → Prop} {F : Int → MS → Prop} (hF : ∀ sp σ1, Setter_fillText sp 1 σ1 (kV (thQ Q) fun σ1 => Setter_printNotes σ1 (kV (thQ Q) fun σ2 => N σ2)) → F sp σ1) (hi : i < (mlL M).length) (hk : kdL M i = 5) (hM4 : M.length ≤ 4000) (hMb : smB M) (hB : BfI B) (h : RDI d i) (h15 : ¬ (60000 < d.1.1.1.1 + 15 ∨ 400000 < d.1.1.1.2.1 + 15)) (hC : CdC σ M B z z' jo c (b15 d.1, d.2)) (h16 : mV σ 127 16 = (i : Int) + 1) (hy : ∀ d' σ', itmD B M i jo (b15 d.1, d.2) = .inl d' → CdC σ' M B z z' true c d' → FrRC σ σ' → mV σ' 127 16 = (i : Int) + 1 → N σ') (hn : ∀ x σ', itmD B M i jo (b15 d.1, d.2) = .inr x → TxF σ' x.2 → RuC σ' x.1 c → FrRC σ σ' → mV σ' 127 16 = (i : Int) + 1 → Q (.inr (exN 0)) σ') : Setter_beginItem (i : Int) (bnE M i : Int) (bZ jo) σ (kV (thQ Q) fun σ10 => ((bZ jo = 0 → Rules_told 8 σ10 (kI (thQ Q) fun r11 σ11 => F r11 σ11)) ∧ (¬ bZ jo = 0 → F 0 σ10))) := by
  have bn := bnE_l hi
  have ml4 : (mlL M).length ≤ 4000 := Nat.le_trans (mlF_l (T := M) M.length 0) hM4
  obtain ⟨⟨m1, m2⟩, k1, h1, r1, ⟨n1, cn, cl, ch, cb, ce⟩, bb, t1, i1⟩ := hC
  have hz : z = 49 ∨ z = 163 := k1.1.2.1.2.1.2.2.1
  have hz' : z' = 49 ∨ z' = 163 := k1.1.2.1.2.1.2.2.2.1
  have hne : z ≠ z' := k1.1.2.1.2.2
  have st := h.2.1.st
  have s8 := st.2.2.2.2.2.2
  have r1' : RuC σ d.2.2.1 c := r1
  have ce : jo = true → cn = d.2.2.2.2.1 := ce
  have hit := ki_5 (U := sgT M ((mlL M).getD i (0, 0)).1 ((mlL M).getD i (0, 0)).2) hk
  have q2 : itQ (sgT M ((mlL M).getD i (0, 0)).1 ((mlL M).getD i (0, 0)).2) ≤ 2 := by
    have := of_decide_eq_true hit
    unfold itQ
    omega
  refine Setter_beginItem.c (E := rdE B d.2.2.1 d.2.2.2.2.2) m1 hM4 m2 (by omega) bn.2 hit cl ch (fun hj k hk => by rw [ce hj]; have := h.2.2.2.1.2 k hk; omega) hz k1.1.2.1.1 k1.1.2.2.2.1.2.2.2.2 (fun σ1 q co eq eco f1 e206 e118 e9 e11 c1 l1 => ?_)
  rw [it_P ce] at e118 e9
  rw [it_N ce] at c1
  rw [it_E ce] at l1
  have eq : q = itQ (lnU M i) := eq
  have eco : co = itH (lnU M i) := eco
  rw [eq] at e206
  rw [eq, eco] at e118 e9 c1 l1
  have q2 : itQ (lnU M i) ≤ 2 := q2
  have x1 : ∀ q, q ∉ [112, 114, 116, 118, 206] → q ≠ z + 35 → mX σ1 q = mX σ q := f1.1
  have v1 : ∀ y k, y ≠ 111 → y ≠ 126 → y ≠ 211 → mV σ1 y k = mV σ y k := fun y k a b c => f1.2.2 y k (by omega) b c
  have xa : ∀ q, q < 111 ∨ (130 ≤ q ∧ q ≤ 199) → q ≠ z + 35 → mX σ1 q = mX σ q := fun q a e => x1 q (by
    simp only [List.mem_cons, List.not_mem_nil, or_false]
    omega) e
  have xb : ∀ q, 200 ≤ q → q ≠ 206 → mX σ1 q = mX σ q := fun q a e => x1 q (by
    simp only [List.mem_cons, List.not_mem_nil, or_false]
    omega) (by omega)
  have eB : mB σ1 = mB σ := congrArg Prod.fst f1.2.1
  have k1' := k1.it (σ1 := σ1) xa f1.2.1 (fun y k a => v1 y k (by omega) (by omega) (by omega)) l1
  have eE : ((rdE B d.2.2.1 d.2.2.2.2.2).1, (rdE B d.2.2.1 d.2.2.2.2.2).2.1, (itE (rdE B d.2.2.1 d.2.2.2.2.2) d.2.2.2.2.1 (itQ (lnU M i)) jo (itH (lnU M i))).2.2.1, (rdE B d.2.2.1 d.2.2.2.2.2).2.2.2) = itE (rdE B d.2.2.1 d.2.2.2.2.2) d.2.2.2.2.1 (itQ (lnU M i)) jo (itH (lnU M i)) := itE_e.symm
  have k1'' : BkC σ1 (itE (rdE B d.2.2.1 d.2.2.2.2.2) d.2.2.2.2.1 (itQ (lnU M i)) jo (itH (lnU M i))) z z' (b15 d.1) := by
    rw [← eE]
    exact k1'
  have r11 : RuC σ1 d.2.2.1 c := r1'.cg (Nat.le_refl _) (fun q hq _ _ => xa q (by
    unfold FOX at hq
    simp only [List.mem_cons, List.not_mem_nil, or_false] at hq
    omega) (by
    unfold FOX at hq
    simp only [List.mem_cons, List.not_mem_nil, or_false] at hq
    omega)) (fun k => v1 24 k (by decide) (by decide) (by decide))
  have fr1 : FrRC σ σ1 := ⟨fun q a => x1 q (by
    simp only [List.mem_cons, List.not_mem_nil, or_false]
    omega) (by omega), f1.2.1, fun y k a => v1 y k (by omega) (by omega) (by omega)⟩
  -- the state between blocks, but for what the text changes
  have C1 : CdC σ1 M B z z' true c (b15 d.1, d.2.1, d.2.2.1, d.2.2.2.1, itN d.2.2.2.2.1 (itQ (lnU M i)) jo (itH (lnU M i)), (itE (rdE B d.2.2.1 d.2.2.2.2.2) d.2.2.2.2.1 (itQ (lnU M i)) jo (itH (lnU M i))).2.2.1) := by
    have nb := itN_b (d := itQ (lnU M i)) (jo := jo) (co := itH (lnU M i)) (by omega : (0 : Int) ≤ (i : Int)) h.2.2.2.1.2
    obtain ⟨⟨a1, a2⟩, a3, a4⟩ := t1
    obtain ⟨⟨a5, a6⟩, a7⟩ := i1
    obtain ⟨⟨a8, a9⟩, a10, a11, a12⟩ := h1
    obtain ⟨l1', l2', l3'⟩ := m2
    exact ⟨⟨(xa _ (by omega) (by omega)).trans m1, (xb _ (by decide) (by decide)).trans l1', (xb _ (by decide) (by decide)).trans l2', (xb _ (by decide) (by decide)).trans l3'⟩, k1', ⟨⟨(xa _ (by omega) (by omega)).trans a8, (xa _ (by omega) (by omega)).trans a9⟩, (xa _ (by omega) (by omega)).trans a10, (xa _ (by omega) (by omega)).trans a11, (xa _ (by omega) (by omega)).trans a12⟩, r11, ⟨fun k hk => (v1 210 k (by decide) (by decide) (by decide)).trans (n1 k hk), itN d.2.2.2.2.1 (itQ (lnU M i)) jo (itH (lnU M i)), itN_l, c1, trivial, fun _ => rfl⟩, by rw [eB]; exact bb, ⟨⟨(xa _ (by omega) (by omega)).trans a1, (xa _ (by omega) (by omega)).trans a2⟩, (xa _ (by omega) (by omega)).trans a3, (xa _ (by omega) (by omega)).trans a4⟩, ⟨⟨(xa _ (by omega) (by omega)).trans a5, (xa _ (by omega) (by omega)).trans a6⟩, (xa _ (by omega) (by omega)).trans a7⟩⟩
  have tb0 := h.tb (P := itP d.2.2.2.2.1 (itQ (lnU M i)) jo (itH (lnU M i))) (hg := ((itP d.2.2.2.2.1 (itQ (lnU M i)) jo (itH (lnU M i))).length : Int)) (o := (i : Int) + 1) hB h15 (by rw [itP_l]; have := itM_l (cn := d.2.2.2.2.1) (d := itQ (lnU M i)) (jo := jo) (co := itH (lnU M i)); omega) (by rw [itP_l]; have := itM_l (cn := d.2.2.2.2.1) (d := itQ (lnU M i)) (jo := jo) (co := itH (lnU M i)); omega) (by unfold Rg; omega)
  have tb : TbB (itE (rdE B d.2.2.1 d.2.2.2.2.2) d.2.2.2.2.1 (itQ (lnU M i)) jo (itH (lnU M i))) (rdH d.2.2.1) d.2.2.1.1 (itP d.2.2.2.2.1 (itQ (lnU M i)) jo (itH (lnU M i))) ((itP d.2.2.2.2.1 (itQ (lnU M i)) jo (itH (lnU M i))).length : Int) ((i : Int) + 1) (b15 d.1) := ⟨tb0.1.it, by rw [itE_e]; rfl, tb0.2.2⟩
  have tl : (tpT (sgT M (((mlL M).getD i (0, 0)).1 + (2 * itQ (lnU M i) + 2)) ((mlL M).getD (bnE M i - 1) (0, 0)).2)).length ≤ 8000 := by
    rw [tpT_len]
    have := sgT_ll (M := M) (a := ((mlL M).getD i (0, 0)).1 + (2 * itQ (lnU M i) + 2)) (e := ((mlL M).getD (bnE M i - 1) (0, 0)).2)
    omega
  have h161 : mV σ1 127 16 = (i : Int) + 1 := (v1 127 16 (by decide) (by decide) (by decide)).trans h16
  have go : ∀ sp : Int, sp = (if jo = true then 0 else d.2.2.1.1.getD 8 0) → F sp σ1 := fun sp hsp => by
    refine hF sp σ1 ?_
    refine txt_c (item := true) (z := z) (z' := z') (S := d.2.2.1.1) (P := itP d.2.2.2.2.1 (itQ (lnU M i)) jo (itH (lnU M i))) (hg := ((itP d.2.2.2.2.1 (itQ (lnU M i)) jo (itH (lnU M i))).length : Int)) (H := rdH d.2.2.1) (o := (i : Int) + 1) (E := itE (rdE B d.2.2.1 d.2.2.2.2.2) d.2.2.2.2.1 (itQ (lnU M i)) jo (itH (lnU M i))) (b := b15 d.1) e206 (tpT_sm9 hMb.sg9) tl tb ⟨r11.1, e118, e9, e11, r11.hy, rfl⟩ k1'' h161 h.1.2.2.1.2 (by rw [hsp]; split <;> omega) (fun b' σ2 w1 w2 w3 => ?_) (fun e σ2 w1 w2 w3 => ?_)
    · have f2 := FrBc.ty (z' := z') hz w3
      rw [← eE] at w2
      have C2 := C1.nx (b' := b') hz hz' f2 w2
      refine hy (b', d.2.1, d.2.2.1, d.2.2.2.1, itN d.2.2.2.2.1 (itQ (lnU M i)) jo (itH (lnU M i)), (itE (rdE B d.2.2.1 d.2.2.2.2.2) d.2.2.2.2.1 (itQ (lnU M i)) jo (itH (lnU M i))).2.2.1) σ2 (by unfold itmD; rw [← hsp, w1]) ?_ (fr1.tr f2.ro) ((f2.2.2 127 16 (by omega)).trans h161)
      obtain ⟨a1, a2, a3, a4, ⟨a5, -⟩, a6⟩ := C2
      obtain ⟨-, -, -, -, ⟨-, cn2, g1, g2, g3, g4⟩, -⟩ := C1
      exact ⟨a1, a2, a3, a4, ⟨a5, cn2, g1, fun k hk => (f2.2.2 _ _ (by omega)).trans (g2 k hk), g3, g4⟩, a6⟩
    · have f2 := FrBc.ty (z' := z') hz w3
      have fin := hn (d.2.2.1, e) σ2 (by unfold itmD; rw [← hsp, w1]) w2 (r11.bc f2) (fr1.tr f2.ro) ((f2.2.2 127 16 (by omega)).trans h161)
      exact ⟨fin, fin⟩
  show (bZ jo = 0 → Rules_told 8 σ1 _) ∧ (¬ bZ jo = 0 → F 0 σ1)
  refine ⟨fun hj => told_c (k := 8) (by decide) (r11.1 8 (by decide)) (go _ ?_), fun hj => go 0 ?_⟩
  · rw [bZ_z hj, if_neg (by decide)]
  · rw [bZ_ne hj, if_pos rfl]
/-- raw lines, the class -/
theorem blc_4 (hi : i < (mlL M).length) (hk : kdL M i = 4) (hM4 : M.length ≤ 4000) (h : RDI d i) (h15 : ¬ (60000 < d.1.1.1.1 + 15 ∨ 400000 < d.1.1.1.2.1 + 15)) (hC : CdC σ M B z z' jo c (b15 d.1, d.2)) (h16 : mV σ 127 16 = (i : Int) + 1) {N : MS → Prop} (hy : ∀ d' σ', upB (b15 d.1, d.2) (rwD ((i : Int) + 1) d.2.2.1.1 M i (bnE M i) (b15 d.1)) = .inl d' → CdC σ' M B z z' false c d' → FrRC σ σ' → mV σ' 127 16 = (i : Int) + 1 → N σ') (hn : ∀ x σ', upB (b15 d.1, d.2) (rwD ((i : Int) + 1) d.2.2.1.1 M i (bnE M i) (b15 d.1)) = .inr x → TxF σ' x.2 → RuC σ' x.1 c → FrRC σ σ' → mV σ' 127 16 = (i : Int) + 1 → Q (.inr (exN 0)) σ') : Setter_raw (i : Int) (bnE M i : Int) σ (kV (thQ Q) fun σ9 => N σ9) := by
  have bn := bnE_l hi
  have ml4 : (mlL M).length ≤ 4000 := Nat.le_trans (mlF_l (T := M) M.length 0) hM4
  obtain ⟨r0, ti, gb⟩ := h.1.sp (by omega) (by omega)
  have hC0 := hC
  obtain ⟨⟨m1, m2⟩, k1, h1, r1, n1, bb, t1, i1⟩ := hC
  have hz : z = 49 ∨ z = 163 := k1.1.2.1.2.1.2.2.1
  have hz' : z' = 49 ∨ z' = 163 := k1.1.2.1.2.1.2.2.2.1
  have r1' : RuC σ d.2.2.1 c := r1
  refine Setter_raw.c (S := d.2.2.1.1) (E := rdE B d.2.2.1 d.2.2.2.2.2) (z := z) (z' := z') (b := b15 d.1) h.2.1.st m1 hM4 m2 (by omega) bn.2 (fun j a e => (bn_kd (by omega) j a e).trans hk) (fun j hj e => ln_so (by omega) (by omega)) (by unfold Rg; omega) r1'.1 h16 k1 gb (fun b' σ1 w1 w2 w3 => ?_) (fun e σ1 w1 w2 w3 => ?_)
  · have f := FrBc.bl (z := z) (z' := z') hz hz' w3
    exact hy (b', d.2) σ1 (by unfold upB; rw [w1]) (hC0.nx hz hz' f w2) f.ro ((f.2.2 127 16 (by omega)).trans h16)
  · have f := FrBc.bl (z := z) (z' := z') hz hz' w3
    exact hn (d.2.2.1, e) σ1 (by unfold upB; rw [w1]) w2 (r1'.bc f) f.ro ((f.2.2 127 16 (by omega)).trans h16)
/-- a table, the class -/
theorem blc_3 (hi : i < (mlL M).length) (hk : kdL M i = 3) (hM4 : M.length ≤ 4000) (hMb : smB M) (hB : BfI B) (h : RDI d i) (h15 : ¬ (60000 < d.1.1.1.1 + 15 ∨ 400000 < d.1.1.1.2.1 + 15)) (hC : CdC σ M B z z' jo c (b15 d.1, d.2)) (h16 : mV σ 127 16 = (i : Int) + 1) {N : MS → Prop} (hy : ∀ d' σ', upB (b15 d.1, d.2) (tbF ((i : Int) + 1) (rdE B d.2.2.1 d.2.2.2.2.2) (rdH d.2.2.1) d.2.2.1.1 M i (bnE M i) (b15 d.1)) = .inl d' → CdC σ' M B z z' false c d' → FrRC σ σ' → mV σ' 127 16 = (i : Int) + 1 → N σ') (hn : ∀ x σ', upB (b15 d.1, d.2) (tbF ((i : Int) + 1) (rdE B d.2.2.1 d.2.2.2.2.2) (rdH d.2.2.1) d.2.2.1.1 M i (bnE M i) (b15 d.1)) = .inr x → TxF σ' x.2 → RuC σ' x.1 c → FrRC σ σ' → mV σ' 127 16 = (i : Int) + 1 → Q (.inr (exN 0)) σ') : Setter_workTable (i : Int) (bnE M i : Int) σ (kV (thQ Q) fun σ5 => ((mV σ5 150 9 ≤ 0 → N σ5) ∧ (0 < mV σ5 150 9 → Rules_told 8 σ5 (kI (thQ Q) fun r6 σ6 => Galley_beginBlock r6 σ6 (kV (thQ Q) fun σ7 => Tables_print (mV σ7 127 16) σ7 (kV (thQ Q) fun σ8 => N σ8)))))) := by
  have bn := bnE_l hi
  have ml4 : (mlL M).length ≤ 4000 := Nat.le_trans (mlF_l (T := M) M.length 0) hM4
  obtain ⟨r0, ti, gb⟩ := h.1.sp (by omega) (by omega)
  have hC0 := hC
  obtain ⟨⟨m1, m2⟩, k1, h1, r1, n1, bb, t1, i1⟩ := hC
  have hz : z = 49 ∨ z = 163 := k1.1.2.1.2.1.2.2.1
  have hz' : z' = 49 ∨ z' = 163 := k1.1.2.1.2.1.2.2.2.1
  have r1' : RuC σ d.2.2.1 c := r1
  have tb := h.tb (P := []) (hg := 0) (o := (i : Int) + 1) hB h15 (by decide) (by decide) (by unfold Rg; omega)
  refine tab_c (t0 := (suM d.2.1.1 : Nat) + 110) (S := d.2.2.1.1) (H := rdH d.2.2.1) (o := (i : Int) + 1) (E := rdE B d.2.2.1 d.2.2.2.2.2) (z := z) (z' := z') (b := b15 d.1) m1 hM4 hMb m2 (by omega) bn.2 (fun j a e => ln_so (by omega) (by rw [bn_kd (by omega) j a e, hk]; decide)) tb (by omega) ti r1'.1 r1'.hy k1 h16 (fun b' σ1 w1 w2 w3 => ?_) (fun e σ1 w1 w2 w3 => ?_)
  · have f := FrBc.tt (z := z) (z' := z') hz hz' w3
    exact hy (b', d.2) σ1 (by unfold upB; rw [w1]) (hC0.nx hz hz' f w2) f.ro ((f.2.2 127 16 (by omega)).trans h16)
  · have f := FrBc.tt (z := z) (z' := z') hz hz' w3
    exact hn (d.2.2.1, e) σ1 (by unfold upB; rw [w1]) w2 (r1'.bc f) f.ro ((f.2.2 127 16 (by omega)).trans h16)
end
