/-! TEXTS, THE CLASS: a text is worked -/
section
variable {σ0 σ σ' : MS} {Q : MQ9} {E : TE} {a : Bool} {f : List (List Int)} {fr : Int} {A : List Int} {k : Nat} {R : List Int × Bool} {S H : List Int} {z z' : Nat} {n : Int} {s s' : TS} {q x0 : Nat} {T : List Int}
theorem TxC.frm {f' : List (List Int)} {fr' : Int} (h : TxC σ E a f fr A k R S H z z' n s) : TxC (wV (wV σ 86 16 fr') 86 17 (f'.length : Int)) E a f' fr' A k R S H z z' n s := by
  obtain ⟨⟨w1, w2, w3⟩, ⟨⟨r1, r2, r3⟩, g1, g2, g3, g4⟩, ⟨⟨a1, a2, a3, a4, a5, a6⟩, b, c, d, e, g⟩, hn9⟩ := h
  have hz := b.2.2.1
  have hz' := b.2.2.2.1
  have v : ∀ y i, y ≠ 86 ∨ (i ≠ 16 ∧ i ≠ 17) → mV (wV (wV σ 86 16 fr') 86 17 (f'.length : Int)) y i = mV σ y i := fun y i hy => by rw [wV_ne (by omega), wV_ne (by omega)]
  exact ⟨⟨by rw [v _ _ (by omega)]; exact w1, by rw [v _ _ (by omega)]; exact w2, by rw [v _ _ (by omega)]; exact w3⟩, ⟨⟨r1, by rw [v _ _ (by omega)]; exact r2, r3⟩, g1, g2, g3, g4⟩, ⟨⟨by rw [v _ _ (by omega)]; exact a1, by rw [v _ _ (by omega)]; exact a2, (wV_ne (by omega)).trans wV_self, wV_self, a5, a6⟩, b, c, (d.v86 hz).v86 hz, (e.v86 hz').v86 hz', g⟩, ⟨fun y => by rw [v _ _ (by omega)]; exact hn9.1 y, fun y => by rw [v _ _ (by omega)]; exact hn9.2 y⟩⟩
theorem TxC.s91 {S' : List Int} (h : TxC σ E a f fr A k R S H z z' n s) : TxC (wX σ 91 S') E a f fr A k R S' H z z' n s := by
  obtain ⟨⟨w1, w2, w3⟩, ⟨⟨r1, r2, r3⟩, g1, g2, g3, g4⟩, ⟨⟨a1, a2, a3, a4, a5, a6⟩, b, c, d, e, g⟩, hn9⟩ := h
  have hz := b.2.2.1
  have hz' := b.2.2.2.1
  have e89 : mX (wX σ 91 S') 89 = mX σ 89 := wX_ne (by decide)
  exact ⟨⟨w1, w2, w3⟩, ⟨⟨(wX_ne (by decide)).trans r1, r2, r3⟩, by rw [e89]; exact g1, by rw [e89]; exact g2, by rw [e89]; exact g3, by rw [e89]; exact g4⟩, ⟨⟨a1, a2, a3, a4, wX_self, (wX_ne (by decide)).trans a6⟩, b, c.cg (wX_ne (by decide)) (wX_ne (by decide)) (wX_ne (by decide)), d.cg hz (fun x hx => wX_ne (by omega)) rfl rfl, e.cg hz' (fun x h1 h2 => wX_ne (by omega)) rfl rfl, g.cg (fun x h1 h2 => wX_ne (by omega))⟩, hn9⟩
theorem TxC.st {y : Int} (h : TxC σ E a f fr A k R S H z z' n s) : TxC (wV σ 86 14 y) E a f fr A k R S H z z' n (sSt s y) := by
  obtain ⟨⟨w1, w2, w3⟩, ⟨⟨r1, r2, r3⟩, g1, g2, g3, g4⟩, hk, hn9⟩ := h
  have k2 : K2 σ (wV σ 86 14 y) := K2.w14
  exact ⟨⟨by rw [wV_ne (by omega)]; exact w1, by rw [wV_ne (by omega)]; exact w2, wV_self⟩, ⟨⟨r1, by rw [wV_ne (by omega)]; exact r2, r3⟩, g1, g2, g3, g4⟩, hk.k2 k2, ⟨fun x => by rw [wV_ne (by omega)]; exact hn9.1 x, fun x => by rw [wV_ne (by omega)]; exact hn9.2 x⟩⟩
theorem kiD_b {p : Nat} : kiD E T p = -1 ∨ (0 ≤ kiD E T p ∧ kiD E T p < 21) := by
  unfold kiD
  by_cases h : maD E T p = -1
  · rw [if_pos h]
    have := ixW_b (wdT 1) 0 (sgT T p (neD T p))
    have l : (wdT 1).length = 21 := by decide +kernel
    rw [l] at this
    rcases this with h | h
    · exact Or.inl h
    · exact Or.inr (by omega)
  · rw [if_neg h]
    exact Or.inl rfl
theorem sh35 : isRow 35 = true ∧ 35 ∉ TXX := by decide +kernel
theorem Texts_call.c {sub : Sub9} {dep : Int} {Dm D : Nat} (hE : EI E) (hs : SubC E sub dep Dm) (hok : SubOk sub) (hox : SubX sub) (hD : Dm + 1 ≤ D) (hdep : 0 ≤ dep ∧ dep ≤ 30) {p : Nat} (hp : p ≤ T.length) (hT : SgT σ q x0 T) (hTb : smB T) (h : CxC σ E a f fr A k R S H z z' n s dep) (hi : TI 0 0 s) (hq : TOkI Q (caW sub E a f T p s) ((x0 + nxC E T p : Nat) : Int) (fun s' σ' => TxD σ E a f fr A k R S H z z' n s' σ') (FrT σ)) : Texts_call (D + 1) q ((x0 + p : Nat) : Int) ((x0 + T.length : Nat) : Int) dep σ Q := by
  obtain ⟨hC, hf, hf9, hfa, hfr, hS, hH, hnb⟩ := h
  have l0 := hT.2.2.1
  have hne : neD T p ≤ T.length := by
    unfold neD
    have : ((T.drop p).takeWhile sLe).length ≤ (T.drop p).length := (List.takeWhile_sublist _).length_le
    rw [List.length_drop] at this
    omega
  have hnp : p ≤ neD T p := by unfold neD; omega
  refine Texts_call.i (ca_3 hT hTb (T.drop p) p rfl hp ?_)
  show Texts_call_27 (D + 1) q _ _ dep ((x0 + neD T p : Nat) : Int) σ Q
  refine Texts_call_27.i (Purse_spend.s (s := s) (by decide) hC.1.1 hC.1.2.1 hi.1.1 hi.1.2.1 (fun s1 h1 => ?_) (fun e σ' he q1 q2 => hq.2 e σ' (by unfold caW; rw [he]; rfl) q1 (FrT.k2 q2)))
  have hC1 := hC.sp (by decide) h1
  have ti1 := hi.sp (by decide) h1
  obtain ⟨e1, -, -⟩ := sp_i h1
  have o1 : s1.2.1 = s.2.1 := by rw [e1]; rfl
  generalize eσ1 : wV (wV σ 22 0 (s.1.1 + 20)) 22 1 (s.1.2.1 + 20) = σ1 at hC1 ⊢
  have f1 : FrT σ σ1 := by rw [← eσ1]; exact (FrT.v22 (Or.inl (by decide))).tr (FrT.v22 (Or.inr (by rw [wV_ne (Or.inr (by decide))]; have := hC.1.2.1; omega)))
  have x89 : mX σ1 89 = mX σ 89 := by rw [← eσ1]; rfl
  have hT1 := hT.fr f1
  have w10 : mV σ1 22 0 = s1.1.1 := hC1.1.1
  have w11 : mV σ1 22 1 = s1.1.2.1 := hC1.1.2.1
  have ec : caW sub E a f T p s = (if maD E T p = -1 ∧ kiD E T p = -1 then tFl 3 s1
    else if maD E T p = -1 ∧ noM E a (kiD E T p) = true then tFl 6 s1
    else match faD T (arD E T p) (neD T p) with
      | .inr k => tFl k s1
      | .inl q => match eaD sub f T (if maD E T p = -1 ∧ kiD E T p = 15 then q.1.take 2 else q.1) s1 with
        | .inr e => .inr e
        | .inl w => caG sub E a f T (maD E T p) (kiD E T p) q.1 w.1 w.2) := by
    unfold caW
    rw [h1]
    rfl
  have seg := hT1.sg hnp hne
  have sl := sg_len (T := T) hnp hne
  have segU : ∀ t : Nat, t < (sgT T p (neD T p)).length → rgt (mX σ1 q) (((x0 + p : Nat) : Int) + t) = (sgT T p (neD T p)).getD t 0 := seg.2.2.2
  obtain ⟨u1, u2, B, ub, usum, ulen, uof, uall⟩ := hC1.2.2.1.2.2.2.2.2
  obtain ⟨t1, t2, t3, t4, t5, t6⟩ := hE.1
  have s12 := suM_b (n := 12) (W := E.1.1) (fun x hx => (t4 x hx).1)
  have emN : E.1.1.map ms7 = E.1.1 := by
    have : E.1.1.map ms7 = E.1.1.map id := List.map_congr_left (fun x hx => ms7_id (t4 x hx).2)
    rw [this, List.map_id]
  have em7 : ms7 (sgT T p (neD T p)) = sgT T p (neD T p) := ms7_id hTb.sg
  have shf : isShelf 25 = true ∧ isRow (25 + 1) = true ∧ isRow (25 + 3) = true := by decide +kernel
  have h71 : Texts_call_71 (D + 1) q ((x0 + T.length : Nat) : Int) dep ((x0 + neD T p : Nat) : Int) (maD E T p) (kiD E T p) σ1 Q := by
    refine Texts_call_71.i (Texts_arityOf.c (s := s1) (T := T) (p := p) hE hC1 (fun g1 g2 => ?_) (fun kd p1 p2 σ' q1 q2 => ?_))
    · rw [if_neg g1, if_neg g2] at ec
      have ar9 : arD E T p ≤ 9 := by
        unfold arD
        split
        · have kb := kiD_b (E := E) (T := T) (p := p)
          rename_i hm
          have := an_ok (kiD E T p).toNat (by omega)
          omega
        · rename_i hm
          have mb := (ixW_b E.1.1 0 (sgT T p (neD T p))).resolve_left hm
          have hmm : maD E T p = ixW E.1.1 0 (sgT T p (neD T p)) := rfl
          rw [List.getD_eq_getElem?_getD, List.getElem?_eq_getElem (by omega)]
          have := (t5 _ (List.getElem_mem (l := E.1.2.1) (n := (maD E T p).toNat) (by omega))).2
          show (E.1.2.1[(maD E T p).toNat]).toNat ≤ 9
          omega
      have x91 : mX σ1 91 = S := hC1.2.2.1.1.2.2.2.2.1
      refine Texts_findArguments.i (fa_6 (σ := σ1) (s := s1) hT1 w10 w11 ar9 (arD E T p) 0 (neD T p) S σ1 (by omega) hne (by omega) (by rw [← x91, wX_id]) (fun sp e he => ?_) (fun kd he σ' q1 q2 => hq.2 _ σ' (by rw [ec, he]; rfl) q1 (f1.tr q2)))
      obtain ⟨b1, b2, b3, b4⟩ := fa_b hne he
      rw [he] at ec
      have ec : caW sub E a f T p s = (match eaD sub f T (if maD E T p = -1 ∧ kiD E T p = 15 then sp.take 2 else sp) s1 with
        | .inr e => .inr e
        | .inl w => caG sub E a f T (maD E T p) (kiD E T p) sp w.1 w.2) := ec
      have hnx : nxC E T p = e := by unfold nxC; rw [he]
      rw [hnx] at hq
      have hC2 := (hC1.s91 (S' := S ++ spL x0 sp)).rb
      have f2 : FrT σ (wX σ1 91 (S ++ spL x0 sp)) := f1.tr (FrT.x (by decide))
      have y89 : mX (wX σ1 91 (S ++ spL x0 sp)) 89 = mX σ 89 := (wX_ne (by decide)).trans x89
      generalize eσ2 : wX σ1 91 (S ++ spL x0 sp) = σ2 at hC2 f2 y89 ⊢
      have x91' : mX σ1 91 = S := x91
      have x93' : mX σ1 93 = H := hC1.2.2.1.1.2.2.2.2.2
      have hT2 := hT.fr f2
      have hRp : a = false → R = pkS s1.2.1 := fun y => (hC1.2.1.2.2.2.2 y).1
      have hno : (a = true → 0 < n) ∧ (a = false → n = 0) := ⟨fun y => by have := hC.2.2.2.1 y; rw [hC.2.2.1.1.1] at this; exact this, fun y => by have := hC.2.2.2.2 y; rw [hC.2.2.1.1.1] at this; exact this⟩
      have hfa2 : ∀ i : Nat, i < f.length → arA H (mX σ2 89) (fr + 2 * (i : Int)) (f.getD i []) := fun i hi2 => by
        rw [y89]
        cases ha : a with
        | true =>
          rw [(hC.2.1.2.2.2.1 ha).1]
          obtain ⟨v, v1, v2, v3⟩ := hfa i hi2
          exact ⟨v, v1, v2, v3.ext⟩
        | false =>
          rw [(hC.2.1.2.2.2.2 ha).2]
          exact hfa i hi2
      have go : ∀ wk : Nat, wk = (if maD E T p = -1 ∧ kiD E T p = 15 then 2 else sp.length) → Texts_call_135 (D + 1) q dep (maD E T p) (kiD E T p) ((mX σ1 91).length : Int) ((mX σ1 93).length : Int) ((mX σ1 89).length : Int) ((x0 + e : Nat) : Int) (wk : Int) σ2 Q := by
        intro wk hwk
        have har : maD E T p = -1 → kiD E T p = 15 → sp.length = 4 := fun c1 c2 => by
          rw [b1]
          unfold arD
          rw [if_pos c1, c2]
          decide
        have hwk2 : wk ≤ sp.length := by
          rw [hwk]
          split
          · rename_i hc; rw [har hc.1 hc.2]; omega
          · exact Nat.le_refl _
        have etk : (if maD E T p = -1 ∧ kiD E T p = 15 then sp.take 2 else sp) = sp.take wk := by
          rw [hwk]
          split
          · rfl
          · rw [List.take_length]
        rw [etk] at ec
        refine Texts_call_135.i ?_
        rw [x91', x93', x89, ← y89]
        have hC2' : TxC σ2 E a f fr (mX σ2 89 ++ ([] : List (List Int)).flatten) s1.2.1.length R (S ++ spL x0 sp) (H ++ hdL (mX σ2 89).length []) z z' n s1 := by
          show TxC σ2 E a f fr (mX σ2 89 ++ []) s1.2.1.length R (S ++ spL x0 sp) (H ++ []) z z' n s1
          rw [List.append_nil, List.append_nil]
          exact hC2
        refine ca_140 hE hs hok (by omega) hdep hwk2 (by omega) b4 hTb hf hf9 hfa2 hfr hS hH hnb hno hRp (sp.take wk) [] [] s1 σ2 rfl rfl hT2 hC2' rfl (ti1.mo (by decide) (by decide)) (fun x hx => absurd hx List.not_mem_nil) (fun w s3 σ3 hw hC3 f3 => ?_) (fun e' σ' he' q1 q2 => hq.2 _ σ' (by rw [ec]; show (match eaD sub f T (sp.take wk) s1 with | .inr e => Sum.inr e | .inl w => _) = _; rw [he']) q1 (f2.tr q2))
        rw [List.nil_append] at hC3
        obtain ⟨ti3, okw, lw, sty, out3⟩ := ea_ti hok hf hTb (sp := sp.take wk) (s := s1) (p := 0 + 20) (v := 0 + 20) (w := (w, s3)) (by decide) (by decide) ti1 hw
        have lw : w.length = wk := by rw [lw, List.length_take]; omega
        have out3 : s3.2.1 = s1.2.1 := out3
        have ec3 : caW sub E a f T p s = caG sub E a f T (maD E T p) (kiD E T p) sp w s3 := by
          rw [ec]
          show (match eaD sub f T (sp.take wk) s1 with | .inr e => Sum.inr e | .inl w => _) = _
          rw [hw]
        rw [ec3] at hq
        have ti0 : TI 0 0 s3 := ti3.mo (by omega) (by decide)
        have z89 : mX σ3 89 = mX σ2 89 ++ w.flatten := by
          cases ha : a with
          | true =>
            have := (hC3.2.1.2.2.2.1 ha).1
            rw [out3, List.drop_length, List.append_nil] at this
            exact this
          | false => exact (hC3.2.1.2.2.2.2 ha).2
        have z93 : mX σ3 93 = H ++ hdL (mX σ2 89).length w := hC3.2.2.1.1.2.2.2.2.2
        have z91 : mX σ3 91 = S ++ spL x0 sp := hC3.2.2.1.1.2.2.2.2.1
        have lsp := spL_len (x0 := x0) (r := sp)
        have lhd := hdL_len (W := w) (b := (mX σ2 89).length)
        have hT3 := hT2.fr f3
        have fin : ∀ s' σ', OX s3 s' → TxD σ3 E a f fr (mX σ2 89 ++ w.flatten) s1.2.1.length R (S ++ spL x0 sp) (H ++ hdL (mX σ2 89).length w) z z' n s' σ' → caG sub E a f T (maD E T p) (kiD E T p) sp w s3 = .inl s' → Texts_call_437 (D + 1) (S.length : Int) (H.length : Int) ((mX σ2 89).length : Int) ((x0 + e : Nat) : Int) ((mX σ3 89).length : Int) σ' Q := by
          intro s' σ' hx hd heq
          obtain ⟨fd, R', hcd, hRd⟩ := hd
          rw [z89]
          have o9 : OX s s' := by
            obtain ⟨L, eL⟩ := hx
            exact ⟨L, by rw [eL, out3, o1]⟩
          refine ca_437 (σ0 := σ) (R0 := R) (s0 := s) (A := A) (k := k) (fun y => ?_) (fun y => ?_) ((f2.tr f3).tr fd) (by rw [← o1]; exact hcd) hRd o9 (fun σ4 hd4 => hq.1 s' σ4 heq hd4)
          · rw [y89]; exact hC.2.1.2.2.2.1 y
          · rw [y89]; exact (hC.2.1.2.2.2.2 y).2
        have flt : ∀ e' σ', caG sub E a f T (maD E T p) (kiD E T p) sp w s3 = .inr e' → TxF σ' e' → FrT σ3 σ' → Q (.inr (exN 0)) σ' := fun e' σ' he' q1 q2 => hq.2 e' σ' he' q1 ((f2.tr f3).tr q2)
        have hargs : ∀ i : Nat, i < w.length → arA (H ++ hdL (mX σ2 89).length w) (mX σ2 89 ++ w.flatten) ((H.length : Int) + 2 * (i : Int)) (w.getD i []) := fun i hi2 => args_at hi2
        have hfa3 : ∀ i : Nat, i < f.length → arA (H ++ hdL (mX σ2 89).length w) (mX σ2 89 ++ w.flatten) (fr + 2 * (i : Int)) (f.getD i []) := fun i hi2 => (hfa2 i hi2).ext ⟨by omega, (hfa2 i hi2).in (by omega)⟩
        have hcx : CxC σ3 E a f fr (mX σ2 89 ++ w.flatten) s1.2.1.length R (S ++ spL x0 sp) (H ++ hdL (mX σ2 89).length w) z z' n s3 (dep + 1) := ⟨hC3, hf, hf9, hfa3, hfr, by rw [List.length_append, lsp]; omega, by rw [List.length_append, lhd]; omega, by omega⟩
        have ki_b : maD E T p = -1 → 0 ≤ kiD E T p ∧ kiD E T p < 21 := fun hm => by
          have kb := kiD_b (E := E) (T := T) (p := p)
          exact kb.resolve_left (fun h9 => g1 ⟨hm, h9⟩)
        have lwk : maD E T p = -1 → ¬ kiD E T p = 15 → w.length = (anD.getD (kiD E T p).toNat 0).toNat := fun hm hk => by
          rw [lw, hwk, if_neg (fun h9 => hk h9.2), b1]
          unfold arD
          rw [if_pos hm]
        have gvq : maD E T p = -1 → ¬ kiD E T p = 15 → caG sub E a f T (maD E T p) (kiD E T p) sp w s3 = gvD E (kiD E T p) w s3 := fun hm hk => by
          unfold caG
          rw [if_neg (fun h9 => h9 hm), if_neg hk]
        have tok : ∀ {Q' : MQ9} {r : TR}, caG sub E a f T (maD E T p) (kiD E T p) sp w s3 = r → (∀ s', r = .inl s' → OX s3 s') → (∀ σ', Texts_call_437 (D + 1) (S.length : Int) (H.length : Int) ((mX σ2 89).length : Int) ((x0 + e : Nat) : Int) ((mX σ3 89).length : Int) σ' Q → Q' (.inl none) σ') → (∀ σ', Q (.inr (exN 0)) σ' → Q' (.inr (exN 0)) σ') → TOk Q' r (fun s' σ' => TxD σ3 E a f fr (mX σ2 89 ++ w.flatten) s1.2.1.length R (S ++ spL x0 sp) (H ++ hdL (mX σ2 89).length w) z z' n s' σ') (FrT σ3) := fun {Q'} {r} hr hxx hQ1 hQ2 => ⟨fun s' σ' he hd => hQ1 σ' (fin s' σ' (hxx s' he) hd (by rw [hr]; exact he)), fun e' σ' he q1 q2 => hQ2 σ' (flt e' σ' (by rw [hr]; exact he) q1 q2)⟩
        refine Texts_call_140.i ⟨by unfold Rg; omega, fun _ => ⟨fun cm => ?_, fun cm => ?_⟩, fun h9 => absurd h9 (by omega)⟩
        · obtain ⟨kb1, kb2⟩ := ki_b cm
          refine ⟨fun c15 => ?_, fun c15 => ?_⟩
          · have lw2 := lwk cm c15
            have gq := gvq cm c15
            have tk : ∀ {Q' : MQ9}, (∀ σ', Texts_call_437 (D + 1) (S.length : Int) (H.length : Int) ((mX σ2 89).length : Int) ((x0 + e : Nat) : Int) ((mX σ3 89).length : Int) σ' Q → Q' (.inl none) σ') → (∀ σ', Q (.inr (exN 0)) σ' → Q' (.inr (exN 0)) σ') → TOk Q' (gvD E (kiD E T p) w s3) (fun s' σ' => TxD σ3 E a f fr (mX σ2 89 ++ w.flatten) s1.2.1.length R (S ++ spL x0 sp) (H ++ hdL (mX σ2 89).length w) z z' n s' σ') (FrT σ3) := fun hQ1 hQ2 => tok gq (fun s' he => gv_ox he) hQ1 hQ2
            have a0 : 0 < w.length → arA (H ++ hdL (mX σ2 89).length w) (mX σ2 89 ++ w.flatten) (H.length : Int) (w.getD 0 []) := fun h9 => by
              have := hargs 0 h9
              rw [show (H.length : Int) + 2 * ((0 : Nat) : Int) = (H.length : Int) by omega] at this
              exact this
            have a1 : 1 < w.length → arA (H ++ hdL (mX σ2 89).length w) (mX σ2 89 ++ w.flatten) ((H.length : Int) + 2) (w.getD 1 []) := fun h9 => by
              have := hargs 1 h9
              rw [show (H.length : Int) + 2 * ((1 : Nat) : Int) = (H.length : Int) + 2 by omega] at this
              exact this
            have an1 : ∀ j : Nat, j < 21 → 1 ≤ (anD.getD j 0).toNat ∧ (9 ≤ j ∧ j ≤ 14 → 2 ≤ (anD.getD j 0).toNat) := by decide
            have an2 := an1 (kiD E T p).toNat (by omega)
            have hl0 : 0 < w.length := by omega
            have noMf : noM E a (kiD E T p) = false := by
              cases hnm : noM E a (kiD E T p) with
              | false => rfl
              | true => exact absurd ⟨cm, hnm⟩ g2
            have mark : (kiD E T p = 16 ∨ kiD E T p = 17 ∨ kiD E T p = 18) → a = false ∧ 0 < E.2.2.2 := fun hmk => by
              unfold noM at noMf
              rw [decide_eq_true hmk, Bool.true_and, Bool.or_eq_false_iff] at noMf
              refine ⟨noMf.1, ?_⟩
              have := of_decide_eq_false noMf.2
              split at this <;> omega
            refine ⟨fun c7 => ⟨fun c12 => ⟨fun c14 => ⟨fun c16 => ⟨fun c17 => ⟨fun c18 => ?_, fun c18 => ?_⟩, fun c17 => ?_⟩, fun c16 => ?_⟩, fun c14 => ?_⟩, fun c12 => ?_⟩, fun c7 => ?_⟩
            · have eg : gvD E (kiD E T p) w s3 = gvR E (kiD E T p) w s3 := by
                unfold gvD
                rw [if_neg (by omega), if_neg (by omega), if_neg (by omega), if_neg c16, if_neg c17, if_neg c18]
              have tk2 := @tk
              rw [eg] at tk2
              exact Texts_refer.c hE hC3 (ti3.mo (by omega) (by decide)) (by omega) (by omega) (a0 hl0) (tk2 (fun _ h9 => h9) (fun _ h9 => h9))
            · have eg : gvD E (kiD E T p) w s3 = gvI w s3 := by
                unfold gvD
                rw [if_neg (by omega), if_neg (by omega), if_neg (by omega), if_neg c16, if_neg c17, if_pos c18]
              obtain ⟨ha, hal⟩ := mark (Or.inr (Or.inr c18))
              have tk2 := @tk
              rw [eg] at tk2
              subst ha
              have hle := suM_le (W := w) 0
              exact Texts_index.c hC3 (ti3.mo (by show ((w.getD 0 []).length : Int) ≤ 0 + 20 + (suM w : Int); omega) (by decide)) hal (by omega) (a0 hl0) (tk2 (fun _ h9 => h9) (fun _ h9 => h9))
            · have eg : gvD E (kiD E T p) w s3 = gvL E w s3 := by
                unfold gvD
                rw [if_neg (by omega), if_neg (by omega), if_neg (by omega), if_neg c16, if_pos c17]
              obtain ⟨ha, hal⟩ := mark (Or.inr (Or.inl c17))
              have tk2 := @tk
              rw [eg] at tk2
              subst ha
              exact Texts_label.c hE hC3 ti0 hal (by omega) (a0 hl0) (tk2 (fun _ h9 => h9) (fun _ h9 => h9))
            · have eg : gvD E (kiD E T p) w s3 = gvN w s3 := by
                unfold gvD
                rw [if_neg (by omega), if_neg (by omega), if_neg (by omega), if_pos c16]
              obtain ⟨ha, hal⟩ := mark (Or.inl c16)
              have tk2 := @tk
              rw [eg] at tk2
              subst ha
              have hle := suM_le (W := w) 0
              exact Texts_note.c hC3 (ti3.mo (by show ((w.getD 0 []).length : Int) ≤ 0 + 20 + (suM w : Int); omega) (by decide)) hal (by omega) (a0 hl0) (tk2 (fun _ h9 => h9) (fun _ h9 => h9))
            · have eg : gvD E (kiD E T p) w s3 = gv3 (kiD E T p) w s3 := by
                unfold gvD
                rw [if_neg (by omega), if_neg (by omega), if_pos c14]
              have tk2 := @tk
              rw [eg] at tk2
              exact Texts_tellCounter.c hC3 (ti3.mo (by omega) (by decide)) (by omega) (by omega) (a0 hl0) (a1 (by omega)) (tk2 (fun _ h9 => h9) (fun _ h9 => h9))
            · have eg : gvD E (kiD E T p) w s3 = gv2 (kiD E T p) w s3 := by
                unfold gvD
                rw [if_neg (by omega), if_pos c12]
              have tk2 := @tk
              rw [eg] at tk2
              exact Texts_reckon.c hC3 ti0 (by omega) (by omega) (a0 hl0) (fun h8 => a1 (by omega)) (tk2 (fun _ h9 => h9) (fun _ h9 => h9))
            · have eg : gvD E (kiD E T p) w s3 = gv1 (kiD E T p) w s3 := by
                unfold gvD
                rw [if_pos c7]
              have tk2 := @tk
              rw [eg] at tk2
              exact Texts_reshape.c hC3 ti0 (by omega) (by omega) hargs lw2 (tk2 (fun _ h9 => h9) (fun _ h9 => h9))
          · have lw2 : w.length = 2 := by rw [lw, hwk, if_pos ⟨cm, c15⟩]
            have ls4 := har cm c15
            have b0 := hargs 0 (by omega)
            have b1' := hargs 1 (by omega)
            rw [show (H.length : Int) + 2 * ((0 : Nat) : Int) = (H.length : Int) by omega] at b0
            rw [show (H.length : Int) + 2 * ((1 : Nat) : Int) = (H.length : Int) + 2 by omega] at b1'
            have inn : ∀ j : Nat, (j = 2 ∨ j = 3) → caG sub E a f T (maD E T p) (kiD E T p) sp w s3 = sub a f (sgT T (sp.getD j (0, 0)).1 (sp.getD j (0, 0)).2) s3 → Texts_call_294 (D + 1) q dep (S.length : Int) (H.length : Int) ((mX σ2 89).length : Int) ((x0 + e : Nat) : Int) ((mX σ3 89).length : Int) (S.length : Int) (2 * (j : Int)) σ3 Q := by
              intro j hj hg
              obtain ⟨r1, r2⟩ := sp_at (x0 := x0) (S := S) (r := sp) (i := j) (by omega) (y := (S.length : Int) + 2 * (j : Int)) rfl
              have hmem : sp.getD j (0, 0) ∈ sp := by
                rw [List.getD_eq_getElem?_getD, List.getElem?_eq_getElem (by omega)]
                exact List.getElem_mem _
              obtain ⟨d1, d2⟩ := b4 _ hmem
              refine Texts_call_294.i ⟨by unfold Rg; omega, by unfold Rg; omega, ?_⟩
              rw [z91, r1, r2]
              have hlen := sg_len (T := T) d1 d2
              rw [show ((x0 + (sp.getD j (0, 0)).2 : Nat) : Int) = ((x0 + (sp.getD j (0, 0)).1 + (sgT T (sp.getD j (0, 0)).1 (sp.getD j (0, 0)).2).length : Nat) : Int) by rw [hlen]; omega]
              exact hs D q _ _ a f fr _ _ R _ _ z z' n s3 σ3 _ (by omega) (hT3.sg d1 d2) hTb.sg hcx ti0 (tok hg (fun s' he => hox _ _ _ _ _ he) (fun _ h9 => h9) (fun _ h9 => h9))
            refine Texts_sameArguments.c hC3.q ti0 z93 (by omega) b0 b1' ⟨fun cz => ?_, fun cz => ?_⟩
            · refine inn 3 (Or.inr rfl) ?_
              unfold caG
              rw [if_neg (fun h9 => h9 cm), if_pos c15, if_neg (of_decide_eq_false (bZ_z cz))]
            · refine inn 2 (Or.inl rfl) ?_
              unfold caG
              rw [if_neg (fun h9 => h9 cm), if_pos c15, if_pos (of_decide_eq_true (bZ_ne cz))]
        · obtain ⟨D', rfl⟩ : ∃ D', D = D' + 1 := ⟨D - 1, by omega⟩
          have mb := (ixW_b E.1.1 0 (sgT T p (neD T p))).resolve_left cm
          have hmm : maD E T p = ixW E.1.1 0 (sgT T p (neD T p)) := rfl
          rw [← hmm] at mb
          have hg : caG sub E a f T (maD E T p) (kiD E T p) sp w s3 = sub a w (E.1.2.2.getD (maD E T p).toNat []) s3 := by
            unfold caG
            rw [if_pos cm]
          have lw2 : w.length = (E.1.2.1.getD (maD E T p).toNat 0).toNat := by
            rw [lw, hwk, if_neg (fun h9 => cm h9.1), b1]
            unfold arD
            rw [if_neg cm]
          obtain ⟨u1', u2', B', ub', usum', ulen', uof', uall'⟩ := hC3.2.2.1.2.2.2.2.2
          obtain ⟨j, j1, j2, j3⟩ := uall' (maD E T p).toNat (by omega)
          have r32 : rgt (mX σ3 32) (maD E T p) = (j : Int) := by rw [rgt_a (i := (maD E T p).toNat) (by omega) (by omega)]; exact j1
          have r30 : rgt (mX σ3 30) (maD E T p) = (w.length : Int) := by
            rw [u2', rgt_a (i := (maD E T p).toNat) (by omega) (by omega), lw2]
            rw [List.getD_eq_getElem?_getD, List.getElem?_eq_getElem (by omega)]
            have := (t5 _ (List.getElem_mem (l := E.1.2.1) (n := (maD E T p).toNat) (by omega))).1
            show E.1.2.1[(maD E T p).toNat] = ((E.1.2.1[(maD E T p).toNat]).toNat : Int)
            omega
          obtain ⟨v1, v2, v3⟩ := sh_at (L := B') (l := j) j2
          have x37 : mX σ3 37 = enS 0 B' := ub'.2
          have x35 : mX σ3 35 = B'.flatten := ub'.1
          have y16 : mV σ3 86 16 = fr := hC3.2.2.1.1.2.2.1
          have y17 : mV σ3 86 17 = (f.length : Int) := hC3.2.2.1.1.2.2.2.1
          refine Texts_workBody.i ⟨by unfold Rg; omega, by unfold Rg; omega, by unfold Rg; omega, ?_⟩
          rw [r32, r30, x37, v1, v2, y16, y17]
          have hCf := hC3.frm (f' := w) (fr' := (H.length : Int))
          have ff : FrT σ3 (wV (wV σ3 86 16 (H.length : Int)) 86 17 (w.length : Int)) := FrT.tr FrT.v86 FrT.v86
          refine hs D' 35 (suM (B'.take j)) (B'.getD j []) a w (H.length : Int) _ _ R _ _ z z' n s3 _ _ (by omega) ⟨sh35.1, sh35.2, by omega, fun t ht => ?_⟩ (by rw [j3]; exact (t6.at _).2) ⟨hCf, okw, by omega, hargs, by omega, by rw [List.length_append, lsp]; omega, by rw [List.length_append, lhd]; omega, by omega⟩ ti0 ?_
          · show rgt (mX σ3 35) (((suM (B'.take j) : Nat) : Int) + (t : Int)) = (B'.getD j []).getD t 0
            rw [x35, rgt_a (i := suM (B'.take j) + t) (by omega) (by rw [flat_len]; omega)]
            exact fl_at j2 ht
          · rw [j3]
            refine ⟨fun s' σ' he hd => ?_, fun e' σ' he q1 q2 => flt e' σ' (by rw [hg]; exact he) q1 (ff.tr q2)⟩
            obtain ⟨fd, R', hcd, hRd⟩ := hd
            refine fin s' _ (hox _ _ _ _ _ he) ⟨(ff.tr fd).tr (FrT.tr FrT.v86 FrT.v86), R', ?_, hRd⟩ (by rw [hg]; exact he)
            exact hcd.frm
      show (¬ kiD E T p = 15 → _) ∧ (kiD E T p = 15 → _)
      rw [← b1]
      refine ⟨fun c => go sp.length (by rw [if_neg (fun h9 => c h9.2)]), fun c => ?_⟩
      have cm : maD E T p = -1 := by
        by_cases hm : maD E T p = -1
        · exact hm
        · have : kiD E T p = -1 := by unfold kiD; rw [if_neg hm]
          rw [this] at c
          exact absurd c (by decide)
      exact go 2 (by rw [if_pos ⟨cm, c⟩])
    · refine hq.2 (kd, s1.1.1, s1.1.2.1) σ' ?_ q1 (f1.tr (FrT.k2 q2))
      rw [ec]
      by_cases hc : maD E T p = -1 ∧ kiD E T p = -1
      · rw [if_pos hc, p1 hc]; rfl
      · rw [if_neg hc, if_pos (p2 hc).2, (p2 hc).1]; rfl
  refine Shelf_seek.s (R := E.1.1) shf.1 shf.2.1 shf.2.2 hT.1 u1 (by omega) (by omega) (U := sgT T p (neD T p)) (by omega) (by rw [sl]; omega) (by rw [sl]; omega) segU ?_
  rw [emN, em7]
  show (maD E T p = -1 → _) ∧ (¬ maD E T p = -1 → _)
  refine ⟨fun c => ?_, fun c => ?_⟩
  · refine Rules_nameIndex.s (j := 1) (by decide) (by decide) hT.1 (U := sgT T p (neD T p)) (by omega) (by rw [sl]; omega) (by rw [sl]; omega) segU ?_
    have : kiD E T p = ixW (wdT 1) 0 (sgT T p (neD T p)) := by unfold kiD; rw [if_pos c]
    rw [this] at h71
    exact h71
  · have : kiD E T p = -1 := by unfold kiD; rw [if_neg c]
    rw [this] at h71
    exact h71
end
