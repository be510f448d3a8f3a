/-! THE TEXT OF A PARAGRAPH OR AN ITEM: the reference comes to what the document says -/
section
variable {σ σ0 : MS} {Q : MQ9} {nw x0 : Nat} {E : TE} {H : HY9} {S P T : List Int} {hg o sp : Int} {b : BK9} {cl item : Bool}
theorem FrB.u2 {σ1 σ2 : MS} (h : FrU 0 0 0 nw σ σ1) (h' : FrZ TcS TcK σ1 σ2) : FrB nw σ σ2 := FrA.tr (FrB.u h) (FrB.z h' (by decide) (by decide))
theorem TmR.z {σ1 : MS} {m : TM} (h : TmR σ nw m) (q : FrZ TcS TcK σ σ1) : TmR σ1 nw m := ⟨h.1.z q (by decide) (by decide), h.2.1.z q (by decide), h.2.2.1.z q (by decide) (by decide), (q.f (by decide) (by decide)).trans h.2.2.2.1, (q.f (by decide) (by decide)).trans h.2.2.2.2⟩
theorem MkL.cg {σ1 : MS} {zl : Nat} {F V : List Int} (h : MkL σ zl F V) (e : ∀ j, mV σ1 zl j = mV σ zl j) : MkL σ1 zl F V := fun j hj => by
  rw [e]
  exact h j hj
theorem NnR.cg {σ1 : MS} {F A : List Int} {sp0 : List (Int × Int)} {n0 : Nat} (h : NnR σ F A sp0) (hF : ∀ x ∈ F, x < (n0 : Int)) (e1 : ∀ z j, z = 303 ∨ z = 304 → mV σ1 z j = mV σ z j) (e2 : ∀ z j, z = 317 ∨ z = 318 → j < n0 → mV σ1 z j = mV σ z j) : NnR σ1 F A sp0 := ⟨fun k hk => by
  rw [e1 303 k (Or.inl rfl), e1 304 k (Or.inr rfl)]
  exact h.1 k hk, h.2.1, fun i hi h0 => by
  have hm : F.getD i 0 ∈ F := by
    unfold List.getD
    rw [List.getElem?_eq_getElem hi, Option.getD_some]
    exact List.getElem_mem _
  have hlt := hF _ hm
  unfold nlA
  rw [e2 317 _ (Or.inl rfl) (by omega), e2 318 _ (Or.inr rfl) (by omega)]
  exact h.2.2 i hi h0⟩
theorem app_same {A t : List Int} (h : (A ++ t).length = A.length) : A ++ t = A := by
  rw [List.length_append] at h
  have : t = [] := List.eq_nil_of_length_eq_zero (by omega)
  rw [this, List.append_nil]
theorem app_gd {A t : List Int} {j : Nat} (h : j < A.length) : (A ++ t).getD j 0 = A.getD j 0 := by
  unfold List.getD
  rw [List.getElem?_append_left h]
theorem R_text.p (hT : SgR σ x0 T) (hTb : smB T) (hB : TbB E H S P hg o b) (hR : BkR σ E nw b) (hfl : FlB b) (hsl : b.2.2.1.2.length = b.2.2.1.1.length) (hbe : mV σ 246 16 = 0 ∧ mV σ 246 17 = 70000 ∧ mV σ 246 18 = 0 ∧ mV σ 246 21 = 0 ∧ mV σ 246 22 = 0 ∧ mV σ 246 31 = 0 ∧ mV σ 246 94 = 0 ∧ mV σ 246 95 = 2) (hSv : ∀ k, k < 13 → mV σ 275 k = S.getD k 0) (hH1 : H.1 = decide (S.getD 3 0 = 1)) (hHy : HyR σ H.2.1 H.2.2.1 H.2.2.2.1 H.2.2.2.2) (hP : AhR σ P) (ho : mV σ 246 29 = o) (hit : (item = false → mV σ 246 161 = 0) ∧ (item = true → 0 < mV σ 246 161)) (hsp : sp = if cl = true then 0 else S.getD 8 0) (hy : ∀ b' σ', txD o E H S P hg sp item T b = .inl b' → BkR σ' E nw b' → FrB nw σ σ' → Q (.inl none) σ') (hn : ∀ e σ', txD o E H S P hg sp item T b = .inr e → TxR σ' e → UnB σ' → FrB nw σ σ' → Q (.inl none) σ') : R_text (x0 : Int) ((x0 + T.length : Nat) : Int) (P.length : Int) hg (bZ cl) σ Q := by
  obtain ⟨hE, hE2, hS, hb, hP6, hh, hor, hTI, hPl, hGB, hAl⟩ := hB
  obtain ⟨r1, r2, ⟨m1, m2, m3, m4, m5⟩, r4, ⟨r5, r6⟩, ⟨r7, r8⟩, r9⟩ := hR
  obtain ⟨b1, b2, b3, b4, b5, b6, b7, b8⟩ := hbe
  have n0 : 0 ≤ b.1.2.2.2.2.2.1.2.2 := by
    rw [← hAl]
    omega
  have m0e : (((b.1.2.2.2.2.2.1.2.2).toNat : Nat) : Int) = b.1.2.2.2.2.2.1.2.2 := by omega
  have tlp : b.1.2.2.2.1.2.2.length = b.1.2.2.2.1.1.length := hTI.2.2.1.2.1
  have tkp : b.1.2.2.2.2.1.2.length = b.1.2.2.2.2.1.1.length := hTI.2.2.2.1.1
  have rxs : RxS (nw, (b.1.2.2.2.2.2.1.2.2).toNat, b.1.2.2.2.1.1.length, b.1.2.2.2.2.1.1.length, 0) 0 0 0 30 false E [] σ (tx0 b.1) := by
    refine ⟨⟨r1.1, r1.2.1, r1.2.2.1, b3⟩, ⟨b1, fun i hi => absurd hi (Nat.not_lt_zero _)⟩, ⟨m1, fun _ => m2, fun _ => m3, fun _ => ⟨m4, ?_, b2, fun i hi => absurd hi (Nat.not_lt_zero _)⟩, ⟨by rw [m5]; exact (Int.add_zero _).symm, rfl⟩, fun _ => ⟨[], b7, fun i hi => absurd hi (Nat.not_lt_zero _), ⟨rfl, rfl⟩, ⟨?_, ?_⟩, ⟨?_, ?_⟩, ?_, fun x hx => absurd hx List.not_mem_nil⟩⟩, ⟨b4, b5, b6, by rw [b8, hE2]; rfl, r4⟩⟩
    · show b.1.2.2.2.2.2.1.2.2 = (((b.1.2.2.2.2.2.1.2.2).toNat + 0 : Nat) : Int)
      omega
    · show b.1.2.2.2.1.1.length ≤ b.1.2.2.2.1.2.2.length
      omega
    · show wtQ _ _ [] (b.1.2.2.2.1.2.2.drop b.1.2.2.2.1.1.length)
      rw [List.drop_of_length_le (by omega)]
      exact ⟨rfl, rfl⟩
    · show b.1.2.2.2.2.1.1.length ≤ b.1.2.2.2.2.1.2.length
      omega
    · show wtQ _ _ [] (b.1.2.2.2.2.1.2.drop b.1.2.2.2.2.1.1.length)
      rw [List.drop_of_length_le (by omega)]
      exact ⟨rfl, rfl⟩
    · show 0 = 0 + (b.1.2.2.2.1.2.2.length - b.1.2.2.2.1.1.length) + (b.1.2.2.2.2.1.2.length - b.1.2.2.2.2.1.1.length)
      omega
  have e86 : mV σ 246 86 = (((b.1.2.2.2.2.2.1.2.2).toNat : Nat) : Int) := m4.trans m0e.symm
  refine R_text.i (is_r hE 30 240 x0 T false [] (-1) (nw, (b.1.2.2.2.2.2.1.2.2).toNat, b.1.2.2.2.1.1.length, b.1.2.2.2.2.1.1.length, 0) 0 0 0 [] (tx0 b.1) σ _ 0 (by decide) hT hTb r2 (Or.inl ⟨rfl, rfl⟩) (fun w hw => absurd hw List.not_mem_nil) rxs hTI (by decide) (by decide) (fun _ _ => rfl) ⟨fun s1 σ1 w1 rx1 f1 => ?_, fun e σ1 w1 q1 q2 f1 => ?_⟩)
  · have fz := f1.fz
    have ti1 := wkD_ti hE (Int.le_refl 0) (Int.le_refl 0) hTI (fun w hw => absurd hw List.not_mem_nil) hTb w1
    have so := (so_wk (a := false) s1 w1).2.2 (Or.inl rfl)
    have cm := (mo_wk (a := false) s1 w1).2.2 ⟨fun i j _ hj => absurd hj (Nat.not_lt_zero _), fun c hc => absurd hc List.not_mem_nil⟩
    have ng := (ngv_wk (a := false) s1 w1).2.2 (fun c hc => absurd hc List.not_mem_nil)
    have gr := gr_wk s1 w1
    have gr3 : (s1.2.2.2.2.2.1.1.length : Int) - ((0 : Nat) : Int) = s1.2.2.2.2.2.1.2.2 - b.1.2.2.2.2.2.1.2.2 := gr.2.2
    obtain ⟨⟨tl, etl⟩, tk, etk⟩ := apd_wk s1 w1
    have etl : s1.2.2.2.1.2.2 = b.1.2.2.2.1.2.2 ++ tl := etl
    have etk : s1.2.2.2.2.1.2 = b.1.2.2.2.2.1.2 ++ tk := etk
    have wge : b.1.1.1 ≤ s1.1.1 := (plc_wk s1 w1).1
    have n60 : s1.2.2.2.2.2.1.2.2 ≤ 60 := ti1.2.2.2.2.1.2.2.1
    have tl1 : s1.2.2.2.1.2.2.length = s1.2.2.2.1.1.length := ti1.2.2.1.2.1
    have tk1 : s1.2.2.2.2.1.2.length = s1.2.2.2.2.1.1.length := ti1.2.2.2.1.1
    have tn1 : s1.2.2.2.2.2.1.2.1.length = s1.2.2.2.2.2.1.1.length := ti1.2.2.2.2.1.1
    have un1 : 0 ≤ s1.2.2.2.2.2.2 ∧ s1.2.2.2.2.2.2 ≤ s1.1.2.1 := by
      have := ti1.2.2.2.2.2.1
      omega
    have al : (0 : Int) < E.2.2.2 := by omega
    have rm := rx1.2.2.1
    have w85 : mV σ1 246 85 = s1.2.2.2.2.2.2 := by
      have := rm.2.2.2.2.1.1
      rw [this]
      exact Int.add_zero _
    have tm1 : TmR σ1 nw s1.2.2 := ⟨rm.1, rm.2.1 al, rm.2.2.1 al, (rm.2.2.2.1 al).1, w85⟩
    have h8 := hS.2.2.2.2.2.2
    have eFl := flS_e (b := b) hsp h8.1
    have e284 : ∀ z j, z = 284 ∨ z = 297 ∨ z = 303 ∨ z = 304 ∨ z = 317 ∨ z = 318 → mV σ1 z j = mV σ z j := fun z j hz => fz.z (by
      unfold TRS
      simp only [List.mem_cons, List.not_mem_nil, or_false]
      omega) (by omega)
    have eD : ∀ r, txD o E H S P hg sp item T b = r ↔ (if mkd b.1 s1 = true ∧ foP (pkL s1.2.1) = -1 then (Sum.inr (6, s1.1.1, s1.1.2.1) : BK9 ⊕ (Int × Int × Int)) else if pkL s1.2.1 = [] ∧ item = false then .inl (tx0 s1, b.2) else txF o H S P hg sp b s1) = r := fun r => by
      unfold txD
      rw [w1]
    have t40 : (mV σ1 246 94 = 0 ∨ foN s1.2.1 < s1.2.1.length) → ¬ (mkd b.1 s1 = true ∧ foP (pkL s1.2.1) = -1) → R_text_40 (P.length : Int) hg (bZ cl) (((b.1.2.2.2.2.2.1.2.2).toNat : Nat) : Int) σ1 Q := fun hns hno => by
      have same : pkL s1.2.1 = [] → s1.2.2.2.1.2.2 = b.1.2.2.2.1.2.2 ∧ s1.2.2.2.2.1.2 = b.1.2.2.2.2.1.2 := fun h => by
        have hm : ¬ mkd b.1 s1 = true := fun h9 => hno ⟨h9, by rw [h]; rfl⟩
        unfold mkd at hm
        rw [decide_eq_true_iff] at hm
        have g1 : b.1.2.2.2.1.1.length ≤ s1.2.2.2.1.1.length := gr.1
        have g2 : b.1.2.2.2.2.1.1.length ≤ s1.2.2.2.2.1.1.length := gr.2.1
        refine ⟨?_, ?_⟩
        · rw [etl]
          exact app_same (by rw [← etl]; omega)
        · rw [etk]
          exact app_same (by rw [← etk]; omega)
      refine txr_B (nw := nw) (H := H) (S := S) (P := P) (F := b.2.1.2) (hg := hg) (o := o) (cl := cl) (bg := b.2.2.2) (item := item) (s1 := s1) (Ls := b.2.1.1) (n0 := b.2.1.1.length) (E := E) rfl rx1 hE2 ti1 cm (by omega) hS (fun k hk => (fz.z (by decide) (by decide)).trans (hSv k hk)) hH1 (hHy.k fz (by decide) (by decide)) hb (hP.cg (fz.f (by decide) (by decide)) (fun k => fz.z (by decide) (by decide))) hP6 hh ((fz.f (by decide) (by decide)).trans ho) (r1.2.2.2.cg (fz.f (by decide) (by decide)) (fz.f (by decide) (by decide)) (fun z k hz _ => fz.z (by
        unfold TRS
        simp only [List.mem_cons, List.not_mem_nil, or_false]
        omega) (by omega)) (fun k _ => ⟨fz.z (by decide) (by decide), fz.z (by decide) (by decide)⟩)) ?_ ⟨(fz.f (by decide) (by decide)).trans r5.1, fun i hi => ?_⟩ ((fz.f (by decide) (by decide)).trans r6) hns ⟨fun h => (fz.f (by decide) (by decide)).trans (hit.1 h), fun h => by rw [fz.f (by decide) (by decide)]; exact hit.2 h⟩ (fun h1 h2 σ2 f2 x1 x2 x3 x4 => ?_) (fun hne2 G1 G2 sps σ2 g1 g2 x1 x2 x3 f2 x4 x5 x6 x7 => ?_) (fun e σ2 hne2 hor9 x1 f2 => ?_)
      · rw [← eFl]
        obtain ⟨q1, q2, q3, q4, q5⟩ := hGB
        have q4 : ((suM (b.2.1.1.map (·.1)) : Nat) : Int) + 20 * b.2.1.1.length ≤ b.1.1.1 := q4
        have q5 : 45 * (b.2.1.2.length : Int) ≤ 3 * b.1.1.1 + 75 * b.2.1.1.length + (-45) := q5
        refine ⟨ti1.1.1, ti1.1.2.1, q3, ?_, ?_⟩
        · show ((suM (b.2.1.1.map (·.1)) : Nat) : Int) + 20 * b.2.1.1.length ≤ s1.1.1
          omega
        · show 45 * ((flS b sp).length : Int) ≤ 3 * s1.1.1 + 75 * b.2.1.1.length + 90
          unfold flS
          rw [List.length_append]
          have : sp ≤ 3 := by
            rw [hsp]
            split <;> omega
          split
          · rw [List.length_replicate]
            omega
          · rw [List.length_nil]
            omega
      · rw [fz.z (z := 320) (by decide) (by decide), fz.z (z := 321) (by decide) (by decide)]
        exact r5.2 i hi
      · refine hy (tx0 s1, b.2) σ2 ((eD _).mpr (by rw [if_neg hno, if_pos ⟨h1, h2⟩])) ⟨x1, (r2.u hE f1).k f2 (by decide) (by decide), tm1.z f2, ?_, ⟨x2, x3⟩, ⟨?_, ?_⟩, ?_⟩ (FrB.u2 f1 f2)
        · unfold UnB
          rw [f2.f (by decide) (by decide), w85, x1.2.2.1]
          exact un1
        · show MkL σ2 284 b.2.1.2 s1.2.2.2.1.2.2
          rw [(same h1).1]
          exact r7.cg (fun j => (x4.1 284 j (by omega)).trans (e284 284 j (by omega)))
        · show MkL σ2 297 b.2.1.2 s1.2.2.2.2.1.2
          rw [(same h1).2]
          exact r8.cg (fun j => (x4.1 297 j (by omega)).trans (e284 297 j (by omega)))
        · exact r9.cg hfl (fun z j hz => (x4.1 z j (by omega)).trans (e284 z j (by omega))) (fun z j hz hj => (x4.2 z j hz hj).trans (e284 z j (by omega)))
      · have gl := gAll_l g1
        have gl2 : G1.2.2 = b.2.1.2 ++ List.replicate (spB b.2.2.2 cl (S.getD 8 0) 0).toNat (-2) ++ seqZ b.2.1.1.length (prN P hg (S.getD 2 0) (S.getD 0 0) (pkL s1.2.1) (S.getD 7 0) (txX H S P hg (pkL s1.2.1))).length := gl.2.1
        have nd := (ntD_g (o := o) (H := H) (W := S.getD 0 0) (N := s1.2.2.2.2.2.1.1) (n := (((b.1.2.2.2.2.2.1.2.2).toNat : Nat) : Int) + 1) (G := G1)).1 (G2, sps) g2
        have nd3 : sps.length = s1.2.2.2.2.2.1.1.length := nd.2.2.1
        have nd4 : G2.2.2 = G1.2.2 := nd.2.2.2.1
        have nd1 : G1.1.2 ≤ G2.1.2 := nd.1
        have ga := (gAll_g (o := o) (fw := true)).1 G1 g1
        have ga1 : s1.1.2.1 ≤ G1.1.2 := ga.1
        have kX : ¬ txX H S P hg (pkL s1.2.1) = [] → (prN P hg (S.getD 2 0) (S.getD 0 0) (pkL s1.2.1) (S.getD 7 0) (txX H S P hg (pkL s1.2.1))).length = (txX H S P hg (pkL s1.2.1)).length ∧ 1 ≤ (txX H S P hg (pkL s1.2.1)).length := fun h => by
          cases hc : txX H S P hg (pkL s1.2.1) with
          | nil => exact absurd hc h
          | cons x r =>
            refine ⟨?_, Nat.succ_le_of_lt (Nat.succ_pos _)⟩
            show (prB P hg (S.getD 2 0) (S.getD 0 0) (pkL s1.2.1) (S.getD 7 0) (x :: r).length 0 (x :: r)).length = _
            rw [prB_l]
        have k0X : txX H S P hg (pkL s1.2.1) = [] → (prN P hg (S.getD 2 0) (S.getD 0 0) (pkL s1.2.1) (S.getD 7 0) (txX H S P hg (pkL s1.2.1))).length = 1 ∧ pkL s1.2.1 = [] := fun h => ⟨by rw [h]; rfl, liX_n.mp h⟩
        have num : b.1.2.2.2.2.2.1.2.2 + 1 = (((b.1.2.2.2.2.2.1.2.2).toNat : Nat) : Int) + 1 := by omega
        refine hy (txM s1 G2.1 b.1.2.2.2.1.1.length b.1.2.2.2.2.1.1.length (crF (foP (pkL s1.2.1)) (flS b sp).length (txX H S P hg (pkL s1.2.1))), G2.2, (b.2.2.1.1 ++ s1.2.2.2.2.2.1.2.1.map (fun c => (((flS b sp).length + lnO c (txX H S P hg (pkL s1.2.1)) : Nat) : Int)), b.2.2.1.2 ++ sps), true) σ2 ((eD _).mpr ?_) ⟨x1, (r2.u hE f1).k f2 (by decide) (by decide), tm1.z f2, ?_, ⟨?_, x3⟩, ⟨?_, ?_⟩, ?_⟩ (FrB.u2 f1 f2)
        · rw [if_neg hno, if_neg hne2]
          unfold txF
          rw [eFl, g1]
          show txN o H S b s1 (txX H S P hg (pkL s1.2.1)) _ b.1.2.2.2.2.2.1.2.2 G1 = _
          unfold txN
          rw [num, g2]
        · unfold UnB
          rw [f2.f (by decide) (by decide), w85, x1.2.2.1]
          have := un1
          omega
        · show ElR σ2 G2.2.2
          rw [nd4]
          exact x2
        · show MkL σ2 284 G2.2.2 (crL b.1.2.2.2.1.1.length _ s1.2.2.2.1.2.2)
          rw [nd4, gl2]
          refine r7.new tlp (fun j hj => by rw [etl]; exact app_gd (by omega)) (by rw [tl1]; exact gr.1) (fun j hj => (x4.1 j hj).trans (e284 284 j (by omega))) (fun j j1 j2 => ?_)
          rcases x5 with hx | hx
          · have := (same (k0X hx).2).1
            rw [this] at j2
            omega
          · have hX : ¬ txX H S P hg (pkL s1.2.1) = [] := fun h => by
              have := (same (k0X h).2).1
              rw [this] at j2
              omega
            refine ⟨lnO (gV9 (pkL s1.2.1) (s1.2.2.2.1.2.2.getD j 0)) (txX H S P hg (pkL s1.2.1)), ?_, ?_, hx.1 j j1 j2⟩
            · rw [(kX hX).1]
              exact lnO_lt (kX hX).2
            · rw [eFl]
              rfl
        · show MkL σ2 297 G2.2.2 (crL b.1.2.2.2.2.1.1.length _ s1.2.2.2.2.1.2)
          rw [nd4, gl2]
          refine r8.new tkp (fun j hj => by rw [etk]; exact app_gd (by omega)) (by rw [tk1]; exact gr.2.1) (fun j hj => (x4.2.1 j hj).trans (e284 297 j (by omega))) (fun j j1 j2 => ?_)
          rcases x5 with hx | hx
          · have := (same (k0X hx).2).2
            rw [this] at j2
            omega
          · have hX : ¬ txX H S P hg (pkL s1.2.1) = [] := fun h => by
              have := (same (k0X h).2).2
              rw [this] at j2
              omega
            refine ⟨lnO (gV9 (pkL s1.2.1) (s1.2.2.2.2.1.2.getD j 0)) (txX H S P hg (pkL s1.2.1)), ?_, ?_, hx.2.1 j j1 j2⟩
            · rw [(kX hX).1]
              exact lnO_lt (kX hX).2
            · rw [eFl]
              rfl
        · show NnR σ2 G2.2.2 (b.2.2.1.1 ++ s1.2.2.2.2.2.1.2.1.map (fun c => (((flS b sp).length + lnO c (txX H S P hg (pkL s1.2.1)) : Nat) : Int))) (b.2.2.1.2 ++ sps)
          rw [nd4, gl2]
          have eqs : s1.2.2.2.2.2.1.2.1.map (fun c => (((flS b sp).length + lnO c (txX H S P hg (pkL s1.2.1)) : Nat) : Int)) = (s1.2.2.2.2.2.1.2.1.map (fun v => lnO (gV9 (pkL s1.2.1) v) (txX H S P hg (pkL s1.2.1)))).map (fun x => (((b.2.1.2 ++ List.replicate (spB b.2.2.2 cl (S.getD 8 0) 0).toNat (-2)).length + x : Nat) : Int)) := by
            rw [List.map_map]
            refine List.map_congr_left (fun c hc => ?_)
            have h0 : 0 ≤ c := ng c hc
            show (((flS b sp).length + lnO c (txX H S P hg (pkL s1.2.1)) : Nat) : Int) = (((b.2.1.2 ++ List.replicate (spB b.2.2.2 cl (S.getD 8 0) 0).toNat (-2)).length + lnO (gV9 (pkL s1.2.1) c) (txX H S P hg (pkL s1.2.1)) : Nat) : Int)
            rw [eFl]
            unfold gV9
            rw [if_neg (by omega)]
          rw [eqs]
          have lqs : (s1.2.2.2.2.2.1.2.1.map (fun v => lnO (gV9 (pkL s1.2.1) v) (txX H S P hg (pkL s1.2.1)))).length = s1.2.2.2.2.2.1.1.length := by
            rw [List.length_map]
            exact tn1
          have nil9 : txX H S P hg (pkL s1.2.1) = [] → s1.2.2.2.2.2.1.2.1 = [] := fun h => by
            rcases so with h2 | ⟨c, hc, hn9⟩
            · exact h2
            · exact absurd (pk_nil (k0X h).2 hc) hn9
          refine r9.new (m0 := (b.1.2.2.2.2.2.1.2.2).toNat) hfl (fun x hx => by rw [(List.mem_replicate.mp hx).2]; decide) (by omega) (by omega) (by rw [lqs]; exact nd3) (fun x hx => ?_) (fun z j hz hj => (x4.2.2.2 z j hz hj).trans (e284 z j (by omega))) (fun z j hz hj => (x4.2.2.1 z j hz hj).trans (e284 z j (by omega))) (fun i hi => x6 i (by omega)) ?_
          · obtain ⟨v, hv, e⟩ := List.mem_map.mp hx
            have hX : ¬ txX H S P hg (pkL s1.2.1) = [] := fun h => by
              rw [nil9 h] at hv
              exact absurd hv List.not_mem_nil
            rw [← e, (kX hX).1]
            exact lnO_lt (kX hX).2
          · rcases x5 with hx | hx
            · rw [nil9 hx, (k0X hx).1]
              intro i hi
              rw [show i = 0 by omega, Nat.add_zero]
              exact ⟨fun _ => x7 hx, fun h => absurd rfl h⟩
            · by_cases hX : txX H S P hg (pkL s1.2.1) = []
              · rw [nil9 hX, (k0X hX).1]
                intro i hi
                rw [show i = 0 by omega, Nat.add_zero]
                exact ⟨fun _ => x7 hX, fun h => absurd rfl h⟩
              · rw [(kX hX).1]
                exact hx.2.2
      · have num : b.1.2.2.2.2.2.1.2.2 + 1 = (((b.1.2.2.2.2.2.1.2.2).toNat : Nat) : Int) + 1 := by omega
        have tx : txD o E H S P hg sp item T b = .inr e := (eD _).mpr (by
          rw [if_neg hno, if_neg hne2]
          unfold txF
          rw [eFl]
          rcases hor9 with h | ⟨G1, h, h2⟩
          · rw [h]
          · rw [h]
            show txN o H S b s1 (txX H S P hg (pkL s1.2.1)) _ b.1.2.2.2.2.2.1.2.2 G1 = _
            unfold txN
            rw [num, h2])
        refine hn e σ2 tx x1 ?_ (FrB.u2 f1 f2)
        have ev : s1.1.2.1 ≤ e.2.2 := by
          rcases hor9 with h | ⟨G1, h, h2⟩
          · exact (gAll_g (o := o) (fw := true)).2 e h
          · have g1 := (gAll_g (o := o) (fw := true)).1 G1 h
            have g2 := (ntD_g (o := o) (H := H) (W := S.getD 0 0) (N := s1.2.2.2.2.2.1.1) (n := (((b.1.2.2.2.2.2.1.2.2).toNat : Nat) : Int) + 1) (G := G1)).2 e h2
            have g1 : s1.1.2.1 ≤ G1.1.2 := g1.1
            omega
        unfold UnB
        rw [f2.f (by decide) (by decide), w85, x1.2.2]
        have := un1
        omega
    obtain ⟨Wt, y1, y2, y3⟩ := rm.2.2.2.2.2 al
    have yl : Wt.length = s1.2.2.2.2.2.1.2.1.length + (s1.2.2.2.1.2.2.length - b.1.2.2.2.1.1.length) + (s1.2.2.2.2.1.2.length - b.1.2.2.2.2.1.1.length) := y3.2.2.2.1
    rw [e86]
    show (¬ mV σ1 246 28 = 0 → _) ∧ (mV σ1 246 28 = 0 → _)
    refine ⟨fun h => absurd rx1.1.1 h, fun _ => ⟨fun h9 => t40 (Or.inl (by omega)) (fun h => ?_), fun h9 => ?_⟩⟩
    · have hm := h.1
      unfold mkd at hm
      rw [decide_eq_true_iff] at hm
      omega
    · refine R_latest.r rx1.2.1 ti1.1.2.2.2 (by
        have h2 := ti1.2.2.2.2.2.2
        have h3 := ti1.1.1.2
        omega) ?_
      have lb := lsP_b s1.2.1
      have lf := lsP_fo s1.2.1
      have fl := foN_l s1.2.1
      show (0 ≤ lsP s1.2.1 → _) ∧ (lsP s1.2.1 < 0 → _)
      refine ⟨fun h8 => t40 (Or.inr ?_) (fun h => ?_), fun h8 => ?_⟩
      · by_cases h7 : foN s1.2.1 = s1.2.1.length
        · have := lf.mpr h7
          omega
        · omega
      · have := lf.mpr (foP_pk.mp h.2)
        omega
      · have hfo := lf.mp (by omega)
        have hca : s1.2.2.2.2.2.1.2.1.length = 0 := by
          rcases so with h2 | ⟨c, hc, hn9⟩
          · exact congrArg List.length h2
          · exact absurd (fo_mem hfo hc) hn9
        have hmk : mkd b.1 s1 = true := decide_eq_true (by omega)
        refine R_fail.i ⟨fun h => absurd rx1.1.1 h, fun _ => ⟨by decide, ?_⟩⟩
        show R_text_40 (P.length : Int) hg (bZ cl) (((b.1.2.2.2.2.2.1.2.2).toNat : Nat) : Int) (wV σ1 246 28 6) Q
        refine R_text_40.i ⟨fun h => absurd (wV_self.symm.trans h) (by decide), fun _ => hn (6, s1.1.1, s1.1.2.1) _ ((eD _).mpr (if_pos ⟨hmk, foP_pk.mpr hfo⟩)) ⟨wV_self, (wV_ne (Or.inr (by decide))).trans rx1.1.2.1, (wV_ne (Or.inr (by decide))).trans rx1.1.2.2.1⟩ ?_ (FrA.tr (FrB.u f1) (FrB.z (S := []) (K := [28]) (FrZ.wf (by decide)) (by simp) (by decide)))⟩
        unfold UnB
        rw [wV_ne (Or.inr (by decide)), wV_ne (Or.inr (by decide)), w85, rx1.1.2.2.1]
        exact un1
  · have tx : TxR σ1 e := ⟨q1.1, q1.2.2.1, q1.2.2.2.1⟩
    show (¬ mV σ1 246 28 = 0 → _) ∧ (mV σ1 246 28 = 0 → _)
    refine ⟨fun _ => R_text_40.i ⟨fun h => absurd (q1.1.symm.trans h) q1.2.1, fun _ => hn e σ1 (by unfold txD; rw [w1]) tx q2.2.2.2.2 (FrB.u f1)⟩, fun h => absurd (q1.1.symm.trans h) q1.2.1⟩
end
