/-! HEADINGS: the class, the whole -/
def HdC (σ : MS) (z : Nat) (g : HG9) : Prop := shR σ (z + 13) g.1 ∧ mX σ (z + 18) = g.2.1 ∧ mX σ (z + 20) = g.2.2 ∧ mX σ (z + 22) = g.2.2
def HdB (g : HG9) : Prop := g.1.length ≤ 60 ∧ g.2.1.length = g.1.length ∧ g.2.2.length = g.1.length
def HdX (z : Nat) : List Nat := [206, z + 14, z + 16, z + 18, z + 35] ++ HcX z
/-- the marks of the round before stay -/
def FrHd (z : Nat) (σ σ' : MS) : Prop := (∀ q, q ∉ TXX → q ∉ HdX z → mX σ' q = mX σ q) ∧ σ'.2.2 = σ.2.2 ∧ (∀ y k, y ≠ 22 → y ≠ 86 → y ≠ 126 → y ≠ 210 → ¬ (y = 111 ∧ (k = 9 ∨ k = 10 ∨ k = 11 ∨ k = 12)) → ¬ ((y = 49 ∨ y = 163) ∧ (k = 12 ∨ k = 13)) → ¬ (y = 128 ∧ k = 10) → mV σ' y k = mV σ y k) ∧ ∀ q, 212 - z ≤ q → q ≤ 212 - z + 36 → mX σ' q = mX σ q
theorem sbl_sm {c : Int} (h : 0 ≤ c ∧ c ≤ 127) (h2 : ¬ c = 32) : sbl c = false := decide_eq_false (by omega)
theorem wr_dg : ∀ n : Nat, n < 64 → (wrN (n : Int) 1).all (fun c => decide (¬ c = 32)) = true := by decide +kernel
theorem hgJ_n {nu : List Int} (h : ∀ k, k < 4 → 0 ≤ nu.getD k 0 ∧ nu.getD k 0 ≤ 60) : ∀ l, l ≤ 3 → ∀ c ∈ hgJ nu l, ¬ c = 32
  | 0, _, c, hc => absurd hc List.not_mem_nil
  | k + 1, hk, c, hc => by
    have b := h (k + 1) (by omega)
    rcases List.mem_append.mp hc with hc | hc
    · rcases List.mem_append.mp hc with hc | hc
      · exact hgJ_n h k (by omega) c hc
      · split at hc
        · rw [List.mem_singleton.mp hc]
          decide
        · exact absurd hc List.not_mem_nil
    · have w := wr_dg (nu.getD (k + 1) 0).toNat (by omega)
      rw [show (((nu.getD (k + 1) 0).toNat : Nat) : Int) = nu.getD (k + 1) 0 by omega] at w
      exact of_decide_eq_true (List.all_eq_true.mp w c hc)
section
variable {σ σ0 : MS} {Q : MQ9} {z z' : Nat} {E : TE} {H : HY9} {S Lt : List Int} {s : TS} {b : BK9} {g : HG9}
theorem TI.hg {p : Int} (h : TI (p + 10) 0 (tx0 s)) (hl : Lt.length ≤ 9) (hs : smB Lt) : TI p 0 (hgS Lt s) := by
  obtain ⟨⟨a1, a2, a3, a4⟩, b1, c1, d1, e1, f1, g1⟩ := h
  refine ⟨⟨a1, a2, a3, ?_⟩, b1, c1, d1, e1, f1, ?_⟩
  · intro c hc
    have hc : c ∈ (Lt ++ [32]) ++ [] := hc
    rw [List.append_nil] at hc
    rcases List.mem_append.mp hc with h | h
    · have := hs c h
      unfold okC
      omega
    · rw [List.mem_singleton.mp h]
      unfold okC
      decide
  · have g1 : ((suM s.2.2.2.2.1.1 : Nat) : Int) + ((suM ([] : List (List Int)) : Nat) : Int) + (([] : List Int).length : Int) + (p + 10) ≤ s.1.1 + 100 := g1
    show ((suM s.2.2.2.2.1.1 : Nat) : Int) + ((suM ([] : List (List Int)) : Nat) : Int) + (((Lt ++ [32]) ++ []).length : Int) + p ≤ s.1.1 + 100
    rw [List.append_nil, List.length_append]
    have e : ([32] : List Int).length = 1 := rfl
    have e2 : ([] : List Int).length = 0 := rfl
    omega
theorem EI.hg (h : EI E) (hl : Lt.length ≤ 32) (hs : smB Lt) : EI (hgE E Lt) := ⟨h.1, h.2.1, ⟨hl, hs⟩, (show (0 : Int) ≤ 1 ∧ (1 : Int) ≤ 2 by decide)⟩
theorem PlS.hg (h : PlS (tx0 s)) (h0 : 0 ≤ s.1.1) (hl : Lt.length ≤ 32) : PlS (hgS Lt s) := ⟨⟨by
  show ((((Lt ++ [32]) ++ []).length : Nat) : Int) ≤ s.1.1 + 100
  rw [List.append_nil, List.length_append]
  have e : ([32] : List Int).length = 1 := rfl
  omega, h.1.2⟩, h.2⟩
theorem Setter_heading.c {at9 l : Nat} {o : Int} {M nu T : List Int} (hM : mX σ 3 = M) (hM4 : M.length ≤ 4000) (hL : LnM σ M (mlL M)) (hat : at9 < (mlL M).length) (hl : lvL (sgT M ((mlL M).getD at9 (0, 0)).1 ((mlL M).getD at9 (0, 0)).2) = (l : Int)) (hl3 : 1 ≤ l ∧ l ≤ 3) (hsk : ((mlL M).getD at9 (0, 0)).1 + (l + 1) ≤ ((mlL M).getD at9 (0, 0)).2) (hT : T = tpT (sgT M (((mlL M).getD at9 (0, 0)).1 + (l + 1)) ((mlL M).getD at9 (0, 0)).2)) (hTb : smB T) (hT4 : T.length ≤ 8000) (hB : TbB E H S [] 0 o b) (hTI : TI ((suM g.1 : Nat) + 110) 0 (tx0 b.1)) (hHd : HdB g) (hSv : ∀ k, k < 13 → mV σ 24 k = S.getD k 0) (hHy : HyC σ H.2.1 H.2.2.1 H.2.2.2.1 H.2.2.2.2) (hK : BkC σ E z z' b) (h16 : mV σ 127 16 = o) (hg : HdC σ z g) (hn : hol σ 210 nu) (hnl : nu.length = 4) (hnb : ∀ k, k < 4 → 0 ≤ nu.getD k 0 ∧ nu.getD k 0 ≤ (g.1.length : Int)) (hLt : Lt = hgJ (hgN nu l) l) (hy : ∀ b' g' σ', hgD o E H S Lt l T b g = .inl (b', g') → BkC σ' (E.1, E.2.1, Lt, E.2.2.2) z z' b' → HdC σ' z g' → hol σ' 210 (hgN nu l) → FrHd z σ σ' → Q (.inl none) σ') (hf : ∀ e σ', hgD o E H S Lt l T b g = .inr e → TxF σ' e → FrHd z σ σ' → Q (.inr (exN 0)) σ') : Setter_heading (at9 : Int) σ Q := by
  obtain ⟨hE, hE2, hS, hb, hP6, hh, ho, hTI0, hPl, hGB, hAl⟩ := hB
  obtain ⟨hR, hGa, h140, h142, h144, hbg⟩ := hK
  have hKZ := hR.2.1.2.1
  have hz := hKZ.2.2.1
  have hz' := hKZ.2.2.2.1
  have hne := hR.2.1.2.2
  have hB0 := hR.2.1.1
  refine hea_A (w := (b.1.1.1, b.1.1.2.1)) hM hM4 hL hat hl hl3 hz hB0 hg.1 hn hnl hnb hR.1 (fun h60 σ1 f1 e35 n1 => ?_) (fun h60 hx => hf _ _ (by unfold hgD; rw [if_pos h60]) hx ⟨fun _ _ _ => rfl, rfl, fun y k a _ _ _ _ _ _ => wV_ne (Or.inl a), fun _ _ _ => rfl⟩)
  have nb := hgN_b (l := l) (m := (g.1.length : Int)) (by omega) hnb
  have nb6 : ∀ k, k < 4 → 0 ≤ (hgN nu l).getD k 0 ∧ (hgN nu l).getD k 0 ≤ 60 := fun k hk => by
    have := nb k hk
    omega
  have ll : Lt.length ≤ 9 := by
    rw [hLt]
    have := hgJ_l nb6 l hl3.2
    omega
  have ls : smB Lt := by
    rw [hLt]
    exact hgJ_s l
  have lso : ∀ c ∈ Lt, sbl c = false := fun c hc => sbl_sm (ls c hc) (by
    rw [hLt] at hc
    exact hgJ_n nb6 l hl3.2 c hc)
  have hEh := hE.hg (Lt := Lt) (by omega) ls
  have hTIh : TI ((suM g.1 : Nat) + 100 : Int) 0 (hgS Lt b.1) := TI.hg (p := (suM g.1 : Nat) + 100) (by
    rw [show ((suM g.1 : Nat) : Int) + 100 + 10 = (suM g.1 : Nat) + 110 by omega]
    exact hTI) ll ls
  have hR1 : RdC σ1 (hgE E Lt) z z' b.1 := hR.lt f1 (by rw [e35, hLt])
  have eD : ∀ r, ¬ 60 ≤ g.1.length → (hgD o E H S Lt l T b g = r ↔ (match wkD 30 (hgE E Lt) false [] T (hgS Lt b.1) with
    | .inr e => (.inr e : (BK9 × HG9) ⊕ (Int × Int × Int))
    | .inl s1 => hgP o H S Lt l s1 b g) = r) := fun r h => by
    unfold hgD
    rw [if_neg h]
    exact Iff.rfl
  have x1 : ∀ q, q ≠ z + 35 → mX σ1 q = mX σ q := f1.1
  have fd1 : FrHd z σ σ1 := ⟨fun q _ a => x1 q (fun e => a (by rw [e]; unfold HdX; simp)), f1.2.1, fun y k _ _ _ a _ _ _ => f1.2.2 y k a, fun q a c => x1 q (by omega)⟩
  have fdB : ∀ σ2, FrHb z' σ1 σ2 → FrHd z σ σ2 := fun σ2 f2 => ⟨fun q a c => (f2.1 q a (fun e => c (by rw [e]; unfold HdX; simp))).trans (fd1.1 q a c), f2.2.2.1.trans fd1.2.1, fun y k a1 a2 a3 a4 a5 a6 a7 => (f2.2.2.2 y k a1 a2 a6).trans (fd1.2.2.1 y k a1 a2 a3 a4 a5 a6 a7), fun q a c => (f2.2.1 q (by omega) (by omega)).trans (fd1.2.2.2 q a c)⟩
  refine hea_B (T := T) ((x1 3 (by omega)).trans hM) hM4 ⟨(x1 _ (by omega)).trans hL.1, (x1 _ (by omega)).trans hL.2.1, (x1 _ (by omega)).trans hL.2.2⟩ hat hl3 hsk hT hTb hT4 hEh hR1 (hTIh.mo (by omega) (Int.le_refl 0)) lso (by omega) (fun s1 σ2 w1 u2 r2 f2 => ?_) (fun e σ2 w1 q2 f2 => hf e σ2 ((eD _ (by omega)).mpr (by rw [w1])) q2 (fdB σ2 f2))
  have ti1 := wkD_ti hEh (by omega : (0 : Int) ≤ (suM g.1 : Nat) + 100) (Int.le_refl 0) hTIh (fun w hw => absurd hw List.not_mem_nil) hTb w1
  have pl1 := (plc_wk s1 w1).2 (hPl.hg hTI0.1.1.1 (by omega))
  have wge : b.1.1.1 ≤ s1.1.1 := (plc_wk s1 w1).1
  have grow := gr_wk s1 w1
  have lp := pkL_q (L := s1.2.1)
  have t7 := ti1.2.2.2.2.2.2
  have t11 := ti1.1.1.2
  have okU : okK (pkL s1.2.1) := pkL_ok ti1.1.2.2.2
  have fd2 := fdB σ2 f2
  have b2 : mB σ2 0 = z := r2.2.1.1
  have x2 : ∀ q, q ∉ TXX → q ≠ 206 → q ≠ z + 35 → mX σ2 q = mX σ q := fun q a c d => (f2.1 q a c).trans (x1 q d)
  have tz : ∀ j, j = 14 ∨ j = 16 ∨ j = 18 ∨ j = 20 ∨ j = 22 → mX σ2 (z + j) = mX σ (z + j) := fun j hj => x2 (z + j) (by
    unfold TXX
    simp only [List.mem_cons, List.not_mem_nil, or_false]
    omega) (by omega) (by omega)
  refine hea_C1 (g := g) (by unfold Rg; omega) hz b2 u2 okU (by omega) ⟨(tz 14 (by omega)).trans hg.1.1, (tz 16 (by omega)).trans hg.1.2⟩ h60 ((tz 18 (by omega)).trans hg.2.1) hHd.2.1 (by omega) (fun σ3 s3 l3 u3 x3 e3 => ?_)
  have e32 : σ3.2.2 = σ2.2.2 := congrArg Prod.snd e3
  have e31 : mV σ3 = mV σ2 := congrArg Prod.fst e3
  have b3 : mB σ3 0 = z := by
    rw [show mB σ3 = mB σ2 from congrArg Prod.fst e32]
    exact b2
  have hU3 : okK ((pkL s1.2.1).map boC) := bo_ok okU
  have v3 : ∀ y k, y ≠ 22 → y ≠ 86 → ¬ ((y = 49 ∨ y = 163) ∧ (k = 12 ∨ k = 13)) → y ≠ 210 → mV σ3 y k = mV σ y k := fun y k a c d e => by
    rw [e31]
    exact (f2.2.2.2 y k a c d).trans (f1.2.2 y k e)
  have y3 : ∀ q, q ∉ TXX → q < 49 ∨ (86 ≤ q ∧ q < 163) → mX σ3 q = mX σ q := fun q a c => by
    have h87 : q ≠ 87 := fun e => a (by rw [e]; decide)
    exact (x3 q h87 (by omega) (by omega) (by omega)).trans (x2 q a (by omega) (by omega))
  have r3 : RdC σ3 (hgE E Lt) z z' (tx0 s1) := by
    obtain ⟨⟨r1, r2⟩, ⟨r3, r4, r5⟩, r6, ⟨⟨m1, m2, m3⟩, ⟨m4, m5⟩, m6, m7, m8⟩, r7, r8⟩ := r2
    have sh : ∀ {y : Nat} {R : List (List Int)}, shR σ2 y R → (y = z + 1 ∨ y = z + 6 ∨ y = z + 24) → shR σ3 y R := fun h a => ⟨(x3 _ (by omega) (by omega) (by omega) (by omega)).trans h.1, (x3 _ (by omega) (by omega) (by omega) (by omega)).trans h.2⟩
    have eB : mB σ3 = mB σ2 := congrArg Prod.fst e32
    exact ⟨⟨by rw [e31]; exact r1, by rw [e31]; exact r2⟩, ⟨b3, ⟨by rw [eB]; exact r4.1, by rw [eB]; exact r4.2.1, r4.2.2⟩, r5⟩, r6.cg (x3 _ (by omega) (by omega) (by omega) (by omega)) (x3 _ (by omega) (by omega) (by omega) (by omega)) (x3 _ (by omega) (by omega) (by omega) (by omega)), ⟨⟨sh m1 (by omega), sh m2 (by omega), (x3 _ (by omega) (by omega) (by omega) (by omega)).trans m3⟩, ⟨sh m4 (by omega), (x3 _ (by omega) (by omega) (by omega) (by omega)).trans m5⟩, by rw [e31]; exact m6, by rw [e31]; exact m7, (x3 _ (by omega) (by omega) (by omega) (by omega)).trans m8⟩, r7.cg hz' (fun q a c => x3 q (by omega) (by omega) (by omega) (by omega)) (by rw [e31]) (by rw [e31]), r8.cg (fun q a c => x3 q (by omega) (by omega) (by omega) (by omega))⟩
  have g3 : GaC σ3 ((s1.1.1, s1.1.2.1), b.2.1) [] := by
    have k : ∀ q, q = 130 ∨ q = 132 ∨ q = 134 ∨ q = 136 ∨ q = 138 → mX σ3 q = mX σ q := fun q hq => y3 q (by rcases hq with rfl | rfl | rfl | rfl | rfl <;> decide) (by omega)
    exact ⟨(k _ (by decide)).trans hGa.1, (k _ (by decide)).trans hGa.2.1, (k _ (by decide)).trans hGa.2.2.1, (k _ (by decide)).trans hGa.2.2.2.1, (k _ (by decide)).trans hGa.2.2.2.2.1, r3.1.1, r3.1.2⟩
  have gb3 : GB9 (-45) ((s1.1.1, s1.1.2.1), b.2.1) := by
    obtain ⟨g1, g2, g3, g4, g5⟩ := hGB
    have g4 : ((suM (b.2.1.1.map (·.1)) : Nat) : Int) + 20 * b.2.1.1.length ≤ b.1.1.1 := g4
    have g5 : 45 * (b.2.1.2.length : Int) ≤ 3 * b.1.1.1 + 75 * b.2.1.1.length + (-45) := g5
    refine ⟨ti1.1.1, ti1.1.2.1, g3, ?_, ?_⟩
    · show ((suM (b.2.1.1.map (·.1)) : Nat) : Int) + 20 * b.2.1.1.length ≤ s1.1.1
      omega
    · show 45 * (b.2.1.2.length : Int) ≤ 3 * s1.1.1 + 75 * b.2.1.1.length + (-45)
      omega
  have rgv : ∀ {V : List Int}, PlV V → ∀ v ∈ V, Rg v := fun h v hv => by
    have := h v hv
    unfold Rg
    omega
  have tl : s1.2.2.2.1.2.2.length = s1.2.2.2.1.1.length := ti1.2.2.1.2.1
  have tk : s1.2.2.2.2.1.2.length = s1.2.2.2.2.1.1.length := ti1.2.2.2.1.1
  have t6l : s1.2.2.2.1.1.length ≤ 60 := ti1.2.2.1.2.2.1
  have t6k : s1.2.2.2.2.1.1.length ≤ 100 := ti1.2.2.2.1.2.1
  have fd3 : FrHd z σ σ3 := ⟨fun q a c => (x3 q (fun e => a (by rw [e]; decide)) (fun e => c (by rw [e]; unfold HdX; simp)) (fun e => c (by rw [e]; unfold HdX; simp)) (fun e => c (by rw [e]; unfold HdX; simp))).trans (fd2.1 q a c), e32.trans fd2.2.1, fun y k a1 a2 a3 a4 a5 a6 a7 => by
    rw [e31]
    exact fd2.2.2.1 y k a1 a2 a3 a4 a5 a6 a7, fun q a c => (x3 q (by omega) (by omega) (by omega) (by omega)).trans (fd2.2.2.2 q a c)⟩
  have fdC : ∀ σ4, FrHcc z σ3 σ4 → FrHd z σ σ4 := fun σ4 f4 => ⟨fun q a c => (f4.1 q (fun e => c (List.mem_append_right _ e))).trans (fd3.1 q a c), f4.2.1.trans fd3.2.1, fun y k a1 a2 a3 a4 a5 a6 a7 => (f4.2.2 y k a1 a3 a5 a7).trans (fd3.2.2.1 y k a1 a2 a3 a4 a5 a6 a7), fun q a c => (f4.1 q (fun e => by
    unfold HcX at e
    simp only [List.mem_cons, List.not_mem_nil, or_false] at e
    omega)).trans (fd3.2.2.2 q a c)⟩
  have eP : ∀ r, (hgD o E H S Lt l T b g = r ↔ hgP o H S Lt l s1 b g = r) := fun r => (eD r (by omega)).trans (by rw [w1])
  refine hea_C2 (H := H) (l0 := b.1.2.2.2.1.1.length) (k0 := b.1.2.2.2.2.1.1.length) (Lt := Lt) (A := g.2.2) (F := flS b (max 1 (S.getD 8 0))) hS hz b3 u3 (by rw [List.length_map]; omega) hU3 (bo_bk okU bkE.pk) ho ((v3 _ _ (by decide) (by decide) (by decide) (by decide)).trans h16) (fun k hk => (v3 _ _ (by decide) (by decide) (by omega) (by decide)).trans (hSv k hk)) ⟨hHy.1.cg (y3 _ (by decide) (by omega)) (y3 _ (by decide) (by omega)), hHy.2.1.cg (y3 _ (by decide) (by omega)) (y3 _ (by decide) (by omega)), (v3 _ _ (by decide) (by decide) (by decide) (by decide)).trans hHy.2.2.1, (v3 _ _ (by decide) (by decide) (by decide) (by decide)).trans hHy.2.2.2⟩ hb r3.2.2.2.1.2.2.2.2 (by omega) ((x3 _ (by omega) (by omega) (by omega) (by omega)).trans ((tz 20 (by omega)).trans hg.2.2.1)) ((x3 _ (by omega) (by omega) (by omega) (by omega)).trans ((tz 22 (by omega)).trans hg.2.2.2)) (by have := hHd.2.2; omega) g3 gb3 ((v3 _ _ (by decide) (by decide) (by decide) (by decide)).trans hbg) r3.2.2.2.1.1.2.2 r3.2.2.2.1.2.1.2 ⟨by show s1.2.2.2.1.2.2.length ≤ 60; omega, by show _ ≤ s1.2.2.2.1.2.2.length; rw [tl]; exact grow.1⟩ (rgv pl1.2.1) ⟨by show s1.2.2.2.2.1.2.length ≤ 100; omega, by show _ ≤ s1.2.2.2.2.1.2.length; rw [tk]; exact grow.2.1⟩ (rgv pl1.2.2.1) rfl rfl (fun G1 σ4 q1 q2 q3 q4 q5 q6 q7 q8 => ?_) (fun e σ4 q1 q2 q3 => hf e σ4 ((eP _).mpr ?_) q2 (fdC σ4 q3))
  · have k4 : ∀ q, q < 112 ∨ 139 ≤ q → q ≠ z + 11 → q ≠ z + 20 → q ≠ z + 22 → q ≠ z + 29 → mX σ4 q = mX σ3 q := fun q a b c d e => q3.q a b c d e
    have sh : ∀ {y : Nat} {R : List (List Int)}, shR σ3 y R → (y = z + 1 ∨ y = z + 6 ∨ y = z + 24) → shR σ4 y R := fun h a => ⟨(k4 _ (by omega) (by omega) (by omega) (by omega) (by omega)).trans h.1, (k4 _ (by omega) (by omega) (by omega) (by omega) (by omega)).trans h.2⟩
    have v4 : ∀ y k, (y = 49 ∨ y = 163) → mV σ4 y k = mV σ3 y k := fun y k a => q3.2.2 y k (by omega) (by omega) (by omega) (by omega)
    have eB : mB σ4 = mB σ3 := congrArg Prod.fst q3.2.1
    refine hy (txM s1 G1.1 b.1.2.2.2.1.1.length b.1.2.2.2.2.1.1.length (crF (foP ((pkL s1.2.1).map boC)) (flS b (max 1 (S.getD 8 0))).length (hgX H (S.getD 0 0) ((Lt.length : Int) + 1) ((pkL s1.2.1).map boC))), G1.2, b.2.2.1, true) (g.1 ++ [ms7 (pkL s1.2.1)], g.2.1 ++ [(l : Int)], g.2.2 ++ [((flS b (max 1 (S.getD 8 0))).length : Int)]) σ4 ((eP _).mpr ?_) ⟨?_, ?_, ?_, ?_, ?_, ?_⟩ ⟨⟨?_, ?_⟩, ?_, q7, q8⟩ (fun k hk => ?_) (fdC σ4 q3)
    · unfold hgP
      rw [show ((s1.1.1, s1.1.2.1), b.2.1.1, flS b (max 1 (S.getD 8 0))) = ((((s1.1.1, s1.1.2.1), b.2.1) : GS9).1, (((s1.1.1, s1.1.2.1), b.2.1) : GS9).2.1, flS b (max 1 (S.getD 8 0))) from rfl, q1]
    · obtain ⟨⟨r1, r2⟩, ⟨r3, r4, r5⟩, r6, ⟨⟨m1, m2, m3⟩, ⟨m4, m5⟩, m6, m7, m8⟩, r7, r8⟩ := r3
      exact ⟨⟨q2.2.2.2.2.2.1, q2.2.2.2.2.2.2⟩, ⟨by rw [eB]; exact b3, ⟨by rw [eB]; exact r4.1, by rw [eB]; exact r4.2.1, hz, hz', fun _ => r5⟩, r5⟩, r6.cg (k4 _ (by omega) (by omega) (by omega) (by omega) (by omega)) (k4 _ (by omega) (by omega) (by omega) (by omega) (by omega)) (k4 _ (by omega) (by omega) (by omega) (by omega) (by omega)), ⟨⟨sh m1 (by omega), sh m2 (by omega), q5⟩, ⟨sh m4 (by omega), q6⟩, (v4 _ _ hz).trans m6, (v4 _ _ hz).trans m7, (k4 _ (by omega) (by omega) (by omega) (by omega) (by omega)).trans m8⟩, KB.cg (E := (E.1, E.2.1, Lt, E.2.2.2)) hz' r7 (fun q a c => k4 q (by omega) (by omega) (by omega) (by omega) (by omega)) (v4 _ _ hz') (v4 _ _ hz'), KU.cg (E := (E.1, E.2.1, Lt, E.2.2.2)) r8 (fun q a c => k4 q (by omega) (by omega) (by omega) (by omega) (by omega))⟩
    · exact q2
    · exact (k4 140 (by omega) (by omega) (by omega) (by omega) (by omega)).trans ((y3 140 (by decide) (by omega)).trans h140)
    · exact (k4 142 (by omega) (by omega) (by omega) (by omega) (by omega)).trans ((y3 142 (by decide) (by omega)).trans h142)
    · exact (k4 144 (by omega) (by omega) (by omega) (by omega) (by omega)).trans ((y3 144 (by decide) (by omega)).trans h144)
    · exact q4
    · exact (k4 _ (by omega) (by omega) (by omega) (by omega) (by omega)).trans s3.1
    · exact (k4 _ (by omega) (by omega) (by omega) (by omega) (by omega)).trans s3.2
    · exact (k4 _ (by omega) (by omega) (by omega) (by omega) (by omega)).trans l3
    · rw [q3.2.2 210 k (by decide) (by decide) (by omega) (by omega), e31, f2.2.2.2 210 k (by decide) (by decide) (by omega)]
      exact n1 k hk
  · unfold hgP
    rw [show ((s1.1.1, s1.1.2.1), b.2.1.1, flS b (max 1 (S.getD 8 0))) = ((((s1.1.1, s1.1.2.1), b.2.1) : GS9).1, (((s1.1.1, s1.1.2.1), b.2.1) : GS9).2.1, flS b (max 1 (S.getD 8 0))) from rfl, q1]
end
theorem wr_po : ∀ n : Nat, n < 64 → 0 < (wrN (n : Int) 1).length := by decide +kernel
theorem hgJ_ne {nu : List Int} (h : ∀ k, k < 4 → 0 ≤ nu.getD k 0 ∧ nu.getD k 0 ≤ 60) : ∀ l, (1 ≤ l ∧ l ≤ 3) → hgJ nu l ≠ []
  | 0, h9 => absurd h9.1 (by decide)
  | k + 1, hk => fun e => by
    have b := h (k + 1) (by omega)
    have w := wr_po (nu.getD (k + 1) 0).toNat (by omega)
    rw [show (((nu.getD (k + 1) 0).toNat : Nat) : Int) = nu.getD (k + 1) 0 by omega] at w
    have := congrArg List.length e
    have : (hgJ nu k ++ (if 1 ≤ k then [46] else []) ++ wrN (nu.getD (k + 1) 0) 1).length = 0 := this
    rw [List.length_append] at this
    omega
