/-! HEADINGS: the reference, the whole -/
section
variable {σ σ0 : MS} {Q : MQ9} {nw : Nat} {H : HY9} {S Lt : List Int} {o : Int} {b : BK9} {g : HG9} {E : TE}
theorem FrHh.z {S9 K9 : List Nat} {σ1 : MS} (h : FrZ S9 K9 σ σ1) (hs : ∀ x ∈ S9, x ∈ hdSS ∨ x ∈ BkS ∨ x ∈ [254, 255]) (hk : ∀ x ∈ K9, x ∈ 74 :: 84 :: BkK) : FrHh nw σ σ1 := ⟨h.1, h.2.1, fun z k n => h.2.2 z k (fun e => n (by
  rcases hs z e with h | h | h
  · exact Or.inr (Or.inl h)
  · exact Or.inl (Or.inr (Or.inl h))
  · refine Or.inl (Or.inr (Or.inr ?_))
    simp only [List.mem_cons, List.not_mem_nil, or_false] at h
    rcases h with rfl | rfl
    · exact ⟨by decide, Or.inl rfl⟩
    · exact ⟨by decide, Or.inl rfl⟩)) (by
  by_cases h6 : z = 246
  · refine Or.inr (fun e => n ?_)
    have := hk k e
    rcases List.mem_cons.mp this with h | h
    · exact Or.inr (Or.inr (Or.inl ⟨h6, Or.inl h⟩))
    · rcases List.mem_cons.mp h with h | h
      · exact Or.inr (Or.inr (Or.inl ⟨h6, Or.inr h⟩))
      · exact Or.inl (Or.inl ⟨h6, h⟩)
  · exact Or.inl h6)⟩
theorem hdW_60 {nw n k : Nat} (hn : n < 60) (h : ¬ k / 60 = nw) : k ≠ 60 * nw + n := fun e => h (by omega)
theorem FrHh.r {n l : Nat} {σ1 : MS} (h : FrHr n nw l σ σ1) (hn : n < 60) : FrHh nw σ σ1 := by
  obtain ⟨h1, h2, h3, h4, h5, h6⟩ := h
  refine ⟨h1.1, h1.2.1, fun z k m => ?_⟩
  have m1 : ¬ AlB nw z k := fun e => m (Or.inl e)
  have m2 : ∀ y, y ∈ hdS1 → z = y → ¬ k / hdW y = nw := fun y hy e e2 => m (Or.inr (Or.inr (Or.inr ⟨by rw [e]; exact hy, by rw [e]; exact e2⟩)))
  by_cases e287 : z = 287
  · subst e287
    exact h5 287 k (Or.inl rfl) (hdW_60 hn (m2 287 (by decide) rfl))
  by_cases e289 : z = 289
  · subst e289
    exact h5 289 k (Or.inr rfl) (hdW_60 hn (m2 289 (by decide) rfl))
  by_cases e292 : z = 292
  · subst e292
    refine h6 k (fun e => m2 292 (by decide) rfl ?_)
    show k / 1 = nw
    rw [Nat.div_one]
    exact e
  by_cases e254 : z = 254
  · exact absurd (Or.inr (Or.inr ⟨by rw [e254]; decide, Or.inl (by rw [e254]; rfl)⟩)) m1
  by_cases e255 : z = 255
  · exact absurd (Or.inr (Or.inr ⟨by rw [e255]; decide, Or.inl (by rw [e255]; rfl)⟩)) m1
  refine h1.2.2 z k (fun e => ?_) ?_
  · simp only [List.mem_cons, List.not_mem_nil, or_false] at e
    omega
  · by_cases e6 : z = 246
    · refine Or.inr (fun e => m1 (Or.inl ⟨e6, ?_⟩))
      rw [List.mem_singleton.mp e]
      decide
    · exact Or.inl e6
theorem FrHh.t {n : Nat} {σ1 : MS} (h1 : FrZ [255, 286, 288] [74] σ σ1) (hn : n < 60) (h286 : ∀ k, ¬ k / 70000 = nw → mV σ1 286 k = mV σ 286 k) (h288 : ∀ k, k ≠ 60 * nw + n → mV σ1 288 k = mV σ 288 k) : FrHh nw σ σ1 := by
  refine ⟨h1.1, h1.2.1, fun z k m => ?_⟩
  have m1 : ¬ AlB nw z k := fun e => m (Or.inl e)
  have m2 : ∀ y, y ∈ hdS1 → z = y → ¬ k / hdW y = nw := fun y hy e e2 => m (Or.inr (Or.inr (Or.inr ⟨by rw [e]; exact hy, by rw [e]; exact e2⟩)))
  by_cases e286 : z = 286
  · subst e286
    exact h286 k (m2 286 (by decide) rfl)
  by_cases e288 : z = 288
  · subst e288
    exact h288 k (hdW_60 hn (m2 288 (by decide) rfl))
  by_cases e255 : z = 255
  · exact absurd (Or.inr (Or.inr ⟨by rw [e255]; decide, Or.inl (by rw [e255]; rfl)⟩)) m1
  refine h1.2.2 z k (fun e => ?_) ?_
  · simp only [List.mem_cons, List.not_mem_nil, or_false] at e
    omega
  · by_cases e6 : z = 246
    · refine Or.inr (fun e => m (Or.inr (Or.inr (Or.inl ⟨e6, Or.inl ?_⟩))))
      exact List.mem_singleton.mp e
    · exact Or.inl e6
theorem FrHh.u {σ1 : MS} (h : FrU 0 0 0 nw σ σ1) : FrHh nw σ σ1 := FrA.mo (FrB.u h) (fun z k a => Or.inl a)
theorem FrHh.tr {σ1 σ2 : MS} (h : FrHh nw σ σ1) (h' : FrHh nw σ1 σ2) : FrHh nw σ σ2 := FrA.tr h h'
theorem TI.ha {p : Int} {s : TS} (h : TI p 0 (hgS Lt s)) (hs : smB Lt) : TI p 0 (pfO (hgA Lt) (tx0 s)) := by
  obtain ⟨⟨a1, a2, a3, a4⟩, b1, c1, d1, e1, f1, g1⟩ := h
  have el : (hgA Lt ++ ([] : List Int)).length = ((Lt ++ [32]) ++ ([] : List Int)).length := by
    unfold hgA
    rw [List.append_nil, List.append_nil, List.length_append, List.length_append, List.length_map]
  refine ⟨⟨a1, a2, a3, ?_⟩, b1, c1, d1, e1, f1, ?_⟩
  · intro c hc
    have hc : c ∈ (hgA Lt) ++ [] := hc
    unfold hgA at hc
    rw [List.append_nil] at hc
    rcases List.mem_append.mp hc with h | h
    · obtain ⟨x, hx, e⟩ := List.mem_map.mp h
      have := hs x hx
      rw [← e]
      unfold okC
      omega
    · rw [List.mem_singleton.mp h]
      unfold okC
      decide
  · have g1 : ((suM s.2.2.2.2.1.1 : Nat) : Int) + ((suM ([] : List (List Int)) : Nat) : Int) + ((((Lt ++ [32]) ++ ([] : List Int)).length : Nat) : Int) + p ≤ s.1.1 + 100 := g1
    show ((suM s.2.2.2.2.1.1 : Nat) : Int) + ((suM ([] : List (List Int)) : Nat) : Int) + (((hgA Lt ++ ([] : List Int)).length : Nat) : Int) + p ≤ s.1.1 + 100
    rw [el]
    exact g1
theorem RxE.al {al : Int} (h : RxE σ E nw) (h0 : 0 < E.2.2.2) : RxE σ (E.1, E.2.1, E.2.2.1, al) nw := ⟨h.1, h.2.1, h.2.2.1, h.2.2.2.1, fun _ => h.2.2.2.2 h0⟩
theorem TtR.sn {σ1 : MS} {Ti : List (List Int)} {w : List Int} (h : TtR σ nw Ti) (h74 : mV σ1 246 74 = ((70000 * nw + suM Ti + w.length : Nat) : Int)) (h7 : mV σ1 287 (60 * nw + Ti.length) = ((70000 * nw + suM Ti : Nat) : Int)) (h8 : mV σ1 288 (60 * nw + Ti.length) = (w.length : Int)) (hA : holA σ1 286 (70000 * nw + suM Ti) w) (o7 : ∀ z k, z = 287 ∨ z = 288 → k ≠ 60 * nw + Ti.length → mV σ1 z k = mV σ z k) (o6 : ∀ k, k < 70000 * nw + suM Ti → mV σ1 286 k = mV σ 286 k) : TtR σ1 nw (Ti ++ [w]) := by
  refine ⟨by rw [h74, suM_sn]; omega, fun i hi => ?_⟩
  rw [List.length_append] at hi
  have hi : i < Ti.length + 1 := hi
  by_cases e : i = Ti.length
  · have e1 : (Ti ++ [w]).take i = Ti := by rw [e, List.take_left]
    have e2 : (Ti ++ [w]).getD i [] = w := by
      rw [e]
      unfold List.getD
      rw [List.getElem?_append_right (Nat.le_refl _), Nat.sub_self]
      rfl
    rw [e1, e2, e]
    exact ⟨h7, h8, hA⟩
  · have e1 : (Ti ++ [w]).take i = Ti.take i := List.take_append_of_le_length (by omega)
    have e2 : (Ti ++ [w]).getD i [] = Ti.getD i [] := by
      unfold List.getD
      rw [List.getElem?_append_left (by omega)]
    rw [e1, e2]
    obtain ⟨a1, a2, a3⟩ := h.2 i (by omega)
    have sm := suM_tk (W := Ti) (i := i) (by omega)
    exact ⟨(o7 _ _ (Or.inl rfl) (by omega)).trans a1, (o7 _ _ (Or.inr rfl) (by omega)).trans a2, a3.cg (fun k _ hk => o6 k (by omega))⟩
theorem flS_h (h8 : 0 ≤ S.getD 8 0) : flS b (max 1 (S.getD 8 0)) = b.2.1.2 ++ List.replicate (spB b.2.2.2 false (S.getD 8 0) 1).toNat (-2) := by
  unfold flS spB
  cases b.2.2.2
  · rfl
  · rw [if_pos rfl, if_pos ⟨rfl, rfl⟩, show max 1 (S.getD 8 0) = max (S.getD 8 0) 1 by omega]
theorem R_heading.p {l x0 : Nat} {T nu : List Int} (hl3 : 1 ≤ l ∧ l ≤ 3) (hT : SgR σ x0 T) (hTb : smB T) (hB : TbB E H S [] 0 o b) (hTI : TI ((suM g.1 : Nat) + 110) 0 (tx0 b.1)) (hHd : HdB g) (hR : BkR σ E nw b) (hfl : FlB b) (hsl : b.2.2.1.2.length = b.2.2.1.1.length) (hg : HdR σ nw b.2.1.2 g) (hn : hol σ 299 nu) (hnl : nu.length = 4) (hnb : ∀ k, k < 4 → 0 ≤ nu.getD k 0 ∧ nu.getD k 0 ≤ (g.1.length : Int)) (hLt : Lt = hgJ (hgN nu l) l) (hSv : ∀ k, k < 13 → mV σ 275 k = S.getD k 0) (hHy : HyR σ H.2.1 H.2.2.1 H.2.2.2.1 H.2.2.2.2) (ho : mV σ 246 29 = o) (hy : ∀ b' g' σ', hgD o E H S Lt l T b g = .inl (b', g') → BkR σ' (E.1, E.2.1, Lt, E.2.2.2) nw b' → HdR σ' nw b'.2.1.2 g' → hol σ' 299 (hgN nu l) → FrHh nw σ σ' → Q (.inl none) σ') (hf : ∀ e σ', hgD o E H S Lt l T b g = .inr e → TxR σ' e → UnB σ' → FrHh nw σ σ' → Q (.inl none) σ') : R_heading (l : Int) (x0 : Int) ((x0 + T.length : Nat) : Int) σ Q := by
  obtain ⟨hE, hE2, hS, hb, hP6, hh, hor, hTI0, hPl, hGB, hAl⟩ := hB
  have s8 := hS.2.2.2.2.2.2
  have n0 : 0 ≤ b.1.2.2.2.2.2.1.2.2 := by
    rw [← hAl]
    omega
  refine hr_A hR.2.1.1.1 hR.2.1.1.2 hg.1 hHd.1 hl3 hn hnl hnb (fun h60 σ1 f1 be h161 n1 t84 t300 => ?_) (fun h60 => R_fail.i ⟨fun h => absurd hR.1.1 h, fun _ => ⟨by decide, hf (9, b.1.1.1, b.1.1.2.1) _ (by unfold hgD; rw [if_pos h60]) ⟨wV_self, (wV_ne (Or.inr (by decide))).trans hR.1.2.1, (wV_ne (Or.inr (by decide))).trans hR.1.2.2.1⟩ ?_ (FrHh.z (S9 := []) (K9 := [28]) (FrZ.wf (by decide)) (by simp) (by decide))⟩⟩)
  · have nb := hgN_b (l := l) (m := (g.1.length : Int)) (by omega) hnb
    have nb6 : ∀ k, k < 4 → 0 ≤ (hgN nu l).getD k 0 ∧ (hgN nu l).getD k 0 ≤ 60 := fun k hk => by
      have := nb k hk
      omega
    rw [← hLt] at t84 t300
    have ll : Lt.length ≤ 9 := by
      rw [hLt]
      have := hgJ_l nb6 l hl3.2
      omega
    have ls : smB Lt := by
      rw [hLt]
      exact hgJ_s l
    have lso : ∀ c ∈ Lt, ¬ c = 32 := fun c hc => by
      rw [hLt] at hc
      exact hgJ_n nb6 l hl3.2 c hc
    have lne : Lt ≠ [] := by
      rw [hLt]
      exact hgJ_ne nb6 l hl3
    have hEh := hE.hg (Lt := Lt) (by omega) ls
    have hTIh : TI ((suM g.1 : Nat) + 100 : Int) 0 (hgS Lt b.1) := TI.hg (p := (suM g.1 : Nat) + 100) (by
      rw [show ((suM g.1 : Nat) : Int) + 100 + 10 = (suM g.1 : Nat) + 110 by omega]
      exact hTI) ll ls
    have hTIA := hTIh.ha ls
    have hR1 : BkR σ1 (hgE E Lt) nw b := hR.lt f1 (by decide) (by decide) ⟨t84, t300⟩
    obtain ⟨r1, r2, r3, r4, ⟨r5, r6⟩, ⟨r7, r8⟩, r9⟩ := hR1
    have z1 : ∀ y j, y ∉ hgSS → y ≠ 246 → mV σ1 y j = mV σ y j := fun y j h h6 => f1.z h h6
    have k1 : ∀ j, j ∉ itKK → mV σ1 246 j = mV σ 246 j := fun j h => f1.f h (by decide)
    have sw := wkD_sw (A := Lt ++ [32]) (B := hgA Lt) (E := hgE E Lt) (a := false) (f := []) (T := T) (D := 30) (t := tx0 b.1) (hg_PfL ls lso)
    refine hr_B (n := g.1.length) r2.1.1 h60 hl3 (hT.cg (fun k => z1 _ _ (by decide) (by decide))) hTb hEh ls (by omega) (hTIA.mo (by omega) (Int.le_refl 0)) r1 r2 r3 r4 be ((z1 _ _ (by decide) (by decide)).trans hg.1) n0 t84 t300 (fun s1 σe σ2 w1 rx1 frh f2 => ?_) (fun e σe σ2 w1 q1 q2 frh f2 => ?_)
    · rcases sw with ⟨t, sA, sB⟩ | ⟨e, sA, sB⟩
      · have es : s1 = pfO (hgA Lt) t := Sum.inl.inj (w1.symm.trans sB)
        rw [es] at w1 rx1
        have wA : wkD 30 (hgE E Lt) false [] T (hgS Lt b.1) = .inl (pfO (Lt ++ [32]) t) := sA
        have tiA := wkD_ti hEh (by omega : (0 : Int) ≤ (suM g.1 : Nat) + 100) (Int.le_refl 0) hTIA (fun w hw => absurd hw List.not_mem_nil) hTb w1
        have gr := gr_wk _ w1
        have zn := zn_wk (E := hgE E Lt) (show (1 : Int) < 2 by decide) _ w1
        obtain ⟨⟨tl, etl⟩, tk, etk⟩ := apd_wk _ w1
        have etl : t.2.2.2.1.2.2 = b.1.2.2.2.1.2.2 ++ tl := etl
        have etk : t.2.2.2.2.1.2 = b.1.2.2.2.2.1.2 ++ tk := etk
        have zn : t.2.2.2.2.2.1 = ([], [], b.1.2.2.2.2.2.1.2.2) := zn
        have wge : b.1.1.1 ≤ t.1.1 := (plc_wk _ w1).1
        have rm := rx1.2.2.1
        have al : (0 : Int) < (hgE E Lt).2.2.2 := (show (0 : Int) < 1 by decide)
        have fz := f2.fz
        generalize hL0 : hgA Lt ++ t.2.1 = L0
        have okL : okK L0 := by
          rw [← hL0]
          exact tiA.1.2.2.2
        have t7 : ((suM t.2.2.2.2.1.1 : Nat) : Int) + ((suM t.2.2.2.2.2.1.1 : Nat) : Int) + (L0.length : Int) + ((suM g.1 : Nat) + 100) ≤ t.1.1 + 100 := by
          rw [← hL0]
          exact tiA.2.2.2.2.2.2
        have t11 : 0 ≤ t.1.1 ∧ t.1.1 ≤ 60000 := tiA.1.1
        have h16 : mV σ2 246 16 = (L0.length : Int) := by
          have : mV σ2 246 16 = ((0 + (hgA Lt ++ t.2.1).length : Nat) : Int) := rx1.2.1.1
          rw [this, hL0, Nat.zero_add]
        have hG0 : hoG σ2 254 255 0 L0 := by
          have : hoG σ2 254 255 0 (hgA Lt ++ t.2.1) := rx1.2.1.2
          rw [hL0] at this
          exact this
        have hd7 : ∀ c r, L0 = c :: r → ¬ c % 128 = 32 := fun c r h => by
          rw [← hL0] at h
          unfold hgA at h
          cases hLt9 : Lt with
          | nil => exact absurd hLt9 lne
          | cons x y =>
            rw [hLt9] at h
            have h1 : x + 128 = c := (List.cons.inj h).1
            have h2 := ls x (by rw [hLt9]; exact List.mem_cons_self)
            have h3 := lso x (by rw [hLt9]; exact List.mem_cons_self)
            omega
        have lpk := pkL_q (L := L0)
        have nw1 := r2.1.1
        have e74 : mV σ2 246 74 = ((70000 * nw + suM g.1 : Nat) : Int) := (fz.f (by decide) (by decide)).trans ((frh.1.f (by decide) (by decide)).trans ((k1 74 (by decide)).trans hg.2.1.1))
        have key := hr_316 (Q := Q) (σ0 := σ2) (L := L0) (h9 := 60 * nw + g.1.length) (tt := 70000 * nw + suM g.1) okL (by omega) (fun c r h => sbl_nb (hd7 c r h)) (by omega) (fun σ3 f3 g3 t74 tA tO => ?_) h16 L0 [] σ2 rfl FrZ.rf hG0 e74 (fun i hi => absurd hi (Nat.not_lt_zero _)) (fun _ _ => rfl)
        · exact key
        have k3 : ∀ j, j ≠ 74 → mV σ3 246 j = mV σ2 246 j := fun j h => f3.f (by rw [List.mem_singleton]; exact h) (by decide)
        have z3 : ∀ y j, y ≠ 255 → y ≠ 286 → y ≠ 246 → mV σ3 y j = mV σ2 y j := fun y j a c d => f3.z (by simp only [List.mem_cons, List.not_mem_nil, or_false]; omega) d
        have z2e : ∀ y j, y ∉ TRS → y ≠ 246 → mV σ2 y j = mV σe y j := fun y j h h6 => fz.z h h6
        have ze1 : ∀ y j, y ∉ [254, 255, 287, 289, 292] → y ≠ 246 → mV σe y j = mV σ1 y j := fun y j h h6 => frh.1.z h h6
        have e287 : mV σ3 287 (60 * nw + g.1.length) = ((70000 * nw + suM g.1 : Nat) : Int) := (z3 _ _ (by decide) (by decide) (by decide)).trans ((z2e _ _ (by decide) (by decide)).trans (frh.2.2.2.1.trans ((k1 74 (by decide)).trans hg.2.1.1)))
        have e16 : mV σ3 246 16 = (L0.length : Int) := (k3 _ (by decide)).trans h16
        refine R_heading_316.i ⟨by unfold Rg; omega, fun _ => ⟨by omega, by omega, by omega, by omega, ?_⟩, fun h => absurd h (by omega)⟩
        rw [Int.toNat_natCast, t74, e287, show ((70000 * nw + suM g.1 + (pkL L0).length : Nat) : Int) - ((70000 * nw + suM g.1 : Nat) : Int) = ((pkL L0).length : Int) by omega]
        refine ⟨by unfold Rg; omega, ?_⟩
        have f4 : FrZ [255, 286, 288] [74] σ2 (wV σ3 288 (60 * nw + g.1.length) ((pkL L0).length : Int)) := (f3.mo (by decide) (by decide)).tr (FrZ.wz (by decide))
        have v4 : ∀ y j, y ≠ 288 → mV (wV σ3 288 (60 * nw + g.1.length) ((pkL L0).length : Int)) y j = mV σ3 y j := fun y j h => wV_ne (Or.inl h)
        have w4 : mV (wV σ3 288 (60 * nw + g.1.length) ((pkL L0).length : Int)) 288 (60 * nw + g.1.length) = ((pkL L0).length : Int) ∧ ∀ j, j ≠ 60 * nw + g.1.length → mV (wV σ3 288 (60 * nw + g.1.length) ((pkL L0).length : Int)) 288 j = mV σ3 288 j := ⟨wV_self, fun j hj => wV_ne (Or.inr hj)⟩
        generalize wV σ3 288 (60 * nw + g.1.length) ((pkL L0).length : Int) = σ4 at f4 v4 w4
        rw [show mV σ3 246 16 = mV σ4 246 16 from (v4 _ _ (by decide)).symm]
        have k4 : ∀ j, j ≠ 74 → mV σ4 246 j = mV σ2 246 j := fun j h => (v4 _ _ (by decide)).trans (k3 j h)
        have z4 : ∀ y j, y ≠ 255 → y ≠ 286 → y ≠ 288 → y ≠ 246 → mV σ4 y j = mV σ2 y j := fun y j a c d e => (v4 y j d).trans (z3 y j a c e)
        have kk : ∀ j, j ∉ 74 :: 16 :: TRK → mV σ4 246 j = mV σ1 246 j := fun j h => by
          have h1 : j ≠ 74 := fun e => h (by rw [e]; exact List.mem_cons_self)
          have h2 : j ≠ 16 := fun e => h (by rw [e]; exact List.mem_cons_of_mem _ List.mem_cons_self)
          have h3 : j ∉ TRK := fun e => h (List.mem_cons_of_mem _ (List.mem_cons_of_mem _ e))
          exact (k4 j h1).trans ((fz.f h3 (by decide)).trans (frh.1.f (by rw [List.mem_singleton]; exact h2) (by decide)))
        have zz : ∀ y j, y ∉ 286 :: 287 :: 288 :: 289 :: 292 :: TRS → y ≠ 246 → mV σ4 y j = mV σ1 y j := fun y j h h6 => by
          have m : ∀ x, x ∈ 286 :: 287 :: 288 :: 289 :: 292 :: TRS → y ≠ x := fun x hx e => h (by rw [e]; exact hx)
          exact (z4 y j (m 255 (by decide)) (m 286 (by decide)) (m 288 (by decide)) h6).trans ((z2e y j (fun e => h (List.mem_cons_of_mem _ (List.mem_cons_of_mem _ (List.mem_cons_of_mem _ (List.mem_cons_of_mem _ (List.mem_cons_of_mem _ e)))))) h6).trans (ze1 y j (fun e => by
            simp only [List.mem_cons, List.not_mem_nil, or_false] at e
            rcases e with e | e | e | e | e
            · exact m 254 (by decide) e
            · exact m 255 (by decide) e
            · exact m 287 (by decide) e
            · exact m 289 (by decide) e
            · exact m 292 (by decide) e) h6))
        have li4 : LiR σ4 b.2.1.1 := r1.2.2.2.cg (kk _ (by decide)) (kk _ (by decide)) (fun z k hz _ => zz z k (by
          unfold TRS
          simp only [List.mem_cons, List.not_mem_nil, or_false]
          omega) (by omega)) (fun k _ => ⟨zz _ _ (by decide) (by decide), zz _ _ (by decide) (by decide)⟩)
        have rg4 : RxG σ4 ((t.1.1, t.1.2.1), b.2.1.1, b.2.1.2) := ⟨(k4 _ (by decide)).trans rx1.1.1, (k4 _ (by decide)).trans rx1.1.2.1, (k4 _ (by decide)).trans rx1.1.2.2.1, li4⟩
        have hU : ((pkL (pfO (Lt ++ [32]) t).2.1).map boC) = pkL (L0.map rbC) := by
          rw [pkL_bo okL, ← hL0, hg_bo ls lso]
          rfl
        have hms : ms7 (pkL (pfO (Lt ++ [32]) t).2.1) = ms7 (pkL L0) := by
          rw [← hL0, hg_ms ls lso]
          rfl
        have eFl := flS_h (S := S) (b := b) s8.1
        have gb4 : GB9 90 ((t.1.1, t.1.2.1), b.2.1.1, b.2.1.2 ++ List.replicate (spB b.2.2.2 false (S.getD 8 0) 1).toNat (-2)) := by
          obtain ⟨q1, q2, q3, q4, q5⟩ := hGB
          have q4 : ((suM (b.2.1.1.map (·.1)) : Nat) : Int) + 20 * b.2.1.1.length ≤ b.1.1.1 := q4
          have q5 : 45 * (b.2.1.2.length : Int) ≤ 3 * b.1.1.1 + 75 * b.2.1.1.length + (-45) := q5
          refine ⟨tiA.1.1, tiA.1.2.1, q3, ?_, ?_⟩
          · show ((suM (b.2.1.1.map (·.1)) : Nat) : Int) + 20 * b.2.1.1.length ≤ t.1.1
            omega
          · show 45 * ((b.2.1.2 ++ List.replicate (spB b.2.2.2 false (S.getD 8 0) 1).toNat (-2 : Int)).length : Int) ≤ 3 * t.1.1 + 75 * b.2.1.1.length + 90
            rw [List.length_append, List.length_replicate]
            have : spB b.2.2.2 false (S.getD 8 0) 1 ≤ 3 := by
              unfold spB
              split <;> omega
            omega
        have tl1 : t.2.2.2.1.2.2.length = t.2.2.2.1.1.length := tiA.2.2.1.2.1
        have tk1 : t.2.2.2.2.1.2.length = t.2.2.2.2.1.1.length := tiA.2.2.2.1.1
        have t6l : t.2.2.2.1.1.length ≤ 60 := tiA.2.2.1.2.2.1
        have t6k : t.2.2.2.2.1.1.length ≤ 100 := tiA.2.2.2.1.2.1
        have tlp : b.1.2.2.2.1.2.2.length = b.1.2.2.2.1.1.length := hTI0.2.2.1.2.1
        have tkp : b.1.2.2.2.2.1.2.length = b.1.2.2.2.2.1.1.length := hTI0.2.2.2.1.1
        have gr1 : b.1.2.2.2.1.1.length ≤ t.2.2.2.1.1.length := gr.1
        have gr2 : b.1.2.2.2.2.1.1.length ≤ t.2.2.2.2.1.1.length := gr.2.1
        have un1 : 0 ≤ t.2.2.2.2.2.2 ∧ t.2.2.2.2.2.2 ≤ t.1.2.1 := by
          have : 0 ≤ t.2.2.2.2.2.2 ∧ t.2.2.2.2.2.2 + 0 ≤ t.1.2.1 ∧ 0 ≤ t.1.1 := tiA.2.2.2.2.2.1
          omega
        have n6 : b.1.2.2.2.2.2.1.2.2 ≤ 60 := hTI0.2.2.2.2.1.2.2.1
        have w85 : mV σ2 246 85 = t.2.2.2.2.2.2 := by
          have := rm.2.2.2.2.1.1
          rw [this]
          exact Int.add_zero _
        have fr04 : FrHh nw σ σ4 := (((FrHh.z f1 (by decide) (by decide)).tr (FrHh.r frh h60)).tr (FrHh.u f2)).tr (FrHh.t (n := g.1.length) f4 h60 (fun k hk => (v4 _ _ (by decide)).trans (tO k (by omega))) (fun k hk => (w4.2 k hk).trans (f3.z (by decide) (by decide))))
        have eD : ∀ r, (hgD o E H S Lt l T b g = r ↔ hgP o H S Lt l (pfO (Lt ++ [32]) t) b g = r) := fun r => by
          unfold hgD
          rw [if_neg (by omega), wA]
        have wt4 : WtR σ4 (b.1.2.2.2.2.2.1.2.2).toNat b.1.2.2.2.1.1.length b.1.2.2.2.2.1.1.length (L0.map rbC) t.2.2 := by
          obtain ⟨Wt, x1, x2, x3⟩ := rm.2.2.2.2.2 al
          have x3 : WtP (b.1.2.2.2.2.2.1.2.2).toNat b.1.2.2.2.1.1.length b.1.2.2.2.2.1.1.length (hgA Lt ++ t.2.1) t.2.2 Wt := x3
          rw [hL0] at x3
          refine ⟨Wt, (k4 _ (by decide)).trans x1, fun i hi => ?_, x3.bo okL⟩
          rw [z4 305 _ (by decide) (by decide) (by decide) (by decide), z4 306 _ (by decide) (by decide) (by decide) (by decide), z4 307 _ (by decide) (by decide) (by decide) (by decide)]
          exact x2 i hi
        refine hr_D (S := S) (H := H) (s1 := pfO (Lt ++ [32]) t) (n0 := b.2.1.1.length) (hp := g.1.length) (nw := nw) (L := L0.map rbC) (hg := (Lt.length : Int) + 1) (F := b.2.1.2) (w := (t.1.1, t.1.2.1)) (Ls := b.2.1.1) (bg := b.2.2.2) (o := o) (m0 := (b.1.2.2.2.2.2.1.2.2).toNat) (l0 := b.1.2.2.2.1.1.length) (k0 := b.1.2.2.2.2.1.1.length) (U := (pkL (pfO (Lt ++ [32]) t).2.1).map boC) (X := hgX H (S.getD 0 0) ((Lt.length : Int) + 1) ((pkL (pfO (Lt ++ [32]) t).2.1).map boC)) rfl h60 nw1 ((kk _ (by decide)).trans r2.1.2) (fun c hc => ?_) (by rw [List.length_map]; omega) (fun c r h => ?_) (fun h => ?_) ?_ (by rw [List.length_map]; exact (k4 _ (by decide)).trans h16) (by rw [kk _ (by decide), t84]) (by omega) hS (fun k hk => (zz _ _ (by decide) (by decide)).trans ((z1 _ _ (by decide) (by decide)).trans (hSv k hk))) ?_ hb ((kk _ (by decide)).trans h161) ((kk _ (by decide)).trans ((k1 29 (by decide)).trans ho)) rg4 gb4 wt4 (by omega) (by show t.2.2.2.1.2.2.length ≤ 60; omega) (by show t.2.2.2.2.1.2.length ≤ 100; omega) (by show t.2.2.2.2.2.1.2.1 = []; rw [zn]) ⟨(kk _ (by decide)).trans r5.1, fun i hi => ?_⟩ ((kk _ (by decide)).trans r6) hU rfl (fun G1 σ5 q1 q2 q3 q4 q5 q6 q7 q8 => ?_) (fun e σ5 q1 q2 q3 => ?_)
        · obtain ⟨x, hx, e⟩ := List.mem_map.mp hc
          rw [← e]
          exact rbC_ok (okL x hx)
        · cases hl0 : L0 with
          | nil =>
            rw [hl0] at h
            cases h
          | cons x y =>
            rw [hl0] at h
            have h1 : rbC x = c := (List.cons.inj h).1
            rw [← h1, rbC_7]
            exact hd7 x y hl0
        · have h9 : L0 = [] := List.map_eq_nil_iff.mp h
          rw [← hL0] at h9
          unfold hgA at h9
          have := congrArg List.length h9
          rw [List.length_append, List.length_append] at this
          have : _ + 1 + _ = 0 := this
          omega
        · intro i hi
          have := g3 i hi
          rw [v4 254 _ (by decide), v4 255 _ (by decide)]
          exact this
        · have hh1 : HyR σ1 H.2.1 H.2.2.1 H.2.2.2.1 H.2.2.2.2 := hHy.k f1 (by decide) (by decide)
          exact ((hh1.k frh.1 (by decide) (by decide)).k fz (by decide) (by decide)).k f4 (by decide) (by decide)
        · rw [zz 320 _ (by decide) (by decide), zz 321 _ (by decide) (by decide)]
          exact r5.2 i hi
        · have q1' : gAll o true (prN [] ((Lt.length : Int) + 1) 0 (S.getD 0 0) ((pkL (pfO (Lt ++ [32]) t).2.1).map boC) 9999 (hgX H (S.getD 0 0) ((Lt.length : Int) + 1) ((pkL (pfO (Lt ++ [32]) t).2.1).map boC))) (((pfO (Lt ++ [32]) t).1.1, (pfO (Lt ++ [32]) t).1.2.1), b.2.1.1, flS b (max 1 (S.getD 8 0))) = .inl G1 := by
            rw [eFl]
            exact q1
          generalize hX : hgX H (S.getD 0 0) ((Lt.length : Int) + 1) ((pkL (pfO (Lt ++ [32]) t).2.1).map boC) = X at q1 q1' q7
          have gl := gAll_l q1
          have hXne : X ≠ [] := fun h => by
            have e0 : liX (false, H.2) ((pkL (pfO (Lt ++ [32]) t).2.1).map boC) (rmO (S.getD 0 0) 0).toNat (rmO (S.getD 0 0) ((Lt.length : Int) + 1)).toNat false = X := by
              unfold liX
              rw [if_neg (fun h => absurd h.1 (by decide)), ← hX]
              rfl
            rw [h] at e0
            have := liX_n.mp e0
            rw [hU] at this
            have p0 : 0 < (pkL (L0.map rbC)).length := by
              cases hl0 : L0 with
              | nil =>
                rw [← hL0] at hl0
                unfold hgA at hl0
                have := congrArg List.length hl0
                rw [List.length_append, List.length_append] at this
                have : _ + 1 + _ = 0 := this
                omega
              | cons x y => exact pkL_pos (sbl_nb (by rw [rbC_7]; exact hd7 x y hl0))
            rw [this] at p0
            exact absurd p0 (by decide)
          have hX1 : 1 ≤ X.length := by
            cases hc : X with
            | nil => exact absurd hc hXne
            | cons x r => rw [List.length_cons]; omega
          have lpN : (prN [] ((Lt.length : Int) + 1) 0 (S.getD 0 0) ((pkL (pfO (Lt ++ [32]) t).2.1).map boC) 9999 X).length = X.length := by
            unfold prN
            have hne : X.isEmpty = false := by
              cases hc : X with
              | nil => exact absurd hc hXne
              | cons x r => rfl
            rw [hne, if_neg (by decide), prB_l]
          have gl2 : G1.2.2 = b.2.1.2 ++ List.replicate (spB b.2.2.2 false (S.getD 8 0) 1).toNat (-2) ++ seqZ b.2.1.1.length X.length := by
            rw [← lpN]
            exact gl.2.1
          have ga := (gAll_g (o := o) (fw := true)).1 G1 q1
          have ga1 : t.1.2.1 ≤ G1.1.2 := ga.1
          have zq : ∀ y j, y ∉ 291 :: TcS → y ≠ 246 → mV σ5 y j = mV σ4 y j := fun y j h h6 => q5.z h h6
          have kq : ∀ j, j ∉ TcK → mV σ5 246 j = mV σ4 246 j := fun j h => q5.f h (by decide)
          have f24 : FrZ [255, 286, 288] [74] σ2 σ4 := f4
          have re2 : RxE σ2 (hgE E Lt) nw := (r2.k frh.1 (by decide) (by decide)).u hEh f2
          have re5 : RxE σ5 (hgE E Lt) nw := (re2.k f4 (by decide) (by decide)).k q5 (by decide) (by decide)
          have tm4 : RxC σ4 t.2.2 ∧ RxL σ4 nw t.2.2 ∧ RxK σ4 nw t.2.2 := ⟨rm.1.z f4 (by decide) (by decide), (rm.2.1 al).z f4 (by decide), (rm.2.2.1 al).z f4 (by decide) (by decide)⟩
          refine hy (txM (pfO (Lt ++ [32]) t) G1.1 b.1.2.2.2.1.1.length b.1.2.2.2.2.1.1.length (crF (foP ((pkL (pfO (Lt ++ [32]) t).2.1).map boC)) (flS b (max 1 (S.getD 8 0))).length X), G1.2, b.2.2.1, true) (g.1 ++ [ms7 (pkL (pfO (Lt ++ [32]) t).2.1)], g.2.1 ++ [(l : Int)], g.2.2 ++ [((flS b (max 1 (S.getD 8 0))).length : Int)]) σ5 ((eD _).mpr ?_) ⟨q2, re5.al (show (0 : Int) < 1 by decide), ⟨tm4.1.z q5 (by decide) (by decide), tm4.2.1.z q5 (by decide), tm4.2.2.z q5 (by decide) (by decide), ?_, ?_⟩, ?_, ⟨q3, q4⟩, ⟨?_, ?_⟩, ?_⟩ ⟨?_, ?_, fun i hi => ?_, ?_⟩ (fun k hk => ?_) (fr04.tr (FrHh.z q5 (by decide) (by decide)))
          · unfold hgP
            rw [hX, q1']
          · rw [kq _ (by decide), k4 _ (by decide)]
            exact (rm.2.2.2.1 al).1
          · rw [kq _ (by decide), k4 _ (by decide)]
            exact w85
          · unfold UnB
            rw [kq 85 (by decide), k4 85 (by decide), w85, q2.2.2.1]
            have := un1
            omega
          · show MkL σ5 284 G1.2.2 (crL b.1.2.2.2.1.1.length _ t.2.2.2.1.2.2)
            rw [gl2]
            refine r7.new tlp (fun j hj => by rw [etl]; exact app_gd (by omega)) (by omega) (fun j hj => (q6.1 j hj).trans (zz _ _ (by decide) (by decide))) (fun j j1 j2 => ⟨lnO (gV9 ((pkL (pfO (Lt ++ [32]) t).2.1).map boC) (t.2.2.2.1.2.2.getD j 0)) X, lnO_lt hX1, ?_, q7.1 j j1 j2⟩)
            rw [eFl]
            rfl
          · show MkL σ5 297 G1.2.2 (crL b.1.2.2.2.2.1.1.length _ t.2.2.2.2.1.2)
            rw [gl2]
            refine r8.new tkp (fun j hj => by rw [etk]; exact app_gd (by omega)) (by omega) (fun j hj => (q6.2.1 j hj).trans (zz _ _ (by decide) (by decide))) (fun j j1 j2 => ⟨lnO (gV9 ((pkL (pfO (Lt ++ [32]) t).2.1).map boC) (t.2.2.2.2.1.2.getD j 0)) X, lnO_lt hX1, ?_, q7.2.1 j j1 j2⟩)
            rw [eFl]
            rfl
          · show NnR σ5 G1.2.2 b.2.2.1.1 b.2.2.1.2
            rw [gl2]
            have := r9.new (σ1 := σ5) (Z := List.replicate (spB b.2.2.2 false (S.getD 8 0) 1).toNat (-2)) (sps := []) (n0 := b.2.1.1.length) (k := X.length) (m0 := (b.1.2.2.2.2.2.1.2.2).toNat) (qs := []) hfl (fun x hx => by rw [List.eq_of_mem_replicate hx]; decide) (by omega) (by omega) rfl (fun x hx => absurd hx List.not_mem_nil) (fun z j hz _ => (q6.2.2.2 z j hz).trans (zz z j (by
              unfold TRS
              simp only [List.mem_cons, List.not_mem_nil, or_false]
              omega) (by omega))) (fun z j hz hj => (q6.2.2.1 z j hz hj).trans (zz z j (by
              unfold TRS
              simp only [List.mem_cons, List.not_mem_nil, or_false]
              omega) (by omega))) (fun i hi => absurd hi (Nat.not_lt_zero _)) q7.2.2
            rw [List.map_nil, List.append_nil, List.append_nil] at this
            exact this
          · rw [zq _ _ (by decide) (by decide), z4 _ _ (by decide) (by decide) (by decide) (by decide), z2e _ _ (by decide) (by decide), frh.2.1, List.length_append]
            rfl
          · show TtR σ5 nw (g.1 ++ [ms7 (pkL (pfO (Lt ++ [32]) t).2.1)])
            rw [hms]
            refine hg.2.1.sn ?_ ?_ ?_ ?_ (fun z k hz hk => ?_) (fun k hk => ?_)
            · rw [kq _ (by decide), v4 _ _ (by decide), t74, ms7_len]
            · rw [zq _ _ (by decide) (by decide), v4 _ _ (by decide)]
              exact e287
            · rw [zq _ _ (by decide) (by decide), w4.1, ms7_len]
            · exact tA.cg (fun k _ _ => (zq _ _ (by decide) (by decide)).trans (v4 _ _ (by decide)))
            · rcases hz with rfl | rfl
              · rw [zq _ _ (by decide) (by decide), z4 _ _ (by decide) (by decide) (by decide) (by decide), z2e _ _ (by decide) (by decide), frh.2.2.2.2.1 _ _ (Or.inl rfl) hk]
                exact z1 _ _ (by decide) (by decide)
              · rw [zq _ _ (by decide) (by decide), w4.2 k hk, z3 _ _ (by decide) (by decide) (by decide), z2e _ _ (by decide) (by decide), ze1 _ _ (by decide) (by decide)]
                exact z1 _ _ (by decide) (by decide)
            · rw [zq _ _ (by decide) (by decide), v4 _ _ (by decide), tO k (Or.inl hk), z2e _ _ (by decide) (by decide), ze1 _ _ (by decide) (by decide)]
              exact z1 _ _ (by decide) (by decide)
          · rw [List.length_append] at hi
            have hi : i < g.1.length + 1 := hi
            rw [zq _ _ (by decide) (by decide), z4 _ _ (by decide) (by decide) (by decide) (by decide), z2e _ _ (by decide) (by decide)]
            by_cases e : i = g.1.length
            · rw [e, frh.2.2.1]
              show _ = (g.2.1 ++ [(l : Int)]).getD g.1.length 0
              unfold List.getD
              rw [List.getElem?_append_right (by rw [hHd.2.1]; exact Nat.le_refl _), hHd.2.1, Nat.sub_self]
              rfl
            · rw [frh.2.2.2.2.1 289 _ (Or.inr rfl) (by omega), z1 _ _ (by decide) (by decide), hg.2.2.1 i (by omega)]
              show _ = (g.2.1 ++ [(l : Int)]).getD i 0
              rw [app_gd (by rw [hHd.2.1]; omega)]
          · show MkL σ5 291 G1.2.2 (g.2.2 ++ [((flS b (max 1 (S.getD 8 0))).length : Int)])
            rw [gl2, eFl]
            have := hg.2.2.2.new (σ1 := σ5) (zl := 291) (F := b.2.1.2) (Z := List.replicate (spB b.2.2.2 false (S.getD 8 0) 1).toNat (-2)) (V0 := g.2.2) (V := g.2.2 ++ [0]) (n0 := b.2.1.1.length) (k := X.length) (l0 := g.2.2.length) (g := fun _ => ((b.2.1.2 ++ List.replicate (spB b.2.2.2 false (S.getD 8 0) 1).toNat (-2)).length : Int)) rfl (fun j hj => app_gd hj) (by rw [List.length_append]; omega) (fun j hj => (q8.2 j (by have := hHd.2.2; omega)).trans ((zz _ _ (by decide) (by decide)).trans (z1 _ _ (by decide) (by decide)))) (fun j j1 j2 => ⟨0, by omega, by rw [Nat.add_zero], ?_⟩)
            · unfold crL at this
              rw [List.take_left, List.drop_left] at this
              exact this
            · rw [List.length_append] at j2
              have j2 : j < g.2.2.length + 1 := j2
              rw [show j = g.1.length by have := hHd.2.2; omega, Nat.add_zero]
              exact q8.1
          · rw [zq _ _ (by decide) (by decide), z4 _ _ (by decide) (by decide) (by decide) (by decide), z2e _ _ (by decide) (by decide), ze1 _ _ (by decide) (by decide)]
            exact n1 k hk
        · have ga := (gAll_g (o := o) (fw := true)).2 e q1
          refine hf e σ5 ((eD _).mpr ?_) q2 ?_ (fr04.tr (FrHh.z q3 (by decide) (by decide)))
          · unfold hgP
            have q1' : gAll o true (prN [] ((Lt.length : Int) + 1) 0 (S.getD 0 0) ((pkL (pfO (Lt ++ [32]) t).2.1).map boC) 9999 (hgX H (S.getD 0 0) ((Lt.length : Int) + 1) ((pkL (pfO (Lt ++ [32]) t).2.1).map boC))) (((pfO (Lt ++ [32]) t).1.1, (pfO (Lt ++ [32]) t).1.2.1), b.2.1.1, flS b (max 1 (S.getD 8 0))) = .inr e := by
              rw [eFl]
              exact q1
            rw [q1']
          · unfold UnB
            rw [q3.f (by decide) (by decide), k4 85 (by decide), w85, q2.2.2]
            have := un1
            have ga : t.1.2.1 ≤ e.2.2 := ga
            omega
      · rw [w1] at sB
        cases sB
    · rcases sw with ⟨t, sA, sB⟩ | ⟨e9, sA, sB⟩
      · rw [w1] at sB
        cases sB
      · have ee : e = e9 := Sum.inr.inj (w1.symm.trans sB)
        refine hf e σ2 ?_ q1 q2 (((FrHh.z f1 (by decide) (by decide)).tr (FrHh.r frh h60)).tr (FrHh.u f2))
        unfold hgD
        have sA : wkD 30 (hgE E Lt) false [] T (hgS Lt b.1) = .inr e9 := sA
        rw [if_neg (by omega), sA, ee]
  · unfold UnB
    rw [wV_ne (Or.inr (by decide)), wV_ne (Or.inr (by decide))]
    exact hR.2.2.2.1
end
