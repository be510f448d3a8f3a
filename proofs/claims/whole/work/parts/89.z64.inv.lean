/-! BLOCKS KEEP WHAT HOLDS BETWEEN THEM -/
theorem GB9.up {b : BK9} {s : TS} {c d : Int} (h : GB9 c (bkG b)) (hcd : c ≤ d) (hw : b.1.1.1 ≤ s.1.1 ∧ s.1.1 ≤ 60000) (he : 0 ≤ s.1.2.1 ∧ s.1.2.1 ≤ 400000) : GB9 d ((s.1.1, s.1.2.1), b.2.1) := by
  obtain ⟨q1, q2, q3, q4, q5⟩ := h
  have q1 : 0 ≤ b.1.1.1 ∧ b.1.1.1 ≤ 60000 := q1
  have q4 : ((suM (b.2.1.1.map (·.1)) : Nat) : Int) + 20 * b.2.1.1.length ≤ b.1.1.1 := q4
  have q5 : 45 * (b.2.1.2.length : Int) ≤ 3 * b.1.1.1 + 75 * b.2.1.1.length + c := q5
  exact ⟨⟨by show 0 ≤ s.1.1; omega, hw.2⟩, he, q3, by show ((suM (b.2.1.1.map (·.1)) : Nat) : Int) + 20 * b.2.1.1.length ≤ s.1.1; omega, by show 45 * (b.2.1.2.length : Int) ≤ 3 * s.1.1 + 75 * b.2.1.1.length + d; omega⟩
theorem TI.txl {p v : Int} {s : TS} (h : TI p v s) : TI (p + (s.2.1.length : Int)) v (tx0 s) := by
  obtain ⟨⟨a1, a2, a3, a4⟩, b, c, d, ⟨e1, e2, e3, e4⟩, f, g⟩ := h
  refine ⟨⟨a1, a2, ⟨Int.le_refl _, (show (0 : Int) ≤ 3 by decide)⟩, okK.nil⟩, b, c, d, ⟨rfl, ?_, e3, fun w hw => absurd hw List.not_mem_nil⟩, f, ?_⟩
  · show ((0 : Nat) : Int) ≤ s.2.2.2.2.2.1.2.2
    omega
  · show (suM s.2.2.2.2.1.1 : Int) + ((0 : Nat) : Int) + ((0 : Nat) : Int) + (p + (s.2.1.length : Int)) ≤ s.1.1 + 100
    omega
section
variable {o hg sp : Int} {E : TE} {H : HY9} {S P T Lt : List Int} {item : Bool} {b b' : BK9} {g : HG9}
theorem txD_i (hE : EI E) (hTb : smB T) (hsp : 0 ≤ sp ∧ sp ≤ 3) (h : RI9 b g) (hGB : GB9 (-45) (bkG b)) (e : txD o E H S P hg sp item T b = .inl b') : RI9 b' g := by
  have h0 := h
  obtain ⟨h1, h2, ⟨h3, h3'⟩, h4, ⟨h5, h6, h7⟩, ⟨h8, h9, h10⟩, h11, ⟨h12, h13⟩⟩ := h
  unfold txD at e
  cases w1 : wkD 30 E false [] T (tx0 b.1) with
  | inr x =>
    simp only [w1] at e
    cases e
  | inl s1 =>
    simp only [w1] at e
    have ti1 := wkD_ti hE (by omega : (0 : Int) ≤ (suM g.1 : Nat) + 100) (Int.le_refl 0) h1 (fun w hw => absurd hw List.not_mem_nil) hTb w1
    have wge : b.1.1.1 ≤ s1.1.1 := (plc_wk s1 w1).1
    have gr := gr_wk s1 w1
    have ap := apd_wk s1 w1
    have cm := (mo_wk s1 w1).2.2 ⟨fun i j hij hj => absurd hj (Nat.not_lt_zero _), fun c hc => absurd hc List.not_mem_nil⟩
    have ng := (ngv_wk s1 w1).2.2 (fun c hc => absurd hc List.not_mem_nil)
    have gr3 : (s1.2.2.2.2.2.1.1.length : Int) - ((0 : Nat) : Int) = s1.2.2.2.2.2.1.2.2 - b.1.2.2.2.2.2.1.2.2 := gr.2.2
    have can : (caS s1).length = s1.2.2.2.2.2.1.1.length := ti1.2.2.2.2.1.1
    have km := (ko_wk (k0 := b.1.2.2.2.2.1.1.length) s1 w1).2.2 (by
      have lk : b.1.2.2.2.2.1.2.length = b.1.2.2.2.2.1.1.length := h1.2.2.2.1.1
      have e9 : kaS9 (tx0 b.1) = b.1.2.2.2.2.1.2 := rfl
      refine ⟨fun i j hi hij hj => ?_, fun i hi hl => ?_, fun i hi hl => ?_⟩
      · rw [e9] at hj
        omega
      · rw [e9] at hl
        omega
      · rw [e9] at hl
        omega)
    by_cases c1 : mkd b.1 s1 = true ∧ foP (pkL s1.2.1) = -1
    · rw [if_pos c1] at e
      cases e
    · rw [if_neg c1] at e
      by_cases c2 : pkL s1.2.1 = [] ∧ item = false
      · rw [if_pos c2] at e
        have e := Sum.inl.inj e
        have mk : ¬ mkd b.1 s1 = true := fun hm => c1 ⟨hm, by rw [c2.1]; rfl⟩
        have mk : ¬ (b.1.2.2.2.1.1.length < s1.2.2.2.1.1.length ∨ b.1.2.2.2.2.1.1.length < s1.2.2.2.2.1.1.length) := fun h => mk (decide_eq_true h)
        have g1 : b.1.2.2.2.1.1.length ≤ s1.2.2.2.1.1.length := gr.1
        have g2 : b.1.2.2.2.2.1.1.length ≤ s1.2.2.2.2.1.1.length := gr.2.1
        have ca0 : caS s1 = [] := by
          cases hc : caS s1 with
          | nil => rfl
          | cons c r =>
            have m : c ∈ caS s1 := by rw [hc]; exact List.mem_cons_self
            have x1 := ng c m
            have x2 := cm.2 c m
            rw [c2.1] at x2
            have x2 : c ≤ ((0 : Nat) : Int) - 1 := x2
            omega
        have n0 : s1.2.2.2.2.2.1.2.2 = b.1.2.2.2.2.2.1.2.2 := by
          rw [ca0] at can
          have can : 0 = s1.2.2.2.2.2.1.1.length := can
          omega
        obtain ⟨⟨tl, el⟩, tk, ek⟩ := ap
        have el : s1.2.2.2.1.2.2 = b.1.2.2.2.1.2.2 ++ tl := el
        have ek : s1.2.2.2.2.1.2 = b.1.2.2.2.2.1.2 ++ tk := ek
        have ll : b.1.2.2.2.1.2.2.length = b.1.2.2.2.1.1.length := h1.2.2.1.2.1
        have lk : b.1.2.2.2.2.1.2.length = b.1.2.2.2.2.1.1.length := h1.2.2.2.1.1
        have ll1 : s1.2.2.2.1.2.2.length = s1.2.2.2.1.1.length := ti1.2.2.1.2.1
        have lk1 : s1.2.2.2.2.1.2.length = s1.2.2.2.2.1.1.length := ti1.2.2.2.1.1
        have el' : s1.2.2.2.1.2.2 = b.1.2.2.2.1.2.2 := by
          have : tl.length = 0 := by
            rw [el, List.length_append] at ll1
            omega
          rw [el, List.eq_nil_of_length_eq_zero this, List.append_nil]
        have ek' : s1.2.2.2.2.1.2 = b.1.2.2.2.2.1.2 := by
          have : tk.length = 0 := by
            rw [ek, List.length_append] at lk1
            omega
          rw [ek, List.eq_nil_of_length_eq_zero this, List.append_nil]
        rw [← e]
        refine ⟨TI.tx (TI.tx ti1), GB9.up (b := b) (s := s1) h2 (Int.le_refl _) ⟨wge, ti1.1.1.2⟩ ti1.1.2.1, ⟨h3.trans n0.symm, h3'⟩, h4, ⟨?_, ?_, ?_⟩, ⟨h8, h9, h10⟩, h11, ⟨h12, h13⟩⟩
        · show MkP b.2.1.2 s1.2.2.2.1.2.2
          rw [el']
          exact h5
        · show MkP b.2.1.2 s1.2.2.2.2.1.2
          rw [ek']
          exact h6
        · show srt9 s1.2.2.2.2.1.2
          rw [ek']
          exact h7
      · rw [if_neg c2] at e
        unfold txF at e
        generalize hX : txX H S P hg (pkL s1.2.1) = X at e
        have gb9 := flS_90 (s := s1) hsp hGB ⟨wge, ti1.1.1.2⟩ ti1.1.2.1
        cases hG : gAll o true (prN P hg (S.getD 2 0) (S.getD 0 0) (pkL s1.2.1) (S.getD 7 0) X) ((s1.1.1, s1.1.2.1), b.2.1.1, flS b sp) with
        | inr x =>
          simp only [hG] at e
          cases e
        | inl G1 =>
          simp only [hG] at e
          unfold txN at e
          have gb1 := txG_b prN_ne gb9 hG
          have gl := gAll_l hG
          have gg := (gAll_g (o := o) (fw := true)).1 G1 hG
          cases hN : ntD o H (S.getD 0 0) s1.2.2.2.2.2.1.1 (b.1.2.2.2.2.2.1.2.2 + 1) G1 with
          | inr x =>
            simp only [hN] at e
            cases e
          | inl q =>
            simp only [hN] at e
            have e := Sum.inl.inj e
            have nb := ntD_b gb1 hN
            have nn := (ntD_g (o := o) (H := H) (W := S.getD 0 0)).1 q hN
            obtain ⟨m, hm, -⟩ := flS_x (b := b) (sp := sp)
            obtain ⟨n1, n2, n3, n4, Z, n5⟩ := nn
            have n1 : G1.1.2 ≤ q.1.1.2 := n1
            have n2 : G1.1.1 ≤ q.1.1.1 := n2
            have g1 : s1.1.2.1 ≤ G1.1.2 := gg.1
            have g2 : s1.1.1 ≤ G1.1.1 := gg.2
            have lG : G1.2.1.length = b.2.1.1.length + (prN P hg (S.getD 2 0) (S.getD 0 0) (pkL s1.2.1) (S.getD 7 0) X).length := by
              rw [gl.1, List.length_append, List.length_map]
            have lq : G1.2.1.length ≤ q.1.2.1.length := by
              rw [n5, List.length_append]
              omega
            have k1 : 1 ≤ (prN P hg (S.getD 2 0) (S.getD 0 0) (pkL s1.2.1) (S.getD 7 0) X).length := by
              rw [prN_l]
              omega
            have hX9 : ∀ p, lnO p X < (prN P hg (S.getD 2 0) (S.getD 0 0) (pkL s1.2.1) (S.getD 7 0) X).length := fun p => lnO_p
            generalize (prN P hg (S.getD 2 0) (S.getD 0 0) (pkL s1.2.1) (S.getD 7 0) X).length = k at gl lG k1 hX9
            have eF : q.1.2.2 = flS b sp ++ seqZ b.2.1.1.length k := by
              rw [n4, gl.2.1, if_pos rfl]
            have eq2 : q.1.2 = (q.1.2.1, flS b sp ++ seqZ b.2.1.1.length k) := by
              rw [← eF]
            have gbq : GB9 0 (q.1.1, q.1.2.1, flS b sp ++ seqZ b.2.1.1.length k) := by
              rw [← eF]
              exact nb.1
            rw [← e, eq2]
            refine h0.tx (g' := g) ⟨h11, h13⟩ ?_ (TI.tx ti1) ⟨by omega, nb.1.1.2, by omega, nb.1.2.1.2⟩ hm k1 hX9 (by omega) gbq ap km (fun _ _ => rfl) rfl cm.1 ?_ (n3.trans can.symm) (fun x hx => ?_)
            · rw [hm]
              exact h12.ap.ap
            · have can : s1.2.2.2.2.2.1.2.1.length = s1.2.2.2.2.2.1.1.length := can
              omega
            · have := nb.2 x hx
              omega
theorem boC_79 {c : Int} (h : okC c) : boC c % 128 = c % 128 := by
  unfold boC
  split
  · rename_i e
    rw [e]
  · split <;> omega
theorem hgD_i {l : Nat} (hE : EI (hgE E Lt)) (hl : 1 ≤ l ∧ l ≤ 3) (hTb : smB T) (hS : 0 ≤ S.getD 8 0 ∧ S.getD 8 0 ≤ 3) (hLl : Lt.length ≤ 9) (hLs : smB Lt) (h : RI9 b g) (hti : TI ((suM g.1 : Nat) + 110 : Int) 0 (tx0 b.1)) (hGB : GB9 (-45) (bkG b)) {g' : HG9} (e : hgD o E H S Lt l T b g = .inl (b', g')) : RI9 b' g' := by
  have h0 := h
  obtain ⟨h1, h2, ⟨h3, h3'⟩, h4, ⟨h5, h6, h7⟩, ⟨h8, h9, h10⟩, h11, ⟨h12, h13, h14⟩⟩ := h
  unfold hgD at e
  by_cases c60 : 60 ≤ g.1.length
  · rw [if_pos c60] at e
    cases e
  · rw [if_neg c60] at e
    have tih : TI ((suM g.1 : Nat) + 100 : Int) 0 (hgS Lt b.1) := TI.hg (p := (suM g.1 : Nat) + 100) (by
      rw [show ((suM g.1 : Nat) : Int) + 100 + 10 = (suM g.1 : Nat) + 110 by omega]
      exact hti) hLl hLs
    cases w1 : wkD 30 (hgE E Lt) false [] T (hgS Lt b.1) with
    | inr x =>
      simp only [w1] at e
      cases e
    | inl s1 =>
      simp only [w1] at e
      have ti1 := wkD_ti hE (by omega : (0 : Int) ≤ (suM g.1 : Nat) + 100) (Int.le_refl 0) tih (fun w hw => absurd hw List.not_mem_nil) hTb w1
      have wge : b.1.1.1 ≤ s1.1.1 := (plc_wk s1 w1).1
      have ap := apd_wk s1 w1
      have zn := zn_wk (E := hgE E Lt) (show (1 : Int) < 2 by decide) s1 w1
      have zn : s1.2.2.2.2.2.1 = (hgS Lt b.1).2.2.2.2.2.1 := zn
      have n0 : s1.2.2.2.2.2.1.2.2 = b.1.2.2.2.2.2.1.2.2 := by rw [zn]; rfl
      have km := (ko_wk (k0 := b.1.2.2.2.2.1.1.length) s1 w1).2.2 (by
        have lk : b.1.2.2.2.2.1.2.length = b.1.2.2.2.2.1.1.length := h1.2.2.2.1.1
        have e9 : kaS9 (hgS Lt b.1) = b.1.2.2.2.2.1.2 := rfl
        refine ⟨fun i j hi hij hj => ?_, fun i hi hl => ?_, fun i hi hl => ?_⟩
        · rw [e9] at hj
          omega
        · rw [e9] at hl
          omega
        · rw [e9] at hl
          omega)
      have okU : okK (pkL s1.2.1) := pkL_ok ti1.1.2.2.2
      have lp := pkL_q (L := s1.2.1)
      unfold hgP at e
      generalize hX : hgX H (S.getD 0 0) ((Lt.length : Int) + 1) ((pkL s1.2.1).map boC) = X at e
      have gb9 := flS_90 (s := s1) (sp := max 1 (S.getD 8 0)) (by omega) hGB ⟨wge, ti1.1.1.2⟩ ti1.1.2.1
      cases hG : gAll o true (prN [] ((Lt.length : Int) + 1) 0 (S.getD 0 0) ((pkL s1.2.1).map boC) 9999 X) ((s1.1.1, s1.1.2.1), b.2.1.1, flS b (max 1 (S.getD 8 0))) with
      | inr x =>
        simp only [hG] at e
        cases e
      | inl G1 =>
        simp only [hG] at e
        have e := Sum.inl.inj e
        have e1 := (Prod.mk.inj e).1
        have e2 := (Prod.mk.inj e).2
        have gb1 := txG_b prN_ne gb9 hG
        have gl := gAll_l hG
        have gg := (gAll_g (o := o) (fw := true)).1 G1 hG
        have g1 : s1.1.2.1 ≤ G1.1.2 := gg.1
        have g2 : s1.1.1 ≤ G1.1.1 := gg.2
        obtain ⟨m, hm, -⟩ := flS_x (b := b) (sp := max 1 (S.getD 8 0))
        have lG : G1.2.1.length = b.2.1.1.length + (prN [] ((Lt.length : Int) + 1) 0 (S.getD 0 0) ((pkL s1.2.1).map boC) 9999 X).length := by
          rw [gl.1, List.length_append, List.length_map]
        have k1 : 1 ≤ (prN [] ((Lt.length : Int) + 1) 0 (S.getD 0 0) ((pkL s1.2.1).map boC) 9999 X).length := by
          rw [prN_l]
          omega
        have hX9 : ∀ p, lnO p X < (prN [] ((Lt.length : Int) + 1) 0 (S.getD 0 0) ((pkL s1.2.1).map boC) 9999 X).length := fun p => lnO_p
        generalize (prN [] ((Lt.length : Int) + 1) 0 (S.getD 0 0) ((pkL s1.2.1).map boC) 9999 X).length = k at gl lG k1 hX9
        have eF : G1.2.2 = flS b (max 1 (S.getD 8 0)) ++ seqZ b.2.1.1.length k := by
          rw [gl.2.1, if_pos rfl]
        have eq2 : G1.2 = (G1.2.1, flS b (max 1 (S.getD 8 0)) ++ seqZ b.2.1.1.length k) := by
          rw [← eF]
        have gbq : GB9 0 (G1.1, G1.2.1, flS b (max 1 (S.getD 8 0)) ++ seqZ b.2.1.1.length k) := by
          rw [← eF]
          exact gb1
        have l7 : (ms7 (pkL s1.2.1)).length = (pkL s1.2.1).length := ms7_len
        have key := h0.tx (s1 := s1) (U := (pkL s1.2.1).map boC) (F := flS b (max 1 (S.getD 8 0))) (X := X) (k := k) (m := m) (w := G1.1) (Ls := G1.2.1) (sps := []) (ca := []) (g' := (g.1 ++ [ms7 (pkL s1.2.1)], g.2.1 ++ [(l : Int)], g.2.2 ++ [((flS b (max 1 (S.getD 8 0))).length : Int)])) ⟨⟨by rw [List.length_append]; show g.1.length + 1 ≤ 60; omega, by rw [List.length_append, List.length_append, h11.2.1]; rfl, by rw [List.length_append, List.length_append, h11.2.2]; rfl⟩, fun t ht => ?_, fun x hx => ?_⟩ ?_ ?_ ⟨g2, gb1.1.2, g1, gb1.2.1.2⟩ hm k1 hX9 (by omega) gbq ap km (fun i hi => ?_) (List.length_map ..) (fun i j _ hj => absurd hj (Nat.not_lt_zero _)) ?_ rfl (fun x hx => absurd hx List.not_mem_nil)
        · rw [List.map_nil, List.append_nil, List.append_nil] at key
          rw [← e1, ← e2, eq2]
          exact key
        · rcases List.mem_append.mp ht with x | x
          · exact h13 t x
          · rw [List.mem_singleton.mp x]
            intro y hy
            obtain ⟨c, -, ec⟩ := List.mem_map.mp hy
            omega
        · rcases List.mem_append.mp hx with y | y
          · exact h14 x y
          · rw [List.mem_singleton.mp y]
            omega
        · refine MkP.vv ?_ (fun v hv => ?_)
          · rw [hm]
            exact h12.ap.ap
          · rw [List.mem_singleton.mp hv]
            refine ⟨by omega, by rw [List.length_append, seqZ_l]; omega, ?_⟩
            rw [Int.toNat_natCast]
            have := ap_r (A := flS b (max 1 (S.getD 8 0))) (B := seqZ b.2.1.1.length k) (i := 0)
            rw [Nat.add_zero] at this
            rw [this, seqZ_at k _ 0 (by omega)]
            omega
        · refine (TI.txl ti1).mo ?_ (Int.le_refl _)
          show ((suM (g.1 ++ [ms7 (pkL s1.2.1)]) : Nat) : Int) + 100 ≤ _
          rw [suM_sn]
          omega
        · rw [List.length_map] at hi
          have : ((pkL s1.2.1).map boC).getD i 0 = boC ((pkL s1.2.1).getD i 0) := by
            unfold List.getD
            rw [List.getElem?_map, List.getElem?_eq_getElem hi]
            rfl
          rw [this]
          exact boC_79 (okU _ (gd_mem hi))
        · show ((b.2.2.1.1.length + 0 : Nat) : Int) = _
          rw [n0]
          exact h3
theorem rwD_i {M : List Int} {at9 nx : Nat} (hS : 0 ≤ S.getD 8 0 ∧ S.getD 8 0 ≤ 3) (hat : at9 < nx) (h : RI9 b g) (hGB : GB9 (-45) (bkG b)) (e : rwD o S M at9 nx b = .inl b') : RI9 b' g := by
  unfold rwD at e
  have gb9 := flS_90 (s := b.1) hS hGB ⟨Int.le_refl _, hGB.1.2⟩ hGB.2.1
  cases hG : gAll o true (rwL M (S.getD 0 0) (nx - at9) at9) ((b.1.1.1, b.1.1.2.1), b.2.1.1, flS b (S.getD 8 0)) with
  | inr x =>
    simp only [hG] at e
    cases e
  | inl G1 =>
    simp only [hG] at e
    rw [← Sum.inl.inj e]
    refine RI9.bl (b := b) (s := b.1) h gb9 (fun hn => ?_) hG
    have := congrArg List.length hn
    rw [rwL_l] at this
    have : nx - at9 = 0 := this
    omega
theorem ctD_i {f s : Int} {B : HG9} (hS : 0 ≤ S.getD 8 0 ∧ S.getD 8 0 ≤ 3) (h : RI9 b g) (hGB : GB9 (-45) (bkG b)) (e : ctD o S f s B b = .inl b') : RI9 b' g := by
  unfold ctD at e
  by_cases c : B.1.length = 0
  · rw [if_pos c] at e
    rw [← Sum.inl.inj e]
    exact h
  · rw [if_neg c] at e
    have gb9 := flS_90 (s := b.1) hS hGB ⟨Int.le_refl _, hGB.1.2⟩ hGB.2.1
    cases hG : gAll o true (ctL (S.getD 0 0) f s B B.1.length 0) ((b.1.1.1, b.1.1.2.1), b.2.1.1, flS b (S.getD 8 0)) with
    | inr x =>
      simp only [hG] at e
      cases e
    | inl G1 =>
      simp only [hG] at e
      rw [← Sum.inl.inj e]
      refine RI9.bl (b := b) (s := b.1) h gb9 (fun hn => ?_) hG
      have := congrArg List.length hn
      rw [ctL_l] at this
      exact c this
theorem ixD_i {f s : Int} {K : List (List Int)} {Pg : List Int} (hS : 0 ≤ S.getD 8 0 ∧ S.getD 8 0 ≤ 3) (h : RI9 b g) (hGB : GB9 (-45) (bkG b)) (e : ixD o H S K Pg f s b = .inl b') : RI9 b' g := by
  unfold ixD at e
  by_cases c : K.length = 0
  · rw [if_pos c] at e
    rw [← Sum.inl.inj e]
    exact h
  · rw [if_neg c] at e
    have gb9 := flS_90 (s := b.1) hS hGB ⟨Int.le_refl _, hGB.1.2⟩ hGB.2.1
    cases hG : gAll o true (ixA H (S.getD 0 0) K Pg f s (orD K K.length)) ((b.1.1.1, b.1.1.2.1), b.2.1.1, flS b (S.getD 8 0)) with
    | inr x =>
      simp only [hG] at e
      cases e
    | inl G1 =>
      simp only [hG] at e
      rw [← Sum.inl.inj e]
      exact RI9.bl (b := b) (s := b.1) h gb9 (ixA_ne (fun h => c (orD_0.mp (by rw [h]; rfl)))) hG
theorem tbF_i {M : List Int} {at9 nx : Nat} (hE : EI E) (hMb : smB M) (hS : 0 ≤ S.getD 8 0 ∧ S.getD 8 0 ≤ 3) (h : RI9 b g) (hGB : GB9 (-45) (bkG b)) (e : tbF o E H S M at9 nx b = .inl b') : RI9 b' g := by
  unfold tbF at e
  cases hA : tbA E M (tbL M at9 nx) b.1 with
  | inr x =>
    simp only [hA] at e
    cases e
  | inl q =>
    simp only [hA] at e
    obtain ⟨tp, -, tk, -, -⟩ := tbA_p hE hMb (by omega : (0 : Int) ≤ (suM g.1 : Nat) + 100) h.1 hA
    have tp0 := tbP_0 (C := q.1.1.flatten)
    have r1 : RI9 (q.2, b.2) g := by
      obtain ⟨h1, h2, ⟨h3, h3'⟩, h4, ⟨h5, h6, h7⟩, h8⟩ := h
      refine ⟨tp.mo (by omega) (Int.le_refl _), GB9.up (b := b) (s := q.2) h2 (Int.le_refl _) ⟨tk.1, tp.1.1.2⟩ tp.1.2.1, ⟨?_, h3'⟩, h4, ⟨?_, ?_, ?_⟩, h8⟩
      · show (b.2.2.1.1.length : Int) = q.2.2.2.2.2.2.1.2.2
        rw [tk.2.2.2]
        exact h3
      · show MkP b.2.1.2 q.2.2.2.2.1.2.2
        rw [tk.2.1]
        exact h5
      · show MkP b.2.1.2 q.2.2.2.2.2.1.2
        rw [tk.2.2.1]
        exact h6
      · show srt9 q.2.2.2.2.2.1.2
        rw [tk.2.2.1]
        exact h7
    by_cases c : tbC q.1.1 = 0
    · rw [if_pos c] at e
      rw [← Sum.inl.inj e]
      exact r1
    · rw [if_neg c] at e
      have gb9 := flS_90 (s := q.2) hS hGB ⟨tk.1, tp.1.1.2⟩ tp.1.2.1
      cases hG : gAll o true (tbO H (nwD9 (S.getD 0 0) (tbC q.1.1) (tbQ q.1.1)) q.1.2 (tbC q.1.1) true q.1.1) ((q.2.1.1, q.2.1.2.1), b.2.1.1, flS b (S.getD 8 0)) with
      | inr x =>
        simp only [hG] at e
        cases e
      | inl G1 =>
        simp only [hG] at e
        rw [← Sum.inl.inj e]
        refine RI9.bl (b := b) (s := q.2) r1 gb9 (tbO_ne (fun hn => c ?_)) hG
        rw [hn]
        rfl
end
