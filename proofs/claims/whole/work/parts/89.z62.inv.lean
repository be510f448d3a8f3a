/-! WHAT HOLDS BETWEEN BLOCKS -/
def srt9 (V : List Int) : Prop := ∀ i j, i ≤ j → j < V.length → V.getD i 0 ≤ V.getD j 0
/-- places of the flow that have lines -/
def MkP (F V : List Int) : Prop := ∀ v ∈ V, 0 ≤ v ∧ v < (F.length : Int) ∧ 0 ≤ F.getD v.toNat 0
/-- the flow: spaces come ahead of lines, each line stands once, lines rise -/
def FlW (n : Nat) (F : List Int) : Prop := (∀ i, i < F.length → (F.getD i 0 = -2 ∧ i + 1 < F.length ∧ ¬ F.getD (i + 1) 0 = -3) ∨ F.getD i 0 = -3 ∨ (0 ≤ F.getD i 0 ∧ F.getD i 0 < (n : Int))) ∧ ∀ i j, i < j → j < F.length → 0 ≤ F.getD i 0 → 0 ≤ F.getD j 0 → F.getD i 0 < F.getD j 0
def SpP (n : Nat) (sp : List (Int × Int)) : Prop := ∀ x ∈ sp, 0 ≤ x.1 ∧ x.1 ≤ x.2 ∧ x.2 ≤ (n : Int)
def RI9 (b : BK9) (g : HG9) : Prop := TI ((suM g.1 : Nat) + 100 : Int) 0 (tx0 b.1) ∧ GB9 0 (bkG b) ∧ ((b.2.2.1.1.length : Int) = b.1.2.2.2.2.2.1.2.2 ∧ b.2.2.1.2.length = b.2.2.1.1.length) ∧ FlW b.2.1.1.length b.2.1.2 ∧ (MkP b.2.1.2 b.1.2.2.2.1.2.2 ∧ MkP b.2.1.2 b.1.2.2.2.2.1.2 ∧ srt9 b.1.2.2.2.2.1.2) ∧ (MkP b.2.1.2 b.2.2.1.1 ∧ srt9 b.2.2.1.1 ∧ SpP b.2.1.1.length b.2.2.1.2) ∧ HdB g ∧ (MkP b.2.1.2 g.2.2 ∧ (∀ t ∈ g.1, smB t) ∧ ∀ x ∈ g.2.1, 1 ≤ x ∧ x ≤ 3)
theorem gdi_mem {L : List Int} {v : Int} (h : v ∈ L) : ∃ i, i < L.length ∧ L.getD i 0 = v := by
  obtain ⟨i, hi, e⟩ := List.getElem_of_mem h
  refine ⟨i, hi, ?_⟩
  unfold List.getD
  rw [List.getElem?_eq_getElem hi]
  exact e
theorem MkP.ap {F V Z : List Int} (h : MkP F V) : MkP (F ++ Z) V := fun v hv => by
  obtain ⟨a, b, c⟩ := h v hv
  refine ⟨a, by rw [List.length_append]; omega, ?_⟩
  rw [getD_l (by omega)]
  exact c
theorem MkP.vv {F V W : List Int} (h : MkP F V) (h' : MkP F W) : MkP F (V ++ W) := fun v hv => by
  rcases List.mem_append.mp hv with e | e
  · exact h v e
  · exact h' v e
theorem FlW.mo {n m : Nat} {F : List Int} (h : FlW n F) (hm : n ≤ m) : FlW m F := ⟨fun i hi => by
  rcases h.1 i hi with e | e | e
  · exact Or.inl e
  · exact Or.inr (Or.inl e)
  · exact Or.inr (Or.inr ⟨e.1, by omega⟩), h.2⟩
theorem FlW.flb {b : BK9} (h : FlW b.2.1.1.length b.2.1.2) : FlB b := fun x hx => by
  obtain ⟨i, hi, e⟩ := gdi_mem hx
  rw [← e]
  rcases h.1 i hi with h | h | h
  · rw [h.1]
    omega
  · rw [h]
    omega
  · exact h.2
theorem ap_r {A B : List Int} {i : Nat} : (A ++ B).getD (A.length + i) 0 = B.getD i 0 := by
  unfold List.getD
  rw [List.getElem?_append_right (by omega), show A.length + i - A.length = i by omega]
theorem rep_at {n i : Nat} {x : Int} (h : i < n) : (List.replicate n x).getD i 0 = x := by
  unfold List.getD
  rw [List.getElem?_replicate, if_pos h]
  rfl
/-- a block's lines come behind its spaces -/
theorem FlW.ad {n k sp m : Nat} {F : List Int} (h : FlW n F) (hk : 1 ≤ k) (hm : n + k ≤ m) : FlW m (F ++ List.replicate sp (-2) ++ seqZ n k) := by
  have lA : (F ++ List.replicate sp (-2 : Int)).length = F.length + sp := by rw [List.length_append, List.length_replicate]
  have ll : (F ++ List.replicate sp (-2) ++ seqZ n k).length = F.length + sp + k := by rw [List.length_append, lA, seqZ_l]
  have a1 : ∀ i, i < F.length → (F ++ List.replicate sp (-2) ++ seqZ n k).getD i 0 = F.getD i 0 := fun i hi => by
    rw [getD_l (by omega), getD_l hi]
  have a2 : ∀ i, F.length ≤ i → i < F.length + sp → (F ++ List.replicate sp (-2) ++ seqZ n k).getD i 0 = -2 := fun i h1 h2 => by
    rw [getD_l (by omega), show i = F.length + (i - F.length) by omega, ap_r]
    exact rep_at (by omega)
  have a3 : ∀ i, F.length + sp ≤ i → i < F.length + sp + k → (F ++ List.replicate sp (-2) ++ seqZ n k).getD i 0 = ((n + (i - (F.length + sp)) : Nat) : Int) := fun i h1 h2 => by
    have := ap_r (A := F ++ List.replicate sp (-2)) (B := seqZ n k) (i := i - (F.length + sp))
    rw [lA, show F.length + sp + (i - (F.length + sp)) = i by omega] at this
    rw [this]
    exact seqZ_at k n _ (by omega)
  refine ⟨fun i hi => ?_, fun i j hij hj h1 h2 => ?_⟩
  · rw [ll] at hi ⊢
    by_cases c1 : i < F.length
    · rw [a1 i c1]
      rcases h.1 i c1 with e | e | e
      · refine Or.inl ⟨e.1, by omega, ?_⟩
        rw [a1 (i + 1) e.2.1]
        exact e.2.2
      · exact Or.inr (Or.inl e)
      · exact Or.inr (Or.inr ⟨e.1, by omega⟩)
    · by_cases c2 : i < F.length + sp
      · rw [a2 i (by omega) c2]
        refine Or.inl ⟨rfl, by omega, ?_⟩
        by_cases c3 : i + 1 < F.length + sp
        · rw [a2 (i + 1) (by omega) c3]
          decide
        · rw [a3 (i + 1) (by omega) (by omega)]
          omega
      · rw [a3 i (by omega) (by omega)]
        exact Or.inr (Or.inr ⟨by omega, by omega⟩)
  · rw [ll] at hj
    by_cases cj : j < F.length
    · rw [a1 i (by omega)] at h1 ⊢
      rw [a1 j cj] at h2 ⊢
      exact h.2 i j hij cj h1 h2
    · by_cases cj2 : j < F.length + sp
      · rw [a2 j (by omega) cj2] at h2
        omega
      · rw [a3 j (by omega) (by omega)]
        by_cases ci : i < F.length
        · rw [a1 i ci] at h1 ⊢
          rcases h.1 i ci with e | e | e
          · omega
          · omega
          · omega
        · by_cases ci2 : i < F.length + sp
          · rw [a2 i (by omega) ci2] at h1
            omega
          · rw [a3 i (by omega) (by omega)]
            omega
theorem FlW.cut {n : Nat} {F : List Int} (h : FlW n F) : FlW n (F ++ [-3]) := by
  refine ⟨fun i hi => ?_, fun i j hij hj h1 h2 => ?_⟩
  · rw [List.length_append] at hi
    have hi : i < F.length + 1 := hi
    by_cases c : i < F.length
    · rw [getD_l c]
      rcases h.1 i c with e | e | e
      · refine Or.inl ⟨e.1, by rw [List.length_append]; omega, ?_⟩
        rw [getD_l e.2.1]
        exact e.2.2
      · exact Or.inr (Or.inl e)
      · exact Or.inr (Or.inr e)
    · rw [show i = F.length by omega, getD_s]
      exact Or.inr (Or.inl rfl)
  · rw [List.length_append] at hj
    have hj : j < F.length + 1 := hj
    by_cases c : j < F.length
    · rw [getD_l c] at h2 ⊢
      rw [getD_l (by omega)] at h1 ⊢
      exact h.2 i j hij c h1 h2
    · rw [show j = F.length by omega, getD_s] at h2
      exact absurd h2 (by decide)
theorem flS_x {b : BK9} {sp : Int} : ∃ m : Nat, flS b sp = b.2.1.2 ++ List.replicate m (-2) ∧ m ≤ sp.toNat := by
  unfold flS
  split
  · exact ⟨sp.toNat, rfl, Nat.le_refl _⟩
  · exact ⟨0, rfl, Nat.zero_le _⟩
theorem TI.tx {p v : Int} {s : TS} (h : TI p v s) : TI p v (tx0 s) := by
  obtain ⟨⟨a1, a2, a3, a4⟩, b, c, d, ⟨e1, e2, e3, e4⟩, f, g⟩ := h
  refine ⟨⟨a1, a2, ⟨Int.le_refl _, (show (0 : Int) ≤ 3 by decide)⟩, okK.nil⟩, b, c, d, ⟨rfl, ?_, e3, fun w hw => absurd hw List.not_mem_nil⟩, f, ?_⟩
  · show ((0 : Nat) : Int) ≤ s.2.2.2.2.2.1.2.2
    omega
  · show (suM s.2.2.2.2.1.1 : Int) + ((0 : Nat) : Int) + ((0 : Nat) : Int) + p ≤ s.1.1 + 100
    omega
/-- more work is spent -/
theorem TI.wk {p : Int} {s : TS} {w : Int × Int} (h : TI p 0 s) (h1 : s.1.1 ≤ w.1 ∧ w.1 ≤ 60000) (h2 : s.1.2.1 ≤ w.2 ∧ w.2 ≤ 400000) {y : Int} (hy : 0 ≤ y ∧ y ≤ 3) : TI p 0 ((w.1, w.2, y), s.2) := by
  obtain ⟨⟨a1, a2, a3, a4⟩, ⟨b1, b2, b3, b4⟩, c, d, e, ⟨f1, f2, f3⟩, g⟩ := h
  refine ⟨⟨⟨by show 0 ≤ w.1; omega, h1.2⟩, ⟨by show 0 ≤ w.2; omega, h2.2⟩, hy, a4⟩, ⟨b1, b2, b3, fun x hx => ?_⟩, c, d, e, ⟨f1, by show s.2.2.2.2.2.2 + 0 ≤ w.2; omega, by show (0 : Int) ≤ w.1; omega⟩, ?_⟩
  · have := b4 x hx
    show 0 ≤ x ∧ x + 0 ≤ w.1
    omega
  · show (suM s.2.2.2.2.1.1 : Int) + suM s.2.2.2.2.2.1.1 + s.2.1.length + p ≤ w.1 + 100
    omega
theorem PlV.mk {F V : List Int} (h : MkP F V) (hF : F.length ≤ 100000) : PlV V := fun v hv => by
  have := h v hv
  omega
/-- flow and lines are few -/
theorem GB9.fl {c : Int} {G : GS9} (h : GB9 c G) (hc : c ≤ 100) : G.2.2.length ≤ 6600 := by
  obtain ⟨q1, q2, q3, q4, q5⟩ := h
  omega
theorem RI9.pl {b : BK9} {g : HG9} (h : RI9 b g) : PlS (tx0 b.1) := by
  obtain ⟨h1, h2, h3, h4, ⟨h5, h6, -⟩, -⟩ := h
  have lf : b.2.1.2.length ≤ 6600 := GB9.fl h2 (by decide)
  refine ⟨⟨?_, h1.1.1.2⟩, PlV.mk h5 (by omega), PlV.mk h6 (by omega), fun v hv => absurd hv List.not_mem_nil⟩
  have := h1.1.1.1
  show ((0 : Nat) : Int) ≤ b.1.1.1 + 100
  have : 0 ≤ b.1.1.1 := this
  omega
/-- the work of a block -/
def b15 (b : BK9) : BK9 := (((b.1.1.1 + 15, b.1.1.2.1 + 15, b.1.1.2.2), b.1.2), b.2)
theorem RI9.sp {b : BK9} {g : HG9} (h : RI9 b g) (h1 : b.1.1.1 + 15 ≤ 60000) (h2 : b.1.1.2.1 + 15 ≤ 400000) : RI9 (b15 b) g ∧ TI ((suM g.1 : Nat) + 110 : Int) 0 (tx0 (b15 b).1) ∧ GB9 (-45) (bkG (b15 b)) := by
  obtain ⟨⟨⟨a1, a2, a3, a4⟩, ⟨b1, b2, b3, b4⟩, c, d, e, ⟨f1, f2, f3⟩, g1⟩, ⟨q1, q2, q3, q4, q5⟩, r⟩ := h
  have a1 : 0 ≤ b.1.1.1 ∧ b.1.1.1 ≤ 60000 := a1
  have a2 : 0 ≤ b.1.1.2.1 ∧ b.1.1.2.1 ≤ 400000 := a2
  have g1 : (suM b.1.2.2.2.2.1.1 : Int) + ((0 : Nat) : Int) + ((0 : Nat) : Int) + ((suM g.1 : Nat) + 100) ≤ b.1.1.1 + 100 := g1
  have q4 : ((suM (b.2.1.1.map (·.1)) : Nat) : Int) + 20 * b.2.1.1.length ≤ b.1.1.1 := q4
  have q5 : 45 * (b.2.1.2.length : Int) ≤ 3 * b.1.1.1 + 75 * b.2.1.1.length + 0 := q5
  have ti : TI ((suM g.1 : Nat) + 110 : Int) 0 (tx0 (b15 b).1) := by
    refine ⟨⟨⟨by show 0 ≤ b.1.1.1 + 15; omega, h1⟩, ⟨by show 0 ≤ b.1.1.2.1 + 15; omega, h2⟩, a3, a4⟩, ⟨b1, b2, b3, fun x hx => ?_⟩, c, d, e, ⟨f1, ?_, by show (0 : Int) ≤ b.1.1.1 + 15; omega⟩, ?_⟩
    · have := b4 x hx
      have : 0 ≤ x ∧ x + 0 ≤ b.1.1.1 := this
      show 0 ≤ x ∧ x + 0 ≤ b.1.1.1 + 15
      omega
    · have : b.1.2.2.2.2.2.2 + 0 ≤ b.1.1.2.1 := f2
      show b.1.2.2.2.2.2.2 + 0 ≤ b.1.1.2.1 + 15
      omega
    · show (suM b.1.2.2.2.2.1.1 : Int) + ((0 : Nat) : Int) + ((0 : Nat) : Int) + ((suM g.1 : Nat) + 110) ≤ b.1.1.1 + 15 + 100
      omega
  refine ⟨⟨ti.mo (by omega) (Int.le_refl _), ⟨⟨by show 0 ≤ b.1.1.1 + 15; omega, h1⟩, ⟨by show 0 ≤ b.1.1.2.1 + 15; omega, h2⟩, q3, by show ((suM (b.2.1.1.map (·.1)) : Nat) : Int) + 20 * b.2.1.1.length ≤ b.1.1.1 + 15; omega, by show 45 * (b.2.1.2.length : Int) ≤ 3 * (b.1.1.1 + 15) + 75 * b.2.1.1.length + 0; omega⟩, r⟩, ti, ⟨⟨by show 0 ≤ b.1.1.1 + 15; omega, h1⟩, ⟨by show 0 ≤ b.1.1.2.1 + 15; omega, h2⟩, q3, by show ((suM (b.2.1.1.map (·.1)) : Nat) : Int) + 20 * b.2.1.1.length ≤ b.1.1.1 + 15; omega, by show 45 * (b.2.1.2.length : Int) ≤ 3 * (b.1.1.1 + 15) + 75 * b.2.1.1.length + (-45); omega⟩⟩
/-- lines without a text -/
theorem RI9.bl {b : BK9} {g : HG9} {s : TS} {o sp : Int} {X : List (List Int × Int)} {G1 : GS9} (h : RI9 (s, b.2) g) (hb : GB9 90 ((s.1.1, s.1.2.1), b.2.1.1, flS b sp)) (hX : X ≠ []) (e : gAll o true X ((s.1.1, s.1.2.1), b.2.1.1, flS b sp) = .inl G1) : RI9 (blG (s, b.2) G1) g := by
  obtain ⟨h1, h2, h3, h4, ⟨h5, h6, h7⟩, ⟨h8, h9, h10⟩, h11, ⟨h12, h13⟩⟩ := h
  have gl := gAll_l e
  have gg := (gAll_g (o := o) (fw := true)).1 G1 e
  have gb := txG_b hX hb e
  obtain ⟨m, hm, -⟩ := flS_x (b := b) (sp := sp)
  have xl : 1 ≤ X.length := by
    cases X with
    | nil => exact absurd rfl hX
    | cons a t => show 1 ≤ t.length + 1; omega
  have lG : G1.2.1.length = b.2.1.1.length + X.length := by
    rw [gl.1, List.length_append, List.length_map]
  have eF : G1.2.2 = b.2.1.2 ++ (List.replicate m (-2) ++ seqZ b.2.1.1.length X.length) := by
    rw [gl.2.1, if_pos rfl]
    show flS b sp ++ _ = _
    rw [hm, List.append_assoc]
  refine ⟨TI.wk (w := (G1.1.1, G1.1.2)) h1 ⟨gg.2, gb.1.2⟩ ⟨gg.1, gb.2.1.2⟩ (by decide), ?_, h3, ?_, ⟨?_, ?_, h7⟩, ⟨?_, h9, ?_⟩, h11, ⟨?_, h13⟩⟩
  · exact gb
  · show FlW G1.2.1.length G1.2.2
    rw [eF, ← List.append_assoc, lG]
    exact h4.ad xl (Nat.le_refl _)
  · show MkP G1.2.2 _
    rw [eF]
    exact h5.ap
  · show MkP G1.2.2 _
    rw [eF]
    exact h6.ap
  · show MkP G1.2.2 _
    rw [eF]
    exact h8.ap
  · show SpP G1.2.1.length _
    intro x hx
    have : 0 ≤ x.1 ∧ x.1 ≤ x.2 ∧ x.2 ≤ (b.2.1.1.length : Int) := h10 x hx
    rw [lG]
    omega
  · show MkP G1.2.2 _
    rw [eF]
    exact h12.ap
theorem flS_90 {b : BK9} {s : TS} {sp : Int} (hs : 0 ≤ sp ∧ sp ≤ 3) (h : GB9 (-45) (bkG b)) (hw : b.1.1.1 ≤ s.1.1 ∧ s.1.1 ≤ 60000) (he : 0 ≤ s.1.2.1 ∧ s.1.2.1 ≤ 400000) : GB9 90 ((s.1.1, s.1.2.1), b.2.1.1, flS b sp) := by
  obtain ⟨q1, q2, q3, q4, q5⟩ := h
  have q1 : 0 ≤ b.1.1.1 ∧ b.1.1.1 ≤ 60000 := q1
  have q4 : ((suM (b.2.1.1.map (·.1)) : Nat) : Int) + 20 * b.2.1.1.length ≤ b.1.1.1 := q4
  have q5 : 45 * (b.2.1.2.length : Int) ≤ 3 * b.1.1.1 + 75 * b.2.1.1.length + (-45) := q5
  obtain ⟨m, hm, hm2⟩ := flS_x (b := b) (sp := sp)
  refine ⟨⟨by show 0 ≤ s.1.1; omega, hw.2⟩, he, q3, by show ((suM (b.2.1.1.map (·.1)) : Nat) : Int) + 20 * b.2.1.1.length ≤ s.1.1; omega, ?_⟩
  show 45 * ((flS b sp).length : Int) ≤ 3 * s.1.1 + 75 * b.2.1.1.length + 90
  rw [hm, List.length_append, List.length_replicate]
  omega
