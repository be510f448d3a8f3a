/-! THE TEXT OF A PARAGRAPH OR AN ITEM, with its notes: the class -/
def TyR9 : List Nat := [112, 114, 116, 118, 120, 122, 124, 130, 132, 134, 136, 138, 140, 142, 144]
def FrTy (z' : Nat) (σ σ' : MS) : Prop := (∀ q, q ∉ TXX → q ∉ TyR9 → mX σ' q = mX σ q) ∧ (∀ q, z' ≤ q → q ≤ z' + 36 → mX σ' q = mX σ q) ∧ σ'.2.2 = σ.2.2 ∧ ∀ y k, y ≠ 22 → y ≠ 86 → y ≠ 126 → ¬ (y = 111 ∧ (k = 9 ∨ k = 10 ∨ k = 11 ∨ k = 12)) → ¬ ((y = 49 ∨ y = 163) ∧ (k = 12 ∨ k = 13)) → ¬ (y = 128 ∧ k = 10) → mV σ' y k = mV σ y k
theorem suM_pq : ∀ (N : List (List Int)), suM (N.map pkL) ≤ suM N
  | [] => Nat.le_refl _
  | n :: r => by
    have h1 := pkL_q (L := n)
    have h2 := suM_pq r
    show (pkL n).length + suM (r.map pkL) ≤ n.length + suM r
    omega
theorem prN_ne {P : List Int} {hg J W : Int} {U : List Int} {hold : Int} {X : List (Nat × Nat × Bool)} : prN P hg J W U hold X ≠ [] := by
  cases X with
  | nil => exact List.cons_ne_nil _ _
  | cons x r => exact List.cons_ne_nil _ _
theorem pk_nil {L : List Int} (h : pkL L = []) {c : Int} (hc : c ∈ L) : c % 128 = 32 := by
  obtain ⟨i, hi, e⟩ := List.mem_iff_getElem.mp hc
  by_cases hs : sbl c = false
  · have hg : L.getD i 0 = c := by
      unfold List.getD
      rw [List.getElem?_eq_getElem hi, Option.getD_some]
      exact e
    have := (gP_at (L := L) (k := i) hi (by rw [hg]; exact hs)).2
    rw [h] at this
    exact absurd this (Nat.not_lt_zero _)
  · exact sbl_128 (by
      cases e9 : sbl c
      · exact absurd e9 hs
      · rfl)
section
variable {σ σ0 : MS} {Q : MQ9} {H : HY9} {T P S : List Int} {hg o sp : Int} {z z' : Nat} {E : TE} {b : BK9} {item : Bool}
theorem FrTy.x {σ1 : MS} (h : FrTx z' σ σ1) : FrTy z' σ σ1 := ⟨fun q a c => h.1 q a (fun e => c (by
  unfold TxR9 at e
  unfold TyR9
  simp only [List.mem_cons, List.not_mem_nil, or_false] at e ⊢
  omega)), h.2.1, h.2.2.1, fun y k a1 a2 a3 a4 a5 a6 => h.2.2.2 y k a1 a2 a3 (by omega) a5 a6⟩
theorem FrTy.nt {σ1 σ2 : MS} (hz' : z' = 49 ∨ z' = 163) (h : FrTx z' σ σ1) (h' : FrNt σ1 σ2) : FrTy z' σ σ2 := by
  have hx := FrTy.x h
  refine ⟨fun q a c => (h'.1 q (fun e => c (by
    unfold TyR9
    simp only [List.mem_cons, List.not_mem_nil, or_false] at e ⊢
    omega))).trans (hx.1 q a c), fun q a c => (h'.1 q (by
    simp only [List.mem_cons, List.not_mem_nil, or_false]
    omega)).trans (hx.2.1 q a c), h'.2.1.trans hx.2.2.1, fun y k a1 a2 a3 a4 a5 a6 => (h'.2.2 y k a1 a3 a4).trans (hx.2.2.2 y k a1 a2 a3 a4 a5 a6)⟩
theorem RdC.nt {s : TS} {w : Int × Int} {σ1 : MS} (h : RdC σ E z z' s) (f : FrNt σ σ1) (h0 : mV σ1 22 0 = w.1) (h1 : mV σ1 22 1 = w.2) : RdC σ1 E z z' ((w.1, w.2, s.1.2.2), s.2) := by
  obtain ⟨-, ⟨r3, r4, r5⟩, r6, ⟨⟨m1, m2, m3⟩, ⟨m4, m5⟩, m6, m7, m8⟩, r7, r8⟩ := h
  have hz := r4.2.2.1
  have hz' := r4.2.2.2.1
  have eB : mB σ1 = mB σ := congrArg Prod.fst f.2.1
  have nz : ∀ q, q < 111 ∨ 163 ≤ q → mX σ1 q = mX σ q := fun q a => f.1 q (by
    simp only [List.mem_cons, List.not_mem_nil, or_false]
    omega)
  have sh : ∀ {y : Nat} {R : List (List Int)}, shR σ y R → (z ≤ y ∧ y + 3 ≤ z + 36) → shR σ1 y R := fun h a => ⟨(nz _ (by omega)).trans h.1, (nz _ (by omega)).trans h.2⟩
  have v : ∀ y k, (y = 49 ∨ y = 163) → mV σ1 y k = mV σ y k := fun y k a => f.2.2 y k (by omega) (by omega) (by omega)
  exact ⟨⟨h0, h1⟩, ⟨by rw [eB]; exact r3, ⟨by rw [eB]; exact r4.1, by rw [eB]; exact r4.2.1, r4.2.2⟩, r5⟩, r6.cg (nz _ (by omega)) (nz _ (by omega)) (nz _ (by omega)), ⟨⟨sh m1 (by omega), sh m2 (by omega), (nz _ (by omega)).trans m3⟩, ⟨sh m4 (by omega), (nz _ (by omega)).trans m5⟩, (v _ _ hz).trans m6, (v _ _ hz).trans m7, (nz _ (by omega)).trans m8⟩, r7.cg hz' (fun q _ _ => nz q (by omega)) (v _ _ hz') (v _ _ hz'), r8.cg (fun q _ _ => nz q (by omega))⟩
/-- the class between blocks, with its lines -/
def BkC (σ : MS) (E : TE) (z z' : Nat) (b : BK9) : Prop := RdC σ E z z' b.1 ∧ GaC σ (bkG b) [] ∧ mX σ 140 = b.2.2.1.1 ∧ mX σ 142 = b.2.2.1.2.map (·.1) ∧ mX σ 144 = b.2.2.1.2.map (·.2) ∧ mV σ 128 10 = bZ b.2.2.2
theorem txt_c {th : String → MS → Prop} (hT : mX σ 206 = T) (hTb : smB T) (hT4 : T.length ≤ 8000) (hB : TbB E H S P hg o b) (hF : FiC σ H S P hg) (hK : BkC σ E z z' b) (h16 : mV σ 127 16 = o) (hsl : b.2.2.1.2.length = b.2.2.1.1.length) (hsp : 0 ≤ sp ∧ sp ≤ 3) (hy : ∀ b' σ', txD o E H S P hg sp item T b = .inl b' → BkC σ' E z z' b' → FrTy z' σ σ' → Q (.inl none) σ') (hn : ∀ e σ', txD o E H S P hg sp item T b = .inr e → TxF σ' e → FrTy z' σ σ' → th (exN 0) σ' ∧ Q (.inr (exN 0)) σ') : Setter_fillText sp (bZ item) σ (kV th fun σ1 => Setter_printNotes σ1 Q) := by
  have hB0 := hB
  obtain ⟨hE, hE2, hS, hb, hP6, hh, ho, hTI, hPl, hGB, hAl⟩ := hB
  have hz := hK.1.2.1.2.1.2.2.1
  have hz' := hK.1.2.1.2.1.2.2.2.1
  have n0 : 0 ≤ b.1.2.2.2.2.2.1.2.2 := by
    rw [← hAl]
    omega
  have m0e : (((b.1.2.2.2.2.2.1.2.2).toNat : Nat) : Int) = b.1.2.2.2.2.2.1.2.2 := by omega
  have fiN4 : ∀ σ1, FrTx z' σ σ1 → (∀ k, k < 13 → mV σ1 24 k = S.getD k 0) ∧ HyC σ1 H.2.1 H.2.2.1 H.2.2.2.1 H.2.2.2.2 ∧ mV σ1 127 16 = o ∧ mX σ1 142 = b.2.2.1.2.map (·.1) ∧ mX σ1 144 = b.2.2.1.2.map (·.2) := fun σ1 f => by
    have v : ∀ k, mV σ1 24 k = mV σ 24 k := fun k => f.2.2.2 _ _ (by decide) (by decide) (by decide) (by omega) (by omega) (by omega)
    have x : ∀ q, q ∉ TXX → q ∉ TxR9 → mX σ1 q = mX σ q := f.1
    obtain ⟨t1, t2, t3, t4, t7, t8⟩ := hF
    exact ⟨fun k hk => (v k).trans (t1 k hk), ⟨t7.1.cg (x _ (by decide) (by decide)) (x _ (by decide) (by decide)), t7.2.1.cg (x _ (by decide) (by decide)) (x _ (by decide) (by decide)), (v _).trans t7.2.2.1, (v _).trans t7.2.2.2⟩, (f.2.2.2 _ _ (by decide) (by decide) (by decide) (by decide) (by decide) (by decide)).trans h16, (x _ (by decide) (by decide)).trans hK.2.2.2.1, (x _ (by decide) (by decide)).trans hK.2.2.2.2.1⟩
  have eD : ∀ s1, wkD 30 E false [] T (tx0 b.1) = .inl s1 → ∀ r, txD o E H S P hg sp item T b = r ↔ (if mkd b.1 s1 = true ∧ foP (pkL s1.2.1) = -1 then (Sum.inr (6, s1.1.1, s1.1.2.1) : BK9 ⊕ (Int × Int × Int)) else if pkL s1.2.1 = [] ∧ item = false then .inl (tx0 s1, b.2) else txF o H S P hg sp b s1) = r := fun s1 w4 r => by
    unfold txD
    rw [w4]
  refine Setter_fillText.c hT hTb hT4 hB0 ⟨hK.1, hF, hK.2.1, hK.2.2.1, hK.2.2.2.2.2, h16⟩ hsp (fun s1 σ1 w1 w2 w3 w4 w5 w6 w7 w8 w9 w10 => ?_) (fun s1 G1 σ1 w1 w2 w3 w4 w5 w6 w7 w8 w9 w10 => ?_) (fun e σ1 w1 w2 w3 => (hn e σ1 w1 w2 (FrTy.x w3)).1)
  · have ti1 := wkD_ti hE (Int.le_refl 0) (Int.le_refl 0) hTI (fun w hw => absurd hw List.not_mem_nil) hTb w1
    have so := (so_wk (a := false) s1 w1).2.2 (Or.inl rfl)
    have hca : caS s1 = [] := by
      rcases so with h | ⟨c, hc, hn9⟩
      · exact h
      · exact absurd (pk_nil w3 hc) hn9
    have hN : s1.2.2.2.2.2.1.1 = [] := List.eq_nil_of_length_eq_zero (by
      have := ti1.2.2.2.2.1.1
      have h2 : s1.2.2.2.2.2.1.2.1.length = 0 := congrArg List.length hca
      omega)
    obtain ⟨g1, g2, g3, g4, g5⟩ := fiN4 σ1 w10
    show Setter_printNotes σ1 Q
    rw [hN] at w7
    refine Setter_printNotes.i (Setter_printNotes_10.i (Shelf_rows.i (tB.i (by decide) (tB.i (by decide) ?_))))
    have l7 : mX σ1 107 = [] := w7.2
    show Rg 0 ∧ ((((mX σ1 107).length : Nat) : Int) ≤ 0 → Q (.inl none) σ1) ∧ (0 < (((mX σ1 107).length : Nat) : Int) → _)
    rw [l7]
    refine ⟨by decide, fun _ => ?_, fun h => absurd h (by decide)⟩
    refine hy (tx0 s1, b.2) σ1 ((eD s1 w1 _).mpr (by rw [if_neg w2, if_pos ⟨w3, w4⟩])) ⟨w5, w6, w8, g4, g5, w9⟩ (FrTy.x w10)
  · have ti1 := wkD_ti hE (Int.le_refl 0) (Int.le_refl 0) hTI (fun w hw => absurd hw List.not_mem_nil) hTb w1
    have gr := gr_wk s1 w1
    have gr3 : (s1.2.2.2.2.2.1.1.length : Int) - ((0 : Nat) : Int) = s1.2.2.2.2.2.1.2.2 - b.1.2.2.2.2.2.1.2.2 := gr.2.2
    have n6 : s1.2.2.2.2.2.1.2.2 ≤ 60 := ti1.2.2.2.2.1.2.2.1
    obtain ⟨g1, g2, g3, g4, g5⟩ := fiN4 σ1 w10
    have su1 := suM_pq s1.2.2.2.2.2.1.1
    have su2 := ti1.2.2.2.2.2.2
    have su3 := ti1.1.1.2
    have nt : NtC σ1 H (S.getD 0 0) o z s1.2.2.2.2.2.1.1 (b.1.2.2.2.2.2.1.2.2).toNat := ⟨w7, w5.2.1.1, by
      rw [w5.2.2.2.1.2.2.1]
      show s1.2.2.2.2.2.1.2.2 = _
      omega, g2, g1 0 (by decide), by rw [g1 3 (by decide)]; exact hF.2.2.2.2.2, g3⟩
    have wge : b.1.1.1 ≤ s1.1.1 := (plc_wk s1 w1).1
    have gb : GB9 0 G1 := by
      have gbs : GB9 90 ((s1.1.1, s1.1.2.1), b.2.1.1, flS b sp) := by
        obtain ⟨q1, q2, q3, q4, q5⟩ := hGB
        have q4 : ((suM (b.2.1.1.map (·.1)) : Nat) : Int) + 20 * b.2.1.1.length ≤ b.1.1.1 := q4
        have q5 : 45 * (b.2.1.2.length : Int) ≤ 3 * b.1.1.1 + 75 * b.2.1.1.length + (-45) := q5
        refine ⟨ti1.1.1, ti1.1.2.1, q3, ?_, ?_⟩
        · show ((suM (b.2.1.1.map (·.1)) : Nat) : Int) + 20 * b.2.1.1.length ≤ s1.1.1
          omega
        · show 45 * ((flS b sp).length : Int) ≤ 3 * s1.1.1 + 75 * b.2.1.1.length + 90
          unfold flS
          rw [List.length_append]
          split
          · rw [List.length_replicate]
            omega
          · rw [List.length_nil]
            omega
      have hne := prN_ne (P := P) (hg := hg) (J := S.getD 2 0) (W := S.getD 0 0) (U := pkL s1.2.1) (hold := S.getD 7 0) (X := txX H S P hg (pkL s1.2.1))
      cases hp : prN P hg (S.getD 2 0) (S.getD 0 0) (pkL s1.2.1) (S.getD 7 0) (txX H S P hg (pkL s1.2.1)) with
      | nil => exact absurd hp hne
      | cons x r =>
        rw [hp] at w4
        have w4 : gBd (gFin o x.1 x.2 true ((s1.1.1, s1.1.2.1), b.2.1.1, flS b sp)) (gAll o true r) = .inl G1 := w4
        cases h1 : gFin o x.1 x.2 true ((s1.1.1, s1.1.2.1), b.2.1.1, flS b sp) with
        | inr e =>
          rw [h1] at w4
          cases w4
        | inl G2 =>
          rw [h1] at w4
          exact gAll_b (Int.le_refl 0) r ((gFin_b gbs h1).1.mo (by decide)) w4
    have hsl2 : (b.2.2.1.2.length : Int) = b.1.2.2.2.2.2.1.2.2 := by
      rw [← hAl]
      omega
    show Setter_printNotes σ1 Q
    refine Setter_printNotes.c (c9 := 0) (m0 := (b.1.2.2.2.2.2.1.2.2).toNat) hz ti1.2.2.2.2.1.2.2.2 (by omega) (by omega) hb hS.1 ho (Int.le_refl 0) nt w6 gb g4 g5 (by rw [List.length_map]; omega) (by rw [List.length_map]; omega) (fun G2 sps σ2 q1 q2 q3 q4 q5 => ?_) (fun e σ2 q1 q2 q3 => ?_)
    · rw [m0e] at q1
      refine hy (txM s1 G2.1 b.1.2.2.2.1.1.length b.1.2.2.2.2.1.1.length (crF (foP (pkL s1.2.1)) (flS b sp).length (txX H S P hg (pkL s1.2.1))), G2.2, (b.2.2.1.1 ++ s1.2.2.2.2.2.1.2.1.map (fun c => (((flS b sp).length + lnO c (txX H S P hg (pkL s1.2.1)) : Nat) : Int)), b.2.2.1.2 ++ sps), true) σ2 ((eD s1 w1 _).mpr ?_) ⟨?_, ?_, ?_, ?_, ?_, ?_⟩ (FrTy.nt hz' w10 q2)
      · rw [if_neg w2, if_neg w3]
        unfold txF
        rw [w4]
        show txN o H S b s1 (txX H S P hg (pkL s1.2.1)) (flS b sp).length b.1.2.2.2.2.2.1.2.2 G1 = _
        unfold txN
        rw [q1]
      · exact RdC.nt (w := G2.1) w5 q2 q3.2.2.2.2.2.1 q3.2.2.2.2.2.2
      · exact q3
      · rw [q2.1 140 (by decide)]
        exact w8
      · rw [q4, ← List.map_append]
      · rw [q5, ← List.map_append]
      · rw [q2.2.2 128 10 (by decide) (by decide) (by decide)]
        exact w9
    · rw [m0e] at q1
      refine (hn e σ2 ((eD s1 w1 _).mpr ?_) q2 (FrTy.nt hz' w10 q3)).2
      rw [if_neg w2, if_neg w3]
      unfold txF
      rw [w4]
      show txN o H S b s1 (txX H S P hg (pkL s1.2.1)) (flS b sp).length b.1.2.2.2.2.2.1.2.2 G1 = _
      unfold txN
      rw [q1]
end
