/-! HEADINGS: the class works their text -/
def hgE (E : TE) (Lt : List Int) : TE := (E.1, E.2.1, Lt, 1)
def hgS (Lt : List Int) (s : TS) : TS := pfO (Lt ++ [32]) (tx0 s)
def FrHb (z' : Nat) (σ σ' : MS) : Prop := (∀ q, q ∉ TXX → q ≠ 206 → mX σ' q = mX σ q) ∧ (∀ q, z' ≤ q → q ≤ z' + 36 → mX σ' q = mX σ q) ∧ σ'.2.2 = σ.2.2 ∧ ∀ y k, y ≠ 22 → y ≠ 86 → ¬ ((y = 49 ∨ y = 163) ∧ (k = 12 ∨ k = 13)) → mV σ' y k = mV σ y k
/-- solid signs alone stay as they are -/
theorem pkS_so : ∀ {L R : List Int}, (∀ c ∈ L, sbl c = false) → L.foldl pkF (R, false) = (R ++ L, false)
  | [], R, _ => by
    rw [List.append_nil]
    rfl
  | c :: r, R, h => by
    have e : pkF (R, false) c = (R ++ [c], false) := by
      unfold pkF
      rw [h c List.mem_cons_self, if_neg (by decide), if_neg (fun h => absurd (show (false : Bool) = true from h.1) (by decide))]
    show r.foldl pkF (pkF (R, false) c) = _
    rw [e, pkS_so (fun x hx => h x (List.mem_cons_of_mem _ hx)), List.append_assoc]
    rfl
theorem pkS_hg {Lt : List Int} (h : ∀ c ∈ Lt, sbl c = false) : pkS (Lt ++ [32]) = (Lt, true) := by
  rw [pkS_sn]
  unfold pkS
  rw [pkS_so h, List.nil_append]
  rfl
section
variable {σ σ0 : MS} {Q : MQ9} {z z' : Nat} {E : TE} {s : TS}
theorem RdC.lt {σ1 : MS} {Lt : List Int} {al : Int} (h : RdC σ E z z' s) (f : FrHa z σ σ1) (hl : mX σ1 (z + 35) = Lt) : RdC σ1 (E.1, E.2.1, Lt, al) z z' s := by
  obtain ⟨⟨r1, r2⟩, ⟨r3, r4, r5⟩, r6, ⟨⟨m1, m2, m3⟩, ⟨m4, m5⟩, m6, m7, m8⟩, r7, r8⟩ := h
  have hz := r4.2.2.1
  have hz' := r4.2.2.2.1
  have eB : mB σ1 = mB σ := congrArg Prod.fst f.2.1
  have sh : ∀ {y : Nat} {R : List (List Int)}, shR σ y R → (y = z + 1 ∨ y = z + 6 ∨ y = z + 24) → shR σ1 y R := fun h a => ⟨(f.1 _ (by omega)).trans h.1, (f.1 _ (by omega)).trans h.2⟩
  exact ⟨⟨(f.2.2 _ _ (by decide)).trans r1, (f.2.2 _ _ (by decide)).trans r2⟩, ⟨by rw [eB]; exact r3, ⟨by rw [eB]; exact r4.1, by rw [eB]; exact r4.2.1, hz, hz', fun _ => r5⟩, r5⟩, r6.cg (f.1 _ (by omega)) (f.1 _ (by omega)) (f.1 _ (by omega)), ⟨⟨sh m1 (by omega), sh m2 (by omega), (f.1 _ (by omega)).trans m3⟩, ⟨sh m4 (by omega), (f.1 _ (by omega)).trans m5⟩, (f.2.2 _ _ (by omega)).trans m6, (f.2.2 _ _ (by omega)).trans m7, hl⟩, KB.cg (E := (E.1, E.2.1, Lt, al)) hz' r7 (fun q a c => f.1 q (by omega)) (f.2.2 _ _ (by omega)) (f.2.2 _ _ (by omega)), KU.cg (E := (E.1, E.2.1, Lt, al)) r8 (fun q a c => f.1 q (by omega))⟩
theorem RdC.al {al : Int} (h : RdC σ E z z' s) : RdC σ (E.1, E.2.1, E.2.2.1, al) z z' s := h.lt ⟨fun _ _ => rfl, rfl, fun _ _ _ => rfl⟩ h.2.2.2.1.2.2.2.2
theorem hea_B {at9 l : Nat} {M Lt T : List Int} (hM : mX σ 3 = M) (hM4 : M.length ≤ 4000) (hL : LnM σ M (mlL M)) (hat : at9 < (mlL M).length) (hl3 : 1 ≤ l ∧ l ≤ 3) (hsk : ((mlL M).getD at9 (0, 0)).1 + (l + 1) ≤ ((mlL M).getD at9 (0, 0)).2) (hT : T = tpT (sgT M (((mlL M).getD at9 (0, 0)).1 + (l + 1)) ((mlL M).getD at9 (0, 0)).2)) (hTb : smB T) (hT4 : T.length ≤ 8000) (hE : EI (hgE E Lt)) (hR : RdC σ (hgE E Lt) z z' s) (hTI : TI 0 0 (hgS Lt s)) (hLt : ∀ c ∈ Lt, sbl c = false) (hLl : Lt.length ≤ 32) (hq : ∀ s1 σ', wkD 30 (hgE E Lt) false [] T (hgS Lt s) = .inl s1 → mX σ' 87 = pkL s1.2.1 → RdC σ' (hgE E Lt) z z' (tx0 s1) → FrHb z' σ σ' → Setter_heading_223 (l : Int) ((s.2.2.2.1.1.length : Nat) : Int) ((s.2.2.2.2.1.1.length : Nat) : Int) σ' Q) (hn : ∀ e σ', wkD 30 (hgE E Lt) false [] T (hgS Lt s) = .inr e → TxF σ' e → FrHb z' σ σ' → Q (.inr (exN 0)) σ') : Setter_heading_97 (at9 : Int) (l : Int) ((l + 1 : Nat) : Int) σ Q := by
  have hKZ := hR.2.1.2.1
  have hz := hKZ.2.2.1
  have hz' := hKZ.2.2.2.1
  have hne := hR.2.1.2.2
  have hB0 := hR.2.1.1
  have mkz : isMarks z = true ∧ isShelf (z + 1) = true ∧ isShelf (z + 24) = true ∧ isRow (z + 4) = true ∧ isRow (z + 27) = true ∧ isRow (z + 35) = true ∧ neB (z + 35) 87 = true := by
    rcases hz with rfl | rfl <;> decide +kernel
  refine Setter_heading_97.i ⟨by unfold Rg; omega, fun _ => ?_, fun h => absurd h (by omega)⟩
  refine (Texts_openText.c (E := hgE E Lt) hR hTI.1.1.1 (show Rg 1 by decide) (fun σ1 f1 hc1 => ?_) : Texts_openText (hgE E Lt).2.2.2 σ _)
  have e1 : σ1.2.2 = σ.2.2 := f1.2.1
  have b1 : mB σ1 0 = z := by rw [show mB σ1 = mB σ from congrArg Prod.fst e1]; exact hB0
  have km1 := hc1.1.2.2.1.2.2.2.1.2 (show (0 : Int) < 1 by decide)
  show Setter_heading_155 (at9 : Int) (l : Int) σ1 Q
  refine Setter_heading_155.i ?_
  rw [b1]
  have y35 : mX σ1 (z + 35) = Lt := km1.2.2.2.2
  have y87 : mX σ1 87 = [] := hc1.1.2.1.1.1
  refine tB.i mkz.1 (Texts_beginWith.i (tB.i mkz.2.2.2.2.2.1 (tB.i mkz.2.2.2.2.2.1 (tB.i mkz.2.2.2.2.2.2 ?_))))
  rw [y35, y87, pour_all, List.nil_append]
  refine ⟨by show 0 + _ ≤ _; omega, ?_⟩
  show Setter_heading_169 (at9 : Int) (l : Int) (wV (wX σ1 87 Lt) 86 18 1) Q
  have k2 : K2 σ1 (wV (wX σ1 87 Lt) 86 18 1) := K2.w87.tr K2.w18
  have x2 : ∀ q, q ≠ 87 → mX (wV (wX σ1 87 Lt) 86 18 1) q = mX σ1 q := fun q h => wX_ne h
  have hc2 : CxC (wV (wX σ1 87 Lt) 86 18 1) (hgE E Lt) false [] 0 [] 0 (Lt, true) [] [] z z' 0 (hgS Lt s) 0 := by
    obtain ⟨⟨t1, t2, t3, t4⟩, t5, t6, t7, t8, t9⟩ := hc1
    refine ⟨⟨⟨?_, ?_, ?_⟩, ⟨⟨?_, wV_self, by show Lt.length ≤ 60200; omega⟩, ?_, ?_, fun h => absurd h (by decide), fun _ => ⟨(pkS_hg hLt).symm.trans (by show pkS (Lt ++ [32]) = pkS ((Lt ++ [32]) ++ []); rw [List.append_nil]), ?_⟩⟩, t3.k2 k2, ?_⟩, t5, t6, t7, t8, t9⟩
    · exact (wV_ne (Or.inl (by decide))).trans t1.1
    · exact (wV_ne (Or.inl (by decide))).trans t1.2.1
    · exact (wV_ne (Or.inr (by decide))).trans t1.2.2
    · exact (wX_self : mX (wX σ1 87 Lt) 87 = Lt)
    · show ((mX (wX σ1 87 Lt) 89).length : Int) ≤ _
      rw [wX_ne (by decide)]
      exact t2.2.1
    · show okK (mX (wX σ1 87 Lt) 89)
      rw [wX_ne (by decide)]
      exact t2.2.2.1
    · show mX (wX σ1 87 Lt) 89 = []
      rw [wX_ne (by decide)]
      exact (t2.2.2.2.2 rfl).2
    · exact ⟨fun h => absurd h (by decide), fun h => (wV_ne (Or.inr (by decide))).trans (t4.2 h)⟩
  generalize hσ2 : wV (wX σ1 87 Lt) 86 18 1 = σ2 at k2 x2 hc2
  have m2 : mX σ2 3 = M := (x2 3 (by decide)).trans ((f1.1 3 (by decide)).trans hM)
  refine Setter_heading_169.i ?_
  have key := Setter_gather.c (σ := σ2) (Q := kV (thQ Q) fun σ1 => Setter_heading_180 (l : Int) σ1 Q) (T := M) (at9 := at9) (nx := at9 + 1) (sk := l + 1) m2 hM4 ⟨(x2 _ (by decide)).trans ((f1.1 _ (by decide)).trans hL.1), (x2 _ (by decide)).trans ((f1.1 _ (by decide)).trans hL.2.1), (x2 _ (by decide)).trans ((f1.1 _ (by decide)).trans hL.2.2)⟩ (by omega) (by omega) hsk
  rw [show at9 + 1 - 1 = at9 by omega, ← hT, show ((at9 + 1 : Nat) : Int) = (at9 : Int) + 1 by omega, show ((l + 1 : Nat) : Int) = (l : Int) + 1 by omega] at key
  refine key ?_
  show Setter_heading_180 (l : Int) (wX σ2 206 T) Q
  have x3 : ∀ q, q ≠ 206 → mX (wX σ2 206 T) q = mX σ2 q := fun q h => wX_ne h
  have hc3 : CxC (wX σ2 206 T) (hgE E Lt) false [] 0 [] 0 (Lt, true) [] [] z z' 0 (hgS Lt s) 0 := by
    obtain ⟨⟨t1, t2, ⟨⟨a1, a2, a3, a4, a5, a6⟩, a7, a8, a9, a10, a11⟩, t4⟩, t5⟩ := hc2
    refine ⟨⟨t1, ⟨⟨(x3 _ (by decide)).trans t2.1.1, t2.1.2.1, t2.1.2.2⟩, ?_, ?_, fun h => absurd h (by decide), fun h => ⟨(t2.2.2.2.2 h).1, (x3 _ (by decide)).trans (t2.2.2.2.2 h).2⟩⟩, ⟨⟨a1, a2, a3, a4, (x3 _ (by decide)).trans a5, (x3 _ (by decide)).trans a6⟩, a7, a8.cg (x3 _ (by decide)) (x3 _ (by decide)) (x3 _ (by decide)), a9.cg hz (fun q hq => x3 q (by omega)) rfl rfl, a10.cg hz' (fun q h1 h2 => x3 q (by omega)) rfl rfl, a11.cg (fun q h1 h2 => x3 q (by omega))⟩, t4⟩, t5⟩
    · rw [x3 _ (by decide)]
      exact t2.2.1
    · rw [x3 _ (by decide)]
      exact t2.2.2.1
  have y206 : mX (wX σ2 206 T) 206 = T := wX_self
  have b3 : mB (wX σ2 206 T) = mB σ := by
    show mB σ2 = mB σ
    rw [← hσ2]
    exact congrArg Prod.fst e1
  have f03 : (∀ q, q ∉ OtX → q ≠ 206 → mX (wX σ2 206 T) q = mX σ q) ∧ (wX σ2 206 T).2.2 = σ.2.2 ∧ ∀ y k, y ≠ 86 → mV (wX σ2 206 T) y k = mV σ y k := by
    refine ⟨fun q a c => (x3 q c).trans ((x2 q (fun e => a (by rw [e]; decide))).trans (f1.1 q a)), by rw [← hσ2]; exact e1, fun y k a => ?_⟩
    show mV σ2 y k = _
    rw [← hσ2, wV_ne (Or.inl a)]
    exact f1.2.2 y k a
  generalize wX σ2 206 T = σ3 at hc3 y206 b3 f03 x3
  have km3 := hc3.1.2.2.1.2.2.2.1.2 (show (0 : Int) < 1 by decide)
  have b30 : mB σ3 0 = z := by rw [b3]; exact hB0
  refine Setter_heading_180.i ?_
  rw [b30]
  refine tB.i mkz.1 (tB.i mkz.2.1 (Shelf_rows.i (tB.i mkz.2.1 (tB.i mkz.2.2.2.1 ?_))))
  show tB (isMarks (mB σ3 0)) (tB (isShelf (mB σ3 0 + 24)) (Shelf_rows (mB σ3 0 + 24) σ3 _))
  rw [b30]
  refine tB.i mkz.1 (tB.i mkz.2.2.1 (Shelf_rows.i (tB.i mkz.2.2.1 (tB.i mkz.2.2.2.2.1 ?_))))
  have la : (mX σ3 (z + 1 + 3)).length = s.2.2.2.1.1.length := by
    rw [km3.1.1.2, enS_len]
    rfl
  have lk : (mX σ3 (z + 24 + 3)).length = s.2.2.2.2.1.1.length := by
    rw [km3.2.1.1.2, enS_len]
    rfl
  show Texts_work 240 206 0 (((mX σ3 206).length : Nat) : Int) 0 σ3 _
  rw [la, lk]
  have hSg : SgT σ3 206 0 T := ⟨by decide, by decide, by omega, fun t ht => by
    rw [y206, show ((0 : Nat) : Int) + (t : Int) = (t : Int) by omega]
    exact rgt_n ht⟩
  have hBz : mB σ3 3 = z' ∧ mB σ3 2 ≠ z' := by
    rw [b3]
    exact ⟨hKZ.2.1, by rw [hKZ.1]; exact hne⟩
  have frb : ∀ σ4, FrT σ3 σ4 → FrHb z' σ σ4 := fun σ4 f4 => by
    have ft := FrTx.t hz' hBz f4
    refine ⟨fun q a c => (f4.1 q a).trans (f03.1 q (fun e => a (by
      unfold OtX at e
      simp only [List.mem_cons, List.not_mem_nil, or_false] at e
      rcases e with rfl | rfl | rfl | rfl | rfl | rfl | rfl <;> decide)) c), fun q a c => (ft.2.1 q a c).trans (f03.1 q (by
      unfold OtX
      simp only [List.mem_cons, List.not_mem_nil, or_false]
      omega) (by omega)), f4.2.1.trans f03.2.1, fun y k a1 a2 a3 => (f4.2.2.1 y k a1 a2 a3).trans (f03.2.2 y k a2)⟩
  rw [show (((mX σ3 206).length : Nat) : Int) = ((0 + T.length : Nat) : Int) by rw [y206, Nat.zero_add]]
  refine Texts_work.c (D := 30) (dep := 0) hE (is_c hE 30 (by decide)) (by decide) (by decide) hSg hTb hc3 hTI ⟨fun s1 σ4 w4 d4 => ?_, fun e σ4 w4 q4 f4 => hn e σ4 w4 q4 (frb σ4 f4)⟩
  obtain ⟨f4, R4, c4, -⟩ := d4
  have km4 := c4.2.2.1.2.2.2.1.2 (show (0 : Int) < 1 by decide)
  have hU4 : mX σ4 87 = pkL s1.2.1 := by
    rw [c4.2.1.1.1, (c4.2.1.2.2.2.2 rfl).1]
    rfl
  have b4 : mB σ4 0 = z := by rw [show mB σ4 = mB σ3 from congrArg Prod.fst f4.2.1]; exact b30
  exact hq s1 σ4 w4 hU4 ⟨⟨c4.1.1, c4.1.2.1⟩, ⟨b4, c4.2.2.1.2.1, hne⟩, c4.2.2.1.2.2.1, ⟨km4.1, km4.2.1, km4.2.2.1.1, km4.2.2.2.1, km4.2.2.2.2⟩, c4.2.2.1.2.2.2.2.1, c4.2.2.1.2.2.2.2.2⟩ (frb σ4 f4)
end
