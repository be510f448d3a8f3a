/-! TABLES: the reference, the whole -/
def AlTq (nw z k : Nat) : Prop := AlTn nw z k ∨ z ∈ 347 :: 344 :: 346 :: BlS ∨ z = 256 ∨ z = 348 ∨ (z = 246 ∧ k ∈ 146 :: 147 :: 148 :: BlK)
def FrTq (nw : Nat) (σ σ' : MS) : Prop := FrA (AlTq nw) σ σ'
section
variable {σ σ0 : MS} {Q : MQ9} {E : TE} {nw : Nat} {M S : List Int} {H : HY9} {at9 nx : Nat} {t0 o : Int} {b : BK9}
theorem FrTq.tr {σ1 σ2 : MS} (h : FrTq nw σ σ1) (h' : FrTq nw σ1 σ2) : FrTq nw σ σ2 := FrA.tr h h'
theorem FrTq.n {σ1 : MS} (h : FrTn nw σ σ1) : FrTq nw σ σ1 := FrA.mo h (fun z k a => Or.inl a)
theorem FrTq.z {S9 K9 : List Nat} {σ1 : MS} (h : FrZ S9 K9 σ σ1) (hs : ∀ x ∈ S9, x ∈ 256 :: 348 :: 347 :: 344 :: 346 :: BlS) (hk : ∀ x ∈ K9, x ∈ 146 :: 147 :: 148 :: BlK) : FrTq nw σ σ1 := ⟨h.1, h.2.1, fun z k n => h.2.2 z k (fun e => n (by
  rcases List.mem_cons.mp (hs z e) with h | h
  · exact Or.inr (Or.inr (Or.inl h))
  · rcases List.mem_cons.mp h with h | h
    · exact Or.inr (Or.inr (Or.inr (Or.inl h)))
    · exact Or.inr (Or.inl h))) (by
  by_cases h6 : z = 246
  · exact Or.inr (fun e => n (Or.inr (Or.inr (Or.inr (Or.inr ⟨h6, hk k e⟩)))))
  · exact Or.inl h6)⟩
/-- what a table's cells leave of the galley -/
theorem tn_no {z k : Nat} (h : z ∈ [284, 297, 303, 304, 308, 309, 310, 311, 312, 313, 314, 315, 316, 317, 318, 320, 321, 269, 270, 271, 272, 273, 274, 275] ∨ (z = 246 ∧ k ∈ [29, 47, 48, 98, 99, 112, 113])) : ¬ AlTn nw z k := by
  unfold AlTn AlTm AlTe AlBt
  rcases h with h | ⟨rfl, h⟩
  · have a1 : ∀ y ∈ [284, 297, 303, 304, 308, 309, 310, 311, 312, 313, 314, 315, 316, 317, 318, 320, 321, 269, 270, 271, 272, 273, 274, 275], y ≠ 246 ∧ y ∉ BtS ∧ y ∉ TRS ∧ y ∉ [342, 343, 346] ∧ y ≠ 344 ∧ y ≠ 345 := by decide
    obtain ⟨b1, b2, b3, b4, b5, b6⟩ := a1 z h
    rintro ((((h | h | h) | h) | h) | h)
    · exact b1 h.1
    · exact b2 h
    · exact b3 h.1
    · exact b4 h
    · exact b5 h
    · exact b6 h
  · have a1 : ∀ y ∈ [29, 47, 48, 98, 99, 112, 113], y ∉ BtK := by decide
    rintro ((((h2 | h2 | h2) | h2) | h2) | h2)
    · exact a1 k h h2.2
    · exact absurd h2 (by decide)
    · exact absurd h2.1 (by decide)
    · exact absurd h2 (by decide)
    · exact absurd h2 (by decide)
    · exact absurd h2 (by decide)
theorem FrTn.v {σ1 : MS} (f : FrTn nw σ σ1) {z : Nat} (h : z ∈ [284, 297, 303, 304, 308, 309, 310, 311, 312, 313, 314, 315, 316, 317, 318, 320, 321, 269, 270, 271, 272, 273, 274, 275]) (k : Nat) : mV σ1 z k = mV σ z k := f.2.2 z k (tn_no (Or.inl h))
theorem FrTn.k6 {σ1 : MS} (f : FrTn nw σ σ1) {k : Nat} (h : k ∈ [29, 47, 48, 98, 99, 112, 113]) : mV σ1 246 k = mV σ 246 k := f.2.2 246 k (tn_no (Or.inr ⟨rfl, h⟩))
/-- the state between blocks once cells have been worked -/
theorem BkR.tn {σ1 : MS} {s : TS} {g : Nat} (h : BkR σ E nw b) (hfl : FlB b) (f : FrTn nw σ σ1) (hC : CbR σ1 E nw s g) (hk : TbK b.1 s) : BkR σ1 E nw (s, b.2) := by
  obtain ⟨r1, r2, r3, r4, ⟨r5, r6⟩, ⟨r7, r8⟩, r9⟩ := h
  obtain ⟨⟨c1, c2, c3⟩, c4, c5, c6, c7, c8⟩ := hC
  refine ⟨⟨c1, c2, c3, r1.2.2.2.cg (f.k6 (by decide)) (f.k6 (by decide)) (fun z k hz _ => f.v (by rcases hz with rfl | rfl | rfl | rfl | rfl <;> decide) k) (fun k _ => ⟨f.v (by decide) k, f.v (by decide) k⟩)⟩, c7, c5, c6, ⟨⟨(f.k6 (by decide)).trans r5.1, fun i hi => ?_⟩, (f.k6 (by decide)).trans r6⟩, ⟨?_, ?_⟩, r9.cg hfl (fun z j hz => f.v (by rcases hz with rfl | rfl <;> decide) j) (fun z j hz _ => f.v (by rcases hz with rfl | rfl <;> decide) j)⟩
  · rw [f.v (z := 320) (by decide), f.v (z := 321) (by decide)]
    exact r5.2 i hi
  · show MkL σ1 284 b.2.1.2 s.2.2.2.1.2.2
    rw [hk.2.1]
    exact r7.cg (fun j => f.v (by decide) j)
  · show MkL σ1 297 b.2.1.2 s.2.2.2.2.1.2
    rw [hk.2.2.1]
    exact r8.cg (fun j => f.v (by decide) j)
theorem HyR.tn {σ1 : MS} {P X : List (List Int)} {l r : Int} (h : HyR σ P X l r) (f : FrTn nw σ σ1) : HyR σ1 P X l r := by
  obtain ⟨⟨a1, a2⟩, ⟨b1, b2⟩, c1, c2⟩ := h
  refine ⟨⟨(f.k6 (by decide)).trans a1, fun p hp => ?_⟩, ⟨(f.k6 (by decide)).trans b1, fun x hx => ?_⟩, (f.v (by decide) _).trans c1, (f.v (by decide) _).trans c2⟩
  · obtain ⟨d1, d2, d3⟩ := a2 p hp
    exact ⟨(f.v (by decide) _).trans d1, d2.cg (fun k _ _ => f.v (by decide) _), fun k hk => (f.v (by decide) _).trans (d3 k hk)⟩
  · obtain ⟨d1, d2, d3⟩ := b2 x hx
    refine ⟨(f.v (by decide) _).trans d1, d2.cg (fun k _ _ => f.v (by decide) _), fun k hk => ?_⟩
    rw [f.v (by decide) _]
    exact d3 k hk
theorem BkR.lt9 {S9 K9 : List Nat} {σ1 : MS} (h : BkR σ E nw b) (hE2 : E.2.2.2 = 2) (q : FrZ S9 K9 σ σ1) (hs : ∀ z ∈ 300 :: BkZ, z ∉ S9) (hk : ∀ k ∈ 84 :: BkQ, k ∉ K9) : BkR σ1 E nw b := by
  have e := h.2.1.2.2.2.2 (by rw [hE2]; decide)
  exact h.lt (Lt := E.2.2.1) (al := E.2.2.2) q (fun z hz => hs z (List.mem_cons_of_mem _ hz)) (fun k hk' => hk k (List.mem_cons_of_mem _ hk')) ⟨(q.f (hk _ List.mem_cons_self) (hs _ (by decide))).trans e.1, q.hol (hs _ List.mem_cons_self) (by decide) e.2⟩
/-- lines of a block without a text have come into the flow -/
theorem BkR.bl9 {σ1 : MS} {G1 : GS9} {Z : List Int} {k : Nat} (h : BkR σ E nw b) (hfl : FlB b) (hsl : b.2.2.1.2.length = b.2.2.1.1.length) (f : FrZ (347 :: BlS) (146 :: 147 :: 148 :: BlK) σ σ1) (hG : RxG σ1 G1) (hev : mV σ 246 33 ≤ mV σ1 246 33) (hE : ElR σ1 (b.2.1.2 ++ Z ++ seqZ b.2.1.1.length k)) (hF : G1.2.2 = b.2.1.2 ++ Z ++ seqZ b.2.1.1.length k) (hZ : ∀ x ∈ Z, x < 0) (hb : mV σ1 246 113 = 1) (h7 : ∀ z j, z = 317 ∨ z = 318 → j < b.2.1.1.length → mV σ1 z j = mV σ z j) (hnew : ∀ i, i < k → mV σ1 317 (b.2.1.1.length + i) = 0 ∧ mV σ1 318 (b.2.1.1.length + i) = 0) : BkR σ1 E nw (blG b G1) := by
  obtain ⟨r1, r2, ⟨m1, m2, m3, m4, m5⟩, r4, ⟨r5, r6⟩, ⟨r7, r8⟩, r9⟩ := h
  have z : ∀ y j, y = 284 ∨ y = 297 ∨ y = 303 ∨ y = 304 → mV σ1 y j = mV σ y j := fun y j a => f.z (by
    show y ∉ 347 :: 320 :: 321 :: 338 :: 339 :: MkS
    unfold MkS
    simp only [List.mem_cons, List.not_mem_nil, or_false]
    omega) (by omega)
  refine ⟨hG, r2.k f (by decide) (by decide), ⟨m1.z f (by decide) (by decide), m2.z f (by decide), m3.z f (by decide) (by decide), (f.f (by decide) (by decide)).trans m4, (f.f (by decide) (by decide)).trans m5⟩, ?_, ⟨by show ElR σ1 G1.2.2; rw [hF]; exact hE, hb⟩, ⟨?_, ?_⟩, ?_⟩
  · unfold UnB at r4 ⊢
    rw [f.f (k := 85) (by decide) (by decide)]
    omega
  · show MkL σ1 284 G1.2.2 b.1.2.2.2.1.2.2
    rw [hF]
    intro j hj
    rw [z 284 j (by omega)]
    exact ((r7 j hj).app (Z := Z)).app
  · show MkL σ1 297 G1.2.2 b.1.2.2.2.2.1.2
    rw [hF]
    intro j hj
    rw [z 297 j (by omega)]
    exact ((r8 j hj).app (Z := Z)).app
  · show NnR σ1 G1.2.2 b.2.2.1.1 b.2.2.1.2
    rw [hF]
    have := r9.new (σ1 := σ1) (Z := Z) (n0 := b.2.1.1.length) (k := k) (m0 := b.2.2.1.1.length) (qs := []) (sps := []) hfl hZ rfl hsl rfl (fun x hx => absurd hx List.not_mem_nil) (fun y j a _ => z y j (by omega)) h7 (fun i hi => absurd hi (Nat.not_lt_zero _)) (fun i hi => ⟨fun _ => hnew i hi, fun h => absurd rfl h⟩)
    rw [List.map_nil, List.append_nil, List.append_nil] at this
    exact this
theorem tpG_ne {f : Nat → List Int} {first : Bool} {many n i : Nat} (h : 1 ≤ n) : tpG f first many n i ≠ [] := by
  obtain ⟨m, rfl⟩ : ∃ m, n = m + 1 := ⟨n - 1, by omega⟩
  intro h
  cases h
theorem tbO_ne {W A : List Int} {c : Nat} {first : Bool} {R : List (List (List Int))} (h : R ≠ []) : tbO H W A c first R ≠ [] := by
  cases R with
  | nil => exact absurd rfl h
  | cons row r =>
    intro e
    have e : tpR H W A c first row ++ tbO H W A c false r = [] := e
    have := (List.append_eq_nil_iff.mp e).1
    unfold tpR at this
    exact tpG_ne (tpN_1 c) (List.append_eq_nil_iff.mp this).1
theorem R_table.p (hB : TbB E H S [] 0 o b) (hMb : smB M) (hSc : ScR σ M) (ht0 : 0 ≤ t0) (hTI : TI t0 0 (tx0 b.1)) (hat : at9 < nx) (hnx : nx ≤ (mlL M).length) (hsol : ∀ j, at9 ≤ j → j < nx → ((mlL M).getD j (0, 0)).1 + 1 ≤ ((mlL M).getD j (0, 0)).2) (hSv : ∀ k, k < 13 → mV σ 275 k = S.getD k 0) (hHy : HyR σ H.2.1 H.2.2.1 H.2.2.2.1 H.2.2.2.2) (ho : mV σ 246 29 = o) (hR : BkR σ E nw b) (hfl : FlB b) (hsl : b.2.2.1.2.length = b.2.2.1.1.length) (hy : ∀ b' σ', tbF o E H S M at9 nx b = .inl b' → BkR σ' E nw b' → FrTq nw σ σ' → Q (.inl none) σ') (hn : ∀ e σ', tbF o E H S M at9 nx b = .inr e → TxR σ' e → UnB σ' → FrTq nw σ σ' → Q (.inl none) σ') : R_table (at9 : Int) ((nx : Int) - (at9 : Int)) σ Q := by
  obtain ⟨hE, hE2, hS, hb, hP6, hh, hor, hTI0, hPl, hGB, hAl⟩ := hB
  have s8 := hS.2.2.2.2.2.2
  refine trr_tab hE hE2 hMb hSc hR ht0 hTI hat hnx hsol (fun q σ1 w1 tl1 al1 f1 => ?_) (fun e σ1 w1 q1 q2 f1 => hn e σ1 (by unfold tbF; rw [w1]) q1 q2 (FrTq.n f1))
  obtain ⟨⟨R, A⟩, s⟩ := q
  obtain ⟨tp, okq, tk, lq, r8⟩ := tbA_p hE hMb ht0 hTI w1
  have tl1 : TlS σ1 E nw s R := tl1
  have tp : TI (tbP R.flatten + t0) 0 (tx0 s) := tp
  have okq : ∀ u ∈ R.flatten, okK u := okq
  have tk : TbK b.1 s := tk
  have lq : R.length ≤ (tbL M at9 nx).length := lq
  have r8 : ∀ row ∈ R, row.length ≤ 8 := r8
  have al1 : ∀ k, k < 8 → mV σ1 345 k = alN (A.getD k 0) := al1
  have alA := tbA_al w1
  have few : R.flatten.length ≤ 4010 := tb_few tp ht0
  have hM4 := hSc.2.1
  have ml4 : (mlL M).length ≤ 4000 := Nat.le_trans (mlF_l (T := M) M.length 0) hM4
  have l4 : R.length ≤ 4000 := by
    have : (tbL M at9 nx).length ≤ nx - at9 := by
      unfold tbL
      exact List.length_take_le _ _
    omega
  have hsu : suM R.flatten ≤ 65000 := by
    have b0 : 0 ≤ s.1.1 ∧ s.1.1 ≤ 60000 := tp.1.1
    have t7 : ((suM s.2.2.2.2.1.1 : Nat) : Int) + ((suM ([] : List (List Int)) : Nat) : Int) + (([] : List Int).length : Int) + (tbP R.flatten + t0) ≤ s.1.1 + 100 := tp.2.2.2.2.2.2
    have eP : tbP R.flatten = ((suM R.flatten : Nat) : Int) + 15 * (R.flatten.length : Int) := rfl
    have z1 : suM ([] : List (List Int)) = 0 := rfl
    have z2 : ([] : List Int).length = 0 := rfl
    rw [z1, z2] at t7
    omega
  have eF : ∀ r, tbF o E H S M at9 nx b = r ↔ (if tbC R = 0 then (.inl (s, b.2) : BK9 ⊕ (Int × Int × Int)) else match gAll o true (tbO H (nwD9 (S.getD 0 0) (tbC R) (tbQ R)) A (tbC R) true R) ((s.1.1, s.1.2.1), b.2.1.1, flS b (S.getD 8 0)) with
    | .inr e => .inr e
    | .inl G1 => .inl (blG (s, b.2) G1)) = r := fun r => by
    unfold tbF
    rw [w1]
    exact Iff.rfl
  have hHy1 := hHy.tn f1
  have c8 := tbC_8 r8
  refine trr_281 (H := H) (wide := S.getD 0 0) tl1 okq hsu (show R.flatten.length ≤ 4100 by omega) l4 c8 hS.1 ((f1.v (by decide) _).trans (hSv 0 (by decide))) hb hHy1 (fun h0 σ2 f2 => ?_) (fun h1 σ2 f2 cp wd ce cb => ?_)
  · have := (hR.tn hfl f1 tl1.1 tk)
    refine hy (s, b.2) σ2 ((eF _).mpr (if_pos h0)) ?_ ((FrTq.n f1).tr (FrTq.z f2 (by decide) (by simp)))
    exact this.lt9 hE2 f2 (by decide) (by simp)
  · have h1 : 1 ≤ tbC R := h1
    have f12 : FrTq nw σ σ2 := (FrTq.n f1).tr (FrTq.z f2 (by decide) (by simp))
    have hR2 : BkR σ2 E nw (s, b.2) := (hR.tn hfl f1 tl1.1 tk).lt9 hE2 f2 (by decide) (by simp)
    have hR20 := hR2
    obtain ⟨r1, -, -, r4, ⟨r5, r6⟩, -, -⟩ := hR2
    obtain ⟨q1, q2, q3, q4, q5⟩ := hGB
    have q3' : b.2.1.1.length ≤ 1500 := q3
    have q4 : ((suM (b.2.1.1.map (·.1)) : Nat) : Int) + 20 * b.2.1.1.length ≤ b.1.1.1 := q4
    have q5 : 45 * (b.2.1.2.length : Int) ≤ 3 * b.1.1.1 + 75 * b.2.1.1.length + (-45) := q5
    have wge : b.1.1.1 ≤ s.1.1 := tk.1
    have w6 : 0 ≤ s.1.1 ∧ s.1.1 ≤ 60000 := tp.1.1
    have w4 : 0 ≤ s.1.2.1 ∧ s.1.2.1 ≤ 400000 := tp.1.2.1
    have eFl := flS_e (b := b) (S := S) (sp := S.getD 8 0) (cl := false) rfl s8.1
    have lf : 45 * ((flS b (S.getD 8 0)).length : Int) ≤ 3 * s.1.1 + 75 * b.2.1.1.length + 90 := by
      unfold flS
      rw [List.length_append]
      split
      · rw [List.length_replicate]
        omega
      · rw [List.length_nil]
        omega
    have gb9 : GB9 90 ((s.1.1, s.1.2.1), b.2.1.1, flS b (S.getD 8 0)) := ⟨w6, w4, q3, by show ((suM (b.2.1.1.map (·.1)) : Nat) : Int) + 20 * b.2.1.1.length ≤ s.1.1; omega, lf⟩
    have gb0 : GB9 0 ((s.1.1, s.1.2.1), b.2.1.1, []) := ⟨w6, w4, q3, by show ((suM (b.2.1.1.map (·.1)) : Nat) : Int) + 20 * b.2.1.1.length ≤ s.1.1; omega, by show 45 * ((0 : Nat) : Int) ≤ 3 * s.1.1 + 75 * b.2.1.1.length + 0; omega⟩
    have wqb : ∀ k, k < 8 → 1 ≤ (tbQ R).getD k 0 := fun k hk => by
      unfold tbQ
      rw [ofF_get hk]
      exact tbD_1
    have nb := nwD_b (wide := S.getD 0 0) (c := tbC R) (W := tbQ R) hS.1 c8 ofF_len wqb
    generalize hW : nwD9 (S.getD 0 0) (tbC R) (tbQ R) = W at wd nb
    have j11 : ∀ (m : List Int) (f : Nat → List Int), m.length = 3 → (∀ k, k < tbC R → ((f k).length : Int) ≤ W.getD k 0) → ∀ k, k ≤ tbC R → (tpJ m f k).length ≤ 110 := fun m f h3 hf => by
      rw [← hW] at hf
      exact tpJ_110 hS.1 ⟨h1, c8⟩ ofF_len wqb h3 hf
    have e99 : mV σ2 246 99 = (b.2.1.1.length : Int) := r1.2.2.2.1
    have hRne : R ≠ [] := fun e => by
      rw [e] at h1
      exact absurd h1 (by show ¬ 1 ≤ 0; decide)
    rw [e99]
    refine trr_351 (H := H) (W := W) (A := A) (c := tbC R) (o := o) (c9 := 0) ⟨h1, c8⟩ tbC_row l4 (by omega) hsu okq nb.2 (fun k hk => alA k (by omega)) (fun row i k hk => j11 _ _ rfl (fun k' hk' => tpF_w (nb.2 k' hk').1) k hk) (fun k hk => Nat.le_trans (j11 [45, 43, 45] (fun k => List.replicate (W.getD k 0).toNat 45) rfl (fun k' hk' => by rw [List.length_replicate]; have := (nb.2 k' hk').1; omega) k hk) (by decide)) (Int.le_refl _) R [] ((s.1.1, s.1.2.1), b.2.1.1, []) σ2 rfl cp (fun k hk => wd k (by rw [nb.1]; omega)) (fun k hk => (f2.z (by decide) (by decide)).trans (al1 k (by omega))) ce ((f2.f (by simp) (by decide)).trans ((f1.k6 (by decide)).trans ho)) r1 gb0 (fun G' σ3 y1 y2 y3 y4 => ?_) (fun e σ3 y1 y2 y3 => ?_)
    · have y1 : gAll o false (tbO H W A (tbC R) true R) ((s.1.1, s.1.2.1), b.2.1.1, []) = .inl G' := y1
      have gl := gAll_l y1
      have gg := (gAll_g (o := o) (fw := false)).1 G' y1
      have y3 : FrRw b.2.1.1.length σ2 σ3 := y3
      generalize hO : tbO H W A (tbC R) true R = X at y1 gl
      have hXn : X ≠ [] := by
        rw [← hO]
        exact tbO_ne hRne
      have xl : 1 ≤ X.length := by
        cases X with
        | nil => exact absurd rfl hXn
        | cons a t => show 1 ≤ t.length + 1; omega
      have g1 : gAll o true X ((s.1.1, s.1.2.1), b.2.1.1, flS b (S.getD 8 0)) = .inl (G'.1, G'.2.1, flS b (S.getD 8 0) ++ seqZ b.2.1.1.length X.length) := by
        rw [gAll_w]
        have := gl.2.2
        show gAw o true _ _ (gWk (X.map (·.1)) (s.1.1, s.1.2.1) b.2.1.1.length) = _
        rw [this, gl.1]
        rfl
      have lG : G'.2.1.length = b.2.1.1.length + X.length := by
        rw [gl.1, List.length_append, List.length_map]
      have gb1 := txG_b hXn gb9 g1
      have l15 : G'.2.1.length ≤ 1500 := gb1.2.2.1
      have lF1 : 45 * ((flS b (S.getD 8 0) ++ seqZ b.2.1.1.length X.length).length : Int) ≤ 3 * G'.1.1 + 75 * (G'.2.1.length : Int) + 0 := gb1.2.2.2.2
      have w60 : G'.1.1 ≤ 60000 := gb1.1.2
      rw [eFl, List.length_append, List.length_append, seqZ_l] at lF1
      refine R_table_397.i ⟨fun h => absurd y2.1 h, fun _ => ?_⟩
      refine R_lies.p (n0 := b.2.1.1.length) (k := X.length) (F := b.2.1.2) (bg := b.2.2.2) (cl := false) (g := S.getD 8 0) (least := 0) (by rw [y2.2.2.2.1, lG]) (by omega) (by omega) (by omega) ((y3.1.z (by decide) (by decide)).trans ((f2.z (by decide) (by decide)).trans ((f1.v (by decide) _).trans (hSv 8 (by decide))))) s8 (by decide) ((y3.1.f (by decide) (by decide)).trans r6) ⟨(y3.1.f (by decide) (by decide)).trans r5.1, fun i hi => ?_⟩ (fun σ4 f4 v4 el4 => ?_)
      · rw [y3.1.z (z := 320) (by decide) (by decide), y3.1.z (z := 321) (by decide) (by decide)]
        exact r5.2 i hi
      · have f24 : FrZ (347 :: BlS) (146 :: 147 :: 148 :: BlK) σ2 σ4 := (y3.1.mo (by decide) (by decide)).tr (f4.mo (by decide) (by decide))
        have rx4 : RxG σ4 (G'.1, G'.2.1, flS b (S.getD 8 0) ++ seqZ b.2.1.1.length X.length) := RxG.z (G := (G'.1, G'.2.1, flS b (S.getD 8 0) ++ seqZ b.2.1.1.length X.length)) ⟨y2.1, y2.2.1, y2.2.2.1, y2.2.2.2⟩ f4 (by decide) (by decide)
        refine hy (blG (s, b.2) (G'.1, G'.2.1, flS b (S.getD 8 0) ++ seqZ b.2.1.1.length X.length)) σ4 ((eF _).mpr ?_) (hR20.bl9 hfl hsl f24 rx4 ?_ el4 (by show flS b (S.getD 8 0) ++ _ = _; rw [eFl]) (fun x hx => by rw [(List.mem_replicate.mp hx).2]; decide) v4 (fun z j hz hj => ?_) (fun i hi => ?_)) (f12.tr (FrTq.z f24 (by decide) (by decide)))
        · rw [if_neg (by omega), hW, hO, g1]
        · rw [r1.2.2.1, rx4.2.2.1]
          exact gg.1
        · rw [f4.z (by simp only [List.mem_cons, List.not_mem_nil, or_false]; omega) (by omega)]
          exact y3.2 z j (by omega) hj
        · have := y4 (b.2.1.1.length + i) (by show b.2.1.1.length ≤ _; omega) (by omega)
          rw [f4.z (z := 317) (by decide) (by decide), f4.z (z := 318) (by decide) (by decide)]
          exact this
    · have y1 : gAll o false (tbO H W A (tbC R) true R) ((s.1.1, s.1.2.1), b.2.1.1, []) = .inr e := y1
      have gk := gAll_k y1
      have gg := (gAll_g (o := o) (fw := false)).2 e y1
      have y3 : FrRw b.2.1.1.length σ2 σ3 := y3
      generalize hO : tbO H W A (tbC R) true R = X at y1
      have g1 : gAll o true X ((s.1.1, s.1.2.1), b.2.1.1, flS b (S.getD 8 0)) = .inr e := by
        rw [gAll_w] at y1 ⊢
        have y1 : gAw o false _ _ (gWk (X.map (·.1)) (s.1.1, s.1.2.1) b.2.1.1.length) = _ := y1
        show gAw o true _ _ (gWk (X.map (·.1)) (s.1.1, s.1.2.1) b.2.1.1.length) = _
        cases hw : gWk (X.map (·.1)) (s.1.1, s.1.2.1) b.2.1.1.length with
        | inl w =>
          rw [hw] at y1
          cases y1
        | inr e2 =>
          rw [hw] at y1
          exact congrArg Sum.inr (Sum.inr.inj y1)
      refine R_table_397.i ⟨fun _ => hn e σ3 ((eF _).mpr ?_) y2 ?_ (f12.tr (FrTq.z y3.1 (by decide) (by decide))), fun h => absurd (y2.1.symm.trans h) (by omega)⟩
      · rw [if_neg (by omega), hW, hO, g1]
      · have gg : s.1.2.1 ≤ e.2.2 := gg
        have e33 : mV σ2 246 33 = s.1.2.1 := r1.2.2.1
        unfold UnB at r4 ⊢
        rw [y3.1.f (k := 85) (by decide) (by decide), y2.2.2]
        omega
end
