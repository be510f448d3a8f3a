/-! RAW LINES: the reference, the whole -/
section
variable {σ σ0 : MS} {Q : MQ9} {T S : List Int} {o : Int} {E : TE} {nw : Nat} {b : BK9}
theorem rwL_l {W : Int} : ∀ (n i : Nat), (rwL T W n i).length = n
  | 0, _ => rfl
  | n + 1, i => by
    show (rwL T W n (i + 1)).length + 1 = n + 1
    rw [rwL_l n (i + 1)]
def BlS : List Nat := 320 :: 321 :: 338 :: 339 :: MkS
def BlK : List Nat := [28, 32, 33, 98, 99, 160, 112, 113]
/-- lines of a block without a text have come into the flow -/
theorem BkR.bl {σ1 : MS} {G1 : GS9} {Z : List Int} {k : Nat} (h : BkR σ E nw b) (hfl : FlB b) (hsl : b.2.2.1.2.length = b.2.2.1.1.length) (f : FrZ BlS BlK σ σ1) (hG : RxG σ1 G1) (hev : mV σ 246 33 ≤ mV σ1 246 33) (hE : ElR σ1 (b.2.1.2 ++ Z ++ seqZ b.2.1.1.length k)) (hF : G1.2.2 = b.2.1.2 ++ Z ++ seqZ b.2.1.1.length k) (hZ : ∀ x ∈ Z, x < 0) (hb : mV σ1 246 113 = 1) (h7 : ∀ z j, z = 317 ∨ z = 318 → j < b.2.1.1.length → mV σ1 z j = mV σ z j) (hnew : ∀ i, i < k → mV σ1 317 (b.2.1.1.length + i) = 0 ∧ mV σ1 318 (b.2.1.1.length + i) = 0) : BkR σ1 E nw (blG b G1) := by
  obtain ⟨r1, r2, ⟨m1, m2, m3, m4, m5⟩, r4, ⟨r5, r6⟩, ⟨r7, r8⟩, r9⟩ := h
  have z : ∀ y j, y = 284 ∨ y = 297 ∨ y = 303 ∨ y = 304 → mV σ1 y j = mV σ y j := fun y j a => f.z (by
    unfold BlS MkS
    simp only [List.mem_cons, List.not_mem_nil, or_false]
    omega) (by omega)
  refine ⟨hG, r2.k f (by decide) (by decide), ⟨m1.z f (by decide) (by decide), m2.z f (by decide), m3.z f (by decide) (by decide), (f.f (by decide) (by decide)).trans m4, (f.f (by decide) (by decide)).trans m5⟩, ?_, ⟨by show ElR σ1 G1.2.2; rw [hF]; exact hE, hb⟩, ⟨?_, ?_⟩, ?_⟩
  · unfold UnB at r4 ⊢
    rw [f.f (k := 85) (by decide) (by decide)]
    omega
  · show MkL σ1 284 G1.2.2 b.1.2.2.2.1.2.2
    rw [hF]
    intro j hj
    rw [z 284 j (by omega)]
    exact ((r7 j hj).app (Z := Z)).app
  · show MkL σ1 297 G1.2.2 b.1.2.2.2.2.1.2
    rw [hF]
    intro j hj
    rw [z 297 j (by omega)]
    exact ((r8 j hj).app (Z := Z)).app
  · show NnR σ1 G1.2.2 b.2.2.1.1 b.2.2.1.2
    rw [hF]
    have := r9.new (σ1 := σ1) (Z := Z) (n0 := b.2.1.1.length) (k := k) (m0 := b.2.2.1.1.length) (qs := []) (sps := []) hfl hZ rfl hsl rfl (fun x hx => absurd hx List.not_mem_nil) (fun y j a _ => z y j (by omega)) h7 (fun i hi => absurd hi (Nat.not_lt_zero _)) (fun i hi => ⟨fun _ => hnew i hi, fun h => absurd rfl h⟩)
    rw [List.map_nil, List.append_nil, List.append_nil] at this
    exact this
theorem R_raws.p {at9 nx : Nat} (hS : StB S) (hTb : smB T) (hSc : ScR σ T) (h1 : at9 < nx) (hnx : nx ≤ (mlL T).length) (hk : ∀ j, at9 ≤ j → j < nx → kdL T j = 4) (hne : ∀ i, i < nx → kdL T i = 4 → ((mlL T).getD i (0, 0)).1 + 1 ≤ ((mlL T).getD i (0, 0)).2) (hSv : ∀ k, k < 13 → mV σ 275 k = S.getD k 0) (ho : mV σ 246 29 = o) (hR : BkR σ E nw b) (hfl : FlB b) (hsl : b.2.2.1.2.length = b.2.2.1.1.length) (hGB : GB9 (-45) (bkG b)) (hy : ∀ b' σ', rwD o S T at9 nx b = .inl b' → BkR σ' E nw b' → FrZ BlS BlK σ σ' → Q (.inl none) σ') (hn : ∀ e σ', rwD o S T at9 nx b = .inr e → TxR σ' e → mV σ 246 33 ≤ mV σ' 246 33 → FrZ BlS BlK σ σ' → Q (.inl none) σ') : R_raws (at9 : Int) ((nx : Int) - (at9 : Int)) σ Q := by
  have s8 := hS.2.2.2.2.2.2
  have hR0 := hR
  obtain ⟨r1, r2, r3, r4, ⟨r5, r6⟩, r7, r9⟩ := hR
  obtain ⟨q1, q2, q3, q4, q5⟩ := hGB
  have q1 : 0 ≤ b.1.1.1 ∧ b.1.1.1 ≤ 60000 := q1
  have q3' : b.2.1.1.length ≤ 1500 := q3
  have q5 : 45 * (b.2.1.2.length : Int) ≤ 3 * b.1.1.1 + 75 * b.2.1.1.length + (-45) := q5
  have eFl := flS_e (b := b) (S := S) (sp := S.getD 8 0) (cl := false) rfl s8.1
  have lf : 45 * ((flS b (S.getD 8 0)).length : Int) ≤ 3 * b.1.1.1 + 75 * b.2.1.1.length + 90 := by
    unfold flS
    rw [List.length_append]
    split
    · rw [List.length_replicate]
      omega
    · rw [List.length_nil]
      omega
  have gb9 : GB9 90 ((b.1.1.1, b.1.1.2.1), b.2.1.1, flS b (S.getD 8 0)) := ⟨q1, q2, q3, q4, lf⟩
  have eR : ∀ r, rwD o S T at9 nx b = r ↔ (match gAll o true (rwL T (S.getD 0 0) (nx - at9) at9) ((b.1.1.1, b.1.1.2.1), b.2.1.1, flS b (S.getD 8 0)) with
    | .inr e => (Sum.inr e : BK9 ⊕ (Int × Int × Int))
    | .inl G1 => .inl (blG b G1)) = r := fun r => Iff.rfl
  have e99 : mV σ 246 99 = (b.2.1.1.length : Int) := r1.2.2.2.1
  refine R_raws.i ?_
  rw [e99]
  refine rraw_8 (c9 := 0) (o := o) (W := S.getD 0 0) hTb hnx hS.1 hne (by decide) (nx - at9) at9 σ ((b.1.1.1, b.1.1.2.1), b.2.1.1, []) (by omega) hk (Nat.le_refl _) hSc (hSv 0 (by decide)) ho r1 ⟨q1, q2, q3, q4, by show 45 * ((0 : Nat) : Int) ≤ 3 * b.1.1.1 + 75 * b.2.1.1.length + 0; omega⟩ (fun G' σ1 w1 w2 w3 w4 => ?_) (fun e σ1 w1 w2 w3 => ?_)
  · have gl := gAll_l w1
    have gg := (gAll_g (o := o) (fw := false)).1 G' w1
    have w3 : FrLa b.2.1.1.length σ σ1 := w3
    have g1 : gAll o true (rwL T (S.getD 0 0) (nx - at9) at9) ((b.1.1.1, b.1.1.2.1), b.2.1.1, flS b (S.getD 8 0)) = .inl (G'.1, G'.2.1, flS b (S.getD 8 0) ++ seqZ b.2.1.1.length (nx - at9)) := by
      rw [gAll_w]
      have := gl.2.2
      show gAw o true _ _ (gWk ((rwL T (S.getD 0 0) (nx - at9) at9).map (·.1)) (b.1.1.1, b.1.1.2.1) b.2.1.1.length) = _
      rw [this, gl.1]
      show Sum.inl (G'.1, _, flS b (S.getD 8 0) ++ seqZ b.2.1.1.length (rwL T (S.getD 0 0) (nx - at9) at9).length) = _
      rw [rwL_l]
    have lG : G'.2.1.length = b.2.1.1.length + (nx - at9) := by
      rw [gl.1, List.length_append, List.length_map, rwL_l]
    have hZn : rwL T (S.getD 0 0) (nx - at9) at9 ≠ [] := fun h => by
      have := congrArg List.length h
      rw [rwL_l] at this
      have : nx - at9 = 0 := this
      omega
    have gb1 := txG_b hZn gb9 g1
    have l15 : G'.2.1.length ≤ 1500 := gb1.2.2.1
    have lF1 : 45 * ((flS b (S.getD 8 0) ++ seqZ b.2.1.1.length (nx - at9)).length : Int) ≤ 3 * G'.1.1 + 75 * (G'.2.1.length : Int) + 0 := gb1.2.2.2.2
    have w60 : G'.1.1 ≤ 60000 := gb1.1.2
    rw [eFl, List.length_append, List.length_append, seqZ_l] at lF1
    refine R_raws_105.i ⟨fun h => absurd w2.1 h, fun _ => ?_⟩
    refine R_lies.p (n0 := b.2.1.1.length) (k := nx - at9) (F := b.2.1.2) (bg := b.2.2.2) (cl := false) (g := S.getD 8 0) (least := 0) (by rw [w2.2.2.2.1, lG]) (by omega) (by omega) (by omega) ((w3.1.z (by decide) (by decide)).trans (hSv 8 (by decide))) s8 (by decide) ((w3.1.f (by decide) (by decide)).trans r6) ⟨(w3.1.f (by decide) (by decide)).trans r5.1, fun i hi => ?_⟩ (fun σ2 f2 v2 el2 => ?_)
    · rw [w3.1.z (z := 320) (by decide) (by decide), w3.1.z (z := 321) (by decide) (by decide)]
      exact r5.2 i hi
    · have f02 : FrZ BlS BlK σ σ2 := (w3.1.mo (by decide) (by decide)).tr (f2.mo (by decide) (by decide))
      have rx2 : RxG σ2 (G'.1, G'.2.1, flS b (S.getD 8 0) ++ seqZ b.2.1.1.length (nx - at9)) := RxG.z (G := (G'.1, G'.2.1, flS b (S.getD 8 0) ++ seqZ b.2.1.1.length (nx - at9))) ⟨w2.1, w2.2.1, w2.2.2.1, w2.2.2.2⟩ f2 (by decide) (by decide)
      refine hy _ σ2 ((eR _).mpr (by rw [g1])) (hR0.bl hfl hsl f02 rx2 ?_ el2 (by show flS b (S.getD 8 0) ++ _ = _; rw [eFl]) (fun x hx => by rw [(List.mem_replicate.mp hx).2]; decide) v2 (fun z j hz hj => ?_) (fun i hi => ?_)) f02
      · rw [r1.2.2.1, rx2.2.2.1]
        exact gg.1
      · rw [f2.z (by simp only [List.mem_cons, List.not_mem_nil, or_false]; omega) (by omega)]
        exact w3.2 z j (by omega) hj
      · have := w4 (b.2.1.1.length + i) (by show b.2.1.1.length ≤ _; omega) (by omega)
        rw [f2.z (z := 317) (by decide) (by decide), f2.z (z := 318) (by decide) (by decide)]
        exact this
  · have gk := gAll_k w1
    have gg := (gAll_g (o := o) (fw := false)).2 e w1
    have w3 : FrLa b.2.1.1.length σ σ1 := w3
    have g1 : gAll o true (rwL T (S.getD 0 0) (nx - at9) at9) ((b.1.1.1, b.1.1.2.1), b.2.1.1, flS b (S.getD 8 0)) = .inr e := by
      rw [gAll_w] at w1 ⊢
      have w1 : gAw o false _ _ (gWk ((rwL T (S.getD 0 0) (nx - at9) at9).map (·.1)) (b.1.1.1, b.1.1.2.1) b.2.1.1.length) = _ := w1
      show gAw o true _ _ (gWk ((rwL T (S.getD 0 0) (nx - at9) at9).map (·.1)) (b.1.1.1, b.1.1.2.1) b.2.1.1.length) = _
      cases hw : gWk ((rwL T (S.getD 0 0) (nx - at9) at9).map (·.1)) (b.1.1.1, b.1.1.2.1) b.2.1.1.length with
      | inl w =>
        rw [hw] at w1
        cases w1
      | inr e2 =>
        rw [hw] at w1
        exact congrArg Sum.inr (Sum.inr.inj w1)
    refine R_raws_105.i ⟨fun _ => hn e σ1 ((eR _).mpr (by rw [g1])) w2 ?_ (w3.1.mo (by decide) (by decide)), fun h => absurd (w2.1.symm.trans h) (by omega)⟩
    rw [r1.2.2.1, w2.2.2]
    exact gg
end
