/-! HEADINGS: the class sets them; the lines -/
def HcX (z : Nat) : List Nat := [112, 114, 116, 118, 130, 132, 134, 136, 138, z + 11, z + 20, z + 22, z + 29]
def FrHcc (z : Nat) (σ σ' : MS) : Prop := (∀ q, q ∉ HcX z → mX σ' q = mX σ q) ∧ σ'.2.2 = σ.2.2 ∧ ∀ y k, y ≠ 22 → y ≠ 126 → ¬ (y = 111 ∧ (k = 9 ∨ k = 10 ∨ k = 11 ∨ k = 12)) → ¬ (y = 128 ∧ k = 10) → mV σ' y k = mV σ y k
section
variable {σ σ0 : MS} {Q : MQ9} {z z' : Nat} {E : TE} {H : HY9} {U S : List Int}
theorem FrHcc.tr {σ1 σ2 : MS} (h : FrHcc z σ σ1) (h' : FrHcc z σ1 σ2) : FrHcc z σ σ2 := ⟨fun q a => (h'.1 q a).trans (h.1 q a), h'.2.1.trans h.2.1, fun y k a b c d => (h'.2.2 y k a b c d).trans (h.2.2 y k a b c d)⟩
theorem FrHcc.x {q : Nat} {L : List Int} (h : q ∈ HcX z) : FrHcc z σ (wX σ q L) := ⟨fun q' a => wX_ne (fun e => a (by rw [e]; exact h)), rfl, fun _ _ _ _ _ _ => rfl⟩
theorem FrHcc.q {σ1 : MS} (h : FrHcc z σ σ1) {q : Nat} (h1 : q < 112 ∨ 139 ≤ q) (h2 : q ≠ z + 11) (h3 : q ≠ z + 20) (h4 : q ≠ z + 22) (h5 : q ≠ z + 29) : mX σ1 q = mX σ q := h.1 q (by
  unfold HcX
  simp only [List.mem_cons, List.not_mem_nil, or_false]
  omega)
theorem hea_C2 {l0 k0 : Nat} {o : Int} {Lt V K A : List Int} {G : GS9} {bg : Bool} (hS : StB S) (hz : z = 49 ∨ z = 163) (hB0 : mB σ 0 = z) (h87 : mX σ 87 = U) (hU6 : U.length ≤ 65000) (hok : okK U) (hbk : bkE U) (ho : Rg o) (h16 : mV σ 127 16 = o) (hSv : ∀ k, k < 13 → mV σ 24 k = S.getD k 0) (hC : HyC σ H.2.1 H.2.2.1 H.2.2.2.1 H.2.2.2.2) (hb : HyB H.2.1 H.2.2.1 H.2.2.2.1 H.2.2.2.2) (h35 : mX σ (z + 35) = Lt) (hLt : Lt.length ≤ 32) (h20 : mX σ (z + 20) = A) (h22 : mX σ (z + 22) = A) (hA : A.length < 60) (hG : GaC σ G []) (hGB : GB9 (-45) G) (hbg : mV σ 128 10 = bZ bg) (hv : mX σ (z + 11) = V) (hk : mX σ (z + 29) = K) (hV : V.length ≤ 60 ∧ l0 ≤ V.length) (hVr : ∀ v ∈ V, Rg v) (hK : K.length ≤ 100 ∧ k0 ≤ K.length) (hKr : ∀ v ∈ K, Rg v) {F : List Int} (hF : F = G.2.2 ++ (if bg = true then List.replicate (max 1 (S.getD 8 0)).toNat (-2) else [])) {X : List (Nat × Nat × Bool)} (hX : X = hgX H (S.getD 0 0) ((Lt.length : Int) + 1) U) (hy : ∀ G1 σ', gAll o true (prN [] ((Lt.length : Int) + 1) 0 (S.getD 0 0) U 9999 X) (G.1, G.2.1, F) = .inl G1 → GaC σ' G1 [] → FrHcc z σ σ' → mV σ' 128 10 = 1 → mX σ' (z + 11) = crL l0 (crF (foP U) F.length X) V → mX σ' (z + 29) = crL k0 (crF (foP U) F.length X) K → mX σ' (z + 20) = A ++ [(F.length : Int)] → mX σ' (z + 22) = A ++ [(F.length : Int)] → Q (.inl none) σ') (hn : ∀ e σ', gAll o true (prN [] ((Lt.length : Int) + 1) 0 (S.getD 0 0) U 9999 X) (G.1, G.2.1, F) = .inr e → TxF σ' e → FrHcc z σ σ' → Q (.inr (exN 0)) σ') : Filler_openPlain σ (kV (thQ Q) fun σ1 => Setter_heading_337 (l0 : Int) (k0 : Int) σ1 Q) := by
  have mk : isMarks z = true ∧ isRow (z + 35) = true ∧ isRow (z + 20) = true ∧ isRow (z + 22) = true := by
    rcases hz with rfl | rfl <;> decide +kernel
  have cp : 60 ≤ capOf (z + 20) ∧ 60 ≤ capOf (z + 22) := by
    rcases hz with rfl | rfl <;> decide +kernel
  have s0 := hS.1
  have s8 := hS.2.2.2.2.2.2
  refine Filler_openPlain.c (fun σ1 f1 k1 w1 e1 v1 => ?_)
  have x1 : ∀ q, q ≠ 112 → q ≠ 114 → q ≠ 116 → q ≠ 118 → mX σ1 q = mX σ q := fun q a b c d => by
    by_cases h9 : q ∈ [130, 132, 134, 136, 138, 142, 144]
    · exact k1 q h9
    · simp only [List.mem_cons, List.not_mem_nil, or_false, not_or] at h9
      exact f1.1 q (by
        simp only [List.mem_cons, List.not_mem_nil, or_false]
        omega)
  have fc1 : FrHcc z σ σ1 := ⟨fun q a => by
    unfold HcX at a
    simp only [List.mem_cons, List.not_mem_nil, or_false, not_or] at a
    exact x1 q (by omega) (by omega) (by omega) (by omega), f1.2.1, fun y k a b c d => f1.2.2 y k a b c⟩
  have b1 : mB σ1 0 = z := by rw [show mB σ1 = mB σ from congrArg Prod.fst f1.2.1]; exact hB0
  show Setter_heading_337 (l0 : Int) (k0 : Int) σ1 Q
  refine Setter_heading_337.i ?_
  rw [b1, (x1 (z + 35) (by omega) (by omega) (by omega) (by omega)).trans h35]
  refine tB.i mk.1 (tB.i mk.2.1 ⟨by unfold Rg; omega, ?_⟩)
  have fc2 : FrHcc z σ (wV σ1 111 9 ((Lt.length : Int) + 1)) := fc1.tr ⟨fun _ _ => rfl, rfl, fun y k _ _ c _ => wV_ne (by omega)⟩
  have v2 : ∀ y k, ¬ (y = 111 ∧ k = 9) → mV (wV σ1 111 9 ((Lt.length : Int) + 1)) y k = mV σ1 y k := fun y k h => wV_ne (by omega)
  have h29 : mV (wV σ1 111 9 ((Lt.length : Int) + 1)) 111 9 = (Lt.length : Int) + 1 := wV_self
  have x2 : mX (wV σ1 111 9 ((Lt.length : Int) + 1)) = mX σ1 := rfl
  generalize wV σ1 111 9 ((Lt.length : Int) + 1) = σ2 at fc2 v2 h29 x2
  have w0 : mV σ2 24 0 = S.getD 0 0 := (v2 _ _ (by decide)).trans ((f1.2.2 _ _ (by decide) (by decide) (by decide)).trans (hSv 0 (by decide)))
  have p0 : mX σ2 118 = [] := by rw [x2]; exact e1.2.2.2
  refine Filler_roomOf.c (P := []) (by decide) w0 s0 p0 (by decide) h29 (by omega) ?_
  refine Filler_roomOf.c (P := []) (by decide) w0 s0 p0 (by decide) h29 (by omega) ?_
  rw [if_pos rfl, if_neg (by decide)]
  have m87 : mX σ2 87 = U := by rw [x2]; exact (x1 87 (by decide) (by decide) (by decide) (by decide)).trans h87
  have m871 : mX σ1 87 = U := (x1 87 (by decide) (by decide) (by decide) (by decide)).trans h87
  show Filler_fill 87 0 (((mX σ1 87).length : Nat) : Int) (rmO (S.getD 0 0) 0) (rmO (S.getD 0 0) ((Lt.length : Int) + 1)) σ2 _
  have r1 : rmO (S.getD 0 0) 0 = max 4 (S.getD 0 0 - 0) := rfl
  have r2 : rmO (S.getD 0 0) ((Lt.length : Int) + 1) = max 4 (S.getD 0 0 - ((Lt.length : Int) + 1)) := rfl
  have hXm : X.length ≤ U.length ∧ ∀ x ∈ X, x.1 < x.2.1 ∧ x.2.1 ≤ U.length ∧ x.2.1 - x.1 ≤ 80 := by
    have := liX_m (H := (false, H.2)) (U := U) (R1 := (rmO (S.getD 0 0) 0).toNat) (R2 := (rmO (S.getD 0 0) ((Lt.length : Int) + 1)).toNat) (best := false) (by omega) (by omega)
    unfold liX at this
    rw [if_neg (fun h => absurd h.1 (by decide))] at this
    rw [hX]
    exact this
  rw [m871]
  have fl := Filler_fill.c (σ := σ2) (H := (false, H.2)) (U := U) (q := 87) (x0 := 0) (R1 := (rmO (S.getD 0 0) 0).toNat) (R2 := (rmO (S.getD 0 0) ((Lt.length : Int) + 1)).toNat) (Q := kV (thQ Q) fun σ3 => Setter_heading_387 (l0 : Int) (k0 : Int) σ3 Q) hok hbk hb (by decide) (by omega) (by omega) (by rw [x2, e1.1]; show 0 + _ ≤ _; omega) (by rw [x2, e1.2.1]; show 0 + _ ≤ _; omega) (by rw [x2, e1.2.2.1]; show 0 + _ ≤ _; omega) (LnC.w (by decide) m87 (by omega)) ⟨hC.1.cg (by rw [x2]; exact x1 _ (by decide) (by decide) (by decide) (by decide)) (by rw [x2]; exact x1 _ (by decide) (by decide) (by decide) (by decide)), hC.2.1.cg (by rw [x2]; exact x1 _ (by decide) (by decide) (by decide) (by decide)) (by rw [x2]; exact x1 _ (by decide) (by decide) (by decide) (by decide)), (v2 _ _ (by decide)).trans ((f1.2.2 _ _ (by decide) (by decide) (by decide)).trans hC.2.2.1), (v2 _ _ (by decide)).trans ((f1.2.2 _ _ (by decide) (by decide) (by decide)).trans hC.2.2.2)⟩ ((v2 _ _ (by decide)).trans v1.2.2) (fun σ3 f3 y1 y2 y3 => ?_)
  · rw [Nat.zero_add, show (((rmO (S.getD 0 0) 0).toNat : Nat) : Int) = rmO (S.getD 0 0) 0 by omega, show (((rmO (S.getD 0 0) ((Lt.length : Int) + 1)).toNat : Nat) : Int) = rmO (S.getD 0 0) ((Lt.length : Int) + 1) by omega] at fl
    exact fl
  have eX : fiL (false, H.2) U (rmO (S.getD 0 0) 0).toNat (rmO (S.getD 0 0) ((Lt.length : Int) + 1)).toNat U.length 0 = X := hX.symm
  rw [x2, e1.1, List.nil_append, eX] at y1
  rw [x2, e1.2.1, List.nil_append, eX] at y2
  rw [x2, e1.2.2.1, List.nil_append, eX] at y3
  have fc3 : FrHcc z σ σ3 := fc2.tr ⟨fun q a => by
    unfold HcX at a
    simp only [List.mem_cons, List.not_mem_nil, or_false, not_or] at a
    exact f3.1 q (by omega) (by omega) (by omega), f3.2.1, fun y k _ b c _ => f3.2.2 y k b (by omega)⟩
  have x3 : ∀ q, q ≠ 112 → q ≠ 114 → q ≠ 116 → q ≠ 118 → mX σ3 q = mX σ q := fun q a b c d => (f3.1 q a b c).trans (by rw [x2]; exact x1 q a b c d)
  have v3 : ∀ y k, y ≠ 126 → ¬ (y = 111 ∧ (k = 9 ∨ k = 10 ∨ k = 11 ∨ k = 12)) → mV σ3 y k = mV σ y k := fun y k a b => (f3.2.2 y k a (by omega)).trans ((v2 y k (by omega)).trans (by
    by_cases h9 : y = 22
    · rw [h9]
      exact w1 k
    · exact f1.2.2 y k h9 a b))
  have hG3 : GaC σ3 G [] := hG.fr (fun q hq => x3 q (by omega) (by omega) (by omega) (by omega)) (fun k _ => v3 22 k (by decide) (by omega))
  have b5 := hGB.2.2.2.2
  have b4 := hGB.2.2.1
  have b1' := hGB.1
  have spl : (if bg = true then List.replicate (max 1 (S.getD 8 0)).toNat (-2 : Int) else []).length ≤ 3 := by
    split
    · rw [List.length_replicate]
      omega
    · exact Nat.zero_le _
  have lF : F.length ≤ G.2.2.length + 3 := by
    rw [hF, List.length_append]
    omega
  refine Setter_heading_387.i (told_c (k := 8) (by decide) ((v3 24 8 (by decide) (by decide)).trans (hSv 8 (by decide))) ?_)
  show Galley_beginBlock (max 1 (S.getD 8 0)) σ3 _
  refine Galley_beginBlock.c hG3 ((v3 128 10 (by decide) (by decide)).trans hbg) (by omega) (by omega) (fun σ4 g4 d4 x4 c4 v4 => ?_)
  rw [← hF] at g4
  have b04 : mB σ4 0 = z := by
    rw [show mB σ4 = mB σ from congrArg Prod.fst (c4.trans fc3.2.1)]
    exact hB0
  have l138 : mX σ4 138 = F := g4.2.2.2.2.1
  have y20 : mX σ4 (z + 20) = A := (x4 _ (by omega)).trans ((x3 _ (by omega) (by omega) (by omega) (by omega)).trans h20)
  have y22 : mX σ4 (z + 22) = A := (x4 _ (by omega)).trans ((x3 _ (by omega) (by omega) (by omega) (by omega)).trans h22)
  have fc4 : FrHcc z σ σ4 := fc3.tr ⟨fun q a => x4 q (fun e => a (by rw [e]; unfold HcX; simp)), c4, fun y k _ _ _ d => v4 y k d⟩
  show Setter_heading_407 (l0 : Int) (k0 : Int) σ4 Q
  refine Setter_heading_407.i ?_
  rw [b04, l138, y20]
  refine tB.i mk.1 (tB.i mk.2.2.1 (tB.i mk.2.2.1 ⟨by have := cp.1; omega, Setter_heading_431.i ?_⟩))
  have b04x : mB (wX σ4 (z + 20) (A ++ [(F.length : Int)])) 0 = z := b04
  rw [b04x, wX_ne (by omega), y22]
  refine tB.i mk.1 (tB.i mk.2.2.2 (tB.i mk.2.2.2 ⟨by have := cp.2; omega, Setter_heading_443.i ?_⟩))
  have fc5 : FrHcc z σ (wX (wX σ4 (z + 20) (A ++ [(F.length : Int)])) (z + 22) (A ++ [(F.length : Int)])) := fc4.tr ((FrHcc.x (by unfold HcX; simp)).tr (FrHcc.x (by unfold HcX; simp)))
  have x5 : ∀ q, q ≠ z + 20 → q ≠ z + 22 → mX (wX (wX σ4 (z + 20) (A ++ [(F.length : Int)])) (z + 22) (A ++ [(F.length : Int)])) q = mX σ4 q := fun q a b => by rw [wX_ne b, wX_ne a]
  have z20 : mX (wX (wX σ4 (z + 20) (A ++ [(F.length : Int)])) (z + 22) (A ++ [(F.length : Int)])) (z + 20) = A ++ [(F.length : Int)] := by rw [wX_ne (by omega), wX_self]
  have z22 : mX (wX (wX σ4 (z + 20) (A ++ [(F.length : Int)])) (z + 22) (A ++ [(F.length : Int)])) (z + 22) = A ++ [(F.length : Int)] := wX_self
  have v5 : mV (wX (wX σ4 (z + 20) (A ++ [(F.length : Int)])) (z + 22) (A ++ [(F.length : Int)])) = mV σ4 := rfl
  have bb5 : mB (wX (wX σ4 (z + 20) (A ++ [(F.length : Int)])) (z + 22) (A ++ [(F.length : Int)])) 0 = z := b04
  generalize wX (wX σ4 (z + 20) (A ++ [(F.length : Int)])) (z + 22) (A ++ [(F.length : Int)]) = σ5 at fc5 x5 z20 z22 v5 bb5
  have x35 : ∀ q, q ≠ z + 20 → q ≠ z + 22 → q ≠ 138 → mX σ5 q = mX σ3 q := fun q a b c => (x5 q a b).trans (x4 q c)
  have v35 : ∀ y k, ¬ (y = 128 ∧ k = 10) → mV σ5 y k = mV σ3 y k := fun y k a => by
    rw [v5]
    exact v4 y k a
  have U5 : mX σ5 87 = U := (x35 87 (by omega) (by omega) (by decide)).trans ((x3 87 (by decide) (by decide) (by decide) (by decide)).trans h87)
  have pr5 : PrC σ5 87 0 U [] ((Lt.length : Int) + 1) 0 (S.getD 0 0) o X := ⟨LnC.w (by decide) U5 (by omega), (x35 _ (by omega) (by omega) (by decide)).trans y1, (x35 _ (by omega) (by omega) (by decide)).trans y2, (x35 _ (by omega) (by omega) (by decide)).trans y3, (x35 _ (by omega) (by omega) (by decide)).trans ((f3.1 _ (by decide) (by decide) (by decide)).trans p0), (v35 _ _ (by decide)).trans ((v3 _ _ (by decide) (by decide)).trans (hSv 0 (by decide))), (v35 _ _ (by decide)).trans ((f3.2.2 _ _ (by decide) (by decide)).trans h29), (v35 _ _ (by decide)).trans ((f3.2.2 _ _ (by decide) (by decide)).trans ((v2 _ _ (by decide)).trans v1.2.1)), (v35 _ _ (by decide)).trans ((v3 _ _ (by decide) (by decide)).trans h16)⟩
  have g5 : GaC σ5 (G.1, G.2.1, F) [] := g4.fr (fun q hq => x5 q (by omega) (by omega)) (fun k _ => by rw [v5])
  have gb5 : GB9 90 (G.1, G.2.1, F) := ⟨hGB.1, hGB.2.1, hGB.2.2.1, hGB.2.2.2.1, by
    show 45 * (F.length : Int) ≤ 3 * G.1.1 + 75 * (G.2.1.length : Int) + 90
    omega⟩
  refine Setter_printLines.c (fw := true) (d9 := 90) (by decide) (by omega) hXm.2 (by decide) (by omega) hS.1 ho (by decide) (by decide) pr5 g5 gb5 (fun G1 σ6 q1 q2 q3 => ?_) (fun e σ6 q1 q2 q3 => hn e σ6 q1 q2 (fc5.tr ⟨fun q a => ?_, q3.2.1, fun y k a _ _ _ => q3.2.2 y k a⟩))
  · have fc6 : FrHcc z σ σ6 := fc5.tr ⟨fun q a => by
      unfold HcX at a
      simp only [List.mem_cons, List.not_mem_nil, or_false, not_or] at a
      exact q3.1 q (by omega) (by omega) (by omega) (by omega) (by omega), q3.2.1, fun y k a _ _ _ => q3.2.2 y k a⟩
    have x6 : ∀ q, q < 130 ∨ 139 ≤ q → mX σ6 q = mX σ5 q := fun q a => q3.1 q (by omega) (by omega) (by omega) (by omega) (by omega)
    have b6 : mB σ6 0 = z := by
      rw [show mB σ6 = mB σ from congrArg Prod.fst fc6.2.1]
      exact hB0
    have y11 : mX σ6 (z + 11) = V := (x6 _ (by omega)).trans ((x35 _ (by omega) (by omega) (by omega)).trans ((x3 _ (by omega) (by omega) (by omega) (by omega)).trans hv))
    have y29 : mX σ6 (z + 29) = K := (x6 _ (by omega)).trans ((x35 _ (by omega) (by omega) (by omega)).trans ((x3 _ (by omega) (by omega) (by omega) (by omega)).trans hk))
    show Setter_heading_453 (l0 : Int) (k0 : Int) (F.length : Int) σ6 Q
    refine Setter_heading_453.i (Setter_carry.c hz b6 ((x6 87 (by omega)).trans U5) (by omega) (by omega) (by omega) (fun x hx => by have := hXm.2 x hx; omega) ((x6 114 (by omega)).trans pr5.2.2.1) y11 y29 (by omega) hVr hV.2 (by omega) hKr hK.2 (Setter_heading_462.i ?_))
    refine hy G1 _ q1 (q2.fr (fun q hq => by rw [wX_ne (by omega), wX_ne (by omega)]) (fun k _ => rfl)) (fc6.tr ((FrHcc.x (by unfold HcX; simp)).tr (FrHcc.x (by unfold HcX; simp)))) ((q3.2.2 _ _ (by decide)).trans (by rw [v5]; exact d4)) ?_ wX_self ?_ ?_
    · rw [wX_ne (by omega), wX_self]
    · rw [wX_ne (by omega), wX_ne (by omega)]
      exact (x6 _ (by omega)).trans z20
    · rw [wX_ne (by omega), wX_ne (by omega)]
      exact (x6 _ (by omega)).trans z22
  · unfold HcX at a
    simp only [List.mem_cons, List.not_mem_nil, or_false, not_or] at a
    exact q3.1 q (by omega) (by omega) (by omega) (by omega) (by omega)
end
