/-! THE TEXT OF A PARAGRAPH OR AN ITEM: the class -/
def F7X (z : Nat) : List Nat := [130, 132, 134, 136, 138, 140, z + 11, z + 29]
def FrF7 (z : Nat) (σ σ' : MS) : Prop := (∀ q, q ∉ F7X z → mX σ' q = mX σ q) ∧ σ'.2.2 = σ.2.2 ∧ ∀ y k, y ≠ 22 → ¬ (y = 128 ∧ k = 10) → mV σ' y k = mV σ y k
section
variable {σ σ0 : MS} {Q : MQ9} {H : HY9} {U P S : List Int} {hg J o : Int} {X : List (Nat × Nat × Bool)} {z z' : Nat} {E : TE}
theorem FrF7.tr {σ1 σ2 : MS} (h : FrF7 z σ σ1) (h' : FrF7 z σ1 σ2) : FrF7 z σ σ2 := ⟨fun q a => (h'.1 q a).trans (h.1 q a), h'.2.1.trans h.2.1, fun y k a b => (h'.2.2 y k a b).trans (h.2.2 y k a b)⟩
theorem FrF7.ga {σ1 : MS} (h : FrGa σ σ1) : FrF7 z σ σ1 := ⟨fun q a => by
  unfold F7X at a
  simp only [List.mem_cons, List.not_mem_nil, or_false, not_or] at a
  exact h.1 q (by omega) (by omega) (by omega) (by omega) (by omega), h.2.1, fun y k a _ => h.2.2 y k a⟩
theorem FrF7.x {q : Nat} {L : List Int} (h : q ∈ F7X z) : FrF7 z σ (wX σ q L) := ⟨fun q' a => wX_ne (fun e => a (by rw [e]; exact h)), rfl, fun _ _ _ _ => rfl⟩
theorem ft_257 {sp : Int} {l0 k0 : Nat} {G : GS9} {bg : Bool} {V K C A : List Int} {N : List (List Int)} (hS : StB S) (hz : z = 49 ∨ z = 163) (hB0 : mB σ 0 = z) (hU : mX σ 87 = U) (hU6 : U.length ≤ 65535) (hX6 : X.length ≤ U.length) (hX : ∀ x ∈ X, x.1 < x.2.1 ∧ x.2.1 ≤ U.length ∧ x.2.1 - x.1 ≤ 80) (hP6 : P.length ≤ 64) (hh : 0 ≤ hg ∧ hg ≤ 100) (ho : Rg o) (hPr : PrC σ 87 0 U P hg (S.getD 2 0) (S.getD 0 0) o X) (h7 : mV σ 24 7 = S.getD 7 0) (hG : GaC σ G []) (hGB : GB9 (-45) G) (hbg : mV σ 128 10 = bZ bg) (hsp : 0 ≤ sp ∧ sp ≤ 3) (hv : mX σ (z + 11) = V) (hk : mX σ (z + 29) = K) (hV : V.length ≤ 60 ∧ l0 ≤ V.length) (hVr : ∀ v ∈ V, Rg v) (hK : K.length ≤ 100 ∧ k0 ≤ K.length) (hKr : ∀ v ∈ K, Rg v) (hN : shR σ 104 N) (hC : mX σ 109 = C) (hCl : C.length = N.length) (hCr : ∀ v ∈ C, Rg v) (hA : mX σ 140 = A) (hA6 : A.length + C.length ≤ 60) (hy : ∀ G1 σ', gAll o true (prN P hg (S.getD 2 0) (S.getD 0 0) U (S.getD 7 0) X) (G.1, G.2.1, G.2.2 ++ (if bg = true then List.replicate sp.toNat (-2) else [])) = .inl G1 → GaC σ' G1 [] → FrF7 z σ σ' → mV σ' 128 10 = 1 → mX σ' (z + 11) = crL l0 (crF (foP U) (G.2.2 ++ (if bg = true then List.replicate sp.toNat (-2) else [])).length X) V → mX σ' (z + 29) = crL k0 (crF (foP U) (G.2.2 ++ (if bg = true then List.replicate sp.toNat (-2) else [])).length X) K → mX σ' 140 = A ++ C.map (fun c => (((G.2.2 ++ (if bg = true then List.replicate sp.toNat (-2) else [])).length + lnO c X : Nat) : Int)) → Q (.inl none) σ') (hn : ∀ e σ', gAll o true (prN P hg (S.getD 2 0) (S.getD 0 0) U (S.getD 7 0) X) (G.1, G.2.1, G.2.2 ++ (if bg = true then List.replicate sp.toNat (-2) else [])) = .inr e → TxF σ' e → FrF7 z σ σ' → Q (.inr (exN 0)) σ') : Setter_fillText_257 sp (l0 : Int) (k0 : Int) σ Q := by
  have b5 := hGB.2.2.2.2
  have b4 := hGB.2.2.1
  have b1 := hGB.1
  have spl : (if bg = true then List.replicate sp.toNat (-2 : Int) else []).length ≤ 3 := by
    split
    · rw [List.length_replicate]
      omega
    · exact Nat.zero_le _
  refine Setter_fillText_257.i (Galley_beginBlock.c hG hbg hsp (by omega) (fun σ1 g1 d1 x1 c1 v1 => ?_))
  generalize hFl : G.2.2 ++ (if bg = true then List.replicate sp.toNat (-2) else []) = F at g1 hy hn
  have lF : F.length ≤ G.2.2.length + 3 := by
    rw [← hFl, List.length_append]
    omega
  have gb1 : GB9 90 (G.1, G.2.1, F) := ⟨hGB.1, hGB.2.1, hGB.2.2.1, hGB.2.2.2.1, by
    show 45 * (F.length : Int) ≤ 3 * G.1.1 + 75 * (G.2.1.length : Int) + 90
    omega⟩
  have f1 : FrF7 z σ σ1 := ⟨fun q a => x1 q (fun e => a (by rw [e]; unfold F7X; simp)), c1, fun y k _ b => v1 y k b⟩
  have hB1 : mB σ1 0 = z := by rw [show mB σ1 = mB σ from congrArg Prod.fst c1]; exact hB0
  have pr1 : PrC σ1 87 0 U P hg (S.getD 2 0) (S.getD 0 0) o X := by
    obtain ⟨p1, p2, p3, p4, p5, p6, p7, p8, p9⟩ := hPr
    exact ⟨⟨p1.1, p1.2.1, fun t ht => by rw [x1 87 (by decide)]; exact p1.2.2 t ht⟩, (x1 _ (by decide)).trans p2, (x1 _ (by decide)).trans p3, (x1 _ (by decide)).trans p4, (x1 _ (by decide)).trans p5, (v1 _ _ (by decide)).trans p6, (v1 _ _ (by decide)).trans p7, (v1 _ _ (by decide)).trans p8, (v1 _ _ (by decide)).trans p9⟩
  have l138 : (mX σ1 138).length = F.length := by rw [g1.2.2.2.2.1]
  show Rules_told 7 σ1 (kI (thQ Q) fun r2 σ2 => Setter_printLines 87 r2 1 σ2 (kV (thQ Q) fun σ3 => Setter_carry (((mX σ1 138).length : Nat) : Int) (l0 : Int) (k0 : Int) σ3 (kV (thQ Q) fun σ4 => Setter_fillText_305 (((mX σ1 138).length : Nat) : Int) 0 σ4 Q)))
  rw [l138]
  refine told_c (k := 7) (by decide) ((v1 _ _ (by decide)).trans h7) ?_
  show Setter_printLines 87 (S.getD 7 0) 1 σ1 _
  have s7 := hS.2.2.2.2.2.1
  refine Setter_printLines.c (fw := true) (d9 := 90) (by decide) (by omega) hX hP6 hh hS.1 ho (by omega) (by decide) pr1 g1 gb1 (fun G1 σ2 q1 q2 q3 => ?_) (fun e σ2 q1 q2 q3 => hn e σ2 q1 q2 (f1.tr (FrF7.ga q3)))
  have f2 : FrF7 z σ σ2 := f1.tr (FrF7.ga q3)
  have kp : ∀ q, q ≠ 130 → q ≠ 132 → q ≠ 134 → q ≠ 136 → q ≠ 138 → mX σ2 q = mX σ q := fun q a b c d e => (q3.1 q a b c d e).trans (x1 q e)
  have hB2 : mB σ2 0 = z := by rw [show mB σ2 = mB σ1 from congrArg Prod.fst q3.2.1]; exact hB1
  refine Setter_carry.c hz hB2 ((kp 87 (by decide) (by decide) (by decide) (by decide) (by decide)).trans hU) (by omega) (by omega) (by omega) (fun x hx => by have := hX x hx; omega) ((kp 114 (by decide) (by decide) (by decide) (by decide) (by decide)).trans hPr.2.2.1) ((kp (z + 11) (by omega) (by omega) (by omega) (by omega) (by omega)).trans hv) ((kp (z + 29) (by omega) (by omega) (by omega) (by omega) (by omega)).trans hk) (by omega) hVr hV.2 (by omega) hKr hK.2 ?_
  have f3 : FrF7 z σ (wX (wX σ2 (z + 11) (crL l0 (crF (foP U) F.length X) V)) (z + 29) (crL k0 (crF (foP U) F.length X) K)) := f2.tr ((FrF7.x (by unfold F7X; simp)).tr (FrF7.x (by unfold F7X; simp)))
  have y11 : mX (wX (wX σ2 (z + 11) (crL l0 (crF (foP U) F.length X) V)) (z + 29) (crL k0 (crF (foP U) F.length X) K)) (z + 11) = crL l0 (crF (foP U) F.length X) V := by
    rw [wX_ne (by omega), wX_self]
  have y29 : mX (wX (wX σ2 (z + 11) (crL l0 (crF (foP U) F.length X) V)) (z + 29) (crL k0 (crF (foP U) F.length X) K)) (z + 29) = crL k0 (crF (foP U) F.length X) K := wX_self
  have kp3 : ∀ q, q ≠ z + 11 → q ≠ z + 29 → mX (wX (wX σ2 (z + 11) (crL l0 (crF (foP U) F.length X) V)) (z + 29) (crL k0 (crF (foP U) F.length X) K)) q = mX σ2 q := fun q a b => by
    rw [wX_ne b, wX_ne a]
  have g3 : GaC (wX (wX σ2 (z + 11) (crL l0 (crF (foP U) F.length X) V)) (z + 29) (crL k0 (crF (foP U) F.length X) K)) G1 [] := q2.fr (fun q hq => kp3 q (by omega) (by omega)) (fun k _ => rfl)
  have d3 : mV (wX (wX σ2 (z + 11) (crL l0 (crF (foP U) F.length X) V)) (z + 29) (crL k0 (crF (foP U) F.length X) K)) 128 10 = 1 := (q3.2.2 _ _ (by decide)).trans d1
  show Setter_fillText_305 (F.length : Int) 0 (wX (wX σ2 (z + 11) (crL l0 (crF (foP U) F.length X) V)) (z + 29) (crL k0 (crF (foP U) F.length X) K)) Q
  generalize wX (wX σ2 (z + 11) (crL l0 (crF (foP U) F.length X) V)) (z + 29) (crL k0 (crF (foP U) F.length X) K) = σ3 at f3 y11 y29 kp3 g3 d3
  have a3 : mX σ3 140 = A := (kp3 140 (by omega) (by omega)).trans ((kp 140 (by decide) (by decide) (by decide) (by decide) (by decide)).trans hA)
  have k305 := ft_305 (Q := Q) (σ0 := σ3) (first := F.length) (V := C) (N := N) (X := X) (A := A) ⟨(kp3 105 (by omega) (by omega)).trans ((kp 105 (by decide) (by decide) (by decide) (by decide) (by decide)).trans hN.1), (kp3 107 (by omega) (by omega)).trans ((kp 107 (by decide) (by decide) (by decide) (by decide) (by decide)).trans hN.2)⟩ hCl ((kp3 109 (by omega) (by omega)).trans ((kp 109 (by decide) (by decide) (by decide) (by decide) (by decide)).trans hC)) hCr (by omega) (by omega) (fun x hx => by have := hX x hx; omega) ((kp3 114 (by omega) (by omega)).trans ((kp 114 (by decide) (by decide) (by decide) (by decide) (by decide)).trans hPr.2.2.1)) hA6 (hy G1 _ q1 (g3.fr (fun q hq => wX_ne (by omega)) (fun k _ => rfl)) (f3.tr (FrF7.x (by unfold F7X; simp))) d3 (by rw [wX_ne (by omega)]; exact y11) (by rw [wX_ne (by omega)]; exact y29) wX_self) C [] rfl
  rw [List.map_nil, List.append_nil, ← a3, wX_id] at k305
  exact k305
end
