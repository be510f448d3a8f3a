/-! DIRECTIVES: all of them, the reference -/
section
variable {σ σ' : MS} {Q : MQ9} {x0 : Nat} {T U : List Int} {s : TS} {R : RU}
theorem dw_eq : wdT 0 = [(wdT 4).getD 0 [], (wdT 5).getD 0 [], (wdT 6).getD 0 [], (wdT 7).getD 0 [], (wdT 8).getD 0 [], (wdT 9).getD 0 [], (wdT 10).getD 0 []] ∧ ∀ j, j < 7 → wdT (4 + j) = [(wdT (4 + j)).getD 0 []] := by decide +kernel
theorem dw_one {j : Nat} (hj : j < 7) : ixW (wdT (4 + j)) 0 U = 0 ↔ (wdT (4 + j)).getD 0 [] = U := by
  have h := dw_eq.2 j hj
  generalize (wdT (4 + j)).getD 0 [] = w at h ⊢
  rw [h]
  show (if w = U then (0 : Int) else -1) = 0 ↔ w = U
  split
  · exact ⟨fun _ => by assumption, fun _ => rfl⟩
  · exact ⟨fun h9 => absurd h9 (by decide), fun h9 => absurd h9 (by assumption)⟩
theorem dw_all : ixW (wdT 0) 0 U = if ixW (wdT 4) 0 U = 0 then 0 else if ixW (wdT 5) 0 U = 0 then 1 else if ixW (wdT 6) 0 U = 0 then 2 else if ixW (wdT 7) 0 U = 0 then 3 else if ixW (wdT 8) 0 U = 0 then 4 else if ixW (wdT 9) 0 U = 0 then 5 else if ixW (wdT 10) 0 U = 0 then 6 else -1 := by
  have h0 := dw_one (U := U) (j := 0) (by decide)
  have h1 := dw_one (U := U) (j := 1) (by decide)
  have h2 := dw_one (U := U) (j := 2) (by decide)
  have h3 := dw_one (U := U) (j := 3) (by decide)
  have h4 := dw_one (U := U) (j := 4) (by decide)
  have h5 := dw_one (U := U) (j := 5) (by decide)
  have h6 := dw_one (U := U) (j := 6) (by decide)
  simp only [Nat.add_zero, Nat.reduceAdd] at h0 h1 h2 h3 h4 h5 h6
  rw [dw_eq.1]
  simp only [h0, h1, h2, h3, h4, h5, h6]
  rfl
theorem di_4 {l1 : Int} (hT : LnR σ x0 T) : ∀ (m p : Nat), p + m = T.length → R_directive_26 l1 ((x0 + T.length : Nat) : Int) ((x0 + wbD T p : Nat) : Int) σ Q → R_directive_4 l1 ((x0 + T.length : Nat) : Int) ((x0 + p : Nat) : Int) σ Q := by
  have l0 := hT.1
  intro m
  induction m with
  | zero =>
    intro p hp hq
    rw [wb_e (by omega)] at hq
    exact R_directive_4.i ⟨by unfold Rg; omega, by unfold Rg; omega, fun _ => hq, fun h9 => absurd h9 (by omega)⟩
  | succ m ih =>
    intro p hp hq
    have hlt : p < T.length := by omega
    rw [wb_c hlt] at hq
    refine R_directive_4.i ⟨by unfold Rg; omega, by unfold Rg; omega, fun h9 => absurd h9 (by omega), fun _ => ⟨by omega, by omega, ?_⟩⟩
    rw [Int.toNat_natCast, hT.2 p hlt]
    refine ⟨fun h9 => ?_, fun h9 => ?_⟩
    · rw [if_pos h9] at hq
      exact hq
    · rw [if_neg h9] at hq
      rw [show ((x0 + p : Nat) : Int) + 1 = ((x0 + (p + 1) : Nat) : Int) by omega]
      exact ih (p + 1) (by omega) hq
def RDS : List Nat := [264, 265, 266, 267, 268, 269, 270, 271, 272, 273, 274, 275]
def RDK : List Nat := [28, 32, 33, 46, 47, 48]
theorem HyP1.z {P : List (List Int)} {S K : List Nat} (h : HyP1 σ P) (q : FrZ S K σ σ') (h1 : ∀ z ∈ [246, 269, 270, 271, 272, 273, 274], z ∉ S) (h2 : ∀ k ∈ [47, 48], k ∉ K) : HyP1 σ' P := Hy1.z (pat := true) h q h1 h2
theorem HyX1.z {P : List (List Int)} {S K : List Nat} (h : HyX1 σ P) (q : FrZ S K σ σ') (h1 : ∀ z ∈ [246, 269, 270, 271, 272, 273, 274], z ∉ S) (h2 : ∀ k ∈ [47, 48], k ∉ K) : HyX1 σ' P := Hy1.z (pat := false) h q h1 h2
theorem RuR.z {S K : List Nat} (h : RuR σ R) (f : FrZ S K σ σ') (h1 : ∀ z ∈ [246, 252, 264, 265, 266, 267, 268, 269, 270, 271, 272, 273, 274, 275], z ∉ S) (h2 : ∀ k ∈ [46, 47, 48], k ∉ K) : RuR σ' R := by
  refine ⟨fun k hk => (f.z (h1 _ (by decide)) (by decide)).trans (h.1 k hk), fun X => (h.2.1 X).cg (f.f (h2 _ (by decide)) (h1 _ (by decide))) (fun y k y1 y2 => f.z (h1 _ (by simp only [List.mem_cons, List.not_mem_nil, or_false]; omega)) (by omega)) (fun k _ => f.z (h1 _ (by decide)) (by decide)), h.2.2.1.z f (fun z hz => h1 z (by simp only [List.mem_cons, List.not_mem_nil, or_false] at hz ⊢; omega)) (fun k hk => h2 k (by simp only [List.mem_cons, List.not_mem_nil, or_false] at hk ⊢; omega)), h.2.2.2.z f (fun z hz => h1 z (by simp only [List.mem_cons, List.not_mem_nil, or_false] at hz ⊢; omega)) (fun k hk => h2 k (by simp only [List.mem_cons, List.not_mem_nil, or_false] at hk ⊢; omega))⟩
theorem MaR.e {E E' : TE} (h : MaR σ E) (e : E.1 = E'.1) : MaR σ E' := by
  unfold MaR at h ⊢
  rw [← e]
  exact h
theorem MaR.z {E : TE} {S K : List Nat} (h : MaR σ E) (f : FrZ S K σ σ') (h1 : ∀ z ∈ [246, 252, 264, 265, 266, 267, 268], z ∉ S) (h2 : 46 ∉ K) : MaR σ' E := h.cg (f.f h2 (h1 _ (by decide))) (fun y k y1 y2 => f.z (h1 _ (by simp only [List.mem_cons, List.not_mem_nil, or_false]; omega)) (by omega)) (fun k _ => f.z (h1 _ (by decide)) (by decide))
theorem FrG.pat {P : List (List Int)} (h : HyX1 σ P) (f : FrG true σ σ') : HyX1 σ' P := ⟨(FrZ.f f (by decide) (by decide)).trans h.1, fun x hx => ⟨(FrZ.z f (by decide) (by decide)).trans (h.2 x hx).1, fun i hi => (FrZ.z f (by decide) (by decide)).trans ((h.2 x hx).2.1 i hi), fun k hk => by rw [FrZ.z f (by decide) (by decide)]; exact (h.2 x hx).2.2 k hk⟩⟩
theorem FrG.ex {P : List (List Int)} (h : HyP1 σ P) (f : FrG false σ σ') : HyP1 σ' P := ⟨(FrZ.f f (by decide) (by decide)).trans h.1, fun x hx => ⟨(FrZ.z f (by decide) (by decide)).trans (h.2 x hx).1, fun i hi => (FrZ.z f (by decide) (by decide)).trans ((h.2 x hx).2.1 i hi), fun k hk => by rw [FrZ.z f (by decide) (by decide)]; exact (h.2 x hx).2.2 k hk⟩⟩
theorem R_directive.p (hT : LnR σ x0 T) (hTb : smB T) (h10 : ∀ x ∈ T, x ≠ 10) (hx0 : x0 + T.length ≤ 4000) (h1l : 1 ≤ T.length) (hat : ¬ T.getD 0 0 = 32) (hR : RuI R) (hC : RuR σ R) (hW : RxW σ s) (hB : BdR 0 0 s)
    (hp3 : drO T = true → drW T = 6 → R_cuts σ (kI (thQ Q) fun r1 σ1 => R_directive_197 r1 σ1 Q)) (hp2 : drO T = true → drW T = 5 → R_register σ (kI (thQ Q) fun r1 σ1 => R_directive_197 r1 σ1 Q)) (hp1 : drO T = true → drW T = 4 → R_contents σ (kI (thQ Q) fun r1 σ1 => R_directive_197 r1 σ1 Q))
    (h1 : drW T < 4 → ∀ R' s' σ', drD T R s = .inl (R', s') → RuR σ' R' → RxW σ' s' → FrZ RDS RDK σ σ' → Q (.inl none) σ') (h2 : ∀ R' e σ', drD T R s = .inr (R', e) → RuR σ' R' → FaD σ' e → FrZ RDS RDK σ σ' → Q (.inl none) σ') : R_directive (x0 : Int) ((x0 + T.length : Nat) : Int) σ Q := by
  have l0 := hT.1
  obtain ⟨b1, b2⟩ := wbD_b (T := T) (p := 0) (Nat.zero_le _)
  have lU := sg_len b1 b2
  have hU := hT.2.sg b1 b2
  rw [Nat.add_zero] at hU
  have wb := drW_b (T := T)
  have we : wbD T 0 = wbD T 1 := by rw [wb_c (by omega), if_neg hat]
  have w1 : 1 ≤ wbD T 0 := by rw [we]; exact (wbD_b (T := T) (p := 1) h1l).1
  have bad : drD T R s = .inr (R, (1, s.1.1, s.1.2.1)) → R_directive_197 0 σ Q := fun e => R_directive_197.i ⟨fun h => absurd rfl h, fun _ => R_fail.r (by decide) hW (h2 R _ _ e (hC.z (S := []) (K := [28]) (FrZ.wf (by decide)) (by decide) (by decide)) (FaD.w (by decide) hW) (FrZ.wf (by decide)))⟩
  refine R_directive.i ?_
  rw [show (x0 : Int) + 1 = ((x0 + 1 : Nat) : Int) by omega]
  refine di_4 hT (T.length - 1) 1 (by omega) ?_
  rw [← we]
  have dall := dw_all (U := sgT T 0 (wbD T 0))
  have eW : ixW (wdT 0) 0 (sgT T 0 (wbD T 0)) = drW T := rfl
  rw [eW] at dall
  have isW : ∀ (j : Nat) {Q' : MQ9}, j < 11 → j ≠ 3 → Q' (.inl (some (bZ (decide (ixW (wdT j) 0 (sgT T 0 (wbD T 0)) = 0))))) σ → R_isWord (x0 : Int) ((x0 + wbD T 0 : Nat) : Int) (360 + j) σ Q' := fun j Q' hj hj3 hq => R_isWord.s hj hj3 (U := sgT T 0 (wbD T 0)) (by omega) (by omega) hU hq
  have bad1 : drO T = false → R_directive_197 0 σ Q := fun h => bad (by unfold drD; rw [if_pos h])
  have hk : ((x0 + wbD T 0 : Nat) : Int) + 1 = ((x0 + (wbD T 0 + 1) : Nat) : Int) := by omega
  have oF : ¬ (¬ drW T = -1 ∧ (4 ≤ drW T ↔ wbD T 0 = T.length)) → drO T = false := fun h => by
    unfold drO
    exact decide_eq_false h
  have oT : (¬ drW T = -1 ∧ (4 ≤ drW T ↔ wbD T 0 = T.length)) → drO T = true := fun h => by
    unfold drO
    exact decide_eq_true h
  refine R_directive_26.i (isW 4 (by decide) (by decide) ⟨fun a0 => isW 5 (by decide) (by decide) ⟨fun a1 => isW 6 (by decide) (by decide) ⟨fun a2 => isW 7 (by decide) (by decide) ⟨fun a3 => ⟨by unfold Rg; omega, by unfold Rg; omega, fun h9 => isW 8 (by decide) (by decide) ⟨fun a4 => isW 9 (by decide) (by decide) ⟨fun a5 => isW 10 (by decide) (by decide) ⟨fun a6 => ?_, fun a6 => ?_⟩, fun a5 => ?_⟩, fun a4 => ?_⟩, fun h9 => ?_⟩, fun a3 => ?_⟩, fun a2 => ?_⟩, fun a1 => ?_⟩, fun a0 => ?_⟩)
  · rw [if_neg (of_decide_eq_false (bZ_z a0)), if_neg (of_decide_eq_false (bZ_z a1)), if_neg (of_decide_eq_false (bZ_z a2)), if_neg (of_decide_eq_false (bZ_z a3)), if_neg (of_decide_eq_false (bZ_z a4)), if_neg (of_decide_eq_false (bZ_z a5)), if_neg (of_decide_eq_false (bZ_z a6))] at dall
    exact bad1 (oF (by omega))
  · rw [if_neg (of_decide_eq_false (bZ_z a0)), if_neg (of_decide_eq_false (bZ_z a1)), if_neg (of_decide_eq_false (bZ_z a2)), if_neg (of_decide_eq_false (bZ_z a3)), if_neg (of_decide_eq_false (bZ_z a4)), if_neg (of_decide_eq_false (bZ_z a5)), if_pos (of_decide_eq_true (bZ_ne a6))] at dall
    exact hp3 (oT (by omega)) dall
  · rw [if_neg (of_decide_eq_false (bZ_z a0)), if_neg (of_decide_eq_false (bZ_z a1)), if_neg (of_decide_eq_false (bZ_z a2)), if_neg (of_decide_eq_false (bZ_z a3)), if_neg (of_decide_eq_false (bZ_z a4)), if_pos (of_decide_eq_true (bZ_ne a5))] at dall
    exact hp2 (oT (by omega)) dall
  · rw [if_neg (of_decide_eq_false (bZ_z a0)), if_neg (of_decide_eq_false (bZ_z a1)), if_neg (of_decide_eq_false (bZ_z a2)), if_neg (of_decide_eq_false (bZ_z a3)), if_pos (of_decide_eq_true (bZ_ne a4))] at dall
    exact hp1 (oT (by omega)) dall
  · rw [if_neg (of_decide_eq_false (bZ_z a0)), if_neg (of_decide_eq_false (bZ_z a1)), if_neg (of_decide_eq_false (bZ_z a2)), if_neg (of_decide_eq_false (bZ_z a3))] at dall
    have d9 : drW T = -1 ∨ 4 ≤ drW T := by
      rw [dall]
      split
      · exact Or.inr (by decide)
      · split
        · exact Or.inr (by decide)
        · split
          · exact Or.inr (by decide)
          · exact Or.inl rfl
    exact bad1 (oF (by omega))
  · rw [if_neg (of_decide_eq_false (bZ_z a0)), if_neg (of_decide_eq_false (bZ_z a1)), if_neg (of_decide_eq_false (bZ_z a2)), if_pos (of_decide_eq_true (bZ_ne a3))] at dall
    by_cases he : wbD T 0 = T.length
    · exact R_listed.e (pat := false) (by rw [he]) (by omega) (bad1 (oF (by omega)))
    · have ed : drD T R s = (match drL false R.2.2.2 T (wbD T 0 + 1) s with
        | .inl q => .inl ((R.1, R.2.1, R.2.2.1, q.2), q.1)
        | .inr q => .inr ((R.1, R.2.1, R.2.2.1, q.2), q.1)) := by
        unfold drD
        rw [if_neg (by rw [oT (by omega)]; decide), if_neg (by omega), if_neg (by omega), if_neg (by omega), if_pos dall]
        rfl
      unfold drL at ed
      refine R_listed.p (pat := false) (s := s) (P := R.2.2.2) hk (by omega) hT hTb (by omega) hC.2.2.2 (smW.ok hR.2.2.2.2) hR.2.2.2.1 hW hB (fun a => ?_) (fun a s' P' σ' e b d f => ?_) (fun a e' P' σ' e b d f => ?_)
      · rw [if_neg (by rw [a]; decide)] at ed
        exact bad ed
      · rw [if_pos a, e] at ed
        exact R_directive_197.i ⟨fun _ => h1 (by omega) _ _ σ' ed ⟨fun k hk => (f.z (by decide) (by decide)).trans (hC.1 k hk), fun X => (hC.2.1 X).z f (by decide) (by decide), FrG.ex hC.2.2.1 f, b⟩ d (f.mo (by decide) (by decide)), fun h => absurd h (by decide)⟩
      · rw [if_pos a, e] at ed
        exact R_directive_197.i ⟨fun _ => h2 _ _ σ' ed ⟨fun k hk => (f.z (by decide) (by decide)).trans (hC.1 k hk), fun X => (hC.2.1 X).z f (by decide) (by decide), FrG.ex hC.2.2.1 f, b⟩ d (f.mo (by decide) (by decide)), fun h => absurd h (by decide)⟩
  · rw [if_neg (of_decide_eq_false (bZ_z a0)), if_neg (of_decide_eq_false (bZ_z a1)), if_pos (of_decide_eq_true (bZ_ne a2))] at dall
    by_cases he : wbD T 0 = T.length
    · exact R_listed.e (pat := true) (by rw [he]) (by omega) (bad1 (oF (by omega)))
    · have ed : drD T R s = (match drL true R.2.2.1 T (wbD T 0 + 1) s with
        | .inl q => .inl ((R.1, R.2.1, q.2, R.2.2.2), q.1)
        | .inr q => .inr ((R.1, R.2.1, q.2, R.2.2.2), q.1)) := by
        unfold drD
        rw [if_neg (by rw [oT (by omega)]; decide), if_neg (by omega), if_neg (by omega), if_pos dall]
        rfl
      unfold drL at ed
      refine R_listed.p (pat := true) (s := s) (P := R.2.2.1) hk (by omega) hT hTb (by omega) hC.2.2.1 (smW.ok hR.2.2.1.2) hR.2.2.1.1 hW hB (fun a => ?_) (fun a s' P' σ' e b d f => ?_) (fun a e' P' σ' e b d f => ?_)
      · rw [if_neg (by rw [a]; decide)] at ed
        exact bad ed
      · rw [if_pos a, e] at ed
        exact R_directive_197.i ⟨fun _ => h1 (by omega) _ _ σ' ed ⟨fun k hk => (f.z (by decide) (by decide)).trans (hC.1 k hk), fun X => (hC.2.1 X).z f (by decide) (by decide), b, FrG.pat hC.2.2.2 f⟩ d (f.mo (by decide) (by decide)), fun h => absurd h (by decide)⟩
      · rw [if_pos a, e] at ed
        exact R_directive_197.i ⟨fun _ => h2 _ _ σ' ed ⟨fun k hk => (f.z (by decide) (by decide)).trans (hC.1 k hk), fun X => (hC.2.1 X).z f (by decide) (by decide), b, FrG.pat hC.2.2.2 f⟩ d (f.mo (by decide) (by decide)), fun h => absurd h (by decide)⟩
  · rw [if_neg (of_decide_eq_false (bZ_z a0)), if_pos (of_decide_eq_true (bZ_ne a1))] at dall
    by_cases he : wbD T 0 = T.length
    · exact R_sets.e (by rw [he]) (by omega) (bad1 (oF (by omega)))
    · have ed : drD T R s = (if chD T (wbD T 0 + 1) = false then .inr (R, (1, s.1.1, s.1.2.1)) else .inl ((R.1.set (chW T (wbD T 0 + 1)).toNat (chV T (wbD T 0 + 1)), R.2), s)) := by
        unfold drD
        rw [if_neg (by rw [oT (by omega)]; decide), if_neg (by omega), if_pos dall]
      refine R_sets.p hk hT hTb (by omega) (fun a => ?_) (fun a => ?_)
      · have hch := a
        unfold chD chG at hch
        rw [Bool.and_eq_true, Bool.and_eq_true, decide_eq_true_iff] at hch
        have wb9 := chW_b (T := T) (p := wbD T 0 + 1)
        rw [if_neg (by rw [a]; decide)] at ed
        have f : FrZ [275] [] σ (wV σ 275 (chW T (wbD T 0 + 1)).toNat (chV T (wbD T 0 + 1))) := FrZ.wz (by decide)
        refine R_directive_197.i ⟨fun _ => h1 (by omega) _ _ _ ed ⟨fun k hk => ?_, fun X => (hC.2.1 X).z f (by decide) (by decide), hC.2.2.1.z f (by decide) (by decide), hC.2.2.2.z f (by decide) (by decide)⟩ (hW.z f (by decide) (by decide)) (f.mo (by decide) (by decide)), fun h => absurd h (by decide)⟩
        show _ = (R.1.set _ _).getD k 0
        have l13 := hR.1.1
        rw [set_at (by omega)]
        by_cases e : k = (chW T (wbD T 0 + 1)).toNat
        · rw [if_pos e, e, wV_self]
        · rw [if_neg e, wV_ne (Or.inr e)]
          exact hC.1 k hk
      · rw [if_pos a] at ed
        exact bad ed
  · rw [if_pos (of_decide_eq_true (bZ_ne a0))] at dall
    by_cases he : wbD T 0 = T.length
    · exact R_defines.e (by rw [he]) (by omega) (bad1 (oF (by omega)))
    · have ed : drD T R s = (if dfG T (wbD T 0 + 1) = false then .inr (R, (1, s.1.1, s.1.2.1)) else if dfF R.2.1 T (wbD T 0 + 1) = true then .inr (R, (9, s.1.1, s.1.2.1)) else .inl ((R.1, dfM R.2.1 T (wbD T 0 + 1), R.2.2), s)) := by
        unfold drD
        rw [if_neg (by rw [oT (by omega)]; decide), if_pos dall]
      refine R_defines.p (E := (R.2.1, ([], [], [], 0, 0), [], 0)) hk (by omega) hT hTb h10 hx0 (by omega) hR.2.1 (hC.2.1 _) hW (fun a => ?_) (fun a a2 => ?_) (fun a a2 σ' b f => ?_)
      · rw [if_pos a] at ed
        exact bad ed
      · rw [if_neg (by rw [a]; decide), if_pos a2] at ed
        exact R_directive_197.i ⟨fun _ => h2 _ _ _ ed (hC.z (S := []) (K := [28]) (FrZ.wf (by decide)) (by decide) (by decide)) (FaD.w (by decide) hW) (FrZ.wf (by decide)), fun h => absurd h (by decide)⟩
      · rw [if_neg (by rw [a]; decide), if_neg (by rw [a2]; decide)] at ed
        exact R_directive_197.i ⟨fun _ => h1 (by omega) _ _ σ' ed ⟨fun k hk => (f.z (by decide) (by decide)).trans (hC.1 k hk), fun X => b.e rfl, hC.2.2.1.z f (by decide) (by decide), hC.2.2.2.z f (by decide) (by decide)⟩ (hW.z f (by decide) (by decide)) (f.mo (by decide) (by decide)), fun h => absurd h (by decide)⟩
end
