/-! TABLES: the reference works all cells of a line -/
def CbZ : List Nat := [246, 252, 264, 265, 266, 267, 268, 276, 277, 278, 279, 280, 281, 282, 283, 285, 293, 294, 295, 298, 300]
def CbQ : List Nat := [16, 17, 21, 22, 28, 31, 32, 33, 46, 52, 53, 58, 59, 81, 84, 85, 86, 94, 95]
section
variable {σ σ0 : MS} {Q : MQ9} {E : TE} {nw g : Nat} {M : List Int} {s : TS}
theorem CbR.k {S9 K9 : List Nat} {σ1 : MS} (h : CbR σ E nw s g) (q : FrZ S9 K9 σ σ1) (hs : ∀ z ∈ CbZ, z ∉ S9) (hk : ∀ k ∈ CbQ, k ∉ K9) : CbR σ1 E nw s g := by
  obtain ⟨⟨w1, w2, w3⟩, w4, ⟨m1, m2, m3, m4, m5⟩, un, re, ⟨k1, k2, k3, k4, k5, k6⟩⟩ := h
  have ss : ∀ L : List Nat, (∀ x ∈ L, x ∈ CbZ) → ∀ x ∈ L, x ∉ S9 := fun L h x hx => hs x (h x hx)
  have kk : ∀ L : List Nat, (∀ x ∈ L, x ∈ CbQ) → ∀ x ∈ L, x ∉ K9 := fun L h x hx => hk x (h x hx)
  have f : ∀ j, j ∈ CbQ → mV σ1 246 j = mV σ 246 j := fun j h => q.f (hk j h) (hs 246 (by decide))
  exact ⟨⟨(f _ (by decide)).trans w1, (f _ (by decide)).trans w2, (f _ (by decide)).trans w3⟩, (f _ (by decide)).trans w4, ⟨m1.z q (ss _ (by decide)) (kk _ (by decide)), m2.z q (ss _ (by decide)), m3.z q (ss _ (by decide)) (kk _ (by decide)), (f _ (by decide)).trans m4, (f _ (by decide)).trans m5⟩, un.z q (hs 246 (by decide)) (kk _ (by decide)), re.k q (ss _ (by decide)) (kk _ (by decide)), ⟨(f _ (by decide)).trans k1, (f _ (by decide)).trans k2, (f _ (by decide)).trans k3, (f _ (by decide)).trans k4, (f _ (by decide)).trans k5, (f _ (by decide)).trans k6⟩⟩
theorem CbR.sp (h : CbR σ E nw s g) : CbR (wV (wV σ 246 32 (s.1.1 + 15)) 246 33 (s.1.2.1 + 15)) E nw (sWk s (s.1.1 + 15) (s.1.2.1 + 15)) g := by
  obtain ⟨⟨w1, w2, w3⟩, w4, ⟨m1, m2, m3, m4, m5⟩, un, re, ⟨k1, k2, k3, k4, k5, k6⟩⟩ := h
  have q : FrZ [] [32, 33] σ (wV (wV σ 246 32 (s.1.1 + 15)) 246 33 (s.1.2.1 + 15)) := (FrZ.wf (by decide)).tr (FrZ.wf (by decide))
  have f : ∀ j, j ∉ [32, 33] → mV (wV (wV σ 246 32 (s.1.1 + 15)) 246 33 (s.1.2.1 + 15)) 246 j = mV σ 246 j := fun j h => q.f h (by simp)
  refine ⟨⟨(f _ (by decide)).trans w1, ?_, wV_self⟩, (f _ (by decide)).trans w4, ⟨m1.z q (by simp) (by decide), m2.z q (by simp), m3.z q (by simp) (by decide), (f _ (by decide)).trans m4, (f _ (by decide)).trans m5⟩, ?_, re.k q (by simp) (by decide), ⟨(f _ (by decide)).trans k1, (f _ (by decide)).trans k2, (f _ (by decide)).trans k3, (f _ (by decide)).trans k4, (f _ (by decide)).trans k5, (f _ (by decide)).trans k6⟩⟩
  · rw [wV_ne (Or.inr (by decide)), wV_self]
    rfl
  · unfold UnB at un ⊢
    rw [f 85 (by decide), wV_self]
    omega
theorem trr_106 {l1 l2 l4 l5 l6 t0 : Int} {R : List (List (List Int))} {X : List (Nat × Nat)} {a e : Nat} {s0 : TS} (hE : EI E) (hE2 : E.2.2.2 = 2) (hM4 : M.length ≤ 4000) (hMb : smB M) (hM : hol σ0 252 M) (hX8 : X.length ≤ 8) (hXb : TcB a e X) (he : e ≤ M.length) (hno : ∀ t, a ≤ t → t < e → ¬ M.getD t 0 = 10) (ht0 : 0 ≤ t0) (hy : ∀ w σ', tcW E M X s0 = .inl w → CbR σ' E nw w.2 (suM (R.flatten ++ w.1)) → CeR σ' (R.flatten ++ w.1) → (∀ k, k < 8 → mV σ' 346 k = tbD k (R ++ [w.1])) → TI (tbP (R.flatten ++ w.1) + t0) 0 (tx0 w.2) → FrTe nw σ0 σ' → R_table_251 l1 l2 (R.flatten.length : Int) l4 l5 l6 (X.length : Int) σ' Q) (hn : ∀ e σ', tcW E M X s0 = .inr e → TxR σ' e → UnB σ' → FrTe nw σ0 σ' → Q (.inl none) σ') : ∀ (r q : List (Nat × Nat)) (p : List (List Int)) (s : TS) (σ : MS), X = q ++ r → p.length = q.length → CbR σ E nw s (suM (R.flatten ++ p)) → CeR σ (R.flatten ++ p) → (∀ k, q.length ≤ k → k < X.length → mV σ 342 (R.flatten.length + k) = ((X.getD k (0, 0)).1 : Int) ∧ mV σ 343 (R.flatten.length + k) = ((X.getD k (0, 0)).2 : Int)) → (∀ k, k < 8 → mV σ 346 k = tbD k (R ++ [p])) → TI (tbP (R.flatten ++ p) + t0) 0 (tx0 s) → FrTe nw σ0 σ → tcW E M X s0 = tcM p (tcW E M r s) → R_table_106 l1 l2 (R.flatten.length : Int) l4 l5 l6 (X.length : Int) (q.length : Int) σ Q := by
  have alx : ∀ z k, z = 252 → ¬ AlTe nw z k := fun z k hz => by
    rw [hz]
    unfold AlTe AlBt
    rintro ((h | h | h) | h)
    · exact absurd h.1 (by decide)
    · exact absurd h (by decide)
    · exact absurd h.1 (by decide)
    · exact absurd h (by decide)
  intro r
  induction r with
  | nil =>
    intro q p s σ hX hp hC hCe hPt hW hTI hf hw
    rw [List.append_nil] at hX
    have hw : tcW E M X s0 = .inl (p ++ [], s) := hw
    rw [List.append_nil] at hw
    have lX : X.length = q.length := by rw [hX]
    exact R_table_106.i ⟨by unfold Rg; omega, fun _ => hy (p, s) σ hw hC hCe hW hTI hf, fun h => absurd h (by omega)⟩
  | cons x r ih =>
    intro q p s σ hX hp hC hCe hPt hW hTI hf hw
    have hXl : X.length = q.length + (r.length + 1) := by rw [hX, List.length_append, List.length_cons]
    have xq : X.getD q.length (0, 0) = x := by
      rw [hX]
      unfold List.getD
      rw [List.getElem?_append_right (Nat.le_refl _), Nat.sub_self]
      rfl
    have hxb := hXb x (by rw [hX]; exact List.mem_append_right _ List.mem_cons_self)
    have hpt := hPt q.length (Nat.le_refl _) (by omega)
    rw [xq] at hpt
    have lC : (R.flatten ++ p).length = R.flatten.length + q.length := by rw [List.length_append, hp]
    have hM1 : hol σ 252 M := fun k hk => (hf.2.2 252 k (alx _ _ rfl)).trans (hM k hk)
    have b0 : 0 ≤ s.1.1 ∧ s.1.1 ≤ 60000 := hTI.1.1
    have b1 : 0 ≤ s.1.2.1 ∧ s.1.2.1 ≤ 400000 := hTI.1.2.1
    have t7 : ((suM s.2.2.2.2.1.1 : Nat) : Int) + ((suM ([] : List (List Int)) : Nat) : Int) + (([] : List Int).length : Int) + (tbP (R.flatten ++ p) + t0) ≤ s.1.1 + 100 := hTI.2.2.2.2.2.2
    have eP : tbP (R.flatten ++ p) = ((suM (R.flatten ++ p) : Nat) : Int) + 15 * ((R.flatten.length + q.length : Nat) : Int) := by
      unfold tbP
      rw [lC]
    have z1 : suM ([] : List (List Int)) = 0 := rfl
    have z2 : ([] : List Int).length = 0 := rfl
    rw [z1, z2] at t7
    have hw : tcW E M X s0 = tcM p (match tSp 15 s with
      | .inr e => .inr e
      | .inl s9 => match wkD 30 (eZ E) false [] (sgT M x.1 x.2) (tx0 s9) with
        | .inr e => .inr e
        | .inl s1 => match tcW E M r (tx0 s1) with
          | .inr e => .inr e
          | .inl w => .inl (s1.2.1 :: w.1, w.2)) := hw
    refine R_table_106.i ⟨by unfold Rg; omega, fun h => absurd h (by omega), fun _ => ⟨fun h => absurd hC.1.1 h, fun _ => ?_⟩⟩
    rw [show (R.flatten.length : Int) + (q.length : Int) = ((R.flatten.length + q.length : Nat) : Int) by omega, Int.toNat_natCast, hpt.1, hpt.2, Int.toNat_natCast]
    refine ⟨by omega, by omega, by omega, by omega, ?_⟩
    by_cases hsp : 60000 < s.1.1 + 15 ∨ 400000 < s.1.2.1 + 15
    · have e9 : tSp 15 s = .inr (8, s.1.1, s.1.2.1) := by
        unfold tSp
        rw [if_pos hsp]
        rfl
      have bad : R_spend_24 σ (kI (thQ Q) fun r1 σ1 => ((¬ r1 = 0 → R_works 240 ((x.1 : Nat) : Int) ((x.2 : Nat) : Int) (-1) (wV σ1 246 18 0) (kV (thQ Q) fun σ2 => (((mV σ2 246 28) = 0 → R_trims (mV σ1 246 16) ((R.flatten.length + q.length : Nat) : Int) σ2 (kV (thQ Q) fun σ3 => 0 ≤ ((R.flatten.length + q.length : Nat) : Int) ∧ ((R.flatten.length + q.length : Nat) : Int) < 4200 ∧ 0 ≤ ((R.flatten.length + q.length : Nat) : Int) ∧ ((R.flatten.length + q.length : Nat) : Int) < 4200 ∧ R_taken (mV σ3 342 (R.flatten.length + q.length)) (mV σ3 343 (R.flatten.length + q.length)) σ3 (kI (thQ Q) fun r4 σ4 => 0 ≤ (q.length : Int) ∧ (q.length : Int) < 8 ∧ ((r4 ≤ (mV σ4 346 q.length) → 0 ≤ (q.length : Int) ∧ (q.length : Int) < 8 ∧ R_table_244 l1 l2 (R.flatten.length : Int) l4 l5 l6 (X.length : Int) (q.length : Int) (q.length : Int) (mV σ4 346 q.length) σ4 Q) ∧ ((mV σ4 346 q.length) < r4 → R_table_244 l1 l2 (R.flatten.length : Int) l4 l5 l6 (X.length : Int) (q.length : Int) (q.length : Int) r4 σ4 Q))))) ∧ (¬ (mV σ2 246 28) = 0 → Q (.inl none) σ2)))) ∧ (r1 = 0 → Q (.inl none) σ1))) := by
        refine R_spend_24.i (R_fail.i ⟨fun h => absurd hC.1.1 h, fun _ => ⟨by decide, ?_⟩⟩)
        refine ⟨fun h => absurd rfl h, fun _ => hn (8, s.1.1, s.1.2.1) _ (by rw [hw, e9]; rfl) ⟨wV_self, (wV_ne (Or.inr (by decide))).trans hC.1.2.1, (wV_ne (Or.inr (by decide))).trans hC.1.2.2⟩ ?_ (hf.tr (FrTe.k (by decide)))⟩
        unfold UnB
        rw [wV_ne (Or.inr (by decide)), wV_ne (Or.inr (by decide))]
        exact hC.2.2.2.1
      refine R_spend.i ?_
      rw [hC.1.2.1, hC.1.2.2]
      exact ⟨by unfold Rg; omega, fun _ => bad, fun h1 => ⟨by unfold Rg; omega, fun h2 => absurd hsp (by omega), fun _ => bad⟩⟩
    · have e9 : tSp 15 s = .inl (sWk s (s.1.1 + 15) (s.1.2.1 + 15)) := by
        unfold tSp
        rw [if_neg hsp]
      rw [e9] at hw
      have hw : tcW E M X s0 = tcM p (match wkD 30 (eZ E) false [] (sgT M x.1 x.2) (tx0 (sWk s (s.1.1 + 15) (s.1.2.1 + 15))) with
          | .inr e => .inr e
          | .inl s1 => match tcW E M r (tx0 s1) with
            | .inr e => .inr e
            | .inl w => .inl (s1.2.1 :: w.1, w.2)) := hw
      have c1 := hC.sp
      have ti9 : TI (tbP (R.flatten ++ p) + t0 + 15) 0 (tx0 (sWk s (s.1.1 + 15) (s.1.2.1 + 15))) := by
        have e2 : tSp 15 (tx0 s) = .inl (tx0 (sWk s (s.1.1 + 15) (s.1.2.1 + 15))) := by
          unfold tSp
          rw [if_neg (by
            show ¬ (60000 < s.1.1 + 15 ∨ 400000 < s.1.2.1 + 15)
            omega)]
          rfl
        exact (hTI.sp (by decide) e2).mo (Int.le_refl _) (by decide)
      have f1 : FrTe nw σ (wV (wV σ 246 32 (s.1.1 + 15)) 246 33 (s.1.2.1 + 15)) := (FrTe.k (by decide)).tr (FrTe.k (by decide))
      have v1 : ∀ y k, y ≠ 246 → mV (wV (wV σ 246 32 (s.1.1 + 15)) 246 33 (s.1.2.1 + 15)) y k = mV σ y k := fun y k h => (wV_ne (Or.inl h)).trans (wV_ne (Or.inl h))
      refine R_spend.i ?_
      rw [hC.1.2.1, hC.1.2.2]
      refine ⟨by unfold Rg; omega, fun h => absurd h (by omega), fun _ => ⟨by unfold Rg; omega, fun _ => ⟨by unfold Rg; omega, by unfold Rg; omega, ?_⟩, fun h => absurd h (by omega)⟩⟩
      refine ⟨fun _ => ?_, fun h => absurd h (by decide)⟩
      generalize wV (wV σ 246 32 (s.1.1 + 15)) 246 33 (s.1.2.1 + 15) = σ1 at c1 f1 v1
      generalize hs9 : sWk s (s.1.1 + 15) (s.1.2.1 + 15) = s9 at c1 ti9 hw
      have lT : (sgT M x.1 x.2).length = x.2 - x.1 := sgT_l (by omega)
      have hSg : SgR σ1 x.1 (sgT M x.1 x.2) := ⟨by omega, fun t ht => by
        have e4 : mV σ1 252 (x.1 + t) = M.getD (x.1 + t) 0 := (v1 _ _ (by decide)).trans (hM1 (x.1 + t) (by omega))
        rw [e4, if_neg (hno _ (by omega) (by omega))]
        unfold sgT
        exact (sgT_at (by omega)).symm⟩
      rw [show ((x.2 : Nat) : Int) = ((x.1 + (sgT M x.1 x.2).length : Nat) : Int) by omega]
      refine cel_w (t0 := tbP (R.flatten ++ p) + t0 + 15) hE hE2 hSg hMb.sg c1 ti9 (by omega) (fun s1 σ2 w2 c2 g2 f2 => ?_) (fun e1 σ2 w2 q1 q2 f2 => hn e1 σ2 (by rw [hw, w2]; rfl) q1 q2 ((hf.tr f1).tr (FrTe.bb (FrBt.u (f2.mo (Nat.zero_le _) (Nat.le_refl _) (Nat.le_refl _))))))
      have ti1 := wkD_ti hE.ez (by omega) (Int.le_refl 0) ti9 (fun w hw => absurd hw List.not_mem_nil) hMb.sg w2
      have t71 : ((suM s1.2.2.2.2.1.1 : Nat) : Int) + ((suM s1.2.2.2.2.2.1.1 : Nat) : Int) + (s1.2.1.length : Int) + (tbP (R.flatten ++ p) + t0 + 15) ≤ s1.1.1 + 100 := ti1.2.2.2.2.2.2
      have t11 : 0 ≤ s1.1.1 ∧ s1.1.1 ≤ 60000 := ti1.1.1
      have ok1 : okK s1.2.1 := ti1.1.2.2.2
      have e16 : mV σ1 246 16 = ((suM (R.flatten ++ p) : Nat) : Int) := c1.2.1
      rw [w2] at hw
      have hw : tcW E M X s0 = tcM p (match tcW E M r (tx0 s1) with
            | .inr e => .inr e
            | .inl w => .inl (s1.2.1 :: w.1, w.2)) := hw
      show R_trims (mV σ1 246 16) ((R.flatten.length + q.length : Nat) : Int) σ2 _
      rw [e16]
      refine R_trims.p ok1 (by omega) g2 c2.2.1 (by omega) (fun a9 b9 hT => ?_)
      have f3 : FrZ [342, 343] [] σ2 (wV (wV σ2 342 (R.flatten.length + q.length) ((suM (R.flatten ++ p) + a9 : Nat) : Int)) 343 (R.flatten.length + q.length) ((suM (R.flatten ++ p) + b9 : Nat) : Int)) := (FrZ.wz (by decide)).tr (FrZ.wz (by decide))
      have y2 : mV (wV (wV σ2 342 (R.flatten.length + q.length) ((suM (R.flatten ++ p) + a9 : Nat) : Int)) 343 (R.flatten.length + q.length) ((suM (R.flatten ++ p) + b9 : Nat) : Int)) 342 (R.flatten.length + q.length) = ((suM (R.flatten ++ p) + a9 : Nat) : Int) := by rw [wV_ne (Or.inl (by decide)), wV_self]
      have y3 : mV (wV (wV σ2 342 (R.flatten.length + q.length) ((suM (R.flatten ++ p) + a9 : Nat) : Int)) 343 (R.flatten.length + q.length) ((suM (R.flatten ++ p) + b9 : Nat) : Int)) 343 (R.flatten.length + q.length) = ((suM (R.flatten ++ p) + b9 : Nat) : Int) := wV_self
      have yo : ∀ z k, (z = 342 ∨ z = 343) → k ≠ R.flatten.length + q.length → mV (wV (wV σ2 342 (R.flatten.length + q.length) ((suM (R.flatten ++ p) + a9 : Nat) : Int)) 343 (R.flatten.length + q.length) ((suM (R.flatten ++ p) + b9 : Nat) : Int)) z k = mV σ2 z k := fun z k _ hk => (wV_ne (Or.inr hk)).trans (wV_ne (Or.inr hk))
      have fe3 : FrTe nw σ2 (wV (wV σ2 342 (R.flatten.length + q.length) ((suM (R.flatten ++ p) + a9 : Nat) : Int)) 343 (R.flatten.length + q.length) ((suM (R.flatten ++ p) + b9 : Nat) : Int)) := (FrTe.w (by decide)).tr (FrTe.w (by decide))
      generalize wV (wV σ2 342 (R.flatten.length + q.length) ((suM (R.flatten ++ p) + a9 : Nat) : Int)) 343 (R.flatten.length + q.length) ((suM (R.flatten ++ p) + b9 : Nat) : Int) = σ3 at f3 y2 y3 yo fe3
      have z3 : ∀ y k, y ≠ 342 → y ≠ 343 → y ≠ 246 → mV σ3 y k = mV σ2 y k := fun y k a c d => f3.z (by simp only [List.mem_cons, List.not_mem_nil, or_false]; omega) d
      have u2 : ∀ y k, y ∉ TRS → y ≠ 246 → mV σ2 y k = mV σ1 y k := fun y k h h6 => FrU.z f2 h h6
      have f03 : FrTe nw σ0 σ3 := ((hf.tr f1).tr (FrTe.bb (FrBt.u (f2.mo (Nat.zero_le _) (Nat.le_refl _) (Nat.le_refl _))))).tr fe3
      have eSn : R.flatten ++ (p ++ [s1.2.1]) = (R.flatten ++ p) ++ [s1.2.1] := (List.append_assoc _ _ _).symm
      have w3 : ∀ k, k < 8 → mV σ3 346 k = tbD k (R ++ [p]) := fun k hk => (z3 _ _ (by decide) (by decide) (by decide)).trans ((u2 _ _ (by decide) (by decide)).trans ((v1 _ _ (by decide)).trans (hW k hk)))
      have ce3 : CeR σ3 (R.flatten ++ (p ++ [s1.2.1])) := by
        rw [eSn]
        refine CeR.sn hCe (fun z k hz hk => ?_) (fun z k hz hk => ?_) hT (by rw [lC]; exact y2) (by rw [lC]; exact y3) (fun i hi => ?_)
        · rw [yo z k hz (by omega), u2 z k (by
            unfold TRS
            simp only [List.mem_cons, List.not_mem_nil, or_false]
            omega) (by omega)]
          exact v1 z k (by omega)
        · rw [z3 z k (by omega) (by omega) (by omega), FrU.lo f2 (zz := z) (by
            unfold loB
            rw [if_pos (by omega)]
            exact hk) (by omega)]
          exact v1 z k (by omega)
        · rw [z3 254 _ (by decide) (by decide) (by decide), z3 255 _ (by decide) (by decide) (by decide)]
          exact g2 i hi
      have go : ∀ x9 : Int, x9 = max (tbD q.length (R ++ [p])) ((pkL s1.2.1).length : Int) → R_table_244 l1 l2 (R.flatten.length : Int) l4 l5 l6 (X.length : Int) (q.length : Int) (q.length : Int) x9 σ3 Q := fun x9 hx9 => by
        refine R_table_244.i ⟨by omega, by omega, ?_⟩
        rw [Int.toNat_natCast, hx9]
        have f4 : FrZ [346] [] σ3 (wV σ3 346 q.length (max (tbD q.length (R ++ [p])) ((pkL s1.2.1).length : Int))) := FrZ.wz (by decide)
        have sum4 : suM (R.flatten ++ (p ++ [s1.2.1])) = suM (R.flatten ++ p) + s1.2.1.length := by
          rw [eSn, suM_sn]
        have := ih (q ++ [x]) (p ++ [s1.2.1]) (tx0 s1) (wV σ3 346 q.length (max (tbD q.length (R ++ [p])) ((pkL s1.2.1).length : Int))) (by rw [List.append_assoc]; exact hX) (by rw [List.length_append, List.length_append, hp]; rfl) ?_ (fun j hj => ?_) (fun k h1 h2 => ?_) (fun k hk => ?_) ?_ (f03.tr (FrTe.w (by decide))) ?_
        · rw [List.length_append] at this
          exact this
        · rw [sum4]
          exact (c2.k f3 (by decide) (by simp)).k f4 (by decide) (by simp)
        · obtain ⟨a', b', q1, q2, q3, q4⟩ := ce3 j hj
          exact ⟨a', b', q1, (wV_ne (Or.inl (by decide))).trans q2, (wV_ne (Or.inl (by decide))).trans q3, fun i hi => ⟨(wV_ne (Or.inl (by decide))).trans (q4 i hi).1, (wV_ne (Or.inl (by decide))).trans (q4 i hi).2⟩⟩
        · rw [List.length_append] at h1
          have h1 : q.length + 1 ≤ k := h1
          rw [wV_ne (Or.inl (by decide)), wV_ne (Or.inl (by decide)), yo 342 _ (Or.inl rfl) (by omega), yo 343 _ (Or.inr rfl) (by omega), u2 342 _ (by decide) (by decide), u2 343 _ (by decide) (by decide), v1 _ _ (by decide), v1 _ _ (by decide)]
          exact hPt k (by omega) h2
        · rw [tbD_sn (p := p ++ [s1.2.1]), List.length_append]
          show mV (wV σ3 346 q.length _) 346 k = if k < p.length + 1 then _ else _
          by_cases e5 : k = q.length
          · rw [e5, wV_self, if_pos (by omega), tbD_sn, if_neg (by omega)]
            have : (p ++ [s1.2.1]).getD q.length [] = s1.2.1 := by
              rw [← hp]
              unfold List.getD
              rw [List.getElem?_append_right (Nat.le_refl _), Nat.sub_self]
              rfl
            rw [this]
          · rw [wV_ne (Or.inr e5), w3 k hk, tbD_sn]
            by_cases h9 : k < p.length
            · have : (p ++ [s1.2.1]).getD k [] = p.getD k [] := by
                unfold List.getD
                rw [List.getElem?_append_left h9]
              rw [if_pos h9, if_pos (by omega), this]
            · rw [if_neg h9, if_neg (by omega)]
        · rw [eSn, tbP_sn]
          obtain ⟨a1, a2, a3, a4, a5, a6, a7⟩ := ti1
          refine ⟨⟨a1.1, a1.2.1, (show (0 : Int) ≤ 0 ∧ (0 : Int) ≤ 3 by decide), okK.nil⟩, a2, a3, a4, ?_, a6, ?_⟩
          · have : ((([] : List (List Int)).length : Nat) : Int) ≤ s1.2.2.2.2.2.1.2.2 := by
              have := a5.2.1
              show (0 : Int) ≤ _
              omega
            exact ⟨rfl, this, a5.2.2.1, fun w hw => absurd hw List.not_mem_nil⟩
          · show ((suM s1.2.2.2.2.1.1 : Nat) : Int) + ((suM ([] : List (List Int)) : Nat) : Int) + (([] : List Int).length : Int) + (tbP (R.flatten ++ p) + (s1.2.1.length : Int) + 15 + t0) ≤ s1.1.1 + 100
            rw [z1, z2]
            omega
        · rw [hw]
          cases e5 : tcW E M r (tx0 s1) with
          | inr e1 => rfl
          | inl w =>
            show Sum.inl (p ++ (s1.2.1 :: w.1), w.2) = Sum.inl (p ++ [s1.2.1] ++ w.1, w.2)
            rw [List.append_assoc]
            rfl
      have tk : ∀ Q' : MQ9, Q' (.inl (some ((pkL s1.2.1).length : Int))) σ3 → R_taken ((suM (R.flatten ++ p) + a9 : Nat) : Int) ((suM (R.flatten ++ p) + b9 : Nat) : Int) σ3 Q' := fun Q' hQ => by
        have g3 : hoG σ3 254 255 (suM (R.flatten ++ p)) s1.2.1 := fun i hi => by
          rw [z3 254 _ (by decide) (by decide) (by decide), z3 255 _ (by decide) (by decide) (by decide)]
          exact g2 i hi
        by_cases hab : a9 < b9
        · have s5 := hT.2.2.2.2 hab
          refine R_taken.p ok1 (by omega) g3 hT.2.1 s5.2 hab ?_
          rw [tm_w hT hab]
          exact hQ
        · have hb9 := hT.1
          have hb8 := hT.2.1
          have e6 : a9 = b9 := by omega
          have p0 : (pkL s1.2.1).length = 0 := by
            rw [← hT.pk, e6, sgT_n]
            rfl
          rw [p0] at hQ
          exact R_taken.i (R_taken_5.i ⟨by unfold Rg; omega, by unfold Rg; omega, fun _ => ⟨by decide, hQ⟩, fun h => absurd h (by omega)⟩)
      show 0 ≤ ((R.flatten.length + q.length : Nat) : Int) ∧ ((R.flatten.length + q.length : Nat) : Int) < 4200 ∧ 0 ≤ ((R.flatten.length + q.length : Nat) : Int) ∧ ((R.flatten.length + q.length : Nat) : Int) < 4200 ∧ R_taken (mV σ3 342 (R.flatten.length + q.length)) (mV σ3 343 (R.flatten.length + q.length)) σ3 _
      rw [y2, y3]
      refine ⟨by omega, by omega, by omega, by omega, tk _ ?_⟩
      show 0 ≤ (q.length : Int) ∧ (q.length : Int) < 8 ∧ _
      rw [w3 q.length (by omega)]
      exact ⟨by omega, by omega, fun h => ⟨by omega, by omega, go _ (by omega)⟩, fun h => go _ (by omega)⟩
end
