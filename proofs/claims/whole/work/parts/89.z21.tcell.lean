/-! TABLES: the cells of a line; the class -/
def FrTb (σ σ' : MS) : Prop := (∀ q, q ∉ TXY → q ≠ 152 → q ≠ 154 → q ≠ 156 → q ≠ 158 → mX σ' q = mX σ q) ∧ σ'.2.2 = σ.2.2 ∧ ∀ y k, y ≠ 22 → y ≠ 86 → ¬ ((y = 49 ∨ y = 163) ∧ k = 13) → y ≠ 161 → ¬ (y = 150 ∧ k = 9) → mV σ' y k = mV σ y k
def tcM (p : List (List Int)) (r : (List (List Int) × TS) ⊕ (Int × Int × Int)) : (List (List Int) × TS) ⊕ (Int × Int × Int) := match r with
  | .inr e => .inr e
  | .inl w => .inl (p ++ w.1, w.2)
section
variable {σ σ0 : MS} {Q : MQ9} {E : TE} {z z' : Nat} {R : List (List (List Int))} {M : List Int}
theorem FrTb.tr {σ1 σ2 : MS} (h : FrTb σ σ1) (h' : FrTb σ1 σ2) : FrTb σ σ2 := ⟨fun q a b c d e => (h'.1 q a b c d e).trans (h.1 q a b c d e), h'.2.1.trans h.2.1, fun y k a b c d e => (h'.2.2 y k a b c d e).trans (h.2.2 y k a b c d e)⟩
theorem FrTb.rf : FrTb σ σ := ⟨fun _ _ _ _ _ _ => rfl, rfl, fun _ _ _ _ _ _ _ => rfl⟩
theorem txx_y : ∀ q ∈ TXX, q ∈ TXY ∨ (49 ≤ q ∧ q ≤ 85) ∨ (163 ≤ q ∧ q ≤ 199) := by decide
theorem FrTb.t {σ1 : MS} (h13 : mV σ 86 13 = 0) (h : FrT σ σ1) : FrTb σ σ1 := ⟨fun q a _ _ _ _ => by
  by_cases hq : q ∈ TXX
  · rcases txx_y q hq with h1 | h1 | h1
    · exact absurd h1 a
    · exact h.2.2.2.1.2 49 (Or.inr h13) (Or.inl rfl) q h1.1 (by omega)
    · exact h.2.2.2.1.2 163 (Or.inr h13) (Or.inr rfl) q h1.1 (by omega)
  · exact h.1 q hq, h.2.1, fun y k a b c _ _ => by
  by_cases hk : (y = 49 ∨ y = 163) ∧ (k = 12 ∨ k = 13)
  · rcases hk.2 with rfl | rfl
    · exact (h.2.2.2.2.2 y hk.1).2.2 h13
    · exact absurd ⟨hk.1, rfl⟩ c
  · exact h.2.2.1 y k a b hk⟩
theorem FrTb.ot {σ1 : MS} (h : FrOt σ σ1) : FrTb σ σ1 := ⟨fun q a _ _ _ _ => h.1 q (fun e => a (by
  unfold OtX at e
  simp only [List.mem_cons, List.not_mem_nil, or_false] at e
  rcases e with rfl | rfl | rfl | rfl | rfl | rfl | rfl <;> decide)), h.2.1, fun y k _ a _ _ _ => h.2.2 y k a⟩
theorem RdC.tb {s s1 : TS} {σ1 : MS} (h : RdC σ E z z' s) (f : FrTb σ σ1) (hm : s1.2.2.2.1 = s.2.2.2.1 ∧ s1.2.2.2.2.1 = s.2.2.2.2.1 ∧ s1.2.2.2.2.2.1.2.2 = s.2.2.2.2.2.1.2.2) (h0 : mV σ1 22 0 = s1.1.1) (h1 : mV σ1 22 1 = s1.1.2.1) (h13 : mV σ1 z 13 = s1.2.2.2.2.2.2) (hk : KC σ1 s1) : RdC σ1 E z z' s1 := by
  obtain ⟨-, ⟨r3, r4, r5⟩, r6, ⟨⟨m1, m2, m3⟩, ⟨m4, m5⟩, m6, m7, m8⟩, r7, r8⟩ := h
  have hz := r4.2.2.1
  have hz' := r4.2.2.2.1
  have eB : mB σ1 = mB σ := congrArg Prod.fst f.2.1
  have nz : ∀ q, q < 86 ∨ (163 ≤ q) → mX σ1 q = mX σ q := fun q a => f.1 q (by
    unfold TXY
    simp only [List.mem_cons, List.not_mem_nil, or_false]
    omega) (by omega) (by omega) (by omega) (by omega)
  have v : ∀ y k, (y = 49 ∨ y = 163) → k ≠ 13 → mV σ1 y k = mV σ y k := fun y k a b => f.2.2 y k (by omega) (by omega) (by omega) (by omega) (by omega)
  have sh : ∀ {y : Nat} {W : List (List Int)}, shR σ y W → (z ≤ y ∧ y + 3 ≤ z + 36) → shR σ1 y W := fun h a => ⟨(nz _ (by omega)).trans h.1, (nz _ (by omega)).trans h.2⟩
  refine ⟨⟨h0, h1⟩, ⟨by rw [eB]; exact r3, ⟨by rw [eB]; exact r4.1, by rw [eB]; exact r4.2.1, r4.2.2⟩, r5⟩, hk, ⟨⟨?_, ?_, ?_⟩, ⟨?_, ?_⟩, ?_, h13, (nz _ (by omega)).trans m8⟩, r7.cg hz' (fun q _ _ => nz q (by omega)) (v _ _ hz' (by decide)) (v _ _ hz' (by decide)), r8.cg (fun q _ _ => nz q (by omega))⟩
  · rw [hm.1]
    exact sh m1 (by omega)
  · rw [hm.1]
    exact sh m2 (by omega)
  · rw [hm.1]
    exact (nz _ (by omega)).trans m3
  · rw [hm.2.1]
    exact sh m4 (by omega)
  · rw [hm.2.1]
    exact (nz _ (by omega)).trans m5
  · rw [hm.2.2]
    exact (v _ _ hz (by decide)).trans m6
theorem EI.ez (h : EI E) : EI (eZ E) := ⟨h.1, h.2.1, h.2.2.1, (show (0 : Int) ≤ 0 ∧ (0 : Int) ≤ 2 by decide)⟩
theorem tbP_sn {C : List (List Int)} {L : List Int} : tbP (C ++ [L]) = tbP C + (L.length : Int) + 15 := by
  unfold tbP
  rw [suM_sn, List.length_append]
  show ((suM C + L.length : Nat) : Int) + 15 * ((C.length + 1 : Nat) : Int) = _
  omega
theorem wt_66 {at9 nx k9 t0 : Int} {a e : Nat} {X : List (Nat × Nat)} {s0 : TS} (hM4 : M.length ≤ 4000) (hMb : smB M) (hE : EI E) (hX8 : X.length ≤ 8) (hXb : TcB a e X) (he : e ≤ M.length) (ht0 : 0 ≤ t0) (hRl : R.length ≤ 4000) (hy : ∀ w σ', tcW E M X s0 = .inl w → RdC σ' E z z' w.2 → TaC σ' R w.1 → TI (tbP (R.flatten ++ w.1) + t0) 0 (tx0 w.2) → FrTb σ0 σ' → Tables_closeRow σ' (kV (thQ Q) fun σ1 => Setter_workTable_163 at9 nx k9 σ1 Q)) (hn : ∀ e σ', tcW E M X s0 = .inr e → TxF σ' e → FrTb σ0 σ' → Q (.inr (exN 0)) σ') : ∀ (r q : List (Nat × Nat)) (p : List (List Int)) (s : TS) (σ : MS), X = q ++ r → p.length = q.length → mX σ 3 = M → mX σ 158 = spQ X → RdC σ E z z' s → TaC σ R p → TI (tbP (R.flatten ++ p) + t0) 0 (tx0 s) → FrTb σ0 σ → tcW E M X s0 = tcM p (tcW E M r s) → Setter_workTable_66 at9 nx k9 ((2 * q.length : Nat) : Int) σ Q := by
  intro r
  induction r with
  | nil =>
    intro q p s σ hX hp h3 h158 hR hT hTI hf hw
    rw [List.append_nil] at hX
    have l : (mX σ 158).length = 2 * q.length := by rw [h158, spQ_l, hX]
    have lq : q.length ≤ 8 := by rw [← hX]; exact hX8
    have hw : tcW E M X s0 = .inl (p ++ [], s) := hw
    rw [List.append_nil] at hw
    exact Setter_workTable_66.i ⟨by unfold Rg; omega, fun _ => hy (p, s) σ hw hR hT hTI hf, fun h => absurd h (by omega)⟩
  | cons x r ih =>
    intro q p s σ hX hp h3 h158 hR hT hTI hf hw
    have hXl : X.length = q.length + (r.length + 1) := by rw [hX, List.length_append, List.length_cons]
    have l : (mX σ 158).length = 2 * X.length := by rw [h158, spQ_l]
    have hxm : x ∈ X := by rw [hX]; exact List.mem_append_right _ List.mem_cons_self
    have hxb := hXb x hxm
    have xq : X.getD q.length (0, 0) = x := by
      rw [hX]
      unfold List.getD
      rw [List.getElem?_append_right (Nat.le_refl _), Nat.sub_self]
      rfl
    have sa := spQ_at (X := X) (k := q.length) (by omega)
    rw [xq] at sa
    have hz := hR.2.1.2.1.2.2.1
    have hw0 := hTI.1.1
    have hw1 := hTI.1.2.1
    have hw0 : 0 ≤ s.1.1 ∧ s.1.1 ≤ 60000 := hw0
    have hw1 : 0 ≤ s.1.2.1 ∧ s.1.2.1 ≤ 400000 := hw1
    have hw : tcW E M X s0 = tcM p (match tSp 15 s with
      | .inr e => .inr e
      | .inl s9 => match wkD 30 (eZ E) false [] (sgT M x.1 x.2) (tx0 s9) with
        | .inr e => .inr e
        | .inl s1 => match tcW E M r (tx0 s1) with
          | .inr e => .inr e
          | .inl w => .inl (s1.2.1 :: w.1, w.2)) := hw
    refine Setter_workTable_66.i ⟨by unfold Rg; omega, fun h => absurd h (by omega), fun _ => ?_⟩
    refine Purse_spend.s (s := s) (by decide) hR.1.1 hR.1.2 hw0 hw1 (fun s9 e9 => ?_) (fun e1 σ1 e9 q1 q2 => hn e1 σ1 (by rw [hw, e9]; rfl) q1 (hf.tr ⟨fun q' a _ _ _ _ => q2.1 q' (fun e => a (by rw [e]; decide)) (fun e => a (by rw [e]; decide)), q2.2.1, fun y k a b _ _ _ => q2.2.2.1 y k a (fun e => b e.1)⟩))
    obtain ⟨g1, g2, g3⟩ := sp_i e9
    rw [e9] at hw
    have hw : tcW E M X s0 = tcM p (match wkD 30 (eZ E) false [] (sgT M x.1 x.2) (tx0 s9) with
        | .inr e => .inr e
        | .inl s1 => match tcW E M r (tx0 s1) with
          | .inr e => .inr e
          | .inl w => .inl (s1.2.1 :: w.1, w.2)) := hw
    have f1 : FrTb σ (wV (wV σ 22 0 (s.1.1 + 15)) 22 1 (s.1.2.1 + 15)) := ⟨fun _ _ _ _ _ _ => rfl, rfl, fun y k a _ _ _ _ => (wV_ne (Or.inl a)).trans (wV_ne (Or.inl a))⟩
    have r1 : RdC (wV (wV σ 22 0 (s.1.1 + 15)) 22 1 (s.1.2.1 + 15)) E z z' s9 := by
      rw [g1]
      exact RdC.g (w := (s.1.1 + 15, s.1.2.1 + 15)) hR (fun _ _ => rfl) rfl (fun y k hy => (wV_ne (Or.inl (by omega))).trans (wV_ne (Or.inl (by omega)))) ((wV_ne (Or.inr (by decide))).trans wV_self) wV_self
    have ti9 : TI (tbP (R.flatten ++ p) + t0 + 15) 0 (tx0 s9) := by
      have e2 : tSp 15 (tx0 s) = .inl (tx0 s9) := by
        unfold tSp
        rw [if_neg (by
          show ¬ (60000 < s.1.1 + 15 ∨ 400000 < s.1.2.1 + 15)
          omega), g1]
        rfl
      have := hTI.sp (by decide) e2
      exact this.mo (Int.le_refl _) (by decide)
    have x1 : ∀ q', mX (wV (wV σ 22 0 (s.1.1 + 15)) 22 1 (s.1.2.1 + 15)) q' = mX σ q' := fun _ => rfl
    have tv1 : TaC (wV (wV σ 22 0 (s.1.1 + 15)) 22 1 (s.1.2.1 + 15)) R p := hT.cg (fun _ _ => rfl) (fun y k hy => (wV_ne (Or.inl (by omega))).trans (wV_ne (Or.inl (by omega))))
    show Texts_openText 0 (wV (wV σ 22 0 (s.1.1 + 15)) 22 1 (s.1.2.1 + 15)) _
    generalize wV (wV σ 22 0 (s.1.1 + 15)) 22 1 (s.1.2.1 + 15) = σ1 at f1 r1 x1 tv1
    refine (Texts_openText.c (E := eZ E) (r1.al (al := 0)) ti9.1.1.1 (show Rg 0 by decide) (fun σ2 f2 hc2 => ?_) : Texts_openText (eZ E).2.2.2 σ1 _)
    have y158 : mX σ2 158 = spQ X := (f2.1 158 (by decide)).trans ((x1 158).trans h158)
    have y3 : mX σ2 3 = M := (f2.1 3 (by decide)).trans ((x1 3).trans h3)
    show Rg ((2 * q.length : Nat) : Int) ∧ Rg (((2 * q.length : Nat) : Int) + 1) ∧ Texts_work 240 3 (rgt (mX σ2 158) ((2 * q.length : Nat) : Int)) (rgt (mX σ2 158) (((2 * q.length : Nat) : Int) + 1)) 0 σ2 _
    refine ⟨by unfold Rg; omega, by unfold Rg; omega, ?_⟩
    rw [y158, rgt_n (by rw [spQ_l]; omega), sa.1, show ((2 * q.length : Nat) : Int) + 1 = ((2 * q.length + 1 : Nat) : Int) by omega, rgt_n (by rw [spQ_l]; omega), sa.2]
    have lT : (sgT M x.1 x.2).length = x.2 - x.1 := sgT_l (by omega)
    rw [show ((x.2 : Nat) : Int) = ((x.1 + (sgT M x.1 x.2).length : Nat) : Int) by omega]
    have hSg : SgT σ2 3 x.1 (sgT M x.1 x.2) := ⟨by decide, by decide, by omega, fun t ht => by
      rw [y3, show ((x.1 : Nat) : Int) + (t : Int) = ((x.1 + t : Nat) : Int) by omega, rgt_n (by omega)]
      unfold sgT
      exact (sgT_at (by omega)).symm⟩
    have h13 : mV σ2 86 13 = 0 := hc2.1.2.2.1.1.2.1
    have f02 : FrTb σ0 σ2 := (hf.tr f1).tr (FrTb.ot f2)
    refine Texts_work.c (D := 30) (dep := 0) hE.ez (is_c hE.ez 30 (by decide)) (by decide) (by decide) hSg hMb.sg hc2 (ti9.mo (by have : 0 ≤ tbP (R.flatten ++ p) := (by unfold tbP; omega); omega) (Int.le_refl 0)) ⟨fun s1 σ4 w4 d4 => ?_, fun e1 σ4 w4 q4 f4 => hn e1 σ4 (by rw [hw, w4]; rfl) q4 (f02.tr (FrTb.t h13 f4))⟩
    obtain ⟨f4, R4, c4, -⟩ := d4
    rw [w4] at hw
    have hw : tcW E M X s0 = tcM p (match tcW E M r (tx0 s1) with
          | .inr e => .inr e
          | .inl w => .inl (s1.2.1 :: w.1, w.2)) := hw
    have zm := zm_wk (E := eZ E) (show (0 : Int) < 1 by decide) s1 w4
    have ti1 := wkD_ti hE.ez (by have : 0 ≤ tbP (R.flatten ++ p) := (by unfold tbP; omega); omega) (Int.le_refl 0) ti9 (fun w hw => absurd hw List.not_mem_nil) hMb.sg w4
    have f24 : FrTb σ1 σ4 := (FrTb.ot f2).tr (FrTb.t h13 f4)
    have hU4 : mX σ4 87 = pkL s1.2.1 := by
      rw [c4.2.1.1.1, (c4.2.1.2.2.2.2 rfl).1]
      rfl
    have zn3 : s1.2.2.2.2.2.1.2.2 = s9.2.2.2.2.2.1.2.2 := by
      rw [zm.2.2]
      rfl
    have r4 : RdC σ4 E z z' (tx0 s1) := r1.tb f24 ⟨zm.1, zm.2.1, zn3⟩ c4.1.1 c4.1.2.1 c4.2.2.1.2.2.2.1.1 c4.2.2.1.2.2.1
    have tv4 : TaC σ4 R p := tv1.cg (fun q' h => (f4.1 q' (by rcases h with rfl | rfl | rfl <;> decide)).trans (f2.1 q' (by rcases h with rfl | rfl | rfl <;> decide))) (fun y k h => (f4.2.2.1 y k (by omega) (by omega) (by omega)).trans (f2.2.2 y k (by omega)))
    have t7 : ((suM s1.2.2.2.2.1.1 : Nat) : Int) + ((suM s1.2.2.2.2.2.1.1 : Nat) : Int) + (s1.2.1.length : Int) + (tbP (R.flatten ++ p) + t0 + 15) ≤ s1.1.1 + 100 := ti1.2.2.2.2.2.2
    have t11 : 0 ≤ s1.1.1 ∧ s1.1.1 ≤ 60000 := ti1.1.1
    have eP : tbP (R.flatten ++ p) = ((suM (R.flatten ++ p) : Nat) : Int) + 15 * ((R.flatten.length + p.length : Nat) : Int) := by
      unfold tbP
      rw [List.length_append]
    show Tables_takeCell 87 σ4 (kV (thQ Q) fun σ5 => Setter_workTable_66 at9 nx k9 (((2 * q.length : Nat) : Int) + 2) σ5 Q)
    refine Tables_takeCell.c tv4 (by omega) hU4 (by omega) (by omega) hRl (fun σ5 t5 x5 s5 v5 => ?_)
    show Setter_workTable_66 at9 nx k9 (((2 * q.length : Nat) : Int) + 2) σ5 Q
    have r5 : RdC σ5 E z z' (tx0 s1) := RdC.g (w := (s1.1.1, s1.1.2.1)) r4 (fun q' h => x5 q' (by omega) (by omega)) s5 (fun y k hy => v5 y k (by omega) (by omega)) ((v5 _ _ (by decide) (by decide)).trans r4.1.1) ((v5 _ _ (by decide) (by decide)).trans r4.1.2)
    have f05 : FrTb σ0 σ5 := (f02.tr (FrTb.t h13 f4)).tr ⟨fun q' _ a b _ _ => x5 q' a b, s5, fun y k _ _ _ a b => v5 y k a b⟩
    have := ih (q ++ [x]) (p ++ [s1.2.1]) (tx0 s1) σ5 (by rw [List.append_assoc]; exact hX) (by rw [List.length_append, List.length_append, hp]; rfl) ((x5 3 (by decide) (by decide)).trans ((f4.1 3 (by decide)).trans y3)) ((x5 158 (by decide) (by decide)).trans ((f4.1 158 (by decide)).trans y158)) r5 t5 ?_ f05 ?_
    · rw [List.length_append, show ((2 * (q.length + [x].length) : Nat) : Int) = ((2 * q.length : Nat) : Int) + 2 by
        show ((2 * (q.length + 1) : Nat) : Int) = _
        omega] at this
      exact this
    · obtain ⟨a1, a2, a3, a4, a5, a6, a7⟩ := ti1
      refine ⟨⟨a1.1, a1.2.1, (show (0 : Int) ≤ 0 ∧ (0 : Int) ≤ 3 by decide), okK.nil⟩, a2, a3, a4, ?_, a6, ?_⟩
      · have : ((([] : List (List Int)).length : Nat) : Int) ≤ s1.2.2.2.2.2.1.2.2 := by
          have := a5.2.1
          show (0 : Int) ≤ _
          omega
        exact ⟨rfl, this, a5.2.2.1, fun w hw => absurd hw List.not_mem_nil⟩
      · show ((suM s1.2.2.2.2.1.1 : Nat) : Int) + ((suM ([] : List (List Int)) : Nat) : Int) + (([] : List Int).length : Int) + (tbP (R.flatten ++ (p ++ [s1.2.1])) + t0) ≤ s1.1.1 + 100
        rw [← List.append_assoc, tbP_sn]
        have e1 : suM ([] : List (List Int)) = 0 := rfl
        have e2 : ([] : List Int).length = 0 := rfl
        rw [e1, e2]
        omega
    · rw [hw]
      cases e5 : tcW E M r (tx0 s1) with
      | inr e1 => rfl
      | inl w =>
        show Sum.inl (p ++ (s1.2.1 :: w.1), w.2) = Sum.inl (p ++ [s1.2.1] ++ w.1, w.2)
        rw [List.append_assoc]
        rfl
end
