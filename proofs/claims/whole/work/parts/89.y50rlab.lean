/-! THE REFERENCE WORKS TEXTS: labels, keys -/
section
variable {σ σ0 σ1 σ2 : MS} {Q : MQ9} {g kt u c D nw n0 l0 k0 : Nat} {a : Bool} {E : TE} {O : List Int} {X : RY9} {s s1 s2 : TS} {A L P K : List Int} {x y p : Int} {m m' : TM}
theorem R_label.r {j : Nat} (hb9 : 0 < E.2.2.2) (hE : EI E) (hRE : RxE σ E X.1) (hj : j < 400) (hA : ArG σ j kt A) (hok : okK A) (hK : keyD A = true) (hS : RxS X 0 kt c D false E O σ s) (hi : TI p 0 s) (hp : ((kt : Nat) : Int) ≤ p)
    (hq : UOk Q X 0 kt c D false E O σ (if ixW s.2.2.2.1.1 0 (ms7 A) = -1 then (if 60 ≤ s.2.2.2.1.1.length then tFl 9 s else .inl (sLb s (s.2.2.2.1.1 ++ [ms7 A]) (s.2.2.2.1.2.1 ++ [E.2.2.1]) (s.2.2.2.1.2.2 ++ [lsP (pkL s.2.1)]))) else tFl 10 s)) : R_label (j : Int) σ Q := by
  have hB : BdR 0 kt s := hi.bd (by omega)
  obtain ⟨u, e1, e2, e3, hG⟩ := hA
  obtain ⟨⟨a1, a2, hy, a4⟩, -, ⟨L1, L2, L3, L4, L5⟩, ⟨K1, K2, -⟩, ⟨N1, N2, N3, N4⟩, -, hsum⟩ := id hi
  obtain ⟨r1, r2, ⟨m1, m2, m3, m4, m5, m6⟩, r4⟩ := id hS
  obtain ⟨⟨x1, x2⟩, -, -, -, x34⟩ := id hRE
  obtain ⟨x3, x4⟩ := x34 hb9
  obtain ⟨-, -, ⟨y1, y2⟩, -⟩ := hE
  obtain ⟨d1, d2, d3⟩ := m2 hb9
  have d1 : mV σ 285 X.1 = (s.2.2.2.1.1.length : Int) := d1
  have hu : u + A.length ≤ 60100 := by omega
  have hout : s.2.1.length ≤ 60100 := by
    have := hB.2.2
    omega
  have k12 := keyD_i hK
  have lA := ms7_len (L := A)
  have ej : ((j : Nat) : Int).toNat = j := rfl
  have eX : ((X.1 : Nat) : Int).toNat = X.1 := rfl
  refine R_label.i ⟨by omega, by omega, by omega, by omega, by omega, by omega, ?_⟩
  rw [ej, e1, e2, x2]
  refine R_labelOf.r (b := X.1) (N := s.2.2.2.1.1) rfl (by omega) x1 d1 d2 L3 L4 hG hu hK hok ?_
  rcases ixW_b s.2.2.2.1.1 0 (ms7 A) with hx | hx
  · rw [if_pos hx] at hq ⊢
    refine ⟨fun _ => ⟨by rw [x2]; omega, by rw [x2]; omega, fun h9 => ?_, fun h9 => ?_⟩, fun h9 => absurd h9 (by decide)⟩
    · rw [x2, eX, d1] at h9 ⊢
      have h60 : ¬ 60 ≤ s.2.2.2.1.1.length := by omega
      rw [if_neg h60] at hq
      have el : 60 * (X.1 : Int) + (s.2.2.2.1.1.length : Int) = ((60 * X.1 + s.2.2.2.1.1.length : Nat) : Int) := by omega
      rw [el, Int.toNat_natCast, show ((u + A.length : Nat) : Int) - (u : Int) = (A.length : Int) by omega]
      refine ⟨by omega, by omega, by omega, by omega, by unfold Rg; omega, ?_⟩
      generalize hl : 60 * X.1 + s.2.2.2.1.1.length = l
      generalize hσ3 : wV σ 280 l (A.length : Int) = σ3
      have f3 : FrZ [279, 280, 281, 282] [] σ σ3 := by rw [← hσ3]; exact FrZ.wz (by decide)
      have u3 : FrU 0 kt c X.1 σ σ3 := by rw [← hσ3]; exact FrU.wz (by decide) (Nat.zero_le _) (Or.inr (by show l / 60 = X.1; omega))
      refine loopF (P := fun i σ' => R_label_88 (j : Int) (A.length : Int) (l : Int) i σ' Q) (z := 279) (a := 12 * l) (n := A.length) (f := fun i => (ms7 A).getD i 0) (fun i hi k9 => ?_) ?_
      · have t1 : mV (wF σ3 279 (12 * l) (ofF (fun i => (ms7 A).getD i 0) i)) 261 j = (u : Int) := by
          rw [wF_ne (Or.inl (by decide)), f3.z (by decide) (by decide)]
          exact e1
        have t2 : mV (wF σ3 279 (12 * l) (ofF (fun i => (ms7 A).getD i 0) i)) 257 (u + i) = (ms7 A).getD i 0 := by
          rw [wF_ne (Or.inl (by decide)), f3.z (by decide) (by decide)]
          exact hG.key hK hok hi
        refine R_label_88.i ⟨by unfold Rg; omega, by unfold Rg; omega, fun h9 => absurd h9 (by omega), fun _ => ?_⟩
        rw [ej, t1, show ((u : Int) + (i : Int)).toNat = u + i by omega, t2, show (12 * (l : Int) + (i : Int)).toNat = 12 * l + i by omega, ms7_sm.at (by omega)]
        exact ⟨by omega, by omega, by omega, by omega, by omega, by omega, k9⟩
      · rw [show ofF (fun i => (ms7 A).getD i 0) A.length = ms7 A by rw [← lA, ofF_list]]
        generalize hσ4 : wF σ3 279 (12 * l) (ms7 A) = σ4
        have f4 : FrZ [279, 280, 281, 282] [] σ σ4 := by
          rw [← hσ4]
          exact f3.tr (FrZ.wF (by decide))
        have u4 : FrU 0 kt c X.1 σ σ4 := by
          rw [← hσ4]
          exact u3.tr (FrA.wF (fun k k1 k2 => Or.inr ⟨by decide, Nat.zero_le _, Or.inr (by show k / 720 = X.1; omega)⟩))
        have v84 : mV σ4 246 84 = (E.2.2.1.length : Int) := by
          rw [f4.f (by decide) (by decide)]
          exact x3
        refine R_label_88.i ⟨by unfold Rg; omega, by unfold Rg; omega, fun _ => ⟨by omega, by omega, ?_⟩, fun h9 => absurd h9 (by omega)⟩
        rw [Int.toNat_natCast, v84]
        generalize hσ5 : wV σ4 282 l (E.2.2.1.length : Int) = σ5
        have f5 : FrZ [279, 280, 281, 282] [] σ σ5 := by rw [← hσ5]; exact f4.tr (FrZ.wz (by decide))
        have u5 : FrU 0 kt c X.1 σ σ5 := by rw [← hσ5]; exact u4.tr (FrU.wz (by decide) (Nat.zero_le _) (Or.inr (by show l / 60 = X.1; omega)))
        refine loopF (P := fun i σ' => R_label_139 (l : Int) i σ' Q) (z := 281) (a := 32 * l) (n := E.2.2.1.length) (f := fun i => E.2.2.1.getD i 0) (fun i hi k9 => ?_) ?_
        · have t1 : mV (wF σ5 281 (32 * l) (ofF (fun i => E.2.2.1.getD i 0) i)) 246 84 = (E.2.2.1.length : Int) := by
            rw [wF_ne (Or.inl (by decide)), f5.f (by decide) (by decide)]
            exact x3
          have t2 : mV (wF σ5 281 (32 * l) (ofF (fun i => E.2.2.1.getD i 0) i)) 300 i = E.2.2.1.getD i 0 := by
            rw [wF_ne (Or.inl (by decide)), f5.z (by decide) (by decide)]
            exact x4 i hi
          refine R_label_139.i ⟨by unfold Rg; omega, fun h9 => absurd h9 (by rw [t1]; omega), fun _ => ?_⟩
          rw [Int.toNat_natCast, t2, show (32 * (l : Int) + (i : Int)).toNat = 32 * l + i by omega, y2.at hi]
          exact ⟨by omega, by omega, by omega, by omega, k9⟩
        · rw [ofF_list]
          generalize hσ6 : wF σ5 281 (32 * l) E.2.2.1 = σ6
          have f6 : FrZ [279, 280, 281, 282] [] σ σ6 := by
            rw [← hσ6]
            exact f5.tr (FrZ.wF (by decide))
          have u6 : FrU 0 kt c X.1 σ σ6 := by
            rw [← hσ6]
            exact u5.tr (FrA.wF (fun k k1 k2 => Or.inr ⟨by decide, Nat.zero_le _, Or.inr (by show k / 1920 = X.1; omega)⟩))
          have v84' : mV σ6 246 84 = (E.2.2.1.length : Int) := by
            rw [f6.f (by decide) (by decide)]
            exact x3
          have v59 : mV σ6 246 59 = (X.1 : Int) := by
            rw [f6.f (by decide) (by decide)]
            exact x2
          have v285 : mV σ6 285 X.1 = (s.2.2.2.1.1.length : Int) := by
            rw [f6.z (by decide) (by decide)]
            exact d1
          have b6 := lsP_b s.2.1
          refine R_label_139.i ⟨by unfold Rg; omega, fun _ => ⟨by rw [v59]; omega, by rw [v59]; omega, ?_⟩, fun h9 => absurd h9 (by rw [v84']; omega)⟩
          refine R_latest.r (s := s) (r2.z f6 (by decide) (by decide)) a4 hout ?_
          show R_waits 1 (mV σ6 285 ((mV σ6 246 59).toNat)) (lsP s.2.1) σ6 _
          rw [v59, eX, v285]
          refine R_waits.r (P := s.2.1) (m := s.2.2) ((m6 hb9).z f6 (by decide) (by decide)) (by show s.2.2.2.2.2.1.2.1.length + s.2.2.2.1.2.2.length + s.2.2.2.2.1.2.length < 300; omega) (by decide) (by unfold Rg; omega) (by unfold Rg; omega) (fun σ7 f7 w7 => ?_)
          have v59' : mV σ7 246 59 = (X.1 : Int) := by
            rw [f7.f (by decide) (by decide)]
            exact v59
          have v285' : mV σ7 285 X.1 = (s.2.2.2.1.1.length : Int) := by
            rw [f7.z (by decide) (by decide)]
            exact v285
          show 0 ≤ mV σ7 246 59 ∧ mV σ7 246 59 < 2 ∧ 0 ≤ mV σ7 246 59 ∧ mV σ7 246 59 < 2 ∧ Rg (mV σ7 285 ((mV σ7 246 59).toNat) + 1) ∧ Q (.inl none) (wV σ7 285 ((mV σ7 246 59).toNat) (mV σ7 285 ((mV σ7 246 59).toNat) + 1))
          rw [v59', eX, v285']
          refine ⟨by omega, by omega, by omega, by omega, by unfold Rg; omega, ?_⟩
          have f8 : FrZ [279, 280, 281, 282, 285, 305, 306, 307] [94] σ (wV σ7 285 X.1 ((s.2.2.2.1.1.length : Int) + 1)) := ((f6.mo (by decide) (by decide)).tr (f7.mo (by decide) (by decide))).tr (FrZ.wz (by decide))
          have u8 : FrU 0 kt c X.1 σ (wV σ7 285 X.1 ((s.2.2.2.1.1.length : Int) + 1)) := (u6.tr (f7.uu (by decide) (by decide))).tr (FrU.wz (by decide) (Nat.zero_le _) (Or.inr (by show X.1 / 1 = X.1; omega)))
          refine hq.1 _ _ rfl ⟨r1.z f8 (by decide) (by decide), r2.z f8 (by decide) (by decide), ⟨m1.z f8 (by decide) (by decide), fun _ => ⟨?_, ?_, ?_⟩, fun b9 => (m3 b9).z f8 (by decide) (by decide), fun b9 => (m4 b9).z f8 (by decide) (by decide), ⟨(f8.f (by decide) (by decide)).trans m5.1, m5.2⟩, fun _ => ?_⟩, r4.z f8 (by decide) (by decide)⟩ u8
          · rw [wV_self]
            show (s.2.2.2.1.1.length : Int) + 1 = ((s.2.2.2.1.1 ++ [ms7 A]).length : Int)
            rw [List.length_append, List.length_singleton]
            omega
          · refine nmS.sn d2 (fun i hi => (L4.at i).1) ?_ (fun i hi => ?_) (fun k hk => ?_) (fun k hk => ?_)
            · show mV _ 280 (60 * X.1 + s.2.2.2.1.1.length) = _
              rw [hl, wV_ne (Or.inl (by decide)), f7.z (by decide) (by decide), ← hσ6, wF_ne (Or.inl (by decide)), ← hσ5, wV_ne (Or.inl (by decide)), ← hσ4, wF_ne (Or.inl (by decide)), ← hσ3, wV_self, lA]
            · show mV _ 279 (12 * (60 * X.1 + s.2.2.2.1.1.length) + i) = _
              rw [hl, wV_ne (Or.inl (by decide)), f7.z (by decide) (by decide), ← hσ6, wF_ne (Or.inl (by decide)), ← hσ5, wV_ne (Or.inl (by decide)), ← hσ4, wF_at hi]
            · have hk : k < 12 * (60 * X.1 + s.2.2.2.1.1.length) := hk
              rw [hl] at hk
              rw [wV_ne (Or.inl (by decide)), f7.z (by decide) (by decide), ← hσ6, wF_ne (Or.inl (by decide)), ← hσ5, wV_ne (Or.inl (by decide)), ← hσ4, wF_ne (Or.inr (Or.inl hk)), ← hσ3, wV_ne (Or.inl (by decide))]
            · have hk : k < 60 * X.1 + s.2.2.2.1.1.length := hk
              rw [hl] at hk
              rw [wV_ne (Or.inl (by decide)), f7.z (by decide) (by decide), ← hσ6, wF_ne (Or.inl (by decide)), ← hσ5, wV_ne (Or.inl (by decide)), ← hσ4, wF_ne (Or.inl (by decide)), ← hσ3, wV_ne (Or.inr (by omega))]
          · have L1' : s.2.2.2.1.2.1.length = s.2.2.2.1.1.length := L1
            refine nmS.sn d3 (fun i hi => (L5.at i).1) ?_ (fun i hi => ?_) (fun k hk => ?_) (fun k hk => ?_)
            · show mV _ 282 (60 * X.1 + s.2.2.2.1.2.1.length) = _
              rw [L1', hl, wV_ne (Or.inl (by decide)), f7.z (by decide) (by decide), ← hσ6, wF_ne (Or.inl (by decide)), ← hσ5, wV_self]
            · show mV _ 281 (32 * (60 * X.1 + s.2.2.2.1.2.1.length) + i) = _
              rw [L1', hl, wV_ne (Or.inl (by decide)), f7.z (by decide) (by decide), ← hσ6, wF_at hi]
            · have hk : k < 32 * (60 * X.1 + s.2.2.2.1.2.1.length) := hk
              rw [L1', hl] at hk
              rw [wV_ne (Or.inl (by decide)), f7.z (by decide) (by decide), ← hσ6, wF_ne (Or.inr (Or.inl hk)), ← hσ5, wV_ne (Or.inl (by decide)), ← hσ4, wF_ne (Or.inl (by decide)), ← hσ3, wV_ne (Or.inl (by decide))]
            · have hk : k < 60 * X.1 + s.2.2.2.1.2.1.length := hk
              rw [L1', hl] at hk
              rw [wV_ne (Or.inl (by decide)), f7.z (by decide) (by decide), ← hσ6, wF_ne (Or.inl (by decide)), ← hσ5, wV_ne (Or.inr (by omega)), ← hσ4, wF_ne (Or.inl (by decide)), ← hσ3, wV_ne (Or.inl (by decide))]
          · have w9 := w7 (s.2.2.1, (s.2.2.2.1.1 ++ [ms7 A], s.2.2.2.1.2.1 ++ [E.2.2.1], s.2.2.2.1.2.2 ++ [lsP (pkL s.2.1)]), s.2.2.2.2) (fun W hW => hW.wl (v := lsP (pkL s.2.1)) (by show (s.2.2.2.1.1.length : Int) = ((s.2.2.2.1.2.2.length : Nat) : Int); omega) b6 (fun h0 => lsP_n h0) (ls_pk _ s.2.1 rfl).symm ⟨rfl, rfl, rfl⟩)
            exact w9.z (FrZ.wz (S := [285]) (K := []) (by decide)) (by decide) (by decide)
    · rw [x2, eX, d1] at h9
      rw [if_pos (by omega)] at hq
      exact R_fail.r (by decide) r1 (hS.fl (by decide) hB hq)
  · have hx0 : ¬ ixW s.2.2.2.1.1 0 (ms7 A) = -1 := by omega
    rw [if_neg hx0] at hq ⊢
    refine ⟨fun h9 => absurd h9 (by omega), fun _ => R_fail.r (by decide) r1 (hS.fl (by decide) hB hq)⟩
end
