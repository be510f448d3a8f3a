/-! FEED, BACK: both answer alike, and agree again -/
theorem feed_b {σ : MS} {Q : MQ9} {th th' : String → MS → Prop} {x y z : Int} (h : MemR σ) (hq : ∀ r σ', MemR σ' → FrM σ σ' → Q (.inl (some r)) σ') : T_feed x y z σ (kI th fun r σ1 => R_feed x y z σ1 (kI th' fun r' σ2 => r' = r ∧ Q (.inl (some r)) σ2)) := by
  obtain ⟨⟨p1, p2, p3, p4⟩, ⟨m1, m2, m3, m4⟩, ⟨t, c, hP⟩, e1, e2, e3⟩ := h
  refine T_feed.s p3 ?_
  have hl := fdB_len (x := z) (j := 8) (fdB_len (x := y) (j := 8) (fdB_len (x := x) (j := 8) p3))
  have hs := fdB_sm (x := z) (j := 8) (fdB_sm (x := y) (j := 8) (fdB_sm (x := x) (j := 8) p4))
  show R_feed x y z (wX σ 1 (fdB z 8 (fdB y 8 (fdB x 8 (mX σ 1))))) _
  refine R_feed.s (T := mX σ 1) p1 p2 p3 ?_
  generalize fdB z 8 (fdB y 8 (fdB x 8 (mX σ 1))) = F at hl hs ⊢
  refine ⟨rfl, hq _ _ ?_ ?_⟩
  · have n0 : ∀ {z k : Nat}, (z ≠ 246 ∨ (k ≠ 0 ∧ k ≠ 6)) → z ≠ 247 → mV (tpS (wV (wX σ 1 F) 246 0 0) F) z k = mV σ z k := by
      intro z k h1 h2
      rw [tpS_ne (by omega) (Or.inl h2), wV_ne (by omega)]
      rfl
    have gX : ∀ q, mX (tpS (wV (wX σ 1 F) 246 0 0) F) q = mX (wX σ 1 F) q := fun q => rfl
    refine ⟨⟨?_, ?_, ?_, ?_⟩, ⟨?_, ?_, ?_, ?_⟩, ⟨t, c, PaR.cg hP (fun j hj => ?_) (fun k => ?_) (fun k => ?_) ?_ ?_ ?_⟩, ?_, ?_, ?_⟩
    · rw [gX, wX_self]; exact tpS_n
    · rw [gX, wX_self]; exact fun i hi => tpS_at hi
    · rw [gX, wX_self]; exact hl
    · rw [gX, wX_self]; exact hs
    · rw [gX, wX_ne (by decide), n0 (by omega) (by decide)]; exact m1
    · rw [gX, wX_ne (by decide)]; exact fun i hi => by rw [n0 (Or.inl (by decide)) (by decide)]; exact m2 i hi
    · rw [gX, wX_ne (by decide)]; exact m3
    · rw [gX, wX_ne (by decide)]; exact m4
    · rw [gX, wX_ne (by omega)]
    · exact n0 (Or.inl (by decide)) (by decide)
    · exact n0 (Or.inl (by decide)) (by decide)
    · exact n0 (by omega) (by decide)
    · exact n0 (Or.inl (by decide)) (by decide)
    · exact n0 (Or.inl (by decide)) (by decide)
    · rw [n0 (Or.inl (by decide)) (by decide), n0 (by omega) (by decide)]; exact e1
    · rw [n0 (Or.inl (by decide)) (by decide)]; exact e2
    · rw [n0 (Or.inl (by decide)) (by decide)]; exact e3
  · exact (FrM.X (by decide)).tr ((FrM.r (by decide)).tr ((FrM.F (by decide)).tr (FrM.r (by decide))))
theorem back_b {σ : MS} {Q : MQ9} {th th' : String → MS → Prop} (h : MemR σ) (hq : ∀ r σ', MemR σ' → FrM σ σ' → Q (.inl (some r)) σ') : T_back σ (kI th fun r σ1 => R_back σ1 (kI th' fun r' σ2 => r' = r ∧ Q (.inl (some r)) σ2)) := by
  obtain ⟨⟨p1, p2, p3, p4⟩, ⟨m1, m2, m3, m4⟩, ⟨t, c, hP⟩, e1, e2, e3⟩ := h
  have hP0 := hP
  obtain ⟨ht, hc, q6, q5, q8, hF⟩ := hP
  refine T_back.s hP0 (fun c0 => ?_) (fun c0 => ?_)
  · show R_back σ _
    refine R_back.s (M := []) hc q8 (fun _ => ⟨rfl, hq _ _ ?_ (FrM.r (by decide))⟩) (fun c1 => absurd c1 (by omega))
    have n0 : ∀ {z k : Nat}, (z ≠ 246 ∨ k ≠ 0) → mV (wV σ 246 0 0) z k = mV σ z k := fun h => wV_ne h
    refine ⟨⟨?_, ?_, p3, p4⟩, ⟨?_, ?_, m3, m4⟩, ⟨t, c, PaR.cg hP0 (fun j hj => rfl) (fun k => n0 (Or.inl (by decide))) (fun k => n0 (Or.inl (by decide))) (n0 (Or.inr (by decide))) (n0 (Or.inl (by decide))) (n0 (Or.inl (by decide)))⟩, ?_, ?_, ?_⟩
    · rw [n0 (Or.inr (by decide))]; exact p1
    · exact hol.V p2 (by decide)
    · rw [n0 (Or.inr (by decide))]; exact m1
    · exact hol.V m2 (by decide)
    · rw [n0 (Or.inl (by decide)), n0 (Or.inr (by decide))]; exact e1
    · rw [n0 (Or.inl (by decide))]; exact e2
    · rw [n0 (Or.inl (by decide))]; exact e3
  · have hm : (t + 5) % 6 < 6 := Nat.mod_lt _ (by decide)
    obtain ⟨a1, a2, a3, a4⟩ := hF (c - 1) (by omega)
    have ei : fI t c (c - 1) = 10 + 2 * ((t + 5) % 6) := by
      unfold fI
      rw [show t + 6 - c + (c - 1) = t + 5 by omega]
    rw [ei] at a1 a2 a3 a4
    show R_back (wX (wV (wV σ 0 6 (((t + 5) % 6 : Nat) : Int)) 0 5 ((c : Int) - 1)) 3 (mX σ (10 + 2 * ((t + 5) % 6)))) _
    generalize mX σ (10 + 2 * ((t + 5) % 6)) = M at a1 a2 a3 a4 ⊢
    generalize es : wX (wV (wV σ 0 6 (((t + 5) % 6 : Nat) : Int)) 0 5 ((c : Int) - 1)) 3 M = σ1
    have eV : ∀ {z k : Nat}, z ≠ 0 → mV σ1 z k = mV σ z k := fun {z k} hz => by
      rw [← es]
      show mV (wV (wV σ 0 6 _) 0 5 _) z k = _
      rw [wV_ne (Or.inl hz), wV_ne (Or.inl hz)]
    have v6 : mV σ1 0 6 = (((t + 5) % 6 : Nat) : Int) := by
      rw [← es]
      show mV (wV (wV σ 0 6 _) 0 5 _) 0 6 = _
      rw [wV_ne (Or.inr (by decide)), wV_self]
    have v5 : mV σ1 0 5 = (c : Int) - 1 := by
      rw [← es]
      show mV (wV (wV σ 0 6 _) 0 5 _) 0 5 = _
      rw [wV_self]
    have x3 : mX σ1 3 = M := by rw [← es]; exact wX_self
    have xq : ∀ q, q ≠ 3 → mX σ1 q = mX σ q := fun q hq => by rw [← es]; exact wX_ne hq
    have f1 : FrM σ σ1 := by rw [← es]; exact (FrM.V (Or.inr (Or.inl ⟨rfl, Or.inr rfl⟩))).tr ((FrM.V (Or.inr (Or.inl ⟨rfl, Or.inl rfl⟩))).tr (FrM.X (by decide)))
    refine R_back.s (M := M) hc ((eV (by decide)).trans q8) (fun c1 => absurd c1 (by omega)) (fun _ => ⟨(eV (by decide)).trans a3, fun i hi => (eV (by decide)).trans (a4 i hi), a1, a2, rfl, hq _ _ ?_ ?_⟩)
    · have n0 : ∀ {z k : Nat}, z ≠ 248 → (z ≠ 246 ∨ (k ≠ 0 ∧ k ≠ 7 ∧ k ≠ 8)) → mV (wF (wV (wV (wV σ1 246 0 0) 246 8 ((c : Int) - 1)) 246 7 (M.length : Int)) 248 0 M) z k = mV σ1 z k := by
        intro z k h1 h2
        rw [wF_ne (Or.inl h1), wV_ne (by omega), wV_ne (by omega), wV_ne (by omega)]
      have gX : ∀ q, mX (wF (wV (wV (wV σ1 246 0 0) 246 8 ((c : Int) - 1)) 246 7 (M.length : Int)) 248 0 M) q = mX σ1 q := fun q => rfl
      refine ⟨⟨?_, ?_, ?_, ?_⟩, ⟨?_, ?_, ?_, ?_⟩, ⟨(t + 5) % 6, c - 1, hm, by omega, ?_, ?_, ?_, FoR.back ht hc hF (fun j hj => ?_) (fun k => ?_) (fun k => ?_)⟩, ?_, ?_, ?_⟩
      · rw [gX, xq _ (by decide), n0 (by decide) (by omega), eV (by decide)]; exact p1
      · rw [gX, xq _ (by decide)]; exact fun i hi => by rw [n0 (by decide) (Or.inl (by decide)), eV (by decide)]; exact p2 i hi
      · rw [gX, xq _ (by decide)]; exact p3
      · rw [gX, xq _ (by decide)]; exact p4
      · rw [gX, x3, wF_ne (Or.inl (by decide)), wV_self]
      · rw [gX, x3]; exact hol.F
      · rw [gX, x3]; exact a1
      · rw [gX, x3]; exact a2
      · rw [n0 (by decide) (Or.inl (by decide)), v6]
      · rw [n0 (by decide) (Or.inl (by decide)), v5]; omega
      · rw [wF_ne (Or.inl (by decide)), wV_ne (Or.inr (by decide)), wV_self]; omega
      · rw [gX, xq _ (by omega)]
      · rw [n0 (by decide) (Or.inl (by decide)), eV (by decide)]
      · rw [n0 (by decide) (Or.inl (by decide)), eV (by decide)]
      · rw [n0 (by decide) (Or.inl (by decide)), n0 (by decide) (by omega), eV (by decide), eV (by decide)]; exact e1
      · rw [n0 (by decide) (Or.inl (by decide)), eV (by decide)]; exact e2
      · rw [n0 (by decide) (Or.inl (by decide)), eV (by decide)]; exact e3
    · exact f1.tr ((FrM.r (by decide)).tr ((FrM.r (by decide)).tr ((FrM.r (by decide)).tr (FrM.F (by decide)))))
