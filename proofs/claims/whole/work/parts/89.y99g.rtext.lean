/-! THE TEXT OF A PARAGRAPH OR AN ITEM: the reference, behind its lines -/
def TaS : List Nat := [314, 284, 297, 317, 318, 320, 321] ++ NlS
def TaK : List Nat := [28, 32, 33, 98, 99, 160, 146, 147, 148, 143, 161, 112, 113]
section
variable {σ σ0 : MS} {Q : MQ9} {L : List Int} {X : List (Nat × Nat × Bool)} {n0 m0 l0 k0 : Nat} {m : TM} {H : HY9} {W o hold g : Int} {cl bg : Bool}
theorem R_carries.z0 (hok : okK L) (hL : L.length ≤ 139000) (hG : hoG σ 254 255 0 L) (h94 : mV σ 246 94 = 0) (hq : Q (.inl none) σ) : R_carries (n0 : Int) 0 (L.length : Int) σ Q := R_carries.i (car_3 hok hL hG (R_carries_29.i (R_carries_32.i ⟨by decide, fun _ => hq, fun h => absurd h (by omega)⟩)) L [] rfl (Nat.zero_add _))
/-- behind the lines: marks, the flow, notes -/
theorem txr_A {G : GS9} {k : Nat} {A B : List GL9} {F : List Int} {N : List (List Int)} (hok : okK L) (hL : L.length ≤ 65000) (hG0 : hoG σ 254 255 0 L) (h16 : mV σ 246 16 = (L.length : Int)) (hk1 : 1 ≤ k) (hkn : n0 + k ≤ 1500) (hGl : G.2.1.length = n0) (hAl : A.length = k) (hBl : B.length = k) (hAB : ∀ i, i < k → (A.getD i ([], 0, 0)).1 = (B.getD i ([], 0, 0)).1 ∧ (A.getD i ([], 0, 0)).2.1 = (B.getD i ([], 0, 0)).2.1 ∧ decide (2 ≤ (A.getD i ([], 0, 0)).2.2) = decide (2 ≤ (B.getD i ([], 0, 0)).2.2)) (hBf : ∀ i, i < k → decide ((B.getD i ([], 0, 0)).2.2 % 2 = 0) = (! hoF hold k i)) (hA1 : decide ((A.getD (k - 1) ([], 0, 0)).2.2 % 2 = 0) = true) {w : Int × Int} (hRx : RxG σ (w, G.2.1 ++ A, F)) (hGB : GB9 0 (w, G.2.1 ++ B, F ++ List.replicate (spB bg cl g 0).toNat (-2) ++ seqZ n0 k)) (h7 : mV σ 275 7 = hold) (hho : 0 ≤ hold ∧ hold ≤ 3) (hXk : (k = X.length ∧ LbI σ n0 0 L X ∧ (mV σ 246 94 = 0 ∨ foN L < L.length)) ∨ (X = [] ∧ mV σ 246 94 = 0)) (hWt : WtR σ m0 l0 k0 L m) (hb1 : m.2.1.2.2.length ≤ 60) (hb2 : m.2.2.1.2.length ≤ 100) (hb3 : m.2.2.2.1.2.1.length ≤ 60) (hm0 : m0 ≤ 60) (hso : ∀ i j, i < j → j < m.2.2.2.1.2.1.length → m.2.2.2.1.2.1.getD i 0 ≤ m.2.2.2.1.2.1.getD j 0) (hE : ElR σ F) (hbg : mV σ 246 113 = bZ bg) (hg : mV σ 275 8 = g) (hg3 : 0 ≤ g ∧ g ≤ 3) (hF : F.length + 3 + k ≤ 7999) (hN : ∀ n ∈ N, okK n) (hN6 : suM N ≤ 65000) (hNm : m0 + N.length ≤ 60) (hb : HyB H.2.1 H.2.2.1 H.2.2.2.1 H.2.2.2.2) (hW : 12 ≤ W ∧ W ≤ 80) (hNt : NtR σ H W o N m0) (hy : ∀ G2 sps σ', ntD o H W N ((m0 : Int) + 1) (w, G.2.1 ++ B, F ++ List.replicate (spB bg cl g 0).toNat (-2) ++ seqZ n0 k) = .inl (G2, sps) → RxG σ' G2 → ElR σ' (F ++ List.replicate (spB bg cl g 0).toNat (-2) ++ seqZ n0 k) → mV σ' 246 113 = 1 → FrZ TaS TaK σ σ' → ((∀ j, j < l0 → mV σ' 284 j = mV σ 284 j) ∧ (∀ j, j < k0 → mV σ' 297 j = mV σ 297 j) ∧ (∀ z j, z = 317 ∨ z = 318 → j < n0 → mV σ' z j = mV σ z j) ∧ ∀ z j, z = 303 ∨ z = 304 → j < m0 → mV σ' z j = mV σ z j) → (X = [] ∨ ((∀ j, l0 ≤ j → j < m.2.1.2.2.length → mV σ' 284 j = ((n0 + lnO (gV9 (pkL L) (m.2.1.2.2.getD j 0)) X : Nat) : Int)) ∧ (∀ j, k0 ≤ j → j < m.2.2.1.2.length → mV σ' 297 j = ((n0 + lnO (gV9 (pkL L) (m.2.2.1.2.getD j 0)) X : Nat) : Int)) ∧ NlR σ' n0 m0 X.length (m.2.2.2.1.2.1.map (fun v => lnO (gV9 (pkL L) v) X)))) → (∀ i, i < N.length → mV σ' 303 (m0 + i) = (sps.getD i (0, 0)).1 ∧ mV σ' 304 (m0 + i) = (sps.getD i (0, 0)).2) → (X = [] → ∀ i, i < k → mV σ' 317 (n0 + i) = mV σ 317 (n0 + i) ∧ mV σ' 318 (n0 + i) = mV σ 318 (n0 + i)) → Q (.inl none) σ') (hn : ∀ e σ', ntD o H W N ((m0 : Int) + 1) (w, G.2.1 ++ B, F ++ List.replicate (spB bg cl g 0).toNat (-2) ++ seqZ n0 k) = .inr e → TxR σ' e → FrZ TaS TaK σ σ' → Q (.inl none) σ') : R_text_180 (bZ cl) (m0 : Int) (n0 : Int) σ Q := by
  have h99 : mV σ 246 99 = ((n0 + k : Nat) : Int) := by
    have := hRx.2.2.2.1
    rw [List.length_append, hGl, hAl] at this
    exact this
  refine R_text_180.i ⟨fun _ => ?_, fun h => absurd hRx.1 h⟩
  have key := txr_201 (Q := Q) (l5 := bZ cl) (l6 := (m0 : Int)) (hold := hold) h99 hkn h7 hho (fun σ1 f1 u1 u2 => ?_) hk1 (k - 1) 0 σ (by omega) FrZ.rf (fun _ _ => rfl) (fun i hi => absurd hi (Nat.not_lt_zero _))
  · rw [Nat.add_zero] at key
    exact key
  have t1 : ∀ y j, y ≠ 314 → y ≠ 246 → mV σ1 y j = mV σ y j := fun y j a b => f1.z (by rw [List.mem_singleton]; exact a) b
  have s1 : ∀ j, mV σ1 246 j = mV σ 246 j := fun j => f1.f (by simp) (by decide)
  have rx1 : RxG σ1 (w, G.2.1 ++ B, F ++ List.replicate (spB bg cl g 0).toNat (-2) ++ seqZ n0 k) := by
    refine ⟨(s1 _).trans hRx.1, (s1 _).trans hRx.2.1, (s1 _).trans hRx.2.2.1, hRx.2.2.2.fl (by omega) (fun i hi => hAB i (by omega)) f1 (fun i hi => u1 i (Or.inl (by omega))) (fun i hi => ?_)⟩
    rw [hGl, hBf i (by omega)]
    by_cases e : i + 1 < k
    · exact u2 i e
    · rw [u1 (n0 + i) (Or.inr (by omega))]
      have ei : i = k - 1 := by omega
      have la := hRx.2.2.2.2.2 (n0 + i) (by rw [List.length_append, hGl, hAl]; omega)
      have gd : (G.2.1 ++ A).getD (n0 + i) ([], 0, 0) = A.getD i ([], 0, 0) := by
        unfold List.getD
        rw [List.getElem?_append_right (by omega), show n0 + i - G.2.1.length = i by omega]
      rw [gd] at la
      rw [la.2.2.2.2.1, ei, hA1]
      have : hoF hold k (k - 1) = false := decide_eq_false (by omega)
      rw [this]
      rfl
  have e99 : mV σ1 246 99 = ((n0 + k : Nat) : Int) := (s1 _).trans h99
  have tail : ∀ σ2 : MS, FrZ [284, 297, 317, 318] [] σ1 σ2 → ((∀ j, j < l0 → mV σ2 284 j = mV σ1 284 j) ∧ (∀ j, j < k0 → mV σ2 297 j = mV σ1 297 j) ∧ ∀ z j, z = 317 ∨ z = 318 → j < n0 → mV σ2 z j = mV σ1 z j) → (X = [] ∨ ((∀ j, l0 ≤ j → j < m.2.1.2.2.length → mV σ2 284 j = ((n0 + lnO (gV9 (pkL L) (m.2.1.2.2.getD j 0)) X : Nat) : Int)) ∧ (∀ j, k0 ≤ j → j < m.2.2.1.2.length → mV σ2 297 j = ((n0 + lnO (gV9 (pkL L) (m.2.2.1.2.getD j 0)) X : Nat) : Int)) ∧ NlR σ2 n0 m0 X.length (m.2.2.2.1.2.1.map (fun v => lnO (gV9 (pkL L) v) X)))) → (k = X.length ∨ X = []) → (X = [] → ∀ i, i < k → mV σ2 317 (n0 + i) = mV σ1 317 (n0 + i) ∧ mV σ2 318 (n0 + i) = mV σ1 318 (n0 + i)) → (mV σ2 246 28 = 0 → R_lies (n0 : Int) (bZ cl) 0 σ2 (kV (thQ Q) fun σ2 => R_notesLines (m0 : Int) (wV σ2 246 161 0) (kV (thQ Q) fun σ3 => Q (.inl none) σ3))) ∧ (¬ mV σ2 246 28 = 0 → Q (.inl none) σ2) := fun σ2 f2 c1 c2 hkx c3 => by
    have s2 : ∀ j, mV σ2 246 j = mV σ1 246 j := fun j => f2.f (by simp) (by decide)
    have rx2 : RxG σ2 (w, G.2.1 ++ B, F ++ List.replicate (spB bg cl g 0).toNat (-2) ++ seqZ n0 k) := rx1.z f2 (by decide) (by simp)
    refine ⟨fun _ => ?_, fun h => absurd rx2.1 h⟩
    refine R_lies.p (n0 := n0) (k := k) (F := F) (bg := bg) (cl := cl) (g := g) (least := 0) ((s2 _).trans e99) hkn hk1 hF ((f2.z (by decide) (by decide)).trans ((t1 _ _ (by decide) (by decide)).trans hg)) hg3 (by decide) ((s2 _).trans ((s1 _).trans hbg)) ⟨(s2 _).trans ((s1 _).trans hE.1), fun i hi => by
      rw [f2.z (z := 320) (by decide) (by decide), f2.z (z := 321) (by decide) (by decide), t1 320 _ (by decide) (by decide), t1 321 _ (by decide) (by decide)]
      exact hE.2 i hi⟩ (fun σ3 f3 v3 el3 => ?_)
    have f4 : FrZ [] [161] σ3 (wV σ3 246 161 0) := FrZ.wf (by decide)
    have f14 : FrZ ([314, 284, 297, 317, 318, 320, 321]) [112, 113, 161] σ (wV σ3 246 161 0) := (((f1.mo (by decide) (by simp)).tr (f2.mo (by decide) (by simp))).tr (f3.mo (by decide) (by decide))).tr (f4.mo (by simp) (by decide))
    have rx4 : RxG (wV σ3 246 161 0) (w, G.2.1 ++ B, F ++ List.replicate (spB bg cl g 0).toNat (-2) ++ seqZ n0 k) := (rx2.z f3 (by decide) (by decide)).z f4 (by simp) (by decide)
    have el4 : ElR (wV σ3 246 161 0) (F ++ List.replicate (spB bg cl g 0).toNat (-2) ++ seqZ n0 k) := ⟨(wV_ne (Or.inr (by decide))).trans el3.1, fun i hi => by
      rw [wV_ne (Or.inl (by decide)), wV_ne (Or.inl (by decide))]
      exact el3.2 i hi⟩
    have v4 : mV (wV σ3 246 161 0) 246 113 = 1 := (wV_ne (Or.inr (by decide))).trans v3
    have z24 : ∀ y j, y ≠ 320 → y ≠ 321 → y ≠ 246 → mV (wV σ3 246 161 0) y j = mV σ2 y j := fun y j a b c => (wV_ne (Or.inl c)).trans (f3.z (by simp only [List.mem_cons, List.not_mem_nil, or_false]; omega) c)
    have nt4 : NtR (wV σ3 246 161 0) H W o N m0 := by
      obtain ⟨n1, n2, n3, n4, n5⟩ := hNt
      refine ⟨⟨(f14.f (by decide) (by decide)).trans n1.1, fun i hi => ?_⟩, n2.k f14 (by decide) (by decide), (f14.z (by decide) (by decide)).trans n3, by rw [f14.z (z := 275) (by decide) (by decide)]; exact n4, (f14.f (by decide) (by decide)).trans n5⟩
      have := n1.2 i hi
      exact ⟨(f14.z (by decide) (by decide)).trans this.1, (f14.z (by decide) (by decide)).trans this.2.1, this.2.2.cg (fun k _ _ => ⟨f14.z (by decide) (by decide), f14.z (by decide) (by decide)⟩)⟩
    have lG : (G.2.1 ++ B).length = n0 + k := by rw [List.length_append, hGl, hBl]
    show R_notesLines (m0 : Int) (wV σ3 246 161 0) (kV (thQ Q) fun σ3 => Q (.inl none) σ3)
    generalize wV σ3 246 161 0 = σ4 at f4 f14 rx4 el4 v4 z24 nt4
    have toT : ∀ σ5, FrNl m0 (n0 + k) σ4 σ5 → FrZ TaS TaK σ σ5 := fun σ5 f5 => (f14.mo (by decide) (by decide)).tr (f5.1.mo (fun x hx => List.mem_append_right _ hx) (by decide))
    refine R_notesLines.p (c9 := 0) hN hN6 hNm hb hW (Int.le_refl 0) nt4 rx4 hGB (fun G2 sps σ5 q1 q2 q3 q4 => ?_) (fun e σ5 q1 q2 q3 => ?_)
    · have q2 : FrNl m0 (n0 + k) σ4 σ5 := by
        have := q2
        rw [show (w, G.2.1 ++ B, F ++ List.replicate (spB bg cl g 0).toNat (-2) ++ seqZ n0 k).2.1.length = n0 + k from lG] at this
        exact this
      refine hy G2 sps σ5 q1 q3 ⟨(q2.1.f (by decide) (by decide)).trans el4.1, fun i hi => ?_⟩ ((q2.1.f (by decide) (by decide)).trans v4) (toT σ5 q2) ⟨fun j hj => ?_, fun j hj => ?_, fun z j hz hj => ?_, fun z j hz hj => ?_⟩ ?_ q4 ?_
      · rw [q2.1.z (z := 320) (by decide) (by decide), q2.1.z (z := 321) (by decide) (by decide)]
        exact el4.2 i hi
      · rw [q2.1.z (z := 284) (by decide) (by decide), z24 _ _ (by decide) (by decide) (by decide), c1.1 j hj, t1 _ _ (by decide) (by decide)]
      · rw [q2.1.z (z := 297) (by decide) (by decide), z24 _ _ (by decide) (by decide) (by decide), c1.2.1 j hj, t1 _ _ (by decide) (by decide)]
      · rw [q2.2.1 z j (by omega) (by omega), z24 _ _ (by omega) (by omega) (by omega), c1.2.2 z j hz hj, t1 _ _ (by omega) (by omega)]
      · rw [q2.2.2 z j hz hj, z24 _ _ (by omega) (by omega) (by omega), f2.z (by simp only [List.mem_cons, List.not_mem_nil, or_false]; omega) (by omega), t1 _ _ (by omega) (by omega)]
      · refine c2.imp id (fun c2 => ⟨fun j a c => ?_, fun j a c => ?_, fun i hi => ?_⟩)
        · rw [q2.1.z (z := 284) (by decide) (by decide), z24 _ _ (by decide) (by decide) (by decide)]
          exact c2.1 j a c
        · rw [q2.1.z (z := 297) (by decide) (by decide), z24 _ _ (by decide) (by decide) (by decide)]
          exact c2.2.1 j a c
        · have hik : i < k := by
            rcases hkx with h | h
            · omega
            · rw [h] at hi
              exact absurd hi (Nat.not_lt_zero _)
          rw [q2.2.1 317 (n0 + i) (by decide) (by omega), q2.2.1 318 (n0 + i) (by decide) (by omega), z24 _ _ (by decide) (by decide) (by decide), z24 _ _ (by decide) (by decide) (by decide)]
          exact c2.2.2 i hi
      · intro hx i hi
        have := c3 hx i hi
        rw [q2.2.1 317 (n0 + i) (by decide) (by omega), q2.2.1 318 (n0 + i) (by decide) (by omega), z24 _ _ (by decide) (by decide) (by decide), z24 _ _ (by decide) (by decide) (by decide), this.1, this.2, t1 _ _ (by decide) (by decide), t1 _ _ (by decide) (by decide)]
        exact ⟨rfl, rfl⟩
    · have q3 : FrNl m0 (n0 + k) σ4 σ5 := by
        have := q3
        rw [show (w, G.2.1 ++ B, F ++ List.replicate (spB bg cl g 0).toNat (-2) ++ seqZ n0 k).2.1.length = n0 + k from lG] at this
        exact this
      exact hn e σ5 q1 q2 (toT σ5 q3)
  have hG1 : hoG σ1 254 255 0 L := hG0.cg (fun k _ _ => ⟨t1 _ _ (by decide) (by decide), t1 _ _ (by decide) (by decide)⟩)
  refine R_text_201.i ⟨by unfold Rg; omega, by rw [e99]; unfold Rg; omega, fun _ => ?_, fun h9 => absurd h9 (by rw [e99]; omega)⟩
  rw [s1 16, h16]
  rcases hXk with ⟨hkX, hI, hfo⟩ | ⟨hX0, h94⟩
  · obtain ⟨Wt, x1, x2, x3⟩ := hWt
    refine R_carries.p (m := m) (m0 := m0) (l0 := l0) (k0 := k0) hok (by omega) hG1 (by omega) (by omega) (by rw [e99, hkX]) (fun i hi => ?_) ⟨Wt, (s1 _).trans x1, fun i hi => by
      rw [t1 305 _ (by decide) (by decide), t1 306 _ (by decide) (by decide), t1 307 _ (by decide) (by decide)]
      exact x2 i hi, x3⟩ (by rw [s1]; exact hfo) hb1 hb2 hb3 (by omega) hso (fun σ2 hc => tail σ2 hc.1.1 ⟨hc.1.2.1, hc.1.2.2.1, hc.1.2.2.2⟩ (Or.inr hc.2) (Or.inl hkX) (fun hx => by rw [hx] at hkX; exact absurd hkX (by show ¬ k = 0; omega)))
    obtain ⟨⟨b, b1, b2, b3, b4, b5⟩, b6, b7⟩ := hI i hi
    exact ⟨⟨b, b1, b2, b3, (t1 _ _ (by decide) (by decide)).trans b4, b5⟩, (t1 _ _ (by decide) (by decide)).trans b6, (t1 _ _ (by decide) (by decide)).trans b7⟩
  · exact R_carries.z0 hok (by omega) hG1 ((s1 _).trans h94) (tail σ1 FrZ.rf ⟨fun _ _ => rfl, fun _ _ => rfl, fun _ _ _ _ => rfl⟩ (Or.inl hX0) (Or.inr hX0) (fun _ _ _ => ⟨rfl, rfl⟩))
end
