/-! TABLES: the reference works all lines -/
def CfR (σ : MS) (R : List (List (List Int))) : Prop := ∀ i, i < R.length → mV σ 344 i = (((R.take i).flatten.length : Nat) : Int)
def TlS (σ : MS) (E : TE) (nw : Nat) (s : TS) (R : List (List (List Int))) : Prop := CbR σ E nw s (suM R.flatten) ∧ CeR σ R.flatten ∧ (∀ k, k < 8 → mV σ 346 k = tbD k R) ∧ CfR σ R
def AlTm (nw z k : Nat) : Prop := AlTe nw z k ∨ z = 344
def FrTm (nw : Nat) (σ σ' : MS) : Prop := FrA (AlTm nw) σ σ'
section
variable {σ σ0 : MS} {Q : MQ9} {E : TE} {nw : Nat} {M : List Int} {at9 nx : Nat} {t0 : Int}
theorem lin_no {j : Nat} (hj : j < (mlL M).length) : ∀ t, ((mlL M).getD j (0, 0)).1 ≤ t → t < ((mlL M).getD j (0, 0)).2 → ¬ M.getD t 0 = 10 := fun t h1 h2 => by
  have p := (ml_p (T := M) hj).1
  have hb := lin_b (M := M) hj
  refine sgT_no p (a := ((mlL M).getD j (0, 0)).1) (Nat.le_refl _) _ ?_
  have l := sgT_l (U := M) (a := ((mlL M).getD j (0, 0)).1) hb.2
  have e := sgT_at (B := M) (p := ((mlL M).getD j (0, 0)).1) (n := ((mlL M).getD j (0, 0)).2 - ((mlL M).getD j (0, 0)).1) (i := t - ((mlL M).getD j (0, 0)).1) (by omega)
  rw [show ((mlL M).getD j (0, 0)).1 + (t - ((mlL M).getD j (0, 0)).1) = t by omega] at e
  rw [← e]
  exact gd_mem (L := sgT M ((mlL M).getD j (0, 0)).1 ((mlL M).getD j (0, 0)).2) (by omega)
theorem FrTm.tr {σ1 σ2 : MS} (h : FrTm nw σ σ1) (h' : FrTm nw σ1 σ2) : FrTm nw σ σ2 := FrA.tr h h'
theorem FrTm.e {σ1 : MS} (h : FrTe nw σ σ1) : FrTm nw σ σ1 := FrA.mo h (fun z k a => Or.inl a)
theorem FrTm.w {z k : Nat} {x : Int} (h : z = 344) : FrTm nw σ (wV σ z k x) := FrA.w (Or.inr h)
theorem ScR.te {σ1 : MS} (h : ScR σ M) (f : FrTm nw σ σ1) : ScR σ1 M := by
  have no : ∀ z k, (z = 252 ∨ z = 253 ∨ (z = 246 ∧ (k = 10 ∨ k = 12))) → ¬ AlTm nw z k := fun z k hz => by
    unfold AlTm AlTe AlBt
    rcases hz with rfl | rfl | ⟨rfl, rfl | rfl⟩
    · rintro (((h | h | h) | h) | h)
      · exact absurd h.1 (by decide)
      · exact absurd h (by decide)
      · exact absurd h.1 (by decide)
      · exact absurd h (by decide)
      · exact absurd h (by decide)
    · rintro (((h | h | h) | h) | h)
      · exact absurd h.1 (by decide)
      · exact absurd h (by decide)
      · exact absurd h.1 (by decide)
      · exact absurd h (by decide)
      · exact absurd h (by decide)
    · rintro (((h | h | h) | h) | h)
      · exact absurd h.2 (by decide)
      · exact absurd h (by decide)
      · exact absurd h.1 (by decide)
      · exact absurd h (by decide)
      · exact absurd h (by decide)
    · rintro (((h | h | h) | h) | h)
      · exact absurd h.2 (by decide)
      · exact absurd h (by decide)
      · exact absurd h.1 (by decide)
      · exact absurd h (by decide)
      · exact absurd h (by decide)
  exact ⟨(f.2.2 _ _ (no _ _ (by omega))).trans h.1, h.2.1, fun k hk => (f.2.2 _ _ (no _ _ (by omega))).trans (h.2.2.1 k hk), (f.2.2 _ _ (no _ _ (by omega))).trans h.2.2.2.1, fun i hi => (f.2.2 _ _ (no _ _ (by omega))).trans (h.2.2.2.2 i hi)⟩
theorem FrTm.z {S9 K9 : List Nat} {σ1 : MS} (h : FrZ S9 K9 σ σ1) (hs : ∀ x ∈ S9, x ∈ [342, 343, 344, 346]) (hk : ∀ x ∈ K9, x ∈ BtK) : FrTm nw σ σ1 := ⟨h.1, h.2.1, fun z k n => h.2.2 z k (fun e => n (by
  have := hs z e
  simp only [List.mem_cons, List.not_mem_nil, or_false] at this
  rcases this with h | h | h | h
  · exact Or.inl (Or.inr (by rw [h]; decide))
  · exact Or.inl (Or.inr (by rw [h]; decide))
  · exact Or.inr h
  · exact Or.inl (Or.inr (by rw [h]; decide)))) (by
  by_cases h6 : z = 246
  · exact Or.inr (fun e => n (Or.inl (Or.inl (Or.inl ⟨h6, hk k e⟩))))
  · exact Or.inl h6)⟩
/-- a line's cells, then the next line -/
theorem trr_95 {k9 : Nat} {R : List (List (List Int))} {s : TS} {l2 : Int} (hE : EI E) (hE2 : E.2.2.2 = 2) (hMb : smB M) (hSc : ScR σ M) (hk9 : k9 < (mlL M).length) (hs : ((mlL M).getD k9 (0, 0)).1 + 1 ≤ ((mlL M).getD k9 (0, 0)).2) (ht0 : 0 ≤ t0) (hRl : R.length < 4000) {X : List (Nat × Nat)} (hX : X = tcL M ((mlL M).getD k9 (0, 0)).1 ((mlL M).getD k9 (0, 0)).2) (hX8 : X.length ≤ 8) (hT : TlS σ E nw s R) (hPt : PtS σ R.flatten.length X) (hTI : TI (tbP R.flatten + t0) 0 (tx0 s)) (hy : ∀ w σ', tcW E M X s = .inl w → TlS σ' E nw w.2 (R ++ [w.1]) → TI (tbP (R ++ [w.1]).flatten + t0) 0 (tx0 w.2) → FrTm nw σ σ' → R_table_44 (at9 : Int) l2 ((R ++ [w.1]).flatten.length : Int) ((R ++ [w.1]).length : Int) (tbC (R ++ [w.1]) : Int) ((k9 + 1 : Nat) : Int) σ' Q) (hn : ∀ e σ', tcW E M X s = .inr e → TxR σ' e → UnB σ' → FrTm nw σ σ' → Q (.inl none) σ') : R_table_95 (at9 : Int) l2 (R.flatten.length : Int) (R.length : Int) (tbC R : Int) (k9 : Int) (X.length : Int) σ Q := by
  obtain ⟨hC, hCe, hW, hCf⟩ := hT
  have hb := lin_b (M := M) hk9
  have ml4 : (mlL M).length ≤ 4000 := Nat.le_trans (mlF_l (T := M) M.length 0) hSc.2.1
  have b0 : 0 ≤ s.1.1 ∧ s.1.1 ≤ 60000 := hTI.1.1
  have t7 : ((suM s.2.2.2.2.1.1 : Nat) : Int) + ((suM ([] : List (List Int)) : Nat) : Int) + (([] : List Int).length : Int) + (tbP R.flatten + t0) ≤ s.1.1 + 100 := hTI.2.2.2.2.2.2
  have eP : tbP R.flatten = ((suM R.flatten : Nat) : Int) + 15 * (R.flatten.length : Int) := rfl
  have z1 : suM ([] : List (List Int)) = 0 := rfl
  have z2 : ([] : List Int).length = 0 := rfl
  rw [z1, z2] at t7
  have f1 : FrZ [344] [] σ (wV σ 344 R.length (R.flatten.length : Int)) := FrZ.wz (by decide)
  have fe1 : FrTm nw σ (wV σ 344 R.length (R.flatten.length : Int)) := FrTm.w rfl
  have v1 : ∀ y k, y ≠ 344 → mV (wV σ 344 R.length (R.flatten.length : Int)) y k = mV σ y k := fun y k h => wV_ne (Or.inl h)
  have n344 : ∀ k, ¬ AlBt nw 344 k := fun k => by
    unfold AlBt
    rintro (h | h | h)
    · exact absurd h.1 (by decide)
    · exact absurd h (by decide)
    · exact absurd h.1 (by decide)
  refine R_table_95.i ⟨by omega, by omega, by unfold Rg; omega, ?_⟩
  rw [Int.toNat_natCast]
  have cf1 : ∀ i, i ≤ R.length → mV (wV σ 344 R.length (R.flatten.length : Int)) 344 i = (((R.take i).flatten.length : Nat) : Int) := fun i hi => by
    by_cases e : i = R.length
    · rw [e, wV_self, List.take_length]
    · rw [wV_ne (Or.inr e)]
      exact hCf i (by omega)
  have key := trr_106 (Q := Q) (σ0 := wV σ 344 R.length (R.flatten.length : Int)) (l1 := (at9 : Int)) (l2 := l2) (l4 := (R.length : Int)) (l5 := (tbC R : Int)) (l6 := (k9 : Int)) (t0 := t0) (nw := nw) (R := R) (X := X) (a := ((mlL M).getD k9 (0, 0)).1 + 1) (e := ((mlL M).getD k9 (0, 0)).2) (s0 := s) hE hE2 hSc.2.1 hMb (fun k hk => (v1 _ _ (by decide)).trans (hSc.2.2.1 k hk)) hX8 (by rw [hX]; exact tcL_b hs hb.2) hb.2 (fun t a c => lin_no hk9 t (by omega) c) ht0 (fun w σ2 w1 c1 e1 d1 i1 g1 => ?_) (fun e σ2 w1 q1 q2 g1 => hn e σ2 w1 q1 q2 (fe1.tr (FrTm.e g1))) X [] [] s (wV σ 344 R.length (R.flatten.length : Int)) rfl rfl (by rw [List.append_nil]; exact hC.k f1 (by decide) (by simp)) (by
    rw [List.append_nil]
    intro j hj
    obtain ⟨a', b', q1, q2, q3, q4⟩ := hCe j hj
    exact ⟨a', b', q1, (v1 _ _ (by decide)).trans q2, (v1 _ _ (by decide)).trans q3, fun i hi => ⟨(v1 _ _ (by decide)).trans (q4 i hi).1, (v1 _ _ (by decide)).trans (q4 i hi).2⟩⟩) (fun k _ hk => ⟨(v1 _ _ (by decide)).trans (hPt k hk).1, (v1 _ _ (by decide)).trans (hPt k hk).2⟩) (fun k hk => by
    rw [v1 _ _ (by decide), hW k hk, tbD_sn, if_neg (show ¬ k < ([] : List (List Int)).length from Nat.not_lt_zero _)]) (by rw [List.append_nil]; exact hTI) ⟨rfl, rfl, fun _ _ _ => rfl⟩ (by cases tcW E M X s <;> rfl)
  · exact key
  · have lw := tcW_l w1
    have ef : (R ++ [w.1]).flatten = R.flatten ++ w.1 := by
      rw [List.flatten_append]
      show R.flatten ++ (w.1 ++ []) = _
      rw [List.append_nil]
    have lR : (R ++ [w.1]).length = R.length + 1 := by
      rw [List.length_append]
      rfl
    have tl2 : TlS σ2 E nw w.2 (R ++ [w.1]) := by
      refine ⟨by rw [ef]; exact c1, by rw [ef]; exact e1, d1, fun i hi => ?_⟩
      rw [lR] at hi
      have h344 : mV σ2 344 i = mV (wV σ 344 R.length (R.flatten.length : Int)) 344 i := g1.2.2 344 i (fun h => by
        rcases h with h | h
        · exact n344 i h
        · exact absurd h (by decide))
      rw [h344, cf1 i (by omega), List.take_append_of_le_length (by omega)]
    have next := hy w σ2 w1 tl2 (by rw [ef]; exact i1) (fe1.tr (FrTm.e g1))
    rw [lR, ef, List.length_append, lw, tbC_sn] at next
    have s265 : R_table_265 (at9 : Int) l2 (R.flatten.length : Int) (R.length : Int) (k9 : Int) (X.length : Int) ((max (tbC R) w.1.length : Nat) : Int) σ2 Q := by
      refine R_table_265.i (R_table_275.i ?_)
      rw [show (R.flatten.length : Int) + (X.length : Int) = ((R.flatten.length + X.length : Nat) : Int) by omega, show (R.length : Int) + 1 = ((R.length + 1 : Nat) : Int) by omega, show (k9 : Int) + 1 = ((k9 + 1 : Nat) : Int) by omega]
      exact next
    refine R_table_251.i ⟨fun h => ?_, fun h => ?_⟩
    · rw [show (tbC R : Int) = ((max (tbC R) w.1.length : Nat) : Int) by omega]
      exact s265
    · rw [show (X.length : Int) = ((max (tbC R) w.1.length : Nat) : Int) by omega]
      rw [show ((max (tbC R) w.1.length : Nat) : Int) = (X.length : Int) by omega] at s265 ⊢
      exact s265
end
