/-! TABLES: the reference comes to its rows, the whole -/
def AlTn (nw z k : Nat) : Prop := AlTm nw z k ∨ z = 345
def FrTn (nw : Nat) (σ σ' : MS) : Prop := FrA (AlTn nw) σ σ'
section
variable {σ σ0 : MS} {Q : MQ9} {E : TE} {nw : Nat} {M : List Int} {at9 nx : Nat} {t0 : Int} {b : BK9}
theorem FrTn.tr {σ1 σ2 : MS} (h : FrTn nw σ σ1) (h' : FrTn nw σ1 σ2) : FrTn nw σ σ2 := FrA.tr h h'
theorem FrTn.m {σ1 : MS} (h : FrTm nw σ σ1) : FrTn nw σ σ1 := FrA.mo h (fun z k a => Or.inl a)
theorem FrTn.a {σ1 : MS} (h : FrZ [345] [] σ σ1) : FrTn nw σ σ1 := ⟨h.1, h.2.1, fun z k n => h.2.2 z k (fun e => n (Or.inr (List.mem_singleton.mp e))) (Or.inr (by simp))⟩
theorem ScR.tn {σ1 : MS} (h : ScR σ M) (f : FrTn nw σ σ1) : ScR σ1 M := by
  have no : ∀ z k, (z = 252 ∨ z = 253 ∨ (z = 246 ∧ (k = 10 ∨ k = 12))) → ¬ AlTn nw z k := fun z k hz => by
    unfold AlTn AlTm AlTe AlBt
    rcases hz with rfl | rfl | ⟨rfl, rfl | rfl⟩
    · rintro ((((h | h | h) | h) | h) | h)
      · exact absurd h.1 (by decide)
      · exact absurd h (by decide)
      · exact absurd h.1 (by decide)
      · exact absurd h (by decide)
      · exact absurd h (by decide)
      · exact absurd h (by decide)
    · rintro ((((h | h | h) | h) | h) | h)
      · exact absurd h.1 (by decide)
      · exact absurd h (by decide)
      · exact absurd h.1 (by decide)
      · exact absurd h (by decide)
      · exact absurd h (by decide)
      · exact absurd h (by decide)
    · rintro ((((h | h | h) | h) | h) | h)
      · exact absurd h.2 (by decide)
      · exact absurd h (by decide)
      · exact absurd h.1 (by decide)
      · exact absurd h (by decide)
      · exact absurd h (by decide)
      · exact absurd h (by decide)
    · rintro ((((h | h | h) | h) | h) | h)
      · exact absurd h.2 (by decide)
      · exact absurd h (by decide)
      · exact absurd h.1 (by decide)
      · exact absurd h (by decide)
      · exact absurd h (by decide)
      · exact absurd h (by decide)
  exact ⟨(f.2.2 _ _ (no _ _ (by omega))).trans h.1, h.2.1, fun k hk => (f.2.2 _ _ (no _ _ (by omega))).trans (h.2.2.1 k hk), (f.2.2 _ _ (no _ _ (by omega))).trans h.2.2.2.1, fun i hi => (f.2.2 _ _ (no _ _ (by omega))).trans (h.2.2.2.2 i hi)⟩
theorem trr_7 {l1 l2 : Int} (hq : ∀ σ', FrZ [345, 346] [] σ0 σ' → (∀ k, k < 8 → mV σ' 345 k = 0 ∧ mV σ' 346 k = 1) → R_table_44 l1 l2 0 0 0 l1 σ' Q) : ∀ (n j : Nat) (σ : MS), j + n = 8 → FrZ [345, 346] [] σ0 σ → (∀ k, k < j → mV σ 345 k = 0 ∧ mV σ 346 k = 1) → R_table_7 l1 l2 (j : Int) σ Q := by
  intro n
  induction n with
  | zero =>
    intro j σ hj hf hv
    rw [show j = 8 by omega] at hv ⊢
    exact R_table_7.i ⟨by decide, fun _ => hq σ hf hv, fun h => absurd h (by decide)⟩
  | succ n ih =>
    intro j σ hj hf hv
    refine R_table_7.i ⟨by unfold Rg; omega, fun h => absurd h (by omega), fun _ => ⟨by omega, by omega, by omega, by omega, ?_⟩⟩
    rw [Int.toNat_natCast, show (j : Int) + 1 = ((j + 1 : Nat) : Int) by omega]
    refine ih (j + 1) _ (by omega) ((hf.tr (FrZ.wz (by decide))).tr (FrZ.wz (by decide))) (fun k hk => ?_)
    by_cases e : k = j
    · rw [e, wV_ne (Or.inl (by decide)), wV_self, wV_self]
      exact ⟨rfl, rfl⟩
    · rw [wV_ne (Or.inl (by decide)), wV_ne (Or.inr e), wV_ne (Or.inr e), wV_ne (Or.inl (by decide))]
      exact hv k (by omega)
theorem trr_tab (hE : EI E) (hE2 : E.2.2.2 = 2) (hMb : smB M) (hSc : ScR σ M) (hR : BkR σ E nw b) (ht0 : 0 ≤ t0) (hTI : TI t0 0 (tx0 b.1)) (hat : at9 < nx) (hnx : nx ≤ (mlL M).length) (hsol : ∀ j, at9 ≤ j → j < nx → ((mlL M).getD j (0, 0)).1 + 1 ≤ ((mlL M).getD j (0, 0)).2) (hy : ∀ q σ', tbA E M (tbL M at9 nx) b.1 = .inl q → TlS σ' E nw q.2 q.1.1 → (∀ k, k < 8 → mV σ' 345 k = alN (q.1.2.getD k 0)) → FrTn nw σ σ' → R_table_281 (q.1.1.flatten.length : Int) (q.1.1.length : Int) (tbC q.1.1 : Int) σ' Q) (hn : ∀ e σ', tbA E M (tbL M at9 nx) b.1 = .inr e → TxR σ' e → UnB σ' → FrTn nw σ σ' → Q (.inl none) σ') : R_table (at9 : Int) ((nx : Int) - (at9 : Int)) σ Q := by
  have ml4 : (mlL M).length ≤ 4000 := Nat.le_trans (mlF_l (T := M) M.length 0) hSc.2.1
  obtain ⟨l, r, hls⟩ : ∃ l r, tbL M at9 nx = l :: r := by
    cases h : tbL M at9 nx with
    | nil =>
      have := congrArg List.length h
      unfold tbL at this
      rw [List.length_take, List.length_drop] at this
      have : min (nx - at9) ((mlL M).length - at9) = 0 := this
      omega
    | cons l r => exact ⟨l, r, rfl⟩
  have el : (mlL M).getD at9 (0, 0) = l := by
    have e1 : (tbL M at9 nx).getD 0 (0, 0) = l := by
      rw [hls]
      rfl
    unfold tbL at e1
    unfold List.getD at e1 ⊢
    rw [List.getElem?_take_of_lt (by omega), List.getElem?_drop, Nat.add_zero] at e1
    exact e1
  have hb := lin_b (M := M) (j := at9) (by omega)
  have hs := hsol at9 (Nat.le_refl _) hat
  have hls9 : tbL M at9 nx = [l] ++ r := hls
  have tb0 : tbP ([] : List (List (List Int))).flatten + t0 = t0 := by
    show (0 : Int) + 15 * 0 + t0 = t0
    omega
  have n345 : ∀ k, ¬ AlTm nw 345 k := fun k => by
    unfold AlTm AlTe AlBt
    rintro (((h | h | h) | h) | h)
    · exact absurd h.1 (by decide)
    · exact absurd h (by decide)
    · exact absurd h.1 (by decide)
    · exact absurd h (by decide)
    · exact absurd h (by decide)
  have a60 : ∀ k, k < 8 → alN (al60.getD k 0) = 0 := by decide
  rw [hls] at hy hn
  refine R_table.i (R_begins.p (by decide) (fun σ1 f1 be h161 => ?_))
  obtain ⟨b1, b2, b3, b4, b5, b6, b7, b8⟩ := be
  refine trr_7 (σ0 := σ1) (fun σ2 f2 v2 => ?_) 8 0 σ1 (by omega) FrZ.rf (fun k hk => absurd hk (Nat.not_lt_zero _))
  have c1 : CbR σ1 E nw b.1 0 := by
    have r1 := hR.1.z f1 (by simp) (by decide)
    exact ⟨⟨r1.1, r1.2.1, r1.2.2.1⟩, b1, ⟨hR.2.2.1.1.z f1 (by simp) (by decide), hR.2.2.1.2.1.z f1 (by simp), hR.2.2.1.2.2.1.z f1 (by simp) (by decide), (f1.f (by decide) (by simp)).trans hR.2.2.1.2.2.2.1, (f1.f (by decide) (by simp)).trans hR.2.2.1.2.2.2.2⟩, hR.2.2.2.1.z f1 (by simp) (by decide), hR.2.1.k f1 (by simp) (by decide), ⟨b2, b4, b5, b6, b7, b8⟩⟩
  have t2 : TlS σ2 E nw b.1 [] := ⟨c1.k f2 (by decide) (by simp), fun j hj => absurd hj (Nat.not_lt_zero _), fun k hk => (v2 k hk).2, fun i hi => absurd hi (Nat.not_lt_zero _)⟩
  have g2 : FrTn nw σ σ2 := by
    have h1 : FrTn nw σ σ1 := FrTn.m (FrTm.z f1 (by simp) (by decide))
    refine h1.tr ⟨f2.1, f2.2.1, fun z k n => f2.2.2 z k (fun e => n ?_) (Or.inr (by simp))⟩
    simp only [List.mem_cons, List.not_mem_nil, or_false] at e
    rcases e with e | e
    · exact Or.inr e
    · exact Or.inl (Or.inl (Or.inr (by rw [e]; decide)))
  have e28 : mV σ2 246 28 = 0 := t2.1.1.1
  have endq : ∀ (q : (List (List (List Int)) × List Int) × TS) (σ3 : MS), tbA E M (l :: r) b.1 = .inl q → TlS σ3 E nw q.2 q.1.1 → (∀ k, k < 8 → mV σ3 345 k = alN (q.1.2.getD k 0)) → FrTn nw σ σ3 → R_table_44 (at9 : Int) ((nx : Int) - (at9 : Int)) (q.1.1.flatten.length : Int) (q.1.1.length : Int) (tbC q.1.1 : Int) (nx : Int) σ3 Q := fun q σ3 h1 h2 h3 h4 => R_table_44.i ⟨by unfold Rg; omega, by unfold Rg; omega, fun _ => hy q σ3 h1 h2 h3 h4, fun h => absurd h (by omega)⟩
  refine R_table_44.i ⟨by unfold Rg; omega, by unfold Rg; omega, fun h => absurd h (by omega), fun _ => ⟨fun h => absurd e28 h, fun _ => ?_⟩⟩
  refine (R_parts.p (i := at9) (c0 := 0) (hSc.tn g2) (by omega) hs (by decide) e28 (fun X σ3 hX h8 f3 p3 o3 => ?_) (fun h8 σ3 x f3 e9 rx => ?_) : R_parts (at9 : Int) ((0 : Nat) : Int) σ2 _)
  · have t3 := t2.pt f3 (fun z k _ hk => absurd hk (Nat.not_lt_zero _))
    have g3 : FrTn nw σ σ3 := g2.tr (FrTn.m (FrTm.z f3 (by decide) (by simp)))
    have e8 : ¬ 8 < (tcL M l.1 l.2).length := by
      rw [← el, ← hX]
      omega
    have eX : tcL M l.1 l.2 = X := by rw [hX, el]
    have z3 : ∀ k, k < 8 → mV σ3 345 k = 0 := fun k hk => (f3.z (by decide) (by decide)).trans (v2 k hk).1
    have sc3 := hSc.tn g3
    show (mV σ3 246 28 = 0 → _) ∧ (¬ mV σ3 246 28 = 0 → _)
    refine ⟨fun _ => ⟨by unfold Rg; omega, by unfold Rg; omega, fun h => absurd rfl h, fun _ => ?_⟩, fun h => absurd t3.1.1.1 h⟩
    refine (R_aligns.p (c0 := 0) (a9 := ((mlL M).getD at9 (0, 0)).1 + 1) (e9 := ((mlL M).getD at9 (0, 0)).2) sc3.2.2.1 sc3.2.1 hb.2 (by rw [hX]; exact tcL_b hs hb.2) h8 p3 (by decide) (fun hA σ4 f4 v4 => ?_) (fun hA σ4 f4 v4 => ?_) : R_aligns ((0 : Nat) : Int) (X.length : Int) σ3 _)
    · show ((1 : Int) = 0 → _) ∧ (¬ (1 : Int) = 0 → _)
      refine ⟨fun h => absurd h (by decide), fun _ => R_table_275.i ?_⟩
      have t4 := t3.al f4
      have g4 : FrTn nw σ σ4 := g3.tr (FrTn.a f4)
      have vA : ∀ k, k < 8 → mV σ4 345 k = alN ((tcV M X).getD k 0) := fun k hk => by
        rw [v4 k hk]
        unfold tcV
        rw [ofF_get hk]
        split
        · rfl
        · rw [z3 k hk]
          rfl
      have key := trr_44 (Q := Q) (σ0 := σ4) (at9 := at9) (nx := nx) (E := E) (nw := nw) (t0 := t0) hE hE2 hMb (hSc.tn g4) ht0 hnx hsol (by omega) rfl r [l] [] b.1 σ4 hls9 (Nat.le_refl _) (Nat.zero_le _) t4 (by rw [tb0]; exact hTI) ⟨rfl, rfl, fun _ _ _ => rfl⟩ (fun v σ5 v1 t5 i5 g5 => endq ((v.1, tcV M X), v.2) σ5 (by rw [tbA_c, if_neg e8, eX, if_pos hA, v1]) t5 (fun k hk => (g5.2.2 345 k (n345 k)).trans (vA k hk)) (g4.tr (FrTn.m g5))) (fun e σ5 v1 q1 q2 g5 => hn e σ5 (by rw [tbA_c, if_neg e8, eX, if_pos hA, v1]) q1 q2 (g4.tr (FrTn.m g5)))
      exact key
    · show ((0 : Int) = 0 → _) ∧ (¬ (0 : Int) = 0 → _)
      refine ⟨fun _ => ?_, fun h => absurd rfl h⟩
      have hA9 : ¬ tcA M X = true := by rw [hA]; decide
      have t4 := t3.al f4
      have g4 : FrTn nw σ σ4 := g3.tr (FrTn.a f4)
      have p4 : PtS σ4 ([] : List (List (List Int))).flatten.length X := fun k hk => ⟨(f4.z (by decide) (by decide)).trans (p3 k hk).1, (f4.z (by decide) (by decide)).trans (p3 k hk).2⟩
      have eA : ∀ x, tbR E M (l :: r) b.1 = x → tbA E M (l :: r) b.1 = (match x with
          | .inr e => .inr e
          | .inl v => .inl ((v.1, al60), v.2)) := fun x hx => by
        rw [← hx, tbA_c, if_neg e8, eX, if_neg hA9]
        rfl
      refine trr_95 (k9 := at9) (R := []) hE hE2 hMb (hSc.tn g4) (by omega) hs ht0 (by decide) hX h8 t4 p4 (by rw [tb0]; exact hTI) (fun w σ5 w1 t5 i5 g5 => ?_) (fun e σ5 w1 q1 q2 g5 => hn e σ5 (eA (.inr e) (by
        unfold tbR
        rw [if_neg e8, eX, w1])) q1 q2 (g4.tr (FrTn.m g5)))
      have eR : ∀ x, tbR E M r w.2 = x → tbR E M (l :: r) b.1 = (match x with
          | .inr e => (.inr e : (List (List (List Int)) × TS) ⊕ (Int × Int × Int))
          | .inl v => .inl (w.1 :: v.1, v.2)) := fun x hx => by
        unfold tbR
        rw [if_neg e8, eX, w1]
        show (match tbR E M r w.2 with
          | .inr e => (.inr e : (List (List (List Int)) × TS) ⊕ (Int × Int × Int))
          | .inl v => .inl (w.1 :: v.1, v.2)) = _
        rw [hx]
      have key := trr_44 (Q := Q) (σ0 := σ4) (at9 := at9) (nx := nx) (E := E) (nw := nw) (t0 := t0) hE hE2 hMb (hSc.tn g4) ht0 hnx hsol (by omega) rfl r [l] ([] ++ [w.1]) w.2 σ5 hls9 (Nat.le_refl _) (Nat.le_refl _) t5 i5 g5 (fun v σ6 v1 t6 i6 g6 => endq ((w.1 :: v.1, al60), v.2) σ6 (eA _ (eR _ v1)) t6 (fun k hk => (g6.2.2 345 k (n345 k)).trans ((v4 k hk).trans (a60 k hk).symm)) (g4.tr (FrTn.m g6))) (fun e σ6 v1 q1 q2 g6 => hn e σ6 (eA _ (eR _ v1)) q1 q2 (g4.tr (FrTn.m g6)))
      exact key
  · show (mV σ3 246 28 = 0 → _) ∧ (¬ mV σ3 246 28 = 0 → _)
    refine ⟨fun h => absurd (e9.symm.trans h) (by decide), fun _ => hn (9, b.1.1.1, b.1.1.2.1) σ3 ?_ ⟨e9, (f3.f (by decide) (by decide)).trans t2.1.1.2.1, (f3.f (by decide) (by decide)).trans t2.1.1.2.2⟩ (t2.1.2.2.2.1.z f3 (by decide) (by decide)) (g2.tr (FrTn.m (FrTm.z f3 (by decide) (by decide))))⟩
    rw [tbA_c, if_pos (by rw [← el]; omega)]
end
