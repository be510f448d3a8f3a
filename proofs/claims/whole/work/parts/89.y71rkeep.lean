/-! DIRECTIVES: patterns and exceptions are kept, the reference -/
def HyP1 (σ : MS) (P : List (List Int)) : Prop := mV σ 246 47 = (P.length : Int) ∧ ∀ p, p < P.length → mV σ 271 p = ((paL (P.getD p [])).length : Int) ∧ holA σ 269 (16 * p) (paL (P.getD p [])) ∧ ∀ k, k ≤ (paL (P.getD p [])).length → mV σ 270 (17 * p + k) = paG (P.getD p []) k 0
def HyX1 (σ : MS) (X : List (List Int)) : Prop := mV σ 246 48 = (X.length : Int) ∧ ∀ x, x < X.length → mV σ 274 x = ((exL (X.getD x [])).length : Int) ∧ holA σ 272 (24 * x) (exL (X.getD x [])) ∧ ∀ k, k < (exL (X.getD x [])).length → (¬ mV σ 273 (25 * x + k) = 0 ↔ exH (X.getD x []) k 0 = true)
section
variable {σ σ0 : MS} {Q : MQ9} {x0 : Nat} {T W : List Int} {P X : List (List Int)}
theorem paG_last {b : List Int} (h : ∀ b' d, b = b' ++ [d] → sDi d = false) : paG b (paL b).length 0 = 0 := by
  by_cases hb : b = []
  · rw [hb]
    rfl
  · obtain ⟨b', d, rfl⟩ := snoc_of (L := b) (List.length_pos_iff.mpr hb)
    have hd := h b' d rfl
    rw [paL_app, paL_c hd, List.length_append, List.length_singleton, paG_app, paG_hi (by omega), paG_c, if_neg (by rw [hd]; decide)]
    rfl
theorem kp_37 {n : Nat} (hW : LnR σ0 x0 W) (hb : smB W) (hg : ∀ j, j < W.length → pg1 W j = true) (hl : W.length ≤ 16) (hn : n < 120) (h47 : mV σ0 246 47 = (n : Int)) (hq : ∀ σ', FrZ [269, 270] [] σ0 σ' → (∀ k, k < 16 * n → mV σ' 269 k = mV σ0 269 k) → (∀ k, k < 17 * n → mV σ' 270 k = mV σ0 270 k) → holA σ' 269 (16 * n) (paL W) → (∀ k, k ≤ 16 → mV σ' 270 (17 * n + k) = paG W k 0) → R_keepPattern_37 ((x0 + W.length : Nat) : Int) ((paL W).length : Int) ((x0 + W.length : Nat) : Int) σ' Q) : ∀ (rs b : List Int) (σ : MS), W = b ++ rs → FrZ [269, 270] [] σ0 σ → (∀ k, k < 16 * n → mV σ 269 k = mV σ0 269 k) → (∀ k, k < 17 * n → mV σ 270 k = mV σ0 270 k) → holA σ 269 (16 * n) (paL b) → (∀ k, k ≤ 16 → mV σ 270 (17 * n + k) = paG b k 0) → R_keepPattern_37 ((x0 + W.length : Nat) : Int) ((paL b).length : Int) ((x0 + b.length : Nat) : Int) σ Q
  | [], b, σ, he, hf, h1, h2, h3, h4 => by
    rw [List.append_nil] at he
    subst he
    exact hq σ hf h1 h2 h3 h4
  | c :: rs, b, σ, he, hf, h1, h2, h3, h4 => by
    have l0 := hW.1
    have hlen : W.length = b.length + 1 + rs.length := by rw [he, List.length_append, List.length_cons]; omega
    have hbl : (paL b).length ≤ b.length := List.length_filter_le _ _
    have hc : W.getD b.length 0 = c := by
      rw [he, List.getD_eq_getElem?_getD, List.getElem?_append_right (Nat.le_refl _), Nat.sub_self]
      rfl
    have hx : mV σ 252 (x0 + b.length) = c := by
      rw [hf.z (by decide) (by decide), hW.2 b.length (by omega)]
      exact hc
    have hcb : 0 ≤ c ∧ c ≤ 127 := hb c (by rw [he]; simp)
    have v47 : mV σ 246 47 = (n : Int) := (hf.f (by decide) (by decide)).trans h47
    have lb : (b ++ [c]).length = b.length + 1 := by rw [List.length_append, List.length_singleton]
    have he2 : W = (b ++ [c]) ++ rs := by rw [he, List.append_assoc]; rfl
    refine R_keepPattern_37.i ⟨by unfold Rg; omega, by unfold Rg; omega, fun h9 => absurd h9 (by omega), fun _ => ⟨by omega, by omega, ?_⟩⟩
    rw [Int.toNat_natCast, hx]
    refine R_isDigit.s (by unfold Rg; omega) ⟨fun h9 => ?_, fun h9 => ?_⟩
    · have hd := bZ_z h9
      rw [v47, hx, show (16 * (n : Int) + ((paL b).length : Int)).toNat = 16 * n + (paL b).length by omega, b8_id (by omega)]
      refine ⟨by omega, by omega, by omega, by omega, R_keepPattern_108.i ?_⟩
      have e : paL (b ++ [c]) = paL b ++ [c] := by rw [paL_app, paL_c hd]
      have := kp_37 hW hb hg hl hn h47 hq rs (b ++ [c]) (wV σ 269 (16 * n + (paL b).length) c) he2 (hf.tr (FrZ.wz (by decide))) (fun k hk => by rw [wV_ne (Or.inr (by omega))]; exact h1 k hk) (fun k hk => by rw [wV_ne (Or.inl (by decide))]; exact h2 k hk) (fun i hi => ?_) (fun k hk => ?_)
      · rw [e, lb, List.length_append, List.length_singleton] at this
        rw [show ((x0 + b.length : Nat) : Int) + 1 = ((x0 + (b.length + 1) : Nat) : Int) by omega, show ((paL b).length : Int) + 1 = (((paL b).length + 1 : Nat) : Int) by omega]
        exact this
      · rw [e] at hi ⊢
        rw [List.length_append, List.length_singleton] at hi
        by_cases e9 : i = (paL b).length
        · subst e9
          rw [wV_self, getD_s]
        · rw [wV_ne (Or.inr (by omega)), getD_l (by omega)]
          exact h3 i (by omega)
      · rw [wV_ne (Or.inl (by decide)), h4 k hk, paG_app, paG_c, if_neg (by rw [hd]; decide)]
        show paG b k 0 = max (paG b k 0) 0
        have := paG_n (p := b) (k := k) (m := 0)
        omega
    · have hd := bZ_ne h9
      have dd := sDi_i.mp hd
      have nd : ∀ b' d, b = b' ++ [d] → sDi d = false := fun b' d hbd => by
        have hg9 := hg b.length (by omega)
        unfold pg1 at hg9
        have hp : W.getD (b.length - 1) 0 = d := by
          rw [he, hbd, List.append_assoc, List.length_append, List.length_singleton, Nat.add_sub_cancel, List.getD_eq_getElem?_getD, List.getElem?_append_right (Nat.le_refl _), Nat.sub_self]
          rfl
        have h0 : 0 < b.length := by rw [hbd, List.length_append, List.length_singleton]; omega
        rw [hc, hd, hp, decide_eq_true h0, Bool.true_and, Bool.true_and, Bool.and_eq_true] at hg9
        cases h8 : sDi d with
        | false => rfl
        | true =>
          rw [h8] at hg9
          exact absurd hg9.2 (by decide)
      have z0 := paG_last nd
      rw [v47, hx, show (17 * (n : Int) + ((paL b).length : Int)).toNat = 17 * n + (paL b).length by omega, show b8 (c - 48) = c - 48 from b8_id (by omega), show b8 (c - 48) = c - 48 from b8_id (by omega)]
      refine ⟨by omega, by omega, by omega, by omega, R_keepPattern_108.i ?_⟩
      have e : paL (b ++ [c]) = paL b := by rw [paL_app, paL_d hd, List.append_nil]
      have := kp_37 hW hb hg hl hn h47 hq rs (b ++ [c]) (wV σ 270 (17 * n + (paL b).length) (c - 48)) he2 (hf.tr (FrZ.wz (by decide))) (fun k hk => by rw [wV_ne (Or.inl (by decide))]; exact h1 k hk) (fun k hk => by rw [wV_ne (Or.inr (by omega))]; exact h2 k hk) (fun i hi => ?_) (fun k hk => ?_)
      · rw [e, lb] at this
        rw [show ((x0 + b.length : Nat) : Int) + 1 = ((x0 + (b.length + 1) : Nat) : Int) by omega]
        exact this
      · rw [e] at hi ⊢
        rw [wV_ne (Or.inl (by decide))]
        exact h3 i hi
      · have e9 : paG [c] k (0 + (paL b).length) = if (paL b).length = k then max (c - 48) 0 else 0 := by
          rw [paG_c, if_pos hd, Nat.zero_add]
          rfl
        rw [paG_app, e9]
        by_cases h8 : k = (paL b).length
        · subst h8
          rw [wV_self, if_pos rfl, z0]
          omega
        · rw [wV_ne (Or.inr (by omega)), h4 k hk, if_neg (by omega)]
          have := paG_n (p := b) (k := k) (m := 0)
          omega
theorem R_keepPattern.p (hW : LnR σ x0 W) (hb : smB W) (hok : paOk W = true) (hP : HyP1 σ P) (hPb : smW 16 P) (hPl : P.length < 120) (hq : ∀ σ', FrZ [269, 270, 271] [47] σ σ' → HyP1 σ' (P ++ [W]) → Q (.inl none) σ') : R_keepPattern (x0 : Int) ((x0 + W.length : Nat) : Int) σ Q := by
  have l0 := hW.1
  unfold paOk at hok
  rw [Bool.and_eq_true, Bool.and_eq_true, decide_eq_true_iff] at hok
  have hg := allR_i.mp hok.1
  have hl := hok.2.2
  obtain ⟨h47, hPp⟩ := hP
  have hWl : (paL W).length ≤ W.length := List.length_filter_le _ _
  refine R_keepPattern.i ?_
  refine loopF (P := fun i σ' => R_keepPattern_5 (x0 : Int) ((x0 + W.length : Nat) : Int) 0 i σ' Q) (z := 270) (a := 17 * P.length) (n := 17) (f := fun _ => 0) (fun i hi k9 => ?_) ?_
  · have t : mV (wF σ 270 (17 * P.length) (ofF (fun _ => 0) i)) 246 47 = (P.length : Int) := by rw [wF_ne (Or.inl (by decide))]; exact h47
    refine R_keepPattern_5.i ⟨by unfold Rg; omega, fun h9 => absurd h9 (by omega), fun _ => ?_⟩
    rw [t, show (17 * (P.length : Int) + (i : Int)).toNat = 17 * P.length + i by omega]
    exact ⟨by omega, by omega, k9⟩
  · generalize hσ1 : wF σ 270 (17 * P.length) (ofF (fun _ => 0) 17) = σ1
    have f1 : FrZ [269, 270] [] σ σ1 := by rw [← hσ1]; exact FrZ.wF (by decide)
    have v47 : mV σ1 246 47 = (P.length : Int) := (f1.f (by decide) (by decide)).trans h47
    show R_keepPattern_5 (x0 : Int) ((x0 + W.length : Nat) : Int) 0 ((17 : Nat) : Int) σ1 Q
    refine R_keepPattern_5.i ⟨by decide, fun _ => ?_, fun h9 => absurd h9 (by decide)⟩
    refine kp_37 (σ0 := σ1) (n := P.length) ⟨l0, fun i hi => by rw [f1.z (by decide) (by decide)]; exact hW.2 i hi⟩ hb hg hl hPl v47 (fun σ2 f2 a1 a2 a3 a4 => ?_) W [] σ1 rfl FrZ.rf (fun _ _ => rfl) (fun _ _ => rfl) (fun i hi => absurd hi (Nat.not_lt_zero _)) (fun k hk => ?_)
    · have w47 : mV σ2 246 47 = (P.length : Int) := (f2.f (by decide) (by decide)).trans v47
      refine R_keepPattern_37.i ⟨by unfold Rg; omega, by unfold Rg; omega, fun _ => ?_, fun h9 => absurd h9 (by omega)⟩
      rw [w47, Int.toNat_natCast]
      refine ⟨by omega, by omega, by unfold Rg; omega, by unfold Rg; omega, ?_⟩
      have f3 : FrZ [269, 270, 271] [47] σ (wV (wV σ2 271 P.length ((paL W).length : Int)) 246 47 ((P.length : Int) + 1)) := (((f1.mo (by decide) (by decide)).tr (f2.mo (by decide) (by decide))).tr (FrZ.wz (by decide))).tr (FrZ.wf (by decide))
      refine hq _ f3 ⟨?_, fun p hp => ?_⟩
      · rw [wV_self, List.length_append, List.length_singleton]
        omega
      · rw [List.length_append, List.length_singleton] at hp
        by_cases e : p = P.length
        · subst e
          have eg : (P ++ [W]).getD P.length [] = W := getD_at
          rw [eg]
          refine ⟨?_, a3.cg (fun k _ _ => ?_), fun k hk => ?_⟩
          · rw [wV_ne (Or.inl (by decide)), wV_self]
          · rw [wV_ne (Or.inl (by decide)), wV_ne (Or.inl (by decide))]
          · rw [wV_ne (Or.inl (by decide)), wV_ne (Or.inl (by decide))]
            exact a4 k (by omega)
        · have eg : (P ++ [W]).getD p [] = P.getD p [] := by
            rw [List.getD_eq_getElem?_getD, List.getD_eq_getElem?_getD, List.getElem?_append_left (by omega)]
          rw [eg]
          obtain ⟨d1, d2, d3⟩ := hPp p (by omega)
          have h16 := (hPb.at p).1
          have hpl : (paL (P.getD p [])).length ≤ (P.getD p []).length := List.length_filter_le _ _
          refine ⟨?_, d2.cg (fun k k1 k2 => ?_), fun k hk => ?_⟩
          · rw [wV_ne (Or.inl (by decide)), wV_ne (Or.inr e), f2.z (by decide) (by decide), f1.z (by decide) (by decide)]
            exact d1
          · have k2 : k < 16 * p + (paL (P.getD p [])).length := k2
            rw [wV_ne (Or.inl (by decide)), wV_ne (Or.inl (by decide)), a1 k (by omega), ← hσ1, wF_ne (Or.inl (by decide))]
          · rw [wV_ne (Or.inl (by decide)), wV_ne (Or.inl (by decide)), a2 _ (by omega), ← hσ1, wF_ne (Or.inr (Or.inl (by omega)))]
            exact d3 k hk
    · rw [← hσ1, wF_at (by rw [ofF_len]; omega), ofF_get (by omega)]
      rfl
theorem ke_37 {n : Nat} (hW : LnR σ0 x0 W) (hb : smB W) (hl : W.length ≤ 24) (hn : n < 60) (h48 : mV σ0 246 48 = (n : Int)) (hq : ∀ σ', FrZ [272, 273] [] σ0 σ' → (∀ k, k < 24 * n → mV σ' 272 k = mV σ0 272 k) → (∀ k, k < 25 * n → mV σ' 273 k = mV σ0 273 k) → holA σ' 272 (24 * n) (exL W) → (∀ k, k ≤ 24 → (¬ mV σ' 273 (25 * n + k) = 0 ↔ exH W k 0 = true)) → R_keepException_37 ((x0 + W.length : Nat) : Int) ((exL W).length : Int) ((x0 + W.length : Nat) : Int) σ' Q) : ∀ (rs b : List Int) (σ : MS), W = b ++ rs → FrZ [272, 273] [] σ0 σ → (∀ k, k < 24 * n → mV σ 272 k = mV σ0 272 k) → (∀ k, k < 25 * n → mV σ 273 k = mV σ0 273 k) → holA σ 272 (24 * n) (exL b) → (∀ k, k ≤ 24 → (¬ mV σ 273 (25 * n + k) = 0 ↔ exH b k 0 = true)) → R_keepException_37 ((x0 + W.length : Nat) : Int) ((exL b).length : Int) ((x0 + b.length : Nat) : Int) σ Q
  | [], b, σ, he, hf, h1, h2, h3, h4 => by
    rw [List.append_nil] at he
    subst he
    exact hq σ hf h1 h2 h3 h4
  | c :: rs, b, σ, he, hf, h1, h2, h3, h4 => by
    have l0 := hW.1
    have hlen : W.length = b.length + 1 + rs.length := by rw [he, List.length_append, List.length_cons]; omega
    have hbl : (exL b).length ≤ b.length := List.length_filter_le _ _
    have hc : W.getD b.length 0 = c := by
      rw [he, List.getD_eq_getElem?_getD, List.getElem?_append_right (Nat.le_refl _), Nat.sub_self]
      rfl
    have hx : mV σ 252 (x0 + b.length) = c := by
      rw [hf.z (by decide) (by decide), hW.2 b.length (by omega)]
      exact hc
    have hcb : 0 ≤ c ∧ c ≤ 127 := hb c (by rw [he]; simp)
    have v48 : mV σ 246 48 = (n : Int) := (hf.f (by decide) (by decide)).trans h48
    have lb : (b ++ [c]).length = b.length + 1 := by rw [List.length_append, List.length_singleton]
    have he2 : W = (b ++ [c]) ++ rs := by rw [he, List.append_assoc]; rfl
    refine R_keepException_37.i ⟨by unfold Rg; omega, by unfold Rg; omega, fun h9 => absurd h9 (by omega), fun _ => ⟨by omega, by omega, ?_⟩⟩
    rw [Int.toNat_natCast, hx, v48]
    refine ⟨fun h9 => ?_, fun h9 => ?_⟩
    · rw [show (24 * (n : Int) + ((exL b).length : Int)).toNat = 24 * n + (exL b).length by omega, b8_id (by omega)]
      refine ⟨by omega, by omega, by omega, by omega, R_keepException_97.i ?_⟩
      have e : exL (b ++ [c]) = exL b ++ [c] := by rw [exL_app, exL_c h9]
      have := ke_37 hW hb hl hn h48 hq rs (b ++ [c]) (wV σ 272 (24 * n + (exL b).length) c) he2 (hf.tr (FrZ.wz (by decide))) (fun k hk => by rw [wV_ne (Or.inr (by omega))]; exact h1 k hk) (fun k hk => by rw [wV_ne (Or.inl (by decide))]; exact h2 k hk) (fun i hi => ?_) (fun k hk => ?_)
      · rw [e, lb, List.length_append, List.length_singleton] at this
        rw [show ((x0 + b.length : Nat) : Int) + 1 = ((x0 + (b.length + 1) : Nat) : Int) by omega, show ((exL b).length : Int) + 1 = (((exL b).length + 1 : Nat) : Int) by omega]
        exact this
      · rw [e] at hi ⊢
        rw [List.length_append, List.length_singleton] at hi
        by_cases e9 : i = (exL b).length
        · subst e9
          rw [wV_self, getD_s]
        · rw [wV_ne (Or.inr (by omega)), getD_l (by omega)]
          exact h3 i (by omega)
      · have e9 : exH [c] k (0 + (exL b).length) = false := by
          rw [exH_c, if_neg h9]
          rfl
        rw [wV_ne (Or.inl (by decide)), exH_app, e9, Bool.or_false]
        exact h4 k hk
    · rw [show (25 * (n : Int) + ((exL b).length : Int)).toNat = 25 * n + (exL b).length by omega]
      refine ⟨by omega, by omega, R_keepException_97.i ?_⟩
      have e : exL (b ++ [c]) = exL b := by rw [exL_app, h9, exL_d, List.append_nil]
      have := ke_37 hW hb hl hn h48 hq rs (b ++ [c]) (wV σ 273 (25 * n + (exL b).length) (1 % 2)) he2 (hf.tr (FrZ.wz (by decide))) (fun k hk => by rw [wV_ne (Or.inl (by decide))]; exact h1 k hk) (fun k hk => by rw [wV_ne (Or.inr (by omega))]; exact h2 k hk) (fun i hi => ?_) (fun k hk => ?_)
      · rw [e, lb] at this
        rw [show ((x0 + b.length : Nat) : Int) + 1 = ((x0 + (b.length + 1) : Nat) : Int) by omega]
        exact this
      · rw [e] at hi ⊢
        rw [wV_ne (Or.inl (by decide))]
        exact h3 i hi
      · have e9 : exH [c] k (0 + (exL b).length) = decide ((exL b).length = k) := by
          rw [exH_c, if_pos h9, Nat.zero_add]
          show (decide ((exL b).length = k) || false) = _
          rw [Bool.or_false]
        rw [exH_app, e9]
        by_cases h8 : k = (exL b).length
        · subst h8
          rw [wV_self, decide_eq_true rfl, Bool.or_true]
          exact ⟨fun _ => rfl, fun _ => by decide⟩
        · rw [wV_ne (Or.inr (by omega)), decide_eq_false (fun h7 => h8 h7.symm), Bool.or_false]
          exact h4 k hk
theorem R_keepException.p (hW : LnR σ x0 W) (hb : smB W) (hok : exOk W = true) (hX : HyX1 σ X) (hXb : smW 24 X) (hXl : X.length < 60) (hq : ∀ σ', FrZ [272, 273, 274] [48] σ σ' → HyX1 σ' (X ++ [W]) → Q (.inl none) σ') : R_keepException (x0 : Int) ((x0 + W.length : Nat) : Int) σ Q := by
  have l0 := hW.1
  unfold exOk at hok
  rw [Bool.and_eq_true, decide_eq_true_iff] at hok
  have hl := hok.2.2
  obtain ⟨h48, hXx⟩ := hX
  have hWl : (exL W).length ≤ W.length := List.length_filter_le _ _
  refine R_keepException.i ?_
  refine loopF (P := fun i σ' => R_keepException_5 (x0 : Int) ((x0 + W.length : Nat) : Int) 0 i σ' Q) (z := 273) (a := 25 * X.length) (n := 25) (f := fun _ => 0) (fun i hi k9 => ?_) ?_
  · have t : mV (wF σ 273 (25 * X.length) (ofF (fun _ => 0) i)) 246 48 = (X.length : Int) := by rw [wF_ne (Or.inl (by decide))]; exact h48
    refine R_keepException_5.i ⟨by unfold Rg; omega, fun h9 => absurd h9 (by omega), fun _ => ?_⟩
    rw [t, show (25 * (X.length : Int) + (i : Int)).toNat = 25 * X.length + i by omega]
    exact ⟨by omega, by omega, k9⟩
  · generalize hσ1 : wF σ 273 (25 * X.length) (ofF (fun _ => 0) 25) = σ1
    have f1 : FrZ [272, 273] [] σ σ1 := by rw [← hσ1]; exact FrZ.wF (by decide)
    have v48 : mV σ1 246 48 = (X.length : Int) := (f1.f (by decide) (by decide)).trans h48
    show R_keepException_5 (x0 : Int) ((x0 + W.length : Nat) : Int) 0 ((25 : Nat) : Int) σ1 Q
    refine R_keepException_5.i ⟨by decide, fun _ => ?_, fun h9 => absurd h9 (by decide)⟩
    refine ke_37 (σ0 := σ1) (n := X.length) ⟨l0, fun i hi => by rw [f1.z (by decide) (by decide)]; exact hW.2 i hi⟩ hb hl hXl v48 (fun σ2 f2 a1 a2 a3 a4 => ?_) W [] σ1 rfl FrZ.rf (fun _ _ => rfl) (fun _ _ => rfl) (fun i hi => absurd hi (Nat.not_lt_zero _)) (fun k hk => ?_)
    · have w48 : mV σ2 246 48 = (X.length : Int) := (f2.f (by decide) (by decide)).trans v48
      refine R_keepException_37.i ⟨by unfold Rg; omega, by unfold Rg; omega, fun _ => ?_, fun h9 => absurd h9 (by omega)⟩
      rw [w48, Int.toNat_natCast]
      refine ⟨by omega, by omega, by unfold Rg; omega, by unfold Rg; omega, ?_⟩
      have f3 : FrZ [272, 273, 274] [48] σ (wV (wV σ2 274 X.length ((exL W).length : Int)) 246 48 ((X.length : Int) + 1)) := (((f1.mo (by decide) (by decide)).tr (f2.mo (by decide) (by decide))).tr (FrZ.wz (by decide))).tr (FrZ.wf (by decide))
      refine hq _ f3 ⟨?_, fun p hp => ?_⟩
      · rw [wV_self, List.length_append, List.length_singleton]
        omega
      · rw [List.length_append, List.length_singleton] at hp
        by_cases e : p = X.length
        · subst e
          have eg : (X ++ [W]).getD X.length [] = W := getD_at
          rw [eg]
          refine ⟨?_, a3.cg (fun k _ _ => ?_), fun k hk => ?_⟩
          · rw [wV_ne (Or.inl (by decide)), wV_self]
          · rw [wV_ne (Or.inl (by decide)), wV_ne (Or.inl (by decide))]
          · rw [wV_ne (Or.inl (by decide)), wV_ne (Or.inl (by decide))]
            exact a4 k (by omega)
        · have eg : (X ++ [W]).getD p [] = X.getD p [] := by
            rw [List.getD_eq_getElem?_getD, List.getD_eq_getElem?_getD, List.getElem?_append_left (by omega)]
          rw [eg]
          obtain ⟨d1, d2, d3⟩ := hXx p (by omega)
          have h24 := (hXb.at p).1
          have hpl : (exL (X.getD p [])).length ≤ (X.getD p []).length := List.length_filter_le _ _
          refine ⟨?_, d2.cg (fun k k1 k2 => ?_), fun k hk => ?_⟩
          · rw [wV_ne (Or.inl (by decide)), wV_ne (Or.inr e), f2.z (by decide) (by decide), f1.z (by decide) (by decide)]
            exact d1
          · have k2 : k < 24 * p + (exL (X.getD p [])).length := k2
            rw [wV_ne (Or.inl (by decide)), wV_ne (Or.inl (by decide)), a1 k (by omega), ← hσ1, wF_ne (Or.inl (by decide))]
          · rw [wV_ne (Or.inl (by decide)), wV_ne (Or.inl (by decide)), a2 _ (by omega), ← hσ1, wF_ne (Or.inr (Or.inl (by omega)))]
            exact d3 k hk
    · rw [← hσ1, wF_at (by rw [ofF_len]; omega), ofF_get (by omega)]
      exact ⟨fun h9 => absurd rfl h9, fun h9 => absurd (show false = true from h9) (by decide)⟩
end
