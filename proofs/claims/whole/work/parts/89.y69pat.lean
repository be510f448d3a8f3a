/-! DIRECTIVES: what is a pattern, what an exception -/
def pg1 (W : List Int) (i : Nat) : Bool := (sSm (W.getD i 0) || (sDi (W.getD i 0) || decide (W.getD i 0 = 46))) && !(decide (0 < i) && (sDi (W.getD i 0) && sDi (W.getD (i - 1) 0)))
def paOk (W : List Int) : Bool := allR (pg1 W) W.length && (W.any sSm && decide (W.length ≤ 16))
def xg1 (W : List Int) (i : Nat) : Bool := (decide (W.getD i 0 = 45) || sSm (W.getD i 0)) && !(decide (W.getD i 0 = 45) && (decide (i = 0) || (decide (i + 1 = W.length) || decide (W.getD (i - 1) 0 = 45))))
def exOk (W : List Int) : Bool := allR (xg1 W) W.length && decide (2 ≤ W.length ∧ W.length ≤ 24)
theorem allR_no {f : Nat → Bool} {n i : Nat} (hi : i < n) (h : f i = false) : allR f n = false := by
  cases h9 : allR f n with
  | false => rfl
  | true =>
    have := allR_i.mp h9 i hi
    rw [h] at this
    exact absurd this (by decide)
theorem any_sn {W : List Int} {i : Nat} (h : i < W.length) : (W.take (i + 1)).any sSm = ((W.take i).any sSm || sSm (W.getD i 0)) := by
  rw [take_sn h, List.any_append]
  simp
section
variable {σ : MS} {Q : MQ9} {q x0 : Nat} {T W : List Int}
theorem LnC.sg {a b : Nat} (hT : LnC σ q x0 T) (hab : a ≤ b) (hb : b ≤ T.length) : LnC σ q (x0 + a) (sgT T a b) := by
  refine ⟨hT.1, by rw [sg_len hab hb]; have := hT.2.1; omega, fun t ht => ?_⟩
  rw [sg_len hab hb] at ht
  rw [sg_at hb ht, show ((x0 + a : Nat) : Int) + (t : Int) = (x0 : Int) + ((a + t : Nat) : Int) by omega]
  exact hT.2.2 (a + t) (by omega)
theorem LnR.sg {a b : Nat} (hT : LnR σ x0 T) (hab : a ≤ b) (hb : b ≤ T.length) : LnR σ (x0 + a) (sgT T a b) := ⟨by rw [sg_len hab hb]; have := hT.1; omega, hT.2.sg hab hb⟩
theorem pat_5 (hW : LnC σ q x0 W) (hb : smB W) (hq : Q (.inl (some (bZ (paOk W)))) σ) : ∀ (m i : Nat), i + m = W.length → (∀ j, j < i → pg1 W j = true) → Rules_isPattern_5 q (x0 : Int) ((x0 + W.length : Nat) : Int) (bZ ((W.take i).any sSm)) ((x0 + i : Nat) : Int) σ Q := by
  have l0 := hW.2.1
  intro m
  induction m with
  | zero =>
    intro i hi hg
    have e : i = W.length := by omega
    subst e
    rw [List.take_length]
    have ga : allR (pg1 W) W.length = true := allR_i.mpr hg
    unfold paOk at hq
    rw [ga, Bool.true_and] at hq
    refine Rules_isPattern_5.i ⟨by unfold Rg; omega, by unfold Rg; omega, fun _ => ⟨fun h9 => ?_, fun h9 => ⟨by unfold Rg; omega, fun h8 => ?_, fun h8 => ?_⟩⟩, fun h9 => absurd h9 (by omega)⟩
    · rw [bZ_z h9] at hq
      exact hq
    · rw [bZ_ne h9, decide_eq_false (by omega)] at hq
      exact hq
    · rw [bZ_ne h9, decide_eq_true (by omega)] at hq
      exact hq
  | succ m ih =>
    intro i hi hg
    have hlt : i < W.length := by omega
    have hcb := hb.gd hlt
    have hx : rgt (mX σ q) ((x0 + i : Nat) : Int) = W.getD i 0 := by
      rw [show ((x0 + i : Nat) : Int) = (x0 : Int) + (i : Int) by omega]
      exact hW.2.2 i hlt
    have no : pg1 W i = false → Q (.inl (some 0)) σ := fun h9 => by
      unfold paOk at hq
      rw [allR_no hlt h9] at hq
      exact hq
    have c92 : pg1 W i = true → ∀ t : Bool, t = ((W.take i).any sSm || sSm (W.getD i 0)) → Rules_isPattern_92 q (x0 : Int) ((x0 + W.length : Nat) : Int) (bZ t) ((x0 + i : Nat) : Int) σ Q := fun h9 t ht => by
      have := ih (i + 1) (by omega) (fun j hj => by
        by_cases e : j = i
        · rw [e]
          exact h9
        · exact hg j (by omega))
      rw [any_sn hlt, ← ht] at this
      refine Rules_isPattern_92.i ?_
      rw [show ((x0 + i : Nat) : Int) + 1 = ((x0 + (i + 1) : Nat) : Int) by omega]
      exact this
    have c62 : (sSm (W.getD i 0) || (sDi (W.getD i 0) || decide (W.getD i 0 = 46))) = true → ∀ t : Bool, t = ((W.take i).any sSm || sSm (W.getD i 0)) → Rules_isPattern_62 q (x0 : Int) ((x0 + W.length : Nat) : Int) (bZ t) ((x0 + i : Nat) : Int) (W.getD i 0) σ Q := fun h9 t ht => by
      have hp : pg1 W i = !(decide (0 < i) && (sDi (W.getD i 0) && sDi (W.getD (i - 1) 0))) := by
        unfold pg1
        rw [h9, Bool.true_and]
      refine Rules_isPattern_62.i ⟨by unfold Rg; omega, by unfold Rg; omega, fun h8 => c92 ?_ t ht, fun h8 => T_isDigit.s (by unfold Rg; omega) ⟨fun h7 => c92 ?_ t ht, fun h7 => tB.i hW.1 (tB.i hW.1 ⟨by unfold Rg; omega, ?_⟩)⟩⟩
      · rw [hp, decide_eq_false (by omega), Bool.false_and]
        rfl
      · rw [hp, bZ_z h7, Bool.false_and, Bool.and_false]
        rfl
      · have hx1 : rgt (mX σ q) (((x0 + i : Nat) : Int) - 1) = W.getD (i - 1) 0 := by
          rw [show ((x0 + i : Nat) : Int) - 1 = (x0 : Int) + ((i - 1 : Nat) : Int) by omega]
          exact hW.2.2 (i - 1) (by omega)
        have hcb1 := hb.gd (t := i - 1) (by omega)
        rw [hx1]
        refine T_isDigit.s (by unfold Rg; omega) ⟨fun h6 => c92 ?_ t ht, fun h6 => no ?_⟩
        · rw [hp, bZ_z h6, Bool.and_false, Bool.and_false]
          rfl
        · rw [hp, bZ_ne h6, bZ_ne h7, decide_eq_true (by omega)]
          rfl
    have c36 : ∀ t : Bool, t = ((W.take i).any sSm || sSm (W.getD i 0)) → Rules_isPattern_36 q (x0 : Int) ((x0 + W.length : Nat) : Int) ((x0 + i : Nat) : Int) (W.getD i 0) (bZ t) σ Q := fun t ht => by
      refine Rules_isPattern_36.i (T_isSmall.s (by unfold Rg; omega) ⟨fun h9 => c62 (by rw [bZ_ne h9, Bool.true_or]) t ht, fun h9 => T_isDigit.s (by unfold Rg; omega) ⟨fun h8 => c62 (by rw [bZ_ne h8, Bool.true_or, Bool.or_true]) t ht, fun h8 => ⟨fun h7 => c62 (by rw [decide_eq_true h7, Bool.or_true, Bool.or_true]) t ht, fun h7 => no ?_⟩⟩⟩)
      unfold pg1
      rw [bZ_z h9, bZ_z h8, decide_eq_false h7]
      rfl
    refine Rules_isPattern_5.i ⟨by unfold Rg; omega, by unfold Rg; omega, fun h9 => absurd h9 (by omega), fun _ => tB.i hW.1 (tB.i hW.1 ⟨by unfold Rg; omega, ?_⟩)⟩
    rw [hx]
    refine ⟨fun h9 => Rules_isPattern_31.i (c36 true (by rw [bZ_ne h9, Bool.true_or])), fun h9 => T_isSmall.s (by unfold Rg; omega) ⟨fun h8 => c36 false (by rw [bZ_z h9, bZ_z h8]; rfl), fun h8 => Rules_isPattern_31.i (c36 true (by rw [bZ_ne h8, Bool.or_true]))⟩⟩
theorem Rules_isPattern.c (hW : LnC σ q x0 W) (hb : smB W) (hq : Q (.inl (some (bZ (paOk W)))) σ) : Rules_isPattern q (x0 : Int) ((x0 + W.length : Nat) : Int) σ Q := Rules_isPattern.i (pat_5 hW hb hq W.length 0 (by omega) (fun j hj => absurd hj (Nat.not_lt_zero _)))
theorem ptr_5 (hW : LnR σ x0 W) (hb : smB W) (hq : Q (.inl (some (bZ (paOk W)))) σ) : ∀ (m i : Nat), i + m = W.length → (∀ j, j < i → pg1 W j = true) → R_isPattern_5 (x0 : Int) ((x0 + W.length : Nat) : Int) (bZ ((W.take i).any sSm)) ((x0 + i : Nat) : Int) σ Q := by
  have l0 := hW.1
  intro m
  induction m with
  | zero =>
    intro i hi hg
    have e : i = W.length := by omega
    subst e
    rw [List.take_length]
    have ga : allR (pg1 W) W.length = true := allR_i.mpr hg
    unfold paOk at hq
    rw [ga, Bool.true_and] at hq
    refine R_isPattern_5.i ⟨by unfold Rg; omega, by unfold Rg; omega, fun _ => ⟨fun h9 => ?_, fun h9 => ⟨by unfold Rg; omega, fun h8 => ?_, fun h8 => ?_⟩⟩, fun h9 => absurd h9 (by omega)⟩
    · rw [bZ_z h9] at hq
      exact hq
    · rw [bZ_ne h9, decide_eq_false (by omega)] at hq
      exact hq
    · rw [bZ_ne h9, decide_eq_true (by omega)] at hq
      exact hq
  | succ m ih =>
    intro i hi hg
    have hlt : i < W.length := by omega
    have hcb := hb.gd hlt
    have hx := hW.2 i hlt
    have no : pg1 W i = false → Q (.inl (some 0)) σ := fun h9 => by
      unfold paOk at hq
      rw [allR_no hlt h9] at hq
      exact hq
    have c93 : pg1 W i = true → ∀ t : Bool, t = ((W.take i).any sSm || sSm (W.getD i 0)) → R_isPattern_93 (x0 : Int) ((x0 + W.length : Nat) : Int) ((x0 + i : Nat) : Int) (bZ t) σ Q := fun h9 t ht => by
      have := ih (i + 1) (by omega) (fun j hj => by
        by_cases e : j = i
        · rw [e]
          exact h9
        · exact hg j (by omega))
      rw [any_sn hlt, ← ht] at this
      refine R_isPattern_93.i ?_
      rw [show ((x0 + i : Nat) : Int) + 1 = ((x0 + (i + 1) : Nat) : Int) by omega]
      exact this
    have c76 : pg1 W i = true → R_isPattern_76 (x0 : Int) ((x0 + W.length : Nat) : Int) (bZ ((W.take i).any sSm)) ((x0 + i : Nat) : Int) (W.getD i 0) σ Q := fun h9 => R_isPattern_76.i ⟨fun h8 => R_isPattern_88.i (c93 h9 true (by rw [bZ_ne h8, Bool.true_or])), fun h8 => R_isSmall.s (by unfold Rg; omega) ⟨fun h7 => c93 h9 false (by rw [bZ_z h8, bZ_z h7]; rfl), fun h7 => R_isPattern_88.i (c93 h9 true (by rw [bZ_ne h7, Bool.or_true]))⟩⟩
    have c45 : (sSm (W.getD i 0) || (sDi (W.getD i 0) || decide (W.getD i 0 = 46))) = true → R_isPattern_45 (x0 : Int) ((x0 + W.length : Nat) : Int) (bZ ((W.take i).any sSm)) ((x0 + i : Nat) : Int) (W.getD i 0) σ Q := fun h9 => by
      have hp : pg1 W i = !(decide (0 < i) && (sDi (W.getD i 0) && sDi (W.getD (i - 1) 0))) := by
        unfold pg1
        rw [h9, Bool.true_and]
      refine R_isPattern_45.i (R_isDigit.s (by unfold Rg; omega) ⟨fun h8 => c76 ?_, fun h8 => ⟨by unfold Rg; omega, by unfold Rg; omega, fun h7 => c76 ?_, fun h7 => ⟨by omega, by omega, ?_⟩⟩⟩)
      · rw [hp, bZ_z h8, Bool.false_and, Bool.and_false]
        rfl
      · rw [hp, decide_eq_false (by omega), Bool.false_and]
        rfl
      · have hx1 := hW.2 (i - 1) (by omega)
        have hcb1 := hb.gd (t := i - 1) (by omega)
        rw [show (((x0 + i : Nat) : Int) - 1).toNat = x0 + (i - 1) by omega, hx1]
        refine R_isDigit.s (by unfold Rg; omega) ⟨fun h6 => c76 ?_, fun h6 => no ?_⟩
        · rw [hp, bZ_z h6, Bool.and_false, Bool.and_false]
          rfl
        · rw [hp, bZ_ne h6, bZ_ne h8, decide_eq_true (by omega)]
          rfl
    refine R_isPattern_5.i ⟨by unfold Rg; omega, by unfold Rg; omega, fun h9 => absurd h9 (by omega), fun _ => ⟨by omega, by omega, ?_⟩⟩
    rw [Int.toNat_natCast, hx]
    refine R_isSmall.s (by unfold Rg; omega) ⟨fun h9 => c45 (by rw [bZ_ne h9, Bool.true_or]), fun h9 => R_isDigit.s (by unfold Rg; omega) ⟨fun h8 => c45 (by rw [bZ_ne h8, Bool.true_or, Bool.or_true]), fun h8 => ⟨fun h7 => c45 (by rw [decide_eq_true h7, Bool.or_true, Bool.or_true]), fun h7 => no ?_⟩⟩⟩
    unfold pg1
    rw [bZ_z h9, bZ_z h8, decide_eq_false h7]
    rfl
theorem R_isPattern.p (hW : LnR σ x0 W) (hb : smB W) (hq : Q (.inl (some (bZ (paOk W)))) σ) : R_isPattern (x0 : Int) ((x0 + W.length : Nat) : Int) σ Q := R_isPattern.i (ptr_5 hW hb hq W.length 0 (by omega) (fun j hj => absurd hj (Nat.not_lt_zero _)))
theorem exc_2 (hW : LnC σ q x0 W) (hb : smB W) (hq : Q (.inl (some (bZ (exOk W)))) σ) : ∀ (m i : Nat), i + m = W.length → (∀ j, j < i → xg1 W j = true) → Rules_isException_2 q (x0 : Int) ((x0 + W.length : Nat) : Int) ((x0 + i : Nat) : Int) σ Q := by
  have l0 := hW.2.1
  intro m
  induction m with
  | zero =>
    intro i hi hg
    have e : i = W.length := by omega
    subst e
    have ga : allR (xg1 W) W.length = true := allR_i.mpr hg
    unfold exOk at hq
    rw [ga, Bool.true_and] at hq
    refine Rules_isException_2.i ⟨by unfold Rg; omega, by unfold Rg; omega, fun _ => ⟨by unfold Rg; omega, fun h8 => ?_, fun h8 => ⟨by unfold Rg; omega, fun h7 => ?_, fun h7 => ?_⟩⟩, fun h9 => absurd h9 (by omega)⟩
    · rw [decide_eq_false (by omega)] at hq
      exact hq
    · rw [decide_eq_false (by omega)] at hq
      exact hq
    · rw [decide_eq_true (by omega)] at hq
      exact hq
  | succ m ih =>
    intro i hi hg
    have hlt : i < W.length := by omega
    have hcb := hb.gd hlt
    have hx : rgt (mX σ q) ((x0 + i : Nat) : Int) = W.getD i 0 := by
      rw [show ((x0 + i : Nat) : Int) = (x0 : Int) + (i : Int) by omega]
      exact hW.2.2 i hlt
    have no : xg1 W i = false → Q (.inl (some 0)) σ := fun h9 => by
      unfold exOk at hq
      rw [allR_no hlt h9] at hq
      exact hq
    have c73 : xg1 W i = true → Rules_isException_73 q (x0 : Int) ((x0 + W.length : Nat) : Int) ((x0 + i : Nat) : Int) σ Q := fun h9 => by
      refine Rules_isException_73.i ?_
      rw [show ((x0 + i : Nat) : Int) + 1 = ((x0 + (i + 1) : Nat) : Int) by omega]
      exact ih (i + 1) (by omega) (fun j hj => by
        by_cases e : j = i
        · rw [e]
          exact h9
        · exact hg j (by omega))
    refine Rules_isException_2.i ⟨by unfold Rg; omega, by unfold Rg; omega, fun h9 => absurd h9 (by omega), fun _ => tB.i hW.1 (tB.i hW.1 ⟨by unfold Rg; omega, ?_⟩)⟩
    rw [hx]
    refine ⟨fun h9 => Rules_isException_22.i ⟨fun h8 => absurd rfl h8, fun _ => tB.i hW.1 (tB.i hW.1 ⟨by unfold Rg; omega, ?_⟩)⟩, fun h9 => Rules_isException_22.i ⟨fun _ => Rules_isException_42.i ⟨fun h8 => absurd h8 (by decide), fun _ => ⟨by unfold Rg; omega, by unfold Rg; omega, fun h8 => no ?_, fun h8 => ⟨by unfold Rg; omega, by unfold Rg; omega, fun h7 => no ?_, fun h7 => tB.i hW.1 (tB.i hW.1 ⟨by unfold Rg; omega, ?_⟩)⟩⟩⟩, fun h8 => absurd h8 (by decide)⟩⟩
    · rw [hx]
      refine T_isSmall.s (by unfold Rg; omega) ⟨fun h8 => Rules_isException_42.i ⟨fun _ => c73 ?_, fun h7 => absurd rfl h7⟩, fun h8 => no ?_⟩
      · unfold xg1
        rw [decide_eq_false h9, bZ_ne h8]
        rfl
      · unfold xg1
        rw [decide_eq_false h9, bZ_z h8]
        rfl
    · unfold xg1
      rw [decide_eq_true h9, decide_eq_true (show i = 0 by omega)]
      rfl
    · unfold xg1
      rw [decide_eq_true h9, decide_eq_true (show i + 1 = W.length by omega), Bool.true_or, Bool.true_or, Bool.or_true]
      rfl
    · have hx1 : rgt (mX σ q) (((x0 + i : Nat) : Int) - 1) = W.getD (i - 1) 0 := by
        rw [show ((x0 + i : Nat) : Int) - 1 = (x0 : Int) + ((i - 1 : Nat) : Int) by omega]
        exact hW.2.2 (i - 1) (by omega)
      rw [hx1]
      refine ⟨fun h6 => c73 ?_, fun h6 => no ?_⟩
      · unfold xg1
        rw [decide_eq_true h9, decide_eq_false (show ¬ i = 0 by omega), decide_eq_false (show ¬ i + 1 = W.length by omega), decide_eq_false h6]
        rfl
      · unfold xg1
        rw [decide_eq_true h9, decide_eq_true h6, Bool.or_true, Bool.or_true]
        rfl
theorem Rules_isException.c (hW : LnC σ q x0 W) (hb : smB W) (hq : Q (.inl (some (bZ (exOk W)))) σ) : Rules_isException q (x0 : Int) ((x0 + W.length : Nat) : Int) σ Q := Rules_isException.i (exc_2 hW hb hq W.length 0 (by omega) (fun j hj => absurd hj (Nat.not_lt_zero _)))
theorem exr_43 (hW : LnR σ x0 W) (hb : smB W) (hl2 : 2 ≤ W.length ∧ W.length ≤ 24) (h0 : ¬ W.getD 0 0 = 45) (he : ¬ W.getD (W.length - 1) 0 = 45) (hq : Q (.inl (some (bZ (exOk W)))) σ) : ∀ (m i : Nat), i + m = W.length → (∀ j, j < i → xg1 W j = true) → R_isException_43 ((x0 + W.length : Nat) : Int) ((x0 + i : Nat) : Int) σ Q := by
  have l0 := hW.1
  intro m
  induction m with
  | zero =>
    intro i hi hg
    have e : i = W.length := by omega
    subst e
    have ga : allR (xg1 W) W.length = true := allR_i.mpr hg
    unfold exOk at hq
    rw [ga, Bool.true_and, decide_eq_true hl2] at hq
    exact R_isException_43.i ⟨by unfold Rg; omega, by unfold Rg; omega, fun _ => hq, fun h9 => absurd h9 (by omega)⟩
  | succ m ih =>
    intro i hi hg
    have hlt : i < W.length := by omega
    have hcb := hb.gd hlt
    have hx := hW.2 i hlt
    have no : xg1 W i = false → Q (.inl (some 0)) σ := fun h9 => by
      unfold exOk at hq
      rw [allR_no hlt h9] at hq
      exact hq
    have c97 : xg1 W i = true → R_isException_97 ((x0 + W.length : Nat) : Int) ((x0 + i : Nat) : Int) σ Q := fun h9 => by
      refine R_isException_97.i ?_
      rw [show ((x0 + i : Nat) : Int) + 1 = ((x0 + (i + 1) : Nat) : Int) by omega]
      exact ih (i + 1) (by omega) (fun j hj => by
        by_cases e : j = i
        · rw [e]
          exact h9
        · exact hg j (by omega))
    have c71 : (W.getD i 0 = 45 ∨ sSm (W.getD i 0) = true) → R_isException_71 ((x0 + W.length : Nat) : Int) ((x0 + i : Nat) : Int) σ Q := fun h9 => by
      refine R_isException_71.i ⟨by omega, by omega, ?_⟩
      rw [Int.toNat_natCast, hx]
      refine ⟨fun h8 => c97 ?_, fun h8 => ?_⟩
      · unfold xg1
        rw [decide_eq_false h8, h9.resolve_left h8]
        rfl
      · have i0 : ¬ i = 0 := fun e => by
          rw [e] at h8
          exact h0 h8
        have ie : ¬ i + 1 = W.length := fun e => by
          rw [show i = W.length - 1 by omega] at h8
          exact he h8
        have hx1 := hW.2 (i - 1) (by omega)
        refine ⟨by omega, by omega, ?_⟩
        rw [show (((x0 + i : Nat) : Int) - 1).toNat = x0 + (i - 1) by omega, hx1]
        refine ⟨fun h7 => c97 ?_, fun h7 => no ?_⟩
        · unfold xg1
          rw [decide_eq_true h8, decide_eq_false i0, decide_eq_false ie, decide_eq_false h7]
          rfl
        · unfold xg1
          rw [decide_eq_true h8, decide_eq_true h7, Bool.or_true, Bool.or_true]
          rfl
    refine R_isException_43.i ⟨by unfold Rg; omega, by unfold Rg; omega, fun h9 => absurd h9 (by omega), fun _ => ⟨by omega, by omega, ?_⟩⟩
    rw [Int.toNat_natCast, hx]
    refine R_isSmall.s (by unfold Rg; omega) ⟨fun h9 => c71 (Or.inr (bZ_ne h9)), fun h9 => ⟨by omega, by omega, ?_⟩⟩
    rw [hx]
    refine ⟨fun h8 => no ?_, fun h8 => c71 (Or.inl h8)⟩
    unfold xg1
    rw [decide_eq_false h8, bZ_z h9]
    rfl
theorem R_isException.p (hW : LnR σ x0 W) (hb : smB W) (hq : Q (.inl (some (bZ (exOk W)))) σ) : R_isException (x0 : Int) ((x0 + W.length : Nat) : Int) σ Q := by
  have l0 := hW.1
  have nl : ¬ (2 ≤ W.length ∧ W.length ≤ 24) → Q (.inl (some 0)) σ := fun h9 => by
    unfold exOk at hq
    rw [decide_eq_false h9, Bool.and_false] at hq
    exact hq
  refine R_isException.i ⟨by unfold Rg; omega, fun h9 => nl (by omega), fun h9 => ⟨by unfold Rg; omega, fun h8 => nl (by omega), fun h8 => ⟨by omega, by omega, ?_⟩⟩⟩
  have hx0 := hW.2 0 (by omega)
  have hxe := hW.2 (W.length - 1) (by omega)
  rw [Nat.add_zero] at hx0
  rw [Int.toNat_natCast, hx0]
  refine ⟨fun h7 => ?_, fun h7 => ⟨by omega, by omega, ?_⟩⟩
  · unfold exOk at hq
    rw [allR_no (i := 0) (by omega) (by unfold xg1; rw [decide_eq_true h7]; rfl)] at hq
    exact hq
  · rw [show (((x0 + W.length : Nat) : Int) - 1).toNat = x0 + (W.length - 1) by omega, hxe]
    refine ⟨fun h6 => exr_43 hW hb (by omega) h7 h6 hq W.length 0 (by omega) (fun j hj => absurd hj (Nat.not_lt_zero _)), fun h6 => ?_⟩
    unfold exOk at hq
    rw [allR_no (i := W.length - 1) (by omega) (by unfold xg1; rw [decide_eq_true h6, decide_eq_true (show W.length - 1 + 1 = W.length by omega), Bool.true_or, Bool.true_or, Bool.or_true]; rfl)] at hq
    exact hq
end
