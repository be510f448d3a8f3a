/-! FIND, LETTER; where a row stands in the manuscript -/
def eqW (w a b : Int) : Bool := if w % 4 - w % 2 = 2 then decide (lowS a = lowS b) else decide (a = b)
def inW (M : List Int) (x : Int) : Bool := sWo (rgt M x)
/-- the first n signs of the tape stand at place p, in the ways w -/
def stW (M T : List Int) (p n : Nat) (w : Int) : Bool := decide (p + n ≤ M.length) && (allR (fun i => eqW w (M.getD (p + i) 0) (T.getD i 0)) n && !(decide (w % 2 = 1) && (inW M ((p : Int) - 1) || inW M ((p : Int) + n))))
def fdL (M T : List Int) : Nat → Nat → Int
  | 0, _ => -1
  | k + 1, p => if stW M T p T.length 0 = true then (p : Int) else fdL M T k (p + 1)
def fdD (M T : List Int) (x : Int) : Int := if T.length = 0 ∨ x < 0 ∨ (M.length : Int) < x then -1 else fdL M T (M.length + 1 - T.length - x.toNat) x.toNat
theorem stW_0 {M T : List Int} {p : Nat} (h : p + T.length ≤ M.length) : stW M T p T.length 0 = allR (fun i => decide (M.getD (p + i) 0 = T.getD i 0)) T.length := by
  unfold stW
  rw [decide_eq_true h, Bool.true_and, show decide ((0 : Int) % 2 = 1) = false from rfl, Bool.false_and, Bool.not_false, Bool.and_true]
  rfl
theorem stW_std {M T : List Int} (hM : smB M) (hT : smB T) {p : Nat} (h : p + T.length ≤ M.length) : stdM (fun i => rgt M ((p : Int) + i - 0)) (rgt T) ((T.length : Int) - 0).toNat 0 = true ↔ stW M T p T.length 0 = true := by
  rw [stW_0 h, stdM_i, allR_i, show ((T.length : Int) - 0).toNat = T.length by omega]
  have key : ∀ i, i < T.length → (rgt M ((p : Int) + (0 + (i : Int)) - 0) % 128 = rgt T (0 + (i : Int)) % 128 ↔ decide (M.getD (p + i) 0 = T.getD i 0) = true) := by
    intro i hi
    rw [rgt_a (L := M) (i := p + i) (by omega) (by omega), rgt_a (L := T) (i := i) (by omega) hi, decide_eq_true_iff]
    have a := hM.b (i := p + i) (by omega)
    have b := hT.b hi
    constructor
    · intro e
      omega
    · intro e
      rw [e]
  exact ⟨fun e i hi => (key i hi).mp (e i hi), fun e i hi => (key i hi).mpr (e i hi)⟩
theorem T_find_84.s {σ : MS} {Q : MQ9} {x : Int} (h : Rg x) (hq : Q (.inl (some x)) (wX σ 1 [])) : T_find_84 x σ Q := T_find_84.i ⟨h, hq⟩
theorem T_find_29.s {σ : MS} {Q : MQ9} (hl : (mX σ 3).length ≤ 4000) (ht : (mX σ 1).length ≤ 4000) (hM : smB (mX σ 3)) (hT : smB (mX σ 1)) : ∀ (k p : Nat), k = (mX σ 3).length + 1 - (mX σ 1).length - p → p ≤ 4001 → Q (.inl (some (fdL (mX σ 3) (mX σ 1) k p))) (wX σ 1 []) → T_find_29 (-1) (p : Int) σ Q
  | 0, p, hk, hp, hq => T_find_29.i ⟨by unfold Rg; omega, fun _ => T_find_84.s (by decide) hq, fun h => absurd h (by omega)⟩
  | k + 1, p, hk, hp, hq => by
    unfold fdL at hq
    have e := stW_std hM hT (p := p) (by omega)
    refine T_find_29.i ⟨by unfold Rg; omega, fun h => absurd h (by omega), fun _ => ⟨by decide, fun h => absurd rfl h, fun _ => ⟨by unfold Rg; omega, by unfold Rg; omega, fun h => ?_, fun h => ?_⟩⟩⟩
    · have hn : ¬ stW (mX σ 3) (mX σ 1) p (mX σ 1).length 0 = true := fun he => by rw [if_pos (e.mpr he)] at h; exact absurd h (by decide)
      rw [if_neg hn] at hq
      refine T_find_78.i ?_
      exact T_find_29.s hl ht hM hT k (p + 1) (by omega) (by omega) hq
    · have hy : stW (mX σ 3) (mX σ 1) p (mX σ 1).length 0 = true := e.mp (Classical.byContradiction (fun hc => h (if_neg hc)))
      rw [if_pos hy] at hq
      refine T_find_78.i (T_find_29.i ⟨by unfold Rg; omega, fun _ => T_find_84.s (by unfold Rg; omega) hq, fun _ => ⟨by unfold Rg; omega, fun _ => T_find_84.s (by unfold Rg; omega) hq, fun h2 => absurd h2 (by omega)⟩⟩)
/-- the class finds -/
theorem T_find.s {σ : MS} {Q : MQ9} {x : Int} (hx : Rg x) (hl : (mX σ 3).length ≤ 4000) (ht : (mX σ 1).length ≤ 4000) (hM : smB (mX σ 3)) (hT : smB (mX σ 1)) (hq : Q (.inl (some (fdD (mX σ 3) (mX σ 1) x))) (wX σ 1 [])) : T_find x σ Q := by
  unfold fdD at hq
  refine T_find.i ⟨fun h => ?_, fun h => ⟨hx, fun h1 => ?_, fun h1 => ⟨hx, fun h2 => ?_, fun h2 => ?_⟩⟩⟩
  · rw [if_pos (by omega)] at hq; exact T_find_84.s (by decide) hq
  · rw [if_pos (by omega)] at hq; exact T_find_84.s (by decide) hq
  · rw [if_pos (by omega)] at hq; exact T_find_84.s (by decide) hq
  · rw [if_neg (by omega)] at hq
    have e : x = (x.toNat : Int) := by omega
    rw [e]
    exact T_find_29.s hl ht hM hT _ x.toNat rfl (by omega) hq
/-! the reference -/
theorem R_isInWord.s {σ : MS} {Q : MQ9} {M : List Int} {x : Int} (hx : -2147483648 ≤ x ∧ x ≤ 2147483647) (h7 : mV σ 246 7 = (M.length : Int)) (hM : hol σ 248 M) (hl : M.length ≤ 4000) (hb : smB M) (hq : Q (.inl (some (bZ (inW M x)))) σ) : R_isInWord x σ Q := by
  have o : x < 0 ∨ (M.length : Int) ≤ x → Q (.inl (some 0)) σ := fun h => by
    unfold inW at hq
    rw [rgt_o h] at hq
    exact hq
  refine R_isInWord.i ⟨hx, fun h => o (Or.inl h), fun h0 => ⟨hx, fun h => o (Or.inr (by omega)), fun h1 => ?_⟩⟩
  have hi : x.toNat < M.length := by omega
  have e : mV σ 248 x.toNat = M.getD x.toNat 0 := hM _ hi
  have e2 : inW M x = sWo (M.getD x.toNat 0) := by unfold inW; rw [rgt_a (i := x.toNat) (by omega) hi]
  rw [e2] at hq
  obtain ⟨q1, q0⟩ := bZ_q (P := fun r => Q (.inl (some r)) σ) hq
  refine ⟨h0, by omega, ?_⟩
  rw [e]
  refine R_isLetter.s (hb.r hi) ⟨fun a => R_isInWord_36.i (q1 ?_), fun a => ⟨h0, by omega, ?_⟩⟩
  · unfold sWo; rw [bZ_ne a]; rfl
  · rw [e]
    refine R_isDigit.s (hb.r hi) ⟨fun b => q0 ?_, fun b => R_isInWord_36.i (q1 ?_)⟩
    · unfold sWo; rw [bZ_z a, bZ_z b]; rfl
    · unfold sWo; rw [bZ_ne b, Bool.or_true]
theorem R_standsAt_39.s {σ : MS} {Q : MQ9} {M T : List Int} {p n : Nat} {w : Int} (hM : hol σ 248 M) (hT : hol σ 247 T) (hl : M.length ≤ 4000) (hlT : T.length ≤ 4000) (hb : smB M) (hbT : smB T) (hn : n ≤ T.length) (hp : p + n ≤ M.length) (hq : Q (.inl (some (bZ (allR (fun i => eqW w (M.getD (p + i) 0) (T.getD i 0)) n)))) σ) : R_standsAt_39 (p : Int) (n : Int) w σ Q := by
  obtain ⟨q1, q0⟩ := bZ_q (P := fun r => Q (.inl (some r)) σ) hq
  refine R_standsAt_39.i (loopIs (P := fun is k => R_standsAt_45 (p : Int) (n : Int) w is k σ Q) (f := fun i => eqW w (M.getD (p + i) 0) (T.getD i 0)) (n := n) (fun i hi h => ?_) (fun e => ?_) (fun e i hi => ?_))
  · have e1 : mV σ 248 (((p : Int) + (i : Int)).toNat) = M.getD (p + i) 0 := by rw [show ((p : Int) + (i : Int)).toNat = p + i by omega]; exact hM _ (by omega)
    have e2 : mV σ 247 ((i : Int)).toNat = T.getD i 0 := hT _ (by omega)
    have g1 : Rg (M.getD (p + i) 0) := hb.r (by omega)
    have g2 : Rg (T.getD i 0) := hbT.r (by omega)
    obtain ⟨k1, k0⟩ := bZ_q (P := fun r => R_standsAt_45 (p : Int) (n : Int) w r ((i : Int) + 1) σ Q) h
    refine R_standsAt_45.i ⟨by unfold Rg; omega, by unfold Rg; omega, fun h9 => absurd h9 (by omega), fun _ => ⟨fun h9 => absurd h9 (by decide), fun _ => ⟨fun hw => ⟨by omega, by omega, by omega, by omega, ?_, ?_⟩, fun hw => ⟨by omega, by omega, ?_⟩⟩⟩⟩
    · rw [e1, e2]
      exact fun a => R_standsAt_120.i (k0 (by unfold eqW; rw [if_neg hw]; exact decide_eq_false a))
    · rw [e1, e2]
      exact fun a => R_standsAt_120.i (k1 (by unfold eqW; rw [if_neg hw]; exact decide_eq_true a))
    · rw [e1]
      refine R_low.s g1 ⟨by omega, by omega, ?_⟩
      rw [e2]
      refine R_low.s g2 ⟨fun a => R_standsAt_120.i (k0 (by unfold eqW; rw [if_pos hw]; exact decide_eq_false a)), fun a => R_standsAt_120.i (k1 (by unfold eqW; rw [if_pos hw]; exact decide_eq_true a))⟩
  · exact R_standsAt_45.i ⟨by unfold Rg; omega, by unfold Rg; omega, fun _ => b01.i (Or.inr rfl) (q1 e), fun h9 => absurd h9 (by omega)⟩
  · exact R_standsAt_45.i ⟨by unfold Rg; omega, by unfold Rg; omega, fun _ => b01.i (Or.inl rfl) (q0 e), fun _ => ⟨fun _ => b01.i (Or.inl rfl) (q0 e), fun h9 => absurd rfl h9⟩⟩
/-- the reference looks whether the tape's first signs stand at a place -/
theorem R_standsAt.s {σ : MS} {Q : MQ9} {M T : List Int} {p n : Nat} {w : Int} (h7 : mV σ 246 7 = (M.length : Int)) (hM : hol σ 248 M) (hT : hol σ 247 T) (hl : M.length ≤ 4000) (hlT : T.length ≤ 4000) (hb : smB M) (hbT : smB T) (hn : n ≤ T.length) (hp : p ≤ 4001) (hq : Q (.inl (some (bZ (stW M T p n w)))) σ) : R_standsAt (p : Int) (n : Int) w σ Q := by
  have go : p + n ≤ M.length → (w % 2 = 1 → inW M ((p : Int) - 1) = false ∧ inW M ((p : Int) + n) = false) → R_standsAt_39 (p : Int) (n : Int) w σ Q := by
    intro h1 h2
    refine R_standsAt_39.s hM hT hl hlT hb hbT hn h1 ?_
    have e : stW M T p n w = allR (fun i => eqW w (M.getD (p + i) 0) (T.getD i 0)) n := by
      unfold stW
      rw [decide_eq_true h1, Bool.true_and]
      by_cases hw : w % 2 = 1
      · rw [(h2 hw).1, (h2 hw).2, Bool.or_false, Bool.and_false, Bool.not_false, Bool.and_true]
      · rw [decide_eq_false hw, Bool.false_and, Bool.not_false, Bool.and_true]
    rw [e] at hq
    exact hq
  have no : p + n ≤ M.length → w % 2 = 1 → (inW M ((p : Int) - 1) = true ∨ inW M ((p : Int) + n) = true) → Q (.inl (some 0)) σ := by
    intro h1 hw h2
    have e : stW M T p n w = false := by
      unfold stW
      rw [decide_eq_true hw, Bool.true_and]
      have e2 : (inW M ((p : Int) - 1) || inW M ((p : Int) + n)) = true := by rcases h2 with h2 | h2 <;> rw [h2] <;> simp
      rw [e2, Bool.not_true, Bool.and_false, Bool.and_false]
    rw [e] at hq
    exact hq
  refine R_standsAt.i ⟨by unfold Rg; omega, fun h => ?_, fun h => ⟨fun hw => go (by omega) (fun h9 => absurd h9 hw), fun hw => ?_⟩⟩
  · have e : stW M T p n w = false := by
      unfold stW
      rw [decide_eq_false (by omega), Bool.false_and]
    rw [e] at hq
    exact hq
  · refine R_isInWord.s (M := M) (by omega) h7 hM hl hb ⟨fun a => no (by omega) hw (Or.inl (bZ_ne a)), fun a => ?_⟩
    refine R_isInWord.s (M := M) (by omega) h7 hM hl hb ⟨fun b => ?_, fun b => no (by omega) hw (Or.inr (bZ_ne b))⟩
    exact go (by omega) (fun _ => ⟨bZ_z a, bZ_z b⟩)
theorem R_find_35.s {σ : MS} {Q : MQ9} {M T : List Int} (h7 : mV σ 246 7 = (M.length : Int)) (hM : hol σ 248 M) (hT : hol σ 247 T) (hl : M.length ≤ 4000) (hlT : T.length ≤ 4000) (hb : smB M) (hbT : smB T) : ∀ (k p : Nat), k = M.length + 1 - T.length - p → p ≤ 4001 → Q (.inl (some (fdL M T k p))) σ → R_find_35 (T.length : Int) (p : Int) σ Q
  | 0, p, hk, hp, hq => R_find_35.i ⟨by unfold Rg; omega, fun _ => hq, fun h => absurd h (by omega)⟩
  | k + 1, p, hk, hp, hq => by
    unfold fdL at hq
    refine R_find_35.i ⟨by unfold Rg; omega, fun h => absurd h (by omega), fun _ => R_standsAt.s (M := M) (T := T) h7 hM hT hl hlT hb hbT (Nat.le_refl _) hp ⟨fun a => ?_, fun a => ⟨by unfold Rg; omega, ?_⟩⟩⟩
    · rw [if_neg (by rw [bZ_z a]; decide)] at hq
      exact R_find_35.s h7 hM hT hl hlT hb hbT k (p + 1) (by omega) (by omega) hq
    · rw [if_pos (bZ_ne a)] at hq
      exact hq
theorem R_find.s {σ : MS} {Q : MQ9} {M T : List Int} {x : Int} (hx : Rg x) (h6 : mV σ 246 6 = (T.length : Int)) (h7 : mV σ 246 7 = (M.length : Int)) (hM : hol σ 248 M) (hT : hol σ 247 T) (hl : M.length ≤ 4000) (hlT : T.length ≤ 4000) (hb : smB M) (hbT : smB T) (hq : Q (.inl (some (fdD M T x))) (wV (wV σ 246 0 0) 246 6 0)) : R_find x σ Q := by
  unfold fdD at hq
  refine R_find.i ⟨fun h => ?_, fun h => ⟨hx, fun h1 => ?_, fun h1 => ⟨hx, fun h2 => ?_, fun h2 => ?_⟩⟩⟩
  · rw [if_pos (by omega)] at hq; exact hq
  · rw [if_pos (by omega)] at hq; exact hq
  · rw [if_neg (by omega)] at hq
    have e : x = (x.toNat : Int) := by omega
    rw [e, h6]
    exact R_find_35.s (σ := wV (wV σ 246 0 0) 246 6 0) (M := M) (T := T) h7 hM hT hl hlT hb hbT _ x.toNat rfl (by omega) hq
  · rw [if_pos (by omega)] at hq; exact hq
/-- the tape is gone, in class and reference -/
theorem find_b {σ : MS} {Q : MQ9} {x : Int} {th th' : String → MS → Prop} (hx : Rg x) (h : MemR σ) (hq : ∀ r σ', MemR σ' → FrM σ σ' → Q (.inl (some r)) σ') : T_find x σ (kI th fun r σ1 => R_find x σ1 (kI th' fun r' σ2 => r' = r ∧ Q (.inl (some r)) σ2)) := by
  obtain ⟨n1, n2⟩ := add_no h
  obtain ⟨⟨p1, p2, p3, p4⟩, ⟨m1, m2, m3, m4⟩, -, -, -, -⟩ := h
  refine T_find.s hx m3 p3 m4 p4 ?_
  show R_find x (wX σ 1 []) _
  exact R_find.s (σ := wX σ 1 []) (M := mX σ 3) (T := mX σ 1) hx p1 m1 m2 p2 m3 p3 m4 p4 ⟨rfl, hq _ _ n1 n2⟩
theorem letter_b {σ : MS} {Q : MQ9} {x : Int} {th th' : String → MS → Prop} (hx : Rg x) (h : MemR σ) (hq : ∀ r σ', MemR σ' → FrM σ σ' → Q (.inl (some r)) σ') : T_letter x σ (kI th fun r σ1 => R_letter x σ1 (kI th' fun r' σ2 => r' = r ∧ Q (.inl (some r)) σ2)) := by
  have hm : MemR (wV σ 246 0 0) := by
    obtain ⟨⟨p1, p2, p3, p4⟩, ⟨m1, m2, m3, m4⟩, ⟨t, c, hP⟩, e1, e2, e3⟩ := h
    exact ⟨⟨p1, p2, p3, p4⟩, ⟨m1, m2, m3, m4⟩, ⟨t, c, hP.cg (fun _ _ => rfl) (fun _ => rfl) (fun _ => rfl) rfl rfl rfl⟩, e1, e2, e3⟩
  have hf : FrM σ (wV σ 246 0 0) := FrM.r (by decide)
  obtain ⟨-, ⟨m1, m2, m3, m4⟩, -⟩ := h
  refine T_letter.i ⟨hx, ?_⟩
  show R_letter x σ _
  refine R_letter.i ⟨hx, fun h => ⟨?_, hq _ _ hm hf⟩, fun h0 => ⟨hx, fun h => ⟨?_, hq _ _ hm hf⟩, fun h => ⟨h0, by omega, ?_, hq _ _ hm hf⟩⟩⟩
  · rw [rgt_o (Or.inl h)]
  · rw [rgt_o (Or.inr (by omega))]
  · rw [rgt_a (L := mX σ 3) (i := x.toNat) (by omega) (by omega)]
    exact m2 _ (by omega)
