/-! REPLACE -/
def cntR (f : Nat → Bool) : Nat → Int
  | 0 => 0
  | n + 1 => cntR f n + bZ (f n)
theorem cntR_b {f : Nat → Bool} : ∀ n : Nat, 0 ≤ cntR f n ∧ cntR f n ≤ n
  | 0 => ⟨Int.le_refl _, Int.le_refl _⟩
  | n + 1 => by
    have h := cntR_b (f := f) n
    unfold cntR
    rcases bZ_01 (b := f n) with e | e <;> rw [e] <;> omega
theorem allR_s {f : Nat → Bool} {n : Nat} : allR f (n + 1) = (allR f n && f n) := by
  unfold allR
  rw [List.range_succ, List.all_append]
  simp
theorem loopN {P : Nat → Prop} {n : Nat} (step : ∀ i, i < n → P (i + 1) → P i) (fin : P n) : P 0 := by
  have key : ∀ k i, i + k = n → P i := by
    intro k
    induction k with
    | zero =>
      intro i hi
      have e : i = n := by omega
      subst e
      exact fin
    | succ k ih =>
      intro i hi
      exact step i (by omega) (ih (i + 1) (by omega))
  exact key n 0 (by omega)
theorem bz2 {P : Int → Prop} {b : Bool} (h : P (bZ b)) : (bZ b = 0 → P 0) ∧ (¬ bZ b = 0 → P 1) := ⟨fun e => by rw [e] at h; exact h, fun e => by rw [bZ_t (bZ_ne e)] at h; exact h⟩
theorem bz3 {P : Int → Prop} {b : Bool} (h : P (bZ b)) : (¬ bZ b = 0 → P 1) ∧ (bZ b = 0 → P 0) := ⟨(bz2 h).2, (bz2 h).1⟩
/-- greats are all the letters just when none is small -/
theorem cnt_gr {g : Nat → Int} : ∀ n : Nat, cntR (fun i => sLe (g i)) n = cntR (fun i => sSm (g i)) n + cntR (fun i => sGr (g i)) n
  | 0 => rfl
  | n + 1 => by
    have h := cnt_gr (g := g) n
    unfold cntR
    rw [h]
    have e : bZ (sLe (g n)) = bZ (sSm (g n)) + bZ (sGr (g n)) := by
      by_cases a : 97 ≤ g n ∧ g n ≤ 122
      · rw [bZ_t (sSm_t a), bZ_f (sGr_f (by omega)), bZ_t (sLe_i.mpr (Or.inl a))]
        rfl
      · by_cases b : 65 ≤ g n ∧ g n ≤ 90
        · rw [bZ_f (sSm_f a), bZ_t (sGr_t b), bZ_t (sLe_i.mpr (Or.inr b))]
          rfl
        · rw [bZ_f (sSm_f a), bZ_f (sGr_f b), bZ_f (sLe_f (by omega))]
          rfl
    rw [e]
    omega
theorem cnt_0 {f : Nat → Bool} : ∀ n : Nat, cntR f n = 0 ↔ allR (fun i => !f i) n = true
  | 0 => ⟨fun _ => rfl, fun _ => rfl⟩
  | n + 1 => by
    have h := cnt_0 (f := f) n
    have b := cntR_b (f := f) n
    rw [allR_s, Bool.and_eq_true, ← h]
    show cntR f n + bZ (f n) = 0 ↔ _
    cases e : f n with
    | true =>
      rw [show bZ true = 1 from rfl]
      exact ⟨fun a => absurd a (by omega), fun a => absurd a.2 (by decide)⟩
    | false =>
      rw [show bZ false = 0 from rfl]
      exact ⟨fun a => ⟨by omega, rfl⟩, fun a => by omega⟩
/-- the signs of the tape behind the old ones, as they come in place -/
def allW (M : List Int) (p n : Nat) : Bool := decide (2 ≤ cntR (fun i => sLe (M.getD (p + i) 0)) n) && allR (fun i => !sSm (M.getD (p + i) 0)) n
def upW (M : List Int) (p n : Nat) (w : Int) (i : Nat) : Bool := decide (w % 8 - w % 4 = 4) && (allW M p n || (decide (i = 0) && sGr (M.getD p 0)))
def newS (M T : List Int) (p n : Nat) (w : Int) (i : Nat) : Int := if upW M p n w i = true then uppS (T.getD (n + 1 + i) 0) else T.getD (n + 1 + i) 0
def newD (M T : List Int) (p n : Nat) (w : Int) : List Int := ofF (newS M T p n w) (T.length - n - 1)
theorem uppS_b {x : Int} (h : 0 ≤ x ∧ x ≤ 127) : 0 ≤ uppS x ∧ uppS x ≤ 127 := by
  unfold uppS
  split <;> omega
theorem newS_b {M T : List Int} {p n i : Nat} {w : Int} (hT : smB T) (hi : n + 1 + i < T.length) : 0 ≤ newS M T p n w i ∧ newS M T p n w i ≤ 127 := by
  unfold newS
  split
  · exact uppS_b (hT.b hi)
  · exact hT.b hi
theorem ofF_sm {f : Nat → Int} : ∀ {n : Nat}, (∀ i, i < n → 0 ≤ f i ∧ f i ≤ 127) → smB (ofF f n)
  | 0, _ => fun x hx => absurd hx List.not_mem_nil
  | n + 1, h => by
    rw [ofF_succ]
    intro x hx
    rcases List.mem_append.mp hx with hx | hx
    · exact ofF_sm (fun i hi => h i (by omega)) x hx
    · rw [List.mem_singleton.mp hx]; exact h n (by omega)
theorem newD_sm {M T : List Int} {p n : Nat} {w : Int} (hT : smB T) : smB (newD M T p n w) := ofF_sm (fun i hi => newS_b hT (by omega))
/-- the answer, the work ever, and what has been made -/
def rpD (M T : List Int) (n : Nat) (w : Int) : Nat → Nat → Int → Int → List Int → Int × Int × List Int
  | 0, _, fo, ev, out => (if 4000 < out.length then -3 else fo, ev, out)
  | f + 1, k, fo, ev, out => if M.length ≤ k then (if 4000 < out.length then -3 else fo, ev, out)
    else if stW M T k n w = true then
      (if 400000 < ev + (10 + ((T.length - n - 1 : Nat) : Int)) then (-4, ev, out)
      else if 4000 < (out ++ newD M T k n w).length then (-3, ev + (10 + ((T.length - n - 1 : Nat) : Int)), out ++ newD M T k n w)
      else rpD M T n w f (k + n) (fo + 1) (ev + (10 + ((T.length - n - 1 : Nat) : Int))) (out ++ newD M T k n w))
    else rpD M T n w f (k + 1) fo ev (out ++ [M.getD k 0])
/-! the class -/
theorem T_standsAt.s {σ : MS} {Q : MQ9} {p n : Nat} {w : Int} (hw : 0 ≤ w ∧ w ≤ 7) (hl : (mX σ 3).length ≤ 4000) (hlT : (mX σ 1).length ≤ 4000) (hb : smB (mX σ 3)) (hbT : smB (mX σ 1)) (hn : n ≤ (mX σ 1).length) (hp : p ≤ 4001) (hq : Q (.inl (some (bZ (stW (mX σ 3) (mX σ 1) p n w)))) σ) : T_standsAt (p : Int) (n : Int) w σ Q := by
  obtain ⟨q1, q0⟩ := bZ_q (P := fun r => Q (.inl (some r)) σ) hq
  refine T_standsAt.i ⟨by unfold Rg; omega, fun hpn => ?_, fun h => q0 ?_⟩
  · refine loopAl (P := fun i => T_standsAt_18 (p : Int) (n : Int) w i σ Q) (f := fun i => eqW w ((mX σ 3).getD (p + i) 0) ((mX σ 1).getD i 0)) (n := n) (fun i hi go no => ?_) (fun e => ?_)
    · have e1 : rgt (mX σ 3) ((p : Int) + (i : Int)) = (mX σ 3).getD (p + i) 0 := rgt_a (by omega) (by omega)
      have e2 : rgt (mX σ 1) (i : Int) = (mX σ 1).getD i 0 := rgt_n (by omega)
      have n0 : eqW w ((mX σ 3).getD (p + i) 0) ((mX σ 1).getD i 0) = false → Q (.inl (some 0)) σ := fun e => q0 (by
        unfold stW
        rw [no e, Bool.false_and, Bool.and_false])
      refine T_standsAt_18.i ⟨by unfold Rg; omega, by unfold Rg; omega, fun h9 => absurd h9 (by omega), fun _ => ⟨by unfold Rg; omega, by unfold Rg; omega, ?_⟩⟩
      rw [e1, e2]
      refine ⟨fun a => T_standsAt_76.i (go ?_), fun a => ⟨fun hw2 => n0 ?_, fun hw2 => ?_⟩⟩
      · show eqW w _ _ = true
        unfold eqW
        rw [a]
        split <;> exact decide_eq_true rfl
      · unfold eqW
        rw [if_neg (by omega)]
        exact decide_eq_false a
      · refine T_small.s (hb.r (by omega)) (T_small.s (hbT.r (by omega)) ⟨fun b => T_standsAt_76.i (go ?_), fun b => n0 ?_⟩)
        · show eqW w _ _ = true
          unfold eqW
          rw [if_pos (by omega)]
          exact decide_eq_true b
        · unfold eqW
          rw [if_pos (by omega)]
          exact decide_eq_false b
    · refine WP.wf (fun wf _ _ => ?_)
      have e9 : stW (mX σ 3) (mX σ 1) p n w = !(decide (w % 2 = 1) && (inW (mX σ 3) ((p : Int) - 1) || inW (mX σ 3) ((p : Int) + n))) := by
        unfold stW
        rw [e, decide_eq_true (by omega), Bool.true_and, Bool.true_and]
      refine T_standsAt_18.i ⟨by unfold Rg; omega, by unfold Rg; omega, fun _ => ⟨fun hw1 => T_standsAt_120.i (q1 ?_), fun hw1 => ⟨by unfold Rg; omega, T_isWordSign.s wf.g ⟨fun a => q0 ?_, fun a => ⟨by unfold Rg; omega, T_isWordSign.s wf.g ⟨fun b => q0 ?_, fun b => T_standsAt_120.i (q1 ?_)⟩⟩⟩⟩⟩, fun h9 => absurd h9 (by omega)⟩
      · rw [e9, decide_eq_false (by omega), Bool.false_and, Bool.not_false]
      · rw [e9, decide_eq_true (by omega), Bool.true_and]
        have : inW (mX σ 3) ((p : Int) - 1) = true := bZ_ne a
        rw [this, Bool.true_or, Bool.not_true]
      · rw [e9, decide_eq_true (by omega), Bool.true_and]
        have : inW (mX σ 3) ((p : Int) + n) = true := bZ_ne b
        rw [this, Bool.or_true, Bool.not_true]
      · rw [e9]
        have h1 : inW (mX σ 3) ((p : Int) - 1) = false := bZ_z a
        have h2 : inW (mX σ 3) ((p : Int) + n) = false := bZ_z b
        rw [h1, h2, Bool.or_false, Bool.and_false, Bool.not_false]
  · unfold stW
    rw [decide_eq_false (by omega), Bool.false_and]
theorem T_putNew_131.s {σ : MS} {Q : MQ9} {M : List Int} {p n : Nat} {w : Int} (hlT : (mX σ 1).length ≤ 4000) (hn : n + 1 ≤ (mX σ 1).length) (hbT : smB (mX σ 1)) (h7 : (mX σ 7).length ≤ 8000) (hq : Q (.inl none) (wX σ 7 (mX σ 7 ++ newD M (mX σ 1) p n w))) : T_putNew_131 (n : Int) (bZ (decide (w % 8 - w % 4 = 4) && allW M p n)) (bZ (decide (w % 8 - w % 4 = 4) && sGr (M.getD p 0))) ((n : Int) + 1) σ Q := by
  have fin := loopN (P := fun i => T_putNew_131 (n : Int) (bZ (decide (w % 8 - w % 4 = 4) && allW M p n)) (bZ (decide (w % 8 - w % 4 = 4) && sGr (M.getD p 0))) ((n + 1 + i : Nat) : Int) (wX σ 7 (mX σ 7 ++ ofF (newS M (mX σ 1) p n w) i)) Q) (n := (mX σ 1).length - n - 1) (fun i hi h => ?_) ?_
  · have e0 : wX σ 7 (mX σ 7 ++ ofF (newS M (mX σ 1) p n w) 0) = σ := by rw [show ofF (newS M (mX σ 1) p n w) 0 = [] from rfl, List.append_nil, wX_id]
    rw [e0] at fin
    exact fin
  · have e1 : mX (wX σ 7 (mX σ 7 ++ ofF (newS M (mX σ 1) p n w) i)) 1 = mX σ 1 := wX_ne (by decide)
    have e7 : mX (wX σ 7 (mX σ 7 ++ ofF (newS M (mX σ 1) p n w) i)) 7 = mX σ 7 ++ ofF (newS M (mX σ 1) p n w) i := wX_self
    have eg : rgt (mX σ 1) ((n + 1 + i : Nat) : Int) = (mX σ 1).getD (n + 1 + i) 0 := rgt_n (by omega)
    have last : ∀ s, s = newS M (mX σ 1) p n w i → T_putNew_186 (n : Int) (bZ (decide (w % 8 - w % 4 = 4) && allW M p n)) (bZ (decide (w % 8 - w % 4 = 4) && sGr (M.getD p 0))) ((n + 1 + i : Nat) : Int) s (wX σ 7 (mX σ 7 ++ ofF (newS M (mX σ 1) p n w) i)) Q := by
      intro s hs
      refine T_putNew_186.i ⟨?_, ?_⟩
      · rw [e7, List.length_append, ofF_len]; omega
      · rw [e7, wX_wX, hs, List.append_assoc, ← ofF_succ]
        exact h
    have up : upW M p n w i = true → T_putNew_176 (n : Int) (bZ (decide (w % 8 - w % 4 = 4) && allW M p n)) (bZ (decide (w % 8 - w % 4 = 4) && sGr (M.getD p 0))) ((n + 1 + i : Nat) : Int) ((mX σ 1).getD (n + 1 + i) 0) (wX σ 7 (mX σ 7 ++ ofF (newS M (mX σ 1) p n w) i)) Q := by
      intro hu
      refine T_putNew_176.i (T_great.s (hbT.r (by omega)) (last _ ?_))
      unfold newS
      rw [if_pos hu]
    have dn : upW M p n w i = false → T_putNew_184 (n : Int) (bZ (decide (w % 8 - w % 4 = 4) && allW M p n)) (bZ (decide (w % 8 - w % 4 = 4) && sGr (M.getD p 0))) ((n + 1 + i : Nat) : Int) ((mX σ 1).getD (n + 1 + i) 0) (wX σ 7 (mX σ 7 ++ ofF (newS M (mX σ 1) p n w) i)) Q := by
      intro hu
      refine T_putNew_184.i (last _ ?_)
      unfold newS
      rw [hu, if_neg (by decide)]
    refine T_putNew_131.i ⟨by unfold Rg; omega, fun h9 => absurd h9 (by rw [e1]; omega), fun _ => ⟨by unfold Rg; omega, ?_⟩⟩
    rw [e1, eg]
    refine ⟨fun a => up ?_, fun a => ⟨fun b => dn ?_, fun b => ⟨by unfold Rg; omega, by unfold Rg; omega, fun c => dn ?_, fun c => up ?_⟩⟩⟩
    · have := bZ_ne a
      rw [Bool.and_eq_true] at this
      unfold upW
      rw [this.1, this.2]
      rfl
    · have a := bZ_z a
      have b := bZ_z b
      unfold upW
      rw [Bool.and_or_distrib_left, a, Bool.false_or]
      cases hw : decide (w % 8 - w % 4 = 4) with
      | true =>
        rw [hw, Bool.true_and] at b
        rw [b, Bool.and_false, Bool.and_false]
      | false => rfl
    · have a := bZ_z a
      unfold upW
      rw [Bool.and_or_distrib_left, a, Bool.false_or, decide_eq_false (p := i = 0) (by omega), Bool.false_and, Bool.and_false]
    · have := bZ_ne b
      rw [Bool.and_eq_true] at this
      unfold upW
      rw [this.1, this.2, decide_eq_true (p := i = 0) (by omega), Bool.true_and, Bool.true_and, Bool.or_true]
  · have e1 : mX (wX σ 7 (mX σ 7 ++ ofF (newS M (mX σ 1) p n w) ((mX σ 1).length - n - 1))) 1 = mX σ 1 := wX_ne (by decide)
    exact T_putNew_131.i ⟨by unfold Rg; omega, fun _ => hq, fun h9 => absurd h9 (by rw [e1]; omega)⟩
theorem T_putNew.s {σ : MS} {Q : MQ9} {p n : Nat} {w : Int} (hw : 0 ≤ w ∧ w ≤ 7) (hl : (mX σ 3).length ≤ 4000) (hlT : (mX σ 1).length ≤ 4000) (hn : n + 1 ≤ (mX σ 1).length) (hb : smB (mX σ 3)) (hbT : smB (mX σ 1)) (hp : p + n ≤ (mX σ 3).length) (hn1 : 1 ≤ n) (h7 : (mX σ 7).length ≤ 8000) (hq : Q (.inl none) (wX σ 7 (mX σ 7 ++ newD (mX σ 3) (mX σ 1) p n w))) : T_putNew (p : Int) (n : Int) w σ Q := by
  have h131 := T_putNew_131.s (M := mX σ 3) (p := p) (w := w) hlT hn hbT h7 hq
  have egp : rgt (mX σ 3) (p : Int) = (mX σ 3).getD p 0 := rgt_n (by omega)
  have h97 : T_putNew_97 (p : Int) (n : Int) w (bZ (decide (w % 8 - w % 4 = 4) && allW (mX σ 3) p n)) σ Q := by
    refine T_putNew_97.i ⟨fun h => T_putNew_123.i (T_putNew_124.i ?_), fun h => ⟨by unfold Rg; omega, ?_⟩⟩
    · have e : decide (w % 8 - w % 4 = 4) = false := decide_eq_false (by omega)
      rw [e] at h131 ⊢
      exact h131
    · rw [egp]
      have e : decide (w % 8 - w % 4 = 4) = true := decide_eq_true (by omega)
      rw [e] at h131 ⊢
      rw [Bool.true_and, Bool.true_and] at h131
      rw [Bool.true_and]
      obtain ⟨k0, k1⟩ := bz2 (P := fun s => T_putNew_131 (n : Int) (bZ (allW (mX σ 3) p n)) s ((n : Int) + 1) σ Q) h131
      exact T_isGreat.s (hb.r (by omega)) ⟨fun a => T_putNew_123.i (T_putNew_124.i (k0 a)), fun a => T_putNew_124.i (k1 a)⟩
  have z97 : (decide (w % 8 - w % 4 = 4) && allW (mX σ 3) p n) = false → T_putNew_97 (p : Int) (n : Int) w 0 σ Q := fun e => by rw [e] at h97; exact h97
  have o97 : (decide (w % 8 - w % 4 = 4) && allW (mX σ 3) p n) = true → T_putNew_97 (p : Int) (n : Int) w 1 σ Q := fun e => by rw [e] at h97; exact h97
  refine T_putNew.i ?_
  have fin := loopN (P := fun i => T_putNew_9 (p : Int) (n : Int) w (cntR (fun i => sLe ((mX σ 3).getD (p + i) 0)) i) (cntR (fun i => sGr ((mX σ 3).getD (p + i) 0)) i) ((p + i : Nat) : Int) σ Q) (n := n) (fun i hi h => ?_) ?_
  · exact fin
  · have eg : rgt (mX σ 3) ((p + i : Nat) : Int) = (mX σ 3).getD (p + i) 0 := rgt_n (by omega)
    refine T_putNew_9.i ⟨by unfold Rg; omega, by unfold Rg; omega, fun h9 => absurd h9 (by omega), fun _ => ⟨by unfold Rg; omega, ?_⟩⟩
    rw [eg]
    refine T_isLetter.s (hb.r (by omega)) (bz2 (P := fun s => T_putNew_39 (p : Int) (n : Int) w _ ((p + i : Nat) : Int) _ s σ Q) (T_putNew_39.i ⟨by unfold Rg; omega, ?_⟩))
    rw [eg]
    exact T_isGreat.s (hb.r (by omega)) (bz2 (P := fun s => T_putNew_64 (p : Int) (n : Int) w _ ((p + i : Nat) : Int) _ s σ Q) (T_putNew_64.i h))
  · have c1 := cntR_b (f := fun i => sLe ((mX σ 3).getD (p + i) 0)) n
    have c2 := cntR_b (f := fun i => sGr ((mX σ 3).getD (p + i) 0)) n
    have c3 := cnt_gr (g := fun i => (mX σ 3).getD (p + i) 0) n
    have c4 := cnt_0 (f := fun i => sSm ((mX σ 3).getD (p + i) 0)) n
    refine T_putNew_9.i ⟨by unfold Rg; omega, by unfold Rg; omega, fun _ => ⟨fun h => T_putNew_96.i (z97 ?_), fun h => ⟨by unfold Rg; omega, fun a => T_putNew_96.i (z97 ?_), fun a => ⟨by unfold Rg; omega, by unfold Rg; omega, fun b => T_putNew_96.i (z97 ?_), fun b => o97 ?_⟩⟩⟩, fun h9 => absurd h9 (by omega)⟩
    · rw [decide_eq_false (p := w % 8 - w % 4 = 4) (by omega), Bool.false_and]
    · unfold allW
      rw [decide_eq_false (p := 2 ≤ cntR (fun i => sLe ((mX σ 3).getD (p + i) 0)) n) (by omega), Bool.false_and, Bool.and_false]
    · unfold allW
      have : allR (fun i => !sSm ((mX σ 3).getD (p + i) 0)) n = false := Bool.eq_false_iff.mpr (fun e => b (by rw [c3, c4.mpr e]; omega))
      rw [this, Bool.and_false, Bool.and_false]
    · unfold allW
      have : allR (fun i => !sSm ((mX σ 3).getD (p + i) 0)) n = true := c4.mp (by omega)
      rw [this, decide_eq_true (p := w % 8 - w % 4 = 4) (by omega), decide_eq_true (p := 2 ≤ cntR (fun i => sLe ((mX σ 3).getD (p + i) 0)) n) (by omega)]
      rfl
/-- the class's state in the loop -/
def pq (σ : MS) (ev : Int) (out : List Int) : MS := wX (wV σ 22 1 ev) 7 out
theorem pq_7 {σ : MS} {ev : Int} {out L : List Int} : wX (pq σ ev out) 7 L = pq σ ev L := wX_wX
theorem wV_wV {σ : MS} {z k : Nat} {x y : Int} : wV (wV σ z k x) z k y = wV σ z k y := by
  refine Prod.ext rfl (Prod.ext ?_ rfl)
  funext z' k'
  show mV (wV (wV σ z k x) z k y) z' k' = mV (wV σ z k y) z' k'
  by_cases h : z' = z ∧ k' = k
  · obtain ⟨rfl, rfl⟩ := h
    rw [wV_self, wV_self]
  · have hn : z' ≠ z ∨ k' ≠ k := by omega
    rw [wV_ne hn, wV_ne hn, wV_ne hn]
theorem pq_e {σ : MS} {ev e : Int} {out : List Int} : wV (pq σ ev out) 22 1 e = pq σ e out := by
  show wX (wV (wV σ 22 1 ev) 22 1 e) 7 out = wX (wV σ 22 1 e) 7 out
  rw [wV_wV]
theorem pq_X {σ : MS} {ev : Int} {out : List Int} {q : Nat} (h : q ≠ 7) : mX (pq σ ev out) q = mX σ q := wX_ne h
theorem T_putInPlace_92.skip {σ : MS} {Q : MQ9} {w fo : Int} {n : Nat} (hl : (mX σ 3).length ≤ 4000) : ∀ (s k : Nat), s ≤ 60 → k + s ≤ (mX σ 3).length → T_putInPlace_92 w (n : Int) fo 0 ((k + s : Nat) : Int) σ Q → T_putInPlace_92 w (n : Int) fo (s : Int) (k : Int) σ Q
  | 0, k, _, _, h => h
  | s + 1, k, hs, hk, h => by
    refine T_putInPlace_92.i ⟨by unfold Rg; omega, fun h9 => absurd h9 (by omega), fun _ => ⟨by unfold Rg; omega, fun h9 => absurd h9 (by omega), fun _ => T_putInPlace_201.i ?_⟩⟩
    rw [show ((s + 1 : Nat) : Int) + -1 = (s : Int) by omega]
    exact T_putInPlace_92.skip hl s (k + 1) (by omega) (by omega) (by rw [show k + 1 + s = k + (s + 1) by omega]; exact h)
theorem T_putInPlace_92.s {σ : MS} {Q : MQ9} {n : Nat} {w : Int} (hw : 0 ≤ w ∧ w ≤ 7) (hl : (mX σ 3).length ≤ 4000) (hlT : (mX σ 1).length ≤ 4000) (hn : n + 1 ≤ (mX σ 1).length) (hb : smB (mX σ 3)) (hbT : smB (mX σ 1)) (hn1 : 1 ≤ n ∧ n ≤ 60) : ∀ (f k : Nat) (fo ev : Int) (out : List Int), (mX σ 3).length ≤ k + f → k ≤ (mX σ 3).length → 0 ≤ fo ∧ fo ≤ k → 0 ≤ ev ∧ ev ≤ 400000 → out.length ≤ 4000 + k → Q (.inl (some (rpD (mX σ 3) (mX σ 1) n w f k fo ev out).1)) (pq σ (rpD (mX σ 3) (mX σ 1) n w f k fo ev out).2.1 (rpD (mX σ 3) (mX σ 1) n w f k fo ev out).2.2) → T_putInPlace_92 w (n : Int) fo 0 (k : Int) (pq σ ev out) Q := by
  have done : ∀ (k : Nat) (fo ev : Int) (out : List Int), (mX σ 3).length ≤ k → k ≤ 4000 → 0 ≤ fo ∧ fo ≤ k → Q (.inl (some (if 4000 < out.length then -3 else fo))) (pq σ ev out) → T_putInPlace_92 w (n : Int) fo 0 (k : Int) (pq σ ev out) Q := by
    intro k fo ev out h1 h2 h3 hq
    have e3 : mX (pq σ ev out) 3 = mX σ 3 := pq_X (by decide)
    have e7 : mX (pq σ ev out) 7 = out := wX_self
    refine T_putInPlace_92.i ⟨by unfold Rg; omega, fun _ => ⟨fun h => ⟨by unfold Rg; omega, ?_⟩, fun h => ?_⟩, fun h9 => absurd h9 (by rw [e3]; omega)⟩
    · rw [e7] at h; rw [if_neg (by omega)] at hq; exact hq
    · rw [e7] at h; rw [if_pos (by omega)] at hq; exact hq
  intro f
  induction f with
  | zero =>
    intro k fo ev out h1 h2 h3 h4 h5 hq
    exact done k fo ev out h1 (by omega) h3 hq
  | succ f ih =>
    intro k fo ev out h1 h2 h3 h4 h5 hq
    unfold rpD at hq
    by_cases hk : (mX σ 3).length ≤ k
    · rw [if_pos hk] at hq
      exact done k fo ev out hk (by omega) h3 hq
    · rw [if_neg hk] at hq
      have e3 : mX (pq σ ev out) 3 = mX σ 3 := pq_X (by decide)
      have e1 : mX (pq σ ev out) 1 = mX σ 1 := pq_X (by decide)
      have e7 : mX (pq σ ev out) 7 = out := wX_self
      have ee : mV (pq σ ev out) 22 1 = ev := wV_self
      refine T_putInPlace_92.i ⟨by unfold Rg; omega, fun h9 => absurd h9 (by rw [e3]; omega), fun _ => ⟨by unfold Rg; omega, fun _ => ?_, fun h9 => absurd h9 (by omega)⟩⟩
      refine T_standsAt.s hw (by rw [e3]; exact hl) (by rw [e1]; exact hlT) (by rw [e3]; exact hb) (by rw [e1]; exact hbT) (by rw [e1]; omega) (by omega) ?_
      rw [e3, e1]
      refine ⟨fun a => ⟨by unfold Rg; omega, by rw [e7]; omega, ?_⟩, fun a => ?_⟩
      · rw [if_neg (by rw [bZ_z a]; decide)] at hq
        rw [e7, e3, rgt_n (L := mX σ 3) (i := k) (by omega), pq_7]
        refine T_putInPlace_201.i ?_
        exact ih (k + 1) fo ev (out ++ [(mX σ 3).getD k 0]) (by omega) (by omega) (by omega) h4 (by rw [List.length_append, List.length_singleton]; omega) hq
      · have hst := bZ_ne a
        rw [if_pos hst] at hq
        have hkn : k + n ≤ (mX σ 3).length := by
          unfold stW at hst
          rw [Bool.and_eq_true] at hst
          exact of_decide_eq_true hst.1
        have em : 10 + ((mX (pq σ ev out) 1).length : Int) - (n : Int) - 1 = 10 + (((mX σ 1).length - n - 1 : Nat) : Int) := by rw [e1]; omega
        rw [em]
        refine Purse_pay.i ⟨by unfold Rg; omega, by rw [ee]; unfold Rg; omega, fun b => ⟨by rw [ee]; unfold Rg; omega, fun _ => ?_, fun h9 => absurd h9 (by decide)⟩, fun b => ⟨fun h9 => absurd rfl h9, fun _ => ?_⟩⟩
        · rw [ee] at b
          rw [if_neg (by omega)] at hq
          rw [ee, pq_e]
          have g3 : mX (pq σ (ev + (10 + (((mX σ 1).length - n - 1 : Nat) : Int))) out) 3 = mX σ 3 := pq_X (by decide)
          have g1 : mX (pq σ (ev + (10 + (((mX σ 1).length - n - 1 : Nat) : Int))) out) 1 = mX σ 1 := pq_X (by decide)
          have g7 : mX (pq σ (ev + (10 + (((mX σ 1).length - n - 1 : Nat) : Int))) out) 7 = out := wX_self
          refine T_putNew.s hw (by rw [g3]; exact hl) (by rw [g1]; exact hlT) (by rw [g1]; exact hn) (by rw [g3]; exact hb) (by rw [g1]; exact hbT) (by rw [g3]; exact hkn) hn1.1 (by rw [g7]; omega) ?_
          rw [g3, g1, g7, pq_7]
          have g8 : mX (pq σ (ev + (10 + (((mX σ 1).length - n - 1 : Nat) : Int))) (out ++ newD (mX σ 3) (mX σ 1) k n w)) 7 = out ++ newD (mX σ 3) (mX σ 1) k n w := wX_self
          refine ⟨fun c => T_putInPlace_201.i ?_, fun c => ?_⟩
          · rw [g8] at c
            rw [if_neg (by omega)] at hq
            have := ih (k + n) (fo + 1) _ _ (by omega) hkn (by omega) (by omega) (by omega) hq
            have e9 : (n : Int) - 1 = ((n - 1 : Nat) : Int) := by omega
            rw [e9]
            exact T_putInPlace_92.skip (σ := pq σ (ev + (10 + (((mX σ 1).length - n - 1 : Nat) : Int))) (out ++ newD (mX σ 3) (mX σ 1) k n w)) (by rw [pq_X (by decide)]; exact hl) (n - 1) (k + 1) (by omega) (by rw [pq_X (by decide)]; omega) (by rw [show k + 1 + (n - 1) = k + n by omega]; exact this)
          · rw [g8] at c
            rw [if_pos (by omega)] at hq
            exact hq
        · rw [ee] at b
          rw [if_pos (by omega)] at hq
          exact hq
/-- how many signs stand ahead of the tape's first END -/
def oldN : List Int → Nat
  | [] => 0
  | x :: r => if x = 10 then 0 else oldN r + 1
theorem oldN_le : ∀ T : List Int, oldN T ≤ T.length
  | [] => Nat.le_refl _
  | x :: r => by
    have := oldN_le r
    unfold oldN
    rw [List.length_cons]
    split <;> omega
/-- the whole of replace but for the remembering -/
def rpA (M T : List Int) (w ev : Int) : Int × Int × List Int :=
  if oldN T = T.length ∨ oldN T < 1 ∨ 60 < oldN T then (-2, ev, [])
  else if 400000 < ev + M.length then (-4, ev, [])
  else rpD M T (oldN T) w M.length 0 0 (ev + M.length) []
theorem T_putInPlace_2.s {σ : MS} {Q : MQ9} {w : Int} (hlT : (mX σ 1).length ≤ 4000) : ∀ (r p : List Int), mX σ 1 = p ++ r → T_putInPlace_32 w ((p.length + oldN r : Nat) : Int) σ Q → T_putInPlace_2 w (p.length : Int) σ Q
  | [], p, he, h => by
    have hl : (mX σ 1).length = p.length := by rw [he]; simp
    exact T_putInPlace_2.i ⟨by unfold Rg; omega, fun _ => h, fun h9 => absurd h9 (by omega)⟩
  | x :: r, p, he, h => by
    have hl := len_at he
    have hx := rgt_at he
    unfold oldN at h
    refine T_putInPlace_2.i ⟨by unfold Rg; omega, fun h9 => absurd h9 (by omega), fun _ => ⟨by unfold Rg; omega, ?_⟩⟩
    rw [hx]
    refine ⟨fun e => ?_, fun e => ?_⟩
    · rw [if_pos e] at h; exact h
    · rw [if_neg e] at h
      have := T_putInPlace_2.s (w := w) hlT r (p ++ [x]) (nxt_at he) (by rw [List.length_append, List.length_singleton, show p.length + 1 + oldN r = p.length + (oldN r + 1) by omega]; exact h)
      rw [len_sn] at this
      exact this
theorem T_putInPlace.s {σ : MS} {Q : MQ9} {w : Int} (hw : 0 ≤ w ∧ w ≤ 7) (hl : (mX σ 3).length ≤ 4000) (hlT : (mX σ 1).length ≤ 4000) (hb : smB (mX σ 3)) (hbT : smB (mX σ 1)) (he : 0 ≤ mV σ 22 1 ∧ mV σ 22 1 ≤ 400000)
    (hq : ∀ σ', (∀ q, q ≠ 7 → mX σ' q = mX σ q) → (∀ z k, z ≠ 22 ∨ k ≠ 1 → mV σ' z k = mV σ z k) → σ'.2.2 = σ.2.2 → mV σ' 22 1 = (rpA (mX σ 3) (mX σ 1) w (mV σ 22 1)).2.1 → (0 < (rpA (mX σ 3) (mX σ 1) w (mV σ 22 1)).1 → mX σ' 7 = (rpA (mX σ 3) (mX σ 1) w (mV σ 22 1)).2.2) → Q (.inl (some (rpA (mX σ 3) (mX σ 1) w (mV σ 22 1)).1)) σ') : T_putInPlace w σ Q := by
  have ho := oldN_le (mX σ 1)
  refine T_putInPlace.i (T_putInPlace_2.s hlT (mX σ 1) [] rfl ?_)
  rw [List.length_nil, Nat.zero_add]
  unfold rpA at hq
  refine T_putInPlace_32.i ⟨by unfold Rg; omega, fun h => ?_, fun h0 => ⟨by unfold Rg; omega, fun h => ?_, fun h1 => ⟨by unfold Rg; omega, fun h2 => ?_, fun h => ?_⟩⟩⟩
  · rw [if_pos (by omega)] at hq
    exact hq σ (fun _ _ => rfl) (fun _ _ _ => rfl) rfl rfl (fun h9 => absurd h9 (by dsimp only; decide))
  · rw [if_pos (by omega)] at hq
    exact hq σ (fun _ _ => rfl) (fun _ _ _ => rfl) rfl rfl (fun h9 => absurd h9 (by dsimp only; decide))
  · rw [if_neg (by omega)] at hq
    refine Purse_pay.i ⟨by unfold Rg; omega, by unfold Rg; omega, fun a => ⟨by unfold Rg; omega, fun _ => ?_, fun h9 => absurd h9 (by decide)⟩, fun a => ⟨fun h9 => absurd rfl h9, fun _ => ?_⟩⟩
    · rw [if_neg (by omega)] at hq
      show T_putInPlace_92 w ((oldN (mX σ 1) : Nat) : Int) 0 0 ((0 : Nat) : Int) (pq σ (mV σ 22 1 + ((mX σ 3).length : Int)) []) Q
      refine T_putInPlace_92.s hw hl hlT (by omega) hb hbT (by omega) (mX σ 3).length 0 0 _ [] (by omega) (by omega) (by omega) (by omega) (by rw [List.length_nil]; omega) ?_
      exact hq _ (fun q h => pq_X h) (fun z k h => wV_ne h) rfl wV_self (fun _ => wX_self)
    · rw [if_pos (by omega)] at hq
      exact hq σ (fun _ _ => rfl) (fun _ _ _ => rfl) rfl rfl (fun h9 => absurd h9 (by dsimp only; decide))
  · rw [if_pos (by omega)] at hq
    exact hq σ (fun _ _ => rfl) (fun _ _ _ => rfl) rfl rfl (fun h9 => absurd h9 (by dsimp only; decide))
/-! the reference -/
def RpI (σ σ' : MS) (ev : Int) (out : List Int) : Prop := mX σ' = mX σ ∧ σ'.2.2 = σ.2.2 ∧ (∀ z k, z ≠ 249 → z ≠ 246 ∨ k ≠ 33 → mV σ' z k = mV σ z k) ∧ mV σ' 246 33 = ev ∧ ∀ i, i < out.length → i < 4100 → mV σ' 249 i = out.getD i 0
theorem RpI.put {σ σ' : MS} {ev x : Int} {out : List Int} (h : RpI σ σ' ev out) (hl : out.length < 4100) : RpI σ (wV σ' 249 out.length x) ev (out ++ [x]) := by
  obtain ⟨a, b, c, d, e⟩ := h
  refine ⟨a, b, fun z k h1 h2 => by rw [wV_ne (Or.inl h1)]; exact c z k h1 h2, d, fun i hi hi2 => ?_⟩
  rw [List.length_append, List.length_singleton] at hi
  by_cases e0 : i = out.length
  · subst e0
    rw [wV_self, getD_s]
  · rw [wV_ne (Or.inr e0), getD_l (by omega)]
    exact e i (by omega) hi2
theorem RpI.skip {σ σ' : MS} {ev x : Int} {out : List Int} (h : RpI σ σ' ev out) (hl : 4100 ≤ out.length) : RpI σ σ' ev (out ++ [x]) := by
  obtain ⟨a, b, c, d, e⟩ := h
  refine ⟨a, b, c, d, fun i hi hi2 => ?_⟩
  rw [getD_l (by omega)]
  exact e i (by omega) hi2
theorem RpI.ev {σ σ' : MS} {ev e' : Int} {out : List Int} (h : RpI σ σ' ev out) : RpI σ (wV σ' 246 33 e') e' out := by
  obtain ⟨a, b, c, d, e⟩ := h
  exact ⟨a, b, fun z k h1 h2 => by rw [wV_ne h2]; exact c z k h1 h2, wV_self, fun i hi hi2 => by rw [wV_ne (Or.inl (by decide))]; exact e i hi hi2⟩
theorem RpI.len {out : List Int} {x : Int} : ((out ++ [x]).length : Int) = (out.length : Int) + 1 := by simp
theorem R_replace_254.s {σ : MS} {Q : MQ9} {M T : List Int} {p n : Nat} {w fo : Int} (hw : 0 ≤ w ∧ w ≤ 7) (hM : hol σ 248 M) (hT : hol σ 247 T) (hl : M.length ≤ 4000) (hlT : T.length ≤ 4000) (hb : smB M) (hbT : smB T) (hn : n + 1 ≤ T.length) (hp : p + n ≤ M.length) (hn1 : 1 ≤ n) {ev : Int} {out : List Int} (ho : out.length ≤ 8000) (hq : ∀ σ', RpI σ σ' ev (out ++ newD M T p n w) → (((out ++ newD M T p n w).length : Int) ≤ 4000 → R_replace_105 w (n : Int) ((T.length - n - 1 : Nat) : Int) fo ((out ++ newD M T p n w).length : Int) ((p + n : Nat) : Int) σ' Q) ∧ (4000 < ((out ++ newD M T p n w).length : Int) → Q (.inl (some (-3))) σ')) : ∀ σ', RpI σ σ' ev out → R_replace_254 w (n : Int) ((T.length - n - 1 : Nat) : Int) fo (out.length : Int) (p : Int) (cntR (fun i => sLe (M.getD (p + i) 0)) n) (bZ (allR (fun i => !sSm (M.getD (p + i) 0)) n)) 0 σ' Q := by
  have cb := cntR_b (f := fun i => sLe (M.getD (p + i) 0)) n
  have fin := loopN (P := fun i => ∀ σ', RpI σ σ' ev (out ++ ofF (newS M T p n w) i) → R_replace_254 w (n : Int) ((T.length - n - 1 : Nat) : Int) fo ((out ++ ofF (newS M T p n w) i).length : Int) (p : Int) (cntR (fun i => sLe (M.getD (p + i) 0)) n) (bZ (allR (fun i => !sSm (M.getD (p + i) 0)) n)) (i : Int) σ' Q) (n := T.length - n - 1) (fun i hi h => ?_) ?_
  · rw [show ofF (newS M T p n w) 0 = [] from rfl, List.append_nil] at fin
    exact fin
  · intro σ' hr
    have el : ((out ++ ofF (newS M T p n w) i).length : Int) = (out.length : Int) + i := by rw [List.length_append, ofF_len]; omega
    have eT : mV σ' 247 (((n : Int) + 1 + (i : Int)).toNat) = T.getD (n + 1 + i) 0 := by
      rw [hr.2.2.1 _ _ (by decide) (Or.inl (by decide)), show ((n : Int) + 1 + (i : Int)).toNat = n + 1 + i by omega]
      exact hT _ (by omega)
    have eM : mV σ' 248 ((p : Int)).toNat = M.getD p 0 := by
      rw [hr.2.2.1 _ _ (by decide) (Or.inl (by decide))]
      exact hM _ (by omega)
    have es : out ++ ofF (newS M T p n w) (i + 1) = out ++ ofF (newS M T p n w) i ++ [newS M T p n w i] := by rw [ofF_succ, List.append_assoc]
    have nb := newS_b (M := M) (T := T) (p := p) (n := n) (i := i) (w := w) hbT (by omega)
    have last : ∀ s2, s2 = newS M T p n w i → (((out ++ ofF (newS M T p n w) i).length : Int) < 4100) → R_replace_348 w (n : Int) ((T.length - n - 1 : Nat) : Int) fo ((out ++ ofF (newS M T p n w) i).length : Int) (p : Int) (cntR (fun i => sLe (M.getD (p + i) 0)) n) (bZ (allR (fun i => !sSm (M.getD (p + i) 0)) n)) (i : Int) ((out ++ ofF (newS M T p n w) i).length : Int) s2 σ' Q := by
      intro s2 hs hlt
      refine R_replace_348.i ⟨by omega, by omega, R_replace_350.i ?_⟩
      rw [hs, b8_id (x := newS M T p n w i) (by omega), b8_id (x := newS M T p n w i) (by omega)]
      have hr2 := hr.put (x := newS M T p n w i) (by omega)
      have := h (wV σ' 249 (out ++ ofF (newS M T p n w) i).length (newS M T p n w i)) (by rw [es]; exact hr2)
      rw [es, RpI.len] at this
      exact this
    have h315 : R_replace_315 w (n : Int) ((T.length - n - 1 : Nat) : Int) fo ((out ++ ofF (newS M T p n w) i).length : Int) (p : Int) (cntR (fun i => sLe (M.getD (p + i) 0)) n) (bZ (allR (fun i => !sSm (M.getD (p + i) 0)) n)) (i : Int) (T.getD (n + 1 + i) 0) (bZ (upW M p n w i)) σ' Q := by
      refine R_replace_315.i ⟨by unfold Rg; omega, fun a => R_replace_350.i ?_, fun a => ⟨fun c => last _ ?_ a, fun c => ?_⟩⟩
      · have := h σ' (by rw [es]; exact hr.skip (by omega))
        rw [es, RpI.len] at this
        exact this
      · unfold newS; rw [bZ_z c, if_neg (by decide)]
      · refine R_great.s (hbT.r (by omega)) (last _ ?_ a)
        unfold newS; rw [if_pos (bZ_ne c)]
    have h1 : upW M p n w i = true → R_replace_310 w (n : Int) ((T.length - n - 1 : Nat) : Int) fo ((out ++ ofF (newS M T p n w) i).length : Int) (p : Int) (cntR (fun i => sLe (M.getD (p + i) 0)) n) (bZ (allR (fun i => !sSm (M.getD (p + i) 0)) n)) (i : Int) (T.getD (n + 1 + i) 0) σ' Q := fun e => by
      rw [e] at h315; exact R_replace_310.i h315
    have h0 : upW M p n w i = false → R_replace_314 w (n : Int) ((T.length - n - 1 : Nat) : Int) fo ((out ++ ofF (newS M T p n w) i).length : Int) (p : Int) (cntR (fun i => sLe (M.getD (p + i) 0)) n) (bZ (allR (fun i => !sSm (M.getD (p + i) 0)) n)) (i : Int) (T.getD (n + 1 + i) 0) σ' Q := fun e => by
      rw [e] at h315; exact R_replace_314.i h315
    have h292 : w % 8 - w % 4 = 4 → allW M p n = false → R_replace_292 w (n : Int) ((T.length - n - 1 : Nat) : Int) fo ((out ++ ofF (newS M T p n w) i).length : Int) (p : Int) (cntR (fun i => sLe (M.getD (p + i) 0)) n) (bZ (allR (fun i => !sSm (M.getD (p + i) 0)) n)) (i : Int) (T.getD (n + 1 + i) 0) σ' Q := by
      intro hw4 ha
      refine R_replace_292.i ⟨by unfold Rg; omega, fun a => h0 ?_, fun a => ⟨by omega, by omega, ?_⟩⟩
      · unfold upW
        rw [ha, Bool.false_or, decide_eq_false (p := i = 0) (by omega), Bool.false_and, Bool.and_false]
      · rw [eM]
        refine R_isGreat.s (hb.r (by omega)) ⟨fun b => h0 ?_, fun b => h1 ?_⟩
        · unfold upW
          rw [ha, Bool.false_or, bZ_z b, Bool.and_false, Bool.and_false]
        · unfold upW
          rw [bZ_ne b, decide_eq_true hw4, decide_eq_true (p := i = 0) (by omega), Bool.true_and, Bool.true_and, Bool.or_true]
    refine R_replace_254.i ⟨by unfold Rg; omega, by unfold Rg; omega, fun h9 => absurd h9 (by omega), fun _ => ⟨by omega, by omega, ?_⟩⟩
    rw [eT]
    refine ⟨fun a => h0 ?_, fun a => ⟨by unfold Rg; omega, fun b => h292 a ?_, fun b => ⟨fun c => h1 ?_, fun c => h292 a ?_⟩⟩⟩
    · unfold upW
      rw [decide_eq_false a, Bool.false_and]
    · unfold allW
      rw [decide_eq_false (by omega), Bool.false_and]
    · unfold upW allW
      rw [bZ_ne c, decide_eq_true a, decide_eq_true b]
      rfl
    · unfold allW
      rw [bZ_z c, Bool.and_false]
  · intro σ' hr
    have e9 : out ++ ofF (newS M T p n w) (T.length - n - 1) = out ++ newD M T p n w := rfl
    rw [e9] at hr ⊢
    have hlen : (out ++ newD M T p n w).length = out.length + (T.length - n - 1) := by unfold newD; rw [List.length_append, ofF_len]
    obtain ⟨k1, k2⟩ := hq σ' hr
    exact R_replace_254.i ⟨by unfold Rg; omega, by unfold Rg; omega, fun _ => ⟨by unfold Rg; omega, k1, k2⟩, fun h9 => absurd h9 (by omega)⟩
theorem R_replace_185.s {σ : MS} {Q : MQ9} {M : List Int} {p n : Nat} {w fo m to : Int} (hM : hol σ 248 M) (hl : M.length ≤ 4000) (hb : smB M) (hp : p + n ≤ M.length) (h : R_replace_254 w (n : Int) m fo to (p : Int) (cntR (fun i => sLe (M.getD (p + i) 0)) n) (bZ (allR (fun i => !sSm (M.getD (p + i) 0)) n)) 0 σ Q) : R_replace_185 w (n : Int) m fo to (p : Int) 0 1 0 σ Q := by
  have fin := loopN (P := fun i => R_replace_185 w (n : Int) m fo to (p : Int) (cntR (fun i => sLe (M.getD (p + i) 0)) i) (bZ (allR (fun i => !sSm (M.getD (p + i) 0)) i)) (i : Int) σ Q) (n := n) (fun i hi h => ?_) ?_
  · exact fin
  · have e : mV σ 248 (((p : Int) + (i : Int)).toNat) = M.getD (p + i) 0 := by
      rw [show ((p : Int) + (i : Int)).toNat = p + i by omega]
      exact hM _ (by omega)
    refine R_replace_185.i ⟨by unfold Rg; omega, by unfold Rg; omega, fun h9 => absurd h9 (by omega), fun _ => ⟨by omega, by omega, ?_⟩⟩
    rw [e]
    refine R_isLetter.s (hb.r (by omega)) (bz2 (P := fun s => R_replace_214 w (n : Int) m fo to (p : Int) _ (i : Int) _ s σ Q) ?_)
    rw [allR_s] at h
    refine R_replace_214.i ⟨fun a => R_replace_242.i (R_replace_243.i ?_), fun a => ⟨by omega, by omega, ?_⟩⟩
    · rw [bZ_z a, Bool.false_and] at h; exact h
    · rw [bZ_ne a, Bool.true_and] at h
      rw [e]
      refine R_isSmall.s (hb.r (by omega)) ⟨fun b => R_replace_242.i (R_replace_243.i ?_), fun b => R_replace_243.i ?_⟩
      · rw [bZ_ne b] at h; exact h
      · rw [bZ_z b] at h; exact h
  · exact R_replace_185.i ⟨by unfold Rg; omega, by unfold Rg; omega, fun _ => h, fun h9 => absurd h9 (by omega)⟩
theorem R_replace_105.s {σ : MS} {Q : MQ9} {M T : List Int} {n : Nat} {w : Int} (hw : 0 ≤ w ∧ w ≤ 7) (h7 : mV σ 246 7 = (M.length : Int)) (hM : hol σ 248 M) (hT : hol σ 247 T) (hl : M.length ≤ 4000) (hlT : T.length ≤ 4000) (hb : smB M) (hbT : smB T) (hn : n + 1 ≤ T.length) (hn1 : 1 ≤ n ∧ n ≤ 60) : ∀ (f k : Nat) (fo ev : Int) (out : List Int) (σ' : MS), M.length ≤ k + f → k ≤ M.length → 0 ≤ fo ∧ fo ≤ k → 0 ≤ ev ∧ ev ≤ 400000 → out.length ≤ 4000 + k → RpI σ σ' ev out → (∀ σ'', RpI σ σ'' (rpD M T n w f k fo ev out).2.1 (rpD M T n w f k fo ev out).2.2 → ((rpD M T n w f k fo ev out).1 ≤ 0 → Q (.inl (some (rpD M T n w f k fo ev out).1)) σ'') ∧ (0 < (rpD M T n w f k fo ev out).1 → R_remembers σ'' (kV (thQ Q) fun σ1 => R_replace_404 (rpD M T n w f k fo ev out).1 ((rpD M T n w f k fo ev out).2.2.length : Int) 0 σ1 Q))) → R_replace_105 w (n : Int) ((T.length - n - 1 : Nat) : Int) fo (out.length : Int) (k : Int) σ' Q := by
  have done : ∀ (k : Nat) (fo ev : Int) (out : List Int) (σ' : MS), M.length ≤ k → k ≤ 4000 → 0 ≤ fo ∧ fo ≤ k → out.length ≤ 4000 + k → RpI σ σ' ev out → (((if 4000 < out.length then -3 else fo) ≤ 0 → Q (.inl (some (if 4000 < out.length then -3 else fo))) σ') ∧ (0 < (if 4000 < out.length then -3 else fo) → R_remembers σ' (kV (thQ Q) fun σ1 => R_replace_404 (if 4000 < out.length then -3 else fo) (out.length : Int) 0 σ1 Q))) → R_replace_105 w (n : Int) ((T.length - n - 1 : Nat) : Int) fo (out.length : Int) (k : Int) σ' Q := by
    intro k fo ev out σ' h1 h2 h3 h5 hr hq
    have e7 : mV σ' 246 7 = (M.length : Int) := by rw [hr.2.2.1 _ _ (by decide) (Or.inr (by decide))]; exact h7
    obtain ⟨q1, q2⟩ := hq
    refine R_replace_105.i ⟨by unfold Rg; omega, fun _ => ⟨by unfold Rg; omega, fun a => ?_, fun a => ?_⟩, fun h9 => absurd h9 (by rw [e7]; omega)⟩
    · rw [if_neg (by omega)] at q1 q2
      refine ⟨by unfold Rg; omega, fun b => q2 (by omega), fun b => ?_⟩
      subst b
      exact q1 (by omega)
    · rw [if_pos (by omega)] at q1
      exact q1 (by decide)
  intro f
  induction f with
  | zero =>
    intro k fo ev out σ' h1 h2 h3 h4 h5 hr hq
    exact done k fo ev out σ' h1 (by omega) h3 h5 hr (hq σ' hr)
  | succ f ih =>
    intro k fo ev out σ' h1 h2 h3 h4 h5 hr hq
    unfold rpD at hq
    by_cases hk : M.length ≤ k
    · rw [if_pos hk] at hq
      exact done k fo ev out σ' hk (by omega) h3 h5 hr (hq σ' hr)
    · rw [if_neg hk] at hq
      have fr : ∀ {σ1 : MS} {e1 : Int} {o1 : List Int}, RpI σ σ1 e1 o1 → mV σ1 246 7 = (M.length : Int) ∧ hol σ1 248 M ∧ hol σ1 247 T := fun h => ⟨by rw [h.2.2.1 _ _ (by decide) (Or.inr (by decide))]; exact h7, fun i hi => by rw [h.2.2.1 _ _ (by decide) (Or.inl (by decide))]; exact hM i hi, fun i hi => by rw [h.2.2.1 _ _ (by decide) (Or.inl (by decide))]; exact hT i hi⟩
      obtain ⟨f7, fM, fT⟩ := fr hr
      refine R_replace_105.i ⟨by unfold Rg; omega, fun h9 => absurd h9 (by rw [f7]; omega), fun _ => R_standsAt.s (M := M) (T := T) f7 fM fT hl hlT hb hbT (by omega) (by omega) ⟨fun a => ?_, fun a => ⟨by unfold Rg; omega, fun b => ?_, fun b => ⟨by omega, by omega, by omega, by omega, ?_⟩⟩⟩⟩
      · have hst := bZ_ne a
        rw [if_pos hst] at hq
        have hkn : k + n ≤ M.length := by
          unfold stW at hst
          rw [Bool.and_eq_true] at hst
          exact of_decide_eq_true hst.1
        have ee : mV σ' 246 33 = ev := hr.2.2.2.1
        refine R_spendsEver.i ⟨by rw [ee]; unfold Rg; omega, fun b => ⟨by rw [ee]; unfold Rg; omega, fun _ => ?_, fun h9 => absurd h9 (by decide)⟩, fun b => ⟨fun h9 => absurd rfl h9, fun _ => ?_⟩⟩
        · rw [ee] at b
          rw [if_neg (by omega)] at hq
          rw [ee]
          have hr2 := hr.ev (e' := ev + (10 + ((T.length - n - 1 : Nat) : Int)))
          obtain ⟨g7, gM, gT⟩ := fr hr2
          refine R_replace_185.s (M := M) gM hl hb hkn ?_
          refine R_replace_254.s (σ := σ) (M := M) (T := T) hw hM hT hl hlT hb hbT hn hkn hn1.1 (by omega) (fun σ2 h2 => ⟨fun c => ?_, fun c => ?_⟩) _ hr2
          · rw [if_neg (by omega)] at hq
            exact ih (k + n) (fo + 1) _ _ σ2 (by omega) hkn (by omega) (by omega) (by omega) h2 hq
          · rw [if_pos (by omega)] at hq
            exact (hq σ2 h2).1 (by dsimp only; decide)
        · rw [ee] at b
          rw [if_pos (by omega)] at hq
          exact (hq σ' hr).1 (by dsimp only; decide)
      · rw [if_neg (by rw [bZ_z a]; decide)] at hq
        refine R_replace_149.i ?_
        have := ih (k + 1) fo ev (out ++ [M.getD k 0]) σ' (by omega) (by omega) (by omega) h4 (by rw [List.length_append, List.length_singleton]; omega) (hr.skip (by omega)) hq
        rw [RpI.len] at this
        exact this
      · rw [if_neg (by rw [bZ_z a]; decide)] at hq
        have e9 : mV σ' 248 ((k : Int)).toNat = M.getD k 0 := fM k (by omega)
        rw [e9, hb.at (by omega)]
        refine R_replace_149.i ?_
        have := ih (k + 1) fo ev (out ++ [M.getD k 0]) (wV σ' 249 out.length (M.getD k 0)) (by omega) (by omega) (by omega) h4 (by rw [List.length_append, List.length_singleton]; omega) (hr.put (by omega)) hq
        rw [RpI.len] at this
        exact this
theorem R_replace_34.s {σ : MS} {Q : MQ9} {T : List Int} {w : Int} (hT : hol σ 247 T) (hlT : T.length ≤ 4000) : ∀ (r p : List Int), T = p ++ r → R_replace_56 w (T.length : Int) ((p.length + oldN r : Nat) : Int) σ Q → R_replace_34 w (T.length : Int) (p.length : Int) σ Q
  | [], p, he, h => by
    have hl : T.length = p.length := by rw [he]; simp
    exact R_replace_34.i ⟨by unfold Rg; omega, fun _ => h, fun h9 => absurd h9 (by omega)⟩
  | x :: r, p, he, h => by
    have hl := len_at he
    have hx : mV σ 247 ((p.length : Int)).toNat = x := hT.at he
    unfold oldN at h
    refine R_replace_34.i ⟨by unfold Rg; omega, fun h9 => absurd h9 (by omega), fun _ => ⟨by omega, by omega, ?_⟩⟩
    rw [hx]
    refine ⟨fun e => ?_, fun e => ?_⟩
    · rw [if_pos e] at h; exact h
    · rw [if_neg e] at h
      have := R_replace_34.s (w := w) hT hlT r (p ++ [x]) (nxt_at he) (by rw [List.length_append, List.length_singleton, show p.length + 1 + oldN r = p.length + (oldN r + 1) by omega]; exact h)
      rw [len_sn] at this
      exact this
theorem R_replace_404.s {σ : MS} {Q : MQ9} {fo : Int} {out : List Int} (hf : 0 ≤ fo ∧ fo ≤ 4000) (hl : out.length ≤ 4000) (hb : smB out) (hO : hol σ 249 out) (hq : Q (.inl (some fo)) (wV (wF σ 248 0 out) 246 7 (out.length : Int))) : R_replace_404 fo (out.length : Int) 0 σ Q := by
  refine loopF (z := 248) (a := 0) (n := out.length) (f := fun i => out.getD i 0) (P := fun i s => R_replace_404 fo (out.length : Int) i s Q) (fun i hi h => ?_) ?_
  · have e2 : mV (wF σ 248 0 (ofF (fun i => out.getD i 0) i)) 249 i = out.getD i 0 := by rw [wF_ne (Or.inl (by decide))]; exact hO i hi
    refine R_replace_404.i ⟨by unfold Rg; omega, by unfold Rg; omega, fun h9 => absurd h9 (by omega), fun _ => ⟨by omega, by omega, by omega, by omega, ?_⟩⟩
    rw [show ((i : Int)).toNat = i from rfl, e2, hb.at hi]
    rw [Nat.zero_add] at h
    exact h
  · rw [ofF_list]
    exact R_replace_404.i ⟨by unfold Rg; omega, by unfold Rg; omega, fun _ => ⟨by unfold Rg; omega, by unfold Rg; omega, hq⟩, fun h9 => absurd h9 (by omega)⟩
/-- what was made, and the work, stay within bounds -/
theorem rpD_b {M T : List Int} {n : Nat} {w : Int} (hM : smB M) (hT : smB T) : ∀ (f k : Nat) (fo ev : Int) (out : List Int), M.length ≤ k + f → 0 ≤ fo ∧ fo ≤ k → k ≤ M.length → 0 ≤ ev ∧ ev ≤ 400000 → smB out → 1 ≤ n → ((0 < (rpD M T n w f k fo ev out).1 → (rpD M T n w f k fo ev out).2.2.length ≤ 4000 ∧ (rpD M T n w f k fo ev out).1 ≤ M.length) ∧ smB (rpD M T n w f k fo ev out).2.2 ∧ 0 ≤ (rpD M T n w f k fo ev out).2.1 ∧ (rpD M T n w f k fo ev out).2.1 ≤ 400000) := by
  have done : ∀ (k : Nat) (fo ev : Int) (out : List Int), 0 ≤ fo ∧ fo ≤ k → k ≤ M.length → 0 ≤ ev ∧ ev ≤ 400000 → smB out → ((0 < (if 4000 < out.length then (-3 : Int) else fo) → out.length ≤ 4000 ∧ (if 4000 < out.length then (-3 : Int) else fo) ≤ M.length) ∧ smB out ∧ 0 ≤ ev ∧ ev ≤ 400000) := by
    intro k fo ev out h3 h4 he hs
    refine ⟨fun h => ?_, hs, he⟩
    by_cases c : 4000 < out.length
    · rw [if_pos c] at h; exact absurd h (by decide)
    · rw [if_neg c] at h ⊢
      omega
  intro f
  induction f with
  | zero =>
    intro k fo ev out h1 h3 h4 he hs hn
    exact done k fo ev out h3 h4 he hs
  | succ f ih =>
    intro k fo ev out h1 h3 h4 he hs hn
    unfold rpD
    by_cases hk : M.length ≤ k
    · rw [if_pos hk]
      exact done k fo ev out h3 h4 he hs
    · rw [if_neg hk]
      by_cases hst : stW M T k n w = true
      · rw [if_pos hst]
        have hkn : k + n ≤ M.length := by
          unfold stW at hst
          rw [Bool.and_eq_true] at hst
          exact of_decide_eq_true hst.1
        by_cases h5 : 400000 < ev + (10 + ((T.length - n - 1 : Nat) : Int))
        · rw [if_pos h5]
          exact ⟨fun h => absurd h (by dsimp only; decide), hs, he⟩
        · rw [if_neg h5]
          by_cases h6 : 4000 < (out ++ newD M T k n w).length
          · rw [if_pos h6]
            exact ⟨fun h => absurd h (by dsimp only; decide), hs.app (newD_sm hT), by dsimp only; omega, by dsimp only; omega⟩
          · rw [if_neg h6]
            exact ih (k + n) (fo + 1) _ _ (by omega) (by omega) hkn (by omega) (hs.app (newD_sm hT)) hn
      · rw [if_neg hst]
        exact ih (k + 1) fo ev _ (by omega) (by omega) (by omega) he (hs.app (fun x hx => by rw [List.mem_singleton.mp hx]; exact hM.b (by omega))) hn
theorem rpD_g {M T : List Int} {n : Nat} {w : Int} : ∀ {f k : Nat} {fo ev : Int} {out : List Int}, ev ≤ (rpD M T n w f k fo ev out).2.1
  | 0, k, fo, ev, out => Int.le_refl _
  | f + 1, k, fo, ev, out => by
    unfold rpD
    split
    · exact Int.le_refl _
    · split
      · split
        · exact Int.le_refl _
        · split
          · show ev ≤ ev + (10 + ((T.length - n - 1 : Nat) : Int))
            omega
          · have := rpD_g (M := M) (T := T) (n := n) (w := w) (f := f) (k := k + n) (fo := fo + 1) (ev := ev + (10 + ((T.length - n - 1 : Nat) : Int))) (out := out ++ newD M T k n w)
            omega
      · exact rpD_g
theorem rpA_g {M T : List Int} {w ev : Int} : ev ≤ (rpA M T w ev).2.1 := by
  unfold rpA
  split
  · exact Int.le_refl _
  · split
    · exact Int.le_refl _
    · have := rpD_g (M := M) (T := T) (n := oldN T) (w := w) (f := M.length) (k := 0) (fo := 0) (ev := ev + (M.length : Int)) (out := [])
      omega
theorem rpA_b {M T : List Int} {w ev : Int} (hM : smB M) (hT : smB T) (he : 0 ≤ ev ∧ ev ≤ 400000) : ((0 < (rpA M T w ev).1 → (rpA M T w ev).2.2.length ≤ 4000 ∧ (rpA M T w ev).1 ≤ M.length) ∧ smB (rpA M T w ev).2.2 ∧ 0 ≤ (rpA M T w ev).2.1 ∧ (rpA M T w ev).2.1 ≤ 400000) := by
  unfold rpA
  have nil : smB ([] : List Int) := fun x hx => absurd hx List.not_mem_nil
  by_cases h : oldN T = T.length ∨ oldN T < 1 ∨ 60 < oldN T
  · rw [if_pos h]
    exact ⟨fun h => absurd h (by dsimp only; decide), nil, he⟩
  · rw [if_neg h]
    by_cases h2 : 400000 < ev + (M.length : Int)
    · rw [if_pos h2]
      exact ⟨fun h => absurd h (by dsimp only; decide), nil, he⟩
    · rw [if_neg h2]
      exact rpD_b hM hT _ _ _ _ _ (by omega) (by omega) (by omega) (by omega) nil (by omega)
theorem R_replace.s {σ : MS} {Q : MQ9} {M T : List Int} {w ev : Int} (hw : 0 ≤ w ∧ w ≤ 7) (h6 : mV σ 246 6 = (T.length : Int)) (h7 : mV σ 246 7 = (M.length : Int)) (hM : hol σ 248 M) (hT : hol σ 247 T) (hl : M.length ≤ 4000) (hlT : T.length ≤ 4000) (hb : smB M) (hbT : smB T) (h33 : mV σ 246 33 = ev) (he : 0 ≤ ev ∧ ev ≤ 400000) (hq : ∀ σ'', RpI (wV (wV σ 246 0 0) 246 6 0) σ'' (rpA M T w ev).2.1 (rpA M T w ev).2.2 → ((rpA M T w ev).1 ≤ 0 → Q (.inl (some (rpA M T w ev).1)) σ'') ∧ (0 < (rpA M T w ev).1 → R_remembers σ'' (kV (thQ Q) fun σ1 => R_replace_404 (rpA M T w ev).1 ((rpA M T w ev).2.2.length : Int) 0 σ1 Q))) : R_replace w σ Q := by
  have ho := oldN_le T
  have r0 : RpI (wV (wV σ 246 0 0) 246 6 0) (wV (wV σ 246 0 0) 246 6 0) ev [] := ⟨rfl, rfl, fun _ _ _ _ => rfl, h33, fun i hi => absurd hi (Nat.not_lt_zero i)⟩
  unfold rpA at hq
  refine R_replace.i ⟨by unfold Rg; omega, fun h => absurd h (by omega), fun _ => ⟨by unfold Rg; omega, fun _ => ?_, fun h => absurd h (by omega)⟩⟩
  rw [h6]
  generalize es : wV (wV σ 246 0 0) 246 6 0 = σ1 at *
  have f7 : mV σ1 246 7 = (M.length : Int) := by rw [← es]; exact h7
  have fM : hol σ1 248 M := by rw [← es]; exact hM
  have fT : hol σ1 247 T := by rw [← es]; exact hT
  have f33 : mV σ1 246 33 = ev := by rw [← es]; exact h33
  refine R_replace_34.s (σ := σ1) (T := T) fT hlT T [] rfl ?_
  rw [List.length_nil, Nat.zero_add]
  refine R_replace_56.i ⟨by unfold Rg; omega, fun h => ?_, fun h0 => ⟨by unfold Rg; omega, fun h => ?_, fun h1 => ⟨by unfold Rg; omega, fun h2 => ?_, fun h => ?_⟩⟩⟩
  · rw [if_pos (by omega)] at hq; exact (hq _ r0).1 (by dsimp only; decide)
  · rw [if_pos (by omega)] at hq; exact (hq _ r0).1 (by dsimp only; decide)
  · rw [if_neg (by omega)] at hq
    rw [f7]
    refine R_spendsEver.i ⟨by rw [f33]; unfold Rg; omega, fun a => ⟨by rw [f33]; unfold Rg; omega, fun _ => ?_, fun h9 => absurd h9 (by decide)⟩, fun a => ⟨fun h9 => absurd rfl h9, fun _ => ?_⟩⟩
    · rw [f33] at a
      rw [if_neg (by omega)] at hq
      rw [f33]
      have := R_replace_105.s (σ := σ1) (M := M) (T := T) (n := oldN T) (w := w) (Q := Q) hw f7 fM fT hl hlT hb hbT (by omega) (by omega) M.length 0 0 (ev + M.length) [] (wV σ1 246 33 (ev + M.length)) (by omega) (by omega) (by omega) (by omega) (by rw [List.length_nil]; omega) (r0.ev) hq
      rw [show (T.length : Int) - ((oldN T : Nat) : Int) - 1 = ((T.length - oldN T - 1 : Nat) : Int) by omega]
      exact this
    · rw [f33] at a
      rw [if_pos (by omega)] at hq
      exact (hq _ r0).1 (by dsimp only; decide)
  · rw [if_pos (by omega)] at hq; exact (hq _ r0).1 (by dsimp only; decide)
/-! both -/
theorem MemR.no {σ σ' : MS} {e : Int} (h : MemR σ) (x1 : mX σ' 1 = []) (x3 : mX σ' 3 = mX σ 3) (xr : ∀ j, j < 6 → mX σ' (10 + 2 * j) = mX σ (10 + 2 * j)) (v248 : ∀ k, mV σ' 248 k = mV σ 248 k) (v250 : ∀ k, mV σ' 250 k = mV σ 250 k) (v251 : ∀ k, mV σ' 251 k = mV σ 251 k) (r7 : mV σ' 246 7 = mV σ 246 7) (r8 : mV σ' 246 8 = mV σ 246 8) (r6 : mV σ' 246 6 = 0) (v5 : mV σ' 0 5 = mV σ 0 5) (v6 : mV σ' 0 6 = mV σ 0 6) (e1 : mV σ' 22 1 = e) (e2 : mV σ' 246 33 = e) (e3 : 0 ≤ e ∧ e ≤ 400000) : MemR σ' := by
  obtain ⟨⟨p1, p2, p3, p4⟩, ⟨m1, m2, m3, m4⟩, ⟨t, c, hP⟩, -, -, -⟩ := h
  refine ⟨⟨?_, ?_, ?_, ?_⟩, ⟨?_, ?_, ?_, ?_⟩, ⟨t, c, hP.cg xr v251 v250 r8 v6 v5⟩, by rw [e1, e2], by rw [e1]; exact e3.1, by rw [e1]; exact e3.2⟩
  · rw [x1, r6]; rfl
  · rw [x1]; exact fun i hi => absurd hi (Nat.not_lt_zero i)
  · rw [x1]; exact Nat.zero_le _
  · rw [x1]; exact fun x hx => absurd hx List.not_mem_nil
  · rw [x3, r7]; exact m1
  · rw [x3]; exact fun i hi => by rw [v248]; exact m2 i hi
  · rw [x3]; exact m3
  · rw [x3]; exact m4
theorem MemR.new {σ σ1 σ2 : MS} {t c : Nat} {L : List Int} {e : Int} (h : MemR σ) (hP : PaR σ t c) (x1 : mX σ2 1 = []) (x3 : mX σ2 3 = L) (xr : ∀ j, j < 6 → mX σ2 (10 + 2 * j) = mX (tre σ t c) (10 + 2 * j)) (y1 : ∀ j, j < 6 → mX σ1 (10 + 2 * j) = mX (tre σ t c) (10 + 2 * j)) (y251 : ∀ k, mV σ1 251 k = mV σ 251 k) (y250 : ∀ k, mV σ1 250 k = mV σ 250 k) (y8 : mV σ1 246 8 = mV σ 246 8) (y6 : mV σ1 0 6 = mV (tre σ t c) 0 6) (y5 : mV σ1 0 5 = mV (tre σ t c) 0 5)
    (g251 : ∀ k, mV σ2 251 k = mV (rre σ1 (mX σ 3)) 251 k) (g250 : ∀ k, mV σ2 250 k = mV (rre σ1 (mX σ 3)) 250 k) (g8 : mV σ2 246 8 = mV (rre σ1 (mX σ 3)) 246 8) (g6 : mV σ2 0 6 = mV (rre σ1 (mX σ 3)) 0 6) (g5 : mV σ2 0 5 = mV (rre σ1 (mX σ 3)) 0 5)
    (t6 : mV σ2 246 6 = 0) (t7 : mV σ2 246 7 = (L.length : Int)) (hL : hol σ2 248 L) (hl : L.length ≤ 4000) (hb : smB L) (e1 : mV σ2 22 1 = e) (e2 : mV σ2 246 33 = e) (e3 : 0 ≤ e ∧ e ≤ 400000) : MemR σ2 := by
  obtain ⟨-, hm, -⟩ := h
  have hre := PaR.re (σ1 := σ1) hP hm y1 y251 y250 y8 y6 y5
  refine ⟨⟨?_, ?_, ?_, ?_⟩, ⟨?_, ?_, ?_, ?_⟩, ⟨_, _, PaR.cg hre (fun j hj => ?_) g251 g250 g8 g6 g5⟩, by rw [e1, e2], by rw [e1]; exact e3.1, by rw [e1]; exact e3.2⟩
  · rw [x1, t6]; rfl
  · rw [x1]; exact fun i hi => absurd hi (Nat.not_lt_zero i)
  · rw [x1]; exact Nat.zero_le _
  · rw [x1]; exact fun x hx => absurd hx List.not_mem_nil
  · rw [x3, t7]
  · rw [x3]; exact hL
  · rw [x3]; exact hl
  · rw [x3]; exact hb
  · rw [rre_X, xr j hj, y1 j hj]
theorem FrM.Rp {σ σ' : MS} {ev : Int} {out : List Int} (h : RpI σ σ' ev out) : FrM σ σ' := ⟨fun q _ => by rw [h.1], fun z k h1 _ _ h4 => h.2.2.1 z k (fun e => h1 (by rw [e]; decide)) (by
  by_cases e : z = 246 ∧ k = 33
  · exact absurd ⟨e.1, by rw [e.2]; decide⟩ h4
  · omega), h.2.1, Int.le_of_eq (h.2.2.1 22 1 (by decide) (Or.inl (by decide))).symm⟩
theorem replace_t {σ : MS} {x : Int} (hx : Rg x) (hn : ¬ (0 ≤ x ∧ x ≤ 7)) : (∀ {Q : MQ9}, Q (.inr (exN 2)) (wX σ 1 []) → T_replace x σ Q) ∧ (∀ {Q : MQ9}, Q (.inl (some 0)) (wV (wV (wV σ 246 0 0) 246 6 0) 246 0 1) → R_replace x σ Q) := by
  refine ⟨fun {Q} hq => T_replace.i ⟨hx, fun _ => T_replace_10.i hq, fun h => ⟨hx, fun h9 => absurd h9 (by omega), fun _ => T_replace_10.i hq⟩⟩, fun {Q} hq => R_replace.i ⟨hx, fun _ => R_replace_25.i hq, fun h => ⟨hx, fun h9 => absurd h9 (by omega), fun _ => R_replace_25.i hq⟩⟩⟩
theorem replace_b {σ : MS} {Q : MQ9} {x : Int} {th th' : String → MS → Prop} (hx : 0 ≤ x ∧ x ≤ 7) (h : MemR σ) (hq : ∀ r σ', MemR σ' → FrM σ σ' → Q (.inl (some r)) σ') : T_replace x σ (kI th fun r σ1 => R_replace x σ1 (kI th' fun r' σ2 => r' = r ∧ Q (.inl (some r)) σ2)) := by
  have hh := h
  obtain ⟨⟨p1, p2, p3, p4⟩, ⟨m1, m2, m3, m4⟩, ⟨t, c, hP⟩, e1, e2, e3⟩ := h
  obtain ⟨b1, b2, b3⟩ := rpA_b (w := x) m4 p4 ⟨e2, e3⟩
  have ht := hP.1
  obtain ⟨-, hc, q6, q5, q8, -⟩ := id hP
  refine T_replace.i ⟨by unfold Rg; omega, fun h9 => absurd h9 (by omega), fun _ => ⟨by unfold Rg; omega, fun _ => ?_, fun h9 => absurd h9 (by omega)⟩⟩
  refine T_putInPlace.s hx m3 p3 m4 p4 ⟨e2, e3⟩ (fun σa x7 v22 w2 ea e7 => ⟨fun hr => ?_, fun hr => ?_⟩)
  · show R_replace x (wX σa 1 []) _
    have vv : ∀ z k, z ≠ 22 ∨ k ≠ 1 → mV (wX σa 1 []) z k = mV σ z k := v22
    refine R_replace.s (M := mX σ 3) (T := mX σ 1) (ev := mV σ 22 1) hx (by rw [vv _ _ (Or.inl (by decide))]; exact p1) (by rw [vv _ _ (Or.inl (by decide))]; exact m1) (fun i hi => by rw [vv _ _ (Or.inl (by decide))]; exact m2 i hi) (fun i hi => by rw [vv _ _ (Or.inl (by decide))]; exact p2 i hi) m3 p3 m4 p4 (by rw [vv _ _ (Or.inl (by decide))]; exact e1.symm) ⟨e2, e3⟩ (fun σ2 hR => ⟨fun _ => ⟨rfl, hq _ _ ?_ ?_⟩, fun h9 => absurd h9 (by omega)⟩)
    · have gV : ∀ {z k : Nat}, z ≠ 249 → (z ≠ 22 ∧ z ≠ 246) ∨ (z = 246 ∧ k ≠ 0 ∧ k ≠ 6 ∧ k ≠ 33) → mV σ2 z k = mV σ z k := by
        intro z k h1 h2
        rw [hR.2.2.1 z k h1 (by omega), wV_ne (by omega), wV_ne (by omega)]
        exact v22 z k (by omega)
      have gX : ∀ q, mX σ2 q = mX (wX σa 1 []) q := fun q => by rw [hR.1]; rfl
      have gX2 : ∀ q, q ≠ 1 → q ≠ 7 → mX σ2 q = mX σ q := fun q h1 h7 => by rw [gX, wX_ne h1]; exact x7 q h7
      refine MemR.no (σ := σ) (e := (rpA (mX σ 3) (mX σ 1) x (mV σ 22 1)).2.1) hh (by rw [gX]; exact wX_self) (gX2 3 (by decide) (by decide)) (fun j hj => gX2 _ (by omega) (by omega)) (fun k => gV (by decide) (Or.inl (by decide))) (fun k => gV (by decide) (Or.inl (by decide))) (fun k => gV (by decide) (Or.inl (by decide))) (gV (by decide) (by omega)) (gV (by decide) (by omega)) ?_ (gV (by decide) (Or.inl (by decide))) (gV (by decide) (Or.inl (by decide))) ?_ hR.2.2.2.1 b3
      · rw [hR.2.2.1 246 6 (by decide) (Or.inr (by decide))]; exact wV_self
      · rw [hR.2.2.1 22 1 (by decide) (Or.inl (by decide))]; exact ea
    · refine FrM.tr (σ1 := wX σa 1 []) ?_ ((FrM.r (by decide)).tr ((FrM.r (by decide)).tr (FrM.Rp hR)))
      refine FrM.tr (σ1 := σa) ⟨fun q h1 => x7 q (fun e => h1 (by rw [e]; decide)), fun z k _ _ h3 _ => v22 z k (by omega), w2, by rw [ea]; exact rpA_g⟩ (FrM.X (by decide))
  · have hb6 : mV (wX σa 1 []) 0 6 = (t : Int) := by rw [← q6]; exact v22 0 6 (Or.inl (by decide))
    have hb5 : mV (wX σa 1 []) 0 5 = (c : Int) := by rw [← q5]; exact v22 0 5 (Or.inl (by decide))
    have hx3 : mX (wX σa 1 []) 3 = mX σ 3 := by rw [wX_ne (by decide)]; exact x7 3 (by decide)
    refine T_remember.s ht hb6 (by rw [hb5]; omega) (by rw [hx3]; omega) ?_
    rw [hb5]
    show (mX (tre (wX σa 1 []) t c) 7).length ≤ 4096 ∧ R_replace x (wX (tre (wX σa 1 []) t c) 3 (mX (tre (wX σa 1 []) t c) 7)) _
    have t7 : mX (tre (wX σa 1 []) t c) 7 = (rpA (mX σ 3) (mX σ 1) x (mV σ 22 1)).2.2 := by
      rw [tre_X (by omega), wX_ne (by decide)]
      exact e7 hr
    rw [t7]
    obtain ⟨o1, o2⟩ := b1 hr
    refine ⟨by omega, ?_⟩
    generalize ec : wX (tre (wX σa 1 []) t c) 3 (rpA (mX σ 3) (mX σ 1) x (mV σ 22 1)).2.2 = σc
    have vc : ∀ z k, z ≠ 0 → z ≠ 22 ∨ k ≠ 1 → mV σc z k = mV σ z k := fun z k h0 h1 => by
      rw [← ec]
      show mV (tre (wX σa 1 []) t c) z k = _
      rw [tre_V h0]
      exact v22 z k h1
    have c0 : ∀ k, mV σc 0 k = mV (tre (wX σa 1 []) t c) 0 k := fun k => by rw [← ec]; rfl
    have cX : ∀ q, q ≠ 3 → mX σc q = mX (tre (wX σa 1 []) t c) q := fun q h => by rw [← ec]; exact wX_ne h
    have c3 : mX σc 3 = (rpA (mX σ 3) (mX σ 1) x (mV σ 22 1)).2.2 := by rw [← ec]; exact wX_self
    have cr : ∀ j, j < 6 → mX σc (10 + 2 * j) = mX (tre σ t c) (10 + 2 * j) := fun j hj => by
      rw [cX _ (by omega)]
      by_cases e : j = t
      · subst e
        have a1 : mX (tre (wX σa 1 []) j c) (10 + 2 * j) = mX (wX σa 1 []) 3 := wX_self
        have a2 : mX (tre σ j c) (10 + 2 * j) = mX σ 3 := wX_self
        rw [a1, a2, hx3]
      · rw [tre_X (by omega), tre_X (by omega), wX_ne (by omega)]
        exact x7 _ (by omega)
    have d0 : ∀ k, (k = 5 ∨ k = 6) → mV σc 0 k = mV (tre σ t c) 0 k := fun k hk => by
      rw [c0]
      rcases hk with rfl | rfl
      · have a1 : mV (tre (wX σa 1 []) t c) 0 5 = min 6 ((c : Int) + 1) := wV_self
        have a2 : mV (tre σ t c) 0 5 = min 6 ((c : Int) + 1) := wV_self
        rw [a1, a2]
      · have a1 : mV (tre (wX σa 1 []) t c) 0 6 = (((t + 1) % 6 : Nat) : Int) := by unfold tre; rw [wV_ne (Or.inr (by decide)), wV_self]
        have a2 : mV (tre σ t c) 0 6 = (((t + 1) % 6 : Nat) : Int) := by unfold tre; rw [wV_ne (Or.inr (by decide)), wV_self]
        rw [a1, a2]
    have fc : FrM σ σc := by
      rw [← ec]
      refine FrM.tr (σ1 := wX σa 1 []) ?_ ((FrM.tre ht).tr (FrM.X (by decide)))
      exact FrM.tr (σ1 := σa) ⟨fun q h1 => x7 q (fun e => h1 (by rw [e]; decide)), fun z k _ _ h3 _ => v22 z k (by omega), w2, by rw [ea]; exact rpA_g⟩ (FrM.X (by decide))
    refine R_replace.s (M := mX σ 3) (T := mX σ 1) (ev := mV σ 22 1) hx (by rw [vc _ _ (by decide) (Or.inl (by decide))]; exact p1) (by rw [vc _ _ (by decide) (Or.inl (by decide))]; exact m1) (fun i hi => by rw [vc _ _ (by decide) (Or.inl (by decide))]; exact m2 i hi) (fun i hi => by rw [vc _ _ (by decide) (Or.inl (by decide))]; exact p2 i hi) m3 p3 m4 p4 (by rw [vc _ _ (by decide) (Or.inl (by decide))]; exact e1.symm) ⟨e2, e3⟩ (fun σ2 hR => ⟨fun h9 => absurd h9 (by omega), fun _ => ?_⟩)
    have sV : ∀ {z k : Nat}, z ≠ 249 → z ≠ 0 → z ≠ 22 → (z ≠ 246 ∨ (k ≠ 0 ∧ k ≠ 6 ∧ k ≠ 33)) → mV σ2 z k = mV σ z k := by
      intro z k h1 h0 h22 h2
      rw [hR.2.2.1 z k h1 (by omega), wV_ne (by omega), wV_ne (by omega)]
      exact vc z k h0 (Or.inl h22)
    have s0 : ∀ {k : Nat}, mV σ2 0 k = mV σc 0 k := by
      intro k
      rw [hR.2.2.1 0 k (by decide) (Or.inl (by decide)), wV_ne (Or.inl (by decide)), wV_ne (Or.inl (by decide))]
    have sX : ∀ q, mX σ2 q = mX σc q := fun q => by rw [hR.1]; rfl
    have s8 : 0 ≤ mV σ2 246 8 ∧ mV σ2 246 8 ≤ 6 := by rw [sV (by decide) (by decide) (by decide) (by omega), q8]; omega
    refine R_remembers.s (M := mX σ 3) s8 (by rw [sV (by decide) (by decide) (by decide) (by omega)]; exact m1) (fun i hi => by rw [sV (by decide) (by decide) (by decide) (Or.inl (by decide))]; exact m2 i hi) m3 m4 ?_
    refine R_replace_404.s (σ := rre σ2 (mX σ 3)) (by omega) o1 b2 (fun i hi => ?_) ⟨rfl, hq _ _ ?_ ?_⟩
    · rw [rre_V (by decide) (by decide) (Or.inl (by decide))]
      exact hR.2.2.2.2 i hi (by omega)
    · generalize rpA (mX σ 3) (mX σ 1) x (mV σ 22 1) = A at *
      have gV : ∀ {z k : Nat}, z ≠ 248 → (z ≠ 246 ∨ k ≠ 7) → mV (wV (wF (rre σ2 (mX σ 3)) 248 0 A.2.2) 246 7 (A.2.2.length : Int)) z k = mV (rre σ2 (mX σ 3)) z k := fun h1 h2 => by rw [wV_ne h2, wF_ne (Or.inl h1)]
      have gX : ∀ q, mX (wV (wF (rre σ2 (mX σ 3)) 248 0 A.2.2) 246 7 (A.2.2.length : Int)) q = mX σc q := fun q => by
        show mX (rre σ2 (mX σ 3)) q = _
        rw [rre_X, sX]
      refine MemR.new (σ := σ) (σ1 := σ2) (L := A.2.2) (e := A.2.1) hh hP ?_ ?_ (fun j hj => by rw [gX]; exact cr j hj) (fun j hj => by rw [sX]; exact cr j hj) (fun k => sV (by decide) (by decide) (by decide) (Or.inl (by decide))) (fun k => sV (by decide) (by decide) (by decide) (Or.inl (by decide))) (sV (by decide) (by decide) (by decide) (by omega)) (by rw [s0]; exact d0 6 (Or.inr rfl)) (by rw [s0]; exact d0 5 (Or.inl rfl)) (fun k => gV (by decide) (Or.inl (by decide))) (fun k => gV (by decide) (Or.inl (by decide))) (gV (by decide) (by omega)) (gV (by decide) (Or.inl (by decide))) (gV (by decide) (Or.inl (by decide))) ?_ wV_self (hol.V hol.F (by decide)) o1 b2 ?_ ?_ b3
      · rw [gX, cX 1 (by decide), tre_X (by omega)]; exact wX_self
      · rw [gX]; exact c3
      · rw [gV (by decide) (by omega), rre_V (by decide) (by decide) (Or.inr (by decide)), hR.2.2.1 246 6 (by decide) (Or.inr (by decide))]
        exact wV_self
      · rw [gV (by decide) (Or.inl (by decide)), rre_V (by decide) (by decide) (Or.inl (by decide)), hR.2.2.1 22 1 (by decide) (Or.inl (by decide)), wV_ne (Or.inl (by decide)), wV_ne (Or.inl (by decide)), ← ec]
        show mV (tre (wX σa 1 []) t c) 22 1 = _
        rw [tre_V (by decide)]
        exact ea
      · rw [gV (by decide) (by omega), rre_V (by decide) (by decide) (Or.inr (by decide))]
        exact hR.2.2.2.1
    · exact fc.tr ((FrM.r (by decide)).tr ((FrM.r (by decide)).tr ((FrM.Rp hR).tr (FrM.rr9.tr ((FrM.F (by decide)).tr (FrM.r (by decide)))))))
