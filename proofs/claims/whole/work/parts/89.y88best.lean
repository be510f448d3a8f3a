/-! LINES ARE FILLED, way 1: the document, the class -/
/-- the cost of a line from s to t, with the costs behind it -/
def bsO (H : HY9) (U : List Int) (R : Nat) (T : Nat → Int) (s t : Nat) : Int := if t = U.length then 0 else if ¬ U.getD t 0 = 32 ∧ ptD H U t = 0 then -1 else if (R : Int) - ((t - s : Nat) : Int) - bZ (decide (ptD H U t = 2)) < 0 ∨ T (nxA U t) = -1 then -1 else ((R : Int) - ((t - s : Nat) : Int) - bZ (decide (ptD H U t = 2))) * ((R : Int) - ((t - s : Nat) : Int) - bZ (decide (ptD H U t = 2))) + 50 * bZ (decide (ptD H U t = 2)) + T (nxA U t)
/-- of the first k ends the best one, the last of several -/
def bsB (H : HY9) (U : List Int) (R : Nat) (T : Nat → Int) (s : Nat) : Nat → Int × Int
  | 0 => (-1, -1)
  | k + 1 => if ¬ bsO H U R T s (s + (k + 1)) = -1 ∧ ((bsB H U R T s k).1 = -1 ∨ bsO H U R T s (s + (k + 1)) ≤ (bsB H U R T s k).1) then (bsO H U R T s (s + (k + 1)), ((s + (k + 1) : Nat) : Int)) else bsB H U R T s k
/-- a line may begin there -/
def bsI (H : HY9) (U : List Int) (s : Nat) : Bool := decide (s < U.length ∧ (s = 0 ∨ U.getD (s - 1) 0 = 32 ∨ ¬ ptD H U s = 0))
def bsV (H : HY9) (U : List Int) (R1 R2 : Nat) : Nat → Nat → Int × Int
  | 0, _ => (-1, -1)
  | m + 1, s => if bsI H U s = true then bsB H U (if s = 0 then R1 else R2) (fun p => (bsV H U R1 R2 m p).1) s (min (if s = 0 then R1 else R2) (U.length - s)) else (-1, -1)
def bsW (H : HY9) (U : List Int) (R1 R2 : Nat) (s : Nat) : Int × Int := bsV H U R1 R2 (U.length - s) s
def bsL (H : HY9) (U : List Int) (R1 R2 : Nat) : Nat → Nat → List (Nat × Nat × Bool)
  | 0, _ => []
  | n + 1, a => if U.length ≤ a then [] else (a, (bsW H U R1 R2 a).2.toNat, decide (ptD H U (bsW H U R1 R2 a).2.toNat = 2)) :: bsL H U R1 R2 n (nxA U (bsW H U R1 R2 a).2.toNat)
theorem nxA_b {U : List Int} {t : Nat} (h : t < U.length) : t ≤ nxA U t ∧ nxA U t ≤ t + 1 := by
  unfold nxA
  split <;> omega
section
variable {H : HY9} {U : List Int} {R1 R2 R : Nat}
theorem bsO_c {T T' : Nat → Int} {s t : Nat} (hst : s < t) (htU : t ≤ U.length) (h : ∀ p, s < p → T p = T' p) : bsO H U R T s t = bsO H U R T' s t := by
  unfold bsO
  by_cases h1 : t = U.length
  · rw [if_pos h1, if_pos h1]
  · have := nxA_b (U := U) (t := t) (by omega)
    rw [h (nxA U t) (by omega)]
theorem bsB_c {T T' : Nat → Int} {s : Nat} (h : ∀ p, s < p → T p = T' p) : ∀ k, s + k ≤ U.length → bsB H U R T s k = bsB H U R T' s k
  | 0, _ => rfl
  | k + 1, hk => by
    show (if _ then _ else _) = (if _ then _ else _)
    rw [bsB_c h k (by omega), bsO_c (R := R) (s := s) (t := s + (k + 1)) (by omega) hk h]
theorem bsI_n {s : Nat} (h : U.length ≤ s) : bsI H U s = false := decide_eq_false (fun h9 => by omega)
theorem bsV_n {m s : Nat} (h : U.length ≤ s) : bsV H U R1 R2 m s = (-1, -1) := by
  cases m with
  | zero => rfl
  | succ m =>
    show (if _ then _ else _) = _
    rw [bsI_n h]
    rfl
theorem bsV_f : ∀ (m m' s : Nat), U.length ≤ s + m → U.length ≤ s + m' → bsV H U R1 R2 m s = bsV H U R1 R2 m' s := by
  intro m
  induction m with
  | zero =>
    intro m' s h1 h2
    rw [bsV_n (by omega), bsV_n (by omega)]
  | succ m ih =>
    intro m' s h1 h2
    cases m' with
    | zero => rw [bsV_n (by omega), bsV_n (by omega)]
    | succ m' =>
      show (if _ then _ else _) = (if _ then _ else _)
      by_cases hi : bsI H U s = true
      · have hsU := (of_decide_eq_true hi).1
        rw [if_pos hi, if_pos hi]
        exact bsB_c (fun p hp => by rw [ih m' p (by omega) (by omega)]) _ (by omega)
      · rw [if_neg hi, if_neg hi]
/-- the costs, each by those behind it -/
theorem bsW_e {s : Nat} : bsW H U R1 R2 s = if bsI H U s = true then bsB H U (if s = 0 then R1 else R2) (fun p => (bsW H U R1 R2 p).1) s (min (if s = 0 then R1 else R2) (U.length - s)) else (-1, -1) := by
  by_cases hs : U.length ≤ s
  · unfold bsW
    rw [bsV_n hs, bsI_n hs]
    rfl
  · have e : bsW H U R1 R2 s = bsV H U R1 R2 ((U.length - s - 1) + 1) s := by
      unfold bsW
      rw [show U.length - s - 1 + 1 = U.length - s by omega]
    rw [e]
    show (if _ then _ else _) = _
    by_cases hi : bsI H U s = true
    · rw [if_pos hi, if_pos hi]
      exact bsB_c (fun p hp => by
        unfold bsW
        rw [bsV_f (U.length - s - 1) (U.length - p) p (by omega) (by omega)]) _ (by omega)
    · rw [if_neg hi, if_neg hi]
/-- costs are small; ends are ends -/
def bsG (H : HY9) (U : List Int) (R : Nat) (T : Nat → Int) (s : Nat) (b : Int × Int) : Prop := b = (-1, -1) ∨ (0 ≤ b.1 ∧ b.1 ≤ 6450 * ((U.length - s : Nat) : Int) ∧ ∃ t : Nat, b.2 = (t : Int) ∧ s < t ∧ t ≤ U.length ∧ t - s ≤ R ∧ (t = U.length ∨ ((U.getD t 0 = 32 ∨ ¬ ptD H U t = 0) ∧ ((t - s : Nat) : Int) + bZ (decide (ptD H U t = 2)) ≤ R ∧ ¬ T (nxA U t) = -1)))
theorem sq_b {x : Int} (h : 0 ≤ x ∧ x ≤ 80) : 0 ≤ x * x ∧ x * x ≤ 6400 := by
  have h1 := Int.mul_nonneg h.1 h.1
  have h2 := Int.mul_le_mul h.2 h.2 h.1 (by decide)
  omega
theorem bsO_b {T : Nat → Int} {s t : Nat} (hR : R ≤ 80) (hst : s < t) (htU : t ≤ U.length) (hT : ∀ p, s < p → T p = -1 ∨ (0 ≤ T p ∧ T p ≤ 6450 * ((U.length - p : Nat) : Int))) : bsO H U R T s t = -1 ∨ (0 ≤ bsO H U R T s t ∧ bsO H U R T s t ≤ 6450 * ((U.length - s : Nat) : Int) ∧ (t = U.length ∨ ((U.getD t 0 = 32 ∨ ¬ ptD H U t = 0) ∧ ((t - s : Nat) : Int) + bZ (decide (ptD H U t = 2)) ≤ R ∧ ¬ T (nxA U t) = -1))) := by
  unfold bsO
  by_cases h1 : t = U.length
  · rw [if_pos h1]
    exact Or.inr ⟨by decide, by omega, Or.inl h1⟩
  rw [if_neg h1]
  by_cases h2 : ¬ U.getD t 0 = 32 ∧ ptD H U t = 0
  · rw [if_pos h2]
    exact Or.inl rfl
  rw [if_neg h2]
  have hb : 0 ≤ bZ (decide (ptD H U t = 2)) ∧ bZ (decide (ptD H U t = 2)) ≤ 1 := by cases decide (ptD H U t = 2) <;> decide
  by_cases h3 : (R : Int) - ((t - s : Nat) : Int) - bZ (decide (ptD H U t = 2)) < 0 ∨ T (nxA U t) = -1
  · rw [if_pos h3]
    exact Or.inl rfl
  rw [if_neg h3]
  have hn := nxA_b (U := U) (t := t) (by omega)
  have ht := hT (nxA U t) (by omega)
  have hs := sq_b (x := (R : Int) - ((t - s : Nat) : Int) - bZ (decide (ptD H U t = 2))) (by omega)
  refine Or.inr ⟨by omega, by omega, Or.inr ⟨?_, by omega, fun h => h3 (Or.inr h)⟩⟩
  by_cases h4 : U.getD t 0 = 32
  · exact Or.inl h4
  · exact Or.inr (fun h5 => h2 ⟨h4, h5⟩)
theorem bsB_b {T : Nat → Int} {s : Nat} (hR : R ≤ 80) (hT : ∀ p, s < p → T p = -1 ∨ (0 ≤ T p ∧ T p ≤ 6450 * ((U.length - p : Nat) : Int))) : ∀ k, s + k ≤ U.length → k ≤ R → bsG H U R T s (bsB H U R T s k)
  | 0, _, _ => Or.inl rfl
  | k + 1, hk, hkR => by
    have ih := bsB_b hR hT k (by omega) (by omega)
    show bsG H U R T s (if _ then _ else _)
    by_cases h : ¬ bsO H U R T s (s + (k + 1)) = -1 ∧ ((bsB H U R T s k).1 = -1 ∨ bsO H U R T s (s + (k + 1)) ≤ (bsB H U R T s k).1)
    · rw [if_pos h]
      have ob := (bsO_b (H := H) (s := s) (t := s + (k + 1)) hR (by omega) hk hT).resolve_left h.1
      exact Or.inr ⟨ob.1, ob.2.1, s + (k + 1), rfl, by omega, hk, by omega, ob.2.2⟩
    · rw [if_neg h]
      exact ih
theorem bsW_b (h1 : R1 ≤ 80) (h2 : R2 ≤ 80) : ∀ (n s : Nat), U.length ≤ s + n → bsG H U (if s = 0 then R1 else R2) (fun p => (bsW H U R1 R2 p).1) s (bsW H U R1 R2 s) := by
  intro n
  induction n with
  | zero =>
    intro s hs
    rw [bsW_e, bsI_n (by omega)]
    exact Or.inl rfl
  | succ n ih =>
    intro s hs
    rw [bsW_e]
    by_cases hi : bsI H U s = true
    · rw [if_pos hi]
      have hsU := (of_decide_eq_true hi).1
      refine bsB_b (by split <;> omega) (fun p hp => ?_) _ (by omega) (by omega)
      rcases ih p (by omega) with e | ⟨e1, e2, -⟩
      · rw [e]
        exact Or.inl rfl
      · exact Or.inr ⟨e1, e2⟩
    · rw [if_neg hi]
      exact Or.inl rfl
/-- the end of the row costs nothing: the last one is it -/
theorem bsW_g (h1 : R1 ≤ 80) (h2 : R2 ≤ 80) (s : Nat) : bsG H U (if s = 0 then R1 else R2) (fun p => (bsW H U R1 R2 p).1) s (bsW H U R1 R2 s) := bsW_b h1 h2 U.length s (by omega)
end
/-- the rows while ends are weighed at s -/
def bsF (H : HY9) (U : List Int) (R1 R2 s : Nat) (v : Int × Int) (p : Nat) : Int × Int := if s < p then bsW H U R1 R2 p else if p = s then v else (-1, -1)
section
variable {σ σ0 : MS} {Q : MQ9} {q : Nat} {U : List Int} {H : HY9} {R1 R2 : Nat}
/-- points, costs and ends -/
def BsC (σ : MS) (H : HY9) (U : List Int) (R1 R2 s : Nat) (v : Int × Int) : Prop := mX σ 120 = ofF (fun i => ptD H U i) (U.length + 1) ∧ mX σ 122 = ofF (fun p => (bsF H U R1 R2 s v p).1) (U.length + 1) ∧ mX σ 124 = ofF (fun p => (bsF H U R1 R2 s v p).2) (U.length + 1)
theorem Filler_costOf.c (hr : isRow q = true) (hU : mX σ q = U) (hU6 : U.length ≤ 65535) {s t R : Nat} {v : Int × Int} (h1 : R1 ≤ 80) (h2 : R2 ≤ 80) (hR : R ≤ 80) (hB : BsC σ H U R1 R2 s v) (hst : s < t) (htU : t ≤ U.length) (hq : Q (.inl (some (bsO H U R (fun p => (bsW H U R1 R2 p).1) s t))) σ) : Filler_costOf q (s : Int) (t : Int) (R : Int) σ Q := by
  have pv := pt_v (H := H) (U := U) (k := t)
  refine Filler_costOf.i (tB.i hr ⟨by unfold Rg; omega, fun h9 => tB.i hr (tB.i hr ⟨by unfold Rg; omega, ?_⟩), fun h9 => ?_⟩)
  · rw [hU] at h9 ⊢
    have htl : t < U.length := by omega
    rw [rgt_n htl]
    have hn := nxA_b htl
    have go : ∀ s0 : Int, s0 = bZ (decide (U.getD t 0 = 32)) → Filler_costOf_25 (s : Int) (t : Int) (R : Int) s0 σ Q := fun s0 hs0 => by
      rw [hs0]
      have p1 : rgt (mX σ 120) (t : Int) = ptD H U t := by
        rw [hB.1]
        exact ofF_rgt (by omega)
      have c49 : ¬ (¬ U.getD t 0 = 32 ∧ ptD H U t = 0) → Filler_costOf_49 (s : Int) (t : Int) (R : Int) (bZ (decide (U.getD t 0 = 32))) (ptD H U t) σ Q := fun hg => by
        have c60 : ∀ s2 : Int, s2 = bZ (decide (ptD H U t = 2)) → Filler_costOf_60 (s : Int) (t : Int) (R : Int) (bZ (decide (U.getD t 0 = 32))) s2 σ Q := fun s2 hs2 => by
          have c89 : ∀ s1 : Int, s1 = ((nxA U t : Nat) : Int) → Filler_costOf_89 s2 (((R : Int) - ((t : Int) - (s : Int))) - s2) s1 σ Q := fun s1 hs1 => by
            have wg := bsW_g (H := H) (U := U) h1 h2 (nxA U t)
            have hb : 0 ≤ s2 ∧ s2 ≤ 1 := by
              rw [hs2]
              cases decide (ptD H U t = 2) <;> decide
            have w1 : rgt (mX σ 122) ((nxA U t : Nat) : Int) = (bsW H U R1 R2 (nxA U t)).1 := by
              rw [hB.2.1, ofF_rgt (by omega)]
              show (if s < nxA U t then _ else _ : Int × Int).1 = _
              rw [if_pos (by omega)]
            have eO : ∀ x, bsO H U R (fun p => (bsW H U R1 R2 p).1) s t = x ↔ (if ((R : Int) - ((t : Int) - (s : Int))) - s2 < 0 ∨ (bsW H U R1 R2 (nxA U t)).1 = -1 then (-1 : Int) else (((R : Int) - ((t : Int) - (s : Int))) - s2) * (((R : Int) - ((t : Int) - (s : Int))) - s2) + 50 * s2 + (bsW H U R1 R2 (nxA U t)).1) = x := fun x => by
              unfold bsO
              rw [if_neg (by omega), if_neg hg, ← hs2, show ((t - s : Nat) : Int) = (t : Int) - (s : Int) by omega]
            rw [hs1]
            refine Filler_costOf_89.i ⟨by unfold Rg; omega, by unfold Rg; omega, fun h8 => Filler_costOf_105.i ?_, fun h8 => ?_⟩
            · rw [(eO (-1)).mpr (if_pos (Or.inl h8))] at hq
              exact hq
            · rw [w1]
              refine ⟨fun h7 => ?_, fun h7 => Filler_costOf_105.i ?_⟩
              · rw [(eO _).mpr (if_neg (fun h => h.elim (fun h => by omega) h7))] at hq
                have sb := sq_b (x := ((R : Int) - ((t : Int) - (s : Int))) - s2) (by omega)
                refine ⟨?_, hq⟩
                rcases wg with wg | wg
                · rw [wg] at h7
                  exact absurd rfl h7
                · unfold Rg
                  omega
              · rw [(eO (-1)).mpr (if_pos (Or.inr h7))] at hq
                exact hq
          refine Filler_costOf_60.i ⟨fun h8 => c89 _ ?_, fun h8 => c89 _ ?_⟩
          · have := of_decide_eq_false (bZ_z h8)
            unfold nxA
            rw [if_neg this]
          · have := of_decide_eq_true (bZ_ne h8)
            unfold nxA
            rw [if_pos this]
            omega
        refine Filler_costOf_49.i ⟨fun h8 => c60 0 ?_, fun h8 => c60 1 ?_⟩
        · rw [decide_eq_false h8]
          rfl
        · rw [decide_eq_true h8]
          rfl
      refine Filler_costOf_25.i ⟨by unfold Rg; omega, ?_⟩
      rw [p1]
      refine ⟨fun h8 => c49 (fun h => h.1 (of_decide_eq_true (bZ_ne h8))), fun h8 => ⟨fun h7 => c49 (fun h => h7 h.2), fun h7 => ?_⟩⟩
      have := of_decide_eq_false (bZ_z h8)
      unfold bsO at hq
      rw [if_neg (by omega), if_pos ⟨this, h7⟩] at hq
      exact hq
    refine ⟨fun h8 => go 0 ?_, fun h8 => go 1 ?_⟩
    · rw [decide_eq_false h8]
      rfl
    · rw [decide_eq_true h8]
      rfl
  · rw [hU] at h9
    unfold bsO at hq
    rw [if_pos (by omega)] at hq
    exact hq
def FrBs (σ σ' : MS) : Prop := (∀ q, q ≠ 122 → q ≠ 124 → mX σ' q = mX σ q) ∧ σ'.2.2 = σ.2.2 ∧ mV σ' = mV σ
theorem Filler_choose.c (hr : isRow q = true) (hq9 : q ≠ 122 ∧ q ≠ 124) (hU : mX σ0 q = U) (hU6 : U.length ≤ 65535) {s R : Nat} (h1 : R1 ≤ 80) (h2 : R2 ≤ 80) (hR : R ≤ 80) (hs : s < U.length) (hB0 : BsC σ0 H U R1 R2 s (-1, -1)) (hq : ∀ σ', FrBs σ0 σ' → BsC σ' H U R1 R2 s (bsB H U R (fun p => (bsW H U R1 R2 p).1) s (min R (U.length - s))) → Q (.inl none) σ') : Filler_choose q (s : Int) (R : Int) σ0 Q := by
  have key : ∀ (n k : Nat) (σ : MS), k + n = min R (U.length - s) → FrBs σ0 σ → BsC σ H U R1 R2 s (bsB H U R (fun p => (bsW H U R1 R2 p).1) s k) → Filler_choose_5 q (s : Int) (R : Int) ((s + (k + 1) : Nat) : Int) σ Q := by
    intro n
    induction n with
    | zero =>
      intro k σ hk hf hB
      have hUs : mX σ q = U := (hf.1 q hq9.1 hq9.2).trans hU
      rw [show k = min R (U.length - s) by omega] at hB
      refine Filler_choose_5.i (tB.i hr ⟨by unfold Rg; omega, fun h9 => hq σ hf hB, fun h9 => ⟨by unfold Rg; omega, by unfold Rg; omega, fun h8 => hq σ hf hB, fun h8 => ?_⟩⟩)
      rw [hUs] at h9
      exact absurd h8 (by omega)
    | succ n ih =>
      intro k σ hk hf hB
      have hUs : mX σ q = U := (hf.1 q hq9.1 hq9.2).trans hU
      have bg := bsB_b (H := H) (U := U) (T := fun p => (bsW H U R1 R2 p).1) (s := s) hR (fun p hp => by
        rcases bsW_g (H := H) (U := U) h1 h2 p with e | ⟨e1, e2, -⟩
        · rw [e]
          exact Or.inl rfl
        · exact Or.inr ⟨e1, e2⟩) k (by omega) (by omega)
      have hr1 : rgt (mX σ 122) (s : Int) = (bsB H U R (fun p => (bsW H U R1 R2 p).1) s k).1 := by
        rw [hB.2.1, ofF_rgt (by omega)]
        show (if s < s then _ else if s = s then _ else _ : Int × Int).1 = _
        rw [if_neg (by omega), if_pos rfl]
      have eB : ∀ x, bsB H U R (fun p => (bsW H U R1 R2 p).1) s (k + 1) = x ↔ (if ¬ bsO H U R (fun p => (bsW H U R1 R2 p).1) s (s + (k + 1)) = -1 ∧ ((bsB H U R (fun p => (bsW H U R1 R2 p).1) s k).1 = -1 ∨ bsO H U R (fun p => (bsW H U R1 R2 p).1) s (s + (k + 1)) ≤ (bsB H U R (fun p => (bsW H U R1 R2 p).1) s k).1) then (bsO H U R (fun p => (bsW H U R1 R2 p).1) s (s + (k + 1)), ((s + (k + 1) : Nat) : Int)) else bsB H U R (fun p => (bsW H U R1 R2 p).1) s k) = x := fun x => Iff.rfl
      have no : ¬ (¬ bsO H U R (fun p => (bsW H U R1 R2 p).1) s (s + (k + 1)) = -1 ∧ ((bsB H U R (fun p => (bsW H U R1 R2 p).1) s k).1 = -1 ∨ bsO H U R (fun p => (bsW H U R1 R2 p).1) s (s + (k + 1)) ≤ (bsB H U R (fun p => (bsW H U R1 R2 p).1) s k).1)) → Filler_choose_84 q (s : Int) (R : Int) ((s + (k + 1) : Nat) : Int) σ Q := fun h9 => by
        refine Filler_choose_84.i ?_
        rw [show ((s + (k + 1) : Nat) : Int) + 1 = ((s + (k + 1 + 1) : Nat) : Int) by omega]
        refine ih (k + 1) σ (by omega) hf ?_
        rw [(eB _).mpr (if_neg h9)]
        exact hB
      have yes : (¬ bsO H U R (fun p => (bsW H U R1 R2 p).1) s (s + (k + 1)) = -1 ∧ ((bsB H U R (fun p => (bsW H U R1 R2 p).1) s k).1 = -1 ∨ bsO H U R (fun p => (bsW H U R1 R2 p).1) s (s + (k + 1)) ≤ (bsB H U R (fun p => (bsW H U R1 R2 p).1) s k).1)) → Filler_choose_64 q (s : Int) (R : Int) ((s + (k + 1) : Nat) : Int) (bsO H U R (fun p => (bsW H U R1 R2 p).1) s (s + (k + 1))) σ Q := fun h9 => by
        refine Filler_choose_64.i ⟨by unfold Rg; omega, by unfold Rg; omega, by unfold Rg; omega, Filler_choose_84.i ?_⟩
        rw [show ((s + (k + 1) : Nat) : Int) + 1 = ((s + (k + 1 + 1) : Nat) : Int) by omega]
        refine ih (k + 1) _ (by omega) ⟨fun q' a b => ?_, hf.2.1, hf.2.2⟩ ?_
        · rw [wX_ne b, wX_ne a]
          exact hf.1 q' a b
        · rw [(eB _).mpr (if_pos h9)]
          refine ⟨?_, ?_, ?_⟩
          · rw [wX_ne (by decide), wX_ne (by decide)]
            exact hB.1
          · rw [wX_ne (by decide), wX_self, hB.2.1, ofF_alt (by omega)]
            refine ofF_c (fun i hi => ?_)
            show (if i = s then _ else (bsF H U R1 R2 s _ i).1) = (bsF H U R1 R2 s _ i).1
            unfold bsF
            by_cases e : i = s
            · rw [if_pos e, e, if_neg (by omega), if_pos rfl]
            · rw [if_neg e, if_neg e, if_neg e]
          · rw [wX_self, hB.2.2, ofF_alt (by omega)]
            refine ofF_c (fun i hi => ?_)
            show (if i = s then _ else (bsF H U R1 R2 s _ i).2) = (bsF H U R1 R2 s _ i).2
            unfold bsF
            by_cases e : i = s
            · rw [if_pos e, e, if_neg (by omega), if_pos rfl]
            · rw [if_neg e, if_neg e, if_neg e]
      refine Filler_choose_5.i (tB.i hr ⟨by unfold Rg; omega, fun h9 => absurd h9 (by rw [hUs]; omega), fun h9 => ⟨by unfold Rg; omega, by unfold Rg; omega, fun h8 => absurd h8 (by omega), fun h8 => Filler_costOf.c hr hUs hU6 h1 h2 hR hB (by omega) (by omega) ⟨fun h7 => no (fun h => h.1 h7), fun h7 => ⟨by unfold Rg; omega, ?_⟩⟩⟩⟩)
      rw [hr1]
      exact ⟨fun h6 => yes ⟨h7, Or.inl h6⟩, fun h6 => ⟨by unfold Rg; omega, fun h5 => no (fun h => h.2.elim h6 (fun h => by omega)), fun h5 => yes ⟨h7, Or.inr h5⟩⟩⟩
  refine Filler_choose.i ?_
  exact key (min R (U.length - s)) 0 σ0 (by omega) ⟨fun _ _ _ => rfl, rfl, rfl⟩ hB0
def FrFb (σ σ' : MS) : Prop := (∀ q, q ≠ 112 → q ≠ 114 → q ≠ 116 → q ≠ 120 → q ≠ 122 → q ≠ 124 → mX σ' q = mX σ q) ∧ σ'.2.2 = σ.2.2 ∧ ∀ z k, z ≠ 126 → ¬ (z = 111 ∧ k = 12) → mV σ' z k = mV σ z k
theorem FrFb.rf {σ : MS} : FrFb σ σ := ⟨fun _ _ _ _ _ _ _ => rfl, rfl, fun _ _ _ _ => rfl⟩
theorem FrFb.tr {σ σ1 σ2 : MS} (h : FrFb σ σ1) (h' : FrFb σ1 σ2) : FrFb σ σ2 := ⟨fun q a b c d e f => (h'.1 q a b c d e f).trans (h.1 q a b c d e f), h'.2.1.trans h.2.1, fun z k a b => (h'.2.2 z k a b).trans (h.2.2 z k a b)⟩
theorem FrFb.e {σ σ1 : MS} (h : FrE σ σ1) : FrFb σ σ1 := ⟨fun q _ _ _ _ _ _ => by rw [h.1], h.2.1, h.2.2⟩
theorem FrFb.b {σ σ1 : MS} (h : FrBs σ σ1) : FrFb σ σ1 := ⟨fun q _ _ _ _ e f => h.1 q e f, h.2.1, fun z k _ _ => by rw [h.2.2]⟩
theorem FrFb.x {σ : MS} {q : Nat} {L : List Int} (h : q = 112 ∨ q = 114 ∨ q = 116 ∨ q = 120 ∨ q = 122 ∨ q = 124) : FrFb σ (wX σ q L) := ⟨fun q' a b c d e f => wX_ne (by rcases h with rfl | rfl | rfl | rfl | rfl | rfl <;> assumption), rfl, fun _ _ _ _ => rfl⟩
theorem HyC.fb {σ σ1 : MS} {P X : List (List Int)} {l r : Int} (h : HyC σ P X l r) (f : FrFb σ σ1) : HyC σ1 P X l r := ⟨h.1.cg (f.1 _ (by decide) (by decide) (by decide) (by decide) (by decide) (by decide)) (f.1 _ (by decide) (by decide) (by decide) (by decide) (by decide) (by decide)), h.2.1.cg (f.1 _ (by decide) (by decide) (by decide) (by decide) (by decide) (by decide)) (f.1 _ (by decide) (by decide) (by decide) (by decide) (by decide) (by decide)), (f.2.2 _ _ (by decide) (by decide)).trans h.2.2.1, (f.2.2 _ _ (by decide) (by decide)).trans h.2.2.2⟩
def q9B (q : Nat) : Prop := q ≠ 112 ∧ q ≠ 114 ∧ q ≠ 116 ∧ q ≠ 120 ∧ q ≠ 122 ∧ q ≠ 124
theorem FrFb.y {σ σ1 : MS} (h : FrFb σ σ1) (hq : q9B q) : mX σ1 q = mX σ q := h.1 q hq.1 hq.2.1 hq.2.2.1 hq.2.2.2.1 hq.2.2.2.2.1 hq.2.2.2.2.2
theorem LnC.w (hr : isRow q = true) (hU : mX σ q = U) (hU6 : U.length ≤ 65535) : LnC σ q 0 U := ⟨hr, by omega, fun t ht => by
  rw [hU, show ((0 : Nat) : Int) + (t : Int) = (t : Int) by omega]
  exact rgt_n ht⟩
theorem fb_29 (hr : isRow q = true) (hq9 : q9B q) (hU : mX σ0 q = U) (hU6 : U.length ≤ 65535) (hok : okK U) (hbk : bkE U) (hb : HyB H.2.1 H.2.2.1 H.2.2.2.1 H.2.2.2.2) (hC0 : HyC σ0 H.2.1 H.2.2.1 H.2.2.2.1 H.2.2.2.2) (hy0 : mV σ0 111 11 = bZ H.1) (hq : ∀ σ', FrFb σ0 σ' → (∀ q, q = 112 ∨ q = 114 ∨ q = 116 → mX σ' q = mX σ0 q) → BsC σ' H U R1 R2 U.length (-1, -1) → Filler_fillBest_87 q (R1 : Int) (R2 : Int) ((U.length : Int) - 1) σ' Q) : ∀ (n i : Nat) (σ : MS), i + n = U.length + 1 → FrFb σ0 σ → (∀ q, q = 112 ∨ q = 114 ∨ q = 116 → mX σ q = mX σ0 q) → CaC σ 0 U H → mX σ 120 = ofF (fun i => ptD H U i) i → mX σ 122 = ofF (fun _ => -1) i → mX σ 124 = ofF (fun _ => -1) i → Filler_fillBest_29 q (R1 : Int) (R2 : Int) (i : Int) σ Q := by
  intro n
  induction n with
  | zero =>
    intro i σ hi hf hx hca h1 h2 h3
    have hUs := (hf.y hq9).trans hU
    refine Filler_fillBest_29.i (tB.i hr ⟨by unfold Rg; omega, fun _ => tB.i hr ?_, fun h9 => absurd h9 (by rw [hUs]; omega)⟩)
    rw [hUs]
    rw [show i = U.length + 1 by omega] at h1 h2 h3
    refine hq σ hf hx ⟨h1, h2.trans (ofF_c (fun j hj => ?_)), h3.trans (ofF_c (fun j hj => ?_))⟩
    · show _ = (if U.length < j then _ else if j = U.length then _ else _ : Int × Int).1
      rw [if_neg (by omega)]
      split <;> rfl
    · show _ = (if U.length < j then _ else if j = U.length then _ else _ : Int × Int).2
      rw [if_neg (by omega)]
      split <;> rfl
  | succ n ih =>
    intro i σ hi hf hx hca h1 h2 h3
    have hUs := (hf.y hq9).trans hU
    refine Filler_fillBest_29.i (tB.i hr ⟨by unfold Rg; omega, fun h9 => absurd h9 (by rw [hUs]; omega), fun _ => tB.i hr ?_⟩)
    rw [hUs]
    have pa := Filler_pointAt.c (Q := kI (thQ Q) fun r1 σ1 => (mX σ1 120).length < 65536 ∧ (mX σ1 122).length < 65536 ∧ (mX σ1 124).length < 65536 ∧ Filler_fillBest_29 q (R1 : Int) (R2 : Int) ((i : Int) + 1) (wX (wX (wX σ1 120 (mX σ1 120 ++ [r1])) 122 (mX σ1 122 ++ [(-1)])) 124 (mX σ1 124 ++ [(-1)])) Q) (k := i) (LnC.w hr hUs hU6) hok hbk hb (hC0.fb hf) ((hf.2.2 _ _ (by decide) (by decide)).trans hy0) hca (fun σ1 f1 c1 => by
      show (mX σ1 120).length < 65536 ∧ (mX σ1 122).length < 65536 ∧ (mX σ1 124).length < 65536 ∧ Filler_fillBest_29 q (R1 : Int) (R2 : Int) ((i : Int) + 1) (wX (wX (wX σ1 120 (mX σ1 120 ++ [ptD H U i])) 122 (mX σ1 122 ++ [(-1)])) 124 (mX σ1 124 ++ [(-1)])) Q
      rw [f1.1, h1, h2, h3, ofF_len, ofF_len]
      refine ⟨by omega, by omega, by omega, ?_⟩
      refine ih (i + 1) _ (by omega) (hf.tr ((FrFb.e f1).tr (((FrFb.x (by decide)).tr (FrFb.x (by decide))).tr (FrFb.x (by decide))))) (fun q' h => ?_) (c1.x (fun _ _ => rfl)) ?_ ?_ ?_
      · rw [wX_ne (by omega), wX_ne (by omega), wX_ne (by omega), f1.1]
        exact hx q' h
      · rw [wX_ne (by decide), wX_ne (by decide), wX_self, ofF_succ]
      · rw [wX_ne (by decide), wX_self, ofF_succ]
      · rw [wX_self, ofF_succ]) (by omega)
    rw [Nat.zero_add, Nat.zero_add] at pa
    exact pa
theorem fb_87 (hr : isRow q = true) (hq9 : q9B q) (hU : mX σ0 q = U) (hU6 : U.length ≤ 65535) (h1 : R1 ≤ 80) (h2 : R2 ≤ 80) (hq : ∀ σ', FrBs σ0 σ' → mX σ' 120 = ofF (fun i => ptD H U i) (U.length + 1) → mX σ' 122 = ofF (fun p => (bsW H U R1 R2 p).1) (U.length + 1) → mX σ' 124 = ofF (fun p => (bsW H U R1 R2 p).2) (U.length + 1) → Filler_fillBest_87 q (R1 : Int) (R2 : Int) (-1) σ' Q) : ∀ (s : Nat) (σ : MS), s ≤ U.length → FrBs σ0 σ → (∀ p, p = s → bsW H U R1 R2 p = bsW H U R1 R2 s) → BsC σ H U R1 R2 s (bsW H U R1 R2 s) → Filler_fillBest_87 q (R1 : Int) (R2 : Int) ((s : Int) - 1) σ Q := by
  intro s
  induction s with
  | zero =>
    intro σ hs hf _ hB
    refine hq σ hf hB.1 (hB.2.1.trans (ofF_c (fun j hj => ?_))) (hB.2.2.trans (ofF_c (fun j hj => ?_)))
    · show (if 0 < j then _ else if j = 0 then _ else _ : Int × Int).1 = _
      by_cases e : j = 0
      · rw [if_neg (by omega), if_pos e, e]
      · rw [if_pos (by omega)]
    · show (if 0 < j then _ else if j = 0 then _ else _ : Int × Int).2 = _
      by_cases e : j = 0
      · rw [if_neg (by omega), if_pos e, e]
      · rw [if_pos (by omega)]
  | succ s ih =>
    intro σ hs hf _ hB
    have hUs : mX σ q = U := (hf.1 q hq9.2.2.2.2.1 hq9.2.2.2.2.2).trans hU
    have hB1 : BsC σ H U R1 R2 s (-1, -1) := ⟨hB.1, hB.2.1.trans (ofF_c (fun j hj => by
      show (if s + 1 < j then _ else if j = s + 1 then _ else _ : Int × Int).1 = (if s < j then _ else if j = s then _ else _ : Int × Int).1
      by_cases e : j = s + 1
      · rw [if_neg (by omega), if_pos e, if_pos (by omega), e]
      · by_cases e2 : s + 1 < j
        · rw [if_pos e2, if_pos (by omega)]
        · rw [if_neg e2, if_neg e, if_neg (by omega)]
          split <;> rfl)), hB.2.2.trans (ofF_c (fun j hj => by
      show (if s + 1 < j then _ else if j = s + 1 then _ else _ : Int × Int).2 = (if s < j then _ else if j = s then _ else _ : Int × Int).2
      by_cases e : j = s + 1
      · rw [if_neg (by omega), if_pos e, if_pos (by omega), e]
      · by_cases e2 : s + 1 < j
        · rw [if_pos e2, if_pos (by omega)]
        · rw [if_neg e2, if_neg e, if_neg (by omega)]
          split <;> rfl))⟩
    have p1 : rgt (mX σ 120) (s : Int) = ptD H U s := by
      rw [hB.1]
      exact ofF_rgt (by omega)
    have e139 : ∀ σ', FrBs σ0 σ' → BsC σ' H U R1 R2 s (bsW H U R1 R2 s) → Filler_fillBest_139 q (R1 : Int) (R2 : Int) (s : Int) σ' Q := fun σ' f b => by
      refine Filler_fillBest_139.i ?_
      rw [show (s : Int) + (-1) = (s : Int) - 1 by omega]
      exact ih σ' (by omega) f (fun p hp => by rw [hp]) b
    have c122 : bsI H U s = true → Filler_fillBest_122 q (R1 : Int) (R2 : Int) (s : Int) σ Q := fun hi => by
      have go : ∀ s3 : Int, s3 = (((if s = 0 then R1 else R2) : Nat) : Int) → Filler_fillBest_136 q (R1 : Int) (R2 : Int) (s : Int) q (s : Int) s3 σ Q := fun s3 h3 => by
        rw [h3]
        refine Filler_fillBest_136.i (Filler_choose.c hr ⟨hq9.2.2.2.2.1, hq9.2.2.2.2.2⟩ hUs hU6 h1 h2 (by split <;> omega) (by omega) hB1 (fun σ' f b => ?_))
        refine e139 σ' ⟨fun q' a b => (f.1 q' a b).trans (hf.1 q' a b), f.2.1.trans hf.2.1, f.2.2.trans hf.2.2⟩ ?_
        rw [bsW_e, if_pos hi]
        exact b
      refine Filler_fillBest_122.i ⟨by unfold Rg; omega, fun h9 => go _ ?_, fun h9 => go _ ?_⟩
      · rw [if_neg (by omega)]
      · rw [if_pos (by omega)]
    rw [show ((s + 1 : Nat) : Int) - 1 = (s : Int) by omega]
    refine Filler_fillBest_87.i ⟨by unfold Rg; omega, fun h9 => absurd h9 (by omega), fun _ => ⟨by unfold Rg; omega, fun h9 => c122 (decide_eq_true ⟨by omega, Or.inl (by omega)⟩), fun h9 => tB.i hr (tB.i hr ⟨by unfold Rg; omega, ?_⟩)⟩⟩
    rw [hUs, show (s : Int) - 1 = ((s - 1 : Nat) : Int) by omega, rgt_n (by omega), p1]
    refine ⟨fun h8 => c122 (decide_eq_true ⟨by omega, Or.inr (Or.inl h8)⟩), fun h8 => ⟨by unfold Rg; omega, fun h7 => e139 σ hf ?_, fun h7 => c122 (decide_eq_true ⟨by omega, Or.inr (Or.inr h7)⟩)⟩⟩
    have hi : bsI H U s = false := decide_eq_false (fun h => by
      rcases h.2 with h | h | h
      · omega
      · exact h8 h
      · exact h h7)
    rw [bsW_e, hi]
    exact hB1
theorem fb_168 (hr : isRow q = true) (hq9 : q9B q) (hU : mX σ0 q = U) (hU6 : U.length ≤ 65535) (h1 : R1 ≤ 80) (h2 : R2 ≤ 80) (p0 : mX σ0 120 = ofF (fun i => ptD H U i) (U.length + 1)) (p4 : mX σ0 124 = ofF (fun p => (bsW H U R1 R2 p).2) (U.length + 1)) (hq : ∀ σ', FrFb σ0 σ' → mX σ' 112 = mX σ0 112 ++ lnA 0 (bsL H U R1 R2 U.length 0) → mX σ' 114 = mX σ0 114 ++ lnB 0 (bsL H U R1 R2 U.length 0) → mX σ' 116 = mX σ0 116 ++ lnP (bsL H U R1 R2 U.length 0) → Q (.inl (some 1)) σ') : ∀ (n a : Nat) (σ : MS) (Y : List (Nat × Nat × Bool)), U.length ≤ a + n → a ≤ U.length → n ≤ 65536 → Y.length + n ≤ 65535 → (a < U.length → ¬ (bsW H U R1 R2 a).1 = -1) → FrFb σ0 σ → mX σ 120 = mX σ0 120 → mX σ 124 = mX σ0 124 → mX σ 112 = mX σ0 112 ++ lnA 0 Y → mX σ 114 = mX σ0 114 ++ lnB 0 Y → mX σ 116 = mX σ0 116 ++ lnP Y → (mX σ0 112 = [] ∧ mX σ0 114 = [] ∧ mX σ0 116 = []) → Y ++ bsL H U R1 R2 n a = bsL H U R1 R2 U.length 0 → Filler_fillBest_168 q (a : Int) (n : Int) σ Q := by
  intro n
  induction n with
  | zero =>
    intro a σ Y hn ha _ _ hw hf e0 e4 x1 x2 x3 hem hY
    have hY : Y = bsL H U R1 R2 U.length 0 := by
      rw [← hY]
      exact (List.append_nil _).symm
    rw [hY] at x1 x2 x3
    exact Filler_fillBest_168.i ⟨by unfold Rg; omega, fun _ => hq σ hf x1 x2 x3, fun h9 => absurd h9 (by omega)⟩
  | succ n ih =>
    intro a σ Y hn ha hn6 hYn hw hf e0 e4 x1 x2 x3 hem hY
    have hUs := (hf.y hq9).trans hU
    by_cases haU : a = U.length
    · have hY : Y = bsL H U R1 R2 U.length 0 := by
        rw [← hY]
        show _ = Y ++ (if _ then _ else _)
        rw [if_pos (by omega), List.append_nil]
      rw [hY] at x1 x2 x3
      refine Filler_fillBest_168.i ⟨by unfold Rg; omega, fun _ => hq σ hf x1 x2 x3, fun h9 => tB.i hr ⟨by unfold Rg; omega, fun _ => hq σ hf x1 x2 x3, fun h8 => absurd h8 (by rw [hUs]; omega)⟩⟩
    · have hal : a < U.length := by omega
      rcases bsW_g (H := H) (U := U) h1 h2 a with wg | ⟨w1, w2, t, w3, w4, w5, w6, w7⟩
      · exact absurd (by rw [wg]) (hw hal)
      have c1 : rgt (mX σ 124) (a : Int) = (t : Int) := by
        rw [e4, p4, ofF_rgt (by omega)]
        exact w3
      have c2 : rgt (mX σ 120) (t : Int) = ptD H U t := by
        rw [e0, p0]
        exact ofF_rgt (by omega)
      have eL : bsL H U R1 R2 (n + 1) a = (a, t, decide (ptD H U t = 2)) :: bsL H U R1 R2 n (nxA U t) := by
        show (if U.length ≤ a then _ else _) = _
        rw [if_neg (by omega), w3, Int.toNat_natCast]
      rw [eL] at hY
      have lY1 : (lnA 0 Y).length = Y.length := List.length_map ..
      have lY2 : (lnB 0 Y).length = Y.length := List.length_map ..
      have lY3 : (lnP Y).length = Y.length := List.length_map ..
      have go : ∀ s3 : Int, s3 = bZ (decide (ptD H U t = 2)) → Filler_fillBest_216 q ((n + 1 : Nat) : Int) (t : Int) (a : Int) (t : Int) s3 σ Q := fun s3 h3 => by
        rw [h3]
        refine Filler_fillBest_216.i (putL_s (by unfold Rg; omega) (by unfold Rg; omega) ?_ ?_ ?_ ?_)
        · rw [x1, List.length_append, hem.1, lY1]
          show 0 + _ < _
          omega
        · rw [x2, List.length_append, hem.2.1, lY2]
          show 0 + _ < _
          omega
        · rw [x3, List.length_append, hem.2.2, lY3]
          show 0 + _ < _
          omega
        have hq2 : mX (wX (wX (wX σ 112 (mX σ 112 ++ [(a : Int)])) 114 (mX σ 114 ++ [(t : Int)])) 116 (mX σ 116 ++ [bZ (decide (ptD H U t = 2))])) q = U := by
          rw [wX_ne hq9.2.2.1, wX_ne hq9.2.1, wX_ne hq9.1]
          exact hUs
        have fin : ∀ a2 : Nat, a2 = nxA U t → a2 ≤ U.length → Filler_fillBest_239 q ((n + 1 : Nat) : Int) (a2 : Int) (wX (wX (wX σ 112 (mX σ 112 ++ [(a : Int)])) 114 (mX σ 114 ++ [(t : Int)])) 116 (mX σ 116 ++ [bZ (decide (ptD H U t = 2))])) Q := fun a2 ha2 ha3 => by
          refine Filler_fillBest_239.i ?_
          rw [show ((n + 1 : Nat) : Int) + (-1) = (n : Int) by omega]
          refine ih a2 _ (Y ++ [(a, t, decide (ptD H U t = 2))]) ?_ ha3 (by omega) (by rw [List.length_append]; show Y.length + 1 + n ≤ _; omega) (fun h9 => ?_) (hf.tr (((FrFb.x (by decide)).tr (FrFb.x (by decide))).tr (FrFb.x (by decide)))) ?_ ?_ ?_ ?_ ?_ hem ?_
          · have : t ≤ a2 := by
              rw [ha2]
              unfold nxA
              split <;> omega
            omega
          · rw [ha2] at h9 ⊢
            rcases w7 with w7 | w7
            · rw [w7] at h9
              have : U.length ≤ nxA U U.length := by
                unfold nxA
                split <;> omega
              omega
            · exact w7.2.2
          · rw [wX_ne (by decide), wX_ne (by decide), wX_ne (by decide)]
            exact e0
          · rw [wX_ne (by decide), wX_ne (by decide), wX_ne (by decide)]
            exact e4
          · rw [wX_ne (by decide), wX_ne (by decide), wX_self, x1, List.append_assoc]
            congr 1
            show _ = List.map _ (_ ++ _)
            rw [List.map_append]
            show _ = _ ++ [((0 + a : Nat) : Int)]
            rw [Nat.zero_add]
            rfl
          · rw [wX_ne (by decide), wX_self, x2, List.append_assoc]
            congr 1
            show _ = List.map _ (_ ++ _)
            rw [List.map_append]
            show _ = _ ++ [((0 + t : Nat) : Int)]
            rw [Nat.zero_add]
            rfl
          · rw [wX_self, x3, List.append_assoc]
            congr 1
            show _ = List.map _ (_ ++ _)
            rw [List.map_append]
            rfl
          · rw [List.append_assoc, ha2]
            exact hY
        refine tB.i hr (tB.i hr ?_)
        rw [hq2]
        by_cases htU : t = U.length
        · rw [rgt_o (Or.inr (by omega))]
          refine ⟨fun _ => fin t ?_ (by omega), fun h => absurd h (by decide)⟩
          unfold nxA
          rw [if_neg]
          rw [htU]
          unfold List.getD
          rw [List.getElem?_eq_none (Nat.le_refl _)]
          decide
        · rw [rgt_n (by omega)]
          refine ⟨fun h => fin t ?_ (by omega), fun h => ?_⟩
          · unfold nxA
            rw [if_neg h]
          · have := fin (t + 1) (by unfold nxA; rw [if_pos h]) (by omega)
            rw [show ((t + 1 : Nat) : Int) = (t : Int) + 1 by omega] at this
            exact this
      refine Filler_fillBest_168.i ⟨by unfold Rg; omega, fun h9 => absurd h9 (by omega), fun _ => tB.i hr ⟨by unfold Rg; omega, fun h9 => absurd h9 (by rw [hUs]; omega), fun _ => ⟨by unfold Rg; omega, ?_⟩⟩⟩
      rw [c1, c2]
      refine ⟨fun h9 => go 0 ?_, fun h9 => go 1 ?_⟩
      · rw [decide_eq_false h9]
        rfl
      · rw [decide_eq_true h9]
        rfl
/-- the lines that cost least -/
theorem Filler_fillBest.c (hr : isRow q = true) (hq9 : q9B q) (hU : mX σ q = U) (hU6 : U.length ≤ 65535) (hok : okK U) (hbk : bkE U) (hb : HyB H.2.1 H.2.2.1 H.2.2.2.1 H.2.2.2.2) (hC : HyC σ H.2.1 H.2.2.1 H.2.2.2.1 H.2.2.2.2) (hy : mV σ 111 11 = bZ H.1) (h1 : R1 ≤ 80) (h2 : R2 ≤ 80) (hem : mX σ 112 = [] ∧ mX σ 114 = [] ∧ mX σ 116 = []) (hno : (bsW H U R1 R2 0).1 = -1 → ∀ σ', FrFb σ σ' → (mX σ' 112 = [] ∧ mX σ' 114 = [] ∧ mX σ' 116 = []) → Q (.inl (some 0)) σ') (hyes : ¬ (bsW H U R1 R2 0).1 = -1 → ∀ σ', FrFb σ σ' → mX σ' 112 = lnA 0 (bsL H U R1 R2 U.length 0) → mX σ' 114 = lnB 0 (bsL H U R1 R2 U.length 0) → mX σ' 116 = lnP (bsL H U R1 R2 U.length 0) → Q (.inl (some 1)) σ') : Filler_fillBest q (R1 : Int) (R2 : Int) σ Q := by
  have f0 : FrFb σ (wV σ 111 12 (-1)) := ⟨fun _ _ _ _ _ _ _ => rfl, rfl, fun z k _ b => wV_ne (by omega)⟩
  have f1 : FrFb σ (wX (wX (wX (wV σ 111 12 (-1)) 120 ([] : List Int)) 122 ([] : List Int)) 124 ([] : List Int)) := f0.tr (((FrFb.x (by decide)).tr (FrFb.x (by decide))).tr (FrFb.x (by decide)))
  refine Filler_fillBest.i ?_
  refine fb_29 hr hq9 ((f1.y hq9).trans hU) hU6 hok hbk hb (hC.fb f1) ((f1.2.2 _ _ (by decide) (by decide)).trans hy) (fun σ2 f2 x2 b2 => ?_) (U.length + 1) 0 _ (by omega) FrFb.rf (fun _ _ => rfl) (Or.inl wV_self) ?_ ?_ ?_
  · have hU2 := ((f1.tr f2).y hq9).trans hU
    have x2' : ∀ q', q' = 112 ∨ q' = 114 ∨ q' = 116 → mX σ2 q' = mX σ q' := fun q' h => by
      rw [x2 q' h, wX_ne (by omega), wX_ne (by omega), wX_ne (by omega)]
      rfl
    refine fb_87 (H := H) hr hq9 hU2 hU6 h1 h2 (fun σ3 f3 p0 p2 p4 => ?_) U.length σ2 (Nat.le_refl _) ⟨fun _ _ _ => rfl, rfl, rfl⟩ (fun p hp => by rw [hp]) ?_
    · have f13 := (f1.tr f2).tr (FrFb.b f3)
      have x3 : ∀ q', q' = 112 ∨ q' = 114 ∨ q' = 116 → mX σ3 q' = mX σ q' := fun q' h => (f3.1 q' (by omega) (by omega)).trans (x2' q' h)
      have c0 : rgt (mX σ3 122) 0 = (bsW H U R1 R2 0).1 := by
        rw [p2]
        exact ofF_rgt (j := 0) (Nat.succ_pos _)
      have em3 : mX σ3 112 = [] ∧ mX σ3 114 = [] ∧ mX σ3 116 = [] := ⟨(x3 _ (by decide)).trans hem.1, (x3 _ (by decide)).trans hem.2.1, (x3 _ (by decide)).trans hem.2.2⟩
      refine Filler_fillBest_87.i ⟨by decide, fun _ => ?_, fun h9 => absurd h9 (by decide)⟩
      rw [c0]
      refine ⟨fun h9 => tB.i hr ?_, fun h9 => hno h9 σ3 f13 em3⟩
      rw [(f13.y hq9).trans hU]
      refine fb_168 hr hq9 ((f13.y hq9).trans hU) hU6 h1 h2 p0 p4 (fun σ4 f4 y1 y2 y3 => ?_) U.length 0 σ3 [] (by omega) (by omega) (by omega) (by show 0 + _ ≤ _; omega) (fun _ => h9) FrFb.rf rfl rfl (by rw [em3.1]; rfl) (by rw [em3.2.1]; rfl) (by rw [em3.2.2]; rfl) em3 rfl
      rw [em3.1] at y1
      rw [em3.2.1] at y2
      rw [em3.2.2] at y3
      exact hyes h9 σ4 (f13.tr f4) y1 y2 y3
    · rw [show bsW H U R1 R2 U.length = (-1, -1) by rw [bsW_e, bsI_n (Nat.le_refl _)]; rfl]
      exact b2
  · rw [wX_ne (by decide), wX_ne (by decide), wX_self]
    rfl
  · rw [wX_ne (by decide), wX_self]
    rfl
  · rw [wX_self]
    rfl
end
