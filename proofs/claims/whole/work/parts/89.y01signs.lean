/-! SIGNS: what class and reference say of one sign; loops that look for the first place that differs -/
def bZ (b : Bool) : Int := match b with
  | true => 1
  | false => 0
theorem bZ_t {b : Bool} (h : b = true) : bZ b = 1 := by subst h; rfl
theorem bZ_f {b : Bool} (h : b = false) : bZ b = 0 := by subst h; rfl
theorem bZ_ne {b : Bool} (h : ¬ bZ b = 0) : b = true := by
  cases b
  · exact absurd rfl h
  · rfl
theorem bZ_z {b : Bool} (h : bZ b = 0) : b = false := by
  cases b
  · rfl
  · exact absurd h (by decide)
theorem bZ_01 {b : Bool} : bZ b = 0 ∨ bZ b = 1 := by
  cases b
  · exact Or.inl rfl
  · exact Or.inr rfl
theorem bZ_q {P : Int → Prop} {b : Bool} (h : P (bZ b)) : (b = true → P 1) ∧ (b = false → P 0) := ⟨fun e => by subst e; exact h, fun e => by subst e; exact h⟩
theorem dt {p : Prop} (i : Decidable p) (h : p) : decide p = true := decide_eq_true h
/-- kinds of signs -/
def sSm (x : Int) : Bool := decide (97 ≤ x ∧ x ≤ 122)
def sGr (x : Int) : Bool := decide (65 ≤ x ∧ x ≤ 90)
def sDi (x : Int) : Bool := decide (48 ≤ x ∧ x ≤ 57)
def sLe (x : Int) : Bool := sSm x || sGr x
def sWo (x : Int) : Bool := sLe x || sDi x
def lowS (x : Int) : Int := if 65 ≤ x ∧ x ≤ 90 then x + 32 else x
def uppS (x : Int) : Int := if 97 ≤ x ∧ x ≤ 122 then x - 32 else x
def shS (x : Int) : Int := if x = 160 then 32 else x
theorem sSm_t {x : Int} (h : 97 ≤ x ∧ x ≤ 122) : sSm x = true := decide_eq_true h
theorem sSm_f {x : Int} (h : ¬ (97 ≤ x ∧ x ≤ 122)) : sSm x = false := decide_eq_false h
theorem sSm_i {x : Int} : sSm x = true ↔ 97 ≤ x ∧ x ≤ 122 := decide_eq_true_iff
theorem sGr_t {x : Int} (h : 65 ≤ x ∧ x ≤ 90) : sGr x = true := decide_eq_true h
theorem sGr_f {x : Int} (h : ¬ (65 ≤ x ∧ x ≤ 90)) : sGr x = false := decide_eq_false h
theorem sGr_i {x : Int} : sGr x = true ↔ 65 ≤ x ∧ x ≤ 90 := decide_eq_true_iff
theorem sDi_t {x : Int} (h : 48 ≤ x ∧ x ≤ 57) : sDi x = true := decide_eq_true h
theorem sDi_f {x : Int} (h : ¬ (48 ≤ x ∧ x ≤ 57)) : sDi x = false := decide_eq_false h
theorem sDi_i {x : Int} : sDi x = true ↔ 48 ≤ x ∧ x ≤ 57 := decide_eq_true_iff
theorem sLe_i {x : Int} : sLe x = true ↔ (97 ≤ x ∧ x ≤ 122) ∨ (65 ≤ x ∧ x ≤ 90) := by
  unfold sLe
  rw [Bool.or_eq_true, sSm_i, sGr_i]
theorem sLe_f {x : Int} (h : ¬ ((97 ≤ x ∧ x ≤ 122) ∨ (65 ≤ x ∧ x ≤ 90))) : sLe x = false := Bool.eq_false_iff.mpr (fun e => h (sLe_i.mp e))
theorem sWo_i {x : Int} : sWo x = true ↔ ((97 ≤ x ∧ x ≤ 122) ∨ (65 ≤ x ∧ x ≤ 90)) ∨ (48 ≤ x ∧ x ≤ 57) := by
  unfold sWo
  rw [Bool.or_eq_true, sLe_i, sDi_i]
theorem sWo_f {x : Int} (h : ¬ (((97 ≤ x ∧ x ≤ 122) ∨ (65 ≤ x ∧ x ≤ 90)) ∨ (48 ≤ x ∧ x ≤ 57))) : sWo x = false := Bool.eq_false_iff.mpr (fun e => h (sWo_i.mp e))
theorem T_isSmall.s {x : Int} {σ : MS} {Q : MQ9} (h : Rg x) (hq : Q (.inl (some (bZ (sSm x)))) σ) : T_isSmall x σ Q := by
  obtain ⟨q1, q0⟩ := bZ_q (P := fun r => Q (.inl (some r)) σ) hq
  exact T_isSmall.i ⟨h, fun a => q0 (sSm_f (by omega)), fun a => ⟨h, fun b => q0 (sSm_f (by omega)), fun b => q1 (sSm_t (by omega))⟩⟩
theorem T_isGreat.s {x : Int} {σ : MS} {Q : MQ9} (h : Rg x) (hq : Q (.inl (some (bZ (sGr x)))) σ) : T_isGreat x σ Q := by
  obtain ⟨q1, q0⟩ := bZ_q (P := fun r => Q (.inl (some r)) σ) hq
  exact T_isGreat.i ⟨h, fun a => q0 (sGr_f (by omega)), fun a => ⟨h, fun b => q0 (sGr_f (by omega)), fun b => q1 (sGr_t (by omega))⟩⟩
theorem T_isDigit.s {x : Int} {σ : MS} {Q : MQ9} (h : Rg x) (hq : Q (.inl (some (bZ (sDi x)))) σ) : T_isDigit x σ Q := by
  obtain ⟨q1, q0⟩ := bZ_q (P := fun r => Q (.inl (some r)) σ) hq
  exact T_isDigit.i ⟨h, fun a => q0 (sDi_f (by omega)), fun a => ⟨h, fun b => q0 (sDi_f (by omega)), fun b => q1 (sDi_t (by omega))⟩⟩
theorem R_isSmall.s {x : Int} {σ : MS} {Q : MQ9} (h : Rg x) (hq : Q (.inl (some (bZ (sSm x)))) σ) : R_isSmall x σ Q := by
  obtain ⟨q1, q0⟩ := bZ_q (P := fun r => Q (.inl (some r)) σ) hq
  exact R_isSmall.i ⟨h, fun a => q0 (sSm_f (by omega)), fun a => ⟨h, fun b => q0 (sSm_f (by omega)), fun b => q1 (sSm_t (by omega))⟩⟩
theorem R_isGreat.s {x : Int} {σ : MS} {Q : MQ9} (h : Rg x) (hq : Q (.inl (some (bZ (sGr x)))) σ) : R_isGreat x σ Q := by
  obtain ⟨q1, q0⟩ := bZ_q (P := fun r => Q (.inl (some r)) σ) hq
  exact R_isGreat.i ⟨h, fun a => q0 (sGr_f (by omega)), fun a => ⟨h, fun b => q0 (sGr_f (by omega)), fun b => q1 (sGr_t (by omega))⟩⟩
theorem R_isDigit.s {x : Int} {σ : MS} {Q : MQ9} (h : Rg x) (hq : Q (.inl (some (bZ (sDi x)))) σ) : R_isDigit x σ Q := by
  obtain ⟨q1, q0⟩ := bZ_q (P := fun r => Q (.inl (some r)) σ) hq
  exact R_isDigit.i ⟨h, fun a => q0 (sDi_f (by omega)), fun a => ⟨h, fun b => q0 (sDi_f (by omega)), fun b => q1 (sDi_t (by omega))⟩⟩
theorem T_isLetter.s {x : Int} {σ : MS} {Q : MQ9} (h : Rg x) (hq : Q (.inl (some (bZ (sLe x)))) σ) : T_isLetter x σ Q := by
  obtain ⟨q1, q0⟩ := bZ_q (P := fun r => Q (.inl (some r)) σ) hq
  have h12 : ¬ (97 ≤ x ∧ x ≤ 122) → T_isLetter_12 x σ Q := fun n => T_isLetter_12.i ⟨h, fun a => q0 (sLe_f (by omega)), fun a => ⟨h, fun b => q0 (sLe_f (by omega)), fun b => T_isLetter_24.i (q1 (sLe_i.mpr (by omega)))⟩⟩
  exact T_isLetter.i ⟨h, fun a => h12 (by omega), fun a => ⟨h, fun b => T_isLetter_24.i (q1 (sLe_i.mpr (by omega))), fun b => h12 (by omega)⟩⟩
theorem R_isLetter.s {x : Int} {σ : MS} {Q : MQ9} (h : Rg x) (hq : Q (.inl (some (bZ (sLe x)))) σ) : R_isLetter x σ Q := by
  obtain ⟨q1, q0⟩ := bZ_q (P := fun r => Q (.inl (some r)) σ) hq
  refine R_isLetter.i (R_isSmall.s h ⟨fun a => R_isLetter_14.i (q1 ?_), fun a => R_isGreat.s h ⟨fun b => q0 ?_, fun b => R_isLetter_14.i (q1 ?_)⟩⟩)
  · exact sLe_i.mpr (Or.inl (sSm_i.mp (bZ_ne a)))
  · unfold sLe; rw [bZ_z a, bZ_z b]; rfl
  · exact sLe_i.mpr (Or.inr (sGr_i.mp (bZ_ne b)))
theorem T_isWordSign.s {x : Int} {σ : MS} {Q : MQ9} (h : Rg x) (hq : Q (.inl (some (bZ (sWo x)))) σ) : T_isWordSign x σ Q := by
  obtain ⟨q1, q0⟩ := bZ_q (P := fun r => Q (.inl (some r)) σ) hq
  have h24 : ¬ (97 ≤ x ∧ x ≤ 122) → ¬ (65 ≤ x ∧ x ≤ 90) → T_isWordSign_24 x σ Q := fun n m => T_isWordSign_24.i ⟨h, fun a => q0 (sWo_f (by omega)), fun a => ⟨h, fun b => q0 (sWo_f (by omega)), fun b => T_isWordSign_36.i (q1 (sWo_i.mpr (by omega)))⟩⟩
  have h12 : ¬ (97 ≤ x ∧ x ≤ 122) → T_isWordSign_12 x σ Q := fun n => T_isWordSign_12.i ⟨h, fun a => h24 n (by omega), fun a => ⟨h, fun b => T_isWordSign_36.i (q1 (sWo_i.mpr (by omega))), fun b => h24 n (by omega)⟩⟩
  exact T_isWordSign.i ⟨h, fun a => h12 (by omega), fun a => ⟨h, fun b => T_isWordSign_36.i (q1 (sWo_i.mpr (by omega))), fun b => h12 (by omega)⟩⟩
theorem T_great.s {x : Int} {σ : MS} {Q : MQ9} (h : Rg x) (hq : Q (.inl (some (uppS x))) σ) : T_great x σ Q := by
  have e : uppS x = if 97 ≤ x ∧ x ≤ 122 then x - 32 else x := rfl
  refine T_great.i ⟨h, fun a => ⟨h, ?_⟩, fun a => ⟨h, fun b => ⟨h, ?_⟩, fun b => ⟨by unfold Rg at *; omega, ?_⟩⟩⟩
  · rw [e, if_neg (by omega)] at hq; exact hq
  · rw [e, if_neg (by omega)] at hq; exact hq
  · rw [e, if_pos (by omega)] at hq; exact hq
theorem T_small.s {x : Int} {σ : MS} {Q : MQ9} (h : Rg x) (hq : Q (.inl (some (lowS x))) σ) : T_small x σ Q := by
  have e : lowS x = if 65 ≤ x ∧ x ≤ 90 then x + 32 else x := rfl
  refine T_small.i ⟨h, fun a => ⟨h, ?_⟩, fun a => ⟨h, fun b => ⟨h, ?_⟩, fun b => ⟨by unfold Rg at *; omega, ?_⟩⟩⟩
  · rw [e, if_neg (by omega)] at hq; exact hq
  · rw [e, if_neg (by omega)] at hq; exact hq
  · rw [e, if_pos (by omega)] at hq; exact hq
theorem R_great.s {x : Int} {σ : MS} {Q : MQ9} (h : Rg x) (hq : Q (.inl (some (uppS x))) σ) : R_great x σ Q := by
  have e : uppS x = if 97 ≤ x ∧ x ≤ 122 then x - 32 else x := rfl
  refine R_great.i (R_isSmall.s h ⟨fun a => ⟨h, ?_⟩, fun a => ?_⟩)
  · rw [e, if_neg (fun p => Bool.false_ne_true ((bZ_z a).symm.trans (sSm_i.mpr p)))] at hq; exact hq
  · have := sSm_i.mp (bZ_ne a)
    rw [e, if_pos this] at hq
    exact ⟨by unfold Rg at *; omega, hq⟩
theorem R_low.s {x : Int} {σ : MS} {Q : MQ9} (h : Rg x) (hq : Q (.inl (some (lowS x))) σ) : R_low x σ Q := by
  have e : lowS x = if 65 ≤ x ∧ x ≤ 90 then x + 32 else x := rfl
  refine R_low.i (R_isGreat.s h ⟨fun a => ⟨h, ?_⟩, fun a => ?_⟩)
  · rw [e, if_neg (fun p => Bool.false_ne_true ((bZ_z a).symm.trans (sGr_i.mpr p)))] at hq; exact hq
  · have := sGr_i.mp (bZ_ne a)
    rw [e, if_pos this] at hq
    exact ⟨by unfold Rg at *; omega, hq⟩
theorem R_shown.s {x : Int} {σ : MS} {Q : MQ9} (h : Rg x) (hq : Q (.inl (some (shS x))) σ) : R_shown x σ Q := by
  have e : shS x = if x = 160 then 32 else x := rfl
  refine R_shown.i ⟨h, fun a => ⟨h, ?_⟩, fun a => ?_⟩
  · rw [e, if_neg a] at hq; exact hq
  · rw [e, if_pos a] at hq; exact hq
/-- reads of rows and their range -/
theorem WF.g {σ : MS} (w : WF σ) {q : Nat} {i : Int} : Rg (rgt (mX σ q) i) := by
  unfold rgt
  split
  · rename_i h
    rw [List.getD_eq_getElem?_getD, List.getElem?_eq_getElem (by omega)]
    exact w.1 q _ (List.getElem_mem _)
  · unfold Rg; omega
theorem rgt_n {L : List Int} {i : Nat} (h : i < L.length) : rgt L (i : Int) = L.getD i 0 := by
  unfold rgt
  rw [if_pos ⟨by omega, by omega⟩]
  rfl
theorem rgt_o {L : List Int} {x : Int} (h : x < 0 ∨ (L.length : Int) ≤ x) : rgt L x = -1 := by
  unfold rgt
  rw [if_neg (by omega)]
theorem rgt_a {L : List Int} {x : Int} {i : Nat} (e : x = (i : Int)) (h : i < L.length) : rgt L x = L.getD i 0 := by rw [e]; exact rgt_n h
/-- all of the first n -/
def allR (f : Nat → Bool) (n : Nat) : Bool := (List.range n).all f
theorem allR_i {f : Nat → Bool} {n : Nat} : allR f n = true ↔ ∀ i, i < n → f i = true := by
  unfold allR
  rw [List.all_eq_true]
  exact ⟨fun h i hi => h i (List.mem_range.mpr hi), fun h i hi => h i (List.mem_range.mp hi)⟩
theorem allR_f {f : Nat → Bool} {n i : Nat} (hi : i < n) (h : f i = false) : allR f n = false := Bool.eq_false_iff.mpr (fun e => by rw [allR_i.mp e i hi] at h; exact Bool.noConfusion h)
theorem allR_c {f g : Nat → Bool} {n : Nat} (h : ∀ i, i < n → f i = g i) : allR f n = allR g n := by
  rw [Bool.eq_iff_iff, allR_i, allR_i]
  exact ⟨fun a i hi => by rw [← h i hi]; exact a i hi, fun a i hi => by rw [h i hi]; exact a i hi⟩
/-- for (k = 0; k < n && is; k++) is = f(k) -/
theorem loopIs {P : Int → Int → Prop} {f : Nat → Bool} {n : Nat} (step : ∀ i, i < n → P (bZ (f i)) ((i : Int) + 1) → P 1 (i : Int)) (fin1 : allR f n = true → P 1 (n : Int)) (fin0 : allR f n = false → ∀ i : Nat, i ≤ n → P 0 (i : Int)) : P 1 0 := by
  have key : ∀ k i, i + k = n → (∀ j, j < i → f j = true) → P 1 (i : Int) := by
    intro k
    induction k with
    | zero =>
      intro i hi hp
      have e : i = n := by omega
      subst e
      exact fin1 (allR_i.mpr hp)
    | succ k ih =>
      intro i hi hp
      refine step i (by omega) ?_
      cases e : f i with
      | true =>
        refine ih (i + 1) (by omega) (fun j hj => ?_)
        by_cases hj2 : j = i
        · rw [hj2]; exact e
        · exact hp j (by omega)
      | false =>
        have h := fin0 (allR_f (by omega) e) (i + 1) (by omega)
        exact h
  exact key n 0 (by omega) (fun j hj => absurd hj (Nat.not_lt_zero j))
/-- for (k = 0; k < n; k++) if (!f(k)) return false -/
theorem loopAl {P : Int → Prop} {f : Nat → Bool} {n : Nat} (step : ∀ i, i < n → (f i = true → P ((i : Int) + 1)) → (f i = false → allR f n = false) → P (i : Int)) (fin : allR f n = true → P (n : Int)) : P 0 := by
  have key : ∀ k i, i + k = n → (∀ j, j < i → f j = true) → P (i : Int) := by
    intro k
    induction k with
    | zero =>
      intro i hi hp
      have e : i = n := by omega
      subst e
      exact fin (allR_i.mpr hp)
    | succ k ih =>
      intro i hi hp
      refine step i (by omega) (fun e => ?_) (fun e => allR_f (by omega) e)
      refine ih (i + 1) (by omega) (fun j hj => ?_)
      by_cases hj2 : j = i
      · rw [hj2]; exact e
      · exact hp j (by omega)
  exact key n 0 (by omega) (fun j hj => absurd hj (Nat.not_lt_zero j))
/-- two rows stand alike, as the class compares them -/
theorem stdM_i {g h : Int → Int} : ∀ (k : Nat) (x : Int), stdM g h k x = true ↔ ∀ i : Nat, i < k → g (x + i) % 128 = h (x + i) % 128
  | 0, x => ⟨fun _ i hi => absurd hi (Nat.not_lt_zero i), fun _ => rfl⟩
  | k + 1, x => by
    unfold stdM
    constructor
    · intro e i hi
      by_cases e0 : g x % 128 = h x % 128
      · rw [if_pos e0] at e
        cases i with
        | zero => rw [show x + ((0 : Nat) : Int) = x by omega]; exact e0
        | succ i =>
          have := (stdM_i k (x + 1)).mp e i (by omega)
          rw [show x + ((i + 1 : Nat) : Int) = x + 1 + (i : Int) by omega]
          exact this
      · rw [if_neg e0] at e
        cases e
    · intro a
      have e0 : g x % 128 = h x % 128 := by
        have := a 0 (by omega)
        rw [show x + ((0 : Nat) : Int) = x by omega] at this
        exact this
      rw [if_pos e0]
      refine (stdM_i k (x + 1)).mpr (fun i hi => ?_)
      have := a (i + 1) (by omega)
      rw [show x + ((i + 1 : Nat) : Int) = x + 1 + (i : Int) by omega] at this
      exact this
theorem smB.b {L : List Int} (h : smB L) {i : Nat} (hi : i < L.length) : 0 ≤ L.getD i 0 ∧ L.getD i 0 ≤ 127 := by
  rw [List.getD_eq_getElem?_getD, List.getElem?_eq_getElem hi]
  exact h _ (List.getElem_mem hi)
theorem smB.r {L : List Int} (h : smB L) {i : Nat} (hi : i < L.length) : Rg (L.getD i 0) := by
  have := h.b hi
  unfold Rg
  omega
