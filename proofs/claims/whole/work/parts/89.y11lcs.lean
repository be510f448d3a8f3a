/-! THE LONGEST COMMON ROW: pure -/
def lcR (g : Nat → Bool) (prev : Nat → Nat) : Nat → Nat
  | 0 => 0
  | k + 1 => if g k = true then prev k + 1 else max (prev (k + 1)) (lcR g prev k)
def lcN (f : Nat → Nat → Bool) : Nat → Nat → Nat
  | 0 => fun _ => 0
  | p + 1 => lcR (f p) (lcN f p)
section
variable {f : Nat → Nat → Bool}
theorem lcN_0 {p : Nat} : lcN f p 0 = 0 := by
  cases p <;> rfl
theorem lcN_s {p k : Nat} : lcN f (p + 1) (k + 1) = if f p k = true then lcN f p k + 1 else max (lcN f p (k + 1)) (lcN f (p + 1) k) := rfl
theorem lcN_m : ∀ (n p k : Nat), p + k ≤ n → (lcN f p k ≤ lcN f (p + 1) k ∧ lcN f (p + 1) k ≤ lcN f p k + 1) ∧ (lcN f p k ≤ lcN f p (k + 1) ∧ lcN f p (k + 1) ≤ lcN f p k + 1) := by
  intro n
  induction n with
  | zero =>
    intro p k h
    have h1 : p = 0 := by omega
    have h2 : k = 0 := by omega
    subst h1 h2
    have a : lcN f (0 + 1) 0 = 0 := rfl
    have b : lcN f 0 0 = 0 := rfl
    have c : lcN f 0 (0 + 1) = 0 := rfl
    omega
  | succ n ih =>
    intro p k h
    constructor
    · cases k with
      | zero => rw [lcN_0, lcN_0]; omega
      | succ k =>
        obtain ⟨⟨a1, a2⟩, b1, b2⟩ := ih p k (by omega)
        rw [lcN_s]
        split <;> omega
    · cases p with
      | zero =>
        have b : ∀ k, lcN f 0 k = 0 := fun _ => rfl
        rw [b, b]; omega
      | succ p =>
        obtain ⟨⟨a1, a2⟩, b1, b2⟩ := ih p k (by omega)
        rw [lcN_s (p := p) (k := k)]
        split <;> omega
theorem lcN_le : ∀ (p k : Nat), lcN f p k ≤ p
  | 0, k => Nat.le_refl _
  | p + 1, k => by
    have a := lcN_le p k
    have b := ((lcN_m (f := f) (p + k) p k (Nat.le_refl _)).1).2
    omega
theorem lcN_le2 : ∀ (k p : Nat), lcN f p k ≤ k
  | 0, p => by rw [lcN_0]; exact Nat.le_refl _
  | k + 1, p => by
    have a := lcN_le2 k p
    have b := ((lcN_m (f := f) (p + k) p k (Nat.le_refl _)).2).2
    omega
theorem lcN_up {p k : Nat} : ∀ j : Nat, lcN f p k ≤ lcN f (p + j) k
  | 0 => Nat.le_refl _
  | j + 1 => by
    have a := lcN_up (p := p) (k := k) j
    have b := ((lcN_m (f := f) (p + j + k) (p + j) k (Nat.le_refl _)).1).1
    exact Nat.le_trans a b
theorem lcN_up2 {p k : Nat} : ∀ j : Nat, lcN f p k ≤ lcN f p (k + j)
  | 0 => Nat.le_refl _
  | j + 1 => by
    have a := lcN_up2 (p := p) (k := k) j
    have b := ((lcN_m (f := f) (p + (k + j)) p (k + j) (Nat.le_refl _)).2).1
    exact Nat.le_trans a b
theorem lcN_d : ∀ a : Nat, (∀ i, i < a → f i i = true) → lcN f a a = a
  | 0, _ => rfl
  | a + 1, h => by
    rw [lcN_s, if_pos (h a (by omega)), lcN_d a (fun i hi => h i (by omega))]
/-- what is common ahead may be taken away -/
theorem lcN_pre {a : Nat} (h : ∀ i, i < a → f i i = true) (p : Nat) : ∀ k : Nat, lcN f (a + p) (a + k) = a + lcN (fun p k => f (a + p) (a + k)) p k := by
  induction p with
  | zero =>
    intro k
    have e : lcN (fun p k => f (a + p) (a + k)) 0 k = 0 := rfl
    have b := lcN_le (f := f) a (a + k)
    have c := lcN_up2 (f := f) (p := a) (k := a) k
    rw [lcN_d a h] at c
    rw [Nat.add_zero, e]
    omega
  | succ p ih =>
    intro k
    induction k with
    | zero =>
      show lcN f (a + (p + 1)) a = _
      rw [lcN_0]
      have b := lcN_le2 (f := f) a (a + (p + 1))
      have c := lcN_up (f := f) (p := a) (k := a) (p + 1)
      rw [lcN_d a h] at c
      omega
    | succ k ih2 =>
      have i1 := ih k
      have i2 := ih (k + 1)
      have e1 : lcN f (a + (p + 1)) (a + (k + 1)) = if f (a + p) (a + k) = true then lcN f (a + p) (a + k) + 1 else max (lcN f (a + p) (a + (k + 1))) (lcN f (a + (p + 1)) (a + k)) := rfl
      rw [e1, lcN_s, i1, i2, ih2]
      split <;> omega
theorem lcN_suf {p k : Nat} : ∀ b : Nat, (∀ i, i < b → f (p + i) (k + i) = true) → lcN f (p + b) (k + b) = lcN f p k + b
  | 0, _ => rfl
  | b + 1, h => by
    rw [show p + (b + 1) = p + b + 1 by omega, show k + (b + 1) = k + b + 1 by omega, lcN_s, if_pos (h b (by omega)), lcN_suf b (fun i hi => h i (by omega))]
    omega
end
/-- the first place where f holds, or the end -/
def fsN (f : Nat → Bool) : Nat → Nat → Nat
  | 0, q => q
  | m + 1, q => if f q = true then q else fsN f m (q + 1)
theorem fsN_i {f : Nat → Bool} : ∀ (m q : Nat), (∀ i, i < q → f i = false) → fsN f m q ≤ q + m ∧ (∀ i, i < fsN f m q → f i = false) ∧ (fsN f m q < q + m → f (fsN f m q) = true)
  | 0, q, h => ⟨Nat.le_refl _, h, fun h9 => absurd h9 (Nat.lt_irrefl _)⟩
  | m + 1, q, h => by
    unfold fsN
    split
    · rename_i e
      exact ⟨by omega, h, fun _ => e⟩
    · rename_i e
      have e2 : f q = false := by
        cases hf : f q with
        | true => exact absurd hf e
        | false => rfl
      obtain ⟨a, b, c⟩ := fsN_i (f := f) m (q + 1) (fun i hi => by
        by_cases hq : i = q
        · rw [hq]; exact e2
        · exact h i (by omega))
      exact ⟨by omega, b, fun h9 => c (by omega)⟩
theorem fsN_eq {f : Nat → Bool} {m q : Nat} (h1 : ∀ i, i < q → f i = false) (h2 : q ≤ m) (h3 : q < m → f q = true) : fsN f m 0 = q := by
  obtain ⟨a, b, c⟩ := fsN_i (f := f) m 0 (fun i hi => absurd hi (Nat.not_lt_zero i))
  rcases Nat.lt_trichotomy (fsN f m 0) q with h | h | h
  · have := c (by omega)
    rw [h1 _ h] at this
    exact Bool.noConfusion this
  · exact h
  · have := h3 (by omega)
    rw [b _ h] at this
    exact Bool.noConfusion this
/-- lines of two proofs are alike -/
def smL (L K : List (List Int)) (i j : Nat) : Bool := decide (ms7 (L.getD i []) = ms7 (K.getD j []))
/-- numbers that stand for lines: alike just when the lines are -/
def idA (L : List (List Int)) (p : Nat) : Nat := fsN (fun q => smL L L q p) p 0
def idB (L K : List (List Int)) (k : Nat) : Int := if fsN (fun q => smL L K q k) L.length 0 < L.length then (fsN (fun q => smL L K q k) L.length 0 : Int) else -1
theorem id_ok {L K : List (List Int)} {p k : Nat} (hp : p < L.length) : (((idA L p : Nat) : Int) = idB L K k) ↔ smL L K p k = true := by
  obtain ⟨a1, a2, a3⟩ := fsN_i (f := fun q => smL L L q p) p 0 (fun i hi => absurd hi (Nat.not_lt_zero i))
  obtain ⟨b1, b2, b3⟩ := fsN_i (f := fun q => smL L K q k) L.length 0 (fun i hi => absurd hi (Nat.not_lt_zero i))
  have sa : ms7 (L.getD (idA L p) []) = ms7 (L.getD p []) := by
    by_cases h : idA L p < p
    · exact of_decide_eq_true (a3 (by unfold idA at h; omega))
    · have : idA L p = p := by unfold idA at h ⊢; omega
      rw [this]
  constructor
  · intro h
    unfold idB at h
    split at h
    · rename_i hlt
      have h2 : idA L p = fsN (fun q => smL L K q k) L.length 0 := by omega
      have h3 := of_decide_eq_true (b3 (by omega))
      rw [← h2, sa] at h3
      exact decide_eq_true h3
    · omega
  · intro h
    have h1 : ms7 (L.getD p []) = ms7 (K.getD k []) := of_decide_eq_true h
    have e : fsN (fun q => smL L K q k) L.length 0 = idA L p := by
      refine fsN_eq (fun i hi => ?_) (by unfold idA; omega) (fun _ => ?_)
      · have := a2 i hi
        unfold smL at this ⊢
        rw [← h1]
        exact this
      · unfold smL
        rw [← h1]
        exact decide_eq_true sa
    unfold idB
    rw [e, if_pos (by unfold idA; omega)]
