/-! WHAT IS READ BEHIND WRITES; LOOPS THAT FILL AN ARRAY -/
section
variable {σ : MS} {z k a q : Nat} {x : Int} {L : List Int}
theorem wV_self : mV (wV σ z k x) z k = x := by
  show va_up σ.2.1 z (va_up (σ.2.1 z) k x) z k = x
  rw [va_up_self, va_up_self]
theorem wV_ne {z' k' : Nat} (h : z' ≠ z ∨ k' ≠ k) : mV (wV σ z k x) z' k' = mV σ z' k' := by
  show va_up σ.2.1 z (va_up (σ.2.1 z) k x) z' k' = σ.2.1 z' k'
  by_cases hz : z' = z
  · subst hz
    rw [va_up_self, va_up_ne _ _ (h.resolve_left (fun h => h rfl))]
  · rw [va_up_ne _ _ hz]
theorem wX_self : mX (wX σ q L) q = L := va_up_self ..
theorem wX_ne {q' : Nat} (h : q' ≠ q) : mX (wX σ q L) q' = mX σ q' := va_up_ne _ _ h
/-- places a .. of array z hold L -/
def wF (σ : MS) (z a : Nat) (L : List Int) : MS := (σ.1, va_up σ.2.1 z (fun k => if a ≤ k ∧ k < a + L.length then L.getD (k - a) 0 else σ.2.1 z k), σ.2.2)
theorem wF_nil : wF σ z a [] = σ := by
  unfold wF
  refine Prod.ext rfl (Prod.ext ?_ rfl)
  funext z' k
  show va_up σ.2.1 z (fun k => if a ≤ k ∧ k < a + ([] : List Int).length then ([] : List Int).getD (k - a) 0 else σ.2.1 z k) z' k = σ.2.1 z' k
  by_cases hz : z' = z
  · subst hz
    rw [va_up_self, if_neg (by rw [List.length_nil]; omega)]
  · rw [va_up_ne _ _ hz]
theorem getD_l {L M : List Int} {n : Nat} (h : n < L.length) : (L ++ M).getD n 0 = L.getD n 0 := by
  rw [List.getD_eq_getElem?_getD, List.getD_eq_getElem?_getD, List.getElem?_append_left h]
theorem getD_s {L : List Int} {x : Int} : (L ++ [x]).getD L.length 0 = x := by
  rw [List.getD_eq_getElem?_getD, List.getElem?_append_right (Nat.le_refl _), Nat.sub_self]
  rfl
theorem wF_snoc : wV (wF σ z a L) z (a + L.length) x = wF σ z a (L ++ [x]) := by
  refine Prod.ext rfl (Prod.ext ?_ rfl)
  funext z' k
  show va_up (wF σ z a L).2.1 z (va_up ((wF σ z a L).2.1 z) (a + L.length) x) z' k = (wF σ z a (L ++ [x])).2.1 z' k
  by_cases hz : z' = z
  · subst hz
    have e1 : (wF σ z' a L).2.1 z' = fun k => if a ≤ k ∧ k < a + L.length then L.getD (k - a) 0 else σ.2.1 z' k := va_up_self ..
    have e2 : (wF σ z' a (L ++ [x])).2.1 z' = fun k => if a ≤ k ∧ k < a + (L ++ [x]).length then (L ++ [x]).getD (k - a) 0 else σ.2.1 z' k := va_up_self ..
    rw [va_up_self, e1, e2]
    dsimp only
    by_cases hk : k = a + L.length
    · subst hk
      rw [va_up_self, if_pos ⟨by omega, by rw [List.length_append, List.length_singleton]; omega⟩, Nat.add_sub_cancel_left, getD_s]
    · rw [va_up_ne _ _ hk]
      by_cases h : a ≤ k ∧ k < a + L.length
      · rw [if_pos h, if_pos ⟨h.1, by rw [List.length_append, List.length_singleton]; omega⟩, getD_l (by omega)]
      · rw [if_neg h, if_neg (by rw [List.length_append, List.length_singleton]; omega)]
  · have e1 : (wF σ z a L).2.1 z' = σ.2.1 z' := va_up_ne _ _ hz
    have e2 : (wF σ z a (L ++ [x])).2.1 z' = σ.2.1 z' := va_up_ne _ _ hz
    rw [va_up_ne _ _ hz, e1, e2]
theorem wF_at {j : Nat} (h : j < L.length) : mV (wF σ z a L) z (a + j) = L.getD j 0 := by
  have e1 : (wF σ z a L).2.1 z = fun k => if a ≤ k ∧ k < a + L.length then L.getD (k - a) 0 else σ.2.1 z k := va_up_self ..
  show (wF σ z a L).2.1 z (a + j) = _
  rw [e1]
  dsimp only
  rw [if_pos ⟨by omega, by omega⟩, Nat.add_sub_cancel_left]
theorem wF_ne {z' k' : Nat} (h : z' ≠ z ∨ k' < a ∨ a + L.length ≤ k') : mV (wF σ z a L) z' k' = mV σ z' k' := by
  by_cases hz : z' = z
  · subst hz
    have e1 : (wF σ z' a L).2.1 z' = fun k => if a ≤ k ∧ k < a + L.length then L.getD (k - a) 0 else σ.2.1 z' k := va_up_self ..
    show (wF σ z' a L).2.1 z' k' = _
    rw [e1]
    dsimp only
    rw [if_neg (by have := h.resolve_left (fun h => h rfl); omega)]
  · have e1 : (wF σ z a L).2.1 z' = σ.2.1 z' := va_up_ne _ _ hz
    show (wF σ z a L).2.1 z' k' = _
    rw [e1]
end
/-- the first n values of a function -/
def ofF (f : Nat → Int) (n : Nat) : List Int := (List.range n).map f
theorem ofF_len {f : Nat → Int} {n : Nat} : (ofF f n).length = n := by
  unfold ofF
  rw [List.length_map, List.length_range]
theorem ofF_succ {f : Nat → Int} {n : Nat} : ofF f (n + 1) = ofF f n ++ [f n] := by
  unfold ofF
  rw [List.range_succ, List.map_append]
  rfl
theorem ofF_get {f : Nat → Int} : ∀ {n j : Nat}, j < n → (ofF f n).getD j 0 = f j
  | 0, _, h => absurd h (Nat.not_lt_zero _)
  | n + 1, j, h => by
    rw [ofF_succ]
    by_cases e : j = n
    · subst e
      have := getD_s (L := ofF f j) (x := f j)
      rw [ofF_len] at this
      exact this
    · rw [getD_l (by rw [ofF_len]; omega)]
      exact ofF_get (by omega)
theorem list_ext {L M : List Int} (hl : L.length = M.length) (h : ∀ j, j < L.length → L.getD j 0 = M.getD j 0) : L = M := by
  apply List.ext_getElem hl
  intro j h1 h2
  have := h j h1
  rw [List.getD_eq_getElem?_getD, List.getD_eq_getElem?_getD, List.getElem?_eq_getElem h1, List.getElem?_eq_getElem h2] at this
  exact this
theorem ofF_list {L : List Int} : ofF (fun i => L.getD i 0) L.length = L := list_ext ofF_len (fun j h => ofF_get (by rw [ofF_len] at h; exact h))
/-- a loop that fills an array from place a on -/
theorem loopF {P : Int → MS → Prop} {z a n : Nat} {f : Nat → Int} {σ : MS} (step : ∀ i, i < n → P ((i : Int) + 1) (wV (wF σ z a (ofF f i)) z (a + i) (f i)) → P (i : Int) (wF σ z a (ofF f i))) (fin : P (n : Int) (wF σ z a (ofF f n))) : P 0 σ := by
  have key : ∀ k i, i + k = n → P (i : Int) (wF σ z a (ofF f i)) := by
    intro k
    induction k with
    | zero =>
      intro i hi
      have e : i = n := by omega
      subst e
      exact fin
    | succ k ih =>
      intro i hi
      refine step i (by omega) ?_
      have h := ih (i + 1) (by omega)
      have e := wF_snoc (σ := σ) (z := z) (a := a) (L := ofF f i) (x := f i)
      rw [ofF_len] at e
      rw [e, ← ofF_succ]
      exact h
  have h := key n 0 (by omega)
  rw [show ofF f 0 = [] from rfl, wF_nil] at h
  exact h
/-- signs fit in a byte -/
theorem b8_id {x : Int} (h : -128 ≤ x ∧ x ≤ 127) : b8 x = x := by
  unfold b8
  omega
/-- a row of small numbers -/
def smB (L : List Int) : Prop := ∀ x ∈ L, 0 ≤ x ∧ x ≤ 127
theorem smB.at {L : List Int} (h : smB L) {j : Nat} (hj : j < L.length) : b8 (L.getD j 0) = L.getD j 0 := by
  refine b8_id ?_
  rw [List.getD_eq_getElem?_getD, List.getElem?_eq_getElem hj]
  have := h _ (List.getElem_mem hj)
  exact ⟨by show -128 ≤ L[j]; omega, this.2⟩
