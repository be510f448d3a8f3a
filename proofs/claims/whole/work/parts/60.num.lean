/-! WHOLE NUMBERS: a layer over Ev in which ints are whole numbers and rows lists of them; rooms and costs are told once and for all -/
abbrev iI (x : Int) : Int32 := Int32.ofInt x
abbrev iJ (x : Int) : Int64 := Int64.ofInt x
abbrev Rg (x : Int) : Prop := -2147483648 ≤ x ∧ x ≤ 2147483647
abbrev Rl (x : Int) : Prop := -9223372036854775808 ≤ x ∧ x ≤ 9223372036854775807
theorem Rg.to {x : Int} (h : Rg x) : (iI x).toInt = x := Int32.toInt_ofInt_of_le (by unfold Rg at h; omega) (by unfold Rg at h; omega)
theorem Rl.to {x : Int} (h : Rl x) : (iJ x).toInt = x := Int64.toInt_ofInt_of_le (by unfold Rl at h; omega) (by unfold Rl at h; omega)
theorem Rg.nat {x : Int} (h : Rg x) : (iI x).toNatClampNeg = x.toNat := Int32.toNatClampNeg_ofInt_of_le (by unfold Rg at h; omega) (by unfold Rg at h; omega)
theorem Rg.lt {x y : Int} (hx : Rg x) (hy : Rg y) : iI x < iI y ↔ x < y := by rw [Int32.lt_iff_toInt_lt, hx.to, hy.to]
theorem Rg.le {x y : Int} (hx : Rg x) (hy : Rg y) : iI x ≤ iI y ↔ x ≤ y := by rw [Int32.le_iff_toInt_le, hx.to, hy.to]
theorem Rg.eq {x y : Int} (hx : Rg x) (hy : Rg y) : iI x = iI y ↔ x = y := by rw [← Int32.toInt_inj, hx.to, hy.to]
theorem Rl.lt {x y : Int} (hx : Rl x) (hy : Rl y) : iJ x < iJ y ↔ x < y := by rw [Int64.lt_iff_toInt_lt, hx.to, hy.to]
theorem Rl.eq {x y : Int} (hx : Rl x) (hy : Rl y) : iJ x = iJ y ↔ x = y := by rw [← Int64.toInt_inj, hx.to, hy.to]
theorem Rg.of (x : Int32) : Rg x.toInt := ⟨by have := x.le_toInt; omega, by have := x.toInt_lt; omega⟩
theorem iI_to (x : Int32) : iI x.toInt = x := Int32.ofInt_toInt x
theorem iI_add (x y : Int) : iI (x + y) = iI x + iI y := Int32.ofInt_add x y
theorem iI_sub (x y : Int) : iI (x - y) = iI x - iI y := Int32.ofInt_sub x y
theorem iI_mul (x y : Int) : iI (x * y) = iI x * iI y := Int32.ofInt_mul x y
theorem iI_neg (x : Int) : iI (-x) = -iI x := Int32.ofInt_neg x
theorem iJ_add (x y : Int) : iJ (x + y) = iJ x + iJ y := Int64.ofInt_add x y
theorem iJ_sub (x y : Int) : iJ (x - y) = iJ x - iJ y := Int64.ofInt_sub x y
theorem iJ_mul (x y : Int) : iJ (x * y) = iJ x * iJ y := Int64.ofInt_mul x y
theorem iJ_neg (x : Int) : iJ (-x) = -iJ x := Int64.ofInt_neg x
theorem iJ_nat (n : Nat) : iJ (n : Int) = Int64.ofNat n := Int64.ofInt_eq_ofNat
theorem iI_nat (n : Nat) : iI (n : Int) = nI n := Int32.ofInt_eq_ofNat
theorem Rg.b {x : Int} (n : Int) (h1 : -n ≤ x) (h2 : x ≤ n) (hn : n ≤ 2147483647 := by decide) : Rg x := ⟨by omega, by omega⟩
theorem Rg.n {n : Nat} (h : n ≤ 2147483647) : Rg (n : Int) := ⟨by omega, by omega⟩
/-! the state -/
abbrev MS : Type := (Nat → List Int) × (Nat → Nat → Int) × (Nat → Nat) × Int
abbrev mX (σ : MS) : Nat → List Int := σ.1
abbrev mV (σ : MS) : Nat → Nat → Int := σ.2.1
abbrev mB (σ : MS) : Nat → Nat := σ.2.2.1
abbrev mW (σ : MS) : Int := σ.2.2.2
def wX (σ : MS) (q : Nat) (L : List Int) : MS := (va_up σ.1 q L, σ.2)
def wV (σ : MS) (z k : Nat) (x : Int) : MS := (σ.1, va_up σ.2.1 z (va_up (σ.2.1 z) k x), σ.2.2)
def wB (σ : MS) (j r : Nat) : MS := (σ.1, σ.2.1, va_up σ.2.2.1 j r, σ.2.2.2)
def wU (σ : MS) (x : Int) : MS := (σ.1, σ.2.1, σ.2.2.1, x)
abbrev MR9 : Type := (Nat → Int64) × Nat × (Nat → Int32)
def cv (ρ : MR9) (c : Nat → Nat) (σ : MS) : SS := (fun z k => iI (σ.2.1 z k), fun q => (σ.1 q).map iI, c, σ.2.2.1, iJ σ.2.2.2, ρ.1, ρ.2.1, ρ.2.2)
theorem up_map {α β : Type} (f : α → β) (g : Nat → α) (k : Nat) (v : α) : (fun j => f (va_up g k v j)) = va_up (fun j => f (g j)) k (f v) := by
  funext j
  unfold va_up
  split <;> rfl
theorem cv_V {ρ : MR9} {c : Nat → Nat} {σ : MS} {z k : Nat} {x : Int} : ip (cv ρ c σ) z k (iI x) = cv ρ c (wV σ z k x) := by
  have e : (fun z' k' => iI ((wV σ z k x).2.1 z' k')) = vset (fun z k => iI (σ.2.1 z k)) z k (iI x) := by
    show (fun z' => (fun (g : Nat → Int) => fun k' => iI (g k')) (va_up σ.2.1 z (va_up (σ.2.1 z) k x) z')) = _
    rw [up_map (fun (g : Nat → Int) => fun k' => iI (g k')), up_map iI]
    rfl
  unfold cv ip uI
  rw [e]
  rfl
theorem cv_X {ρ : MR9} {c : Nat → Nat} {σ : MS} {q cap : Nat} {L : List Int} : uX (cv ρ c σ) q cap (L.map iI) = cv ρ (va_up c q cap) (wX σ q L) := by
  have e : (fun q' => ((wX σ q L).1 q').map iI) = va_up (fun q => (σ.1 q).map iI) q (L.map iI) := up_map (fun (l : List Int) => l.map iI) σ.1 q L
  unfold cv uX
  rw [e]
  rfl
theorem cv_X0 {ρ : MR9} {c : Nat → Nat} {σ : MS} {q : Nat} {L : List Int} : uX (cv ρ c σ) q (c q) (L.map iI) = cv ρ c (wX σ q L) := by
  rw [cv_X, va_up_id]
/-! what is always so -/
def WF (σ : MS) : Prop := (∀ q x, x ∈ mX σ q → Rg x) ∧ (∀ z k, Rg (mV σ z k)) ∧ (∀ q, (mX σ q).length ≤ 131072) ∧ (∀ j, mB σ j = 49 ∨ mB σ j = 163) ∧ Rl (mW σ)
theorem WF.setX {σ : MS} (h : WF σ) {q : Nat} {L : List Int} (h1 : ∀ x ∈ L, Rg x) (h2 : L.length ≤ 131072) : WF (wX σ q L) := by
  obtain ⟨a, b, c, d, e⟩ := h
  refine ⟨fun j x hx => ?_, b, fun j => ?_, d, e⟩
  · by_cases hj : j = q
    · subst hj
      rw [show mX (wX σ j L) j = L from va_up_self _ _ _] at hx
      exact h1 x hx
    · rw [show mX (wX σ q L) j = mX σ j from va_up_ne _ _ hj] at hx
      exact a j x hx
  · by_cases hj : j = q
    · subst hj
      rw [show mX (wX σ j L) j = L from va_up_self _ _ _]
      exact h2
    · rw [show mX (wX σ q L) j = mX σ j from va_up_ne _ _ hj]
      exact c j
theorem WF.setV {σ : MS} (h : WF σ) {z k : Nat} {x : Int} (h1 : Rg x) : WF (wV σ z k x) := by
  obtain ⟨a, b, c, d, e⟩ := h
  refine ⟨a, fun z' k' => ?_, c, d, e⟩
  show Rg (va_up σ.2.1 z (va_up (σ.2.1 z) k x) z' k')
  by_cases hz : z' = z
  · subst hz
    rw [va_up_self]
    by_cases hk : k' = k
    · subst hk; rw [va_up_self]; exact h1
    · rw [va_up_ne _ _ hk]; exact b z' k'
  · rw [va_up_ne _ _ hz]; exact b z' k'
theorem WF.setB {σ : MS} (h : WF σ) {j r : Nat} (h1 : r = 49 ∨ r = 163) : WF (wB σ j r) := by
  obtain ⟨a, b, c, d, e⟩ := h
  refine ⟨a, b, c, fun i => ?_, e⟩
  show va_up σ.2.2.1 j r i = 49 ∨ va_up σ.2.2.1 j r i = 163
  by_cases hi : i = j
  · subst hi; rw [va_up_self]; exact h1
  · rw [va_up_ne _ _ hi]; exact d i
theorem WF.setW {σ : MS} (h : WF σ) {x : Int} (h1 : Rl x) : WF (wU σ x) := ⟨h.1, h.2.1, h.2.2.1, h.2.2.2.1, h1⟩
/-! rooms: a row's room is 16 times a power of two, below its own bound -/
def capT : List Nat := [0, 8, 0, 8, 0, 12, 0, 10, 0, 0, 8, 0, 8, 0, 8, 0, 8, 0, 8, 0, 8, 0, 0, 0, 0, 0, 5, 0, 2, 0, 2, 0, 2, 0, 0, 8, 0, 8, 0, 0, 7, 0, 3, 0, 0, 7, 0, 2, 0, 0, 0, 6, 0, 2, 0, 0, 7, 0, 2, 0, 2, 0, 0, 12, 0, 2, 0, 2, 0, 2, 0, 2, 0, 0, 12, 0, 3, 0, 3, 0, 3, 0, 12, 0, 2, 0, 0, 12, 0, 12, 0, 6, 0, 6, 0, 2, 0, 0, 4, 0, 1, 0, 1, 0, 0, 12, 0, 2, 0, 2, 0, 0, 12, 0, 12, 0, 12, 0, 2, 0, 12, 0, 12, 0, 12, 0, 0, 0, 0, 0, 13, 0, 7, 0, 7, 0, 7, 0, 9, 0, 2, 0, 2, 0, 2, 0, 3, 0, 3, 0, 0, 0, 12, 0, 8, 0, 8, 0, 9, 0, 0, 0, 0, 0, 0, 6, 0, 2, 0, 0, 7, 0, 2, 0, 2, 0, 0, 12, 0, 2, 0, 2, 0, 2, 0, 2, 0, 0, 12, 0, 3, 0, 3, 0, 3, 0, 12, 0, 2, 0, 8, 0, 8, 0, 8, 0, 12, 0, 3, 0, 0, 0, 0, 0, 13, 0, 9, 0, 9, 0, 3, 0, 9, 0, 9, 0, 2, 0, 0, 0, 0, 13, 0, 9, 0, 9, 0, 3, 0, 9, 0, 9, 0, 2, 0, 0]
def capE (q : Nat) : Nat := capT.getD q 0
def capOf (q : Nat) : Nat := 16 * 2 ^ capE q
theorem capT_le : ∀ e ∈ capT, e ≤ 13 := by decide +kernel
theorem capE_le (q : Nat) : capE q ≤ 13 := by
  unfold capE
  rw [List.getD_eq_getElem?_getD]
  cases h : capT[q]? with
  | none => exact Nat.zero_le _
  | some e => exact capT_le e (List.mem_of_getElem? h)
theorem capOf_le (q : Nat) : capOf q ≤ 131072 := by
  unfold capOf
  have : 2 ^ capE q ≤ 2 ^ 13 := Nat.pow_le_pow_right (by decide) (capE_le q)
  omega
def CK (c : Nat → Nat) : Prop := ∀ q ∈ xRows, ∃ j, j ≤ capE q ∧ c q = 16 * 2 ^ j
def Ph (c : Nat → Nat) : Nat := (xRows.map c).sum
theorem sum_up {c : Nat → Nat} {q v : Nat} : ∀ {l : List Nat}, q ∈ l → l.Nodup → (l.map (va_up c q v)).sum + c q = (l.map c).sum + v
  | [], h, _ => absurd h List.not_mem_nil
  | b :: l, h, hn => by
    obtain ⟨n1, n2⟩ := List.nodup_cons.mp hn
    rw [List.map_cons, List.map_cons, List.sum_cons, List.sum_cons]
    by_cases hb : b = q
    · subst hb
      have : l.map (va_up c b v) = l.map c := List.map_congr_left (fun x hx => va_up_ne _ _ (fun e => n1 (e ▸ hx)))
      rw [this, va_up_self]
      omega
    · have hq : q ∈ l := by
        rcases List.mem_cons.mp h with e | e
        · exact absurd e.symm hb
        · exact e
      have := sum_up (c := c) (v := v) hq n2
      rw [va_up_ne _ _ hb]
      omega
theorem rows_nodup : xRows.Nodup := by decide +kernel
theorem Ph_up {c : Nat → Nat} {q v : Nat} (h : q ∈ xRows) : Ph (va_up c q v) + c q = Ph c + v := sum_up h rows_nodup
/-- what a row's growing costs -/
theorem grow1 {q n c : Nat} (hn : n < capOf q) (hc : ∃ j, j ≤ capE q ∧ c = 16 * 2 ^ j) : (∃ j, j ≤ capE q ∧ gcap c n = 16 * 2 ^ j) ∧ 16 * gmc c n + c ≤ gcap c n ∧ gms c n + 2 * c ≤ 2 * gcap c n := by
  obtain ⟨j, hj, rfl⟩ := hc
  have hp : 1 ≤ 2 ^ j := Nat.one_le_two_pow
  unfold gcap gmc gms
  by_cases h : n < 16 * 2 ^ j
  · rw [if_pos h, if_pos h, if_pos h]
    exact ⟨⟨j, hj, rfl⟩, by omega, by omega⟩
  · rw [if_neg h, if_neg h, if_neg h]
    refine ⟨⟨j + 1, ?_, by rw [Nat.pow_succ]; omega⟩, by omega, by omega⟩
    refine Nat.lt_of_not_le (fun z => ?_)
    have : capE q = j := by omega
    unfold capOf at hn
    rw [this] at hn
    omega
theorem growN {q : Nat} : ∀ (k n c : Nat), n + k ≤ capOf q → (∃ j, j ≤ capE q ∧ c = 16 * 2 ^ j) → (∃ j, j ≤ capE q ∧ gcapN c n k = 16 * 2 ^ j) ∧ 16 * gmcN c n k + c ≤ gcapN c n k ∧ gmsN c n k + 2 * c ≤ 2 * gcapN c n k
  | 0, n, c, _, hc => by
    unfold gcapN gmcN gmsN
    exact ⟨hc, by omega, by omega⟩
  | k + 1, n, c, hn, hc => by
    obtain ⟨g1, g2, g3⟩ := grow1 (q := q) (n := n) (by omega) hc
    obtain ⟨h1, h2, h3⟩ := growN k (n + 1) (gcap c n) (by omega) g1
    unfold gcapN gmcN gmsN
    exact ⟨h1, by omega, by omega⟩
theorem CK.up {c : Nat → Nat} {q v : Nat} (h : CK c) (hv : ∃ j, j ≤ capE q ∧ v = 16 * 2 ^ j) : CK (va_up c q v) := fun i hi => by
  by_cases e : i = q
  · subst e; rw [va_up_self]; exact hv
  · rw [va_up_ne _ _ e]; exact h i hi
/-! values -/
abbrev MV : Type := (Int ⊕ Int) ⊕ (Int ⊕ Nat)
abbrev vw (x : Int) : MV := .inl (.inl x)
abbrev vi (x : Int) : MV := .inl (.inr x)
abbrev vl (x : Int) : MV := .inr (.inl x)
abbrev vr (n : Nat) : MV := .inr (.inr n)
def cvV : MV → Value
  | .inl (.inl x) => .int (iI x)
  | .inl (.inr x) => .int (iI x)
  | .inr (.inl x) => .long (iJ x)
  | .inr (.inr n) => .ref n
def uv : Int ⊕ Int → Int
  | .inl x => x
  | .inr x => x
theorem cvV_i (v : Int ⊕ Int) : cvV (.inl v) = .int (iI (uv v)) := by cases v <;> rfl
def okM : MV → Prop
  | .inl (.inl x) => Rg x
  | _ => True
def mcat : MV → Nat
  | .inr (.inl _) => 2
  | _ => 1
theorem cvV_cat (v : MV) : (cvV v).category = mcat v := by rcases v with (x | x) | (x | n) <;> rfl
abbrev MLo : Type := List (Nat × MV)
def cvL (lo : MLo) : ALo := lo.map (fun q => (q.1, cvV q.2))
def cvS (st : List MV) : List Value := st.map cvV
def okLo (lo : MLo) : Prop := (lo.map Prod.fst).Nodup ∧ ∀ q ∈ lo, okM q.2
def okSt (st : List MV) : Prop := ∀ v ∈ st, okM v
theorem cvL_kn {lo : MLo} (h : okLo lo) : kn (cvL lo) := by
  unfold kn cvL
  rw [List.map_map]
  exact h.1
def mlk : MLo → Nat → Option MV
  | [], _ => none
  | q :: r, k => match Nat.beq q.1 k with
    | true => some q.2
    | false => mlk r k
theorem mlk_mem {k : Nat} {v : MV} : ∀ {lo : MLo}, mlk lo k = some v → (k, v) ∈ lo
  | [], h => by cases h
  | q :: r, h => by
    unfold mlk at h
    split at h
    · rename_i e
      cases h
      have := Nat.eq_of_beq_eq_true e
      subst this
      exact List.mem_cons_self
    · exact List.mem_cons_of_mem _ (mlk_mem h)
theorem cvL_mem {k : Nat} {v : MV} {lo : MLo} (h : (k, v) ∈ lo) : (k, cvV v) ∈ cvL lo := List.mem_map.mpr ⟨(k, v), h, rfl⟩
/-- a variable is written -/
def mfl (i : Nat) : MLo → MLo
  | [] => []
  | q :: r => match Nat.beq q.1 i || (Nat.beq (q.1 + 1) i && Nat.beq (mcat q.2) 2) with
    | true => mfl i r
    | false => q :: mfl i r
def mst (lo : MLo) (i : Nat) (v : MV) : MLo := (i, v) :: mfl i lo
def mflL (i : Nat) : MLo → MLo
  | [] => []
  | q :: r => match Nat.beq q.1 i || (Nat.beq q.1 (i + 1) || (Nat.beq (q.1 + 1) i && Nat.beq (mcat q.2) 2)) with
    | true => mflL i r
    | false => q :: mflL i r
def mstL (lo : MLo) (i : Nat) (v : MV) : MLo := (i, v) :: mflL i lo
theorem beq_nat (a b : Nat) : Nat.beq a b = (a == b) := by
  cases h : Nat.beq a b with
  | true =>
    have := Nat.eq_of_beq_eq_true h
    subst this
    simp
  | false =>
    have : a ≠ b := Nat.ne_of_beq_eq_false h
    simp [this]
theorem mfl_eq (i : Nat) : ∀ lo : MLo, cvL (mfl i lo) = (cvL lo).filter (fun q => !(q.1 == i) && !(q.1 + 1 == i && q.2.category == 2))
  | [] => rfl
  | q :: r => by
    have ih := mfl_eq i r
    unfold mfl
    have e : cvL (q :: r) = (q.1, cvV q.2) :: cvL r := rfl
    rw [e, List.filter_cons]
    dsimp only
    rw [cvV_cat]
    split
    · rename_i hb
      rw [if_neg (by simp only [beq_nat] at hb; revert hb; cases (q.1 == i) <;> cases (q.1 + 1 == i) <;> cases (mcat q.2 == 2) <;> simp), ih]
    · rename_i hb
      rw [if_pos (by simp only [beq_nat] at hb; revert hb; cases (q.1 == i) <;> cases (q.1 + 1 == i) <;> cases (mcat q.2 == 2) <;> simp)]
      show (q.1, cvV q.2) :: cvL (mfl i r) = _
      rw [ih]
theorem mflL_eq (i : Nat) : ∀ lo : MLo, cvL (mflL i lo) = (cvL lo).filter (fun q => !(q.1 == i) && (!(q.1 == i + 1) && !(q.1 + 1 == i && q.2.category == 2)))
  | [] => rfl
  | q :: r => by
    have ih := mflL_eq i r
    unfold mflL
    have e : cvL (q :: r) = (q.1, cvV q.2) :: cvL r := rfl
    rw [e, List.filter_cons]
    dsimp only
    rw [cvV_cat]
    split
    · rename_i hb
      rw [if_neg (by simp only [beq_nat] at hb; revert hb; cases (q.1 == i) <;> cases (q.1 == i + 1) <;> cases (q.1 + 1 == i) <;> cases (mcat q.2 == 2) <;> simp), ih]
    · rename_i hb
      rw [if_pos (by simp only [beq_nat] at hb; revert hb; cases (q.1 == i) <;> cases (q.1 == i + 1) <;> cases (q.1 + 1 == i) <;> cases (mcat q.2 == 2) <;> simp)]
      show (q.1, cvV q.2) :: cvL (mflL i r) = _
      rw [ih]
theorem mst_eq {lo : MLo} {i : Nat} {v : MV} : am_st (cvL lo) i (cvV v) = cvL (mst lo i v) := by
  unfold am_st mst
  rw [← mfl_eq]
  rfl
theorem mstL_eq {lo : MLo} {i : Nat} {v : MV} : am_stL (cvL lo) i (cvV v) = cvL (mstL lo i v) := by
  unfold am_stL mstL
  rw [← mflL_eq]
  rfl
theorem mfl_sub (i : Nat) : ∀ lo : MLo, List.Sublist (mfl i lo) lo
  | [] => List.Sublist.slnil
  | q :: r => by
    unfold mfl
    split
    · exact (mfl_sub i r).cons _
    · exact (mfl_sub i r).cons₂ _
theorem mfl_no (i : Nat) : ∀ lo : MLo, i ∉ (mfl i lo).map Prod.fst
  | [] => List.not_mem_nil
  | q :: r => by
    unfold mfl
    split
    · exact mfl_no i r
    · rename_i hb
      simp only [beq_nat] at hb
      simp at hb
      intro h
      rcases List.mem_cons.mp h with e | e
      · exact hb.1 e.symm
      · exact mfl_no i r e
theorem mflL_sub (i : Nat) : ∀ lo : MLo, List.Sublist (mflL i lo) lo
  | [] => List.Sublist.slnil
  | q :: r => by
    unfold mflL
    split
    · exact (mflL_sub i r).cons _
    · exact (mflL_sub i r).cons₂ _
theorem mflL_no (i : Nat) : ∀ lo : MLo, i ∉ (mflL i lo).map Prod.fst
  | [] => List.not_mem_nil
  | q :: r => by
    unfold mflL
    split
    · exact mflL_no i r
    · rename_i hb
      simp only [beq_nat] at hb
      simp at hb
      intro h
      rcases List.mem_cons.mp h with e | e
      · exact hb.1 e.symm
      · exact mflL_no i r e
theorem okLo.st {lo : MLo} {i : Nat} {v : MV} (h : okLo lo) (hv : okM v) : okLo (mst lo i v) := by
  refine ⟨List.nodup_cons.mpr ⟨mfl_no i lo, ((mfl_sub i lo).map Prod.fst).nodup h.1⟩, fun q hq => ?_⟩
  rcases List.mem_cons.mp hq with rfl | hq
  · exact hv
  · exact h.2 q ((mfl_sub i lo).subset hq)
theorem okLo.stL {lo : MLo} {i : Nat} {v : MV} (h : okLo lo) (hv : okM v) : okLo (mstL lo i v) := by
  refine ⟨List.nodup_cons.mpr ⟨mflL_no i lo, ((mflL_sub i lo).map Prod.fst).nodup h.1⟩, fun q hq => ?_⟩
  rcases List.mem_cons.mp hq with rfl | hq
  · exact hv
  · exact h.2 q ((mflL_sub i lo).subset hq)
/-! outcomes, and what a run comes to -/
abbrev MO : Type := Option Int ⊕ String
def cvO : MO → AO
  | .inl none => .inl none
  | .inl (some x) => .inl (some (iI x))
  | .inr E => .inr E
def okO : MO → Prop
  | .inl (some x) => Rg x
  | _ => True
def tk (a : Nat) : MO → Nat
  | .inl _ => a
  | .inr _ => a + 1
abbrev MQ9 : Type := MO → MS → Prop
def EvQ (ρ : MR9) (c : Nat → Nat) (a : Nat) (o : MO) (σ' : MS) : EQ := fun o1 s k n => ∃ c', o1 = cvO o ∧ s = cv ρ c' σ' ∧ CK c' ∧ 16 * k + Ph c ≤ Ph c' + 16 * tk a o ∧ n + 2 * Ph c ≤ 2 * Ph c' + 6 * tk a o
def WP (D a μ pc : Nat) (lo : MLo) (st : List MV) (σ : MS) (Q : MQ9) : Prop := WF σ → okLo lo → okSt st →
  ∃ o σ', Q o σ' ∧ WF σ' ∧ okO o ∧ ∀ d ρ c, D ≤ d → CK c → Ev d μ pc (cvL lo) (cvS st) (cv ρ c σ) (EvQ ρ c a o σ')
section
variable {D a μ pc : Nat} {lo lo2 : MLo} {st st2 : List MV} {σ σ2 : MS} {Q Q2 : MQ9}
theorem WP.mono (h : WP D a μ pc lo st σ Q) (hQ : ∀ o s, Q o s → Q2 o s) : WP D a μ pc lo st σ Q2 := fun h1 h2 h3 => by
  obtain ⟨o, σ', hq, h4, h5, h6⟩ := h h1 h2 h3
  exact ⟨o, σ', hQ _ _ hq, h4, h5, h6⟩
theorem WP.wf (h : WF σ → okLo lo → okSt st → WP D a μ pc lo st σ Q) : WP D a μ pc lo st σ Q := fun h1 h2 h3 => h h1 h2 h3 h1 h2 h3
theorem WP.more {D2 : Nat} (hD : D ≤ D2) (h : WP D a μ pc lo st σ Q) : WP D2 a μ pc lo st σ Q := fun h1 h2 h3 => by
  obtain ⟨o, σ', hq, h4, h5, h6⟩ := h h1 h2 h3
  exact ⟨o, σ', hq, h4, h5, fun d ρ c hd hc => h6 d ρ c (Nat.le_trans hD hd) hc⟩
/-- a step that costs -/
theorem wp_step {pc2 : Nat} (kk : WP D a μ pc2 lo2 st2 σ2 Q) (hk : WF σ → okLo lo → okSt st → WF σ2 ∧ okLo lo2 ∧ okSt st2)
    (hE : WF σ → okLo lo → okSt st → ∀ d ρ c, D ≤ d → CK c → ∃ c2 k1 s1, CK c2 ∧ 16 * k1 + Ph c ≤ Ph c2 ∧ s1 + 2 * Ph c ≤ 2 * Ph c2 ∧ ∀ EQ9 : EQ, Ev d μ pc2 (cvL lo2) (cvS st2) (cv ρ c2 σ2) (fun o s k n => EQ9 o s (k1 + k) (s1 + n)) → Ev d μ pc (cvL lo) (cvS st) (cv ρ c σ) EQ9)
    : WP D a μ pc lo st σ Q := fun h1 h2 h3 => by
  obtain ⟨w1, w2, w3⟩ := hk h1 h2 h3
  obtain ⟨o, σ', hq, h4, h5, h6⟩ := kk w1 w2 w3
  refine ⟨o, σ', hq, h4, h5, fun d ρ c hd hc => ?_⟩
  obtain ⟨c2, k1, s1, g1, g2, g3, g4⟩ := hE h1 h2 h3 d ρ c hd hc
  refine g4 _ (Ev.mono (h6 d ρ c2 hd g1) (fun o1 s k n hh => ?_))
  obtain ⟨c', e1, e2, e3, e4, e5⟩ := hh
  exact ⟨c', e1, e2, e3, by omega, by omega⟩
/-- a step that costs nothing -/
theorem wp_free {pc2 : Nat} (kk : WP D a μ pc2 lo2 st2 σ2 Q) (hk : WF σ → okLo lo → okSt st → WF σ2 ∧ okLo lo2 ∧ okSt st2)
    (hE : WF σ → okLo lo → okSt st → ∀ d ρ c, D ≤ d → ∀ EQ9 : EQ, Ev d μ pc2 (cvL lo2) (cvS st2) (cv ρ c σ2) EQ9 → Ev d μ pc (cvL lo) (cvS st) (cv ρ c σ) EQ9)
    : WP D a μ pc lo st σ Q := by
  refine wp_step kk hk (fun h1 h2 h3 d ρ c hd hc => ⟨c, 0, 0, hc, by omega, by omega, fun EQ9 h => ?_⟩)
  refine hE h1 h2 h3 d ρ c hd EQ9 (Ev.mono h (fun o s k n hq => ?_))
  rw [Nat.zero_add, Nat.zero_add] at hq
  exact hq
theorem wp_sub (hs : lo2 ⊆ lo) (hn : (lo2.map Prod.fst).Nodup) (kk : WP D a μ pc lo2 st σ Q) : WP D a μ pc lo st σ Q := by
  refine wp_free kk (fun h1 h2 h3 => ⟨h1, ⟨hn, fun q hq => h2.2 q (hs hq)⟩, h3⟩) (fun _ _ _ d ρ c _ EQ9 h => Ev.sub (fun q hq => ?_) h)
  obtain ⟨x, hx, e⟩ := List.mem_map.mp hq
  exact List.mem_map.mpr ⟨x, hs hx, e⟩
end
