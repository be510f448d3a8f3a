/-! NUMBERS TOLD IN SYSTEMS -/
def dgS (d : Nat) : Int := if d < 10 then 48 + (d : Int) else 97 + (d : Int) - 10
def leS (d : Nat) : Int := 97 + (d : Int)
/-- the last j digits, the highest first -/
def lowD (g : Nat → Int) (b : Nat) : Nat → Nat → List Int
  | 0, _ => []
  | j + 1, v => g (v / b ^ j % b) :: lowD g b j v
theorem lowD_sn {g : Nat → Int} {b : Nat} : ∀ (j v : Nat), lowD g b (j + 1) v = lowD g b j (v / b) ++ [g (v % b)]
  | 0, v => by
    show [g (v / b ^ 0 % b)] = [g (v % b)]
    rw [Nat.pow_zero, Nat.div_one]
  | j + 1, v => by
    have ih := lowD_sn (g := g) (b := b) j v
    have e : v / b ^ (j + 1) = v / b / b ^ j := by rw [Nat.div_div_eq_div_mul, Nat.pow_succ, Nat.mul_comm]
    show g (v / b ^ (j + 1) % b) :: lowD g b (j + 1) v = g (v / b / b ^ j % b) :: lowD g b j (v / b) ++ [g (v % b)]
    rw [ih, e]
    rfl
def dgN (b : Nat) : Nat → Nat → List Int
  | 0, v => [dgS (v % b)]
  | f + 1, v => if v < b then [dgS v] else dgN b f (v / b) ++ [dgS (v % b)]
theorem dgN_low {b : Nat} (hb : 2 ≤ b) {f : Nat} : ∀ (j v : Nat), (j = 0 ∨ b ^ j ≤ v) → dgN b (f + j) v = dgN b f (v / b ^ j) ++ lowD dgS b j v
  | 0, v, _ => by
    show dgN b f v = dgN b f (v / b ^ 0) ++ []
    rw [Nat.pow_zero, Nat.div_one, List.append_nil]
  | j + 1, v, h => by
    have hv : b ^ (j + 1) ≤ v := h.resolve_left (by omega)
    have hp : b ^ (j + 1) = b ^ j * b := Nat.pow_succ ..
    have h1 : 1 ≤ b ^ j := Nat.one_le_pow _ _ (by omega)
    have hvb : b ≤ v := by
      have : 1 * b ≤ b ^ j * b := Nat.mul_le_mul_right b h1
      omega
    have hd : b ^ j ≤ v / b := (Nat.le_div_iff_mul_le (by omega)).mpr (by omega)
    have ih := dgN_low hb (f := f) j (v / b) (Or.inr hd)
    have e : v / b ^ (j + 1) = v / b / b ^ j := by rw [Nat.div_div_eq_div_mul, Nat.pow_succ, Nat.mul_comm]
    rw [show f + (j + 1) = (f + j) + 1 by omega]
    show (if v < b then [dgS v] else dgN b (f + j) (v / b) ++ [dgS (v % b)]) = _
    rw [if_neg (by omega), ih, lowD_sn, e, List.append_assoc]
def ltN : Nat → Nat → List Int
  | 0, _ => []
  | f + 1, v => if v = 0 then [] else ltN f ((v - 1) / 26) ++ [leS ((v - 1) % 26)]
/-- numbers of j + 1 letters -/
def ltS : Nat → Nat
  | 0 => 0
  | j + 1 => 26 * (1 + ltS j)
theorem ltN_low : ∀ (j f r : Nat), j < f → r < 26 ^ (j + 1) → ltN f (1 + r + ltS j) = lowD leS 26 (j + 1) r
  | 0, f + 1, r, _, hr => by
    show (if 1 + r + 0 = 0 then [] else ltN f ((1 + r + 0 - 1) / 26) ++ [leS ((1 + r + 0 - 1) % 26)]) = [leS (r / 26 ^ 0 % 26)]
    rw [if_neg (by omega), show 1 + r + 0 - 1 = r by omega, Nat.pow_zero, Nat.div_one]
    have e : r / 26 = 0 := Nat.div_eq_of_lt hr
    rw [e]
    cases f <;> rfl
  | j + 1, f + 1, r, hf, hr => by
    have ih := ltN_low j f (r / 26) (by omega) (Nat.div_lt_of_lt_mul (by rw [Nat.mul_comm, ← Nat.pow_succ]; exact hr))
    show (if 1 + r + 26 * (1 + ltS j) = 0 then [] else ltN f ((1 + r + 26 * (1 + ltS j) - 1) / 26) ++ [leS ((1 + r + 26 * (1 + ltS j) - 1) % 26)]) = _
    rw [if_neg (by omega), show (1 + r + 26 * (1 + ltS j) - 1) / 26 = 1 + r / 26 + ltS j by omega, show (1 + r + 26 * (1 + ltS j) - 1) % 26 = r % 26 by omega, ih]
    exact (lowD_sn (j + 1) r).symm
/-! Roman numbers -/
def rmV : List Nat := [1000, 900, 500, 400, 100, 90, 50, 40, 10, 9, 5, 4, 1]
def rmC : List Int := [109, 99, 109, 100, 99, 100, 99, 120, 99, 108, 120, 108, 120, 105, 120, 118, 105, 118, 105]
def rmS (k : Nat) : List Int := if k % 2 = 0 then [rmC.getD (k / 2 * 3) 0] else [rmC.getD (k / 2 * 3 + 1) 0, rmC.getD (k / 2 * 3 + 2) 0]
def rmL (v : Nat) : Nat → Nat → Nat
  | 0, n => n
  | t + 1, n => if v ≤ n then rmL v t (n - v) else n
def rmR (v : Nat) (s : List Int) : Nat → Nat → List Int
  | 0, _ => []
  | t + 1, n => if v ≤ n then s ++ rmR v s t (n - v) else []
def rmG : Nat → Nat → Nat → List Int
  | 0, _, _ => []
  | j + 1, k, n => rmR (rmV.getD k 0) (rmS k) 3 n ++ rmG j (k + 1) (rmL (rmV.getD k 0) 3 n)
def romD (d : Nat) (o f t sh : Int) : List Int := if d = 9 then [o + sh, t + sh] else if d = 4 then [o + sh, f + sh] else (if 5 ≤ d then [f + sh] else []) ++ List.replicate (d % 5) (o + sh)
def rmZ (n : Nat) (sh : Int) : List Int := romD (n / 1000) 109 109 109 sh ++ romD (n / 100 % 10) 99 100 109 sh ++ romD (n / 10 % 10) 120 108 99 sh ++ romD (n % 10) 105 118 120 sh
theorem rm_sc {u v : Nat} (hu : 0 < u) {S : List Int} : ∀ t n : Nat, rmR (u * v) S t n = rmR v S t (n / u) ∧ rmL (u * v) t n = u * rmL v t (n / u) + n % u
  | 0, n => ⟨rfl, (Nat.div_add_mod n u).symm⟩
  | t + 1, n => by
    have hi : u * v ≤ n ↔ v ≤ n / u := by rw [Nat.le_div_iff_mul_le hu, Nat.mul_comm]
    show (if u * v ≤ n then S ++ rmR (u * v) S t (n - u * v) else []) = (if v ≤ n / u then S ++ rmR v S t (n / u - v) else []) ∧ (if u * v ≤ n then rmL (u * v) t (n - u * v) else n) = u * (if v ≤ n / u then rmL v t (n / u - v) else n / u) + n % u
    by_cases h : u * v ≤ n
    · obtain ⟨a, b⟩ := rm_sc (v := v) hu (S := S) t (n - u * v)
      have e1 : (n - u * v) / u = n / u - v := Nat.sub_mul_div n u v
      have e2 : (n - u * v) % u = n % u := Nat.sub_mul_mod h
      rw [if_pos h, if_pos h, if_pos (hi.mp h), if_pos (hi.mp h), a, b, e1, e2]
      exact ⟨rfl, rfl⟩
    · rw [if_neg h, if_neg h, if_neg (fun x => h (hi.mpr x)), if_neg (fun x => h (hi.mpr x))]
      exact ⟨rfl, (Nat.div_add_mod n u).symm⟩
theorem rm_st9 {u v l r : Nat} (hr : r < u) {S : List Int} : rmR (u * v) S 3 (u * l + r) = rmR v S 3 l ∧ rmL (u * v) 3 (u * l + r) = u * rmL v 3 l + r := by
  have hu : 0 < u := by omega
  obtain ⟨a, b⟩ := rm_sc (v := v) hu (S := S) 3 (u * l + r)
  have e1 : (u * l + r) / u = l := by rw [Nat.mul_add_div hu, Nat.div_eq_of_lt hr, Nat.add_zero]
  have e2 : (u * l + r) % u = r := by rw [Nat.mul_add_mod, Nat.mod_eq_of_lt hr]
  rw [a, b, e1, e2]
  exact ⟨rfl, rfl⟩
def grL (d : Nat) : Nat := rmL 1 3 (rmL 4 3 (rmL 5 3 (rmL 9 3 d)))
def grS (k d : Nat) : List Int := rmR 9 (rmS k) 3 d ++ (rmR 5 (rmS (k + 1)) 3 (rmL 9 3 d) ++ (rmR 4 (rmS (k + 2)) 3 (rmL 5 3 (rmL 9 3 d)) ++ rmR 1 (rmS (k + 3)) 3 (rmL 4 3 (rmL 5 3 (rmL 9 3 d)))))
theorem grp_ok : ∀ d, d < 10 → grL d = 0 ∧ grS 1 d = romD d 99 100 109 0 ∧ grS 5 d = romD d 120 108 99 0 ∧ grS 9 d = romD d 105 118 120 0 := by decide +kernel
theorem gr_m : ∀ d, d < 4 → rmL 1 3 d = 0 ∧ rmR 1 (rmS 0) 3 d = romD d 109 109 109 0 := by decide +kernel
theorem rm_grp {u j k l r : Nat} (hr : r < u) (h9 : rmV.getD k 0 = u * 9) (h5 : rmV.getD (k + 1) 0 = u * 5) (h4 : rmV.getD (k + 2) 0 = u * 4) (h1 : rmV.getD (k + 3) 0 = u * 1) : rmG (j + 4) k (u * l + r) = grS k l ++ rmG j (k + 4) (u * grL l + r) := by
  show rmR (rmV.getD k 0) (rmS k) 3 (u * l + r) ++ (rmR (rmV.getD (k + 1) 0) (rmS (k + 1)) 3 (rmL (rmV.getD k 0) 3 (u * l + r)) ++ (rmR (rmV.getD (k + 2) 0) (rmS (k + 2)) 3 (rmL (rmV.getD (k + 1) 0) 3 (rmL (rmV.getD k 0) 3 (u * l + r))) ++ (rmR (rmV.getD (k + 3) 0) (rmS (k + 3)) 3 (rmL (rmV.getD (k + 2) 0) 3 (rmL (rmV.getD (k + 1) 0) 3 (rmL (rmV.getD k 0) 3 (u * l + r)))) ++ rmG j (k + 4) (rmL (rmV.getD (k + 3) 0) 3 (rmL (rmV.getD (k + 2) 0) 3 (rmL (rmV.getD (k + 1) 0) 3 (rmL (rmV.getD k 0) 3 (u * l + r)))))))) = _
  rw [h9, h5, h4, h1, (rm_st9 hr (S := rmS k)).2, (rm_st9 hr (v := 5) (S := rmS k)).2, (rm_st9 hr (v := 4) (S := rmS k)).2, (rm_st9 hr (v := 1) (S := rmS k)).2, (rm_st9 hr).1, (rm_st9 hr).1, (rm_st9 hr).1, (rm_st9 hr).1]
  unfold grS grL
  rw [List.append_assoc, List.append_assoc, List.append_assoc]
theorem romD_sh {d : Nat} {o f t : Int} : (romD d o f t 0).map (fun x => x - 32) = romD d o f t (-32) := by
  have h : ∀ x : Int, x + 0 - 32 = x + -32 := fun x => by omega
  unfold romD
  split
  · show [o + 0 - 32, t + 0 - 32] = _
    rw [h, h]
  · split
    · show [o + 0 - 32, f + 0 - 32] = _
      rw [h, h]
    · rw [List.map_append, List.map_replicate, h]
      split
      · show [f + 0 - 32] ++ _ = _
        rw [h]
      · rfl
theorem rm_0 {n : Nat} (h : n < 4000) : rmG 13 0 n = rmZ n 0 := by
  have e0 : rmG 13 0 n = rmR 1000 (rmS 0) 3 n ++ rmG 12 1 (rmL 1000 3 n) := rfl
  obtain ⟨a, b⟩ := rm_sc (u := 1000) (v := 1) (by decide) (S := rmS 0) 3 n
  rw [Nat.mul_one] at a b
  obtain ⟨c1, c2⟩ := gr_m (n / 1000) (by omega)
  rw [c2] at a
  rw [c1, Nat.mul_zero, Nat.zero_add] at b
  have e1 := rm_grp (u := 100) (j := 8) (k := 1) (l := n % 1000 / 100) (r := n % 100) (by omega) rfl rfl rfl rfl
  obtain ⟨d1, d2, -, -⟩ := grp_ok (n % 1000 / 100) (by omega)
  rw [d1, d2, Nat.mul_zero, Nat.zero_add, show 100 * (n % 1000 / 100) + n % 100 = n % 1000 by omega, show n % 1000 / 100 = n / 100 % 10 by omega] at e1
  have e2 := rm_grp (u := 10) (j := 4) (k := 5) (l := n % 100 / 10) (r := n % 10) (by omega) rfl rfl rfl rfl
  obtain ⟨f1, -, f2, -⟩ := grp_ok (n % 100 / 10) (by omega)
  rw [f1, f2, Nat.mul_zero, Nat.zero_add, show 10 * (n % 100 / 10) + n % 10 = n % 100 by omega, show n % 100 / 10 = n / 10 % 10 by omega] at e2
  have e3 := rm_grp (u := 1) (j := 0) (k := 9) (l := n % 10) (r := 0) (by omega) rfl rfl rfl rfl
  obtain ⟨g1, -, -, g2⟩ := grp_ok (n % 10) (by omega)
  rw [g1, g2, show 1 * (n % 10) + 0 = n % 10 by omega, show rmG 0 (9 + 4) (1 * 0 + 0) = [] from rfl, List.append_nil] at e3
  unfold rmZ
  rw [e0, a, b]
  show _ ++ rmG (8 + 4) 1 (n % 1000) = _
  rw [e1]
  show _ ++ (_ ++ rmG (4 + 4) 5 (n % 100)) = _
  rw [e2]
  show _ ++ (_ ++ (_ ++ rmG (0 + 4) 9 (n % 10))) = _
  rw [e3, List.append_assoc, List.append_assoc]
theorem rm_eq {n : Nat} (h : n < 4000) : (rmG 13 0 n).map (fun x => x - 0) = rmZ n 0 ∧ (rmG 13 0 n).map (fun x => x - 32) = rmZ n (-32) := by
  rw [rm_0 h]
  constructor
  · rw [show (fun x : Int => x - 0) = id from funext (fun x => Int.sub_zero x), List.map_id]
  · unfold rmZ
    rw [List.map_append, List.map_append, List.map_append, romD_sh, romD_sh, romD_sh, romD_sh]
/-- a number told in a system -/
def wrN (n sys : Int) : List Int := if (sys = 2 ∨ sys = 3) ∧ 1 ≤ n ∧ n ≤ 3999 then rmZ n.toNat (if sys = 3 then -32 else 0) else if sys = 4 ∧ 1 ≤ n then ltN 8 n.toNat else (if n < 0 then [45] else []) ++ dgN (if sys = 5 then 36 else 10) 9 n.natAbs
theorem lowD_len {g : Nat → Int} {b : Nat} : ∀ (j v : Nat), (lowD g b j v).length = j
  | 0, _ => rfl
  | j + 1, v => by
    show (_ :: lowD g b j v).length = _
    rw [List.length_cons, lowD_len j v]
theorem dgN_len {b : Nat} : ∀ (f v : Nat), (dgN b f v).length ≤ f + 1 ∧ 1 ≤ (dgN b f v).length
  | 0, v => ⟨Nat.le_refl _, Nat.le_refl _⟩
  | f + 1, v => by
    have ih := dgN_len (b := b) f (v / b)
    unfold dgN
    split
    · exact ⟨by rw [List.length_singleton]; omega, Nat.le_refl _⟩
    · rw [List.length_append, List.length_singleton]
      omega
theorem ltN_len : ∀ (f v : Nat), (ltN f v).length ≤ f
  | 0, v => Nat.le_refl _
  | f + 1, v => by
    have ih := ltN_len f ((v - 1) / 26)
    unfold ltN
    split
    · exact Nat.zero_le _
    · rw [List.length_append, List.length_singleton]
      omega
theorem romD_len {d : Nat} {o f t sh : Int} : (romD d o f t sh).length ≤ 5 := by
  unfold romD
  split
  · exact Nat.le_of_ble_eq_true rfl
  · split
    · exact Nat.le_of_ble_eq_true rfl
    · rw [List.length_append, List.length_replicate]
      split
      · rw [List.length_singleton]; omega
      · rw [List.length_nil]; omega
theorem wrN_len {n sys : Int} : (wrN n sys).length ≤ 20 := by
  unfold wrN
  split
  · unfold rmZ
    rw [List.length_append, List.length_append, List.length_append]
    have a := romD_len (d := n.toNat / 1000) (o := 109) (f := 109) (t := 109) (sh := if sys = 3 then -32 else 0)
    have b := romD_len (d := n.toNat / 100 % 10) (o := 99) (f := 100) (t := 109) (sh := if sys = 3 then -32 else 0)
    have c := romD_len (d := n.toNat / 10 % 10) (o := 120) (f := 108) (t := 99) (sh := if sys = 3 then -32 else 0)
    have d := romD_len (d := n.toNat % 10) (o := 105) (f := 118) (t := 120) (sh := if sys = 3 then -32 else 0)
    omega
  · split
    · have := ltN_len 8 n.toNat
      omega
    · rw [List.length_append]
      have := dgN_len (b := if sys = 5 then 36 else 10) 9 n.natAbs
      split
      · rw [List.length_singleton]; omega
      · rw [List.length_nil]; omega
theorem td_n {a b : Nat} : Int.tdiv (a : Int) (b : Int) = ((a / b : Nat) : Int) := rfl
theorem tm_n {a b : Nat} : Int.tmod (a : Int) (b : Int) = ((a % b : Nat) : Int) := rfl
/-! the class -/
section
variable {σ : MS} {Q : MQ9} {q : Nat}
theorem Row_putDigits_54.s (hr : isRow q = true) {b : Nat} (hb : b = 10 ∨ b = 36) {v : Nat} (hv : v ≤ 2147483648) : ∀ (j : Nat) (L : List Int), j ≤ 10 → L.length + j < capOf q → Q (.inl none) (wX σ q (L ++ lowD dgS b (j + 1) v)) → Row_putDigits_54 q (b : Int) (v : Int) ((b ^ j : Nat) : Int) (wX σ q L) Q := by
  have key : ∀ (j : Nat) (L : List Int), j ≤ 10 → L.length < capOf q → Row_putDigits_54 q (b : Int) (v : Int) ((b ^ j / b : Nat) : Int) (wX σ q (L ++ [dgS (v / b ^ j % b)])) Q → Row_putDigits_54 q (b : Int) (v : Int) ((b ^ j : Nat) : Int) (wX σ q L) Q := by
    intro j L hj hL h
    have hp : 1 ≤ b ^ j := Nat.one_le_pow _ _ (by omega)
    have hp2 : b ^ j ≤ 36 ^ 10 := Nat.le_trans (Nat.pow_le_pow_left (by omega) j) (Nat.pow_le_pow_right (by decide) hj)
    have hp3 : (36 : Nat) ^ 10 = 3656158440062976 := by decide
    have hd : v / b ^ j ≤ v := Nat.div_le_self _ _
    have hd0 : (0 : Int) ≤ ((v / b ^ j : Nat) : Int) := Int.natCast_nonneg _
    have hm : v / b ^ j % b < b := Nat.mod_lt _ (by omega)
    have last : Row_putDigits_95 q (b : Int) (v : Int) ((b ^ j : Nat) : Int) q (dgS (v / b ^ j % b)) (wX σ q L) Q := by
      have e1 : mX (wX σ q L) q = L := wX_self
      refine Row_putDigits_95.i (tB.i hr (tB.i hr ⟨?_, by rw [e1]; exact hL, by unfold Rg; omega, by unfold Rl; omega, by unfold Rl; omega, by omega, ?_⟩))
      · unfold dgS Rg
        split <;> omega
      · rw [e1, wX_wX, td_n]
        exact h
    refine Row_putDigits_54.i ⟨by unfold Rl; omega, by decide, fun h9 => absurd (lcm_le.mp h9) (by omega), fun _ => ⟨by unfold Rl; omega, by unfold Rl; omega, by omega, by unfold Rg; omega, ?_⟩⟩
    rw [td_n, tm_n]
    refine ⟨by unfold Rl; omega, by unfold Rl; omega, by omega, by unfold Rg; omega, fun a => ?_, fun a => ?_⟩
    · have e : dgS (v / b ^ j % b) = 97 + ((v / b ^ j % b : Nat) : Int) - 10 := by unfold dgS; rw [if_neg (by omega)]
      rw [← e]; exact last
    · have e : dgS (v / b ^ j % b) = 48 + ((v / b ^ j % b : Nat) : Int) := by unfold dgS; rw [if_pos (by omega)]
      rw [← e]; exact last
  intro j
  induction j with
  | zero =>
    intro L hj hL h
    refine key 0 L (by omega) (by omega) ?_
    have e : b ^ 0 / b = 0 := by rw [Nat.pow_zero]; exact Nat.div_eq_of_lt (by omega)
    rw [e]
    refine Row_putDigits_54.i ⟨by decide, by decide, fun _ => h, fun h9 => absurd h9 (by decide)⟩
  | succ j ih =>
    intro L hj hL h
    refine key (j + 1) L hj (by omega) ?_
    have e : b ^ (j + 1) / b = b ^ j := by rw [Nat.pow_succ]; exact Nat.mul_div_cancel _ (by omega)
    rw [e]
    refine ih _ (by omega) (by rw [List.length_append, List.length_singleton]; omega) ?_
    rw [List.append_assoc]
    exact h
theorem Row_putDigits_24.s (hr : isRow q = true) {b : Nat} (hb : b = 10 ∨ b = 36) {v : Nat} (hv : v ≤ 999999999) {L : List Int} (hL : L.length + 10 < capOf q) (h : Q (.inl none) (wX σ q (L ++ dgN b 9 v))) : ∀ (m j : Nat), j + m = 9 → (j = 0 ∨ b ^ j ≤ v) → Row_putDigits_24 q (b : Int) (v : Int) ((b ^ j : Nat) : Int) (j : Int) (wX σ q L) Q := by
  have done : ∀ j, j ≤ 9 → (j = 0 ∨ b ^ j ≤ v) → v / b ^ j < b → Row_putDigits_54 q (b : Int) (v : Int) ((b ^ j : Nat) : Int) (wX σ q L) Q := by
    intro j hj h1 h2
    refine Row_putDigits_54.s hr hb (by omega) j L (by omega) (by omega) ?_
    have e := dgN_low (b := b) (by omega) (f := 9 - j) j v h1
    rw [show 9 - j + j = 9 by omega] at e
    have e2 : dgN b (9 - j) (v / b ^ j) = [dgS (v / b ^ j % b)] := by
      have hm : v / b ^ j % b = v / b ^ j := Nat.mod_eq_of_lt h2
      cases hc : 9 - j with
      | zero => rfl
      | succ f =>
        show (if v / b ^ j < b then [dgS (v / b ^ j)] else _) = _
        rw [if_pos h2, hm]
    rw [e, e2] at h
    exact h
  intro m
  induction m with
  | zero =>
    intro j hj h1
    have hj9 : j = 9 := by omega
    have hp : 10 ^ 9 ≤ b ^ 9 := Nat.pow_le_pow_left (by omega) 9
    exact absurd h1 (fun h1 => by
      rcases h1 with h1 | h1
      · omega
      · rw [hj9] at h1
        have : (10 : Nat) ^ 9 = 1000000000 := by decide
        omega)
  | succ m ih =>
    intro j hj h1
    have hp : 1 ≤ b ^ j := Nat.one_le_pow _ _ (by omega)
    have hp2 : b ^ j ≤ 36 ^ 10 := Nat.le_trans (Nat.pow_le_pow_left (by omega) j) (Nat.pow_le_pow_right (by decide) (by omega))
    have hp3 : (36 : Nat) ^ 10 = 3656158440062976 := by decide
    have hd : v / b ^ j ≤ v := Nat.div_le_self _ _
    have hd0 : (0 : Int) ≤ ((v / b ^ j : Nat) : Int) := Int.natCast_nonneg _
    refine Row_putDigits_24.i ⟨by unfold Rg; omega, fun h9 => absurd h9 (by omega), fun _ => ⟨by unfold Rl; omega, by unfold Rl; omega, by omega, by unfold Rg; omega, ?_⟩⟩
    rw [td_n]
    refine ⟨by unfold Rl; omega, by unfold Rl; omega, fun a => done j (by omega) h1 ?_, fun a => ⟨by unfold Rg; omega, ?_⟩⟩
    · have := lcm_lt.mp a
      omega
    · have a := lcm_ge.mp a
      have hb1 : b ≤ v / b ^ j := by omega
      have hm : b * b ^ j ≤ v := (Nat.le_div_iff_mul_le hp).mp hb1
      have e : b ^ (j + 1) = b ^ j * b := Nat.pow_succ ..
      have := ih (j + 1) (by omega) (Or.inr (by rw [e, Nat.mul_comm]; exact hm))
      rw [e] at this
      exact this
theorem Row_putDigits.s (hr : isRow q = true) {b : Nat} (hb : b = 10 ∨ b = 36) {n : Int} (hn : -999999999 ≤ n ∧ n ≤ 999999999) (hL : (mX σ q).length + 11 < capOf q) (h : Q (.inl none) (wX σ q (mX σ q ++ ((if n < 0 then [45] else []) ++ dgN b 9 n.natAbs)))) : Row_putDigits q n (b : Int) σ Q := by
  refine Row_putDigits.i ⟨by unfold Rg; omega, by unfold Rl; omega, by decide, fun a => Row_putDigits_18.i ?_, fun a => tB.i hr (tB.i hr ⟨by omega, Row_putDigits_18.i ?_⟩)⟩
  · have a := lcm_ge.mp a
    rw [if_neg (by omega), List.nil_append] at h
    have e : n = (n.natAbs : Int) := by omega
    have := Row_putDigits_24.s (σ := σ) (Q := Q) hr hb (v := n.natAbs) (by omega) (L := mX σ q) (by omega) h 9 0 (by omega) (Or.inl rfl)
    rw [wX_id, ← e] at this
    exact this
  · have a := lcm_lt.mp a
    rw [if_pos a] at h
    have e : -n = (n.natAbs : Int) := by omega
    rw [e]
    refine Row_putDigits_24.s (σ := σ) (Q := Q) hr hb (v := n.natAbs) (by omega) (L := mX σ q ++ [45]) (by rw [List.length_append, List.length_singleton]; omega) ?_ 9 0 (by omega) (Or.inl rfl)
    rw [List.append_assoc]
    exact h
theorem Row_putLettered_52.s (hr : isRow q = true) {v : Nat} (hv : v ≤ 999999) : ∀ (j : Nat) (L : List Int), j ≤ 5 → L.length + j < capOf q → Q (.inl none) (wX σ q (L ++ lowD leS 26 (j + 1) v)) → Row_putLettered_52 q (v : Int) ((26 ^ j : Nat) : Int) (wX σ q L) Q := by
  have key : ∀ (j : Nat) (L : List Int), j ≤ 5 → L.length < capOf q → Row_putLettered_52 q (v : Int) ((26 ^ j / 26 : Nat) : Int) (wX σ q (L ++ [leS (v / 26 ^ j % 26)])) Q → Row_putLettered_52 q (v : Int) ((26 ^ j : Nat) : Int) (wX σ q L) Q := by
    intro j L hj hL h
    have hp : 1 ≤ 26 ^ j := Nat.one_le_pow _ _ (by omega)
    have hp2 : 26 ^ j ≤ 26 ^ 5 := Nat.pow_le_pow_right (by decide) hj
    have hp3 : (26 : Nat) ^ 5 = 11881376 := by decide
    have hd : v / 26 ^ j ≤ v := Nat.div_le_self _ _
    have hd0 : (0 : Int) ≤ ((v / 26 ^ j : Nat) : Int) := Int.natCast_nonneg _
    have hm : v / 26 ^ j % 26 < 26 := Nat.mod_lt _ (by omega)
    have e1 : mX (wX σ q L) q = L := wX_self
    refine Row_putLettered_52.i ⟨by unfold Rl; omega, by decide, fun h9 => absurd (lcm_le.mp h9) (by omega), fun _ => ⟨by unfold Rl; omega, by unfold Rl; omega, by omega, ?_⟩⟩
    rw [td_n, show (26 : Int) = ((26 : Nat) : Int) from rfl, tm_n, td_n]
    refine ⟨by unfold Rl; omega, by decide, by decide, tB.i hr (tB.i hr ⟨by unfold Rg; omega, by rw [e1]; exact hL, by unfold Rl; omega, by decide, by decide, ?_⟩)⟩
    rw [e1, wX_wX]
    exact h
  intro j
  induction j with
  | zero =>
    intro L hj hL h
    refine key 0 L (by omega) (by omega) ?_
    exact Row_putLettered_52.i ⟨by decide, by decide, fun _ => h, fun h9 => absurd h9 (by decide)⟩
  | succ j ih =>
    intro L hj hL h
    refine key (j + 1) L hj (by omega) ?_
    have e : 26 ^ (j + 1) / 26 = 26 ^ j := by rw [Nat.pow_succ]; exact Nat.mul_div_cancel _ (by omega)
    rw [e]
    refine ih _ (by omega) (by rw [List.length_append, List.length_singleton]; omega) ?_
    rw [List.append_assoc]
    exact h
theorem Row_putLettered.s (hr : isRow q = true) {n : Nat} (hn : 1 ≤ n ∧ n ≤ 99999) (hL : (mX σ q).length + 9 < capOf q) (h : Q (.inl none) (wX σ q (mX σ q ++ ltN 8 n))) : Row_putLettered q (n : Int) σ Q := by
  have h45 : ∀ (j r : Nat), j ≤ 3 → r < 26 ^ (j + 1) → n = 1 + r + ltS j → Row_putLettered_45 q ((26 ^ (j + 1) : Nat) : Int) (r : Int) σ Q := by
    intro j r hj hr2 he
    have hp2 : 26 ^ (j + 1) ≤ 26 ^ 4 := Nat.pow_le_pow_right (by decide) (by omega)
    have hp3 : (26 : Nat) ^ 4 = 456976 := by decide
    refine Row_putLettered_45.i ⟨by unfold Rl; omega, by decide, by decide, ?_⟩
    rw [show (26 : Int) = ((26 : Nat) : Int) from rfl, td_n, show 26 ^ (j + 1) / 26 = 26 ^ j by rw [Nat.pow_succ]; exact Nat.mul_div_cancel _ (by omega)]
    rw [he, ltN_low j 8 r (by omega) hr2] at h
    have := Row_putLettered_52.s (σ := σ) (Q := Q) hr (v := r) (by omega) j (mX σ q) (by omega) (by omega) h
    rw [wX_id] at this
    exact this
  have h13 : ∀ (m j r : Nat), j + m = 3 → n = 1 + r + ltS j → Row_putLettered_13 q ((26 ^ (j + 1) : Nat) : Int) (r : Int) (j : Int) σ Q := by
    intro m
    induction m with
    | zero =>
      intro j r hj he
      have hj3 : j = 3 := by omega
      subst hj3
      have hs : ltS 3 = 18278 := by decide
      have hp3 : (26 : Nat) ^ (3 + 1) = 456976 := by decide
      have hr9 : r < 26 ^ (3 + 1) := by omega
      refine Row_putLettered_13.i ⟨by decide, fun h9 => absurd h9 (by decide), fun _ => ⟨by unfold Rl; omega, by unfold Rl; omega, fun _ => h45 3 r (by omega) hr9 he, fun a => absurd (lcm_ge.mp a) (by omega)⟩⟩
    | succ m ih =>
      intro j r hj he
      have hp : 1 ≤ 26 ^ (j + 1) := Nat.one_le_pow _ _ (by omega)
      have hp2 : 26 ^ (j + 1) ≤ 26 ^ 4 := Nat.pow_le_pow_right (by decide) (by omega)
      have hp3 : (26 : Nat) ^ 4 = 456976 := by decide
      refine Row_putLettered_13.i ⟨by unfold Rg; omega, fun h9 => absurd h9 (by omega), fun _ => ⟨by unfold Rl; omega, by unfold Rl; omega, fun a => h45 j r (by omega) (by have := lcm_lt.mp a; omega) he, fun a => ?_⟩⟩
      have a := lcm_ge.mp a
      have hle : 26 ^ (j + 1) ≤ r := by omega
      have es : ∀ j, ltS (j + 1) = ltS j + 26 ^ (j + 1) := by
        intro j
        induction j with
        | zero => rfl
        | succ j ih2 =>
          show 26 * (1 + ltS (j + 1)) = 26 * (1 + ltS j) + 26 ^ (j + 1 + 1)
          rw [ih2, Nat.pow_succ 26 (j + 1)]
          omega
      have := ih (j + 1) (r - 26 ^ (j + 1)) (by omega) (by rw [es]; omega)
      rw [show ((26 ^ (j + 1 + 1) : Nat) : Int) = ((26 ^ (j + 1) : Nat) : Int) * 26 by rw [Nat.pow_succ]; rfl, show ((r - 26 ^ (j + 1) : Nat) : Int) = (r : Int) - ((26 ^ (j + 1) : Nat) : Int) by omega] at this
      exact this
  refine Row_putLettered.i ⟨by unfold Rg; omega, ?_⟩
  have := h13 3 0 (n - 1) (by omega) (by show n = 1 + (n - 1) + 0; omega)
  rw [show ((n - 1 : Nat) : Int) = (n : Int) - 1 by omega] at this
  exact this
end
