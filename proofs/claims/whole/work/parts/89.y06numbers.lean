/-! NUMBERS TOLD IN SYSTEMS: Roman ones of the class; the reference -/
theorem rm_st : ∀ k : Nat, k < 13 → stI 3 (k : Int) = ((rmV.getD k 0 : Nat) : Int) ∧ 1 ≤ rmV.getD k 0 ∧ rmV.getD k 0 ≤ 1000 := by decide +kernel
theorem rm_str : ∀ k : Nat, k < 19 → strI 3 (k : Int) = rmC.getD k 0 ∧ 32 ≤ rmC.getD k 0 ∧ rmC.getD k 0 ≤ 126 := by decide +kernel
theorem rmS_len {k : Nat} : (rmS k).length ≤ 2 := by
  unfold rmS
  split <;> exact Nat.le_of_ble_eq_true rfl
theorem rmR_len {v : Nat} {s : List Int} (hs : s.length ≤ 2) : ∀ (t n : Nat), (rmR v s t n).length ≤ 2 * t
  | 0, _ => Nat.le_refl _
  | t + 1, n => by
    have := rmR_len (v := v) hs t (n - v)
    unfold rmR
    split
    · rw [List.length_append]; omega
    · exact Nat.zero_le _
section
variable {σ : MS} {Q : MQ9} {q : Nat}
theorem Row_putRoman_79.s (hr : isRow q = true) {dn left k at9 turn : Int} (hd : dn = 0 ∨ dn = 32) {a : Nat} : ∀ (m i : Nat) (L : List Int), i + m = a → a ≤ 19 → L.length + m ≤ capOf q → Row_putRoman_115 q dn left k at9 (a : Int) turn (wX σ q (L ++ ((rmC.take a).drop i).map (fun x => x - dn))) Q → Row_putRoman_79 q dn left k at9 (a : Int) turn (i : Int) (wX σ q L) Q
  | 0, i, L, hi, ha, hL, h => by
    have e : i = a := by omega
    subst e
    rw [List.drop_eq_nil_of_le (by rw [List.length_take]; omega), List.map_nil, List.append_nil] at h
    exact Row_putRoman_79.i ⟨by unfold Rg; omega, by unfold Rg; omega, fun _ => h, fun h9 => absurd h9 (by omega)⟩
  | m + 1, i, L, hi, ha, hL, h => by
    have e1 : mX (wX σ q L) q = L := wX_self
    obtain ⟨s1, s2, s3⟩ := rm_str i (by omega)
    have e2 : (rmC.take a).drop i = rmC.getD i 0 :: (rmC.take a).drop (i + 1) := by
      have hl : i < (rmC.take a).length := by rw [List.length_take, show rmC.length = 19 from rfl]; omega
      rw [List.drop_eq_getElem_cons hl, List.getElem_take, List.getD_eq_getElem?_getD, List.getElem?_eq_getElem (by rw [show rmC.length = 19 from rfl]; omega)]
      rfl
    refine Row_putRoman_79.i ⟨by unfold Rg; omega, by unfold Rg; omega, fun h9 => absurd h9 (by omega), fun _ => ⟨by unfold Rg; omega, fun h9 => absurd h9 (by omega), fun _ => ⟨by omega, by omega, tB.i hr (tB.i hr ?_)⟩⟩⟩
    rw [s1, e1, wX_wX]
    refine ⟨by unfold Rg; omega, by omega, ?_⟩
    refine Row_putRoman_79.s hr hd m (i + 1) _ (by omega) ha (by rw [List.length_append, List.length_singleton]; omega) ?_
    rw [List.append_assoc]
    rw [e2] at h
    exact h
theorem Row_putRoman_50.s (hr : isRow q = true) {dn : Int} (hd : dn = 0 ∨ dn = 32) {k : Nat} (hk : k < 13) {at9 : Nat} (hat : at9 = k / 2 * 3 + k % 2) {be : Nat} (hbe : be = if k % 2 = 0 then at9 + 1 else at9 + 2) : ∀ (t n : Nat) (L : List Int), t ≤ 3 → n < 4000 → L.length + (rmR (rmV.getD k 0) (rmS k) t n).length ≤ capOf q → Row_putRoman_121 q dn ((rmL (rmV.getD k 0) t n : Nat) : Int) (k : Int) (wX σ q (L ++ (rmR (rmV.getD k 0) (rmS k) t n).map (fun x => x - dn))) Q → Row_putRoman_50 q dn (n : Int) (k : Int) (at9 : Int) (be : Int) (3 - (t : Int)) (wX σ q L) Q
  | 0, n, L, ht, hn, hL, h => by
    have e : rmR (rmV.getD k 0) (rmS k) 0 n = [] := rfl
    rw [e, List.map_nil, List.append_nil] at h
    exact Row_putRoman_50.i ⟨by decide, fun _ => h, fun h9 => absurd h9 (by decide)⟩
  | t + 1, n, L, ht, hn, hL, h => by
    obtain ⟨v1, v2, v3⟩ := rm_st k hk
    refine Row_putRoman_50.i ⟨by unfold Rg; omega, fun h9 => absurd h9 (by omega), fun _ => ⟨by omega, by omega, ?_⟩⟩
    rw [v1]
    refine ⟨by unfold Rg; omega, fun a => ?_, fun a => ⟨by omega, by omega, ?_⟩⟩
    · have e1 : rmR (rmV.getD k 0) (rmS k) (t + 1) n = [] := by unfold rmR; rw [if_neg (by omega)]
      have e2 : rmL (rmV.getD k 0) (t + 1) n = n := by unfold rmL; rw [if_neg (by omega)]
      rw [e1, e2, List.map_nil, List.append_nil] at h
      exact h
    · have e1 : rmR (rmV.getD k 0) (rmS k) (t + 1) n = rmS k ++ rmR (rmV.getD k 0) (rmS k) t (n - rmV.getD k 0) := by
        show (if _ then _ else _) = _
        rw [if_pos (by omega)]
      have e2 : rmL (rmV.getD k 0) (t + 1) n = rmL (rmV.getD k 0) t (n - rmV.getD k 0) := by
        show (if _ then _ else _) = _
        rw [if_pos (by omega)]
      rw [e1, e2, List.map_append, ← List.append_assoc] at h
      rw [e1, List.length_append] at hL
      have hs : (rmC.take be).drop at9 = rmS k := by
        subst hat hbe
        have : ∀ k, k < 13 → (rmC.take (if k % 2 = 0 then k / 2 * 3 + k % 2 + 1 else k / 2 * 3 + k % 2 + 2)).drop (k / 2 * 3 + k % 2) = rmS k := by decide +kernel
        exact this k hk
      have hb : be ≤ 19 ∧ at9 + 1 ≤ be ∧ be ≤ at9 + 2 := by
        subst hat hbe
        split <;> omega
      have hsl : (rmS k).length = be - at9 := by rw [← hs, List.length_drop, List.length_take, show rmC.length = 19 from rfl]; omega
      rw [show ((n : Int) - ((rmV.getD k 0 : Nat) : Int)) = ((n - rmV.getD k 0 : Nat) : Int) by omega]
      refine Row_putRoman_79.s hr hd (be - at9) at9 L (by omega) hb.1 (by omega) ?_
      rw [hs]
      refine Row_putRoman_115.i ?_
      have hl := rmS_len (k := k)
      have := Row_putRoman_50.s hr hd hk hat hbe t (n - rmV.getD k 0) (L ++ (rmS k).map (fun x => x - dn)) (by omega) (by omega) (by rw [List.length_append, List.length_map]; omega) h
      rw [show (3 : Int) - ((t + 1 : Nat) : Int) + 1 = 3 - (t : Int) by omega]
      exact this
theorem rmL_le {v : Nat} : ∀ (t n : Nat), rmL v t n ≤ n
  | 0, n => Nat.le_refl _
  | t + 1, n => by
    have := rmL_le (v := v) t (n - v)
    unfold rmL
    split <;> omega
theorem Row_putRoman_5.s (hr : isRow q = true) {dn : Int} (hd : dn = 0 ∨ dn = 32) : ∀ (j k n : Nat) (L : List Int), k + j = 13 → n < 4000 → L.length + (rmG j k n).length ≤ capOf q → Q (.inl none) (wX σ q (L ++ (rmG j k n).map (fun x => x - dn))) → Row_putRoman_5 q dn (n : Int) (k : Int) (wX σ q L) Q
  | 0, k, n, L, hk, hn, hL, h => by
    rw [show rmG 0 k n = [] from rfl, List.map_nil, List.append_nil] at h
    exact Row_putRoman_5.i ⟨by unfold Rg; omega, fun _ => h, fun h9 => absurd h9 (by omega)⟩
  | j + 1, k, n, L, hk, hn, hL, h => by
    rw [show rmG (j + 1) k n = rmR (rmV.getD k 0) (rmS k) 3 n ++ rmG j (k + 1) (rmL (rmV.getD k 0) 3 n) from rfl, List.map_append, ← List.append_assoc] at h
    rw [show rmG (j + 1) k n = rmR (rmV.getD k 0) (rmS k) 3 n ++ rmG j (k + 1) (rmL (rmV.getD k 0) 3 n) from rfl, List.length_append] at hL
    have nx : Row_putRoman_121 q dn ((rmL (rmV.getD k 0) 3 n : Nat) : Int) (k : Int) (wX σ q (L ++ (rmR (rmV.getD k 0) (rmS k) 3 n).map (fun x => x - dn))) Q := by
      refine Row_putRoman_121.i ?_
      exact Row_putRoman_5.s hr hd j (k + 1) _ _ (by omega) (by have := rmL_le (v := rmV.getD k 0) 3 n; omega) (by rw [List.length_append, List.length_map]; omega) h
    have e1 : Int.tdiv (k : Int) 2 = ((k / 2 : Nat) : Int) := td_n (b := 2)
    have e2 : Int.tmod (k : Int) 2 = ((k % 2 : Nat) : Int) := tm_n (b := 2)
    refine Row_putRoman_5.i ⟨by unfold Rg; omega, fun h9 => absurd h9 (by omega), fun _ => ⟨by unfold Rg; omega, by decide, by unfold Rg; omega, by decide, by unfold Rg; omega, by decide, ?_⟩⟩
    rw [e1, e2]
    refine ⟨fun a => Row_putRoman_45.i ?_, fun a => Row_putRoman_45.i ?_⟩
    · exact Row_putRoman_50.s hr hd (k := k) (by omega) (at9 := k / 2 * 3 + k % 2) rfl (be := k / 2 * 3 + k % 2 + 2) (by rw [if_neg (by omega)]) 3 n L (by omega) hn (by omega) nx
    · exact Row_putRoman_50.s hr hd (k := k) (by omega) (at9 := k / 2 * 3 + k % 2) rfl (be := k / 2 * 3 + k % 2 + 1) (by rw [if_pos (by omega)]) 3 n L (by omega) hn (by omega) nx
/-- the class tells a number -/
theorem Row_putNumber.s (hr : isRow q = true) {n sys : Int} (hn : -999999999 ≤ n ∧ n ≤ 999999999) (hs : 1 ≤ sys ∧ sys ≤ 5) (h4 : sys = 4 → n ≤ 99999) (hL : (mX σ q).length + 22 < capOf q) (h : Q (.inl none) (wX σ q (mX σ q ++ wrN n sys))) : Row_putNumber q n sys σ Q := by
  have rom : ∀ dn : Int, (dn = 0 ∨ dn = 32) → (dn = 0 ↔ ¬ sys = 3) → (sys = 2 ∨ sys = 3) → 1 ≤ n ∧ n ≤ 3999 → Row_putRoman q n dn σ (kV (thQ Q) fun σ1 => Q (.inl none) σ1) := by
    intro dn hd hd3 hs2 hn2
    have e : wrN n sys = rmZ n.toNat (if sys = 3 then -32 else 0) := by unfold wrN; rw [if_pos ⟨hs2, hn2⟩]
    have e2 : rmZ n.toNat (if sys = 3 then -32 else 0) = (rmG 13 0 n.toNat).map (fun x => x - dn) := by
      obtain ⟨r1, r2⟩ := rm_eq (n := n.toNat) (by omega)
      rcases hd with rfl | rfl
      · rw [if_neg (hd3.mp rfl)]; exact r1.symm
      · rw [if_pos (Classical.byContradiction (fun hc => absurd (hd3.mpr hc) (by decide)))]; exact r2.symm
    have hlen : (rmG 13 0 n.toNat).length ≤ 20 := by
      have := wrN_len (n := n) (sys := sys)
      rw [e, e2, List.length_map] at this
      exact this
    rw [e, e2] at h
    have := Row_putRoman_5.s (σ := σ) (Q := kV (thQ Q) fun σ1 => Q (.inl none) σ1) hr hd 13 0 n.toNat (mX σ q) (by omega) (by omega) (by omega) h
    rw [wX_id, show ((n.toNat : Nat) : Int) = n by omega] at this
    exact Row_putRoman.i this
  have g1 : Rg sys := by unfold Rg; omega
  have g2 : Rg n := by unfold Rg; omega
  have dig : ¬ ((sys = 2 ∨ sys = 3) ∧ 1 ≤ n ∧ n ≤ 3999) → ¬ (sys = 4 ∧ 1 ≤ n) → Row_putNumber_71 q n sys σ Q := by
    intro a b
    have e : wrN n sys = (if n < 0 then [45] else []) ++ dgN (if sys = 5 then 36 else 10) 9 n.natAbs := by unfold wrN; rw [if_neg a, if_neg b]
    rw [e] at h
    refine Row_putNumber_71.i ⟨g1, fun c => Row_putNumber_85.i (tB.i hr ?_), fun c => Row_putNumber_85.i (tB.i hr ?_)⟩
    · rw [if_neg c] at h
      exact Row_putDigits.s (b := 10) hr (Or.inl rfl) hn (by omega) h
    · rw [if_pos c] at h
      exact Row_putDigits.s (b := 36) hr (Or.inr rfl) hn (by omega) h
  have s53 : ¬ ((sys = 2 ∨ sys = 3) ∧ 1 ≤ n ∧ n ≤ 3999) → Row_putNumber_53 q n sys σ Q := by
    intro a
    refine Row_putNumber_53.i ⟨g1, fun c => dig a (by omega), fun c => ⟨g2, fun d => dig a (by omega), fun d => tB.i hr ?_⟩⟩
    have e : wrN n sys = ltN 8 n.toNat := by unfold wrN; rw [if_neg a, if_pos ⟨c, d⟩]
    rw [e] at h
    have := Row_putLettered.s (σ := σ) (Q := kV (thQ Q) fun σ1 => Q (.inl none) σ1) hr (n := n.toNat) (by have := h4 c; omega) (by omega) h
    rw [show ((n.toNat : Nat) : Int) = n by omega] at this
    exact this
  have s26 : ¬ (sys = 2 ∧ 1 ≤ n ∧ n ≤ 3999) → Row_putNumber_26 q n sys σ Q := by
    intro a
    refine Row_putNumber_26.i ⟨g1, fun c => s53 (by omega), fun c => ⟨g2, fun d => s53 (by omega), fun d => ⟨g2, fun e => s53 (by omega), fun e => tB.i hr (rom 32 (Or.inr rfl) ⟨fun h9 => absurd h9 (by decide), fun h9 => absurd c h9⟩ (Or.inr c) ⟨d, e⟩)⟩⟩⟩
  exact Row_putNumber.i ⟨g1, fun c => s26 (by omega), fun c => ⟨g2, fun d => s26 (by omega), fun d => ⟨g2, fun e => s26 (by omega), fun e => tB.i hr (rom 0 (Or.inl rfl) ⟨fun _ => by omega, fun _ => rfl⟩ (Or.inl c) ⟨d, e⟩)⟩⟩⟩
end
/-! the reference -/
/-- the small row holds L -/
def SmR (σ σ' : MS) (L : List Int) : Prop := FrZ [337] [143] σ σ' ∧ mV σ' 246 143 = (L.length : Int) ∧ hol σ' 337 L
theorem R_small.s {σ σ1 : MS} {Q : MQ9} {L : List Int} {x : Int} (h : SmR σ σ1 L) (hl : L.length < 64) (hx : -128 ≤ x ∧ x ≤ 127) (hq : ∀ σ', SmR σ σ' (L ++ [x]) → Q (.inl none) σ') : R_small x σ1 Q := by
  obtain ⟨a, b, c⟩ := h
  refine R_small.i ⟨by omega, by omega, by unfold Rg; omega, ?_⟩
  rw [b8_id hx, b8_id hx, b, show ((L.length : Nat) : Int).toNat = L.length from rfl]
  refine hq _ ⟨a.tr ((FrZ.wz (by decide)).tr (FrZ.wf (by decide))), ?_, hol.V c.sn (by decide)⟩
  rw [wV_self, List.length_append, List.length_singleton]
  rfl
theorem list2 {L : List Int} (h : 2 ≤ L.length) : ∃ x m y, L = x :: (m ++ [y]) := by
  cases L with
  | nil => exact absurd h (by rw [List.length_nil]; omega)
  | cons x r =>
    have hr : r ≠ [] := fun e => by subst e; exact absurd h (by rw [List.length_singleton]; omega)
    exact ⟨x, r.dropLast, r.getLast hr, by rw [List.dropLast_concat_getLast hr]⟩
theorem holA.ne {σ : MS} {z z' a k : Nat} {x : Int} {L : List Int} (h : holA σ z a L) (hk : z ≠ z' ∨ k < a ∨ a + L.length ≤ k) : holA (wV σ z' k x) z a L := fun i hi => by
  rw [wV_ne (by omega)]
  exact h i hi
theorem R_turned_9.s {Q : MQ9} : ∀ (f a b : Nat) (L : List Int) (σ1 : MS), L.length ≤ f → a + L.length = b + 1 → b < 64 → holA σ1 337 a L → (∀ x ∈ L, -128 ≤ x ∧ x ≤ 127) → (∀ σ', FrZ [337] [] σ1 σ' → holA σ' 337 a L.reverse → (∀ i, (i < a ∨ b < i) → mV σ' 337 i = mV σ1 337 i) → Q (.inl none) σ') → R_turned_9 (a : Int) (b : Int) σ1 Q := by
  intro f
  induction f with
  | zero =>
    intro a b L σ1 hf hab hb hh hs hq
    have e : L = [] := List.eq_nil_of_length_eq_zero (by omega)
    subst e
    exact R_turned_9.i ⟨by unfold Rg; omega, by unfold Rg; omega, fun _ => hq σ1 FrZ.rf hh (fun _ _ => rfl), fun h9 => absurd h9 (by rw [List.length_nil] at hab; omega)⟩
  | succ f ih =>
    intro a b L σ1 hf hab hb hh hs hq
    by_cases h2 : 2 ≤ L.length
    · obtain ⟨x, m, y, rfl⟩ := list2 h2
      have hml : (x :: (m ++ [y])).length = m.length + 2 := by simp
      rw [hml] at hf hab
      have ex : mV σ1 337 a = x := by
        have := hh 0 (by omega)
        rw [Nat.add_zero] at this
        exact this
      have ey : mV σ1 337 b = y := by
        have := hh (m.length + 1) (by omega)
        rw [show a + (m.length + 1) = b by omega] at this
        rw [this]
        show (m ++ [y]).getD m.length 0 = y
        exact getD_s
      have sx := hs x List.mem_cons_self
      have sy := hs y (List.mem_cons_of_mem _ (List.mem_append_right _ (List.mem_singleton.mpr rfl)))
      refine R_turned_9.i ⟨by unfold Rg; omega, by unfold Rg; omega, fun h9 => absurd h9 (by omega), fun _ => ⟨by omega, by omega, by omega, by omega, by omega, by omega, by omega, by omega, ?_⟩⟩
      rw [show ((a : Nat) : Int).toNat = a from rfl, show ((b : Nat) : Int).toNat = b from rfl, ex, ey, b8_id sx, b8_id sy]
      rw [show ((b : Nat) : Int) + -1 = ((b - 1 : Nat) : Int) by omega]
      have hm : holA (wV (wV σ1 337 a y) 337 b x) 337 (a + 1) m := by
        intro i hi
        rw [wV_ne (by omega), wV_ne (by omega), show a + 1 + i = a + (i + 1) by omega, hh (i + 1) (by omega)]
        show (m ++ [y]).getD i 0 = m.getD i 0
        exact getD_l hi
      refine ih (a + 1) (b - 1) m (wV (wV σ1 337 a y) 337 b x) (by omega) (by omega) (by omega) hm (fun w hw => hs w (List.mem_cons_of_mem _ (List.mem_append_left _ hw))) (fun σ' z1 z2 z3 => hq σ' (((FrZ.wz (by decide)).tr (FrZ.wz (by decide))).tr z1) ?_ (fun i hi => ?_))
      · have er : (x :: (m ++ [y])).reverse = y :: (m.reverse ++ [x]) := by simp
        rw [er]
        intro i hi
        have hl9 : (y :: (m.reverse ++ [x])).length = m.length + 2 := by simp
        rw [hl9] at hi
        cases i with
        | zero =>
          rw [Nat.add_zero, z3 a (by omega), wV_ne (by omega), wV_self]
          rfl
        | succ i =>
          show mV σ' 337 (a + (i + 1)) = (m.reverse ++ [x]).getD i 0
          by_cases e : i = m.length
          · rw [z3 (a + (i + 1)) (by omega), show a + (i + 1) = b by omega, wV_self, e]
            have := getD_s (L := m.reverse) (x := x)
            rw [List.length_reverse] at this
            exact this.symm
          · have hi2 : i < m.reverse.length := by rw [List.length_reverse]; omega
            rw [getD_l hi2, show a + (i + 1) = a + 1 + i by omega]
            exact z2 i hi2
      · rw [z3 i (by omega), wV_ne (by omega), wV_ne (by omega)]
    · have hr : L.reverse = L := by
        cases L with
        | nil => rfl
        | cons x r =>
          have : r = [] := List.eq_nil_of_length_eq_zero (by rw [List.length_cons] at h2; omega)
          subst this
          rfl
      exact R_turned_9.i ⟨by unfold Rg; omega, by unfold Rg; omega, fun _ => hq σ1 FrZ.rf (by rw [hr]; exact hh) (fun _ _ => rfl), fun h9 => absurd h9 (by omega)⟩
theorem getD_r {L M : List Int} {n : Nat} : (L ++ M).getD (L.length + n) 0 = M.getD n 0 := by
  rw [List.getD_eq_getElem?_getD, List.getD_eq_getElem?_getD, List.getElem?_append_right (by omega), Nat.add_sub_cancel_left]
theorem R_turned.s {σ σ1 : MS} {Q : MQ9} {p L : List Int} (h : SmR σ σ1 (p ++ L)) (hl : (p ++ L).length ≤ 64) (h0 : 1 ≤ L.length) (hs : ∀ x ∈ L, -128 ≤ x ∧ x ≤ 127) (hq : ∀ σ', SmR σ σ' (p ++ L.reverse) → Q (.inl none) σ') : R_turned (p.length : Int) σ1 Q := by
  obtain ⟨a, b, c⟩ := h
  rw [List.length_append] at hl
  refine R_turned.i ?_
  rw [b, List.length_append, show ((p.length + L.length : Nat) : Int) - 1 = ((p.length + L.length - 1 : Nat) : Int) by omega]
  refine R_turned_9.s L.length p.length (p.length + L.length - 1) L σ1 (Nat.le_refl _) (by omega) (by omega) (fun i hi => ?_) hs (fun σ' z1 z2 z3 => hq σ' ⟨a.tr (z1.mo (fun _ h => h) (fun _ h => absurd h List.not_mem_nil)), ?_, fun i hi => ?_⟩)
  · rw [c _ (by rw [List.length_append]; omega), getD_r]
  · rw [z1.f (by decide) (by decide), b, List.length_append, List.length_append, List.length_reverse]
  · rw [List.length_append, List.length_reverse] at hi
    by_cases e : i < p.length
    · rw [getD_l e, z3 i (Or.inl e), c i (by rw [List.length_append]; omega), getD_l e]
    · have := z2 (i - p.length) (by rw [List.length_reverse]; omega)
      rw [show p.length + (i - p.length) = i by omega] at this
      rw [this]
      have e2 := getD_r (L := p) (M := L.reverse) (n := i - p.length)
      rw [show p.length + (i - p.length) = i by omega] at e2
      exact e2.symm
theorem R_roman_57.s {σ : MS} {Q : MQ9} {o sh : Int} (ho : -128 ≤ o + sh ∧ o + sh ≤ 127) : ∀ (m : Nat) (L : List Int) (σ1 : MS), m ≤ 9 → SmR σ σ1 L → L.length + m < 64 → (∀ σ', SmR σ σ' (L ++ List.replicate m (o + sh)) → Q (.inl none) σ') → R_roman_57 o sh (m : Int) σ1 Q
  | 0, L, σ1, _, h, hl, hq => by
    rw [List.replicate_zero, List.append_nil] at hq
    exact R_roman_57.i ⟨by decide, fun _ => hq σ1 h, fun h9 => absurd h9 (by decide)⟩
  | m + 1, L, σ1, hm, h, hl, hq => by
    refine R_roman_57.i ⟨by unfold Rg; omega, fun h9 => absurd h9 (by omega), fun _ => R_small.s h (by omega) ho (fun σ' h' => ?_)⟩
    show R_roman_57 o sh (((m + 1 : Nat) : Int) + -1) σ' Q
    rw [show ((m + 1 : Nat) : Int) + -1 = (m : Int) by omega]
    refine R_roman_57.s ho m _ σ' (by omega) h' (by rw [List.length_append, List.length_singleton]; omega) ?_
    rw [List.append_assoc]
    exact hq
theorem R_roman.s {σ σ1 : MS} {Q : MQ9} {d : Nat} {o f t sh : Int} (hd : d ≤ 9) (ho : 32 ≤ o ∧ o ≤ 126) (hf : 32 ≤ f ∧ f ≤ 126) (ht : 32 ≤ t ∧ t ≤ 126) (hsh : sh = 0 ∨ sh = -32) {L : List Int} (h : SmR σ σ1 L) (hl : L.length < 50) (hq : ∀ σ', SmR σ σ' (L ++ romD d o f t sh) → Q (.inl none) σ') : R_roman (d : Int) o f t sh σ1 Q := by
  have h11 : (d = 9 ∨ d = 4) → R_roman_11 (d : Int) o f t sh σ1 Q := by
    intro hd2
    refine R_roman_11.i (R_small.s h (by omega) (by omega) (fun σ' h' => ⟨by unfold Rg; omega, fun a => ?_, fun a => ?_⟩))
    · refine R_roman_32.i (R_small.s h' (by rw [List.length_append, List.length_singleton]; omega) (by omega) (fun σ2 h2 => hq σ2 ?_))
      unfold romD
      rw [if_neg (by omega), if_pos (by omega)]
      rw [List.append_assoc] at h2
      exact h2
    · refine R_roman_32.i (R_small.s h' (by rw [List.length_append, List.length_singleton]; omega) (by omega) (fun σ2 h2 => hq σ2 ?_))
      unfold romD
      rw [if_pos (by omega)]
      rw [List.append_assoc] at h2
      exact h2
  have e5 : Int.tmod (d : Int) 5 = ((d % 5 : Nat) : Int) := tm_n (b := 5)
  refine R_roman.i ⟨by unfold Rg; omega, fun a => h11 (by omega), fun a => ⟨by unfold Rg; omega, fun b => ⟨by unfold Rg; omega, fun c => ?_, fun c => ?_⟩, fun b => h11 (by omega)⟩⟩
  · refine R_roman_52.i ⟨by unfold Rg; omega, by decide, ?_⟩
    rw [e5]
    refine R_roman_57.s (by omega) (d % 5) L σ1 (by omega) h (by omega) (fun σ' h' => hq σ' ?_)
    unfold romD
    rw [if_neg (by omega), if_neg (by omega), if_neg (by omega)]
    exact h'
  · refine R_small.s h (by omega) (by omega) (fun σ' h' => R_roman_52.i ⟨by unfold Rg; omega, by decide, ?_⟩)
    rw [e5]
    refine R_roman_57.s (by omega) (d % 5) _ σ' (by omega) h' (by rw [List.length_append, List.length_singleton]; omega) (fun σ2 h2 => hq σ2 ?_)
    unfold romD
    rw [if_neg (by omega), if_neg (by omega), if_pos (by omega)]
    rw [List.append_assoc] at h2
    exact h2
theorem dgS_b {d : Nat} (h : d < 36) : -128 ≤ dgS d ∧ dgS d ≤ 127 := by
  unfold dgS
  split <;> omega
theorem dgN_b {b : Nat} (hb : b = 10 ∨ b = 36) : ∀ (f v : Nat), ∀ x ∈ dgN b f v, -128 ≤ x ∧ x ≤ 127
  | 0, v, x, hx => by
    rw [List.mem_singleton.mp hx]
    exact dgS_b (by have := Nat.mod_lt v (show 0 < b by omega); omega)
  | f + 1, v, x, hx => by
    unfold dgN at hx
    split at hx
    · rw [List.mem_singleton.mp hx]
      exact dgS_b (by omega)
    · rcases List.mem_append.mp hx with hx | hx
      · exact dgN_b hb f (v / b) x hx
      · rw [List.mem_singleton.mp hx]
        exact dgS_b (by have := Nat.mod_lt v (show 0 < b by omega); omega)
theorem R_writes_220.s {σ : MS} {Q : MQ9} {b : Nat} (hb : b = 10 ∨ b = 36) {p : List Int} (hp : p.length ≤ 5) : ∀ (f v : Nat) (L : List Int) (σ1 : MS), v < b ^ (f + 1) → v ≤ 999999999 → SmR σ σ1 (p ++ L) → L.length + f < 40 → (∀ x ∈ L, -128 ≤ x ∧ x ≤ 127) → (∀ σ', SmR σ σ' (p ++ (dgN b f v ++ L.reverse)) → Q (.inl none) σ') → R_writes_220 (b : Int) (v : Int) (p.length : Int) σ1 Q := by
  intro f
  induction f with
  | zero =>
    intro v L σ1 hv hv2 h hl hs hq
    rw [Nat.zero_add, Nat.pow_one] at hv
    have e0 : v / b = 0 := Nat.div_eq_of_lt hv
    have em : v % b = v := Nat.mod_eq_of_lt hv
    have last : R_writes_253 (b : Int) (v : Int) (p.length : Int) (dgS v) σ1 Q := by
      refine R_writes_253.i (R_small.s h (by rw [List.length_append]; omega) (dgS_b (by omega)) (fun σ' h' => ⟨by unfold Rl; omega, by unfold Rl; omega, by omega, ?_⟩))
      rw [td_n, e0]
      refine ⟨by decide, by decide, fun a => absurd a (by decide), fun _ => ?_⟩
      rw [List.append_assoc] at h'
      refine R_turned.s h' (by rw [List.length_append, List.length_append, List.length_singleton]; omega) (by rw [List.length_append, List.length_singleton]; omega) (fun x hx => ?_) (fun σ2 h2 => hq σ2 ?_)
      · rcases List.mem_append.mp hx with hx | hx
        · exact hs x hx
        · rw [List.mem_singleton.mp hx]; exact dgS_b (by omega)
      · rw [List.reverse_append] at h2
        show SmR σ σ2 (p ++ ([dgS (v % b)] ++ L.reverse))
        rw [em]
        exact h2
    refine R_writes_220.i ⟨by unfold Rl; omega, by unfold Rl; omega, by omega, ?_⟩
    rw [tm_n, em]
    refine ⟨by unfold Rg; omega, fun a => ?_, fun a => ?_⟩
    · have e : dgS v = 97 + (v : Int) - 10 := by unfold dgS; rw [if_neg (by omega)]
      rw [← e]; exact last
    · have e : dgS v = 48 + (v : Int) := by unfold dgS; rw [if_pos (by omega)]
      rw [← e]; exact last
  | succ f ih =>
    intro v L σ1 hv hv2 h hl hs hq
    have hm : v % b < b := Nat.mod_lt _ (by omega)
    have hdl : v / b ≤ v := Nat.div_le_self _ _
    have hd0 : (0 : Int) ≤ ((v / b : Nat) : Int) := Int.natCast_nonneg _
    have last : R_writes_253 (b : Int) (v : Int) (p.length : Int) (dgS (v % b)) σ1 Q := by
      refine R_writes_253.i (R_small.s h (by rw [List.length_append]; omega) (dgS_b (by omega)) (fun σ' h' => ⟨by unfold Rl; omega, by unfold Rl; omega, by omega, ?_⟩))
      rw [td_n]
      rw [List.append_assoc] at h'
      have hs2 : ∀ x ∈ L ++ [dgS (v % b)], -128 ≤ x ∧ x ≤ 127 := fun x hx => by
        rcases List.mem_append.mp hx with hx | hx
        · exact hs x hx
        · rw [List.mem_singleton.mp hx]; exact dgS_b (by omega)
      refine ⟨by unfold Rl; omega, by decide, fun a => ?_, fun a => ?_⟩
      · have a := lcm_gt.mp a
        have hge : ¬ v < b := fun hlt => by rw [Nat.div_eq_of_lt hlt] at a; exact absurd a (by decide)
        refine ih (v / b) (L ++ [dgS (v % b)]) σ' (Nat.div_lt_of_lt_mul (by rw [Nat.mul_comm, ← Nat.pow_succ]; exact hv)) (by omega) h' (by rw [List.length_append, List.length_singleton]; omega) hs2 (fun σ2 h2 => hq σ2 ?_)
        rw [List.reverse_append, ← List.append_assoc (dgN b f (v / b))] at h2
        have e : dgN b (f + 1) v = dgN b f (v / b) ++ [dgS (v % b)] := by
          show (if v < b then _ else _) = _
          rw [if_neg hge]
        rw [e]
        exact h2
      · have a := lcm_le.mp a
        have hlt : v < b := by
          rcases Nat.lt_or_ge v b with h9 | h9
          · exact h9
          · have := Nat.div_pos h9 (by omega)
            omega
        have em : v % b = v := Nat.mod_eq_of_lt hlt
        refine R_turned.s h' (by rw [List.length_append, List.length_append, List.length_singleton]; omega) (by rw [List.length_append, List.length_singleton]; omega) hs2 (fun σ2 h2 => hq σ2 ?_)
        rw [List.reverse_append] at h2
        have e : dgN b (f + 1) v = [dgS v] := by
          show (if v < b then _ else _) = _
          rw [if_pos hlt]
        rw [e]
        rw [em] at h2
        exact h2
    refine R_writes_220.i ⟨by unfold Rl; omega, by unfold Rl; omega, by omega, ?_⟩
    rw [tm_n]
    refine ⟨by unfold Rg; omega, fun a => ?_, fun a => ?_⟩
    · have e : dgS (v % b) = 97 + ((v % b : Nat) : Int) - 10 := by unfold dgS; rw [if_neg (by omega)]
      rw [← e]; exact last
    · have e : dgS (v % b) = 48 + ((v % b : Nat) : Int) := by unfold dgS; rw [if_pos (by omega)]
      rw [← e]; exact last
theorem ltN_b : ∀ (f v : Nat), ∀ x ∈ ltN f v, -128 ≤ x ∧ x ≤ 127
  | 0, v, x, hx => absurd hx List.not_mem_nil
  | f + 1, v, x, hx => by
    unfold ltN at hx
    split at hx
    · exact absurd hx List.not_mem_nil
    · rcases List.mem_append.mp hx with hx | hx
      · exact ltN_b f _ x hx
      · rw [List.mem_singleton.mp hx]
        unfold leS
        omega
theorem R_writes_132.s {σ : MS} {Q : MQ9} : ∀ (f v : Nat) (L : List Int) (σ1 : MS), v < 26 ^ f → v ≤ 999999 → SmR σ σ1 L → L.length + f < 40 → (1 ≤ v ∨ 1 ≤ L.length) → (∀ x ∈ L, -128 ≤ x ∧ x ≤ 127) → (∀ σ', SmR σ σ' (ltN f v ++ L.reverse) → Q (.inl none) σ') → R_writes_132 (v : Int) σ1 Q := by
  have done : ∀ (L : List Int) (σ1 : MS), SmR σ σ1 L → L.length < 40 → 1 ≤ L.length → (∀ x ∈ L, -128 ≤ x ∧ x ≤ 127) → (∀ σ', SmR σ σ' L.reverse → Q (.inl none) σ') → R_writes_132 ((0 : Nat) : Int) σ1 Q := by
    intro L σ1 h hl h1 hs hq
    refine R_writes_132.i ⟨by decide, by decide, fun _ => ?_, fun a => absurd a (by decide)⟩
    exact R_turned.s (p := []) h (by rw [List.nil_append]; omega) h1 hs hq
  intro f
  induction f with
  | zero =>
    intro v L σ1 hv hv2 h hl h1 hs hq
    have e : v = 0 := by rw [Nat.pow_zero] at hv; omega
    subst e
    exact done L σ1 h (by omega) (by omega) hs hq
  | succ f ih =>
    intro v L σ1 hv hv2 h hl h1 hs hq
    by_cases h0 : v = 0
    · subst h0
      exact done L σ1 h (by omega) (by omega) hs hq
    · have hm : (v - 1) % 26 < 26 := Nat.mod_lt _ (by omega)
      have e1 : (v : Int) - 1 = ((v - 1 : Nat) : Int) := by omega
      have g2 : ∀ x ∈ L ++ [leS ((v - 1) % 26)], -128 ≤ x ∧ x ≤ 127 := fun x hx => by
        rcases List.mem_append.mp hx with hx | hx
        · exact hs x hx
        · rw [List.mem_singleton.mp hx]; unfold leS; omega
      refine R_writes_132.i ⟨by unfold Rl; omega, by decide, fun a => absurd (lcm_le.mp a) (by omega), fun _ => ⟨by unfold Rl; omega, by decide, by decide, ?_⟩⟩
      rw [e1, show Int.tmod ((v - 1 : Nat) : Int) 26 + 97 = leS ((v - 1) % 26) by rw [show (26 : Int) = ((26 : Nat) : Int) from rfl, tm_n]; unfold leS; omega]
      refine R_small.s h (by omega) (by unfold leS; omega) (fun σ' h' => ⟨by unfold Rl; omega, by decide, by decide, ?_⟩)
      rw [show Int.tdiv ((v - 1 : Nat) : Int) 26 = (((v - 1) / 26 : Nat) : Int) from td_n (b := 26)]
      refine ih ((v - 1) / 26) (L ++ [leS ((v - 1) % 26)]) σ' (Nat.div_lt_of_lt_mul (by rw [Nat.mul_comm, ← Nat.pow_succ]; omega)) (by omega) h' (by rw [List.length_append, List.length_singleton]; omega) (Or.inr (by rw [List.length_append, List.length_singleton]; omega)) g2 (fun σ2 h2 => hq σ2 ?_)
      rw [List.reverse_append, ← List.append_assoc] at h2
      have e : ltN (f + 1) v = ltN f ((v - 1) / 26) ++ [leS ((v - 1) % 26)] := by
        show (if v = 0 then _ else _) = _
        rw [if_neg h0]
      rw [e]
      exact h2
/-- the reference tells a number -/
theorem R_writes.s {σ : MS} {Q : MQ9} {n sys : Int} (hn : -999999999 ≤ n ∧ n ≤ 999999999) (hs : 1 ≤ sys ∧ sys ≤ 5) (h4 : sys = 4 → n ≤ 99999) (hq : ∀ σ', SmR σ σ' (wrN n sys) → Q (.inl none) σ') : R_writes n sys σ Q := by
  have g1 : Rg sys := by unfold Rg; omega
  have g2 : Rl n := by unfold Rl; omega
  have s0 : SmR σ (wV σ 246 143 0) [] := ⟨FrZ.wf (by decide), wV_self, fun i hi => absurd hi (Nat.not_lt_zero i)⟩
  have dig : ¬ ((sys = 2 ∨ sys = 3) ∧ 1 ≤ n ∧ n ≤ 3999) → ¬ (sys = 4 ∧ 1 ≤ n) → R_writes_174 n sys (wV σ 246 143 0) Q := by
    intro a b
    have e : wrN n sys = (if n < 0 then [45] else []) ++ dgN (if sys = 5 then 36 else 10) 9 n.natAbs := by unfold wrN; rw [if_neg a, if_neg b]
    rw [e] at hq
    have go : ∀ b : Nat, (b = 10 ∨ b = 36) → (∀ σ', SmR σ σ' ((if n < 0 then [45] else []) ++ dgN b 9 n.natAbs) → Q (.inl none) σ') → R_writes_186 n (b : Int) (wV σ 246 143 0) Q := by
      intro b hb hq
      have h220 : ∀ (p : List Int) (σ1 : MS), p.length ≤ 5 → SmR σ σ1 p → (∀ σ', SmR σ σ' (p ++ dgN b 9 n.natAbs) → Q (.inl none) σ') → R_writes_214 (b : Int) (n.natAbs : Int) σ1 Q := by
        intro p σ1 hp h1 hq1
        refine R_writes_214.i ?_
        rw [h1.2.1]
        refine R_writes_220.s hb hp 9 n.natAbs [] σ1 ?_ (by omega) (by rw [List.append_nil]; exact h1) (by rw [List.length_nil]; omega) (fun x hx => absurd hx List.not_mem_nil) (fun σ' h' => hq1 σ' ?_)
        · have : (10 : Nat) ^ 10 ≤ b ^ 10 := Nat.pow_le_pow_left (by omega) 10
          have e10 : (10 : Nat) ^ 10 = 10000000000 := by decide
          show n.natAbs < b ^ 10
          omega
        · rw [List.reverse_nil, List.append_nil] at h'
          exact h'
      refine R_writes_186.i ⟨g2, by decide, fun c => ?_, fun c => ?_⟩
      · have c1 := lcm_ge.mp c
        rw [if_neg (by omega), List.nil_append] at hq
        refine R_writes_200.i ⟨g2, by decide, fun _ => ?_, fun c2 => absurd (lcm_lt.mp c2) (by omega)⟩
        have := h220 [] _ (Nat.zero_le _) s0 hq
        rw [show ((n.natAbs : Nat) : Int) = n by omega] at this
        exact this
      · have c1 := lcm_lt.mp c
        rw [if_pos c1] at hq
        refine R_writes_200.i ⟨g2, by decide, fun c2 => absurd (lcm_ge.mp c2) (by omega), fun _ => R_small.s s0 (by rw [List.length_nil]; omega) (by decide) (fun σ1 h1 => ?_)⟩
        have := h220 [45] σ1 (by rw [List.length_singleton]; omega) h1 hq
        rw [show ((n.natAbs : Nat) : Int) = -n by omega] at this
        exact this
    refine R_writes_174.i ⟨g1, fun c => ?_, fun c => ?_⟩
    · rw [if_neg c] at hq
      exact go 10 (Or.inl rfl) hq
    · rw [if_pos c] at hq
      exact go 36 (Or.inr rfl) hq
  have s118 : ¬ ((sys = 2 ∨ sys = 3) ∧ 1 ≤ n ∧ n ≤ 3999) → R_writes_118 n sys (wV σ 246 143 0) Q := by
    intro a
    refine R_writes_118.i ⟨g1, fun c => dig a (by omega), fun c => ⟨g2, by decide, fun d => dig a (by have := lcm_lt.mp d; omega), fun d => ?_⟩⟩
    have d := lcm_ge.mp d
    have e : wrN n sys = ltN 8 n.toNat := by unfold wrN; rw [if_neg a, if_pos ⟨c, d⟩]
    rw [e] at hq
    have h99 := h4 c
    have := R_writes_132.s (σ := σ) (Q := Q) 8 n.toNat [] (wV σ 246 143 0) (by rw [show (26 : Nat) ^ 8 = 208827064576 by decide]; omega) (by omega) s0 (by rw [List.length_nil]; omega) (Or.inl (by omega)) (fun x hx => absurd hx List.not_mem_nil) (fun σ' h' => hq σ' (by rw [List.reverse_nil, List.append_nil] at h'; exact h'))
    rw [show ((n.toNat : Nat) : Int) = n by omega] at this
    exact this
  have s15 : (sys = 2 ∨ sys = 3) → R_writes_15 n sys (wV σ 246 143 0) Q := by
    intro a
    refine R_writes_15.i ⟨g2, by decide, fun b => s118 (by have := lcm_lt.mp b; omega), fun b => ⟨g2, by decide, fun c => s118 (by have := lcm_gt.mp c; omega), fun c => ?_⟩⟩
    have b := lcm_ge.mp b
    have c := lcm_le.mp c
    have e : wrN n sys = rmZ n.toNat (if sys = 3 then -32 else 0) := by unfold wrN; rw [if_pos ⟨a, b, c⟩]
    rw [e] at hq
    have go : ∀ sh : Int, (sh = 0 ∨ sh = -32) → (∀ σ', SmR σ σ' (rmZ n.toNat sh) → Q (.inl none) σ') → R_writes_40 n sh (wV σ 246 143 0) Q := by
      intro sh hsh hq
      have en : n = ((n.toNat : Nat) : Int) := by omega
      generalize n.toNat = m at *
      subst en
      have t1 : Int.tdiv (m : Int) 1000 = ((m / 1000 : Nat) : Int) := td_n (b := 1000)
      have t2 : Int.tmod (Int.tdiv (m : Int) 100) 10 = ((m / 100 % 10 : Nat) : Int) := by rw [show Int.tdiv (m : Int) 100 = ((m / 100 : Nat) : Int) from td_n (b := 100)]; exact tm_n (b := 10)
      have t3 : Int.tmod (Int.tdiv (m : Int) 10) 10 = ((m / 10 % 10 : Nat) : Int) := by rw [show Int.tdiv (m : Int) 10 = ((m / 10 : Nat) : Int) from td_n (b := 10)]; exact tm_n (b := 10)
      have t4 : Int.tmod (m : Int) 10 = ((m % 10 : Nat) : Int) := tm_n (b := 10)
      have l1 := romD_len (d := m / 1000) (o := 109) (f := 109) (t := 109) (sh := sh)
      have l2 := romD_len (d := m / 100 % 10) (o := 99) (f := 100) (t := 109) (sh := sh)
      have l3 := romD_len (d := m / 10 % 10) (o := 120) (f := 108) (t := 99) (sh := sh)
      refine R_writes_40.i ⟨by unfold Rg; omega, by decide, ?_⟩
      rw [t1]
      refine R_roman.s (by omega) (by decide) (by decide) (by decide) hsh s0 (by rw [List.length_nil]; omega) (fun σ1 h1 => ⟨by unfold Rg; omega, by decide, by decide, ?_⟩)
      rw [t2]
      rw [List.nil_append] at h1
      refine R_roman.s (by omega) (by decide) (by decide) (by decide) hsh h1 (by omega) (fun σ2 h2 => ⟨by unfold Rg; omega, by decide, by decide, ?_⟩)
      rw [t3]
      refine R_roman.s (by omega) (by decide) (by decide) (by decide) hsh h2 (by rw [List.length_append]; omega) (fun σ3 h3 => ⟨by unfold Rg; omega, by decide, ?_⟩)
      rw [t4]
      refine R_roman.s (by omega) (by decide) (by decide) (by decide) hsh h3 (by rw [List.length_append, List.length_append]; omega) (fun σ4 h4 => hq σ4 h4)
    refine ⟨g1, fun d => ?_, fun d => ?_⟩
    · rw [if_neg d] at hq
      exact go 0 (Or.inl rfl) hq
    · rw [if_pos d] at hq
      exact go (-32) (Or.inr rfl) hq
  exact R_writes.i ⟨g1, fun c => s15 (Or.inl c), fun c => ⟨g1, fun d => s118 (by omega), fun d => s15 (Or.inr d)⟩⟩
