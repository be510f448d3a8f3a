/-! DIRECTIVES: settings -/
/-- the end of the word at p -/
def wbD (T : List Int) (p : Nat) : Nat := p + ((T.drop p).takeWhile (fun c => decide (¬ c = 32))).length
def leD : List Int := [12, 0, 0, 0, 1, 1, 0, 0, 0, 5, 0, 1, 1]
def moD : List Int := [80, 8, 3, 1, 9, 9, 1, 3, 3, 60, 1, 999, 5]
def chW (T : List Int) (p : Nat) : Int := ixW (wdT 2) 0 (sgT T p (wbD T p))
def chV (T : List Int) (p : Nat) : Int := nuV (T.drop (wbD T p + 1)) 0
def chG (T : List Int) (p : Nat) : Bool := decide (0 ≤ chW T p ∧ wbD T p + 2 ≤ T.length ∧ T.length ≤ wbD T p + 4)
def chD (T : List Int) (p : Nat) : Bool := chG T p && (T.drop (wbD T p + 1)).all sDi && decide (leD.getD (chW T p).toNat 0 ≤ chV T p ∧ chV T p ≤ moD.getD (chW T p).toNat 0)
theorem wbD_b {T : List Int} {p : Nat} (h : p ≤ T.length) : p ≤ wbD T p ∧ wbD T p ≤ T.length := by
  unfold wbD
  have := (List.takeWhile_prefix (fun c => decide (¬ c = 32)) (l := T.drop p)).length_le
  rw [List.length_drop] at this
  omega
theorem chW_b {T : List Int} {p : Nat} : chW T p = -1 ∨ (0 ≤ chW T p ∧ chW T p < 13) := by
  have h : (wdT 2).length = 13 := by decide +kernel
  have := ixW_b (wdT 2) 0 (sgT T p (wbD T p))
  unfold chW
  rw [h] at this
  omega
theorem st_lm : ∀ j : Nat, j < 13 → stI 1 (j : Int) = leD.getD j 0 ∧ stI 2 (j : Int) = moD.getD j 0 := by decide +kernel
theorem wb_c {T : List Int} {p : Nat} (h : p < T.length) : wbD T p = if T.getD p 0 = 32 then p else wbD T (p + 1) := by
  unfold wbD
  rw [drop_c h]
  by_cases e : T.getD p 0 = 32
  · rw [if_pos e, List.takeWhile_cons_of_neg (by rw [decide_eq_false (fun h9 => h9 e)]; decide)]
    rfl
  · rw [if_neg e, List.takeWhile_cons_of_pos (by exact decide_eq_true e), List.length_cons]
    omega
theorem wb_e {T : List Int} {p : Nat} (h : T.length ≤ p) : wbD T p = p := by
  unfold wbD
  rw [List.drop_eq_nil_of_le h]
  rfl
/-- a line in a row of the class; in the source -/
def LnC (σ : MS) (q x0 : Nat) (T : List Int) : Prop := isRow q = true ∧ x0 + T.length ≤ 70000 ∧ ∀ t : Nat, t < T.length → rgt (mX σ q) ((x0 : Int) + t) = T.getD t 0
def LnR (σ : MS) (x0 : Nat) (T : List Int) : Prop := x0 + T.length ≤ 8100 ∧ holA σ 252 x0 T
theorem holA.sg {σ : MS} {x0 a b : Nat} {T : List Int} (h : holA σ 252 x0 T) (hab : a ≤ b) (hb : b ≤ T.length) : holA σ 252 (x0 + a) (sgT T a b) := fun i hi => by
  rw [sg_len hab hb] at hi
  rw [sg_at hb hi, Nat.add_assoc]
  exact h (a + i) (by omega)
section
variable {σ σ' : MS} {Q : MQ9} {q x0 : Nat} {T : List Int} {s : TS}
theorem chg_3 {l2 : Int} (hT : LnC σ q x0 T) : ∀ (m p : Nat), p + m = T.length → Rules_change_26 q l2 ((x0 + T.length : Nat) : Int) ((x0 + wbD T p : Nat) : Int) σ Q → Rules_change_3 q l2 ((x0 + T.length : Nat) : Int) ((x0 + p : Nat) : Int) σ Q := by
  have l0 := hT.2.1
  intro m
  induction m with
  | zero =>
    intro p hp hq
    rw [wb_e (by omega)] at hq
    exact Rules_change_3.i ⟨by unfold Rg; omega, by unfold Rg; omega, fun _ => hq, fun h9 => absurd h9 (by omega)⟩
  | succ m ih =>
    intro p hp hq
    have hx : rgt (mX σ q) ((x0 + p : Nat) : Int) = T.getD p 0 := by
      rw [show ((x0 + p : Nat) : Int) = (x0 : Int) + (p : Int) by omega]
      exact hT.2.2 p (by omega)
    rw [wb_c (by omega)] at hq
    refine Rules_change_3.i ⟨by unfold Rg; omega, by unfold Rg; omega, fun h9 => absurd h9 (by omega), fun _ => tB.i hT.1 (tB.i hT.1 ⟨by unfold Rg; omega, ?_⟩)⟩
    rw [hx]
    refine ⟨fun h9 => ?_, fun h9 => ?_⟩
    · rw [if_pos h9] at hq
      exact hq
    · rw [if_neg h9] at hq
      rw [show ((x0 + p : Nat) : Int) + 1 = ((x0 + (p + 1) : Nat) : Int) by omega]
      exact ih (p + 1) (by omega) hq
theorem chg_85 {w : Int} (hT : LnC σ q x0 T) (hTb : smB T) : ∀ (m p : Nat) (v : Int), p + m = T.length → ((T.drop p).all sDi = true → Rules_change_130 w 1 (nuV (T.drop p) v) σ Q) → ((T.drop p).all sDi = false → ∀ v', Rules_change_130 w 0 v' σ Q) → Rules_change_85 q ((x0 + T.length : Nat) : Int) w 1 v ((x0 + p : Nat) : Int) σ Q := by
  have l0 := hT.2.1
  intro m
  induction m with
  | zero =>
    intro p v hp h1 h0
    have e : T.drop p = [] := List.drop_eq_nil_of_le (by omega)
    rw [e] at h1
    exact Rules_change_85.i ⟨by unfold Rg; omega, by unfold Rg; omega, fun _ => h1 rfl, fun h9 => absurd h9 (by omega)⟩
  | succ m ih =>
    intro p v hp h1 h0
    have hlt : p < T.length := by omega
    have hx : rgt (mX σ q) ((x0 + p : Nat) : Int) = T.getD p 0 := by
      rw [show ((x0 + p : Nat) : Int) = (x0 : Int) + (p : Int) by omega]
      exact hT.2.2 p hlt
    have hcb := hTb.gd hlt
    rw [drop_c hlt] at h1 h0
    refine Rules_change_85.i ⟨by unfold Rg; omega, by unfold Rg; omega, fun h9 => absurd h9 (by omega), fun _ => ⟨fun h9 => absurd h9 (by decide), fun _ => tB.i hT.1 (tB.i hT.1 ⟨by unfold Rg; omega, ?_⟩)⟩⟩
    rw [hx]
    refine T_isDigit.s (by unfold Rg; omega) (tB.i hT.1 (tB.i hT.1 ⟨by unfold Rg; omega, ?_⟩))
    show Rules_change_85 q ((x0 + T.length : Nat) : Int) w (bZ (sDi (T.getD p 0))) (v * 10 + rgt (mX σ q) ((x0 + p : Nat) : Int) - 48) (((x0 + p : Nat) : Int) + 1) σ Q
    rw [hx, show ((x0 + p : Nat) : Int) + 1 = ((x0 + (p + 1) : Nat) : Int) by omega]
    cases hd : sDi (T.getD p 0) with
    | true =>
      refine ih (p + 1) _ (by omega) (fun h9 => ?_) (fun h9 => ?_)
      · have := h1 (by rw [List.all_cons, hd, h9]; rfl)
        rw [show nuV (T.getD p 0 :: T.drop (p + 1)) v = nuV (T.drop (p + 1)) (v * 10 + T.getD p 0 % 128 - 48) from rfl, show T.getD p 0 % 128 = T.getD p 0 by omega] at this
        exact this
      · exact h0 (by rw [List.all_cons, hd, h9]; rfl)
    | false =>
      have z := h0 (by rw [List.all_cons, hd]; rfl)
      exact Rules_change_85.i ⟨by unfold Rg; omega, by unfold Rg; omega, fun _ => z _, fun _ => ⟨fun _ => z _, fun h9 => absurd rfl h9⟩⟩
theorem nuV_3 : ∀ {L : List Int} {v : Int}, smB L → -10000 ≤ v ∧ v ≤ 100000 → L.length ≤ 3 → -20000000 ≤ nuV L v ∧ nuV L v ≤ 200000000
  | [], v, _, hv, _ => by
    show -20000000 ≤ v ∧ v ≤ 200000000
    omega
  | [x], v, h, hv, _ => by
    show -20000000 ≤ v * 10 + x % 128 - 48 ∧ v * 10 + x % 128 - 48 ≤ 200000000
    omega
  | [x, y], v, h, hv, _ => by
    show -20000000 ≤ (v * 10 + x % 128 - 48) * 10 + y % 128 - 48 ∧ (v * 10 + x % 128 - 48) * 10 + y % 128 - 48 ≤ 200000000
    omega
  | [x, y, z], v, h, hv, _ => by
    show -20000000 ≤ ((v * 10 + x % 128 - 48) * 10 + y % 128 - 48) * 10 + z % 128 - 48 ∧ ((v * 10 + x % 128 - 48) * 10 + y % 128 - 48) * 10 + z % 128 - 48 ≤ 200000000
    omega
  | _ :: _ :: _ :: _ :: _, v, _, _, hl => by
    simp only [List.length_cons] at hl
    omega
theorem Rules_change.c {p : Nat} (hT : LnC σ q x0 T) (hTb : smB T) (hp : p ≤ T.length) (w0 : mV σ 22 0 = s.1.1) (w1 : mV σ 22 1 = s.1.2.1) (h1 : chD T p = true → Q (.inl none) (wV σ 24 (chW T p).toNat (chV T p))) (h0 : chD T p = false → ∀ σ', TxF σ' (1, s.1.1, s.1.2.1) → K2 σ σ' → Q (.inr (exN 0)) σ') : Rules_change q ((x0 + p : Nat) : Int) ((x0 + T.length : Nat) : Int) σ Q := by
  have l0 := hT.2.1
  obtain ⟨b1, b2⟩ := wbD_b hp
  have no : chD T p = false → Rules_change_157 σ Q := fun h9 => Rules_change_157.i (Purse_fail.s (s := s) (by decide) w0 w1 (h0 h9))
  refine Rules_change.i (chg_3 hT (T.length - p) p (by omega) ?_)
  have wb := chW_b (T := T) (p := p)
  have n73 : chG T p = false → ∀ w, Rules_change_73 q ((x0 + T.length : Nat) : Int) ((x0 + wbD T p : Nat) : Int) w σ Q := fun h9 w => by
    have z : Rules_change_130 w 0 0 σ Q := Rules_change_130.i ⟨fun _ => no (by unfold chD; rw [h9]; rfl), fun h8 => absurd rfl h8⟩
    exact Rules_change_73.i (Rules_change_74.i (Rules_change_85.i ⟨by unfold Rg; omega, by unfold Rg; omega, fun _ => z, fun _ => ⟨fun _ => z, fun h8 => absurd rfl h8⟩⟩))
  have lU := sg_len b1 b2
  refine Rules_change_26.i (Rules_nameIndex.s (j := 2) (by decide) (by decide) hT.1 (U := sgT T p (wbD T p)) (by omega) (by omega) (by omega) (fun t ht => ?_) ?_)
  · rw [lU] at ht
    rw [sg_at b2 ht, show ((x0 + p : Nat) : Int) + (t : Int) = (x0 : Int) + ((p + t : Nat) : Int) by omega]
    exact hT.2.2 (p + t) (by omega)
  show (chW T p < 0 → _) ∧ (0 ≤ chW T p → _)
  refine ⟨fun h9 => n73 (by unfold chG; exact decide_eq_false (by omega)) _, fun h9 => ⟨fun h8 => absurd (show (13 : Int) ≤ chW T p from h8) (by omega), fun _ => ⟨by unfold Rg; omega, fun h8 => n73 (by unfold chG; exact decide_eq_false (by omega)) _, fun h8 => ⟨by unfold Rg; omega, fun h7 => n73 (by unfold chG; exact decide_eq_false (by omega)) _, fun h7 => Rules_change_74.i ?_⟩⟩⟩⟩
  have hg : chG T p = true := by unfold chG; exact decide_eq_true (by omega)
  rw [show ((x0 + wbD T p : Nat) : Int) + 1 = ((x0 + (wbD T p + 1) : Nat) : Int) by omega]
  obtain ⟨j, hj⟩ : ∃ j : Nat, chW T p = (j : Int) := ⟨(chW T p).toNat, by omega⟩
  have hj13 : j < 13 := by omega
  obtain ⟨s1, s2⟩ := st_lm j hj13
  refine chg_85 hT hTb (T.length - (wbD T p + 1)) (wbD T p + 1) 0 (by omega) (fun ha => ?_) (fun ha v' => ?_)
  · have vb := nuV_3 (L := T.drop (wbD T p + 1)) (v := 0) (fun x hx => hTb x (List.mem_of_mem_drop hx)) (by decide) (by rw [List.length_drop]; omega)
    have h1' : leD.getD j 0 ≤ chV T p ∧ chV T p ≤ moD.getD j 0 → Q (.inl none) (wV σ 24 j (chV T p)) := fun h6 => by
      have := h1 (by unfold chD; rw [hg, ha, hj, Int.toNat_natCast, decide_eq_true h6]; rfl)
      rw [hj, Int.toNat_natCast] at this
      exact this
    have no' : ¬ (leD.getD j 0 ≤ chV T p ∧ chV T p ≤ moD.getD j 0) → Rules_change_157 σ Q := fun h6 => no (by unfold chD; rw [hg, ha, hj, Int.toNat_natCast, decide_eq_false h6]; rfl)
    show Rules_change_130 (chW T p) 1 (chV T p) σ Q
    have vb : -20000000 ≤ chV T p ∧ chV T p ≤ 200000000 := vb
    rw [hj]
    refine Rules_change_130.i ⟨fun h6 => absurd h6 (by decide), fun _ => ⟨by omega, by omega, ?_⟩⟩
    rw [s1, s2, Int.toNat_natCast]
    exact ⟨by unfold Rg; omega, fun h6 => no' (by omega), fun h6 => ⟨by omega, by omega, by unfold Rg; omega, fun h5 => ⟨by omega, by omega, by unfold Rg; omega, h1' ⟨h6, h5⟩⟩, fun h5 => no' (by omega)⟩⟩
  · exact Rules_change_130.i ⟨fun _ => no (by unfold chD; rw [hg, ha]; rfl), fun h6 => absurd rfl h6⟩
theorem set_7 {l1 l3 : Int} (hT : LnR σ x0 T) : ∀ (m p : Nat), p + m = T.length → R_sets_31 l1 ((x0 + T.length : Nat) : Int) l3 ((x0 + wbD T p : Nat) : Int) σ Q → R_sets_7 l1 ((x0 + T.length : Nat) : Int) l3 ((x0 + p : Nat) : Int) σ Q := by
  have l0 := hT.1
  intro m
  induction m with
  | zero =>
    intro p hp hq
    rw [wb_e (by omega)] at hq
    exact R_sets_7.i ⟨by unfold Rg; omega, by unfold Rg; omega, fun _ => hq, fun h9 => absurd h9 (by omega)⟩
  | succ m ih =>
    intro p hp hq
    have hx := hT.2 p (by omega)
    rw [wb_c (by omega)] at hq
    refine R_sets_7.i ⟨by unfold Rg; omega, by unfold Rg; omega, fun h9 => absurd h9 (by omega), fun _ => ⟨by omega, by omega, ?_⟩⟩
    rw [Int.toNat_natCast, hx]
    refine ⟨fun h9 => ?_, fun h9 => ?_⟩
    · rw [if_pos h9] at hq
      exact hq
    · rw [if_neg h9] at hq
      rw [show ((x0 + p : Nat) : Int) + 1 = ((x0 + (p + 1) : Nat) : Int) by omega]
      exact ih (p + 1) (by omega) hq
theorem set_88 {j : Nat} (hj : j < 13) (hT : LnR σ x0 T) (hTb : smB T) (hq0 : Q (.inl (some 0)) σ) : ∀ (m p : Nat) (v : Int), p + m = T.length → ((T.drop p).all sDi = true → R_sets_88 ((x0 + T.length : Nat) : Int) (j : Int) (nuV (T.drop p) v) ((x0 + T.length : Nat) : Int) σ Q) → R_sets_88 ((x0 + T.length : Nat) : Int) (j : Int) v ((x0 + p : Nat) : Int) σ Q := by
  have l0 := hT.1
  intro m
  induction m with
  | zero =>
    intro p v hp h1
    have e : p = T.length := by omega
    subst e
    rw [List.drop_length] at h1
    exact h1 rfl
  | succ m ih =>
    intro p v hp h1
    have hlt : p < T.length := by omega
    have hx := hT.2 p hlt
    have hcb := hTb.gd hlt
    rw [drop_c hlt] at h1
    refine R_sets_88.i ⟨by unfold Rg; omega, by unfold Rg; omega, fun h9 => absurd h9 (by omega), fun _ => ⟨by omega, by omega, ?_⟩⟩
    rw [Int.toNat_natCast, hx]
    refine R_isDigit.s (by unfold Rg; omega) ⟨fun h9 => ⟨by omega, by omega, ?_⟩, fun _ => hq0⟩
    have hd := bZ_ne h9
    show R_sets_88 ((x0 + T.length : Nat) : Int) (j : Int) (10 * v + mV σ 252 (x0 + p) - 48) (((x0 + p : Nat) : Int) + 1) σ Q
    rw [hx, show ((x0 + p : Nat) : Int) + 1 = ((x0 + (p + 1) : Nat) : Int) by omega, show 10 * v + T.getD p 0 - 48 = v * 10 + T.getD p 0 - 48 by omega]
    refine ih (p + 1) _ (by omega) (fun h8 => ?_)
    have := h1 (by rw [List.all_cons, hd, h8]; rfl)
    rw [show nuV (T.getD p 0 :: T.drop (p + 1)) v = nuV (T.drop (p + 1)) (v * 10 + T.getD p 0 % 128 - 48) from rfl, show T.getD p 0 % 128 = T.getD p 0 by omega] at this
    exact this
theorem R_leastOf.p {j : Nat} (hj : j < 13) (hq : Q (.inl (some (leD.getD j 0))) σ) : R_leastOf (j : Int) σ Q := by
  refine R_leastOf.i ⟨by unfold Rg; omega, fun d => absurd d (by omega), fun d => ?_, fun d => ?_, fun d => ?_, fun d => ?_, fun d => ?_, fun d => ?_, fun d => ?_, fun d => ?_, fun d => ?_, fun d => ?_, fun d => ?_, fun d => ?_, fun d => ?_, trivial⟩
  · obtain rfl : j = 0 := by omega
    exact hq
  · obtain rfl : j = 1 := by omega
    exact hq
  · obtain rfl : j = 2 := by omega
    exact hq
  · obtain rfl : j = 3 := by omega
    exact hq
  · obtain rfl : j = 4 := by omega
    exact hq
  · obtain rfl : j = 5 := by omega
    exact hq
  · obtain rfl : j = 6 := by omega
    exact hq
  · obtain rfl : j = 7 := by omega
    exact hq
  · obtain rfl : j = 8 := by omega
    exact hq
  · obtain rfl : j = 9 := by omega
    exact hq
  · obtain rfl : j = 10 := by omega
    exact hq
  · obtain rfl : j = 11 := by omega
    exact hq
  · obtain rfl : j = 12 := by omega
    exact hq
theorem R_mostOf.p {j : Nat} (hj : j < 13) (hq : Q (.inl (some (moD.getD j 0))) σ) : R_mostOf (j : Int) σ Q := by
  refine R_mostOf.i ⟨by unfold Rg; omega, fun d => ?_, fun d => ?_, fun d => ?_, fun d => ?_, fun d => ?_, fun d => ?_, fun d => ?_, fun d => ?_, fun d => ?_, fun d => ?_, fun d => ?_, fun d => ?_, fun d => ?_, trivial⟩
  · obtain rfl : j = 12 := by omega
    exact hq
  · obtain rfl : j = 0 := by omega
    exact hq
  · obtain rfl : j = 1 := by omega
    exact hq
  · obtain rfl : j = 2 := by omega
    exact hq
  · obtain rfl : j = 3 := by omega
    exact hq
  · obtain rfl : j = 4 := by omega
    exact hq
  · obtain rfl : j = 5 := by omega
    exact hq
  · obtain rfl : j = 6 := by omega
    exact hq
  · obtain rfl : j = 7 := by omega
    exact hq
  · obtain rfl : j = 8 := by omega
    exact hq
  · obtain rfl : j = 9 := by omega
    exact hq
  · obtain rfl : j = 10 := by omega
    exact hq
  · obtain rfl : j = 11 := by omega
    exact hq
/-- behind the word that tells it -/
theorem R_sets.e {k : Int} (hk : k = ((x0 + T.length : Nat) : Int)) (hl : x0 + T.length ≤ 8100) (h0 : Q (.inl (some 0)) σ) : R_sets k ((x0 + T.length : Nat) : Int) σ Q := by
  subst hk
  exact R_sets.i (R_sets_7.i ⟨by unfold Rg; omega, by unfold Rg; omega, fun _ => R_sets_31.i ⟨by unfold Rg; omega, by unfold Rg; omega, fun _ => R_sets_50.i ⟨fun _ => h0, fun h9 => absurd h9 (by decide)⟩, fun h9 => absurd h9 (by omega)⟩, fun h9 => absurd h9 (by omega)⟩)
theorem R_sets.p {p : Nat} {k : Int} (hk : k + 1 = ((x0 + p : Nat) : Int)) (hT : LnR σ x0 T) (hTb : smB T) (hp : p ≤ T.length) (h1 : chD T p = true → Q (.inl (some 1)) (wV σ 275 (chW T p).toNat (chV T p))) (h0 : chD T p = false → Q (.inl (some 0)) σ) : R_sets k ((x0 + T.length : Nat) : Int) σ Q := by
  have l0 := hT.1
  obtain ⟨b1, b2⟩ := wbD_b hp
  have wb := chW_b (T := T) (p := p)
  have lU := sg_len b1 b2
  refine R_sets.i ?_
  rw [hk]
  refine set_7 hT (T.length - p) p (by omega) (R_sets_31.i ⟨by unfold Rg; omega, by unfold Rg; omega, fun h9 => ?_, fun _ => ?_⟩)
  · omega
  · refine R_wordOf.s (j := 2) (by decide) (by decide) (by omega) (by omega) (hT.2.sg b1 b2) ?_
    show R_sets_50 ((x0 + T.length : Nat) : Int) ((x0 + wbD T p : Nat) : Int) (chW T p) σ Q
    have no : chG T p = false → Q (.inl (some 0)) σ := fun h9 => h0 (by unfold chD; rw [h9]; rfl)
    refine R_sets_50.i ⟨fun h9 => no (by unfold chG; exact decide_eq_false (by omega)), fun h9 => ⟨by unfold Rg; omega, fun h8 => no (by unfold chG; exact decide_eq_false (by omega)), fun h8 => ⟨by unfold Rg; omega, fun h7 => ?_, fun h7 => no (by unfold chG; exact decide_eq_false (by omega))⟩⟩⟩
    have hg : chG T p = true := by unfold chG; exact decide_eq_true (by omega)
    rw [show ((x0 + wbD T p : Nat) : Int) + 1 = ((x0 + (wbD T p + 1) : Nat) : Int) by omega]
    obtain ⟨j, hj⟩ : ∃ j : Nat, chW T p = (j : Int) := ⟨(chW T p).toNat, by omega⟩
    have hj13 : j < 13 := by omega
    rw [hj]
    cases ha : (T.drop (wbD T p + 1)).all sDi with
    | false => exact set_88 hj13 hT hTb (h0 (by unfold chD; rw [hg, ha]; rfl)) (T.length - (wbD T p + 1)) (wbD T p + 1) 0 (by omega) (fun h6 => by rw [ha] at h6; exact absurd h6 (by decide))
    | true =>
      have vb := nuV_3 (L := T.drop (wbD T p + 1)) (v := 0) (fun x hx => hTb x (List.mem_of_mem_drop hx)) (by decide) (by rw [List.length_drop]; omega)
      have vb : -20000000 ≤ chV T p ∧ chV T p ≤ 200000000 := vb
      have h1' : leD.getD j 0 ≤ chV T p ∧ chV T p ≤ moD.getD j 0 → Q (.inl (some 1)) (wV σ 275 j (chV T p)) := fun h6 => by
        have := h1 (by unfold chD; rw [hg, ha, hj, Int.toNat_natCast, decide_eq_true h6]; rfl)
        rw [hj, Int.toNat_natCast] at this
        exact this
      have no' : ¬ (leD.getD j 0 ≤ chV T p ∧ chV T p ≤ moD.getD j 0) → Q (.inl (some 0)) σ := fun h6 => h0 (by unfold chD; rw [hg, ha, hj, Int.toNat_natCast, decide_eq_false h6]; rfl)
      have fin : R_sets_88 ((x0 + T.length : Nat) : Int) (j : Int) (chV T p) ((x0 + T.length : Nat) : Int) σ Q := by
        refine R_sets_88.i ⟨by unfold Rg; omega, by unfold Rg; omega, fun _ => R_leastOf.p hj13 ⟨by unfold Rg; omega, fun h6 => no' (by omega), fun h6 => R_mostOf.p hj13 ⟨by unfold Rg; omega, fun h5 => ⟨by omega, by omega, by unfold Rg; omega, h1' ⟨h6, h5⟩⟩, fun h5 => no' (by omega)⟩⟩, fun h6 => absurd h6 (by omega)⟩
      have all : ∀ (m r : Nat) (v : Int), r + m = T.length → (T.drop r).all sDi = true → nuV (T.drop r) v = chV T p → R_sets_88 ((x0 + T.length : Nat) : Int) (j : Int) v ((x0 + r : Nat) : Int) σ Q := by
        intro m
        induction m with
        | zero =>
          intro r v hr h6 h5
          have e : r = T.length := by omega
          subst e
          rw [List.drop_length] at h5
          have h5 : v = chV T p := h5
          rw [h5]
          exact fin
        | succ m ih =>
          intro r v hr h6 h5
          have hlt : r < T.length := by omega
          have hx := hT.2 r hlt
          have hcb := hTb.gd hlt
          rw [drop_c hlt, List.all_cons, Bool.and_eq_true] at h6
          refine R_sets_88.i ⟨by unfold Rg; omega, by unfold Rg; omega, fun h9 => absurd h9 (by omega), fun _ => ⟨by omega, by omega, ?_⟩⟩
          rw [Int.toNat_natCast, hx]
          refine R_isDigit.s (by unfold Rg; omega) ⟨fun h9 => ⟨by omega, by omega, ?_⟩, fun h9 => ?_⟩
          · show R_sets_88 ((x0 + T.length : Nat) : Int) (j : Int) (10 * v + mV σ 252 (x0 + r) - 48) (((x0 + r : Nat) : Int) + 1) σ Q
            rw [hx, show ((x0 + r : Nat) : Int) + 1 = ((x0 + (r + 1) : Nat) : Int) by omega]
            refine ih (r + 1) _ (by omega) h6.2 ?_
            rw [drop_c hlt, show nuV (T.getD r 0 :: T.drop (r + 1)) v = nuV (T.drop (r + 1)) (v * 10 + T.getD r 0 % 128 - 48) from rfl] at h5
            rw [show 10 * v + T.getD r 0 - 48 = v * 10 + T.getD r 0 % 128 - 48 by omega]
            exact h5
          · rw [h6.1] at h9
            exact absurd h9 (by decide)
      exact all (T.length - (wbD T p + 1)) (wbD T p + 1) 0 (by omega) ha rfl
end
