/-! KINDS OF LINES: the document, the class, the reference -/
/-- how many x stand ahead -/
def rnW (x : Int) : List Int → Nat
  | [] => 0
  | c :: r => if c = x then rnW x r + 1 else 0
theorem rnW_l {x : Int} : ∀ (U : List Int), rnW x U ≤ U.length
  | [] => Nat.le_refl _
  | c :: r => by
    have := rnW_l (x := x) r
    show (if c = x then rnW x r + 1 else 0) ≤ r.length + 1
    split <;> omega
theorem rnW_0 {x : Int} {U : List Int} (h : ¬ U.getD 0 0 = x) : rnW x U = 0 := by
  cases U with
  | nil => rfl
  | cons c r => exact if_neg h
theorem rnW_p {x : Int} {U : List Int} (h0 : 0 < U.length) (h : U.getD 0 0 = x) : 1 ≤ rnW x U := by
  cases U with
  | nil => exact absurd h0 (Nat.not_lt_zero _)
  | cons c r =>
    have e : rnW x (c :: r) = rnW x r + 1 := if_pos h
    omega
/-- a heading's level, or NONE -/
def lvL (U : List Int) : Int := if 1 ≤ rnW 61 U ∧ rnW 61 U ≤ 3 ∧ rnW 61 U < U.length ∧ U.getD (rnW 61 U) 0 = 32 then (rnW 61 U : Int) else -1
def itL (U : List Int) : Bool := decide (rnW 32 U % 2 = 0 ∧ rnW 32 U ≤ 4 ∧ (U.getD (rnW 32 U) 0 = 45 ∨ U.getD (rnW 32 U) 0 = 35) ∧ rnW 32 U + 1 < U.length ∧ U.getD (rnW 32 U + 1) 0 = 32)
def kiL (U : List Int) : Int := if rnW 32 U = U.length then 0 else if U.getD 0 0 = 64 then 1 else if U.getD 0 0 = 124 then 3 else if U.getD 0 0 = 62 then 4 else if U.getD 0 0 = 61 then (if lvL U = -1 then 6 else 2) else if itL U = true then 5 else 6
section
variable {σ : MS} {Q : MQ9} {x0 : Nat} {U : List Int}
theorem Setter_levelOf.c (hU : LnC σ 3 x0 U) (hq : Q (.inl (some (lvL U))) σ) : Setter_levelOf (x0 : Int) ((x0 + U.length : Nat) : Int) σ Q := by
  have l0 := hU.2.1
  have yn : ∀ (g : Prop) (k : Nat), k ≤ 4 → True := fun _ _ _ => trivial
  have key : ∀ (r p : List Int), U = p ++ r → p.length ≤ 4 → (p.length + rnW 61 r = rnW 61 U ∨ (p.length = 4 ∧ 4 ≤ rnW 61 U)) → Setter_levelOf_2 (x0 : Int) ((x0 + U.length : Nat) : Int) (p.length : Int) σ Q := by
    intro r
    have fin : ∀ k : Nat, (k = rnW 61 U ∧ k ≤ 4 ∨ (k = 4 ∧ 4 ≤ rnW 61 U)) → Setter_levelOf_35 (x0 : Int) ((x0 + U.length : Nat) : Int) (k : Int) σ Q := fun k hk => by
      have no : ¬ (1 ≤ rnW 61 U ∧ rnW 61 U ≤ 3 ∧ rnW 61 U < U.length ∧ U.getD (rnW 61 U) 0 = 32) → Setter_levelOf_71 (k : Int) σ Q := fun h => by
        refine Setter_levelOf_71.i (Setter_levelOf_72.i ⟨fun _ => ?_, fun h9 => absurd rfl h9⟩)
        unfold lvL at hq
        rw [if_neg h] at hq
        exact hq
      refine Setter_levelOf_35.i ⟨by unfold Rg; omega, fun h9 => no (by omega), fun h9 => ⟨by unfold Rg; omega, fun h8 => no (by omega), fun h8 => ⟨by unfold Rg; omega, by unfold Rg; omega, fun h7 => no (by omega), fun h7 => ⟨by unfold Rg; omega, ?_⟩⟩⟩⟩
      have hk2 : k = rnW 61 U := by omega
      rw [show (x0 : Int) + (k : Int) = ((x0 + k : Nat) : Int) by omega, hU.at (by omega)]
      refine ⟨fun h6 => no (fun h => h6 (by rw [hk2]; exact h.2.2.2)), fun h6 => Setter_levelOf_72.i ⟨fun h5 => absurd h5 (by decide), fun _ => ⟨by unfold Rg; omega, ?_⟩⟩⟩
      unfold lvL at hq
      rw [if_pos ⟨by omega, by omega, by omega, by rw [← hk2]; exact h6⟩, ← hk2] at hq
      exact hq
    induction r with
    | nil =>
      intro p he hp h
      have h2 : U.length = p.length := by rw [he, List.append_nil]
      have f : p.length = rnW 61 U ∧ p.length ≤ 4 ∨ (p.length = 4 ∧ 4 ≤ rnW 61 U) := by
        rcases h with h | h
        · exact Or.inl ⟨h, hp⟩
        · exact Or.inr h
      exact Setter_levelOf_2.i ⟨by unfold Rg; omega, fun _ => fin _ f, fun _ => ⟨by unfold Rg; omega, by unfold Rg; omega, fun _ => fin _ f, fun h9 => absurd h9 (by omega)⟩⟩
    | cons c r ih =>
      intro p he hp h
      have h2 : U.length = p.length + (r.length + 1) := by rw [he, List.length_append, List.length_cons]
      have hc : U.getD p.length 0 = c := by
        rw [he]
        unfold List.getD
        rw [List.getElem?_append_right (Nat.le_refl _), Nat.sub_self]
        rfl
      refine Setter_levelOf_2.i ⟨by unfold Rg; omega, fun h9 => fin _ ?_, fun h9 => ⟨by unfold Rg; omega, by unfold Rg; omega, fun h8 => absurd h8 (by omega), fun h8 => ⟨by unfold Rg; omega, ?_⟩⟩⟩
      · omega
      · rw [show (x0 : Int) + (p.length : Int) = ((x0 + p.length : Nat) : Int) by omega, hU.at (by omega), hc]
        have h : p.length + rnW 61 (c :: r) = rnW 61 U := h.resolve_right (by omega)
        refine ⟨fun h7 => fin _ ?_, fun h7 => ?_⟩
        · have e : rnW 61 (c :: r) = 0 := if_neg h7
          omega
        · have e : rnW 61 (c :: r) = rnW 61 r + 1 := if_pos h7
          have := ih (p ++ [c]) (by rw [List.append_assoc]; exact he) (by rw [List.length_append]; show p.length + 1 ≤ 4; omega) (Or.inl (by rw [List.length_append]; show p.length + 1 + _ = _; omega))
          rw [List.length_append] at this
          exact this
  exact Setter_levelOf.i (key U [] rfl (by decide) (Or.inl (Nat.zero_add _)))
theorem Setter_kindOf.c (hU : LnC σ 3 x0 U) (hq : Q (.inl (some (kiL U))) σ) : Setter_kindOf (x0 : Int) ((x0 + U.length : Nat) : Int) σ Q := by
  have l0 := hU.2.1
  have rl := rnW_l (x := 32) U
  have k26 : Setter_kindOf_26 (x0 : Int) ((x0 + U.length : Nat) : Int) ((x0 + rnW 32 U : Nat) : Int) σ Q := by
    have s0 : rnW 32 U < U.length → (¬ rnW 32 U = 0 → U.getD 0 0 = 32) := fun h h9 => by
      by_cases e : U.getD 0 0 = 32
      · exact e
      · exact absurd (rnW_0 e) h9
    unfold kiL at hq
    refine Setter_kindOf_26.i ⟨by unfold Rg; omega, by unfold Rg; omega, fun h9 => ⟨by unfold Rg; omega, ?_⟩, fun h9 => ?_⟩
    · have hlt : rnW 32 U < U.length := by omega
      rw [if_neg (by omega)] at hq
      rw [show ((x0 + rnW 32 U : Nat) : Int) - (x0 : Int) = (rnW 32 U : Int) by omega, hU.at hlt]
      have it : ∀ s0' : Int, (U.getD 0 0 = 64 ∨ U.getD 0 0 = 124 ∨ U.getD 0 0 = 62 → False) → (U.getD 0 0 = 61 → lvL U = -1) → Setter_kindOf_114 ((x0 + U.length : Nat) : Int) ((x0 + rnW 32 U : Nat) : Int) (rnW 32 U : Int) (U.getD (rnW 32 U) 0) σ Q := fun _ hn1 hn2 => by
        rw [if_neg (fun h => hn1 (Or.inl h)), if_neg (fun h => hn1 (Or.inr (Or.inl h))), if_neg (fun h => hn1 (Or.inr (Or.inr h)))] at hq
        have i61 : U.getD 0 0 = 61 → itL U = false := fun h => by
          have e0 := rnW_0 (x := 32) (U := U) (by rw [h]; decide)
          unfold itL
          rw [e0]
          exact decide_eq_false (by rw [h]; omega)
        have hq2 : Q (.inl (some (if itL U = true then 5 else 6))) σ := by
          by_cases h : U.getD 0 0 = 61
          · rw [if_pos h, if_pos (hn2 h)] at hq
            rw [i61 h]
            exact hq
          · rw [if_neg h] at hq
            exact hq
        have no : ¬ (rnW 32 U % 2 = 0 ∧ rnW 32 U ≤ 4 ∧ (U.getD (rnW 32 U) 0 = 45 ∨ U.getD (rnW 32 U) 0 = 35) ∧ rnW 32 U + 1 < U.length ∧ U.getD (rnW 32 U + 1) 0 = 32) → Q (.inl (some 6)) σ := fun h => by
          have e : itL U = false := decide_eq_false h
          rw [e] at hq2
          exact hq2
        have k128 : (U.getD (rnW 32 U) 0 = 45 ∨ U.getD (rnW 32 U) 0 = 35) → Setter_kindOf_128 ((x0 + U.length : Nat) : Int) ((x0 + rnW 32 U : Nat) : Int) (rnW 32 U : Int) σ Q := fun hs => by
          refine Setter_kindOf_128.i ⟨by unfold Rg; omega, by unfold Rg; omega, fun h8 => Setter_kindOf_154.i (Setter_kindOf_155.i ⟨fun _ => no (by omega), fun h => absurd rfl h⟩), fun h8 => ⟨by unfold Rg; omega, ?_⟩⟩
          rw [show ((x0 + rnW 32 U : Nat) : Int) + 1 = ((x0 + (rnW 32 U + 1) : Nat) : Int) by omega, hU.at (by omega)]
          refine ⟨fun h7 => Setter_kindOf_154.i (Setter_kindOf_155.i ⟨fun _ => no (fun h => h7 h.2.2.2.2), fun h => absurd rfl h⟩), fun h7 => Setter_kindOf_155.i ⟨fun h => absurd h (by decide), fun _ => ⟨by unfold Rg; omega, fun h6 => no (by omega), fun h6 => ⟨by unfold Rg; omega, by decide, ?_⟩⟩⟩⟩
          rw [show Int.tmod (rnW 32 U : Int) 2 = ((rnW 32 U % 2 : Nat) : Int) from tm_n (b := 2)]
          refine ⟨fun h5 => no (by omega), fun h5 => ?_⟩
          have e : itL U = true := decide_eq_true ⟨by omega, by omega, hs, by omega, h7⟩
          rw [e] at hq2
          exact hq2
        exact Setter_kindOf_114.i ⟨fun h => k128 (Or.inl h), fun h => ⟨fun h' => Setter_kindOf_154.i (Setter_kindOf_155.i ⟨fun _ => no (fun h9 => h9.2.2.1.elim h h'), fun h => absurd rfl h⟩), fun h' => k128 (Or.inr h')⟩⟩
      by_cases hz : rnW 32 U = 0
      · rw [hz]
        rw [hz] at it
        refine ⟨by decide, fun h8 => absurd rfl h8, fun _ => ⟨fun h8 => Setter_kindOf_62.i ⟨by decide, fun h => absurd rfl h, fun _ => ⟨fun h7 => Setter_kindOf_76.i ⟨by decide, fun h => absurd rfl h, fun _ => ⟨fun h6 => Setter_kindOf_90.i ⟨by decide, fun h => absurd rfl h, fun _ => ⟨fun h5 => it 0 (fun h => h.elim h8 (fun h => h.elim h7 h6)) (fun h => absurd h h5), fun h5 => ?_⟩⟩, fun h6 => ?_⟩⟩, fun h7 => ?_⟩⟩, fun h8 => ?_⟩⟩
        · refine Setter_levelOf.c hU ⟨fun h4 => it 0 (fun h => h.elim h8 (fun h => h.elim h7 h6)) (fun _ => h4), fun h4 => ?_⟩
          rw [if_neg h8, if_neg h7, if_neg h6, if_pos h5, if_neg h4] at hq
          exact hq
        · rw [if_neg h8, if_neg h7, if_pos h6] at hq
          exact hq
        · rw [if_neg h8, if_pos h7] at hq
          exact hq
        · rw [if_pos h8] at hq
          exact hq
      · have h32 := s0 hlt hz
        refine ⟨by unfold Rg; omega, fun h8 => Setter_kindOf_62.i ⟨by unfold Rg; omega, fun _ => Setter_kindOf_76.i ⟨by unfold Rg; omega, fun _ => Setter_kindOf_90.i ⟨by unfold Rg; omega, fun _ => it 0 (by rw [h32]; rintro (h | h | h) <;> exact absurd h (by decide)) (by rw [h32]; intro h; exact absurd h (by decide)), fun h => absurd h (by omega)⟩, fun h => absurd h (by omega)⟩, fun h => absurd h (by omega)⟩, fun h8 => absurd h8 (by omega)⟩
    · rw [if_pos (by omega)] at hq
      exact hq
  have key : ∀ (r p : List Int), U = p ++ r → p.length + rnW 32 r = rnW 32 U → Setter_kindOf_2 (x0 : Int) ((x0 + U.length : Nat) : Int) ((x0 + p.length : Nat) : Int) σ Q := by
    intro r
    induction r with
    | nil =>
      intro p he h
      have h2 : U.length = p.length := by rw [he, List.append_nil]
      have h3 : p.length + 0 = rnW 32 U := h
      refine Setter_kindOf_2.i ⟨by unfold Rg; omega, by unfold Rg; omega, fun _ => ?_, fun h9 => absurd h9 (by omega)⟩
      rw [show p.length = rnW 32 U by omega]
      exact k26
    | cons c r ih =>
      intro p he h
      have h2 : U.length = p.length + (r.length + 1) := by rw [he, List.length_append, List.length_cons]
      have hc : U.getD p.length 0 = c := by
        rw [he]
        unfold List.getD
        rw [List.getElem?_append_right (Nat.le_refl _), Nat.sub_self]
        rfl
      refine Setter_kindOf_2.i ⟨by unfold Rg; omega, by unfold Rg; omega, fun h9 => absurd h9 (by omega), fun _ => ⟨by unfold Rg; omega, ?_⟩⟩
      rw [hU.at (by omega), hc]
      refine ⟨fun h9 => ?_, fun h9 => ?_⟩
      · have e : rnW 32 (c :: r) = 0 := if_neg h9
        rw [show p.length = rnW 32 U by omega]
        exact k26
      · have e : rnW 32 (c :: r) = rnW 32 r + 1 := if_pos h9
        rw [show ((x0 + p.length : Nat) : Int) + 1 = ((x0 + (p.length + 1) : Nat) : Int) by omega]
        have := ih (p ++ [c]) (by rw [List.append_assoc]; exact he) (by rw [List.length_append]; show p.length + 1 + _ = _; omega)
        rw [List.length_append] at this
        exact this
  have k0 := key U [] rfl (Nat.zero_add _)
  rw [List.length_nil, Nat.add_zero] at k0
  exact Setter_kindOf.i k0
end
