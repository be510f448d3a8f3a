/-! KINDS OF LINES: the reference -/
section
variable {σ : MS} {Q : MQ9} {x0 q : Nat} {U : List Int}
/-- a line of the source -/
def SrR (σ : MS) (q x0 : Nat) (U : List Int) : Prop := mV σ 253 q = (x0 : Int) ∧ x0 + U.length ≤ 8000 ∧ ∀ t, t < U.length → mV σ 252 (x0 + t) = U.getD t 0
theorem R_kindOf.p (hq4 : q < 4002) (hS : SrR σ q x0 U) (hle : ∀ Q' : MQ9, Q' (.inl (some ((x0 + U.length : Nat) : Int))) σ → R_lineEnd (q : Int) σ Q') (hq : Q (.inl (some (kiL U))) σ) : R_kindOf (q : Int) σ Q := by
  obtain ⟨h1, l0, h2⟩ := hS
  have rl := rnW_l (x := 32) U
  have k40 : R_kindOf_40 (x0 : Int) ((x0 + U.length : Nat) : Int) ((x0 + rnW 32 U : Nat) : Int) σ Q := by
    unfold kiL at hq
    refine R_kindOf_40.i ⟨by unfold Rg; omega, fun h9 => ⟨by omega, by omega, ?_⟩, fun h9 => ?_⟩
    · have hlt : rnW 32 U < U.length := by omega
      have e0 : mV σ 252 ((x0 : Int).toNat) = U.getD 0 0 := by
        have := h2 0 (by omega)
        rw [Nat.add_zero] at this
        rw [Int.toNat_natCast]
        exact this
      rw [if_neg (by omega)] at hq
      rw [e0]
      refine ⟨fun h8 => ⟨by omega, by omega, fun h7 => ⟨by omega, by omega, fun h6 => ⟨by omega, by omega, fun h5 => ?_, fun h5 => ?_⟩, fun h6 => ?_⟩, fun h7 => ?_⟩, fun h8 => ?_⟩
      · rw [if_neg h8, if_neg h7, if_neg h6, if_neg h5] at hq
        have no : ¬ (rnW 32 U % 2 = 0 ∧ rnW 32 U ≤ 4 ∧ (U.getD (rnW 32 U) 0 = 45 ∨ U.getD (rnW 32 U) 0 = 35) ∧ rnW 32 U + 1 < U.length ∧ U.getD (rnW 32 U + 1) 0 = 32) → R_kindOf_231 σ Q := fun h => by
          have e : itL U = false := decide_eq_false h
          rw [e] at hq
          exact R_kindOf_231.i (R_kindOf_232.i ⟨fun _ => hq, fun h => absurd rfl h⟩)
        rw [show ((x0 + rnW 32 U : Nat) : Int) - (x0 : Int) = (rnW 32 U : Int) by omega, show Int.tmod (rnW 32 U : Int) 2 = ((rnW 32 U % 2 : Nat) : Int) from tm_n (b := 2), Int.toNat_natCast, h2 _ hlt]
        refine ⟨by unfold Rg; omega, by decide, fun h4 => no (by omega), fun h4 => ⟨by unfold Rg; omega, fun h3 => no (by omega), fun h3 => ⟨by omega, by omega, ?_⟩⟩⟩
        have k205 : (U.getD (rnW 32 U) 0 = 45 ∨ U.getD (rnW 32 U) 0 = 35) → R_kindOf_205 ((x0 + U.length : Nat) : Int) ((x0 + rnW 32 U : Nat) : Int) σ Q := fun hs => by
          refine R_kindOf_205.i ⟨by unfold Rg; omega, fun hb => no (by omega), fun hb => ⟨by omega, by omega, ?_⟩⟩
          rw [show (((x0 + rnW 32 U : Nat) : Int) + 1).toNat = x0 + (rnW 32 U + 1) by omega, h2 _ (by omega)]
          refine ⟨fun hc => no (fun h => hc h.2.2.2.2), fun hc => R_kindOf_232.i ⟨fun h => absurd h (by decide), fun _ => ?_⟩⟩
          have e : itL U = true := decide_eq_true ⟨by omega, by omega, hs, by omega, hc⟩
          rw [e] at hq
          exact hq
        exact ⟨fun hb => k205 (Or.inl hb), fun hb => ⟨by omega, by omega, fun hc => no (fun h => h.2.2.1.elim hb hc), fun hc => k205 (Or.inr hc)⟩⟩
      · rw [if_neg h8, if_neg h7, if_neg h6, if_pos h5] at hq
        have rl6 := rnW_l (x := 61) U
        have p6 := rnW_p (x := 61) (U := U) (by omega) h5
        have k129 : R_kindOf_129 (x0 : Int) ((x0 + U.length : Nat) : Int) (rnW 61 U : Int) σ Q := by
          have no : ¬ (1 ≤ rnW 61 U ∧ rnW 61 U ≤ 3 ∧ rnW 61 U < U.length ∧ U.getD (rnW 61 U) 0 = 32) → Q (.inl (some 6)) σ := fun h => by
            have e : lvL U = -1 := if_neg h
            rw [if_pos e] at hq
            exact hq
          refine R_kindOf_129.i ⟨by unfold Rg; omega, fun hb => no (by omega), fun hb => ⟨by unfold Rg; omega, fun hc => no (by omega), fun hc => ⟨by omega, by omega, ?_⟩⟩⟩
          rw [show ((x0 : Int) + (rnW 61 U : Int)).toNat = x0 + rnW 61 U by omega, h2 _ (by omega)]
          refine ⟨fun hd => no (fun h => hd h.2.2.2), fun hd => ?_⟩
          have e : ¬ lvL U = -1 := by
            unfold lvL
            rw [if_pos ⟨p6, by omega, by omega, hd⟩]
            omega
          rw [if_neg e] at hq
          exact hq
        have key : ∀ (r p : List Int), U = p ++ r → p.length + rnW 61 r = rnW 61 U → R_kindOf_101 (x0 : Int) ((x0 + U.length : Nat) : Int) (p.length : Int) σ Q := by
          intro r
          induction r with
          | nil =>
            intro p he h
            have hu : U.length = p.length := by rw [he, List.append_nil]
            have h3 : p.length + 0 = rnW 61 U := h
            refine R_kindOf_101.i ⟨by unfold Rg; omega, fun _ => ?_, fun hb => absurd hb (by omega)⟩
            rw [show p.length = rnW 61 U by omega]
            exact k129
          | cons c r ih =>
            intro p he h
            have hu : U.length = p.length + (r.length + 1) := by rw [he, List.length_append, List.length_cons]
            have hc : U.getD p.length 0 = c := by
              rw [he]
              unfold List.getD
              rw [List.getElem?_append_right (Nat.le_refl _), Nat.sub_self]
              rfl
            refine R_kindOf_101.i ⟨by unfold Rg; omega, fun hb => absurd hb (by omega), fun _ => ⟨by omega, by omega, ?_⟩⟩
            rw [show ((x0 : Int) + (p.length : Int)).toNat = x0 + p.length by omega, h2 _ (by omega), hc]
            refine ⟨fun hb => ?_, fun hb => ?_⟩
            · have e : rnW 61 (c :: r) = 0 := if_neg hb
              rw [show p.length = rnW 61 U by omega]
              exact k129
            · have e : rnW 61 (c :: r) = rnW 61 r + 1 := if_pos hb
              have := ih (p ++ [c]) (by rw [List.append_assoc]; exact he) (by rw [List.length_append]; show p.length + 1 + _ = _; omega)
              rw [List.length_append] at this
              exact this
        exact key U [] rfl (Nat.zero_add _)
      · rw [if_neg h8, if_neg h7, if_pos h6] at hq
        exact hq
      · rw [if_neg h8, if_pos h7] at hq
        exact hq
      · rw [if_pos h8] at hq
        exact hq
    · rw [if_pos (by omega)] at hq
      exact hq
  have key : ∀ (r p : List Int), U = p ++ r → p.length + rnW 32 r = rnW 32 U → R_kindOf_16 (x0 : Int) ((x0 + U.length : Nat) : Int) ((x0 + p.length : Nat) : Int) σ Q := by
    intro r
    induction r with
    | nil =>
      intro p he h
      have hu : U.length = p.length := by rw [he, List.append_nil]
      have h3 : p.length + 0 = rnW 32 U := h
      refine R_kindOf_16.i ⟨by unfold Rg; omega, fun _ => ?_, fun h9 => absurd h9 (by omega)⟩
      rw [show p.length = rnW 32 U by omega]
      exact k40
    | cons c r ih =>
      intro p he h
      have hu : U.length = p.length + (r.length + 1) := by rw [he, List.length_append, List.length_cons]
      have hc : U.getD p.length 0 = c := by
        rw [he]
        unfold List.getD
        rw [List.getElem?_append_right (Nat.le_refl _), Nat.sub_self]
        rfl
      refine R_kindOf_16.i ⟨by unfold Rg; omega, fun h9 => absurd h9 (by omega), fun _ => ⟨by omega, by omega, ?_⟩⟩
      rw [Int.toNat_natCast, h2 _ (by omega), hc]
      refine ⟨fun h9 => ?_, fun h9 => ?_⟩
      · have e : rnW 32 (c :: r) = 0 := if_neg h9
        rw [show p.length = rnW 32 U by omega]
        exact k40
      · have e : rnW 32 (c :: r) = rnW 32 r + 1 := if_pos h9
        rw [show ((x0 + p.length : Nat) : Int) + 1 = ((x0 + (p.length + 1) : Nat) : Int) by omega]
        have := ih (p ++ [c]) (by rw [List.append_assoc]; exact he) (by rw [List.length_append]; show p.length + 1 + _ = _; omega)
        rw [List.length_append] at this
        exact this
  refine R_kindOf.i ⟨by omega, by omega, hle _ ?_⟩
  show R_kindOf_16 (mV σ 253 ((q : Int).toNat)) ((x0 + U.length : Nat) : Int) (mV σ 253 ((q : Int).toNat)) σ Q
  rw [Int.toNat_natCast, h1]
  have k0 := key U [] rfl (Nat.zero_add _)
  rw [List.length_nil, Nat.add_zero] at k0
  exact k0
end
