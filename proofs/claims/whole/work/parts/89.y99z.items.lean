/-! ITEMS: the document; the class finds their depth -/
def itQ (U : List Int) : Nat := rnW 32 U / 2
def itH (U : List Int) : Bool := decide (U.getD (rnW 32 U) 0 = 35)
/-- counts: deeper ones begin anew; all do where the item isn't right behind another -/
def itC (cn : List Int) (d : Nat) (jo : Bool) : List Int := ofF (fun k => if jo = true ∧ k ≤ d then cn.getD k 0 else 0) 3
def itN (cn : List Int) (d : Nat) (jo co : Bool) : List Int := if co = true then (itC cn d jo).set d ((itC cn d jo).getD d 0 + 1) else itC cn d jo
def itS (d : Nat) : Int := if d = 0 then 1 else if d = 1 then 4 else 2
/-- the marker -/
def itM (cn : List Int) (d : Nat) (jo co : Bool) : List Int := if co = true then wrN ((itN cn d jo co).getD d 0) (itS d) ++ [if d = 1 then 41 else 46] else [if d = 0 then 45 else if d = 1 then 42 else 43]
def itP (cn : List Int) (d : Nat) (jo co : Bool) : List Int := List.replicate (2 * d) 32 ++ itM cn d jo co ++ [32]
section
variable {σ : MS} {Q : MQ9} {U : List Int} {x0 : Nat}
theorem rnW_in {x : Int} : ∀ {U : List Int} {j : Nat}, j < rnW x U → U.getD j 0 = x
  | [], j, h => absurd h (Nat.not_lt_zero _)
  | c :: r, j, h => by
    by_cases e : c = x
    · cases j with
      | zero => exact e
      | succ j =>
        have e2 : rnW x (c :: r) = rnW x r + 1 := if_pos e
        exact rnW_in (U := r) (j := j) (by omega)
    · have e2 : rnW x (c :: r) = 0 := if_neg e
      omega
theorem rnW_out {x : Int} : ∀ {U : List Int}, rnW x U < U.length → ¬ U.getD (rnW x U) 0 = x
  | [], h => absurd h (Nat.not_lt_zero _)
  | c :: r, h => by
    by_cases e : c = x
    · have e2 : rnW x (c :: r) = rnW x r + 1 := if_pos e
      rw [e2] at h ⊢
      exact rnW_out (U := r) (by rw [List.length_cons] at h; omega)
    · have e2 : rnW x (c :: r) = 0 := if_neg e
      rw [e2]
      exact e
theorem ite_13 {l1 l2 l3 : Int} (hU : LnC σ 3 x0 U) (hit : itL U = true) (hq : Setter_beginItem_44 l1 l2 l3 (x0 : Int) (itQ U : Int) σ Q) : Setter_beginItem_13 l1 l2 l3 (x0 : Int) 0 σ Q := by
  have h := of_decide_eq_true hit
  have l0 := hU.2.1
  have ho := rnW_out (x := 32) (U := U) (by omega)
  have step : ∀ d : Nat, d ≤ itQ U → d ≤ 2 → (d = itQ U → Setter_beginItem_13 l1 l2 l3 (x0 : Int) (d : Int) σ Q) := fun d hd hd2 e => by
    refine Setter_beginItem_13.i ⟨by unfold Rg; omega, fun _ => by rw [e]; exact hq, fun h9 => ⟨by unfold Rg; omega, ?_⟩⟩
    have e2 : 2 * d = rnW 32 U := by
      unfold itQ at e
      omega
    rw [show (x0 : Int) + (2 * (d : Int)) = ((x0 + rnW 32 U : Nat) : Int) by omega, hU.at (by omega)]
    exact ⟨fun _ => by rw [e]; exact hq, fun h8 => absurd h8 ho⟩
  have up : ∀ d : Nat, d < itQ U → Setter_beginItem_13 l1 l2 l3 (x0 : Int) ((d + 1 : Nat) : Int) σ Q → Setter_beginItem_13 l1 l2 l3 (x0 : Int) (d : Int) σ Q := fun d hd hc => by
    have e2 : 2 * d < rnW 32 U := by
      unfold itQ at hd
      omega
    have d2 : d < 2 := by
      unfold itQ at hd
      omega
    refine Setter_beginItem_13.i ⟨by unfold Rg; omega, fun h9 => absurd h9 (by omega), fun h9 => ⟨by unfold Rg; omega, ?_⟩⟩
    rw [show (x0 : Int) + (2 * (d : Int)) = ((x0 + 2 * d : Nat) : Int) by omega, hU.at (by omega), rnW_in e2]
    exact ⟨fun h8 => absurd rfl h8, fun _ => hc⟩
  have q2 : itQ U ≤ 2 := by
    unfold itQ
    omega
  have fin := step (itQ U) (Nat.le_refl _) q2 rfl
  have key : ∀ n : Nat, n ≤ itQ U → Setter_beginItem_13 l1 l2 l3 (x0 : Int) ((itQ U - n : Nat) : Int) σ Q := by
    intro n
    induction n with
    | zero =>
      intro _
      exact fin
    | succ n ih =>
      intro hn
      refine up (itQ U - (n + 1)) (by omega) ?_
      rw [show itQ U - (n + 1) + 1 = itQ U - n by omega]
      exact ih (by omega)
  have k0 := key (itQ U) (Nat.le_refl _)
  rw [Nat.sub_self] at k0
  exact k0
end
