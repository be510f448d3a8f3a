/-! WHERE BLOCKS END: the document, both sides -/
def kdL (T : List Int) (i : Nat) : Int := kiL (sgT T ((mlL T).getD i (0, 0)).1 ((mlL T).getD i (0, 0)).2)
/-- a line goes on with a block -/
def bnC (T : List Int) (kd : Int) (j : Nat) : Bool := decide (((kd = 3 ∨ kd = 4 ∨ kd = 6) ∧ kdL T j = kd) ∨ (kd = 5 ∧ kdL T j = 6 ∧ T.getD ((mlL T).getD j (0, 0)).1 0 = 32))
def bnN (T : List Int) (kd : Int) : Nat → Nat → Nat
  | 0, j => j
  | n + 1, j => if j < (mlL T).length ∧ bnC T kd j = true then bnN T kd n (j + 1) else j
/-- the line behind the block of line i -/
def bnE (T : List Int) (i : Nat) : Nat := bnN T (kdL T i) (mlL T).length (i + 1)
section
variable {σ : MS} {Q : MQ9} {T : List Int}
theorem bnN_e {kd : Int} {n j : Nat} (h : ¬ (j < (mlL T).length ∧ bnC T kd j = true)) : bnN T kd n j = j := by
  cases n with
  | zero => rfl
  | succ n => exact if_neg h
theorem bnN_s {kd : Int} {n j : Nat} (h : j < (mlL T).length ∧ bnC T kd j = true) : bnN T kd (n + 1) j = bnN T kd n (j + 1) := if_pos h
theorem bnN_l {kd : Int} : ∀ (n j : Nat), j ≤ (mlL T).length → j ≤ bnN T kd n j ∧ bnN T kd n j ≤ (mlL T).length
  | 0, j, h => ⟨Nat.le_refl _, h⟩
  | n + 1, j, h => by
    by_cases h9 : j < (mlL T).length ∧ bnC T kd j = true
    · rw [bnN_s h9]
      have := bnN_l (kd := kd) n (j + 1) (by omega)
      omega
    · rw [bnN_e h9]
      exact ⟨Nat.le_refl _, h⟩
theorem Setter_blockEnd.c {i : Nat} (hT : mX σ 3 = T) (hT4 : T.length ≤ 4000) (hL : LnM σ T (mlL T)) (hi : i < (mlL T).length) (hq : Q (.inl (some (bnE T i : Int))) σ) : Setter_blockEnd (i : Int) σ Q := by
  have ml := mlF_l (T := T) T.length 0
  have hl : (mlL T).length ≤ 4000 := Nat.le_trans ml hT4
  have l4 : (mX σ 204).length = (mlL T).length := by
    rw [hL.2.2]
    exact List.length_map ..
  have kat : ∀ j, j < (mlL T).length → rgt (mX σ 204) (j : Int) = kdL T j := fun j hj => mlA_at hj _ hL.2.2
  have key : ∀ (n j : Nat), (mlL T).length ≤ j + n → j ≤ (mlL T).length → bnN T (kdL T i) n j = bnE T i → Setter_blockEnd_36 (kdL T i) (j : Int) (bZ (decide (kdL T i = 3 ∨ kdL T i = 4 ∨ kdL T i = 6))) σ Q := by
    intro n
    induction n with
    | zero =>
      intro j hn hj he
      have he : j = bnE T i := he
      refine Setter_blockEnd_36.i ⟨by unfold Rg; omega, fun _ => ⟨by unfold Rg; omega, by rw [he]; exact hq⟩, fun h => absurd h (by rw [l4]; omega)⟩
    | succ n ih =>
      intro j hn hj he
      by_cases hje : j = (mlL T).length
      · have e : j = bnE T i := by
          rw [← he]
          exact (bnN_e (fun h => by omega)).symm
        exact Setter_blockEnd_36.i ⟨by unfold Rg; omega, fun _ => ⟨by unfold Rg; omega, by rw [e]; exact hq⟩, fun h => absurd h (by rw [l4]; omega)⟩
      have hjl : j < (mlL T).length := by omega
      have stop : ¬ bnC T (kdL T i) j = true → Rg (j : Int) ∧ Q (.inl (some (j : Int))) σ := fun h => by
        have e : j = bnE T i := by
          rw [← he]
          exact (bnN_e (fun h9 => h h9.2)).symm
        exact ⟨by unfold Rg; omega, by rw [e]; exact hq⟩
      have go : bnC T (kdL T i) j = true → Setter_blockEnd_102 (kdL T i) (j : Int) (bZ (decide (kdL T i = 3 ∨ kdL T i = 4 ∨ kdL T i = 6))) σ Q := fun h => by
        refine Setter_blockEnd_102.i ?_
        rw [show (j : Int) + 1 = ((j + 1 : Nat) : Int) by omega]
        exact ih (j + 1) (by omega) (by omega) (by rw [← he, bnN_s ⟨hjl, h⟩])
      have s64 : ¬ ((kdL T i = 3 ∨ kdL T i = 4 ∨ kdL T i = 6) ∧ kdL T j = kdL T i) → Setter_blockEnd_64 (kdL T i) (j : Int) (bZ (decide (kdL T i = 3 ∨ kdL T i = 4 ∨ kdL T i = 6))) σ Q := fun hno => by
        have no : ¬ (kdL T i = 5 ∧ kdL T j = 6 ∧ T.getD ((mlL T).getD j (0, 0)).1 0 = 32) → ¬ bnC T (kdL T i) j = true := fun h h9 => by
          rcases of_decide_eq_true h9 with h8 | h8
          · exact hno h8
          · exact h h8
        have ps := (ml_p (T := T) (i := j) hjl).1.2.2.1
        refine Setter_blockEnd_64.i ⟨fun h => stop (no (fun h9 => h h9.1)), fun h => ⟨by unfold Rg; omega, ?_⟩⟩
        rw [kat j hjl, hT, show rgt (mX σ 200) (j : Int) = (((mlL T).getD j (0, 0)).1 : Int) from mlA_at hjl _ hL.1, rgt_n ps]
        exact ⟨fun h8 => stop (no (fun h9 => h8 h9.2.1)), fun h8 => ⟨by unfold Rg; omega, fun h7 => stop (no (fun h9 => h7 h9.2.2)), fun h7 => go (decide_eq_true (Or.inr ⟨h, h8, h7⟩))⟩⟩
      refine Setter_blockEnd_36.i ⟨by unfold Rg; omega, fun h => absurd h (by rw [l4]; omega), fun _ => ⟨fun h => s64 (fun h9 => of_decide_eq_false (bZ_z h) h9.1), fun h => ⟨by unfold Rg; omega, ?_⟩⟩⟩
      rw [kat j hjl]
      exact ⟨fun h8 => go (decide_eq_true (Or.inl ⟨of_decide_eq_true (bZ_ne h), h8⟩)), fun h8 => s64 (fun h9 => h8 h9.2)⟩
  have k0 := key (mlL T).length (i + 1) (by omega) (by omega) rfl
  rw [show ((i + 1 : Nat) : Int) = (i : Int) + 1 by omega] at k0
  have yes : (kdL T i = 3 ∨ kdL T i = 4 ∨ kdL T i = 6) → Setter_blockEnd_29 (kdL T i) ((i : Int) + 1) σ Q := fun h => by
    rw [decide_eq_true h] at k0
    exact Setter_blockEnd_29.i (Setter_blockEnd_34.i k0)
  refine Setter_blockEnd.i ⟨by unfold Rg; omega, ?_⟩
  rw [kat i hi]
  refine ⟨fun h => yes (Or.inl h), fun h => ⟨fun h' => yes (Or.inr (Or.inl h')), fun h' => ⟨fun h2 => ?_, fun h2 => yes (Or.inr (Or.inr h2))⟩⟩⟩
  rw [decide_eq_false (by
    rintro (h9 | h9 | h9)
    · exact h h9
    · exact h' h9
    · exact h2 h9)] at k0
  exact Setter_blockEnd_34.i k0
end
