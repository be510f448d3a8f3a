/-! TABLES: how columns are aligned; the class -/
def alG : List Int → Int → Int
  | [], f => f
  | c :: r, f => if c = 32 then alG r f else if ¬ f = -1 then -1 else if c = 60 ∨ c = 94 ∨ c = 62 then alG r c else -1
def alO (M : List Int) (p : Nat × Nat) : Int := alG (sgT M p.1 p.2) (-1)
def tcA (M : List Int) (X : List (Nat × Nat)) : Bool := ! X.isEmpty && X.all (fun p => decide (¬ alO M p = -1))
def tcV (M : List Int) (X : List (Nat × Nat)) : List Int := ofF (fun k => if k < X.length then alO M (X.getD k (0, 0)) else 60) 8
theorem alG_b : ∀ {L : List Int} {f : Int}, (f = -1 ∨ f = 60 ∨ f = 94 ∨ f = 62) → (alG L f = -1 ∨ alG L f = 60 ∨ alG L f = 94 ∨ alG L f = 62)
  | [], f, h => h
  | c :: r, f, h => by
    show (if c = 32 then alG r f else if ¬ f = -1 then -1 else if c = 60 ∨ c = 94 ∨ c = 62 then alG r c else -1) = -1 ∨ (if c = 32 then alG r f else if ¬ f = -1 then -1 else if c = 60 ∨ c = 94 ∨ c = 62 then alG r c else -1) = 60 ∨ (if c = 32 then alG r f else if ¬ f = -1 then -1 else if c = 60 ∨ c = 94 ∨ c = 62 then alG r c else -1) = 94 ∨ (if c = 32 then alG r f else if ¬ f = -1 then -1 else if c = 60 ∨ c = 94 ∨ c = 62 then alG r c else -1) = 62
    split
    · exact alG_b h
    · split
      · exact Or.inl rfl
      · split
        · rename_i h3
          exact alG_b (Or.inr h3)
        · exact Or.inl rfl
theorem alO_b {M : List Int} {p : Nat × Nat} : alO M p = -1 ∨ alO M p = 60 ∨ alO M p = 94 ∨ alO M p = 62 := alG_b (Or.inl rfl)
theorem spQ_at : ∀ {X : List (Nat × Nat)} {k : Nat}, k < X.length → (spQ X).getD (2 * k) 0 = ((X.getD k (0, 0)).1 : Int) ∧ (spQ X).getD (2 * k + 1) 0 = ((X.getD k (0, 0)).2 : Int)
  | [], k, h => absurd h (Nat.not_lt_zero _)
  | p :: r, 0, h => ⟨rfl, rfl⟩
  | p :: r, k + 1, h => by
    have ih := spQ_at (X := r) (k := k) (Nat.lt_of_succ_lt_succ h)
    rw [show 2 * (k + 1) = 2 * k + 1 + 1 by omega]
    exact ih
section
variable {σ σ0 : MS} {Q : MQ9} {M : List Int} {X : List (Nat × Nat)}
theorem Tables_alignOf.c {a b : Nat} (hM : mX σ 3 = M) (hM4 : M.length ≤ 4000) (hab : a ≤ b) (hb : b ≤ M.length) (hq : Q (.inl (some (alO M (a, b)))) σ) : Tables_alignOf 3 (a : Int) (b : Int) σ Q := by
  have key : ∀ (n : Nat) (r : List Int) (i : Nat) (f : Int), r.length = n → i ≤ b → r = sgT M i b → (f = -1 ∨ f = 60 ∨ f = 94 ∨ f = 62) → alG r f = alO M (a, b) → Tables_alignOf_5 3 (b : Int) f (i : Int) σ Q := by
    intro n
    induction n with
    | zero =>
      intro r i f hn hi hr hf he
      have l := sgT_l (U := M) (a := i) hb
      rw [← hr, hn] at l
      have r0 : r = [] := List.eq_nil_of_length_eq_zero hn
      rw [r0] at he
      have he : f = alO M (a, b) := he
      refine Tables_alignOf_5.i ⟨by unfold Rg; omega, by unfold Rg; omega, fun _ => by rw [he]; exact hq, fun h => absurd h (by omega)⟩
    | succ n ih =>
      intro r i f hn hi hr hf he
      cases r with
      | nil => cases hn
      | cons c r =>
        obtain ⟨g1, g2, g3⟩ := sgT_tl hb hr
        have ec : rgt (mX σ 3) (i : Int) = c := by
          rw [hM, ← g2]
          exact rgt_n (by omega)
        have hn : r.length = n := by
          rw [List.length_cons] at hn
          omega
        have he : (if c = 32 then alG r f else if ¬ f = -1 then -1 else if c = 60 ∨ c = 94 ∨ c = 62 then alG r c else -1) = alO M (a, b) := he
        have s57 : ∀ f2 : Int, (f2 = -1 ∨ f2 = 60 ∨ f2 = 94 ∨ f2 = 62) → alG r f2 = alO M (a, b) → Tables_alignOf_57 3 (b : Int) f2 (i : Int) σ Q := fun f2 hf2 he2 => by
          refine Tables_alignOf_57.i ?_
          rw [show (i : Int) + 1 = ((i + 1 : Nat) : Int) by omega]
          exact ih r (i + 1) f2 hn (by omega) g3 hf2 he2
        refine Tables_alignOf_5.i ⟨by unfold Rg; omega, by unfold Rg; omega, fun h => absurd h (by omega), fun _ => tB.i (by decide) (tB.i (by decide) ⟨by unfold Rg; omega, ?_⟩)⟩
        rw [ec]
        refine ⟨fun h => s57 f hf (by rw [if_pos h] at he; exact he), fun h => ?_⟩
        rw [if_neg h] at he
        refine ⟨fun h2 => ?_, fun h2 => ?_⟩
        · rw [if_pos h2] at he
          rw [he]
          exact hq
        · rw [if_neg (fun h9 => h9 h2)] at he
          have g54 : (c = 60 ∨ c = 94 ∨ c = 62) → Tables_alignOf_54 3 (b : Int) (i : Int) c σ Q := fun h3 => by
            rw [if_pos h3] at he
            exact Tables_alignOf_54.i (s57 c (Or.inr h3) he)
          refine ⟨fun h3 => g54 (Or.inl h3), fun h3 => ⟨fun h4 => g54 (Or.inr (Or.inl h4)), fun h4 => ⟨fun h5 => g54 (Or.inr (Or.inr h5)), fun h5 => ?_⟩⟩⟩
          rw [if_neg (by omega)] at he
          rw [he]
          exact hq
  exact Tables_alignOf.i (key _ (sgT M a b) a (-1) rfl hab rfl (Or.inl rfl) rfl)
theorem Tables_takeAlignment.c {a e : Nat} (hM : mX σ 3 = M) (hM4 : M.length ≤ 4000) (he : e ≤ M.length) (hX : mX σ 158 = spQ X) (hX8 : X.length ≤ 8) (hXb : TcB a e X) (hy : tcA M X = true → ∀ σ', mX σ' = mX σ → σ'.2.2 = σ.2.2 → (∀ y k, y ≠ 160 → mV σ' y k = mV σ y k) → (∀ k, k < 8 → mV σ' 160 k = if k < X.length then alO M (X.getD k (0, 0)) else mV σ 160 k) → Q (.inl (some 1)) σ') (hn : tcA M X = false → Q (.inl (some 0)) σ) : Tables_takeAlignment 3 σ Q := by
  have lX : (mX σ 158).length = 2 * X.length := by rw [hX, spQ_l]
  have at9 : ∀ k, k < X.length → rgt (mX σ 158) ((2 * k : Nat) : Int) = (((X.getD k (0, 0)).1 : Nat) : Int) ∧ rgt (mX σ 158) (((2 * k : Nat) : Int) + 1) = (((X.getD k (0, 0)).2 : Nat) : Int) := fun k hk => by
    have s := spQ_at hk
    rw [hX]
    refine ⟨?_, ?_⟩
    · rw [rgt_n (by rw [spQ_l]; omega)]
      exact s.1
    · rw [show ((2 * k : Nat) : Int) + 1 = ((2 * k + 1 : Nat) : Int) by omega, rgt_n (by rw [spQ_l]; omega)]
      exact s.2
  have bd : ∀ k, k < X.length → (X.getD k (0, 0)).1 ≤ (X.getD k (0, 0)).2 ∧ (X.getD k (0, 0)).2 ≤ M.length := fun k hk => by
    have hm : X.getD k (0, 0) ∈ X := by
      unfold List.getD
      rw [List.getElem?_eq_getElem hk, Option.getD_some]
      exact List.getElem_mem _
    have := hXb _ hm
    omega
  have l49 : ¬ ((2 * X.length : Nat) : Int) ≤ 0 → (∀ k, k < X.length → ¬ alO M (X.getD k (0, 0)) = -1) → ∀ (n j : Nat) (σ1 : MS), j + n = X.length → mX σ1 = mX σ → σ1.2.2 = σ.2.2 → (∀ y k, y ≠ 160 → mV σ1 y k = mV σ y k) → (∀ k, k < 8 → mV σ1 160 k = if k < j then alO M (X.getD k (0, 0)) else mV σ 160 k) → Tables_takeAlignment_49 3 (j : Int) σ1 Q := fun hX0 hall => by
    intro n
    induction n with
    | zero =>
      intro j σ1 hj x1 s1 v1 c1
      have ej : j = X.length := by omega
      have fin : Tables_takeAlignment_106 σ1 Q := by
        refine Tables_takeAlignment_106.i ?_
        rw [x1, lX]
        refine ⟨fun h => ?_, fun h => ?_⟩
        · exact absurd h hX0
        · refine hy ?_ σ1 x1 s1 v1 (by rw [← ej]; exact c1)
          unfold tcA
          rw [Bool.and_eq_true]
          refine ⟨?_, List.all_eq_true.mpr (fun p hp => ?_)⟩
          · cases hc : X with
            | nil =>
              rw [hc] at h
              exact absurd h (by decide)
            | cons x r => rfl
          · obtain ⟨i, hi, e9⟩ := List.mem_iff_getElem.mp hp
            have := hall i hi
            unfold List.getD at this
            rw [List.getElem?_eq_getElem hi, Option.getD_some, e9] at this
            exact decide_eq_true this
      refine Tables_takeAlignment_49.i ⟨by unfold Rg; omega, fun _ => fin, fun _ => ⟨by unfold Rg; omega, fun _ => fin, fun h => absurd h (by rw [x1, lX]; omega)⟩⟩
    | succ n ih =>
      intro j σ1 hj x1 s1 v1 c1
      have a1 := at9 j (by omega)
      have b1 := bd j (by omega)
      refine Tables_takeAlignment_49.i ⟨by unfold Rg; omega, fun h => absurd h (by omega), fun _ => ⟨by unfold Rg; omega, fun h => absurd h (by rw [x1, lX]; omega), fun _ => ⟨by unfold Rg; omega, by unfold Rg; omega, ?_⟩⟩⟩
      rw [x1, show 2 * (j : Int) = ((2 * j : Nat) : Int) by omega, a1.1, a1.2]
      refine Tables_alignOf.c (by rw [x1]; exact hM) hM4 b1.1 b1.2 ?_
      show 0 ≤ (j : Int) ∧ (j : Int) < 8 ∧ _
      refine ⟨by omega, by omega, ?_⟩
      rw [Int.toNat_natCast, show (j : Int) + 1 = ((j + 1 : Nat) : Int) by omega]
      refine ih (j + 1) _ (by omega) x1 s1 (fun y k h => (wV_ne (Or.inl h)).trans (v1 y k h)) (fun k hk => ?_)
      by_cases e9 : k = j
      · rw [e9, wV_self, if_pos (by omega)]
      · rw [wV_ne (Or.inr e9), c1 k hk]
        by_cases h : k < j
        · rw [if_pos h, if_pos (by omega)]
        · rw [if_neg h, if_neg (by omega)]
  have l2 : ∀ (n j : Nat), j + n = X.length → (∀ k, k < j → ¬ alO M (X.getD k (0, 0)) = -1) → Tables_takeAlignment_2 3 ((2 * j : Nat) : Int) σ Q := by
    intro n
    induction n with
    | zero =>
      intro j hj hall
      refine Tables_takeAlignment_2.i ⟨by unfold Rg; omega, fun _ => ?_, fun h => absurd h (by rw [lX]; omega)⟩
      by_cases hX0 : ((2 * X.length : Nat) : Int) ≤ 0
      · have x0 : X = [] := List.eq_nil_of_length_eq_zero (by omega)
        have fin : Tables_takeAlignment_106 σ Q := by
          refine Tables_takeAlignment_106.i ?_
          rw [lX]
          exact ⟨fun _ => hn (by rw [x0]; rfl), fun h => absurd h (by omega)⟩
        exact Tables_takeAlignment_49.i ⟨by decide, fun _ => fin, fun _ => ⟨by decide, fun _ => fin, fun h => absurd h (by rw [lX]; omega)⟩⟩
      · exact l49 hX0 (fun k hk => hall k (by omega)) X.length 0 σ (by omega) rfl rfl (fun _ _ _ => rfl) (fun k _ => by rw [if_neg (Nat.not_lt_zero _)])
    | succ n ih =>
      intro j hj hall
      have a1 := at9 j (by omega)
      have b1 := bd j (by omega)
      refine Tables_takeAlignment_2.i ⟨by unfold Rg; omega, fun h => absurd h (by rw [lX]; omega), fun _ => ⟨by unfold Rg; omega, by unfold Rg; omega, ?_⟩⟩
      rw [a1.1, a1.2]
      refine Tables_alignOf.c hM hM4 b1.1 b1.2 ?_
      show (¬ alO M (X.getD j (0, 0)) = -1 → _) ∧ (alO M (X.getD j (0, 0)) = -1 → _)
      refine ⟨fun h => ?_, fun h => hn ?_⟩
      · rw [show ((2 * j : Nat) : Int) + 2 = ((2 * (j + 1) : Nat) : Int) by omega]
        refine ih (j + 1) (by omega) (fun k hk => ?_)
        by_cases e9 : k = j
        · rw [e9]
          exact h
        · exact hall k (by omega)
      · cases e9 : tcA M X with
        | false => rfl
        | true =>
          unfold tcA at e9
          rw [Bool.and_eq_true] at e9
          have hm : X.getD j (0, 0) ∈ X := by
            unfold List.getD
            rw [List.getElem?_eq_getElem (by omega), Option.getD_some]
            exact List.getElem_mem _
          exact absurd h (of_decide_eq_true (List.all_eq_true.mp e9.2 _ hm))
  exact Tables_takeAlignment.i (l2 X.length 0 (by omega) (fun k hk => absurd hk (Nat.not_lt_zero _)))
end
