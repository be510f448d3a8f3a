/-! TABLES: the document parts a line; the class -/
/-- cells behind the place i; st where the open one began, d braces, em whether it is blank; e the line's end -/
def tcP (e : Nat) : Nat → List Int → Nat → Nat → Nat → Bool → List (Nat × Nat)
  | 0, _, _, st, _, em => if em = true then [] else [(st, e)]
  | _ + 1, [], _, st, _, em => if em = true then [] else [(st, e)]
  | n + 1, c :: r, i, st, d, em => if c = 124 ∧ d = 0 then (st, i) :: tcP e n r (i + 1) (i + 1) d true else if c = 92 then tcP e n r.tail (i + 2) st d false else tcP e n r (i + 1) st (if c = 123 then d + 1 else if c = 125 then d - 1 else d) (em && decide (c = 32))
def tcL (M : List Int) (a e : Nat) : List (Nat × Nat) := tcP e (e - (a + 1)) (sgT M (a + 1) e) (a + 1) (a + 1) 0 true
def spQ : List (Nat × Nat) → List Int
  | [] => []
  | p :: r => (p.1 : Int) :: (p.2 : Int) :: spQ r
theorem spQ_l : ∀ {X : List (Nat × Nat)}, (spQ X).length = 2 * X.length
  | [] => rfl
  | p :: r => by
    show (spQ r).length + 1 + 1 = 2 * (r.length + 1)
    rw [spQ_l]
    omega
theorem spQ_a : ∀ {X Y : List (Nat × Nat)}, spQ (X ++ Y) = spQ X ++ spQ Y
  | [], Y => rfl
  | p :: r, Y => by
    show (p.1 : Int) :: (p.2 : Int) :: spQ (r ++ Y) = (p.1 : Int) :: (p.2 : Int) :: (spQ r ++ spQ Y)
    rw [spQ_a]
/-- where a cell may lie -/
def TcB (a e : Nat) (X : List (Nat × Nat)) : Prop := ∀ p ∈ X, a ≤ p.1 ∧ p.1 ≤ p.2 ∧ p.2 ≤ e
theorem tcP_b {a e : Nat} : ∀ (n : Nat) (r : List Int) (i st d : Nat) (em : Bool), a ≤ st → st ≤ i → i + r.length ≤ e ∨ r = [] → (st ≤ e) → TcB a e (tcP e n r i st d em)
  | 0, r, i, st, d, em, h1, h2, h3, h4 => fun p hp => by
    have hp : p ∈ (if em = true then [] else [(st, e)]) := hp
    split at hp
    · exact absurd hp List.not_mem_nil
    · rw [List.mem_singleton.mp hp]
      exact ⟨h1, h4, Nat.le_refl _⟩
  | n + 1, [], i, st, d, em, h1, h2, h3, h4 => fun p hp => by
    have hp : p ∈ (if em = true then [] else [(st, e)]) := hp
    split at hp
    · exact absurd hp List.not_mem_nil
    · rw [List.mem_singleton.mp hp]
      exact ⟨h1, h4, Nat.le_refl _⟩
  | n + 1, c :: r, i, st, d, em, h1, h2, h3, h4 => fun p hp => by
    have h3 : i + (r.length + 1) ≤ e := by
      rcases h3 with h | h
      · exact h
      · cases h
    have hp : p ∈ (if c = 124 ∧ d = 0 then (st, i) :: tcP e n r (i + 1) (i + 1) d true else if c = 92 then tcP e n r.tail (i + 2) st d false else tcP e n r (i + 1) st (if c = 123 then d + 1 else if c = 125 then d - 1 else d) (em && decide (c = 32))) := hp
    split at hp
    · rcases List.mem_cons.mp hp with hp | hp
      · rw [hp]
        exact ⟨h1, h2, by show i ≤ e; omega⟩
      · exact tcP_b n r (i + 1) (i + 1) d true (by omega) (Nat.le_refl _) (Or.inl (by omega)) (by omega) p hp
    · split at hp
      · refine tcP_b n r.tail (i + 2) st d false h1 (by omega) ?_ h4 p hp
        cases r with
        | nil => exact Or.inr rfl
        | cons x t =>
          refine Or.inl ?_
          show i + 2 + t.length ≤ e
          rw [List.length_cons] at h3
          omega
      · exact tcP_b n r (i + 1) st _ _ h1 (by omega) (Or.inl (by omega)) h4 p hp
theorem tcL_b {M : List Int} {a e : Nat} (h : a + 1 ≤ e) (he : e ≤ M.length) : TcB (a + 1) e (tcL M a e) := by
  have l := sgT_l (U := M) (a := a + 1) he
  exact tcP_b _ _ _ _ _ _ (Nat.le_refl _) (Nat.le_refl _) (Or.inl (by rw [l]; omega)) h
section
variable {σ σ0 : MS} {Q : MQ9} {M : List Int} {e : Nat}
theorem sgT_tl {i : Nat} {c : Int} {r : List Int} (he : e ≤ M.length) (h : c :: r = sgT M i e) : i < e ∧ M.getD i 0 = c ∧ r = sgT M (i + 1) e := by
  have hl := sgT_l (U := M) (a := i) he
  rw [← h] at hl
  have hl : r.length + 1 = e - i := hl
  have hi : i < e := by omega
  rw [sgT_c hi he] at h
  exact ⟨hi, (List.cons.inj h).1.symm, (List.cons.inj h).2⟩
theorem prt_22 (hM : mX σ0 3 = M) (hM4 : M.length ≤ 4000) (he : e ≤ M.length) : ∀ (n : Nat) (r : List Int) (i st d : Nat) (em : Bool) (acc : List (Nat × Nat)), r.length ≤ n → i ≤ e + 1 → (i ≤ e → r = sgT M i e) → (e < i → r = []) → acc.length ≤ i → st ≤ e + 1 → d ≤ i → Tables_part_175 (wX σ0 158 (spQ (acc ++ tcP e n r i st d em))) Q → Tables_part_22 3 (e : Int) (st : Int) (d : Int) (bZ em) (i : Int) (wX σ0 158 (spQ acc)) Q := by
  have fin : ∀ (i st d : Nat) (em : Bool) (acc : List (Nat × Nat)), e ≤ i → i ≤ e + 1 → acc.length ≤ i → st ≤ e + 1 → Tables_part_175 (wX σ0 158 (spQ (acc ++ (if em = true then [] else [(st, e)])))) Q → Tables_part_22 3 (e : Int) (st : Int) (d : Int) (bZ em) (i : Int) (wX σ0 158 (spQ acc)) Q := fun i st d em acc h1 h2 h3 h4 hq => by
    refine Tables_part_22.i ⟨by unfold Rg; omega, by unfold Rg; omega, fun _ => ⟨fun h => ?_, fun h => ?_⟩, fun h => absurd h (by omega)⟩
    · rw [bZ_ne h, if_pos rfl, List.append_nil] at hq
      exact hq
    · rw [bZ_z h, if_neg (by decide), spQ_a] at hq
      rw [wX_self, wX_wX, wX_wX, List.append_assoc]
      refine ⟨by unfold Rg; omega, by rw [spQ_l]; omega, by unfold Rg; omega, by rw [List.length_append, spQ_l]; show _ + 1 < _; omega, hq⟩
  intro n
  induction n with
  | zero =>
    intro r i st d em acc hn hi hr hr2 ha hs hd hq
    refine fin i st d em acc ?_ hi ha hs hq
    by_cases h : i ≤ e
    · have := hr h
      have l := sgT_l (U := M) (a := i) he
      rw [← this] at l
      omega
    · omega
  | succ n ih =>
    intro r i st d em acc hn hi hr hr2 ha hs hd hq
    cases r with
    | nil =>
      refine fin i st d em acc ?_ hi ha hs hq
      by_cases h : i ≤ e
      · have := hr h
        have l := sgT_l (U := M) (a := i) he
        rw [← this] at l
        have l : 0 = e - i := l
        omega
      · omega
    | cons c r =>
      have hie : i ≤ e := by
        by_cases h : i ≤ e
        · exact h
        · have := hr2 (by omega)
          cases this
      obtain ⟨g1, g2, g3⟩ := sgT_tl he (hr hie)
      rw [List.length_cons] at hn
      have ec : rgt (mX (wX σ0 158 (spQ acc)) 3) (i : Int) = c := by
        rw [wX_ne (by decide), hM, ← g2]
        exact rgt_n (by omega)
      have hq : Tables_part_175 (wX σ0 158 (spQ (acc ++ (if c = 124 ∧ d = 0 then (st, i) :: tcP e n r (i + 1) (i + 1) d true else if c = 92 then tcP e n r.tail (i + 2) st d false else tcP e n r (i + 1) st (if c = 123 then d + 1 else if c = 125 then d - 1 else d) (em && decide (c = 32)))))) Q := hq
      have s147 : ¬ (c = 124 ∧ d = 0) → ¬ c = 92 → ∀ (d2 : Nat) (em2 : Bool), d2 = (if c = 123 then d + 1 else if c = 125 then d - 1 else d) → em2 = (em && decide (c = 32)) → Tables_part_147 3 (e : Int) (st : Int) (d2 : Int) (bZ em2) (i : Int) (wX σ0 158 (spQ acc)) Q := fun h1 h2 d2 em2 hd2 he2 => by
        rw [if_neg h1, if_neg h2, ← hd2, ← he2] at hq
        refine Tables_part_147.i ?_
        rw [show (i : Int) + 1 = ((i + 1 : Nat) : Int) by omega]
        refine ih r (i + 1) st d2 em2 acc (by omega) (by omega) (fun _ => g3) (fun h => absurd h (by omega)) (by omega) hs ?_ hq
        rw [hd2]
        split
        · omega
        · split <;> omega
      have s147b : ¬ (c = 124 ∧ d = 0) → c = 92 → Tables_part_147 3 (e : Int) (st : Int) (d : Int) (bZ false) ((i : Int) + 1) (wX σ0 158 (spQ acc)) Q := fun h1 h2 => by
        rw [if_neg h1, if_pos h2] at hq
        refine Tables_part_147.i ?_
        rw [show (i : Int) + 1 + 1 = ((i + 2 : Nat) : Int) by omega]
        refine ih r.tail (i + 2) st d false acc (by rw [List.length_tail]; omega) (by omega) (fun h => ?_) (fun h => ?_) (by omega) hs (by omega) hq
        · cases r with
          | nil =>
            have l := sgT_l (U := M) (a := i + 1) he
            rw [← g3] at l
            have l : 0 = e - (i + 1) := l
            omega
          | cons x t => exact (sgT_tl he g3).2.2
        · cases r with
          | nil => rfl
          | cons x t =>
            have l := sgT_l (U := M) (a := i + 1) he
            rw [← g3] at l
            have l : t.length + 1 = e - (i + 1) := l
            omega
      have s127 : ¬ (c = 124 ∧ d = 0) → ∀ (em2 : Bool) (x : Int), em2 = (em && decide (c = 32)) → (d : Int) + x = (((if c = 123 then d + 1 else if c = 125 then d - 1 else d) : Nat) : Int) → Tables_part_127 3 (e : Int) (st : Int) (bZ em2) (i : Int) c (d : Int) x (wX σ0 158 (spQ acc)) Q := fun h1 em2 x he2 hx => by
        refine Tables_part_127.i ⟨fun h2 => Tables_part_144.i ?_, fun h2 => Tables_part_144.i ?_⟩
        · rw [hx, show (i : Int) + 0 = (i : Int) by omega]
          exact s147 h1 h2 _ em2 rfl he2
        · have e0 : (if c = 123 then d + 1 else if c = 125 then d - 1 else d) = d := by
            rw [if_neg (by omega), if_neg (by omega)]
          rw [hx, e0]
          have : em2 = false := by rw [he2, decide_eq_false (by omega), Bool.and_false]
          rw [this]
          exact s147b h1 h2
      have s95 : ¬ (c = 124 ∧ d = 0) → ∀ em2 : Bool, em2 = (em && decide (c = 32)) → Tables_part_95 3 (e : Int) (st : Int) (d : Int) (i : Int) c (bZ em2) (wX σ0 158 (spQ acc)) Q := fun h1 em2 he2 => by
        refine Tables_part_95.i ⟨fun h3 => ⟨fun h4 => Tables_part_126.i (s127 h1 em2 0 he2 ?_), fun h4 => ⟨by unfold Rg; omega, fun h5 => Tables_part_126.i (s127 h1 em2 0 he2 ?_), fun h5 => s127 h1 em2 (-1) he2 ?_⟩⟩, fun h3 => s127 h1 em2 1 he2 ?_⟩
        · rw [if_neg h3, if_neg h4]
          omega
        · rw [if_neg h3, if_pos h4]
          omega
        · rw [if_neg h3, if_pos h4]
          omega
        · rw [if_pos h3]
          omega
      have s78 : ¬ (c = 124 ∧ d = 0) → Tables_part_78 3 (e : Int) (st : Int) (d : Int) (bZ em) (i : Int) c (wX σ0 158 (spQ acc)) Q := fun h1 => by
        refine Tables_part_78.i ⟨fun h => Tables_part_94.i (s95 h1 false ?_), fun h => ⟨fun h2 => Tables_part_94.i (s95 h1 false ?_), fun h2 => s95 h1 true ?_⟩⟩
        · rw [bZ_z h]
          rfl
        · rw [decide_eq_false h2, Bool.and_false]
        · rw [bZ_ne h, decide_eq_true h2]
          rfl
      refine Tables_part_22.i ⟨by unfold Rg; omega, by unfold Rg; omega, fun h => absurd h (by omega), fun _ => tB.i (by decide) (tB.i (by decide) ⟨by unfold Rg; omega, ?_⟩)⟩
      rw [ec]
      refine ⟨fun h => s78 (fun h9 => h h9.1), fun h => ⟨by unfold Rg; omega, fun h2 => s78 (fun h9 => h2 (by rw [h9.2]; rfl)), fun h2 => ?_⟩⟩
      have hd0 : d = 0 := by omega
      rw [if_pos ⟨h, hd0⟩] at hq
      rw [wX_self, wX_wX, wX_wX, List.append_assoc]
      refine ⟨by unfold Rg; omega, by rw [spQ_l]; omega, by unfold Rg; omega, by rw [List.length_append, spQ_l]; show _ + 1 < _; omega, Tables_part_147.i ?_⟩
      have e2 : spQ acc ++ ([(st : Int)] ++ [(i : Int)]) = spQ (acc ++ [(st, i)]) := by
        rw [spQ_a]
        rfl
      rw [e2, show (i : Int) + 1 = ((i + 1 : Nat) : Int) by omega]
      refine ih r (i + 1) (i + 1) d true (acc ++ [(st, i)]) (by omega) (by omega) (fun _ => g3) (fun h => absurd h (by omega)) (by rw [List.length_append]; show _ + 1 ≤ _; omega) (by omega) (by omega) ?_
      rw [List.append_assoc]
      exact hq
/-- the class parts a line -/
theorem Tables_part.c {a : Nat} {w : Int × Int} (hM : mX σ 3 = M) (hM4 : M.length ≤ 4000) (hae : a + 1 ≤ e) (he : e ≤ M.length) (hw : mV σ 22 0 = w.1 ∧ mV σ 22 1 = w.2) (hy : (tcL M a e).length ≤ 8 → Q (.inl none) (wX σ 158 (spQ (tcL M a e)))) (hn : ¬ (tcL M a e).length ≤ 8 → TxF (wV (wX σ 158 (spQ (tcL M a e))) 22 2 9) (9, w.1, w.2) → Q (.inr (exN 0)) (wV (wX σ 158 (spQ (tcL M a e))) 22 2 9)) : Tables_part 3 (a : Int) (e : Int) σ Q := by
  refine Tables_part.i ?_
  rw [show (a : Int) + 1 = ((a + 1 : Nat) : Int) by omega]
  have := prt_22 (Q := Q) (σ0 := σ) hM hM4 he (e - (a + 1)) (sgT M (a + 1) e) (a + 1) (a + 1) 0 true [] (by rw [sgT_l he]; exact Nat.le_refl _) (by omega) (fun _ => rfl) (fun h => absurd h (by omega)) (Nat.zero_le _) (by omega) (by omega) ?_
  · exact this
  · rw [List.nil_append]
    show Tables_part_175 (wX σ 158 (spQ (tcL M a e))) Q
    refine Tables_part_175.i ?_
    rw [wX_self, spQ_l]
    exact ⟨fun h => hy (by omega), fun h => Purse_fail.g (by decide) hw.1 hw.2 (fun hx => hn (by omega) hx)⟩
end
