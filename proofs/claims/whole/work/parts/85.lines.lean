/-! LINES OF THE MANUSCRIPT -/
/-- the first places of an array of the reference hold a list -/
def hol (σ : MS) (z : Nat) (L : List Int) : Prop := ∀ i, i < L.length → mV σ z i = L.getD i 0
theorem hol.at {σ : MS} {z : Nat} {L p r : List Int} {x : Int} (h : hol σ z L) (he : L = p ++ x :: r) : mV σ z p.length = x := by
  have hl : p.length < L.length := by rw [he]; simp
  rw [h _ hl, he]
  simp
theorem rgt_at {L p r : List Int} {x : Int} (he : L = p ++ x :: r) : rgt L (p.length : Int) = x := by
  unfold rgt
  have hl : p.length < L.length := by rw [he]; simp
  rw [if_pos ⟨by omega, by omega⟩, he]
  simp
theorem len_at {L p r : List Int} {x : Int} (he : L = p ++ x :: r) : L.length = p.length + 1 + r.length := by
  rw [he]
  simp
  omega
theorem nxt_at {L p r : List Int} {x : Int} (he : L = p ++ x :: r) : L = (p ++ [x]) ++ r := by rw [he]; simp
theorem len_sn {p : List Int} {x : Int} : ((p ++ [x]).length : Int) = (p.length : Int) + 1 := by simp
/-- how many lines stand in a row of signs -/
def lnR : List Int → Int
  | [] => 0
  | x :: r => (if x = 10 then 1 else if r = [] then 1 else 0) + lnR r
theorem lnR_b : ∀ L : List Int, 0 ≤ lnR L ∧ lnR L ≤ L.length
  | [] => ⟨Int.le_refl _, Int.le_refl _⟩
  | x :: r => by
    have h := lnR_b r
    unfold lnR
    rw [List.length_cons]
    split
    · omega
    · split <;> omega
theorem T_lineCount_4.s {σ : MS} {Q : MQ9} (hL : (mX σ 3).length ≤ 131072) : ∀ (r p : List Int) (l1 : Int), mX σ 3 = p ++ r → 0 ≤ l1 → l1 ≤ p.length → Q (.inl (some (l1 + lnR r))) σ → T_lineCount_4 l1 (p.length : Int) σ Q
  | [], p, l1, he, h0, h1, hq => by
    have hl : (mX σ 3).length = p.length := by rw [he]; simp
    refine T_lineCount_4.i ⟨Rg.n (by omega), fun _ => ⟨by unfold Rg; omega, ?_⟩, fun h => absurd h (by omega)⟩
    have e : l1 + lnR [] = l1 := Int.add_zero l1
    rw [e] at hq
    exact hq
  | x :: r, p, l1, he, h0, h1, hq => by
    have hl := len_at he
    have hx := rgt_at he
    have next : ∀ l : Int, 0 ≤ l → l ≤ (p.length : Int) + 1 → Q (.inl (some (l + lnR r))) σ → T_lineCount_44 l (p.length : Int) σ Q := by
      intro l a b c
      refine T_lineCount_44.i ?_
      rw [← len_sn (x := x)]
      exact T_lineCount_4.s hL r (p ++ [x]) l (nxt_at he) a (by rw [len_sn]; exact b) c
    refine T_lineCount_4.i ⟨Rg.n (by omega), fun h => absurd h (by omega), fun _ => ⟨Rg.n (by omega), fun h10 => ?_, fun h10 => ⟨by unfold Rg; omega, fun hn => ?_, fun hn => ?_⟩⟩⟩
    · rw [hx] at h10
      unfold lnR at hq
      rw [if_pos h10] at hq
      exact T_lineCount_41.i (next _ (by omega) (by omega) (by rw [Int.add_assoc]; exact hq))
    · rw [hx] at h10
      unfold lnR at hq
      rw [if_neg h10, if_neg (fun e => hn (by rw [hl, e]; simp)), Int.zero_add] at hq
      exact next _ h0 (by omega) hq
    · rw [hx] at h10
      unfold lnR at hq
      have hr : r = [] := List.eq_nil_of_length_eq_zero (by omega)
      rw [if_neg h10, if_pos hr] at hq
      exact T_lineCount_41.i (next _ (by omega) (by omega) (by rw [Int.add_assoc]; exact hq))
/-- the class counts the lines -/
theorem T_lineCount.s {σ : MS} {Q : MQ9} (hq : Q (.inl (some (lnR (mX σ 3)))) σ) : T_lineCount σ Q := WP.wf (fun w _ _ => T_lineCount.i (T_lineCount_4.s (w.2.2.1 3) (mX σ 3) [] 0 rfl (Int.le_refl _) (Int.le_refl _) (by rw [Int.zero_add]; exact hq)))
theorem R_linesOf_4.s {σ : MS} {Q : MQ9} {L : List Int} (hn : mV σ 246 7 = (L.length : Int)) (hh : hol σ 248 L) (hL : L.length ≤ 4000) : ∀ (r p : List Int) (l1 : Int), L = p ++ r → 0 ≤ l1 → l1 ≤ p.length → Q (.inl (some (l1 + lnR r))) σ → R_linesOf_4 l1 (p.length : Int) σ Q
  | [], p, l1, he, h0, h1, hq => by
    have hl : L.length = p.length := by rw [he]; simp
    refine R_linesOf_4.i ⟨Rg.n (by omega), fun _ => ⟨by unfold Rg; omega, ?_⟩, fun h => absurd h (by omega)⟩
    have e : l1 + lnR [] = l1 := Int.add_zero l1
    rw [e] at hq
    exact hq
  | x :: r, p, l1, he, h0, h1, hq => by
    have hl := len_at he
    have hx := hh.at he
    have next : ∀ s : Int, 0 ≤ l1 + s → l1 + s ≤ (p.length : Int) + 1 → Q (.inl (some (l1 + s + lnR r))) σ → R_linesOf_39 (p.length : Int) l1 s σ Q := by
      intro s a b c
      refine R_linesOf_39.i ?_
      rw [← len_sn (x := x)]
      exact R_linesOf_4.s hn hh hL r (p ++ [x]) (l1 + s) (nxt_at he) a (by rw [len_sn]; exact b) c
    refine R_linesOf_4.i ⟨Rg.n (by omega), fun h => absurd h (by omega), fun _ => ⟨by omega, by omega, fun h10 => ?_, fun h10 => ⟨Rg.n (by omega), by unfold Rg; omega, fun hm => ?_, fun hm => ?_⟩⟩⟩
    · rw [show ((p.length : Int)).toNat = p.length from rfl, hx] at h10
      unfold lnR at hq
      rw [if_pos h10] at hq
      exact R_linesOf_34.i (next 1 (by omega) (by omega) (by rw [Int.add_assoc]; exact hq))
    · rw [show ((p.length : Int)).toNat = p.length from rfl, hx] at h10
      unfold lnR at hq
      rw [if_neg h10, if_neg (fun e => hm (by rw [hn, hl, e]; simp)), Int.zero_add] at hq
      exact next 0 (by omega) (by omega) (by rw [Int.add_zero]; exact hq)
    · rw [show ((p.length : Int)).toNat = p.length from rfl, hx] at h10
      unfold lnR at hq
      have hr : r = [] := List.eq_nil_of_length_eq_zero (by omega)
      rw [if_neg h10, if_pos hr] at hq
      exact R_linesOf_34.i (next 1 (by omega) (by omega) (by rw [Int.add_assoc]; exact hq))
/-- the reference counts the lines -/
theorem R_linesOf.s {σ : MS} {Q : MQ9} {L : List Int} (hn : mV σ 246 7 = (L.length : Int)) (hh : hol σ 248 L) (hL : L.length ≤ 4000) (hq : Q (.inl (some (lnR L))) σ) : R_linesOf σ Q := R_linesOf.i (R_linesOf_4.s hn hh hL L [] 0 rfl (Int.le_refl _) (Int.le_refl _) (by rw [Int.zero_add]; exact hq))
