/-! NAMES: which word of a text stands in a row -/
def txI (j : Nat) : List Int := (strBy.getD j []).map (fun x => x.toInt)
def spW : List Int → List Int → List (List Int)
  | [], _ => []
  | x :: r, a => if x = 32 then a.reverse :: spW r [] else spW r (x :: a)
def wdT (j : Nat) : List (List Int) := spW (txI j) []
def jnW : List (List Int) → List Int
  | [] => []
  | w :: ws => w ++ 32 :: jnW ws
theorem tx_jn : ∀ j, j < 11 → j ≠ 3 → txI j = jnW (wdT j) ∧ (txI j).length = strLn.getD j 0 ∧ (∀ w ∈ wdT j, ∀ x ∈ w, ¬ x = 32) ∧ (wdT j).length ≤ 21 ∧ strLn.getD j 0 ≤ 90 := by decide +kernel
theorem tx_at {j i : Nat} : strI j (i : Int) = (txI j).getD i 0 := by
  unfold strI txI strC
  generalize strBy.getD j [] = l
  show (l.getD i 0).toInt = _
  rw [List.getD_eq_getElem?_getD, List.getD_eq_getElem?_getD, List.getElem?_map]
  cases l[i]? with
  | none => rfl
  | some x => rfl
/-- the place of a word among words, or NONE -/
def ixW : List (List Int) → Int → List Int → Int
  | [], _, _ => -1
  | w :: ws, k, U => if w = U then k else ixW ws (k + 1) U
theorem ixW_b : ∀ (ws : List (List Int)) (k : Int) (U : List Int), ixW ws k U = -1 ∨ (k ≤ ixW ws k U ∧ ixW ws k U < k + ws.length)
  | [], _, _ => Or.inl rfl
  | w :: ws, k, U => by
    unfold ixW
    rw [List.length_cons]
    split
    · exact Or.inr (by omega)
    · rcases ixW_b ws (k + 1) U with h | h
      · exact Or.inl h
      · exact Or.inr (by omega)
def pmW (q U : List Int) : Bool := decide (U.take q.length = q)
theorem pmW_sn {q U : List Int} {x : Int} : pmW (q ++ [x]) U = (pmW q U && decide (q.length < U.length ∧ U.getD q.length 0 = x)) := by
  unfold pmW
  rw [Bool.eq_iff_iff, Bool.and_eq_true, decide_eq_true_iff, decide_eq_true_iff, decide_eq_true_iff, List.length_append, List.length_singleton, List.take_add_one]
  constructor
  · intro h
    by_cases hl : q.length < U.length
    · rw [List.getElem?_eq_getElem hl, Option.toList_some] at h
      have := List.append_inj' h rfl
      refine ⟨this.1, hl, ?_⟩
      rw [List.getD_eq_getElem?_getD, List.getElem?_eq_getElem hl]
      exact (List.cons.inj this.2).1
    · rw [List.getElem?_eq_none (by omega), Option.toList_none, List.append_nil] at h
      have := congrArg List.length h
      rw [List.length_append, List.length_singleton, List.length_take] at this
      omega
  · rintro ⟨h1, hl, h2⟩
    rw [List.getD_eq_getElem?_getD, List.getElem?_eq_getElem hl] at h2
    rw [List.getElem?_eq_getElem hl, Option.toList_some, h1]
    rw [show U[q.length] = x from h2]
theorem pmW_eq {w U : List Int} : (pmW w U = true ∧ w.length = U.length) ↔ w = U := by
  unfold pmW
  rw [decide_eq_true_iff]
  constructor
  · rintro ⟨h1, h2⟩
    rw [h2, List.take_length] at h1
    exact h1.symm
  · intro h
    subst h
    exact ⟨List.take_length, rfl⟩
theorem pmW_nil {U : List Int} : pmW [] U = true := rfl
/-- the class -/
theorem Rules_nameIndex_12.s {σ : MS} {Q : MQ9} {j l1 : Nat} (hj : j < 11) (hj3 : j ≠ 3) (hr : isRow l1 = true) {U : List Int} {fr : Int} (hf : 0 ≤ fr ∧ fr ≤ 140000) (hu : U.length ≤ 140000) (hU : ∀ t, t < U.length → rgt (mX σ l1) (fr + t) = U.getD t 0) : ∀ (ws : List (List Int)) (p : List Int) (k : Int), txI j = p ++ jnW ws → (∀ w ∈ ws, ∀ x ∈ w, ¬ x = 32) → 0 ≤ k ∧ k + ws.length ≤ 100 → Q (.inl (some (ixW ws k U))) σ → Rules_nameIndex_12 (360 + j) l1 fr (fr + (U.length : Int)) k (p.length : Int) 1 (p.length : Int) σ Q := by
  obtain ⟨-, t2, -, -, t5⟩ := tx_jn j hj hj3
  have hs : isStr (360 + j) = true := by
    have : ∀ j, j < 11 → isStr (360 + j) = true := by decide
    exact this j hj
  have ej : 360 + j - 360 = j := by omega
  intro ws
  induction ws with
  | nil =>
    intro p k he hw hk hq
    rw [show jnW [] = [] from rfl, List.append_nil] at he
    refine Rules_nameIndex_12.i (tB.i (by rw [hs]; rfl) ⟨by rw [← he]; unfold Rg; omega, fun _ => hq, fun h9 => absurd h9 ?_⟩)
    rw [ej, ← t2, he]
    omega
  | cons w ws ih =>
    intro p k he hw hk hq
    rw [List.length_cons] at hk
    have el : (txI j).length = p.length + w.length + 1 + (jnW ws).length := by
      rw [he, show jnW (w :: ws) = w ++ 32 :: jnW ws from rfl, List.length_append, List.length_append, List.length_cons]
      omega
    have inner : ∀ (r q : List Int), w = q ++ r → Rules_nameIndex_12 (360 + j) l1 fr (fr + (U.length : Int)) k (p.length : Int) (bZ (pmW q U)) ((p.length + q.length : Nat) : Int) σ Q := by
      intro r
      induction r with
      | nil =>
        intro q hq0
        rw [List.append_nil] at hq0
        subst hq0
        have e32 : strI j ((p.length + w.length : Nat) : Int) = 32 := by
          rw [tx_at, he, getD_r]
          show (w ++ 32 :: jnW ws).getD w.length 0 = 32
          have := getD_r (L := w) (M := 32 :: jnW ws) (n := 0)
          rw [Nat.add_zero] at this
          exact this
        have nx : Rules_nameIndex_55 (360 + j) l1 fr (fr + (U.length : Int)) k ((p.length + w.length : Nat) : Int) σ Q ∨ w = U := by
          by_cases hwU : w = U
          · exact Or.inr hwU
          · refine Or.inl (Rules_nameIndex_55.i (Rules_nameIndex_100.i ?_))
            unfold ixW at hq
            rw [if_neg hwU] at hq
            have := ih (p ++ w ++ [32]) (k + 1) (by rw [he, show jnW (w :: ws) = w ++ 32 :: jnW ws from rfl, List.append_assoc, List.append_assoc]; rfl) (fun w' hw' => hw w' (List.mem_cons_of_mem _ hw')) (by omega) hq
            rw [List.length_append, List.length_append, List.length_singleton] at this
            exact this
        refine Rules_nameIndex_12.i (tB.i (by rw [hs]; rfl) ⟨by unfold Rg; omega, fun h9 => absurd h9 ?_, fun _ => tB.i (by rw [hs]; rfl) ⟨by omega, ?_, ?_⟩⟩)
        · rw [ej, ← t2]; omega
        · rw [ej, ← t2]; omega
        · rw [ej, e32]
          refine ⟨fun h9 => absurd rfl h9, fun _ => ⟨fun a => nx.resolve_right (fun h => ?_), fun a => ⟨by unfold Rg; omega, by unfold Rg; omega, fun b => nx.resolve_right (fun h => ?_), fun b => ⟨by unfold Rg; omega, ?_⟩⟩⟩⟩
          · have := (pmW_eq.mpr h).1
            rw [bZ_z a] at this
            exact Bool.noConfusion this
          · rw [h] at b; omega
          · have e : w = U := pmW_eq.mp ⟨bZ_ne a, by omega⟩
            unfold ixW at hq
            rw [if_pos e] at hq
            exact hq
      | cons x r ih2 =>
        intro q hq0
        have hx : strI j ((p.length + q.length : Nat) : Int) = x := by
          rw [tx_at, he, getD_r]
          show (w ++ 32 :: jnW ws).getD q.length 0 = x
          rw [hq0, List.append_assoc]
          have := getD_r (L := q) (M := (x :: r) ++ 32 :: jnW ws) (n := 0)
          rw [Nat.add_zero] at this
          exact this
        have hx32 : ¬ x = 32 := hw w List.mem_cons_self x (by rw [hq0]; exact List.mem_append_right _ List.mem_cons_self)
        have hwl : w.length = q.length + 1 + r.length := len_at hq0
        have nx := ih2 (q ++ [x]) (by rw [hq0, List.append_assoc]; rfl)
        rw [pmW_sn] at nx
        have e2 : ((p.length + (q ++ [x]).length : Nat) : Int) = ((p.length + q.length : Nat) : Int) + 1 := by rw [List.length_append, List.length_singleton]; omega
        rw [e2] at nx
        have no : ¬ (q.length < U.length ∧ U.getD q.length 0 = x) → Rules_nameIndex_97 (360 + j) l1 fr (fr + (U.length : Int)) k (p.length : Int) ((p.length + q.length : Nat) : Int) σ Q := fun h => by
          rw [decide_eq_false h, Bool.and_false] at nx
          exact Rules_nameIndex_97.i (Rules_nameIndex_100.i nx)
        refine Rules_nameIndex_12.i (tB.i (by rw [hs]; rfl) ⟨by unfold Rg; omega, fun h9 => absurd h9 ?_, fun _ => tB.i (by rw [hs]; rfl) ⟨by omega, ?_, ?_⟩⟩)
        · rw [ej, ← t2]; omega
        · rw [ej, ← t2]; omega
        · rw [ej, hx]
          refine ⟨fun _ => ⟨by unfold Rg; omega, by unfold Rg; omega, fun a => no (by omega), fun a => tB.i hr (tB.i hr ⟨by unfold Rg; omega, ?_⟩)⟩, fun h9 => absurd h9 hx32⟩
          rw [show fr + ((p.length + q.length : Nat) : Int) - (p.length : Int) = fr + (q.length : Int) by omega, hU q.length (by omega)]
          refine ⟨fun b => ?_, fun b => no (fun h => b h.2)⟩
          rw [decide_eq_true ⟨by omega, b⟩, Bool.and_true] at nx
          exact Rules_nameIndex_100.i nx
    have := inner w [] rfl
    rw [pmW_nil, List.length_nil, Nat.add_zero] at this
    exact this
theorem Rules_nameIndex.s {σ : MS} {Q : MQ9} {j l1 : Nat} (hj : j < 11) (hj3 : j ≠ 3) (hr : isRow l1 = true) {U : List Int} {fr to : Int} (hf : 0 ≤ fr ∧ fr ≤ 140000) (hu : U.length ≤ 140000) (ht : to = fr + (U.length : Int)) (hU : ∀ t, t < U.length → rgt (mX σ l1) (fr + t) = U.getD t 0) (hq : Q (.inl (some (ixW (wdT j) 0 U))) σ) : Rules_nameIndex (360 + j) l1 fr to σ Q := by
  obtain ⟨t1, -, t3, t4, -⟩ := tx_jn j hj hj3
  subst ht
  exact Rules_nameIndex.i (Rules_nameIndex_12.s hj hj3 hr hf hu hU (wdT j) [] 0 t1 t3 (by omega) hq)
/-- the reference -/
theorem R_wordOf_6.s {σ : MS} {Q : MQ9} {j : Nat} (hj : j < 11) (hj3 : j ≠ 3) {U : List Int} {fr : Nat} (hu : fr + U.length ≤ 8100) (hU : holA σ 252 fr U) : ∀ (ws : List (List Int)) (p : List Int) (k : Int), txI j = p ++ jnW ws → (∀ w ∈ ws, ∀ x ∈ w, ¬ x = 32) → 0 ≤ k ∧ k + ws.length ≤ 100 → Q (.inl (some (ixW ws k U))) σ → R_wordOf_6 (360 + j) (fr : Int) ((fr + U.length : Nat) : Int) k (p.length : Int) σ Q := by
  obtain ⟨-, t2, -, -, t5⟩ := tx_jn j hj hj3
  have hs : isStr (360 + j) = true := by
    have : ∀ j, j < 11 → isStr (360 + j) = true := by decide
    exact this j hj
  have ej : 360 + j - 360 = j := by omega
  intro ws
  induction ws with
  | nil =>
    intro p k he hw hk hq
    rw [show jnW [] = [] from rfl, List.append_nil] at he
    refine R_wordOf_6.i (tB.i (by rw [hs]; rfl) ⟨by rw [← he]; unfold Rg; omega, fun _ => hq, fun h9 => absurd h9 ?_⟩)
    rw [ej, ← t2, he]
    omega
  | cons w ws ih =>
    intro p k he hw hk hq
    rw [List.length_cons] at hk
    have el : (txI j).length = p.length + w.length + 1 + (jnW ws).length := by
      rw [he, show jnW (w :: ws) = w ++ 32 :: jnW ws from rfl, List.length_append, List.length_append, List.length_cons]
      omega
    have hx : ∀ q r x, w = q ++ x :: r → strI j ((p.length : Int) + (q.length : Int)) = x := fun q r x hq0 => by
      rw [show (p.length : Int) + (q.length : Int) = ((p.length + q.length : Nat) : Int) by omega, tx_at, he, getD_r]
      show (w ++ 32 :: jnW ws).getD q.length 0 = x
      rw [hq0, List.append_assoc]
      have := getD_r (L := q) (M := (x :: r) ++ 32 :: jnW ws) (n := 0)
      rw [Nat.add_zero] at this
      exact this
    have e32 : strI j ((p.length : Int) + (w.length : Int)) = 32 := by
      rw [show (p.length : Int) + (w.length : Int) = ((p.length + w.length : Nat) : Int) by omega, tx_at, he, getD_r]
      show (w ++ 32 :: jnW ws).getD w.length 0 = 32
      have := getD_r (L := w) (M := 32 :: jnW ws) (n := 0)
      rw [Nat.add_zero] at this
      exact this
    have h102 : R_wordOf_102 (360 + j) (fr : Int) ((fr + U.length : Nat) : Int) k (p.length : Int) (w.length : Int) (bZ (decide (w = U))) σ Q := by
      unfold ixW at hq
      refine R_wordOf_102.i ⟨fun a => ?_, fun a => ⟨by unfold Rg; omega, ?_⟩⟩
      · rw [if_neg (of_decide_eq_false (bZ_z a))] at hq
        have := ih (p ++ w ++ [32]) (k + 1) (by rw [he, show jnW (w :: ws) = w ++ 32 :: jnW ws from rfl, List.append_assoc, List.append_assoc]; rfl) (fun w' hw' => hw w' (List.mem_cons_of_mem _ hw')) (by omega) hq
        rw [List.length_append, List.length_append, List.length_singleton, show ((p.length + w.length + 1 : Nat) : Int) = (p.length : Int) + ((w.length : Int) + 1) by omega] at this
        exact this
      · rw [if_pos (of_decide_eq_true (bZ_ne a))] at hq
        exact hq
    obtain ⟨z0, z1⟩ := bz2 (P := fun s => R_wordOf_102 (360 + j) (fr : Int) ((fr + U.length : Nat) : Int) k (p.length : Int) (w.length : Int) s σ Q) h102
    have m0 : ¬ w = U → R_wordOf_102 (360 + j) (fr : Int) ((fr + U.length : Nat) : Int) k (p.length : Int) (w.length : Int) 0 σ Q := fun h => z0 (bZ_f (decide_eq_false h))
    have m1 : w = U → R_wordOf_102 (360 + j) (fr : Int) ((fr + U.length : Nat) : Int) k (p.length : Int) (w.length : Int) 1 σ Q := fun h => z1 (by rw [bZ_t (decide_eq_true h)]; decide)
    have h51 : ∀ b : Bool, (b = true ↔ w.length = U.length) → R_wordOf_51 (360 + j) (fr : Int) ((fr + U.length : Nat) : Int) k (p.length : Int) (w.length : Int) (bZ b) σ Q := by
      intro b hb
      refine R_wordOf_51.i ?_
      cases b with
      | false =>
        have hn : ¬ w = U := fun e => Bool.noConfusion (hb.mpr (by rw [e]))
        exact R_wordOf_56.i ⟨by decide, by unfold Rg; omega, fun _ => m0 hn, fun _ => ⟨fun _ => m0 hn, fun h9 => absurd rfl h9⟩⟩
      | true =>
        have hl : w.length = U.length := hb.mp rfl
        refine loopIs (P := fun is i => R_wordOf_56 (360 + j) (fr : Int) ((fr + U.length : Nat) : Int) k (p.length : Int) (w.length : Int) is i σ Q) (f := fun i => decide (w.getD i 0 = U.getD i 0)) (n := w.length) (fun i hi h => ?_) (fun e => ?_) (fun e i hi => ?_)
        · obtain ⟨k1, k0⟩ := bZ_q (P := fun r => R_wordOf_56 (360 + j) (fr : Int) ((fr + U.length : Nat) : Int) k (p.length : Int) (w.length : Int) r ((i : Int) + 1) σ Q) h
          have es : strI j ((p.length : Int) + (i : Int)) = w.getD i 0 := by
            have h1 : w = w.take i ++ w[i] :: w.drop (i + 1) := by rw [List.getElem_cons_drop, List.take_append_drop]
            have h2 := hx (w.take i) (w.drop (i + 1)) w[i] h1
            rw [List.length_take, show min i w.length = i by omega] at h2
            rw [h2, List.getD_eq_getElem?_getD, List.getElem?_eq_getElem hi]
            rfl
          refine R_wordOf_56.i ⟨by unfold Rg; omega, by unfold Rg; omega, fun h9 => absurd h9 (by omega), fun _ => ⟨fun h9 => absurd h9 (by decide), fun _ => tB.i (by rw [hs]; rfl) ⟨by omega, by rw [ej, ← t2]; omega, by omega, by omega, ?_⟩⟩⟩
          rw [ej, es, show ((fr : Int) + (i : Int)).toNat = fr + i by omega, hU i (by omega)]
          exact ⟨fun a => R_wordOf_94.i (k0 (decide_eq_false a)), fun a => R_wordOf_94.i (k1 (decide_eq_true a))⟩
        · have hwU : w = U := list_ext hl (fun i hi => of_decide_eq_true (allR_i.mp e i hi))
          exact R_wordOf_56.i ⟨by unfold Rg; omega, by unfold Rg; omega, fun _ => m1 hwU, fun h9 => absurd h9 (by omega)⟩
        · have hn : ¬ w = U := fun e2 => by
            have : allR (fun i => decide (w.getD i 0 = U.getD i 0)) w.length = true := allR_i.mpr (fun i _ => decide_eq_true (by rw [e2]))
            rw [this] at e
            exact Bool.noConfusion e
          exact R_wordOf_56.i ⟨by unfold Rg; omega, by unfold Rg; omega, fun _ => m0 hn, fun _ => ⟨fun _ => m0 hn, fun h9 => absurd rfl h9⟩⟩
    have h18 : ∀ (r q : List Int), w = q ++ r → R_wordOf_18 (360 + j) (fr : Int) ((fr + U.length : Nat) : Int) k (p.length : Int) (q.length : Int) σ Q := by
      intro r
      induction r with
      | nil =>
        intro q hq0
        rw [List.append_nil] at hq0
        subst hq0
        refine R_wordOf_18.i (tB.i (by rw [hs]; rfl) ⟨by omega, by rw [ej, ← t2]; omega, ?_⟩)
        rw [ej, e32]
        refine ⟨fun _ => ⟨by unfold Rg; omega, by unfold Rg; omega, fun a => ?_, fun a => ?_⟩, fun h9 => absurd rfl h9⟩
        · exact h51 false ⟨fun h => Bool.noConfusion h, fun h => absurd h (by omega)⟩
        · exact h51 true ⟨fun _ => by omega, fun _ => rfl⟩
      | cons x r ih2 =>
        intro q hq0
        have hwl : w.length = q.length + 1 + r.length := len_at hq0
        have hx32 : ¬ x = 32 := hw w List.mem_cons_self x (by rw [hq0]; exact List.mem_append_right _ List.mem_cons_self)
        refine R_wordOf_18.i (tB.i (by rw [hs]; rfl) ⟨by omega, by rw [ej, ← t2]; omega, ?_⟩)
        rw [ej, hx q r x hq0]
        refine ⟨fun h9 => absurd h9 hx32, fun _ => ?_⟩
        have := ih2 (q ++ [x]) (nxt_at hq0)
        rw [len_sn] at this
        exact this
    refine R_wordOf_6.i (tB.i (by rw [hs]; rfl) ⟨by unfold Rg; omega, fun h9 => absurd h9 ?_, fun _ => h18 w [] rfl⟩)
    rw [ej, ← t2]
    omega
theorem R_wordOf.s {σ : MS} {Q : MQ9} {j : Nat} (hj : j < 11) (hj3 : j ≠ 3) {U : List Int} {fr to : Nat} (hu : fr + U.length ≤ 8100) (ht : to = fr + U.length) (hU : holA σ 252 fr U) (hq : Q (.inl (some (ixW (wdT j) 0 U))) σ) : R_wordOf (360 + j) (fr : Int) (to : Int) σ Q := by
  obtain ⟨t1, -, t3, t4, -⟩ := tx_jn j hj hj3
  subst ht
  exact R_wordOf.i (R_wordOf_6.s hj hj3 hu hU (wdT j) [] 0 t1 t3 (by omega) hq)
theorem R_isWord.s {σ : MS} {Q : MQ9} {j : Nat} (hj : j < 11) (hj3 : j ≠ 3) {U : List Int} {fr to : Nat} (hu : fr + U.length ≤ 8100) (ht : to = fr + U.length) (hU : holA σ 252 fr U) (hq : Q (.inl (some (bZ (decide (ixW (wdT j) 0 U = 0))))) σ) : R_isWord (fr : Int) (to : Int) (360 + j) σ Q := by
  obtain ⟨q1, q0⟩ := bZ_q (P := fun r => Q (.inl (some r)) σ) hq
  exact R_isWord.i (R_wordOf.s hj hj3 hu ht hU ⟨fun a => q0 (decide_eq_false a), fun a => q1 (decide_eq_true a)⟩)
