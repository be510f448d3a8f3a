/-! INDEX: how keys are compared -/
def cpL : List Int → List Int → Int
  | a :: r, b :: s => if lowS a = lowS b then cpL r s else lowS a - lowS b
  | _, _ => 0
def cpP : List Int → List Int → Int
  | a :: r, b :: s => if a = b then cpP r s else a - b
  | _, _ => 0
def cpK (a b : List Int) : Int := if cpL a b = 0 then (if a.length = b.length then cpP a b else (a.length : Int) - (b.length : Int)) else cpL a b
/-- an order of rows -/
def lx : List Int → List Int → Int
  | [], [] => 0
  | [], _ :: _ => -1
  | _ :: _, [] => 1
  | a :: r, b :: s => if a = b then lx r s else if a < b then -1 else 1
theorem lx_0 : ∀ {a b : List Int}, lx a b = 0 ↔ a = b
  | [], [] => ⟨fun _ => rfl, fun _ => rfl⟩
  | [], _ :: _ => ⟨fun h => absurd h (by unfold lx; decide), fun h => by cases h⟩
  | _ :: _, [] => ⟨fun h => absurd h (by unfold lx; decide), fun h => by cases h⟩
  | a :: r, b :: s => by
    unfold lx
    by_cases h : a = b
    · rw [if_pos h, lx_0 (a := r) (b := s), h]
      exact ⟨fun e => by rw [e], fun e => (List.cons.inj e).2⟩
    · rw [if_neg h]
      refine ⟨fun e => ?_, fun e => absurd (List.cons.inj e).1 h⟩
      split at e <;> exact absurd e (by decide)
theorem lx_an : ∀ {a b : List Int}, lx b a = - lx a b
  | [], [] => rfl
  | [], _ :: _ => rfl
  | _ :: _, [] => rfl
  | a :: r, b :: s => by
    unfold lx
    by_cases h : a = b
    · rw [if_pos h, if_pos h.symm]
      exact lx_an
    · rw [if_neg h, if_neg (fun e => h e.symm)]
      by_cases h2 : a < b
      · rw [if_pos h2, if_neg (by omega)]
        rfl
      · rw [if_neg h2, if_pos (by omega)]
theorem lx_tr : ∀ {a b c : List Int}, lx a b < 0 → lx b c < 0 → lx a c < 0
  | [], [], c, h, _ => absurd h (by unfold lx; decide)
  | _ :: _, [], c, h, _ => absurd h (by unfold lx; decide)
  | _, _ :: _, [], _, h => absurd h (by unfold lx; decide)
  | [], _ :: _, _ :: _, _, _ => by unfold lx; decide
  | a :: r, b :: s, c :: t, h1, h2 => by
    unfold lx at h1 h2 ⊢
    by_cases e1 : a = b
    · rw [if_pos e1] at h1
      by_cases e2 : b = c
      · rw [if_pos e2] at h2
        rw [if_pos (e1.trans e2)]
        exact lx_tr h1 h2
      · rw [if_neg e2] at h2
        rw [e1, if_neg e2]
        exact h2
    · rw [if_neg e1] at h1
      have l1 : a < b := by
        by_cases l : a < b
        · exact l
        · rw [if_neg l] at h1
          exact absurd h1 (by decide)
      by_cases e2 : b = c
      · rw [← e2, if_neg e1, if_pos l1]
        decide
      · rw [if_neg e2] at h2
        have l2 : b < c := by
          by_cases l : b < c
          · exact l
          · rw [if_neg l] at h2
            exact absurd h2 (by decide)
        rw [if_neg (by omega), if_pos (by omega)]
        decide
theorem cpL_lx : ∀ {a b : List Int}, (cpL a b < 0 → lx (a.map lowS) (b.map lowS) < 0) ∧ (0 < cpL a b → 0 < lx (a.map lowS) (b.map lowS)) ∧ (cpL a b = 0 → (a.length < b.length → lx (a.map lowS) (b.map lowS) < 0) ∧ (b.length < a.length → 0 < lx (a.map lowS) (b.map lowS)) ∧ (a.length = b.length → a.map lowS = b.map lowS))
  | [], [] => ⟨fun h => absurd h (by unfold cpL; decide), fun h => absurd h (by unfold cpL; decide), fun _ => ⟨fun h => absurd h (Nat.lt_irrefl _), fun h => absurd h (Nat.lt_irrefl _), fun _ => rfl⟩⟩
  | [], _ :: _ => ⟨fun h => absurd h (by unfold cpL; decide), fun h => absurd h (by unfold cpL; decide), fun _ => ⟨fun _ => by show (-1 : Int) < 0; decide, fun h => absurd h (Nat.not_lt_zero _), fun h => by cases h⟩⟩
  | _ :: _, [] => ⟨fun h => absurd h (by unfold cpL; decide), fun h => absurd h (by unfold cpL; decide), fun _ => ⟨fun h => absurd h (Nat.not_lt_zero _), fun _ => by show (0 : Int) < 1; decide, fun h => by cases h⟩⟩
  | a :: r, b :: s => by
    have ih := cpL_lx (a := r) (b := s)
    show (cpL (a :: r) (b :: s) < 0 → lx (lowS a :: r.map lowS) (lowS b :: s.map lowS) < 0) ∧ (0 < cpL (a :: r) (b :: s) → 0 < lx (lowS a :: r.map lowS) (lowS b :: s.map lowS)) ∧ (cpL (a :: r) (b :: s) = 0 → (r.length + 1 < s.length + 1 → lx (lowS a :: r.map lowS) (lowS b :: s.map lowS) < 0) ∧ (s.length + 1 < r.length + 1 → 0 < lx (lowS a :: r.map lowS) (lowS b :: s.map lowS)) ∧ (r.length + 1 = s.length + 1 → lowS a :: r.map lowS = lowS b :: s.map lowS))
    unfold cpL lx
    by_cases h : lowS a = lowS b
    · rw [if_pos h, if_pos h]
      exact ⟨ih.1, ih.2.1, fun e => ⟨fun l => (ih.2.2 e).1 (by omega), fun l => (ih.2.2 e).2.1 (by omega), fun l => by rw [h, (ih.2.2 e).2.2 (by omega)]⟩⟩
    · rw [if_neg h, if_neg h]
      refine ⟨fun l => ?_, fun l => ?_, fun l => absurd l (by omega)⟩
      · rw [if_pos (by omega)]
        decide
      · rw [if_neg (by omega)]
        decide
theorem cpP_lx : ∀ {a b : List Int}, a.length = b.length → (cpP a b < 0 → lx a b < 0) ∧ (0 < cpP a b → 0 < lx a b) ∧ (cpP a b = 0 → a = b)
  | [], [], _ => ⟨fun h => absurd h (by unfold cpP; decide), fun h => absurd h (by unfold cpP; decide), fun _ => rfl⟩
  | [], _ :: _, h => by cases h
  | _ :: _, [], h => by cases h
  | a :: r, b :: s, hl => by
    have ih := cpP_lx (a := r) (b := s) (Nat.succ.inj hl)
    unfold cpP lx
    by_cases h : a = b
    · rw [if_pos h, if_pos h, h]
      exact ⟨ih.1, ih.2.1, fun e => by rw [ih.2.2 e]⟩
    · rw [if_neg h, if_neg h]
      refine ⟨fun l => ?_, fun l => ?_, fun l => absurd l (by omega)⟩
      · rw [if_pos (by omega)]
        decide
      · rw [if_neg (by omega)]
        decide
/-- keys in order: by small letters, then as they are -/
def kLt (a b : List Int) : Prop := lx (a.map lowS) (b.map lowS) < 0 ∨ (a.map lowS = b.map lowS ∧ lx a b < 0)
theorem cpK_s {a b : List Int} : (cpK a b < 0 → kLt a b) ∧ (0 < cpK a b → kLt b a) ∧ (cpK a b = 0 → a = b) := by
  have h1 := cpL_lx (a := a) (b := b)
  unfold cpK
  by_cases e : cpL a b = 0
  · rw [if_pos e]
    by_cases l : a.length = b.length
    · rw [if_pos l]
      have h2 := cpP_lx l
      have em := (h1.2.2 e).2.2 l
      refine ⟨fun h => Or.inr ⟨em, h2.1 h⟩, fun h => Or.inr ⟨em.symm, ?_⟩, h2.2.2⟩
      rw [lx_an]
      have := h2.2.1 h
      omega
    · rw [if_neg l]
      refine ⟨fun h => Or.inl ((h1.2.2 e).1 (by omega)), fun h => Or.inl ?_, fun h => absurd h (by omega)⟩
      rw [lx_an]
      have := (h1.2.2 e).2.1 (by omega)
      omega
  · rw [if_neg e]
    refine ⟨fun h => Or.inl (h1.1 h), fun h => Or.inl ?_, fun h => absurd h e⟩
    rw [lx_an]
    have := h1.2.1 h
    omega
theorem kLt_ir {a : List Int} : ¬ kLt a a := by
  rintro (h | ⟨_, h⟩)
  · rw [lx_0.mpr rfl] at h
    exact absurd h (by decide)
  · rw [lx_0.mpr rfl] at h
    exact absurd h (by decide)
theorem kLt_tr {a b c : List Int} (h1 : kLt a b) (h2 : kLt b c) : kLt a c := by
  rcases h1 with h1 | ⟨e1, h1⟩
  · rcases h2 with h2 | ⟨e2, h2⟩
    · exact Or.inl (lx_tr h1 h2)
    · rw [e2] at h1
      exact Or.inl h1
  · rcases h2 with h2 | ⟨e2, h2⟩
    · rw [← e1] at h2
      exact Or.inl h2
    · exact Or.inr ⟨e1.trans e2, lx_tr h1 h2⟩
theorem kLt_as {a b : List Int} (h1 : kLt a b) : ¬ kLt b a := fun h2 => kLt_ir (kLt_tr h1 h2)
theorem cpK_l {a b : List Int} : cpK a b < 0 ↔ kLt a b := by
  refine ⟨cpK_s.1, fun h => ?_⟩
  rcases Int.lt_trichotomy (cpK a b) 0 with e | e | e
  · exact e
  · rw [cpK_s.2.2 e] at h
    exact absurd h kLt_ir
  · exact absurd h (kLt_as (cpK_s.2.1 e))
theorem cpK_g {a b : List Int} : 0 < cpK a b ↔ kLt b a := by
  refine ⟨cpK_s.2.1, fun h => ?_⟩
  rcases Int.lt_trichotomy (cpK a b) 0 with e | e | e
  · exact absurd h (kLt_as (cpK_s.1 e))
  · rw [cpK_s.2.2 e] at h
    exact absurd h kLt_ir
  · exact e
theorem cpK_0 {a b : List Int} : cpK a b = 0 ↔ a = b := by
  refine ⟨cpK_s.2.2, fun h => ?_⟩
  rcases Int.lt_trichotomy (cpK a b) 0 with e | e | e
  · have := cpK_s.1 e
    rw [h] at this
    exact absurd this kLt_ir
  · exact e
  · have := cpK_s.2.1 e
    rw [h] at this
    exact absurd this kLt_ir
theorem kLt_to {a b : List Int} (h : ¬ kLt a b) : kLt b a ∨ a = b := by
  rcases Int.lt_trichotomy (cpK a b) 0 with e | e | e
  · exact absurd (cpK_l.mp e) h
  · exact Or.inr (cpK_0.mp e)
  · exact Or.inl (cpK_g.mp e)
theorem cpL_b : ∀ {a b : List Int}, smB a → smB b → -200 ≤ cpL a b ∧ cpL a b ≤ 200
  | [], _, _, _ => by unfold cpL; decide
  | _ :: _, [], _, _ => by unfold cpL; decide
  | a :: r, b :: s, ha, hb => by
    have h1 := ha a List.mem_cons_self
    have h2 := hb b List.mem_cons_self
    unfold cpL
    split
    · exact cpL_b (fun x hx => ha x (List.mem_cons_of_mem _ hx)) (fun x hx => hb x (List.mem_cons_of_mem _ hx))
    · unfold lowS
      split <;> split <;> omega
theorem cpP_b : ∀ {a b : List Int}, smB a → smB b → -200 ≤ cpP a b ∧ cpP a b ≤ 200
  | [], _, _, _ => by unfold cpP; decide
  | _ :: _, [], _, _ => by unfold cpP; decide
  | a :: r, b :: s, ha, hb => by
    have h1 := ha a List.mem_cons_self
    have h2 := hb b List.mem_cons_self
    unfold cpP
    split
    · exact cpP_b (fun x hx => ha x (List.mem_cons_of_mem _ hx)) (fun x hx => hb x (List.mem_cons_of_mem _ hx))
    · omega
section
variable {σ σ0 : MS} {Q : MQ9} {z' : Nat} {K : List (List Int)}
/-- the class's loop: at letter i, none before differs when small; pl is the first plain difference -/
theorem cmk_50 {a b : List Int} {x y : Nat} (hz' : z' = 49 ∨ z' = 163) (ha : LnC σ (z' + 24 + 1) x a) (hb : LnC σ (z' + 24 + 1) y b) (sa : smB a) (sb : smB b) (hq : Q (.inl (some (cpK a b))) σ) : ∀ (n i : Nat) (pl : Int), min a.length b.length ≤ i + n → i ≤ min a.length b.length → cpL a b = cpL (a.drop i) (b.drop i) → (pl = 0 → cpP a b = cpP (a.drop i) (b.drop i)) → (¬ pl = 0 → cpP a b = pl) → (-200 ≤ pl ∧ pl ≤ 200) → Marks_compareKeys_50 z' (x : Int) (y : Int) (a.length : Int) (b.length : Int) pl (i : Int) σ Q := by
  have im : isMarks z' = true := by rcases hz' with rfl | rfl <;> decide
  have ish : isShelf (z' + 24) = true := by rcases hz' with rfl | rfl <;> decide
  have i25 : isRow (z' + 24 + 1) = true := by rcases hz' with rfl | rfl <;> decide
  have la := ha.2.1
  have lb := hb.2.1
  have fin : ∀ (i : Nat) (pl : Int), i = min a.length b.length → cpL a b = cpL (a.drop i) (b.drop i) → (pl = 0 → cpP a b = cpP (a.drop i) (b.drop i)) → (¬ pl = 0 → cpP a b = pl) → (-200 ≤ pl ∧ pl ≤ 200) → Marks_compareKeys_145 (a.length : Int) (b.length : Int) pl σ Q := fun i pl hi h1 h2 h3 h4 => by
    have e0 : cpL (a.drop i) (b.drop i) = 0 := by
      by_cases h : a.length ≤ i
      · rw [List.drop_eq_nil_of_le h]
        unfold cpL
        rfl
      · rw [List.drop_eq_nil_of_le (as := b) (by omega)]
        cases a.drop i <;> rfl
    have e1 : cpP (a.drop i) (b.drop i) = 0 := by
      by_cases h : a.length ≤ i
      · rw [List.drop_eq_nil_of_le h]
        unfold cpP
        rfl
      · rw [List.drop_eq_nil_of_le (as := b) (by omega)]
        cases a.drop i <;> rfl
    have eK : cpK a b = if a.length = b.length then pl else (a.length : Int) - (b.length : Int) := by
      unfold cpK
      rw [if_pos (h1.trans e0)]
      split
      · by_cases hp : pl = 0
        · rw [h2 hp, e1, hp]
        · exact h3 hp
      · rfl
    refine Marks_compareKeys_145.i ⟨by unfold Rg; omega, by unfold Rg; omega, fun h => ⟨by unfold Rg; omega, ?_⟩, fun h => ⟨by unfold Rg; omega, ?_⟩⟩
    · rw [if_pos (by omega)] at eK
      rw [← eK]
      exact hq
    · rw [if_neg (by omega)] at eK
      rw [← eK]
      exact hq
  intro n
  induction n with
  | zero =>
    intro i pl hn hi h1 h2 h3 h4
    have f := fin i pl (by omega) h1 h2 h3 h4
    exact Marks_compareKeys_50.i ⟨by unfold Rg; omega, by unfold Rg; omega, fun _ => f, fun h => ⟨by unfold Rg; omega, by unfold Rg; omega, fun _ => f, fun h5 => absurd h5 (by omega)⟩⟩
  | succ n ih =>
    intro i pl hn hi h1 h2 h3 h4
    by_cases he : i = min a.length b.length
    · have f := fin i pl he h1 h2 h3 h4
      exact Marks_compareKeys_50.i ⟨by unfold Rg; omega, by unfold Rg; omega, fun _ => f, fun h => ⟨by unfold Rg; omega, by unfold Rg; omega, fun _ => f, fun h5 => absurd h5 (by omega)⟩⟩
    · have ia : i < a.length := by omega
      have ib : i < b.length := by omega
      have ra := ha.2.2 i ia
      have rb := hb.2.2 i ib
      have ga := sa _ (gd_mem ia)
      have gb := sb _ (gd_mem ib)
      have da : a.drop i = a.getD i 0 :: a.drop (i + 1) := by
        rw [List.drop_eq_getElem_cons ia]
        unfold List.getD
        rw [List.getElem?_eq_getElem ia]
        rfl
      have db : b.drop i = b.getD i 0 :: b.drop (i + 1) := by
        rw [List.drop_eq_getElem_cons ib]
        unfold List.getD
        rw [List.getElem?_eq_getElem ib]
        rfl
      rw [da, db] at h1 h2
      have c1 : cpL (a.getD i 0 :: a.drop (i + 1)) (b.getD i 0 :: b.drop (i + 1)) = if lowS (a.getD i 0) = lowS (b.getD i 0) then cpL (a.drop (i + 1)) (b.drop (i + 1)) else lowS (a.getD i 0) - lowS (b.getD i 0) := rfl
      have c2 : cpP (a.getD i 0 :: a.drop (i + 1)) (b.getD i 0 :: b.drop (i + 1)) = if a.getD i 0 = b.getD i 0 then cpP (a.drop (i + 1)) (b.drop (i + 1)) else a.getD i 0 - b.getD i 0 := rfl
      have lwa : 0 ≤ lowS (a.getD i 0) ∧ lowS (a.getD i 0) ≤ 127 := by
        unfold lowS
        split <;> omega
      have lwb : 0 ≤ lowS (b.getD i 0) ∧ lowS (b.getD i 0) ≤ 127 := by
        unfold lowS
        split <;> omega
      refine Marks_compareKeys_50.i ⟨by unfold Rg; omega, by unfold Rg; omega, fun h => absurd h (by omega), fun _ => ⟨by unfold Rg; omega, by unfold Rg; omega, fun h => absurd h (by omega), fun _ => ?_⟩⟩
      rw [ra, rb]
      refine tB.i im (tB.i ish (tB.i i25 (tB.i i25 ⟨by unfold Rg; omega, tB.i im (tB.i ish (tB.i i25 (tB.i i25 ⟨by unfold Rg; omega, ?_⟩)))⟩)))
      refine T_small.s (by unfold Rg; omega) (T_small.s (by unfold Rg; omega) ?_)
      show (lowS (a.getD i 0) = lowS (b.getD i 0) → _) ∧ (¬ lowS (a.getD i 0) = lowS (b.getD i 0) → _)
      refine ⟨fun e => ?_, fun e => ?_⟩
      · rw [c1, if_pos e] at h1
        rw [c2] at h2
        refine ⟨by unfold Rg; omega, fun hp => Marks_compareKeys_137.i ?_, fun hp => Marks_compareKeys_137.i ?_⟩
        · rw [show (i : Int) + 1 = ((i + 1 : Nat) : Int) by omega]
          refine ih (i + 1) _ (by omega) (by omega) h1 (fun e9 => ?_) (fun e9 => ?_) (by omega)
          · rw [if_pos (by omega)] at h2
            exact h2 hp
          · rw [if_neg (by omega)] at h2
            exact h2 hp
        · rw [show (i : Int) + 1 = ((i + 1 : Nat) : Int) by omega]
          exact ih (i + 1) pl (by omega) (by omega) h1 (fun e9 => absurd e9 hp) (fun _ => h3 hp) h4
      · rw [c1, if_neg e] at h1
        have eK : cpK a b = lowS (a.getD i 0) - lowS (b.getD i 0) := by
          unfold cpK
          rw [if_neg (by omega), h1]
        refine T_small.s (by unfold Rg; omega) (T_small.s (by unfold Rg; omega) ?_)
        show Rg (lowS (a.getD i 0) - lowS (b.getD i 0)) ∧ Q (.inl (some (lowS (a.getD i 0) - lowS (b.getD i 0)))) σ
        rw [← eK]
        exact ⟨by rw [eK]; unfold Rg; omega, hq⟩
theorem shR.at {y : Nat} {k : Nat} (h : shR σ y K) (hk : k < K.length) (hr : isRow (y + 1) = true) (hs : suM K ≤ 65536) : sfrM (mX σ (y + 3)) (k : Int) = ((suM (K.take k) : Nat) : Int) ∧ stoM (mX σ (y + 3)) (k : Int) = ((suM (K.take k) + (K.getD k []).length : Nat) : Int) ∧ LnC σ (y + 1) (suM (K.take k)) (K.getD k []) := by
  have eB : K = K.take k ++ K.getD k [] :: K.drop (k + 1) := by
    unfold List.getD
    rw [List.getElem?_eq_getElem hk, Option.getD_some, List.getElem_cons_drop, List.take_append_drop]
  have lt : (K.take k).length = k := by rw [List.length_take]; omega
  have sm := suM_tk (W := K) (i := k) hk
  have h2 := h
  rw [eB] at h2
  have sf := sfr_at (p := K.take k) (rs := K.getD k [] :: K.drop (k + 1))
  have st := sto_at (p := K.take k) (r := K.getD k []) (rs := K.drop (k + 1))
  rw [lt, ← h2.2] at sf st
  exact ⟨sf, st, h2.ln hr (by omega)⟩
/-- keys compared, the class -/
theorem Marks_compareKeys.c {i j : Nat} (hz' : z' = 49 ∨ z' = 163) (hK : shR σ (z' + 24) K) (hs : suM K ≤ 65536) (hb : ∀ w ∈ K, smB w) (hKl : K.length ≤ 100) (hi : i < K.length) (hj : j < K.length) (hq : Q (.inl (some (cpK (K.getD i []) (K.getD j [])))) σ) : Marks_compareKeys z' (i : Int) (j : Int) σ Q := by
  have im : isMarks z' = true := by rcases hz' with rfl | rfl <;> decide
  have ish : isShelf (z' + 24) = true := by rcases hz' with rfl | rfl <;> decide
  have i25 : isRow (z' + 24 + 1) = true := by rcases hz' with rfl | rfl <;> decide
  obtain ⟨a1, a2, a3⟩ := hK.at hi i25 hs
  obtain ⟨c1, c2, c3⟩ := hK.at hj i25 hs
  have mi : K.getD i [] ∈ K := by
    unfold List.getD
    rw [List.getElem?_eq_getElem hi, Option.getD_some]
    exact List.getElem_mem _
  have mj : K.getD j [] ∈ K := by
    unfold List.getD
    rw [List.getElem?_eq_getElem hj, Option.getD_some]
    exact List.getElem_mem _
  have key := cmk_50 (Q := Q) hz' a3 c3 (hb _ mi) (hb _ mj) hq (min (K.getD i []).length (K.getD j []).length) 0 0 (by omega) (Nat.zero_le _) rfl (fun _ => rfl) (fun h => absurd rfl h) (by decide)
  refine Marks_compareKeys.i ?_
  rw [a1, a2, c1, c2, show ((suM (K.take i) + (K.getD i []).length : Nat) : Int) - ((suM (K.take i) : Nat) : Int) = ((K.getD i []).length : Int) by omega, show ((suM (K.take j) + (K.getD j []).length : Nat) : Int) - ((suM (K.take j) : Nat) : Int) = ((K.getD j []).length : Int) by omega]
  have ri : Rg (i : Int) := by unfold Rg; omega
  have rj : Rg (j : Int) := by unfold Rg; omega
  exact tB.i im (tB.i ish (tB.i ish ⟨ri, tB.i im (tB.i ish (tB.i ish ⟨rj, tB.i im (tB.i ish (tB.i ish ⟨ri, tB.i im (tB.i ish (tB.i ish ⟨rj, key⟩))⟩))⟩))⟩))
end
