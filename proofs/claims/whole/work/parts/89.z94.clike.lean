/-! SETTLED: marks of two rounds are alike, the class -/
theorem sh_inj : ∀ {R R' : List (List Int)} {a : Nat}, enS a R = enS a R' → R.flatten = R'.flatten → R = R'
  | [], [], a, _, _ => rfl
  | [], r' :: rs', a, h, _ => by cases h
  | r :: rs, [], a, h, _ => by cases h
  | r :: rs, r' :: rs', a, h, hf => by
    have h : ((a + r.length : Nat) : Int) :: enS (a + r.length) rs = ((a + r'.length : Nat) : Int) :: enS (a + r'.length) rs' := h
    have hf : r ++ rs.flatten = r' ++ rs'.flatten := by
      rw [List.flatten_cons, List.flatten_cons] at hf
      exact hf
    have h1 := (List.cons.inj h).1
    have h2 := (List.cons.inj h).2
    have el : r.length = r'.length := by omega
    obtain ⟨e1, e2⟩ := List.append_inj hf el
    rw [el] at h2
    rw [e1, sh_inj h2 e2]
/-- two rounds tell alike -/
def lkB (B' B : BF9) : Bool := decide (B'.1.1 = B.1.1 ∧ B'.1.2.1 = B.1.2.1 ∧ B'.1.2.2.1 = B.1.2.2.1 ∧ B'.2.1.1 = B.2.1.1 ∧ B'.2.1.2.1 = B.2.1.2.1 ∧ B'.2.1.2.2 = B.2.1.2.2 ∧ B'.2.2.1 = B.2.2.1 ∧ B'.2.2.2 = B.2.2.2)
/-- what the class's marks tell -/
def MkC (σ : MS) (z : Nat) (B : BF9) : Prop := shR σ (z + 1) B.1.1 ∧ shR σ (z + 6) B.1.2.1 ∧ mX σ (z + 11) = B.1.2.2.1 ∧ shR σ (z + 13) B.2.1.1 ∧ mX σ (z + 18) = B.2.1.2.1 ∧ mX σ (z + 20) = B.2.1.2.2 ∧ shR σ (z + 24) B.2.2.1 ∧ mX σ (z + 29) = B.2.2.2
section
variable {σ : MS} {Q : MQ9} {z z' : Nat} {B B' : BF9}
theorem Shelf_like.c {l0 l1 : Nat} {R R' : List (List Int)} (i0 : isShelf l0 = true) (i1 : isShelf l1 = true) (r1 : isRow (l0 + 1) = true) (r3 : isRow (l0 + 3) = true) (q1 : isRow (l1 + 1) = true) (q3 : isRow (l1 + 3) = true) (h : shR σ l0 R) (h' : shR σ l1 R') (hq : Q (.inl (some (bZ (decide (R = R'))))) σ) : Shelf_like l0 l1 σ Q := by
  refine Shelf_like.i (tB.i i0 (tB.i i1 (tB.i r3 (tB.i r3 (tB.i q3 ?_)))))
  rw [h.2, h'.2, h.1, h'.1]
  by_cases c3 : enS 0 R = enS 0 R'
  · rw [if_pos c3]
    refine ⟨fun h9 => absurd h9 (by decide), fun _ => tB.i i0 (tB.i i1 (tB.i r1 (tB.i r1 (tB.i q1 ?_))))⟩
    by_cases c1 : R.flatten = R'.flatten
    · rw [if_pos c1]
      rw [decide_eq_true (sh_inj c3 c1)] at hq
      exact ⟨fun h9 => absurd h9 (by decide), fun _ => hq⟩
    · rw [if_neg c1]
      rw [decide_eq_false (fun e => c1 (by rw [e]))] at hq
      exact ⟨fun _ => hq, fun h9 => absurd rfl h9⟩
  · rw [if_neg c3]
    rw [decide_eq_false (fun e => c3 (by rw [e]))] at hq
    exact ⟨fun _ => hq, fun h9 => absurd rfl h9⟩
theorem row_like {L L' : List Int} {X Y : Prop} (h0 : ¬ L = L' → X) (h1 : L = L' → Y) : ((if L = L' then (1 : Int) else 0) = 0 → X) ∧ (¬ (if L = L' then (1 : Int) else 0) = 0 → Y) := by
  by_cases c : L = L'
  · rw [if_pos c]
    exact ⟨fun h => absurd h (by decide), fun _ => h1 c⟩
  · rw [if_neg c]
    exact ⟨fun _ => h0 c, fun h => absurd rfl h⟩
theorem Marks_like.c (hz : z = 49 ∨ z = 163) (hz' : z' = 49 ∨ z' = 163) (h : MkC σ z B') (h' : MkC σ z' B) (hq : Q (.inl (some (bZ (lkB B' B)))) σ) : Marks_like z z' σ Q := by
  obtain ⟨a1, a2, a3, a4, a5, a6, a7, a8⟩ := h
  obtain ⟨b1, b2, b3, b4, b5, b6, b7, b8⟩ := h'
  have im : isMarks z = true := by rcases hz with rfl | rfl <;> decide
  have im' : isMarks z' = true := by rcases hz' with rfl | rfl <;> decide
  have ish : ∀ y, (y = 49 ∨ y = 163) → isShelf (y + 1) = true ∧ isShelf (y + 6) = true ∧ isShelf (y + 13) = true ∧ isShelf (y + 24) = true ∧ isRow (y + 1 + 1) = true ∧ isRow (y + 1 + 3) = true ∧ isRow (y + 6 + 1) = true ∧ isRow (y + 6 + 3) = true ∧ isRow (y + 13 + 1) = true ∧ isRow (y + 13 + 3) = true ∧ isRow (y + 24 + 1) = true ∧ isRow (y + 24 + 3) = true ∧ isRow (y + 11) = true ∧ isRow (y + 18) = true ∧ isRow (y + 20) = true ∧ isRow (y + 29) = true := fun y hy => by
    rcases hy with rfl | rfl <;> decide
  obtain ⟨s1, s2, s3, s4, s5, s6, s7, s8, s9, s10, s11, s12, s13, s14, s15, s16⟩ := ish z hz
  obtain ⟨t1, t2, t3, t4, t5, t6, t7, t8, t9, t10, t11, t12, t13, t14, t15, t16⟩ := ish z' hz'
  have no : ¬ (B'.1.1 = B.1.1 ∧ B'.1.2.1 = B.1.2.1 ∧ B'.1.2.2.1 = B.1.2.2.1 ∧ B'.2.1.1 = B.2.1.1 ∧ B'.2.1.2.1 = B.2.1.2.1 ∧ B'.2.1.2.2 = B.2.1.2.2 ∧ B'.2.2.1 = B.2.2.1 ∧ B'.2.2.2 = B.2.2.2) → Q (.inl (some 0)) σ := fun c => by
    have e : lkB B' B = false := decide_eq_false c
    rw [e] at hq
    exact hq
  have sh : ∀ {X Y : Prop} {R R' : List (List Int)}, (¬ R = R' → X) → (R = R' → Y) → (bZ (decide (R = R')) = 0 → X) ∧ (¬ bZ (decide (R = R')) = 0 → Y) := fun h0 h1 => ⟨fun h9 => h0 (of_decide_eq_false (bZ_z h9)), fun h9 => h1 (of_decide_eq_true (bZ_ne h9))⟩
  refine Marks_like.i (tB.i im (tB.i im' (tB.i s1 (Shelf_like.c s1 t1 s5 s6 t5 t6 a1 b1 ?_))))
  refine sh (fun c => no (fun h9 => c h9.1)) (fun e1 => tB.i im (tB.i im' (tB.i s2 (Shelf_like.c s2 t2 s7 s8 t7 t8 a2 b2 ?_))))
  refine sh (fun c => no (fun h9 => c h9.2.1)) (fun e2 => tB.i im (tB.i im' (tB.i s13 (tB.i s13 (tB.i t13 ?_)))))
  rw [a3, b3]
  refine row_like (fun c => no (fun h9 => c h9.2.2.1)) (fun e3 => tB.i im (tB.i im' (tB.i s3 (Shelf_like.c s3 t3 s9 s10 t9 t10 a4 b4 ?_))))
  refine sh (fun c => no (fun h9 => c h9.2.2.2.1)) (fun e4 => tB.i im (tB.i im' (tB.i s14 (tB.i s14 (tB.i t14 ?_)))))
  rw [a5, b5]
  refine row_like (fun c => no (fun h9 => c h9.2.2.2.2.1)) (fun e5 => tB.i im (tB.i im' (tB.i s15 (tB.i s15 (tB.i t15 ?_)))))
  rw [a6, b6]
  refine row_like (fun c => no (fun h9 => c h9.2.2.2.2.2.1)) (fun e6 => tB.i im (tB.i im' (tB.i s4 (Shelf_like.c s4 t4 s11 s12 t11 t12 a7 b7 ?_))))
  refine sh (fun c => no (fun h9 => c h9.2.2.2.2.2.2.1)) (fun e7 => tB.i im (tB.i im' (tB.i s16 (tB.i s16 (tB.i t16 ?_)))))
  rw [a8, b8]
  refine row_like (fun c => no (fun h9 => c h9.2.2.2.2.2.2.2)) (fun e8 => ?_)
  have e : lkB B' B = true := decide_eq_true ⟨e1, e2, e3, e4, e5, e6, e7, e8⟩
  rw [e] at hq
  exact hq
end
