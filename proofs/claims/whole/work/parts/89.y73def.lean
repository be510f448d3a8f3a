/-! DIRECTIVES: macros told, the class -/
abbrev TMc : Type := List (List Int) × List Int × List (List Int)
def dfG (T : List Int) (p : Nat) : Bool := decide (p + 1 ≤ neD T p ∧ neD T p ≤ p + 12 ∧ ixW (wdT 1) 0 (sgT T p (neD T p)) = -1 ∧ neD T p + 1 < T.length ∧ T.getD (neD T p) 0 = 32) && (sDi (T.getD (neD T p + 1) 0) && decide (neD T p + 2 = T.length ∨ T.getD (neD T p + 2) 0 = 32))
def dfM (M : TMc) (T : List Int) (p : Nat) : TMc := if ixW M.1 0 (sgT T p (neD T p)) = -1 then (M.1 ++ [sgT T p (neD T p)], M.2.1 ++ [T.getD (neD T p + 1) 0 - 48], M.2.2 ++ [T.drop (neD T p + 3)]) else (M.1, M.2.1.set (ixW M.1 0 (sgT T p (neD T p))).toNat (T.getD (neD T p + 1) 0 - 48), M.2.2.set (ixW M.1 0 (sgT T p (neD T p))).toNat (T.drop (neD T p + 3)))
def dfF (M : TMc) (T : List Int) (p : Nat) : Bool := decide (ixW M.1 0 (sgT T p (neD T p)) = -1 ∧ 40 ≤ M.1.length)
def MI (M : TMc) : Prop := M.2.1.length = M.1.length ∧ M.2.2.length = M.1.length ∧ M.1.length ≤ 40 ∧ smW 12 M.1 ∧ (∀ x ∈ M.2.1, 0 ≤ x ∧ x ≤ 9) ∧ smW 4000 M.2.2
def KUc (σ : MS) (M : TMc) (c : Nat) : Prop := shR σ 25 M.1 ∧ mX σ 30 = M.2.1 ∧ ∃ B, shR σ 34 B ∧ suM B ≤ c ∧ B.length ≤ c ∧ (mX σ 32).length = M.1.length ∧ ∀ m, m < M.1.length → ∃ j : Nat, (mX σ 32).getD m 0 = (j : Int) ∧ j < B.length ∧ B.getD j [] = M.2.2.getD m []
theorem KUc.ku {σ : MS} {E : TE} {c : Nat} (h : KUc σ E.1 c) (hc : c ≤ 4100) : KU σ E := by
  obtain ⟨a, b, B, d, e, f, g⟩ := h
  exact ⟨a, b, B, d, by omega, by omega, g⟩
def DFX : List Nat := [26, 28, 30, 32, 35, 37]
def FrDf (σ σ' : MS) : Prop := (∀ q, q ∉ DFX → mX σ' q = mX σ q) ∧ σ'.2.2 = σ.2.2 ∧ ∀ y k, mV σ' y k = mV σ y k
theorem smW_ms7 {n : Nat} {W : List (List Int)} (h : smW n W) : W.map ms7 = W := by
  have : W.map ms7 = W.map id := List.map_congr_left (fun x hx => ms7_id (h x hx).2)
  rw [this, List.map_id]
theorem set_at {α : Type} {L : List α} {i j : Nat} {x d : α} (hi : i < L.length) : (L.set i x).getD j d = if j = i then x else L.getD j d := by
  rw [List.getD_eq_getElem?_getD, List.getD_eq_getElem?_getD, List.getElem?_set]
  by_cases e : i = j
  · subst e
    rw [if_pos rfl, if_pos hi, if_pos rfl]
    rfl
  · rw [if_neg e, if_neg (fun h => e h.symm)]
theorem app_at {α : Type} {L : List α} {j : Nat} {x d : α} : (L ++ [x]).getD j d = if j < L.length then L.getD j d else if j = L.length then x else d := by
  rw [List.getD_eq_getElem?_getD]
  by_cases h : j < L.length
  · rw [if_pos h, List.getElem?_append_left h, List.getD_eq_getElem?_getD]
  · rw [if_neg h, List.getElem?_append_right (by omega)]
    by_cases e : j = L.length
    · rw [if_pos e, e, Nat.sub_self]
      rfl
    · rw [if_neg e, List.getElem?_eq_none (by rw [List.length_singleton]; omega)]
      rfl
section
variable {σ σ' : MS} {Q : MQ9} {q x0 : Nat} {T : List Int} {s : TS} {M : TMc}
theorem LnC.pour {p b : Nat} (hT : LnC σ q x0 T) (hpb : p ≤ b) (hb : b ≤ T.length) : pourM (rgt (mX σ q)) (b - p) ((x0 + p : Nat) : Int) = sgT T p b := by
  have hW := hT.sg hpb hb
  have lW := sg_len hpb hb
  rw [← lW]
  generalize sgT T p b = W at hW ⊢
  have key : ∀ (r b : List Int), W = b ++ r → pourM (rgt (mX σ q)) r.length ((x0 + p + b.length : Nat) : Int) = r := by
    intro r
    induction r with
    | nil => intro b _; rfl
    | cons c r ihr =>
      intro b hb
      have hx := hW.2.2 b.length (by rw [hb, List.length_append, List.length_cons]; omega)
      show rgt (mX σ q) ((x0 + p + b.length : Nat) : Int) :: pourM (rgt (mX σ q)) r.length (((x0 + p + b.length : Nat) : Int) + 1) = c :: r
      rw [show ((x0 + p + b.length : Nat) : Int) = ((x0 + p : Nat) : Int) + (b.length : Int) by omega, hx]
      have e9 : W.getD b.length 0 = c := by
        rw [hb, List.getD_eq_getElem?_getD, List.getElem?_append_right (Nat.le_refl _), Nat.sub_self]
        rfl
      have := ihr (b ++ [c]) (by rw [hb, List.append_assoc]; rfl)
      rw [List.length_append, List.length_singleton] at this
      rw [e9, show ((x0 + p : Nat) : Int) + (b.length : Int) + 1 = ((x0 + p + (b.length + 1) : Nat) : Int) by omega, this]
  exact key W [] rfl
theorem neD_s {p : Nat} (h : p < T.length) : neD T p = if sLe (T.getD p 0) = true then neD T (p + 1) else p := by
  unfold neD
  rw [drop_c h]
  cases e : sLe (T.getD p 0) with
  | true =>
    rw [if_pos rfl, List.takeWhile_cons_of_pos e, List.length_cons]
    omega
  | false =>
    rw [if_neg (by decide), List.takeWhile_cons_of_neg (by rw [e]; decide)]
    rfl
theorem neD_z {p : Nat} (h : T.length ≤ p) : neD T p = p := by
  unfold neD
  rw [List.drop_eq_nil_of_le h]
  rfl
theorem LnC.at (hT : LnC σ q x0 T) {p : Nat} (hp : p < T.length) : rgt (mX σ q) ((x0 + p : Nat) : Int) = T.getD p 0 := by
  rw [show ((x0 + p : Nat) : Int) = (x0 : Int) + (p : Int) by omega]
  exact hT.2.2 p hp
theorem de_3 {l2 : Int} (hT : LnC σ q x0 T) (hTb : smB T) : ∀ (m p : Nat), p + m = T.length → Rules_define_27 q l2 ((x0 + T.length : Nat) : Int) ((x0 + neD T p : Nat) : Int) σ Q → Rules_define_3 q l2 ((x0 + T.length : Nat) : Int) ((x0 + p : Nat) : Int) σ Q := by
  have l0 := hT.2.1
  intro m
  induction m with
  | zero =>
    intro p hp hq
    rw [neD_z (by omega)] at hq
    exact Rules_define_3.i ⟨by unfold Rg; omega, by unfold Rg; omega, fun _ => hq, fun h9 => absurd h9 (by omega)⟩
  | succ m ih =>
    intro p hp hq
    have hlt : p < T.length := by omega
    have hcb := hTb.gd hlt
    rw [neD_s hlt] at hq
    refine Rules_define_3.i ⟨by unfold Rg; omega, by unfold Rg; omega, fun h9 => absurd h9 (by omega), fun _ => tB.i hT.1 (tB.i hT.1 ⟨by unfold Rg; omega, ?_⟩)⟩
    rw [hT.at hlt]
    refine T_isLetter.s (by unfold Rg; omega) ⟨fun h9 => ?_, fun h9 => ?_⟩
    · rw [bZ_z h9, if_neg (by decide)] at hq
      exact hq
    · rw [bZ_ne h9, if_pos rfl] at hq
      rw [show ((x0 + p : Nat) : Int) + 1 = ((x0 + (p + 1) : Nat) : Int) by omega]
      exact ih (p + 1) (by omega) hq
/-- arity and body of macro m are told -/
theorem de_219 {e c m : Nat} {B : List (List Int)} (hT : LnC σ q x0 T) (hTb : smB T) (hq9 : q ∉ DFX ∧ neB q 35 = true) (he : e + 1 < T.length) (hm : m < (mX σ 30).length) (hm2 : m < (mX σ 32).length) (hB : shR σ 34 B) (hs : suM B ≤ c) (hl : B.length ≤ c) (hc : c + T.length + 1 ≤ 4096) (hq : ∀ σ', (∀ y, y ∉ [30, 32, 35, 37] → mX σ' y = mX σ y) → σ'.2.2 = σ.2.2 → (∀ y k, mV σ' y k = mV σ y k) → mX σ' 30 = (mX σ 30).set m (T.getD (e + 1) 0 - 48) → mX σ' 32 = (mX σ 32).set m (B.length : Int) → shR σ' 34 (B ++ [T.drop (e + 3)]) → Q (.inl none) σ') : Rules_define_219 q ((x0 + T.length : Nat) : Int) (((x0 + e : Nat) : Int) + 1) (m : Int) σ Q := by
  have l0 := hT.2.1
  have hcb := hTb.gd he
  have hx := hT.at he
  rw [show ((x0 + (e + 1) : Nat) : Int) = ((x0 + e : Nat) : Int) + 1 by omega] at hx
  have q30 : q ≠ 30 := fun h => hq9.1 (by rw [h]; decide)
  have q32 : q ≠ 32 := fun h => hq9.1 (by rw [h]; decide)
  have q35 : q ≠ 35 := fun h => hq9.1 (by rw [h]; decide)
  have rows : (mX σ 37).length = B.length := by rw [show mX σ 37 = enS 0 B from hB.2, enS_len]
  refine Rules_define_219.i (tB.i hT.1 (tB.i hT.1 ⟨by unfold Rg; omega, by rw [hx]; unfold Rg; omega, ?_⟩))
  rw [hx]
  have a1 : ralt (mX σ 30) (m : Int) (T.getD (e + 1) 0 - 48) = (mX σ 30).set m (T.getD (e + 1) 0 - 48) := by
    unfold ralt
    rw [if_pos ⟨by omega, by omega⟩]
    rfl
  rw [a1]
  generalize hσ1 : wX σ 30 ((mX σ 30).set m (T.getD (e + 1) 0 - 48)) = σ1
  have x1 : ∀ y, y ≠ 30 → mX σ1 y = mX σ y := fun y h => by rw [← hσ1, wX_ne h]
  refine rows_s (n := B.length) (by decide) (by decide) (by rw [show mX σ1 (34 + 3) = mX σ 37 from x1 37 (by decide)]; exact rows) ?_
  refine tB.i hT.1 (tB.i hq9.2 ⟨by unfold Rg; omega, by unfold Rg; omega, ?_⟩)
  have y35 : mX σ1 35 = B.flatten := (x1 35 (by decide)).trans hB.1
  have y32 : mX σ1 32 = mX σ 32 := x1 32 (by decide)
  have a2 : ralt (mX σ1 32) (m : Int) (B.length : Int) = (mX σ 32).set m (B.length : Int) := by
    rw [y32]
    unfold ralt
    rw [if_pos ⟨by omega, by omega⟩]
    rfl
  have lb : (T.drop (e + 3)).length = T.length - (e + 3) := List.length_drop ..
  have pm : pourM (rgt (mX (wX σ1 32 ((mX σ 32).set m (B.length : Int))) q)) (((x0 + T.length : Nat) : Int) - (((x0 + e : Nat) : Int) + 1 + 2)).toNat (((x0 + e : Nat) : Int) + 1 + 2) = T.drop (e + 3) := by
    rw [wX_ne q32, x1 q q30]
    by_cases h9 : e + 3 ≤ T.length
    · have := hT.pour h9 (Nat.le_refl _)
      rw [show (((x0 + T.length : Nat) : Int) - (((x0 + e : Nat) : Int) + 1 + 2)).toNat = T.length - (e + 3) by omega, show ((x0 + e : Nat) : Int) + 1 + 2 = ((x0 + (e + 3) : Nat) : Int) by omega, this]
      unfold sgT
      rw [List.take_of_length_le (by omega)]
    · rw [show (((x0 + T.length : Nat) : Int) - (((x0 + e : Nat) : Int) + 1 + 2)).toNat = 0 by omega, List.drop_eq_nil_of_le (by omega)]
      rfl
  rw [a2, pm, y35]
  refine ⟨by rw [flat_len]; omega, ?_⟩
  generalize hσ2 : wX (wX σ1 32 ((mX σ 32).set m (B.length : Int))) 35 (B.flatten ++ T.drop (e + 3)) = σ2
  have z1 : mX σ2 (34 + 1) = (B ++ [T.drop (e + 3)]).flatten := by rw [← hσ2, wX_self, flat_sn]
  have z3 : mX σ2 (34 + 3) = enS 0 B := by rw [← hσ2, wX_ne (by decide), wX_ne (by decide), x1 _ (by decide)]; exact hB.2
  refine Shelf_close.i (tB.i (by decide) (tB.i (by decide) (tB.i (by decide) (tB.i (by decide) (tB.i (by decide) ⟨?_, ?_⟩)))))
  · rw [z3, enS_len]
    show B.length < 4096
    omega
  · rw [shR.close z1 z3]
    refine hq _ (fun y hy => ?_) ?_ (fun y k => ?_) ?_ ?_ ⟨?_, ?_⟩
    · simp only [List.mem_cons, List.not_mem_nil, or_false, not_or] at hy
      rw [wX_ne (by omega), ← hσ2, wX_ne (by omega), wX_ne (by omega), x1 y (by omega)]
    · rw [← hσ2, ← hσ1]
      rfl
    · rw [← hσ2, ← hσ1]
      rfl
    · rw [wX_ne (by decide), ← hσ2, wX_ne (by decide), wX_ne (by decide), ← hσ1, wX_self]
    · rw [wX_ne (by decide), ← hσ2, wX_ne (by decide), wX_self]
    · rw [wX_ne (by decide)]
      exact z1
    · exact wX_self
theorem Rules_define.c {p c : Nat} (hT : LnC σ q x0 T) (hTb : smB T) (hp : p ≤ T.length) (hq9 : q ∉ DFX ∧ neB q 26 = true ∧ neB q 35 = true) (hM : MI M) (hK : KUc σ M c) (hc : c + T.length + 1 ≤ 4096) (w0 : mV σ 22 0 = s.1.1) (w1 : mV σ 22 1 = s.1.2.1) (h0 : dfG T p = false → ∀ σ', TxF σ' (1, s.1.1, s.1.2.1) → K2 σ σ' → Q (.inr (exN 0)) σ') (h9 : dfG T p = true → dfF M T p = true → ∀ σ', TxF σ' (9, s.1.1, s.1.2.1) → K2 σ σ' → Q (.inr (exN 0)) σ') (h1 : dfG T p = true → dfF M T p = false → ∀ σ', KUc σ' (dfM M T p) (c + T.length + 1) → FrDf σ σ' → Q (.inl none) σ') : Rules_define q ((x0 + p : Nat) : Int) ((x0 + T.length : Nat) : Int) σ Q := by
  have l0 := hT.2.1
  obtain ⟨b1, b2⟩ := neD_b (T := T) hp
  have lU := sg_len b1 b2
  obtain ⟨m1, m2, m3, m4, m5, m6⟩ := hM
  obtain ⟨k1, k2, B, k3, k4, k5, k6, k7⟩ := hK
  have hU : ∀ t : Nat, t < (sgT T p (neD T p)).length → rgt (mX σ q) (((x0 + p : Nat) : Int) + t) = (sgT T p (neD T p)).getD t 0 := fun t ht => by
    rw [lU] at ht
    rw [sg_at b2 ht, show ((x0 + p : Nat) : Int) + (t : Int) = ((x0 + (p + t) : Nat) : Int) by omega]
    exact hT.at (by omega)
  refine Rules_define.i (de_3 hT hTb (T.length - p) p (by omega) ?_)
  have no : dfG T p = false → Rules_define_117 q ((x0 + p : Nat) : Int) ((x0 + T.length : Nat) : Int) ((x0 + neD T p : Nat) : Int) (((x0 + neD T p : Nat) : Int) + 1) σ Q := fun h8 => Rules_define_117.i (Rules_define_118.i ⟨fun h7 => absurd rfl h7, fun _ => Purse_fail.s (s := s) (by decide) w0 w1 (h0 h8)⟩)
  have yes : dfG T p = true → Rules_define_113 q ((x0 + p : Nat) : Int) ((x0 + T.length : Nat) : Int) ((x0 + neD T p : Nat) : Int) (((x0 + neD T p : Nat) : Int) + 1) σ Q := fun hg => by
    have hg2 := hg
    unfold dfG at hg2
    rw [Bool.and_eq_true, decide_eq_true_iff] at hg2
    obtain ⟨⟨g1, g2, g3, g4, g5⟩, g6⟩ := hg2
    refine Rules_define_113.i (Rules_define_118.i ⟨fun _ => ?_, fun h7 => absurd h7 (by decide)⟩)
    have sN := suM_b (n := 12) (W := M.1) (fun x hx => (m4 x hx).1)
    refine Rules_define_133.i (Shelf_seek.s (z := 25) (by decide) (by decide) (by decide) hT.1 k1 (by omega) (by omega) (U := sgT T p (neD T p)) (by omega) (by omega) (by omega) hU ?_)
    rw [smW_ms7 m4, ms7_id hTb.sg]
    have ib := ixW_b M.1 0 (sgT T p (neD T p))
    refine ⟨fun h8 => ?_, fun h8 => ?_⟩
    · obtain ⟨m, hm⟩ : ∃ m : Nat, ixW M.1 0 (sgT T p (neD T p)) = (m : Int) := ⟨(ixW M.1 0 (sgT T p (neD T p))).toNat, by omega⟩
      have hml : m < M.1.length := by omega
      have ff : dfF M T p = false := by
        unfold dfF
        exact decide_eq_false (by omega)
      rw [hm]
      refine de_219 (e := neD T p) (c := c) (B := B) hT hTb ⟨hq9.1, hq9.2.2⟩ g4 (by rw [k2]; omega) (by omega) k3 k4 k5 hc (fun σ' f1 f2 f3 f4 f5 f6 => ?_)
      refine h1 hg ff σ' ?_ ⟨fun y hy => f1 y (fun h => hy (by simp only [DFX, List.mem_cons, List.not_mem_nil, or_false] at h ⊢; omega)), f2, f3⟩
      have e : dfM M T p = (M.1, M.2.1.set m (T.getD (neD T p + 1) 0 - 48), M.2.2.set m (T.drop (neD T p + 3))) := by
        unfold dfM
        rw [if_neg h8, hm]
        rfl
      rw [e]
      refine ⟨k1.cg (f1 26 (by decide)) (f1 28 (by decide)), by rw [f4, k2], B ++ [T.drop (neD T p + 3)], f6, ?_, ?_, ?_, fun i hi => ?_⟩
      · rw [suM_sn, List.length_drop]
        omega
      · rw [List.length_append, List.length_singleton]
        omega
      · rw [f5, List.length_set]
        exact k6
      · rw [f5, set_at (by omega)]
        by_cases ei : i = m
        · rw [if_pos ei]
          refine ⟨B.length, rfl, by rw [List.length_append, List.length_singleton]; omega, ?_⟩
          rw [app_at, if_neg (Nat.lt_irrefl _), if_pos rfl]
          show _ = (M.2.2.set m (T.drop (neD T p + 3))).getD i []
          rw [set_at (by omega), if_pos ei]
        · rw [if_neg ei]
          obtain ⟨j, j1, j2, j3⟩ := k7 i hi
          refine ⟨j, j1, by rw [List.length_append, List.length_singleton]; omega, ?_⟩
          rw [app_at, if_pos j2, j3]
          show _ = (M.2.2.set m (T.drop (neD T p + 3))).getD i []
          rw [set_at (by omega), if_neg ei]
    · have rows : (mX σ 28).length = M.1.length := by rw [show mX σ 28 = enS 0 M.1 from k1.2, enS_len]
      refine rows_s (z := 25) (n := M.1.length) (by decide) (by decide) rows ⟨fun h7 => ?_, fun h7 => ?_⟩
      · have ff : dfF M T p = false := by
          unfold dfF
          exact decide_eq_false (by omega)
        refine Rules_define_173.i (rows_s (z := 25) (n := M.1.length) (by decide) (by decide) rows (tB.i hT.1 (tB.i hq9.2.1 ⟨by unfold Rg; omega, by unfold Rg; omega, ?_⟩)))
        rw [show (((x0 + neD T p : Nat) : Int) - ((x0 + p : Nat) : Int)).toNat = neD T p - p by omega, hT.pour b1 b2, show mX σ 26 = M.1.flatten from k1.1]
        refine ⟨by rw [flat_len]; omega, ?_⟩
        generalize hσ2 : wX σ 26 (M.1.flatten ++ sgT T p (neD T p)) = σ2
        have z1 : mX σ2 (25 + 1) = (M.1 ++ [sgT T p (neD T p)]).flatten := by rw [← hσ2, wX_self, flat_sn]
        have z3 : mX σ2 (25 + 3) = enS 0 M.1 := by rw [← hσ2, wX_ne (by decide)]; exact k1.2
        refine Shelf_close.i (tB.i (by decide) (tB.i (by decide) (tB.i (by decide) (tB.i (by decide) (tB.i (by decide) ⟨?_, ?_⟩)))))
        · rw [z3, enS_len]
          show M.1.length < 64
          omega
        · rw [shR.close z1 z3]
          generalize hσ3 : wX σ2 (25 + 3) (enS 0 (M.1 ++ [sgT T p (neD T p)])) = σ3
          have x3 : ∀ y, y ≠ 26 → y ≠ 28 → mX σ3 y = mX σ y := fun y a b => by rw [← hσ3, wX_ne b, ← hσ2, wX_ne a]
          have y30 : mX σ3 30 = M.2.1 := (x3 30 (by decide) (by decide)).trans k2
          have y32 : mX σ3 32 = mX σ 32 := x3 32 (by decide) (by decide)
          show (mX σ3 30).length < 64 ∧ (mX σ3 32).length < 64 ∧ _
          rw [y30, y32]
          refine ⟨by omega, by omega, ?_⟩
          generalize hσ4 : wX (wX σ3 30 (M.2.1 ++ [0])) 32 (mX σ 32 ++ [0]) = σ4
          have x4 : ∀ y, y ∉ [26, 28, 30, 32] → mX σ4 y = mX σ y := fun y hy => by
            simp only [List.mem_cons, List.not_mem_nil, or_false, not_or] at hy
            rw [← hσ4, wX_ne (by omega), wX_ne (by omega), x3 y (by omega) (by omega)]
          have u30 : mX σ4 30 = M.2.1 ++ [0] := by rw [← hσ4, wX_ne (by decide), wX_self]
          have u32 : mX σ4 32 = mX σ 32 ++ [0] := by rw [← hσ4, wX_self]
          have hT4 : LnC σ4 q x0 T := ⟨hT.1, l0, fun t ht => by rw [x4 q (fun h => hq9.1 (by simp only [DFX, List.mem_cons, List.not_mem_nil, or_false] at h ⊢; omega))]; exact hT.2.2 t ht⟩
          refine de_219 (e := neD T p) (c := c) (B := B) hT4 hTb ⟨hq9.1, hq9.2.2⟩ g4 (by rw [u30, List.length_append, List.length_singleton]; omega) (by rw [u32, List.length_append, List.length_singleton]; omega) (k3.cg (x4 35 (by decide)) (x4 37 (by decide))) k4 k5 hc (fun σ' f1 f2 f3 f4 f5 f6 => ?_)
          have x5 : ∀ y, y ∉ DFX → mX σ' y = mX σ y := fun y hy => by
            rw [f1 y (fun h => hy (by simp only [DFX, List.mem_cons, List.not_mem_nil, or_false] at h ⊢; omega)), x4 y (fun h => hy (by simp only [DFX, List.mem_cons, List.not_mem_nil, or_false] at h ⊢; omega))]
          refine h1 hg ff σ' ?_ ⟨x5, by rw [f2, ← hσ4, ← hσ3, ← hσ2]; rfl, fun y k => by rw [f3, ← hσ4, ← hσ3, ← hσ2]; rfl⟩
          have e : dfM M T p = (M.1 ++ [sgT T p (neD T p)], M.2.1 ++ [T.getD (neD T p + 1) 0 - 48], M.2.2 ++ [T.drop (neD T p + 3)]) := by
            unfold dfM
            rw [if_pos h8]
          rw [e]
          refine ⟨⟨?_, ?_⟩, ?_, B ++ [T.drop (neD T p + 3)], f6, ?_, ?_, ?_, fun i hi => ?_⟩
          · rw [f1 _ (by decide), ← hσ4, wX_ne (by decide), wX_ne (by decide), ← hσ3, wX_ne (by decide)]
            exact z1
          · rw [f1 _ (by decide), ← hσ4, wX_ne (by decide), wX_ne (by decide), ← hσ3, wX_self]
          · rw [f4, u30, ← m1, List.set_append_right _ _ (Nat.le_refl _), Nat.sub_self]
            rfl
          · rw [suM_sn, List.length_drop]
            omega
          · rw [List.length_append, List.length_singleton]
            omega
          · rw [f5, List.length_set, u32, List.length_append, List.length_append, k6]
            rfl
          · have hi : i < (M.1 ++ [sgT T p (neD T p)]).length := hi
            rw [List.length_append, List.length_singleton] at hi
            rw [f5, u32, set_at (by rw [List.length_append, List.length_singleton]; omega)]
            show ∃ j : Nat, _ ∧ j < (B ++ [T.drop (neD T p + 3)]).length ∧ (B ++ [T.drop (neD T p + 3)]).getD j [] = (M.2.2 ++ [T.drop (neD T p + 3)]).getD i []
            by_cases ei : i = M.1.length
            · rw [if_pos ei]
              refine ⟨B.length, rfl, by rw [List.length_append, List.length_singleton]; omega, ?_⟩
              rw [app_at, if_neg (Nat.lt_irrefl _), if_pos rfl, app_at, if_neg (by omega), if_pos (by omega)]
            · rw [if_neg ei]
              obtain ⟨j, j1, j2, j3⟩ := k7 i (by omega)
              refine ⟨j, ?_, by rw [List.length_append, List.length_singleton]; omega, ?_⟩
              · rw [app_at, if_pos (by omega)]
                exact j1
              · rw [app_at, if_pos j2, j3, app_at, if_pos (by omega)]
      · have ff : dfF M T p = true := by
          unfold dfF
          exact decide_eq_true (by omega)
        exact Purse_fail.s (s := s) (by decide) w0 w1 (h9 hg ff)
  have e0 : dfG T p = (decide (p + 1 ≤ neD T p ∧ neD T p ≤ p + 12 ∧ ixW (wdT 1) 0 (sgT T p (neD T p)) = -1 ∧ neD T p + 1 < T.length ∧ T.getD (neD T p) 0 = 32) && (sDi (T.getD (neD T p + 1) 0) && decide (neD T p + 2 = T.length ∨ T.getD (neD T p + 2) 0 = 32))) := rfl
  have f0 : ¬ (p + 1 ≤ neD T p ∧ neD T p ≤ p + 12 ∧ ixW (wdT 1) 0 (sgT T p (neD T p)) = -1 ∧ neD T p + 1 < T.length ∧ T.getD (neD T p) 0 = 32) → dfG T p = false := fun h => by rw [e0, decide_eq_false h, Bool.false_and]
  refine Rules_define_27.i ⟨by unfold Rg; omega, fun h8 => no (f0 (by omega)), fun h8 => ⟨by unfold Rg; omega, fun h7 => no (f0 (by omega)), fun h7 => ?_⟩⟩
  refine Rules_nameIndex.s (j := 1) (by decide) (by decide) hT.1 (U := sgT T p (neD T p)) (by omega) (by omega) (by omega) hU ?_
  refine ⟨fun h6 => no (f0 (fun h => h6 h.2.2.1)), fun h6 => ⟨by unfold Rg; omega, by unfold Rg; omega, fun h5 => no (f0 (by omega)), fun h5 => tB.i hT.1 (tB.i hT.1 ⟨by unfold Rg; omega, ?_⟩)⟩⟩
  have hlt : neD T p + 1 < T.length := by omega
  rw [hT.at (p := neD T p) (by omega)]
  refine ⟨fun h4 => no (f0 (fun h => h4 h.2.2.2.2)), fun h4 => tB.i hT.1 (tB.i hT.1 ⟨by unfold Rg; omega, ?_⟩)⟩
  have hcb := hTb.gd hlt
  have e1 : dfG T p = (sDi (T.getD (neD T p + 1) 0) && decide (neD T p + 2 = T.length ∨ T.getD (neD T p + 2) 0 = 32)) := by rw [e0, decide_eq_true ⟨by omega, by omega, h6, hlt, h4⟩, Bool.true_and]
  rw [show ((x0 + neD T p : Nat) : Int) + 1 = ((x0 + (neD T p + 1) : Nat) : Int) by omega, hT.at hlt]
  rw [show ((x0 + neD T p : Nat) : Int) + 1 = ((x0 + (neD T p + 1) : Nat) : Int) by omega] at no yes
  refine T_isDigit.s (by unfold Rg; omega) ⟨fun h3 => no (by rw [e1, bZ_z h3, Bool.false_and]), fun h3 => ⟨by unfold Rg; omega, by unfold Rg; omega, fun h2 => yes (by rw [e1, bZ_ne h3, Bool.true_and]; exact decide_eq_true (Or.inl (by omega))), fun h2 => tB.i hT.1 (tB.i hT.1 ⟨by unfold Rg; omega, ?_⟩)⟩⟩
  rw [show ((x0 + (neD T p + 1) : Nat) : Int) + 1 = ((x0 + (neD T p + 2) : Nat) : Int) by omega, hT.at (p := neD T p + 2) (by omega)]
  exact ⟨fun h => no (by rw [e1, bZ_ne h3, Bool.true_and]; exact decide_eq_false (by omega)), fun h => yes (by rw [e1, bZ_ne h3, Bool.true_and]; exact decide_eq_true (Or.inr h))⟩
end
