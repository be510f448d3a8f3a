/-! TEXTS: how many labels were unknown matters to nothing else -/
def shU (d : Int) (s : TS) : TS := sUn s (s.2.2.2.2.2.2 + d)
def mpU (d : Int) (r : TR) : TR := match r with
  | .inl s => .inl (shU d s)
  | .inr e => .inr e
def mpE (d : Int) (r : (List (List Int) × TS) ⊕ (Int × Int × Int)) : (List (List Int) × TS) ⊕ (Int × Int × Int) := match r with
  | .inr e => .inr e
  | .inl w => .inl (w.1, shU d w.2)
section
variable {d : Int} {s : TS} {E : TE} {a : Bool} {f w : List (List Int)} {T L : List Int} {k : Int}
theorem sh_bd {r : TR} {g h : TS → TR} (e : ∀ s, g (shU d s) = mpU d (h s)) : tBd (mpU d r) g = mpU d (tBd r h) := by
  cases r with
  | inl s => exact e s
  | inr e => rfl
theorem sh_fl : tFl k (shU d s) = mpU d (tFl k s) := rfl
theorem sh_sp {n : Int} : tSp n (shU d s) = mpU d (tSp n s) := by
  unfold tSp
  show (if 60000 < s.1.1 + n ∨ 400000 < s.1.2.1 + n then tFl 8 (shU d s) else .inl (sWk (shU d s) (s.1.1 + n) (s.1.2.1 + n))) = _
  split <;> rfl
theorem sh_pt {c : Int} : tPt c (shU d s) = mpU d (tPt c s) := by
  unfold tPt
  rw [sh_sp]
  exact sh_bd (fun s => rfl)
theorem sh_ps : ∀ {L : List Int} {s : TS}, tPs L (shU d s) = mpU d (tPs L s)
  | [], s => rfl
  | c :: r, s => by
    unfold tPs
    rw [sh_pt]
    exact sh_bd (fun s => sh_ps)
theorem sh_pn : tPn L (shU d s) = mpU d (tPn L s) := sh_ps
theorem sh_1 : gv1 k w (shU d s) = mpU d (gv1 k w s) := by
  unfold gv1
  rw [sh_ps, sh_ps, sh_ps, sh_ps, sh_ps, sh_ps, sh_fl]
  split
  · rfl
  · split
    · split <;> rfl
    · split
      · split
        · split <;> rfl
        · rfl
      · split
        · split <;> rfl
        · split
          · split <;> rfl
          · rfl
theorem sh_2 : gv2 k w (shU d s) = mpU d (gv2 k w s) := by
  unfold gv2
  rw [sh_pn, sh_pn, sh_pn, sh_pn, sh_fl]
  split
  · rfl
  · split
    · rfl
    · split
      · split <;> rfl
      · split <;> rfl
theorem sh_3 : gv3 k w (shU d s) = mpU d (gv3 k w s) := by
  unfold gv3
  have e1 : ∀ N V, sCn (shU d s) N V = shU d (sCn s N V) := fun N V => rfl
  have e2 : (shU d s).2.2.1 = s.2.2.1 := rfl
  rw [e2]
  rw [e1, e1, sh_pn, sh_pn, sh_pn, sh_pn, sh_fl]
  split
  · split
    · split
      · split <;> rfl
      · rfl
    · split <;> rfl
  · rfl
theorem sh_N : gvN w (shU d s) = mpU d (gvN w s) := by
  unfold gvN
  have e1 : ∀ N V n, sNo (shU d s) N V n = shU d (sNo s N V n) := fun N V n => rfl
  have e2 : (shU d s).2.2.2.2.2.1 = s.2.2.2.2.2.1 := rfl
  rw [e2, e1, sh_pn, sh_fl]
  split
  · rfl
  · exact sh_bd (fun s => rfl)
theorem sh_L : gvL E w (shU d s) = mpU d (gvL E w s) := by
  unfold gvL
  have e2 : (shU d s).2.2.2.1 = s.2.2.2.1 := rfl
  rw [e2]
  split
  · split
    · split <;> rfl
    · rfl
  · rfl
theorem sh_I : gvI w (shU d s) = mpU d (gvI w s) := by
  unfold gvI
  have e2 : (shU d s).2.2.2.2.1 = s.2.2.2.2.1 := rfl
  rw [e2]
  split
  · rfl
  · split <;> rfl
theorem sh_R : gvR E k w (shU d s) = mpU d (gvR E k w s) := by
  unfold gvR
  have e1 : sUn (shU d s) ((shU d s).2.2.2.2.2.2 + 1) = shU d (sUn s (s.2.2.2.2.2.2 + 1)) := by
    show sUn s (s.2.2.2.2.2.2 + d + 1) = sUn s (s.2.2.2.2.2.2 + 1 + d)
    rw [show s.2.2.2.2.2.2 + d + 1 = s.2.2.2.2.2.2 + 1 + d by omega]
  rw [e1, sh_pn, sh_pn, sh_pn, sh_fl]
  split
  · split
    · rfl
    · split <;> rfl
  · rfl
theorem sh_D : gvD E k w (shU d s) = mpU d (gvD E k w s) := by
  unfold gvD
  rw [sh_1, sh_2, sh_3, sh_N, sh_L, sh_I, sh_R]
  split
  · rfl
  · split
    · rfl
    · split
      · rfl
      · split
        · rfl
        · split
          · rfl
          · split <;> rfl
def SubS (d : Int) (sub : Sub9) : Prop := ∀ a f T s, sub a f T (shU d s) = mpU d (sub a f T s)
theorem sh_ea {sub : Sub9} (hs : SubS d sub) : ∀ {sp : List (Nat × Nat)} {s : TS}, eaD sub f T sp (shU d s) = mpE d (eaD sub f T sp s)
  | [], s => rfl
  | q :: r, s => by
    unfold eaD
    have e1 : sOu (shU d s) [] = shU d (sOu s []) := rfl
    rw [e1, hs]
    cases h : sub true f (sgT T q.1 q.2) (sOu s []) with
    | inr e => rfl
    | inl s1 =>
      show (match eaD sub f T r (shU d (sOu s1 s.2.1)) with
        | .inr e => (.inr e : (List (List Int) × TS) ⊕ (Int × Int × Int))
        | .inl w => .inl (s1.2.1 :: w.1, w.2)) = _
      rw [sh_ea hs]
      show _ = mpE d (match eaD sub f T r (sOu s1 s.2.1) with
        | .inr e => (.inr e : (List (List Int) × TS) ⊕ (Int × Int × Int))
        | .inl w => .inl (s1.2.1 :: w.1, w.2))
      cases h2 : eaD sub f T r (sOu s1 s.2.1) with
      | inr e => rfl
      | inl w => rfl
theorem sh_G {sub : Sub9} (hs : SubS d sub) {m : Int} {sp : List (Nat × Nat)} : caG sub E a f T m k sp w (shU d s) = mpU d (caG sub E a f T m k sp w s) := by
  unfold caG
  rw [hs, hs, hs, sh_D]
  split
  · rfl
  · split
    · split <;> rfl
    · rfl
theorem sh_W {sub : Sub9} (hs : SubS d sub) {p : Nat} : caW sub E a f T p (shU d s) = mpU d (caW sub E a f T p s) := by
  unfold caW
  rw [sh_sp]
  refine sh_bd (fun s => ?_)
  rw [sh_fl, sh_fl]
  by_cases h1 : maD E T p = -1 ∧ kiD E T p = -1
  · rw [if_pos h1, if_pos h1]
  · rw [if_neg h1, if_neg h1]
    by_cases h2 : maD E T p = -1 ∧ noM E a (kiD E T p) = true
    · rw [if_pos h2, if_pos h2]
    · rw [if_neg h2, if_neg h2]
      cases h3 : faD T (arD E T p) (neD T p) with
      | inr k => rfl
      | inl q =>
        show (match eaD sub f T (if maD E T p = -1 ∧ kiD E T p = 15 then q.1.take 2 else q.1) (shU d s) with
          | .inr e => (.inr e : TR)
          | .inl w => caG sub E a f T (maD E T p) (kiD E T p) q.1 w.1 w.2) = mpU d (match eaD sub f T (if maD E T p = -1 ∧ kiD E T p = 15 then q.1.take 2 else q.1) s with
          | .inr e => (.inr e : TR)
          | .inl w => caG sub E a f T (maD E T p) (kiD E T p) q.1 w.1 w.2)
        rw [sh_ea hs]
        cases h4 : eaD sub f T (if maD E T p = -1 ∧ kiD E T p = 15 then q.1.take 2 else q.1) s with
        | inr e => rfl
        | inl w => exact sh_G hs
theorem sh_P {sub : Sub9} (hs : SubS d sub) : ∀ (n p : Nat) (s : TS), wkP sub E a f T n p (shU d s) = mpU d (wkP sub E a f T n p s)
  | 0, p, s => rfl
  | n + 1, p, s => by
    unfold wkP
    have e1 : (shU d s).1 = s.1 := rfl
    have e2 : ∀ y, sSt (shU d s) y = shU d (sSt s y) := fun y => rfl
    rw [e1, e2, e2, sh_W hs, sh_pt, sh_pt, hs, sh_ps, sh_P hs n, sh_P hs n, sh_fl, sh_fl, sh_bd (h := wkP sub E a f T n (nxC E T (p + 1))) (fun s => sh_P hs n _ s), sh_bd (h := wkP sub E a f T n (p + 2)) (fun s => sh_P hs n _ s), sh_bd (h := wkP sub E a f T n ((clD T p).toNat + 1)) (fun s => sh_P hs n _ s), sh_bd (h := wkP sub E a f T n (p + 2)) (fun s => sh_P hs n _ s), sh_bd (h := wkP sub E a f T n (p + 1)) (fun s => sh_P hs n _ s)]
    split
    · rfl
    · split
      · split
        · rfl
        · split <;> rfl
      · split
        · split <;> rfl
        · split
          · rfl
          · split
            · split <;> rfl
            · split
              · rfl
              · split <;> rfl
theorem sh_is : ∀ D : Nat, SubS d (isD D E)
  | 0, a, f, T, s => rfl
  | D + 1, a, f, T, s => by
    show tBd (tSp 5 (shU d s)) _ = mpU d (tBd (tSp 5 s) _)
    rw [sh_sp]
    refine sh_bd (fun s1 => ?_)
    rw [wkD_i, wkD_i, sh_P (sh_is D)]
    exact sh_bd (fun s2 => rfl)
theorem wkD_sh {D : Nat} : wkD D E a f T (shU d s) = mpU d (wkD D E a f T s) := by
  rw [wkD_i, wkD_i, sh_P (sh_is D)]
end
