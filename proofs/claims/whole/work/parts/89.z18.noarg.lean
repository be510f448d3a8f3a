/-! TEXTS: where no marks are allowed all goes as in arguments -/
def eZ (E : TE) : TE := (E.1, E.2.1, E.2.2.1, 0)
def SubQ (sub sub0 : Sub9) : Prop := ∀ a f T s, sub true f T s = sub0 a f T s
section
variable {s : TS} {E : TE} {a : Bool} {f w : List (List Int)} {T : List Int} {k : Int} {sub sub0 : Sub9}
theorem nq_M : noM E true k = noM (eZ E) a k := by
  unfold noM
  have e : decide ((eZ E).2.2.2 < (if k = 16 then 2 else 1)) = true := decide_eq_true (by
    show (0 : Int) < if k = 16 then 2 else 1
    split <;> decide)
  rw [e, Bool.or_true, Bool.true_or]
theorem nq_ea (hs : SubQ sub sub0) : ∀ {sp : List (Nat × Nat)} {s : TS}, eaD sub f T sp s = eaD sub0 f T sp s
  | [], s => rfl
  | q :: r, s => by
    unfold eaD
    rw [hs true f]
    cases h : sub0 true f (sgT T q.1 q.2) (sOu s []) with
    | inr e => rfl
    | inl s1 =>
      show (match eaD sub f T r (sOu s1 s.2.1) with
        | .inr e => (.inr e : (List (List Int) × TS) ⊕ (Int × Int × Int))
        | .inl w => .inl (s1.2.1 :: w.1, w.2)) = _
      rw [nq_ea hs]
      rfl
theorem nq_G (hs : SubQ sub sub0) {m : Int} {sp : List (Nat × Nat)} : caG sub E true f T m k sp w s = caG sub0 (eZ E) a f T m k sp w s := by
  unfold caG
  rw [hs a, hs a, hs a]
  rfl
theorem nq_W (hs : SubQ sub sub0) {p : Nat} {s : TS} : caW sub E true f T p s = caW sub0 (eZ E) a f T p s := by
  unfold caW
  cases h : tSp 20 s with
  | inr e => rfl
  | inl s1 =>
    show (if maD E T p = -1 ∧ kiD E T p = -1 then tFl 3 s1 else if maD E T p = -1 ∧ noM E true (kiD E T p) = true then tFl 6 s1 else match faD T (arD E T p) (neD T p) with
      | .inr k => tFl k s1
      | .inl q => match eaD sub f T (if maD E T p = -1 ∧ kiD E T p = 15 then q.1.take 2 else q.1) s1 with
        | .inr e => .inr e
        | .inl w => caG sub E true f T (maD E T p) (kiD E T p) q.1 w.1 w.2) = (if maD E T p = -1 ∧ kiD E T p = -1 then tFl 3 s1 else if maD E T p = -1 ∧ noM (eZ E) a (kiD E T p) = true then tFl 6 s1 else match faD T (arD E T p) (neD T p) with
      | .inr k => tFl k s1
      | .inl q => match eaD sub0 f T (if maD E T p = -1 ∧ kiD E T p = 15 then q.1.take 2 else q.1) s1 with
        | .inr e => .inr e
        | .inl w => caG sub0 (eZ E) a f T (maD E T p) (kiD E T p) q.1 w.1 w.2)
    rw [nq_M (E := E) (a := a)]
    split
    · rfl
    · split
      · rfl
      · cases h9 : faD T (arD E T p) (neD T p) with
        | inr k => rfl
        | inl q =>
          show (match eaD sub f T (if maD E T p = -1 ∧ kiD E T p = 15 then q.1.take 2 else q.1) s1 with
            | .inr e => (.inr e : TR)
            | .inl w => caG sub E true f T (maD E T p) (kiD E T p) q.1 w.1 w.2) = (match eaD sub0 f T (if maD E T p = -1 ∧ kiD E T p = 15 then q.1.take 2 else q.1) s1 with
            | .inr e => (.inr e : TR)
            | .inl w => caG sub0 (eZ E) a f T (maD E T p) (kiD E T p) q.1 w.1 w.2)
          rw [nq_ea hs]
          cases h2 : eaD sub0 f T (if maD E T p = -1 ∧ kiD E T p = 15 then q.1.take 2 else q.1) s1 with
          | inr e => rfl
          | inl w => exact nq_G hs
theorem nq_P (hs : SubQ sub sub0) : ∀ (n p : Nat) (s : TS), wkP sub E true f T n p s = wkP sub0 (eZ E) a f T n p s
  | 0, p, s => rfl
  | n + 1, p, s => by
    have ih := fun p => funext (nq_P hs n p)
    unfold wkP
    rw [nq_W (a := a) hs, hs a, ih, ih, ih, ih]
    rfl
theorem nq_is : ∀ D : Nat, SubQ (isD D E) (isD D (eZ E))
  | 0, a, f, T, s => rfl
  | D + 1, a, f, T, s => by
    show tBd (tSp 5 s) _ = tBd (tSp 5 s) _
    congr 1
    funext s1
    rw [wkD_i, wkD_i, nq_P (a := a) (nq_is D)]
theorem wkD_nq {D : Nat} : wkD D E true f T s = wkD D (eZ E) a f T s := by
  rw [wkD_i, wkD_i, nq_P (a := a) (nq_is D)]
end
