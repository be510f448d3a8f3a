/-! TEXTS: what stands ahead of a text matters only by its places -/
def pfO (A : List Int) (t : TS) : TS := sOu t (A ++ t.2.1)
def SwR (A B : List Int) (r r' : TR) : Prop := (∃ t, r = .inl (pfO A t) ∧ r' = .inl (pfO B t)) ∨ (∃ e, r = .inr e ∧ r' = .inr e)
def SwE (A B : List Int) (r r' : (List (List Int) × TS) ⊕ (Int × Int × Int)) : Prop := (∃ W t, r = .inl (W, pfO A t) ∧ r' = .inl (W, pfO B t)) ∨ (∃ e, r = .inr e ∧ r' = .inr e)
def PfL (A B : List Int) : Prop := ∀ X, (pkL (A ++ X)).length = (pkL (B ++ X)).length ∧ lsP (pkL (A ++ X)) = lsP (pkL (B ++ X))
section
variable {A B : List Int} {t : TS} {E : TE} {a : Bool} {f w : List (List Int)} {T L : List Int} {k : Int}
theorem sw_in {t : TS} : SwR A B (.inl (pfO A t)) (.inl (pfO B t)) := Or.inl ⟨t, rfl, rfl⟩
theorem sw_if {c : Prop} {d : Decidable c} {x x' y y' : TR} (h1 : SwR A B x x') (h2 : SwR A B y y') : SwR A B (@ite TR c d x y) (@ite TR c d x' y') := by
  cases d with
  | isTrue h => exact h1
  | isFalse h => exact h2
theorem sw_bd {r r' : TR} {g h : TS → TR} (hr : SwR A B r r') (e : ∀ t, SwR A B (g (pfO A t)) (h (pfO B t))) : SwR A B (tBd r g) (tBd r' h) := by
  rcases hr with ⟨t, h1, h2⟩ | ⟨x, h1, h2⟩
  · rw [h1, h2]
    exact e t
  · rw [h1, h2]
    exact Or.inr ⟨x, rfl, rfl⟩
theorem sw_fl {t : TS} : SwR A B (tFl k (pfO A t)) (tFl k (pfO B t)) := Or.inr ⟨(k, t.1.1, t.1.2.1), rfl, rfl⟩
theorem sw_sp {n : Int} {t : TS} : SwR A B (tSp n (pfO A t)) (tSp n (pfO B t)) := by
  unfold tSp
  show SwR A B (if 60000 < t.1.1 + n ∨ 400000 < t.1.2.1 + n then tFl 8 (pfO A t) else .inl (pfO A (sWk t (t.1.1 + n) (t.1.2.1 + n)))) (if 60000 < t.1.1 + n ∨ 400000 < t.1.2.1 + n then tFl 8 (pfO B t) else .inl (pfO B (sWk t (t.1.1 + n) (t.1.2.1 + n))))
  exact sw_if sw_fl sw_in
theorem sw_pt {c : Int} {t : TS} : SwR A B (tPt c (pfO A t)) (tPt c (pfO B t)) := by
  unfold tPt
  refine sw_bd sw_sp (fun t => Or.inl ⟨sOu t (t.2.1 ++ [c]), ?_, ?_⟩)
  · show Sum.inl (sOu t (A ++ t.2.1 ++ [c])) = Sum.inl (sOu t (A ++ (t.2.1 ++ [c])))
    rw [List.append_assoc]
  · show Sum.inl (sOu t (B ++ t.2.1 ++ [c])) = Sum.inl (sOu t (B ++ (t.2.1 ++ [c])))
    rw [List.append_assoc]
theorem sw_ps : ∀ {L : List Int} {t : TS}, SwR A B (tPs L (pfO A t)) (tPs L (pfO B t))
  | [], t => sw_in
  | c :: r, t => by
    unfold tPs
    exact sw_bd sw_pt (fun t => sw_ps)
theorem sw_pn {t : TS} : SwR A B (tPn L (pfO A t)) (tPn L (pfO B t)) := sw_ps
theorem sw_1 {t : TS} : SwR A B (gv1 k w (pfO A t)) (gv1 k w (pfO B t)) := by
  unfold gv1
  exact sw_if sw_ps (sw_if (sw_if sw_ps sw_fl) (sw_if (sw_if (sw_if sw_ps sw_fl) sw_fl) (sw_if (sw_if sw_ps sw_fl) (sw_if (sw_if sw_ps sw_fl) sw_ps))))
theorem sw_2 {t : TS} : SwR A B (gv2 k w (pfO A t)) (gv2 k w (pfO B t)) := by
  unfold gv2
  exact sw_if sw_pn (sw_if sw_pn (sw_if (sw_if sw_pn sw_fl) (sw_if sw_pn sw_fl)))
theorem sw_3 {t : TS} : SwR A B (gv3 k w (pfO A t)) (gv3 k w (pfO B t)) := by
  unfold gv3
  have e1 : ∀ Z N V, sCn (pfO Z t) N V = pfO Z (sCn t N V) := fun Z N V => rfl
  have e2 : ∀ Z, (pfO Z t).2.2.1 = t.2.2.1 := fun Z => rfl
  rw [e2, e2, e1, e1, e1, e1]
  exact sw_if (sw_if (sw_if (sw_if sw_fl sw_pn) sw_pn) (sw_if sw_pn sw_pn)) sw_fl
theorem sw_N (hp : PfL A B) {t : TS} : SwR A B (gvN w (pfO A t)) (gvN w (pfO B t)) := by
  unfold gvN
  have e1 : ∀ Z N V n, sNo (pfO Z t) N V n = pfO Z (sNo t N V n) := fun Z N V n => rfl
  have e2 : ∀ Z, (pfO Z t).2.2.2.2.2.1 = t.2.2.2.2.2.1 := fun Z => rfl
  rw [e2, e2, e1, e1]
  refine sw_if sw_fl (sw_bd sw_pn (fun t => ?_))
  have e3 : (((pkL (pfO A t).2.1).length : Int) - 1) = ((pkL (pfO B t).2.1).length : Int) - 1 := by
    have := (hp t.2.1).1
    show ((pkL (A ++ t.2.1)).length : Int) - 1 = ((pkL (B ++ t.2.1)).length : Int) - 1
    omega
  rw [e3]
  exact sw_in (t := sNo t t.2.2.2.2.2.1.1 (t.2.2.2.2.2.1.2.1 ++ [((pkL (pfO B t).2.1).length : Int) - 1]) t.2.2.2.2.2.1.2.2)
theorem sw_L (hp : PfL A B) {t : TS} : SwR A B (gvL E w (pfO A t)) (gvL E w (pfO B t)) := by
  unfold gvL
  have e2 : ∀ Z, (pfO Z t).2.2.2.1 = t.2.2.2.1 := fun Z => rfl
  have e3 : lsP (pkL (pfO A t).2.1) = lsP (pkL (pfO B t).2.1) := (hp t.2.1).2
  rw [e2, e2, e3]
  exact sw_if (sw_if (sw_if sw_fl (sw_in (t := sLb t (t.2.2.2.1.1 ++ [ms7 (w.getD 0 [])]) (t.2.2.2.1.2.1 ++ [E.2.2.1]) (t.2.2.2.1.2.2 ++ [lsP (pkL (pfO B t).2.1)])))) sw_fl) sw_fl
theorem sw_I (hp : PfL A B) {t : TS} : SwR A B (gvI w (pfO A t)) (gvI w (pfO B t)) := by
  unfold gvI
  have e2 : ∀ Z, (pfO Z t).2.2.2.2.1 = t.2.2.2.2.1 := fun Z => rfl
  have e3 : lsP (pkL (pfO A t).2.1) = lsP (pkL (pfO B t).2.1) := (hp t.2.1).2
  rw [e2, e2, e3]
  exact sw_if sw_fl (sw_if sw_fl (sw_in (t := sKy t (t.2.2.2.2.1.1 ++ [ms7 (pkL (w.getD 0 []))]) (t.2.2.2.2.1.2 ++ [lsP (pkL (pfO B t).2.1)]))))
theorem sw_R {t : TS} : SwR A B (gvR E k w (pfO A t)) (gvR E k w (pfO B t)) := by
  unfold gvR
  have e1 : ∀ Z, sUn (pfO Z t) ((pfO Z t).2.2.2.2.2.2 + 1) = pfO Z (sUn t (t.2.2.2.2.2.2 + 1)) := fun Z => rfl
  rw [e1, e1]
  exact sw_if (sw_if sw_pn (sw_if sw_pn sw_pn)) sw_fl
theorem sw_D (hp : PfL A B) {t : TS} : SwR A B (gvD E k w (pfO A t)) (gvD E k w (pfO B t)) := by
  unfold gvD
  exact sw_if sw_1 (sw_if sw_2 (sw_if sw_3 (sw_if (sw_N hp) (sw_if (sw_L hp) (sw_if (sw_I hp) sw_R)))))
def SubW (A B : List Int) (sub : Sub9) : Prop := ∀ a f T t, SwR A B (sub a f T (pfO A t)) (sub a f T (pfO B t))
theorem sw_ea {sub : Sub9} : ∀ {sp : List (Nat × Nat)} {t : TS}, SwE A B (eaD sub f T sp (pfO A t)) (eaD sub f T sp (pfO B t))
  | [], t => Or.inl ⟨[], t, rfl, rfl⟩
  | q :: r, t => by
    unfold eaD
    have e1 : ∀ Z, sOu (pfO Z t) [] = sOu t [] := fun Z => rfl
    rw [e1, e1]
    cases h : sub true f (sgT T q.1 q.2) (sOu t []) with
    | inr e => exact Or.inr ⟨e, rfl, rfl⟩
    | inl s1 =>
      have ih := sw_ea (sub := sub) (sp := r) (t := sOu s1 t.2.1)
      show SwE A B (match eaD sub f T r (pfO A (sOu s1 t.2.1)) with
        | .inr e => (.inr e : (List (List Int) × TS) ⊕ (Int × Int × Int))
        | .inl w => .inl (s1.2.1 :: w.1, w.2)) (match eaD sub f T r (pfO B (sOu s1 t.2.1)) with
        | .inr e => (.inr e : (List (List Int) × TS) ⊕ (Int × Int × Int))
        | .inl w => .inl (s1.2.1 :: w.1, w.2))
      rcases ih with ⟨W, u, h1, h2⟩ | ⟨e, h1, h2⟩
      · rw [h1, h2]
        exact Or.inl ⟨s1.2.1 :: W, u, rfl, rfl⟩
      · rw [h1, h2]
        exact Or.inr ⟨e, rfl, rfl⟩
theorem sw_G (hp : PfL A B) {sub : Sub9} (hs : SubW A B sub) {m : Int} {sp : List (Nat × Nat)} {w : List (List Int)} {t : TS} : SwR A B (caG sub E a f T m k sp w (pfO A t)) (caG sub E a f T m k sp w (pfO B t)) := by
  unfold caG
  exact sw_if (hs _ _ _ _) (sw_if (sw_if (hs _ _ _ _) (hs _ _ _ _)) (sw_D hp))
theorem sw_W (hp : PfL A B) {sub : Sub9} (hs : SubW A B sub) {p : Nat} {t : TS} : SwR A B (caW sub E a f T p (pfO A t)) (caW sub E a f T p (pfO B t)) := by
  unfold caW
  refine sw_bd sw_sp (fun t => sw_if sw_fl (sw_if sw_fl ?_))
  cases h3 : faD T (arD E T p) (neD T p) with
  | inr k => exact sw_fl
  | inl q =>
    show SwR A B (match eaD sub f T (if maD E T p = -1 ∧ kiD E T p = 15 then q.1.take 2 else q.1) (pfO A t) with
      | .inr e => (.inr e : TR)
      | .inl w => caG sub E a f T (maD E T p) (kiD E T p) q.1 w.1 w.2) (match eaD sub f T (if maD E T p = -1 ∧ kiD E T p = 15 then q.1.take 2 else q.1) (pfO B t) with
      | .inr e => (.inr e : TR)
      | .inl w => caG sub E a f T (maD E T p) (kiD E T p) q.1 w.1 w.2)
    rcases sw_ea (A := A) (B := B) (sub := sub) (f := f) (T := T) (sp := if maD E T p = -1 ∧ kiD E T p = 15 then q.1.take 2 else q.1) (t := t) with ⟨W, u, h1, h2⟩ | ⟨e, h1, h2⟩
    · rw [h1, h2]
      exact sw_G hp hs
    · rw [h1, h2]
      exact Or.inr ⟨e, rfl, rfl⟩
theorem sw_P (hp : PfL A B) {sub : Sub9} (hs : SubW A B sub) : ∀ (n p : Nat) (t : TS), SwR A B (wkP sub E a f T n p (pfO A t)) (wkP sub E a f T n p (pfO B t))
  | 0, p, t => sw_in
  | n + 1, p, t => by
    unfold wkP
    have e1 : ∀ Z, (pfO Z t).1 = t.1 := fun Z => rfl
    have e2 : ∀ Z y, sSt (pfO Z t) y = pfO Z (sSt t y) := fun Z y => rfl
    rw [e1, e1, e2, e2, e2, e2]
    exact sw_if sw_in (sw_if (sw_if sw_fl (sw_if (sw_bd (sw_W hp hs) (sw_P hp hs n _)) (sw_bd sw_pt (sw_P hp hs n _)))) (sw_if (sw_if sw_fl (sw_bd (hs _ _ _ _) (sw_P hp hs n _))) (sw_if sw_fl (sw_if (sw_if (sw_bd sw_ps (sw_P hp hs n _)) sw_fl) (sw_if (sw_P hp hs n _ _) (sw_if (sw_P hp hs n _ _) (sw_bd sw_pt (sw_P hp hs n _))))))))
theorem sw_is (hp : PfL A B) : ∀ D : Nat, SubW A B (isD D E)
  | 0, a, f, T, t => sw_fl
  | D + 1, a, f, T, t => by
    show SwR A B (tBd (tSp 5 (pfO A t)) _) (tBd (tSp 5 (pfO B t)) _)
    refine sw_bd sw_sp (fun s1 => ?_)
    rw [wkD_i, wkD_i]
    exact sw_bd (sw_P hp (sw_is hp D) _ _ _) (fun s2 => sw_in (t := sSt s2 s1.1.2.2))
/-- a text behind A and behind B -/
theorem wkD_sw (hp : PfL A B) {D : Nat} {t : TS} : SwR A B (wkD D E a f T (pfO A t)) (wkD D E a f T (pfO B t)) := by
  rw [wkD_i, wkD_i]
  exact sw_P hp (sw_is hp D) _ _ _
end
