/-! TEXTS: which faults there are -/
def FkR (r : TR) : Prop := ∀ e, r = .inr e → 1 ≤ e.1 ∧ e.1 ≤ 11
section
variable {s : TS} {E : TE} {a : Bool} {f w : List (List Int)} {T L : List Int} {k : Int}
theorem fk_fl (hk : 1 ≤ k ∧ k ≤ 11) : FkR (tFl k s) := fun e he => by
  cases he
  exact hk
theorem fk_in : FkR (.inl s) := fun e he => by cases he
theorem fk_bd {r : TR} {g : TS → TR} (h1 : FkR r) (h2 : ∀ s, FkR (g s)) : FkR (tBd r g) := fun e he => by
  cases r with
  | inl s => exact h2 s e he
  | inr e' => exact h1 e he
theorem fk_sp {n : Int} : FkR (tSp n s) := by
  unfold tSp
  split
  · exact fk_fl (by decide)
  · exact fk_in
theorem fk_pt {c : Int} : FkR (tPt c s) := fk_bd fk_sp (fun s => fk_in)
theorem fk_ps : ∀ {L : List Int} {s : TS}, FkR (tPs L s)
  | [], s => fk_in
  | c :: r, s => fk_bd fk_pt (fun s => fk_ps)
theorem fk_pn : FkR (tPn L s) := fk_ps
theorem fk_1 : FkR (gv1 k w s) := by
  have h5 : FkR (tFl 5 s) := fk_fl (by decide)
  unfold gv1
  split
  · exact fk_ps
  · split
    · split
      · exact fk_ps
      · exact h5
    · split
      · split
        · split
          · exact fk_ps
          · exact h5
        · exact h5
      · split
        · split
          · exact fk_ps
          · exact h5
        · split
          · split
            · exact fk_ps
            · exact h5
          · exact fk_ps
theorem fk_2 : FkR (gv2 k w s) := by
  have h5 : FkR (tFl 5 s) := fk_fl (by decide)
  unfold gv2
  split
  · exact fk_pn
  · split
    · exact fk_pn
    · split
      · split
        · exact fk_pn
        · exact h5
      · split
        · exact fk_pn
        · exact h5
theorem fk_3 : FkR (gv3 k w s) := by
  unfold gv3
  split
  · split
    · split
      · split
        · exact fk_fl (by decide)
        · exact fk_pn
      · exact fk_pn
    · split
      · exact fk_pn
      · exact fk_pn
  · exact fk_fl (by decide)
theorem fk_N : FkR (gvN w s) := by
  unfold gvN
  split
  · exact fk_fl (by decide)
  · exact fk_bd fk_pn (fun s => fk_in)
theorem fk_L : FkR (gvL E w s) := by
  unfold gvL
  split
  · split
    · split
      · exact fk_fl (by decide)
      · exact fk_in
    · exact fk_fl (by decide)
  · exact fk_fl (by decide)
theorem fk_I : FkR (gvI w s) := by
  unfold gvI
  split
  · exact fk_fl (by decide)
  · split
    · exact fk_fl (by decide)
    · exact fk_in
theorem fk_R : FkR (gvR E k w s) := by
  unfold gvR
  split
  · split
    · exact fk_pn
    · split
      · exact fk_pn
      · exact fk_pn
  · exact fk_fl (by decide)
theorem fk_D : FkR (gvD E k w s) := by
  unfold gvD
  split
  · exact fk_1
  · split
    · exact fk_2
    · split
      · exact fk_3
      · split
        · exact fk_N
        · split
          · exact fk_L
          · split
            · exact fk_I
            · exact fk_R
def SubF (sub : Sub9) : Prop := ∀ a f T s, FkR (sub a f T s)
theorem fk_fa : ∀ {n p : Nat} {k : Int}, faD T n p = .inr k → k = 4 ∨ k = 2
  | 0, p, k, h => by cases h
  | n + 1, p, k, h => by
    unfold faD at h
    split at h
    · cases h
      exact Or.inl rfl
    · split at h
      · cases h
        exact Or.inr rfl
      · cases h9 : faD T n ((clD T p).toNat + 1) with
        | inl q =>
          rw [h9] at h
          cases h
        | inr k' =>
          rw [h9] at h
          cases h
          exact fk_fa h9
theorem fk_ea {sub : Sub9} (hs : SubF sub) : ∀ {sp : List (Nat × Nat)} {s : TS} {e : Int × Int × Int}, eaD sub f T sp s = .inr e → 1 ≤ e.1 ∧ e.1 ≤ 11
  | [], s, e, h => by cases h
  | q :: r, s, e, h => by
    unfold eaD at h
    cases h1 : sub true f (sgT T q.1 q.2) (sOu s []) with
    | inr e' =>
      rw [h1] at h
      cases h
      exact hs _ _ _ _ _ h1
    | inl s1 =>
      rw [h1] at h
      cases h2 : eaD sub f T r (sOu s1 s.2.1) with
      | inr e' =>
        simp only [h2] at h
        cases h
        exact fk_ea hs h2
      | inl w =>
        simp only [h2] at h
        cases h
theorem fk_G {sub : Sub9} (hs : SubF sub) {m : Int} {sp : List (Nat × Nat)} : FkR (caG sub E a f T m k sp w s) := by
  unfold caG
  split
  · exact hs _ _ _ _
  · split
    · split
      · exact hs _ _ _ _
      · exact hs _ _ _ _
    · exact fk_D
theorem fk_W {sub : Sub9} (hs : SubF sub) {p : Nat} : FkR (caW sub E a f T p s) := by
  unfold caW
  refine fk_bd fk_sp (fun s => ?_)
  split
  · exact fk_fl (by decide)
  · split
    · exact fk_fl (by decide)
    · cases h : faD T (arD E T p) (neD T p) with
      | inr k =>
        exact fk_fl (by have := fk_fa h; omega)
      | inl q =>
        show FkR (match eaD sub f T (if maD E T p = -1 ∧ kiD E T p = 15 then q.1.take 2 else q.1) s with
          | .inr e => (.inr e : TR)
          | .inl w => caG sub E a f T (maD E T p) (kiD E T p) q.1 w.1 w.2)
        cases h2 : eaD sub f T (if maD E T p = -1 ∧ kiD E T p = 15 then q.1.take 2 else q.1) s with
        | inr e =>
          intro e' he'
          cases he'
          exact fk_ea hs h2
        | inl w => exact fk_G hs
theorem fk_P {sub : Sub9} (hs : SubF sub) : ∀ (n p : Nat) (s : TS), FkR (wkP sub E a f T n p s)
  | 0, p, s => fk_in
  | n + 1, p, s => by
    unfold wkP
    split
    · exact fk_in
    · split
      · split
        · exact fk_fl (by decide)
        · split
          · exact fk_bd (fk_W hs) (fk_P hs n _)
          · exact fk_bd fk_pt (fk_P hs n _)
      · split
        · split
          · exact fk_fl (by decide)
          · exact fk_bd (hs _ _ _ _) (fk_P hs n _)
        · split
          · exact fk_fl (by decide)
          · split
            · split
              · exact fk_bd fk_ps (fk_P hs n _)
              · exact fk_fl (by decide)
            · split
              · exact fk_P hs n _ _
              · split
                · exact fk_P hs n _ _
                · exact fk_bd fk_pt (fk_P hs n _)
theorem fk_is : ∀ D : Nat, SubF (isD D E)
  | 0, a, f, T, s => fk_fl (by decide)
  | D + 1, a, f, T, s => by
    refine fk_bd fk_sp (fun s1 => fk_bd ?_ (fun s2 => fk_in))
    rw [wkD_i]
    exact fk_P (fk_is D) _ _ _
theorem fk_wk {D : Nat} : FkR (wkD D E a f T s) := by
  rw [wkD_i]
  exact fk_P (fk_is D) _ _ _
end
