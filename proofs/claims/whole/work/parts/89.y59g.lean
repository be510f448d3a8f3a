/-! TEXTS: the work stays within bounds, at faults too -/
def EkR (r : TR) : Prop := (∀ s', r = .inl s' → s'.1.2.1 ≤ 400000) ∧ ∀ e, r = .inr e → e.2.2 ≤ 400000
section
variable {s : TS} {E : TE} {a : Bool} {f w : List (List Int)} {T L : List Int} {k : Int}
theorem ek_fl (h : s.1.2.1 ≤ 400000) : EkR (tFl k s) := ⟨fun s' he => (by cases he), fun e he => by
  cases he
  exact h⟩
theorem ek_in (h : s.1.2.1 ≤ 400000) : EkR (.inl s) := ⟨fun s' he => by
  cases he
  exact h, fun e he => by cases he⟩
theorem ek_bd {r : TR} {g : TS → TR} (h1 : EkR r) (h2 : ∀ s : TS, s.1.2.1 ≤ 400000 → EkR (g s)) : EkR (tBd r g) := by
  cases r with
  | inl s => exact h2 s (h1.1 s rfl)
  | inr e' => exact ⟨fun s' he => (by cases he), fun e he => h1.2 e he⟩
theorem ek_sp {n : Int} (h : s.1.2.1 ≤ 400000) : EkR (tSp n s) := by
  unfold tSp
  split
  · exact ek_fl h
  · rename_i hn
    refine ek_in ?_
    show s.1.2.1 + n ≤ 400000
    omega
theorem ek_pt {c : Int} (h : s.1.2.1 ≤ 400000) : EkR (tPt c s) := ek_bd (ek_sp h) (fun s h => ek_in h)
theorem ek_ps : ∀ {L : List Int} {s : TS}, s.1.2.1 ≤ 400000 → EkR (tPs L s)
  | [], s, h => ek_in h
  | c :: r, s, h => ek_bd (ek_pt h) (fun s h => ek_ps h)
theorem ek_pn (h : s.1.2.1 ≤ 400000) : EkR (tPn L s) := ek_ps h
theorem ek_1 (h : s.1.2.1 ≤ 400000) : EkR (gv1 k w s) := by
  have h5 : EkR (tFl 5 s) := ek_fl h
  unfold gv1
  split
  · exact ek_ps h
  · split
    · split
      · exact ek_ps h
      · exact h5
    · split
      · split
        · split
          · exact ek_ps h
          · exact h5
        · exact h5
      · split
        · split
          · exact ek_ps h
          · exact h5
        · split
          · split
            · exact ek_ps h
            · exact h5
          · exact ek_ps h
theorem ek_2 (h : s.1.2.1 ≤ 400000) : EkR (gv2 k w s) := by
  have h5 : EkR (tFl 5 s) := ek_fl h
  unfold gv2
  split
  · exact ek_pn h
  · split
    · exact ek_pn h
    · split
      · split
        · exact ek_pn h
        · exact h5
      · split
        · exact ek_pn h
        · exact h5
theorem ek_3 (h : s.1.2.1 ≤ 400000) : EkR (gv3 k w s) := by
  unfold gv3
  split
  · split
    · split
      · split
        · exact ek_fl h
        · exact ek_pn h
      · exact ek_pn h
    · split
      · exact ek_pn h
      · exact ek_pn h
  · exact ek_fl h
theorem ek_N (h : s.1.2.1 ≤ 400000) : EkR (gvN w s) := by
  unfold gvN
  split
  · exact ek_fl h
  · exact ek_bd (ek_pn h) (fun s h => ek_in h)
theorem ek_L (h : s.1.2.1 ≤ 400000) : EkR (gvL E w s) := by
  unfold gvL
  split
  · split
    · split
      · exact ek_fl h
      · exact ek_in h
    · exact ek_fl h
  · exact ek_fl h
theorem ek_I (h : s.1.2.1 ≤ 400000) : EkR (gvI w s) := by
  unfold gvI
  split
  · exact ek_fl h
  · split
    · exact ek_fl h
    · exact ek_in h
theorem ek_R (h : s.1.2.1 ≤ 400000) : EkR (gvR E k w s) := by
  unfold gvR
  split
  · split
    · exact ek_pn h
    · split
      · exact ek_pn h
      · exact ek_pn h
  · exact ek_fl h
theorem ek_D (h : s.1.2.1 ≤ 400000) : EkR (gvD E k w s) := by
  unfold gvD
  split
  · exact ek_1 h
  · split
    · exact ek_2 h
    · split
      · exact ek_3 h
      · split
        · exact ek_N h
        · split
          · exact ek_L h
          · split
            · exact ek_I h
            · exact ek_R h
def SubE (sub : Sub9) : Prop := ∀ a f T (s : TS), s.1.2.1 ≤ 400000 → EkR (sub a f T s)
theorem ek_ea {sub : Sub9} (hs : SubE sub) : ∀ {sp : List (Nat × Nat)} {s : TS}, s.1.2.1 ≤ 400000 → (∀ w, eaD sub f T sp s = .inl w → w.2.1.2.1 ≤ 400000) ∧ ∀ e, eaD sub f T sp s = .inr e → e.2.2 ≤ 400000
  | [], s, h => ⟨fun w he => by
    cases he
    exact h, fun e he => by cases he⟩
  | q :: r, s, h => by
    unfold eaD
    have h0 := hs true f (sgT T q.1 q.2) (sOu s []) h
    cases h1 : sub true f (sgT T q.1 q.2) (sOu s []) with
    | inr e' =>
      refine ⟨fun w he => ?_, fun e he => ?_⟩
      · cases he
      · cases he
        exact h0.2 _ h1
    | inl s1 =>
      have ih := ek_ea hs (sp := r) (s := sOu s1 s.2.1) (h0.1 s1 h1)
      cases h2 : eaD sub f T r (sOu s1 s.2.1) with
      | inr e' =>
        refine ⟨fun w he => ?_, fun e he => ?_⟩
        · simp only [h2] at he
          cases he
        · simp only [h2] at he
          cases he
          exact ih.2 _ h2
      | inl w' =>
        refine ⟨fun w he => ?_, fun e he => ?_⟩
        · simp only [h2] at he
          cases he
          exact ih.1 w' h2
        · simp only [h2] at he
          cases he
theorem ek_G {sub : Sub9} (hs : SubE sub) (h : s.1.2.1 ≤ 400000) {m : Int} {sp : List (Nat × Nat)} : EkR (caG sub E a f T m k sp w s) := by
  unfold caG
  split
  · exact hs _ _ _ _ h
  · split
    · split
      · exact hs _ _ _ _ h
      · exact hs _ _ _ _ h
    · exact ek_D h
theorem ek_W {sub : Sub9} (hs : SubE sub) (h : s.1.2.1 ≤ 400000) {p : Nat} : EkR (caW sub E a f T p s) := by
  unfold caW
  refine ek_bd (ek_sp h) (fun s h => ?_)
  split
  · exact ek_fl h
  · split
    · exact ek_fl h
    · cases h9 : faD T (arD E T p) (neD T p) with
      | inr k => exact ek_fl h
      | inl q =>
        show EkR (match eaD sub f T (if maD E T p = -1 ∧ kiD E T p = 15 then q.1.take 2 else q.1) s with
          | .inr e => (.inr e : TR)
          | .inl w => caG sub E a f T (maD E T p) (kiD E T p) q.1 w.1 w.2)
        have h3 := ek_ea (f := f) (T := T) hs (sp := if maD E T p = -1 ∧ kiD E T p = 15 then q.1.take 2 else q.1) h
        cases h2 : eaD sub f T (if maD E T p = -1 ∧ kiD E T p = 15 then q.1.take 2 else q.1) s with
        | inr e => exact ⟨fun s' he => (by cases he), fun e' he => by
            cases he
            exact h3.2 _ h2⟩
        | inl w => exact ek_G hs (h3.1 _ h2)
theorem ek_P {sub : Sub9} (hs : SubE sub) : ∀ (n p : Nat) (s : TS), s.1.2.1 ≤ 400000 → EkR (wkP sub E a f T n p s)
  | 0, p, s, h => ek_in h
  | n + 1, p, s, h => by
    unfold wkP
    split
    · exact ek_in h
    · split
      · split
        · exact ek_fl h
        · split
          · exact ek_bd (ek_W hs h) (ek_P hs n _)
          · exact ek_bd (ek_pt h) (ek_P hs n _)
      · split
        · split
          · exact ek_fl h
          · exact ek_bd (hs _ _ _ _ h) (ek_P hs n _)
        · split
          · exact ek_fl h
          · split
            · split
              · exact ek_bd (ek_ps h) (ek_P hs n _)
              · exact ek_fl h
            · split
              · exact ek_P hs n _ _ h
              · split
                · exact ek_P hs n _ _ h
                · exact ek_bd (ek_pt h) (ek_P hs n _)
theorem ek_is : ∀ D : Nat, SubE (isD D E)
  | 0, a, f, T, s, h => ek_fl h
  | D + 1, a, f, T, s, h => by
    refine ek_bd (ek_sp h) (fun s1 h => ek_bd ?_ (fun s2 h => ek_in h))
    rw [wkD_i]
    exact ek_P (ek_is D) _ _ _ h
theorem ek_wk {D : Nat} (h : s.1.2.1 ≤ 400000) : EkR (wkD D E a f T s) := by
  rw [wkD_i]
  exact ek_P (ek_is D) _ _ _ h
end
