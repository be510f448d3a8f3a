/-! TEXTS: marks only grow; notes are counted -/
def GwR (s s' : TS) : Prop := s.2.2.2.1.1.length ≤ s'.2.2.2.1.1.length ∧ s.2.2.2.2.1.1.length ≤ s'.2.2.2.2.1.1.length ∧ ((s'.2.2.2.2.2.1.1.length : Int) - (s.2.2.2.2.2.1.1.length : Int) = s'.2.2.2.2.2.1.2.2 - s.2.2.2.2.2.1.2.2)
def GxR (s : TS) (r : TR) : Prop := ∀ s', r = .inl s' → GwR s s'
section
variable {s s1 s2 : TS} {E : TE} {a : Bool} {f w : List (List Int)} {T L : List Int} {k : Int}
theorem GwR.tr (h : GwR s s1) (h' : GwR s1 s2) : GwR s s2 := ⟨Nat.le_trans h.1 h'.1, Nat.le_trans h.2.1 h'.2.1, by have := h.2.2; have := h'.2.2; omega⟩
theorem GwR.rf : GwR s s := ⟨Nat.le_refl _, Nat.le_refl _, by omega⟩
theorem GwR.z0 {x y : Int} : x - x = y - y := by omega
theorem gr_fl : GxR s (tFl k s1) := fun s' he => by cases he
theorem gr_in (h : GwR s s1) : GxR s (.inl s1) := fun s' he => by
  cases he
  exact h
theorem gr_bd {r : TR} {g : TS → TR} (h1 : GxR s r) (h2 : ∀ s1 : TS, GxR s1 (g s1)) : GxR s (tBd r g) := by
  cases r with
  | inl s1 => exact fun s' he => (h1 s1 rfl).tr (h2 s1 s' he)
  | inr e' => exact fun s' he => by cases he
theorem gr_sp {n : Int} (hn : 0 ≤ n) : GxR s (tSp n s) := by
  unfold tSp
  split
  · exact gr_fl
  · exact gr_in GwR.rf
theorem gr_pt {c : Int} : GxR s (tPt c s) := gr_bd (gr_sp (by decide)) (fun s => gr_in GwR.rf)
theorem gr_ps : ∀ {L : List Int} {s : TS}, GxR s (tPs L s)
  | [], s => gr_in GwR.rf
  | c :: r, s => gr_bd gr_pt (fun s => gr_ps)
theorem gr_pn : GxR s (tPn L s) := gr_ps
theorem gr_n {s0 : TS} (h : GwR s0 s) : GxR s0 (tPn L s) := fun s' he => h.tr (gr_pn s' he)
theorem gr_1 : GxR s (gv1 k w s) := by
  have h5 : GxR s (tFl 5 s) := gr_fl
  unfold gv1
  split
  · exact gr_ps
  · split
    · split
      · exact gr_ps
      · exact h5
    · split
      · split
        · split
          · exact gr_ps
          · exact h5
        · exact h5
      · split
        · split
          · exact gr_ps
          · exact h5
        · split
          · split
            · exact gr_ps
            · exact h5
          · exact gr_ps
theorem gr_2 : GxR s (gv2 k w s) := by
  unfold gv2
  split
  · exact gr_pn
  · split
    · exact gr_pn
    · split
      · split
        · exact gr_pn
        · exact gr_fl
      · split
        · exact gr_pn
        · exact gr_fl
theorem gr_3 : GxR s (gv3 k w s) := by
  unfold gv3
  split
  · split
    · split
      · split
        · exact gr_fl
        · exact gr_n GwR.rf
      · exact gr_pn
    · split
      · exact gr_n GwR.rf
      · exact gr_pn
  · exact gr_fl
theorem gr_N : GxR s (gvN w s) := by
  unfold gvN
  split
  · exact gr_fl
  · intro s' he
    cases h1 : tPn (91 :: (wrN (s.2.2.2.2.2.1.2.2 + 1) 1 ++ [93])) (sNo s (s.2.2.2.2.2.1.1 ++ [w.getD 0 []]) s.2.2.2.2.2.1.2.1 (s.2.2.2.2.2.1.2.2 + 1)) with
    | inr e =>
      rw [h1] at he
      cases he
    | inl s1 =>
      rw [h1] at he
      have he : Sum.inl (sNo s1 s1.2.2.2.2.2.1.1 (s1.2.2.2.2.2.1.2.1 ++ [((pkL s1.2.1).length : Int) - 1]) s1.2.2.2.2.2.1.2.2) = (Sum.inl s' : TR) := he
      have e2 := Sum.inl.inj he
      have m1 := gr_pn s1 h1
      rw [← e2]
      refine ⟨m1.1, m1.2.1, ?_⟩
      have m3 : ((s1.2.2.2.2.2.1.1.length : Int) - (((s.2.2.2.2.2.1.1 ++ [w.getD 0 []]).length : Nat) : Int) = s1.2.2.2.2.2.1.2.2 - (s.2.2.2.2.2.1.2.2 + 1)) := m1.2.2
      rw [List.length_append] at m3
      have m3 : ((s1.2.2.2.2.2.1.1.length : Int) - ((s.2.2.2.2.2.1.1.length + 1 : Nat) : Int) = s1.2.2.2.2.2.1.2.2 - (s.2.2.2.2.2.1.2.2 + 1)) := m3
      show (s1.2.2.2.2.2.1.1.length : Int) - (s.2.2.2.2.2.1.1.length : Int) = s1.2.2.2.2.2.1.2.2 - s.2.2.2.2.2.1.2.2
      omega
theorem gr_L : GxR s (gvL E w s) := by
  unfold gvL
  split
  · split
    · split
      · exact gr_fl
      · refine gr_in ⟨?_, Nat.le_refl _, GwR.z0⟩
        show s.2.2.2.1.1.length ≤ (s.2.2.2.1.1 ++ [_]).length
        rw [List.length_append]
        omega
    · exact gr_fl
  · exact gr_fl
theorem gr_I : GxR s (gvI w s) := by
  unfold gvI
  split
  · exact gr_fl
  · split
    · exact gr_fl
    · refine gr_in ⟨Nat.le_refl _, ?_, GwR.z0⟩
      show s.2.2.2.2.1.1.length ≤ (s.2.2.2.2.1.1 ++ [_]).length
      rw [List.length_append]
      omega
theorem gr_R : GxR s (gvR E k w s) := by
  unfold gvR
  split
  · split
    · exact gr_n GwR.rf
    · split
      · exact gr_pn
      · exact gr_pn
  · exact gr_fl
theorem gr_D : GxR s (gvD E k w s) := by
  unfold gvD
  split
  · exact gr_1
  · split
    · exact gr_2
    · split
      · exact gr_3
      · split
        · exact gr_N
        · split
          · exact gr_L
          · split
            · exact gr_I
            · exact gr_R
def SubG (sub : Sub9) : Prop := ∀ a f T (s : TS), GxR s (sub a f T s)
theorem gr_ea {sub : Sub9} (hs : SubG sub) : ∀ {sp : List (Nat × Nat)} {s : TS} (w : List (List Int) × TS), eaD sub f T sp s = .inl w → GwR s w.2
  | [], s, w, he => by
    cases he
    exact GwR.rf
  | q :: r, s, w, he => by
    unfold eaD at he
    have h0 := hs true f (sgT T q.1 q.2) (sOu s [])
    cases h1 : sub true f (sgT T q.1 q.2) (sOu s []) with
    | inr e' =>
      simp only [h1] at he
      cases he
    | inl s1 =>
      have ih := gr_ea hs (sp := r) (s := sOu s1 s.2.1)
      have h2 := h0 s1 h1
      simp only [h1] at he
      cases h3 : eaD sub f T r (sOu s1 s.2.1) with
      | inr e' =>
        simp only [h3] at he
        cases he
      | inl w' =>
        simp only [h3] at he
        cases he
        exact GwR.tr (s1 := sOu s1 s.2.1) ⟨h2.1, h2.2.1, h2.2.2⟩ (ih w' h3)
theorem gr_G {sub : Sub9} (hs : SubG sub) {m : Int} {sp : List (Nat × Nat)} : GxR s (caG sub E a f T m k sp w s) := by
  unfold caG
  split
  · exact hs _ _ _ _
  · split
    · split
      · exact hs _ _ _ _
      · exact hs _ _ _ _
    · exact gr_D
theorem gr_W {sub : Sub9} (hs : SubG sub) {p : Nat} : GxR s (caW sub E a f T p s) := by
  unfold caW
  refine gr_bd (gr_sp (by decide)) (fun s => ?_)
  split
  · exact gr_fl
  · split
    · exact gr_fl
    · cases h9 : faD T (arD E T p) (neD T p) with
      | inr k => exact gr_fl
      | inl q =>
        show GxR s (match eaD sub f T (if maD E T p = -1 ∧ kiD E T p = 15 then q.1.take 2 else q.1) s with
          | .inr e => (.inr e : TR)
          | .inl w => caG sub E a f T (maD E T p) (kiD E T p) q.1 w.1 w.2)
        cases h2 : eaD sub f T (if maD E T p = -1 ∧ kiD E T p = 15 then q.1.take 2 else q.1) s with
        | inr e => exact fun s' he => by cases he
        | inl w => exact fun s' he => (gr_ea hs w h2).tr (gr_G hs s' he)
theorem gr_P {sub : Sub9} (hs : SubG sub) : ∀ (n p : Nat) (s : TS), GxR s (wkP sub E a f T n p s)
  | 0, p, s => gr_in GwR.rf
  | n + 1, p, s => by
    unfold wkP
    split
    · exact gr_in GwR.rf
    · split
      · split
        · exact gr_fl
        · split
          · exact gr_bd (gr_W hs) (gr_P hs n _)
          · exact gr_bd gr_pt (gr_P hs n _)
      · split
        · split
          · exact gr_fl
          · exact gr_bd (hs _ _ _ _) (gr_P hs n _)
        · split
          · exact gr_fl
          · split
            · split
              · exact gr_bd gr_ps (gr_P hs n _)
              · exact gr_fl
            · split
              · exact fun s' he => ⟨(gr_P hs n _ _ s' he).1, (gr_P hs n _ _ s' he).2.1, (gr_P hs n _ _ s' he).2.2⟩
              · split
                · exact fun s' he => ⟨(gr_P hs n _ _ s' he).1, (gr_P hs n _ _ s' he).2.1, (gr_P hs n _ _ s' he).2.2⟩
                · exact gr_bd gr_pt (gr_P hs n _)
theorem gr_is : ∀ D : Nat, SubG (isD D E)
  | 0, a, f, T, s => gr_fl
  | D + 1, a, f, T, s => by
    refine gr_bd (gr_sp (by decide)) (fun s1 => gr_bd ?_ (fun s2 => gr_in GwR.rf))
    rw [wkD_i]
    exact gr_P (gr_is D) _ _ _
theorem gr_wk {D : Nat} : GxR s (wkD D E a f T s) := by
  rw [wkD_i]
  exact gr_P (gr_is D) _ _ _
end
