/-! TEXTS: places are small -/
def PlV (L : List Int) : Prop := ∀ v ∈ L, -1 ≤ v ∧ v ≤ 100000
def PlS (s : TS) : Prop := ((s.2.1.length : Int) ≤ s.1.1 + 100 ∧ s.1.1 ≤ 60000) ∧ PlV s.2.2.2.1.2.2 ∧ PlV s.2.2.2.2.1.2 ∧ PlV (caS s)
def PlR (s s' : TS) : Prop := s.1.1 ≤ s'.1.1 ∧ (PlS s → PlS s')
def PqR (s : TS) (r : TR) : Prop := ∀ s', r = .inl s' → PlR s s'
theorem pkL_q {L : List Int} : (pkL L).length ≤ L.length := by
  have h1 := gP_le (L := L) (k := L.length) (Nat.le_refl _)
  have h2 : (pkL L).length ≤ gP L L.length := by
    unfold gP
    rw [List.take_length]
    omega
  omega
section
variable {s s1 s2 : TS} {E : TE} {a : Bool} {f w : List (List Int)} {T L : List Int} {k : Int}
theorem PlR.tr (h : PlR s s1) (h' : PlR s1 s2) : PlR s s2 := ⟨Int.le_trans h.1 h'.1, fun h9 => h'.2 (h.2 h9)⟩
theorem PlR.rf : PlR s s := ⟨Int.le_refl _, fun h => h⟩
theorem plc_fl : PqR s (tFl k s1) := fun s' he => by cases he
theorem plc_in (h : PlR s s1) : PqR s (.inl s1) := fun s' he => by
  cases he
  exact h
theorem plc_bd {r : TR} {g : TS → TR} (h1 : PqR s r) (h2 : ∀ s1 : TS, PqR s1 (g s1)) : PqR s (tBd r g) := by
  cases r with
  | inl s1 => exact fun s' he => (h1 s1 rfl).tr (h2 s1 s' he)
  | inr e' => exact fun s' he => by cases he
theorem plc_sp {n : Int} (hn : 0 ≤ n) : PqR s (tSp n s) := by
  unfold tSp
  split
  · exact plc_fl
  · rename_i h9
    refine plc_in ⟨?_, fun h => ⟨⟨?_, ?_⟩, h.2⟩⟩
    · show s.1.1 ≤ s.1.1 + n
      omega
    · show (s.2.1.length : Int) ≤ s.1.1 + n + 100
      have := h.1.1
      omega
    · show s.1.1 + n ≤ 60000
      omega
theorem plc_pt {c : Int} : PqR s (tPt c s) := by
  intro s' he
  unfold tPt tSp at he
  split at he
  · cases he
  · rename_i h9
    have e : sOu (sWk s (s.1.1 + 1) (s.1.2.1 + 1)) (s.2.1 ++ [c]) = s' := Sum.inl.inj he
    rw [← e]
    refine ⟨?_, fun h => ⟨⟨?_, ?_⟩, h.2⟩⟩
    · show s.1.1 ≤ s.1.1 + 1
      omega
    · show ((s.2.1 ++ [c]).length : Int) ≤ s.1.1 + 1 + 100
      rw [List.length_append]
      have := h.1.1
      show ((s.2.1.length + 1 : Nat) : Int) ≤ _
      omega
    · show s.1.1 + 1 ≤ 60000
      omega
theorem plc_ps : ∀ {L : List Int} {s : TS}, PqR s (tPs L s)
  | [], s => plc_in PlR.rf
  | c :: r, s => plc_bd plc_pt (fun s => plc_ps)
theorem plc_pn : PqR s (tPn L s) := plc_ps
theorem plc_n {s0 : TS} (h : PlR s0 s) : PqR s0 (tPn L s) := fun s' he => h.tr (plc_pn s' he)
theorem plc_1 : PqR s (gv1 k w s) := by
  have h5 : PqR s (tFl 5 s) := plc_fl
  unfold gv1
  split
  · exact plc_ps
  · split
    · split
      · exact plc_ps
      · exact h5
    · split
      · split
        · split
          · exact plc_ps
          · exact h5
        · exact h5
      · split
        · split
          · exact plc_ps
          · exact h5
        · split
          · split
            · exact plc_ps
            · exact h5
          · exact plc_ps
theorem plc_2 : PqR s (gv2 k w s) := by
  unfold gv2
  split
  · exact plc_pn
  · split
    · exact plc_pn
    · split
      · split
        · exact plc_pn
        · exact plc_fl
      · split
        · exact plc_pn
        · exact plc_fl
theorem plc_3 : PqR s (gv3 k w s) := by
  unfold gv3
  split
  · split
    · split
      · split
        · exact plc_fl
        · exact plc_n ⟨Int.le_refl _, fun h => h⟩
      · exact plc_pn
    · split
      · exact plc_n ⟨Int.le_refl _, fun h => h⟩
      · exact plc_pn
  · exact plc_fl
theorem PlV.sn {V : List Int} {v : Int} (h : PlV V) (hv : -1 ≤ v ∧ v ≤ 100000) : PlV (V ++ [v]) := fun x hx => by
  rcases List.mem_append.mp hx with hx | hx
  · exact h x hx
  · rw [List.mem_singleton.mp hx]
    exact hv
theorem plc_pk (h : PlS s) : -1 ≤ ((pkL s.2.1).length : Int) - 1 ∧ ((pkL s.2.1).length : Int) - 1 ≤ 100000 ∧ (-1 ≤ lsP (pkL s.2.1) ∧ lsP (pkL s.2.1) ≤ 100000) := by
  have h1 := pkL_q (L := s.2.1)
  have h2 := lsP_b (pkL s.2.1)
  have h3 := h.1
  omega
theorem plc_N : PqR s (gvN w s) := by
  unfold gvN
  split
  · exact plc_fl
  · intro s' he
    cases h1 : tPn (91 :: (wrN (s.2.2.2.2.2.1.2.2 + 1) 1 ++ [93])) (sNo s (s.2.2.2.2.2.1.1 ++ [w.getD 0 []]) s.2.2.2.2.2.1.2.1 (s.2.2.2.2.2.1.2.2 + 1)) with
    | inr e =>
      rw [h1] at he
      cases he
    | inl s1 =>
      rw [h1] at he
      have he : Sum.inl (sNo s1 s1.2.2.2.2.2.1.1 (s1.2.2.2.2.2.1.2.1 ++ [((pkL s1.2.1).length : Int) - 1]) s1.2.2.2.2.2.1.2.2) = (Sum.inl s' : TR) := he
      have e2 := Sum.inl.inj he
      have m1 := plc_pn s1 h1
      rw [← e2]
      refine ⟨m1.1, fun h => ?_⟩
      have c1 := m1.2 h
      have b := plc_pk c1
      exact ⟨c1.1, c1.2.1, c1.2.2.1, c1.2.2.2.sn ⟨b.1, b.2.1⟩⟩
theorem plc_L : PqR s (gvL E w s) := by
  unfold gvL
  split
  · split
    · split
      · exact plc_fl
      · exact plc_in ⟨Int.le_refl _, fun h => ⟨h.1, h.2.1.sn (plc_pk h).2.2, h.2.2⟩⟩
    · exact plc_fl
  · exact plc_fl
theorem plc_I : PqR s (gvI w s) := by
  unfold gvI
  split
  · exact plc_fl
  · split
    · exact plc_fl
    · exact plc_in ⟨Int.le_refl _, fun h => ⟨h.1, h.2.1, h.2.2.1.sn (plc_pk h).2.2, h.2.2.2⟩⟩
theorem plc_R : PqR s (gvR E k w s) := by
  unfold gvR
  split
  · split
    · exact plc_n ⟨Int.le_refl _, fun h => h⟩
    · split
      · exact plc_pn
      · exact plc_pn
  · exact plc_fl
theorem plc_D : PqR s (gvD E k w s) := by
  unfold gvD
  split
  · exact plc_1
  · split
    · exact plc_2
    · split
      · exact plc_3
      · split
        · exact plc_N
        · split
          · exact plc_L
          · split
            · exact plc_I
            · exact plc_R
def SubP (sub : Sub9) : Prop := ∀ a f T (s : TS), PqR s (sub a f T s)
theorem plc_ea {sub : Sub9} (hs : SubP sub) : ∀ {sp : List (Nat × Nat)} {s : TS} (w : List (List Int) × TS), eaD sub f T sp s = .inl w → PlR s w.2
  | [], s, w, he => by
    cases he
    exact PlR.rf
  | q :: r, s, w, he => by
    unfold eaD at he
    have h0 := hs true f (sgT T q.1 q.2) (sOu s [])
    cases h1 : sub true f (sgT T q.1 q.2) (sOu s []) with
    | inr e' =>
      simp only [h1] at he
      cases he
    | inl s1 =>
      have ih := plc_ea hs (sp := r) (s := sOu s1 s.2.1)
      have h2 := h0 s1 h1
      simp only [h1] at he
      cases h3 : eaD sub f T r (sOu s1 s.2.1) with
      | inr e' =>
        simp only [h3] at he
        cases he
      | inl w' =>
        simp only [h3] at he
        cases he
        refine PlR.tr (s1 := sOu s1 s.2.1) ⟨h2.1, fun h => ?_⟩ (ih w' h3)
        have g1 : s.1.1 ≤ s1.1.1 := h2.1
        have g2 : PlS s1 := h2.2 ⟨⟨by
          show ((0 : Nat) : Int) ≤ s.1.1 + 100
          have := h.1.1
          omega, h.1.2⟩, h.2⟩
        refine ⟨⟨?_, g2.1.2⟩, g2.2⟩
        show (s.2.1.length : Int) ≤ s1.1.1 + 100
        have := h.1.1
        omega
theorem plc_G {sub : Sub9} (hs : SubP sub) {m : Int} {sp : List (Nat × Nat)} : PqR s (caG sub E a f T m k sp w s) := by
  unfold caG
  split
  · exact hs _ _ _ _
  · split
    · split
      · exact hs _ _ _ _
      · exact hs _ _ _ _
    · exact plc_D
theorem plc_W {sub : Sub9} (hs : SubP sub) {p : Nat} : PqR s (caW sub E a f T p s) := by
  unfold caW
  refine plc_bd (plc_sp (by decide)) (fun s => ?_)
  split
  · exact plc_fl
  · split
    · exact plc_fl
    · cases h9 : faD T (arD E T p) (neD T p) with
      | inr k => exact plc_fl
      | inl q =>
        show PqR s (match eaD sub f T (if maD E T p = -1 ∧ kiD E T p = 15 then q.1.take 2 else q.1) s with
          | .inr e => (.inr e : TR)
          | .inl w => caG sub E a f T (maD E T p) (kiD E T p) q.1 w.1 w.2)
        cases h2 : eaD sub f T (if maD E T p = -1 ∧ kiD E T p = 15 then q.1.take 2 else q.1) s with
        | inr e => exact fun s' he => by cases he
        | inl w => exact fun s' he => (plc_ea hs w h2).tr (plc_G hs s' he)
theorem plc_P {sub : Sub9} (hs : SubP sub) : ∀ (n p : Nat) (s : TS), PqR s (wkP sub E a f T n p s)
  | 0, p, s => plc_in PlR.rf
  | n + 1, p, s => by
    unfold wkP
    split
    · exact plc_in PlR.rf
    · split
      · split
        · exact plc_fl
        · split
          · exact plc_bd (plc_W hs) (plc_P hs n _)
          · exact plc_bd plc_pt (plc_P hs n _)
      · split
        · split
          · exact plc_fl
          · exact plc_bd (hs _ _ _ _) (plc_P hs n _)
        · split
          · exact plc_fl
          · split
            · split
              · exact plc_bd plc_ps (plc_P hs n _)
              · exact plc_fl
            · split
              · exact fun s' he => ⟨(plc_P hs n _ _ s' he).1, fun h => (plc_P hs n _ _ s' he).2 h⟩
              · split
                · exact fun s' he => ⟨(plc_P hs n _ _ s' he).1, fun h => (plc_P hs n _ _ s' he).2 h⟩
                · exact plc_bd plc_pt (plc_P hs n _)
theorem plc_is : ∀ D : Nat, SubP (isD D E)
  | 0, a, f, T, s => plc_fl
  | D + 1, a, f, T, s => by
    refine plc_bd (plc_sp (by decide)) (fun s1 => plc_bd ?_ (fun s2 => plc_in ⟨Int.le_refl _, fun h => h⟩))
    rw [wkD_i]
    exact plc_P (plc_is D) _ _ _
theorem plc_wk {D : Nat} : PqR s (wkD D E a f T s) := by
  rw [wkD_i]
  exact plc_P (plc_is D) _ _ _
end
