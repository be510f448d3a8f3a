/-! TEXTS: marks come behind those there are -/
def ApR (s s' : TS) : Prop := (∃ t, s'.2.2.2.1.2.2 = s.2.2.2.1.2.2 ++ t) ∧ (∃ t, s'.2.2.2.2.1.2 = s.2.2.2.2.1.2 ++ t)
def AxR (s : TS) (r : TR) : Prop := ∀ s', r = .inl s' → ApR s s'
theorem ap_nil {L : List Int} : ∃ t, L = L ++ t := ⟨[], (List.append_nil _).symm⟩
section
variable {s s1 s2 : TS} {E : TE} {a : Bool} {f w : List (List Int)} {T L : List Int} {k : Int}
theorem ApR.tr (h : ApR s s1) (h' : ApR s1 s2) : ApR s s2 := by
  obtain ⟨⟨t, ht⟩, u, hu⟩ := h
  obtain ⟨⟨t', ht'⟩, u', hu'⟩ := h'
  exact ⟨⟨t ++ t', by rw [ht', ht, List.append_assoc]⟩, u ++ u', by rw [hu', hu, List.append_assoc]⟩
theorem ApR.rf : ApR s s := ⟨ap_nil, ap_nil⟩
theorem apd_fl : AxR s (tFl k s1) := fun s' he => by cases he
theorem apd_in (h : ApR s s1) : AxR s (.inl s1) := fun s' he => by
  cases he
  exact h
theorem apd_bd {r : TR} {g : TS → TR} (h1 : AxR s r) (h2 : ∀ s1 : TS, AxR s1 (g s1)) : AxR s (tBd r g) := by
  cases r with
  | inl s1 => exact fun s' he => (h1 s1 rfl).tr (h2 s1 s' he)
  | inr e' => exact fun s' he => by cases he
theorem apd_sp {n : Int} (hn : 0 ≤ n) : AxR s (tSp n s) := by
  unfold tSp
  split
  · exact apd_fl
  · exact apd_in ApR.rf
theorem apd_pt {c : Int} : AxR s (tPt c s) := apd_bd (apd_sp (by decide)) (fun s => apd_in ApR.rf)
theorem apd_ps : ∀ {L : List Int} {s : TS}, AxR s (tPs L s)
  | [], s => apd_in ApR.rf
  | c :: r, s => apd_bd apd_pt (fun s => apd_ps)
theorem apd_pn : AxR s (tPn L s) := apd_ps
theorem apd_n {s0 : TS} (h : ApR s0 s) : AxR s0 (tPn L s) := fun s' he => h.tr (apd_pn s' he)
theorem apd_1 : AxR s (gv1 k w s) := by
  have h5 : AxR s (tFl 5 s) := apd_fl
  unfold gv1
  split
  · exact apd_ps
  · split
    · split
      · exact apd_ps
      · exact h5
    · split
      · split
        · split
          · exact apd_ps
          · exact h5
        · exact h5
      · split
        · split
          · exact apd_ps
          · exact h5
        · split
          · split
            · exact apd_ps
            · exact h5
          · exact apd_ps
theorem apd_2 : AxR s (gv2 k w s) := by
  unfold gv2
  split
  · exact apd_pn
  · split
    · exact apd_pn
    · split
      · split
        · exact apd_pn
        · exact apd_fl
      · split
        · exact apd_pn
        · exact apd_fl
theorem apd_3 : AxR s (gv3 k w s) := by
  unfold gv3
  split
  · split
    · split
      · split
        · exact apd_fl
        · exact apd_n ApR.rf
      · exact apd_pn
    · split
      · exact apd_n ApR.rf
      · exact apd_pn
  · exact apd_fl
theorem apd_N : AxR s (gvN w s) := by
  unfold gvN
  split
  · exact apd_fl
  · intro s' he
    cases h1 : tPn (91 :: (wrN (s.2.2.2.2.2.1.2.2 + 1) 1 ++ [93])) (sNo s (s.2.2.2.2.2.1.1 ++ [w.getD 0 []]) s.2.2.2.2.2.1.2.1 (s.2.2.2.2.2.1.2.2 + 1)) with
    | inr e =>
      rw [h1] at he
      cases he
    | inl s1 =>
      rw [h1] at he
      have he : Sum.inl (sNo s1 s1.2.2.2.2.2.1.1 (s1.2.2.2.2.2.1.2.1 ++ [((pkL s1.2.1).length : Int) - 1]) s1.2.2.2.2.2.1.2.2) = (Sum.inl s' : TR) := he
      have e2 := Sum.inl.inj he
      have m1 := apd_pn s1 h1
      rw [← e2]
      exact ⟨m1.1, m1.2⟩
theorem apd_L : AxR s (gvL E w s) := by
  unfold gvL
  split
  · split
    · split
      · exact apd_fl
      · exact apd_in ⟨⟨[_], rfl⟩, ap_nil⟩
    · exact apd_fl
  · exact apd_fl
theorem apd_I : AxR s (gvI w s) := by
  unfold gvI
  split
  · exact apd_fl
  · split
    · exact apd_fl
    · exact apd_in ⟨ap_nil, [_], rfl⟩
theorem apd_R : AxR s (gvR E k w s) := by
  unfold gvR
  split
  · split
    · exact apd_n ApR.rf
    · split
      · exact apd_pn
      · exact apd_pn
  · exact apd_fl
theorem apd_D : AxR s (gvD E k w s) := by
  unfold gvD
  split
  · exact apd_1
  · split
    · exact apd_2
    · split
      · exact apd_3
      · split
        · exact apd_N
        · split
          · exact apd_L
          · split
            · exact apd_I
            · exact apd_R
def SubA (sub : Sub9) : Prop := ∀ a f T (s : TS), AxR s (sub a f T s)
theorem apd_ea {sub : Sub9} (hs : SubA sub) : ∀ {sp : List (Nat × Nat)} {s : TS} (w : List (List Int) × TS), eaD sub f T sp s = .inl w → ApR s w.2
  | [], s, w, he => by
    cases he
    exact ApR.rf
  | q :: r, s, w, he => by
    unfold eaD at he
    have h0 := hs true f (sgT T q.1 q.2) (sOu s [])
    cases h1 : sub true f (sgT T q.1 q.2) (sOu s []) with
    | inr e' =>
      simp only [h1] at he
      cases he
    | inl s1 =>
      have ih := apd_ea hs (sp := r) (s := sOu s1 s.2.1)
      have h2 := h0 s1 h1
      simp only [h1] at he
      cases h3 : eaD sub f T r (sOu s1 s.2.1) with
      | inr e' =>
        simp only [h3] at he
        cases he
      | inl w' =>
        simp only [h3] at he
        cases he
        exact ApR.tr (s1 := sOu s1 s.2.1) ⟨h2.1, h2.2⟩ (ih w' h3)
theorem apd_G {sub : Sub9} (hs : SubA sub) {m : Int} {sp : List (Nat × Nat)} : AxR s (caG sub E a f T m k sp w s) := by
  unfold caG
  split
  · exact hs _ _ _ _
  · split
    · split
      · exact hs _ _ _ _
      · exact hs _ _ _ _
    · exact apd_D
theorem apd_W {sub : Sub9} (hs : SubA sub) {p : Nat} : AxR s (caW sub E a f T p s) := by
  unfold caW
  refine apd_bd (apd_sp (by decide)) (fun s => ?_)
  split
  · exact apd_fl
  · split
    · exact apd_fl
    · cases h9 : faD T (arD E T p) (neD T p) with
      | inr k => exact apd_fl
      | inl q =>
        show AxR s (match eaD sub f T (if maD E T p = -1 ∧ kiD E T p = 15 then q.1.take 2 else q.1) s with
          | .inr e => (.inr e : TR)
          | .inl w => caG sub E a f T (maD E T p) (kiD E T p) q.1 w.1 w.2)
        cases h2 : eaD sub f T (if maD E T p = -1 ∧ kiD E T p = 15 then q.1.take 2 else q.1) s with
        | inr e => exact fun s' he => by cases he
        | inl w => exact fun s' he => (apd_ea hs w h2).tr (apd_G hs s' he)
theorem apd_P {sub : Sub9} (hs : SubA sub) : ∀ (n p : Nat) (s : TS), AxR s (wkP sub E a f T n p s)
  | 0, p, s => apd_in ApR.rf
  | n + 1, p, s => by
    unfold wkP
    split
    · exact apd_in ApR.rf
    · split
      · split
        · exact apd_fl
        · split
          · exact apd_bd (apd_W hs) (apd_P hs n _)
          · exact apd_bd apd_pt (apd_P hs n _)
      · split
        · split
          · exact apd_fl
          · exact apd_bd (hs _ _ _ _) (apd_P hs n _)
        · split
          · exact apd_fl
          · split
            · split
              · exact apd_bd apd_ps (apd_P hs n _)
              · exact apd_fl
            · split
              · exact fun s' he => ⟨(apd_P hs n _ _ s' he).1, (apd_P hs n _ _ s' he).2⟩
              · split
                · exact fun s' he => ⟨(apd_P hs n _ _ s' he).1, (apd_P hs n _ _ s' he).2⟩
                · exact apd_bd apd_pt (apd_P hs n _)
theorem apd_is : ∀ D : Nat, SubA (isD D E)
  | 0, a, f, T, s => apd_fl
  | D + 1, a, f, T, s => by
    refine apd_bd (apd_sp (by decide)) (fun s1 => apd_bd ?_ (fun s2 => apd_in ApR.rf))
    rw [wkD_i]
    exact apd_P (apd_is D) _ _ _
theorem apd_wk {D : Nat} : AxR s (wkD D E a f T s) := by
  rw [wkD_i]
  exact apd_P (apd_is D) _ _ _
end
