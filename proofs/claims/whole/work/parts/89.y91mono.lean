/-! TEXTS: signs that carry notes come one behind the other -/
def caS (s : TS) : List Int := s.2.2.2.2.2.1.2.1
def CmS (s : TS) : Prop := (∀ i j, i < j → j < (caS s).length → (caS s).getD i 0 ≤ (caS s).getD j 0) ∧ ∀ c ∈ caS s, c ≤ ((pkL s.2.1).length : Int) - 1
def CmR (a : Bool) (s s' : TS) : Prop := (∃ t, s'.2.1 = s.2.1 ++ t) ∧ (a = true → caS s' = caS s) ∧ (CmS s → CmS s')
def MoR (a : Bool) (s : TS) (r : TR) : Prop := ∀ s', r = .inl s' → CmR a s s'
theorem pk_app {L t : List Int} : (pkL L).length ≤ (pkL (L ++ t)).length := by
  obtain ⟨x, hx⟩ := pkL_pre (L := L ++ t) L.length
  rw [List.take_append_of_le_length (Nat.le_refl _), List.take_length] at hx
  rw [hx, List.length_append]
  omega
section
variable {s s1 : TS} {E : TE} {a : Bool} {f w : List (List Int)} {T L : List Int} {k : Int}
theorem CmR.of (h1 : ∃ t, s1.2.1 = s.2.1 ++ t) (h2 : caS s1 = caS s) : CmR a s s1 := by
  refine ⟨h1, fun _ => h2, fun h => ?_⟩
  obtain ⟨t, ht⟩ := h1
  refine ⟨?_, fun c hc => ?_⟩
  · rw [h2]
    exact h.1
  · rw [h2] at hc
    have := h.2 c hc
    have hp := pk_app (L := s.2.1) (t := t)
    rw [ht]
    omega
theorem CmR.eq (h1 : s1.2.1 = s.2.1) (h2 : caS s1 = caS s) : CmR a s s1 := CmR.of ⟨[], by rw [h1, List.append_nil]⟩ h2
theorem CmR.tr {s2 : TS} (h : CmR a s s1) (h' : CmR a s1 s2) : CmR a s s2 := by
  refine ⟨?_, fun ha => (h'.2.1 ha).trans (h.2.1 ha), fun h9 => h'.2.2 (h.2.2 h9)⟩
  obtain ⟨t, ht⟩ := h.1
  obtain ⟨t', ht'⟩ := h'.1
  exact ⟨t ++ t', by rw [ht', ht, List.append_assoc]⟩
theorem CmR.pre {s2 : TS} (h' : CmR a s1 s2) (h1 : s1.2.1 = s.2.1) (h2 : caS s1 = caS s) : CmR a s s2 := (CmR.eq h1 h2).tr h'
theorem mo_fl : MoR a s (tFl k s1) := fun s' he => by cases he
theorem mo_in (h : CmR a s s1) : MoR a s (.inl s1) := fun s' he => by
  cases he
  exact h
theorem mo_bd {r : TR} {g : TS → TR} (h1 : MoR a s r) (h2 : ∀ s1 : TS, MoR a s1 (g s1)) : MoR a s (tBd r g) := by
  cases r with
  | inl s1 => exact fun s' he => (h1 s1 rfl).tr (h2 s1 s' he)
  | inr e' => exact fun s' he => by cases he
theorem mo_sp {n : Int} : MoR a s (tSp n s) := by
  unfold tSp
  split
  · exact mo_fl
  · exact mo_in (CmR.eq rfl rfl)
theorem mo_pt {c : Int} : MoR a s (tPt c s) := mo_bd mo_sp (fun s => mo_in (CmR.of ⟨[c], rfl⟩ rfl))
theorem mo_ps : ∀ {L : List Int} {s : TS}, MoR a s (tPs L s)
  | [], s => mo_in (CmR.eq rfl rfl)
  | c :: r, s => mo_bd mo_pt (fun s => mo_ps)
theorem mo_pn : MoR a s (tPn L s) := mo_ps
theorem mo_n {s0 : TS} (h : CmR a s0 s) : MoR a s0 (tPn L s) := fun s' he => h.tr (mo_pn s' he)
theorem mo_1 : MoR a s (gv1 k w s) := by
  have h5 : MoR a s (tFl 5 s) := mo_fl
  unfold gv1
  split
  · exact mo_ps
  · split
    · split
      · exact mo_ps
      · exact h5
    · split
      · split
        · split
          · exact mo_ps
          · exact h5
        · exact h5
      · split
        · split
          · exact mo_ps
          · exact h5
        · split
          · split
            · exact mo_ps
            · exact h5
          · exact mo_ps
theorem mo_2 : MoR a s (gv2 k w s) := by
  unfold gv2
  split
  · exact mo_pn
  · split
    · exact mo_pn
    · split
      · split
        · exact mo_pn
        · exact mo_fl
      · split
        · exact mo_pn
        · exact mo_fl
theorem mo_3 : MoR a s (gv3 k w s) := by
  unfold gv3
  split
  · split
    · split
      · split
        · exact mo_fl
        · exact mo_n (CmR.eq rfl rfl)
      · exact mo_pn
    · split
      · exact mo_n (CmR.eq rfl rfl)
      · exact mo_pn
  · exact mo_fl
theorem sn_sort {V : List Int} {c : Int} (h1 : ∀ i j, i < j → j < V.length → V.getD i 0 ≤ V.getD j 0) (h2 : ∀ v ∈ V, v ≤ c) : ∀ i j, i < j → j < (V ++ [c]).length → (V ++ [c]).getD i 0 ≤ (V ++ [c]).getD j 0 := by
  intro i j hij hj
  rw [List.length_append] at hj
  have hj : j < V.length + 1 := hj
  rw [snoc_at, snoc_at, if_pos (by omega : i < V.length)]
  by_cases h : j < V.length
  · rw [if_pos h]
    exact h1 i j hij h
  · rw [if_neg h, if_pos (by omega)]
    refine h2 _ ?_
    unfold List.getD
    rw [List.getElem?_eq_getElem (by omega), Option.getD_some]
    exact List.getElem_mem _
theorem mo_N : MoR false s (gvN w s) := by
  unfold gvN
  split
  · exact mo_fl
  · intro s' he
    cases h1 : tPn (91 :: (wrN (s.2.2.2.2.2.1.2.2 + 1) 1 ++ [93])) (sNo s (s.2.2.2.2.2.1.1 ++ [w.getD 0 []]) s.2.2.2.2.2.1.2.1 (s.2.2.2.2.2.1.2.2 + 1)) with
    | inr e =>
      rw [h1] at he
      cases he
    | inl s1 =>
      rw [h1] at he
      have he : Sum.inl (sNo s1 s1.2.2.2.2.2.1.1 (s1.2.2.2.2.2.1.2.1 ++ [((pkL s1.2.1).length : Int) - 1]) s1.2.2.2.2.2.1.2.2) = (Sum.inl s' : TR) := he
      have e2 := Sum.inl.inj he
      have m1 : CmR false s s1 := (mo_pn s1 h1).pre rfl rfl
      obtain ⟨t, ht⟩ := m1.1
      rw [← e2]
      refine ⟨⟨t, ht⟩, fun h => absurd h (by decide), fun h => ?_⟩
      have c1 := m1.2.2 h
      refine ⟨sn_sort c1.1 c1.2, fun c hc => ?_⟩
      rcases List.mem_append.mp hc with hc | hc
      · exact c1.2 c hc
      · rw [List.mem_singleton.mp hc]
        exact Int.le_refl _
theorem mo_L : MoR a s (gvL E w s) := by
  unfold gvL
  split
  · split
    · split
      · exact mo_fl
      · exact mo_in (CmR.eq rfl rfl)
    · exact mo_fl
  · exact mo_fl
theorem mo_I : MoR a s (gvI w s) := by
  unfold gvI
  split
  · exact mo_fl
  · split
    · exact mo_fl
    · exact mo_in (CmR.eq rfl rfl)
theorem mo_R : MoR a s (gvR E k w s) := by
  unfold gvR
  split
  · split
    · exact mo_n (CmR.eq rfl rfl)
    · split
      · exact mo_pn
      · exact mo_pn
  · exact mo_fl
theorem mo_D (hk : k = 16 → a = false) : MoR a s (gvD E k w s) := by
  unfold gvD
  split
  · exact mo_1
  · split
    · exact mo_2
    · split
      · exact mo_3
      · split
        · rename_i h9
          rw [hk h9]
          exact mo_N
        · split
          · exact mo_L
          · split
            · exact mo_I
            · exact mo_R
def SubM (sub : Sub9) : Prop := ∀ a f T (s : TS), MoR a s (sub a f T s)
theorem mo_ea {sub : Sub9} (hs : SubM sub) : ∀ {sp : List (Nat × Nat)} {s : TS} (w : List (List Int) × TS), eaD sub f T sp s = .inl w → w.2.2.1 = s.2.1 ∧ caS w.2 = caS s
  | [], s, w, he => by
    cases he
    exact ⟨rfl, rfl⟩
  | q :: r, s, w, he => by
    unfold eaD at he
    have h0 := hs true f (sgT T q.1 q.2) (sOu s [])
    cases h1 : sub true f (sgT T q.1 q.2) (sOu s []) with
    | inr e' =>
      simp only [h1] at he
      cases he
    | inl s1 =>
      have ih := mo_ea hs (sp := r) (s := sOu s1 s.2.1)
      simp only [h1] at he
      cases h2 : eaD sub f T r (sOu s1 s.2.1) with
      | inr e' =>
        simp only [h2] at he
        cases he
      | inl w' =>
        simp only [h2] at he
        cases he
        have := ih w' h2
        exact ⟨this.1, this.2.trans ((h0 s1 h1).2.1 rfl)⟩
theorem mo_G {sub : Sub9} (hs : SubM sub) {m : Int} {sp : List (Nat × Nat)} (hk : m = -1 → k = 16 → a = false) : MoR a s (caG sub E a f T m k sp w s) := by
  unfold caG
  split
  · exact hs _ _ _ _
  · rename_i h9
    split
    · split
      · exact hs _ _ _ _
      · exact hs _ _ _ _
    · exact mo_D (hk (by
        by_cases h : m = -1
        · exact h
        · exact absurd h h9))
theorem mo_W {sub : Sub9} (hs : SubM sub) {p : Nat} : MoR a s (caW sub E a f T p s) := by
  unfold caW
  refine mo_bd mo_sp (fun s => ?_)
  split
  · exact mo_fl
  · split
    · exact mo_fl
    · rename_i hno
      cases h9 : faD T (arD E T p) (neD T p) with
      | inr k => exact mo_fl
      | inl q =>
        show MoR a s (match eaD sub f T (if maD E T p = -1 ∧ kiD E T p = 15 then q.1.take 2 else q.1) s with
          | .inr e => (.inr e : TR)
          | .inl w => caG sub E a f T (maD E T p) (kiD E T p) q.1 w.1 w.2)
        cases h2 : eaD sub f T (if maD E T p = -1 ∧ kiD E T p = 15 then q.1.take 2 else q.1) s with
        | inr e => exact fun s' he => by cases he
        | inl w =>
          have h3 := mo_ea hs w h2
          refine fun s' he => (CmR.eq h3.1 h3.2).tr (mo_G hs (fun hm hk => ?_) s' he)
          cases ha : a
          · rfl
          · refine absurd ⟨hm, ?_⟩ hno
            unfold noM
            rw [hk, ha]
            rfl
theorem mo_P {sub : Sub9} (hs : SubM sub) : ∀ (n p : Nat) (s : TS), MoR a s (wkP sub E a f T n p s)
  | 0, p, s => mo_in (CmR.eq rfl rfl)
  | n + 1, p, s => by
    unfold wkP
    split
    · exact mo_in (CmR.eq rfl rfl)
    · split
      · split
        · exact mo_fl
        · split
          · exact mo_bd (mo_W hs) (mo_P hs n _)
          · exact mo_bd mo_pt (mo_P hs n _)
      · split
        · split
          · exact mo_fl
          · exact mo_bd (hs _ _ _ _) (mo_P hs n _)
        · split
          · exact mo_fl
          · split
            · split
              · exact mo_bd mo_ps (mo_P hs n _)
              · exact mo_fl
            · split
              · exact fun s' he => (mo_P hs n _ _ s' he).pre rfl rfl
              · split
                · exact fun s' he => (mo_P hs n _ _ s' he).pre rfl rfl
                · exact mo_bd mo_pt (mo_P hs n _)
theorem mo_is : ∀ D : Nat, SubM (isD D E)
  | 0, a, f, T, s => mo_fl
  | D + 1, a, f, T, s => by
    refine mo_bd mo_sp (fun s1 => mo_bd ?_ (fun s2 => mo_in (CmR.eq rfl rfl)))
    rw [wkD_i]
    exact mo_P (mo_is D) _ _ _
theorem mo_wk {D : Nat} : MoR a s (wkD D E a f T s) := by
  rw [wkD_i]
  exact mo_P (mo_is D) _ _ _
end
