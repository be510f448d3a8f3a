/-! TEXTS: where notes are carried, there are signs -/
def SoS (s : TS) : Prop := caS s = [] ∨ ∃ c ∈ s.2.1, ¬ c % 128 = 32
def SoR (a : Bool) (s s' : TS) : Prop := (∃ t, s'.2.1 = s.2.1 ++ t) ∧ (a = true → caS s' = caS s) ∧ (SoS s → SoS s')
def SpR (a : Bool) (s : TS) (r : TR) : Prop := ∀ s', r = .inl s' → SoR a s s'
theorem tPs_o : ∀ {L : List Int} {s s' : TS}, tPs L s = .inl s' → s'.2.1 = s.2.1 ++ L
  | [], s, s', h => by
    have e : s = s' := Sum.inl.inj h
    rw [← e, List.append_nil]
  | c :: r, s, s', h => by
    have h : tBd (tPt c s) (tPs r) = .inl s' := h
    unfold tPt tSp at h
    split at h
    · cases h
    · have := tPs_o (L := r) h
      rw [this]
      show (s.2.1 ++ [c]) ++ r = _
      rw [List.append_assoc]
      rfl
section
variable {s s1 : TS} {E : TE} {a : Bool} {f w : List (List Int)} {T L : List Int} {k : Int}
theorem SoR.of (h1 : ∃ t, s1.2.1 = s.2.1 ++ t) (h2 : caS s1 = caS s) : SoR a s s1 := by
  refine ⟨h1, fun _ => h2, fun h => ?_⟩
  obtain ⟨t, ht⟩ := h1
  rcases h with h | ⟨c, hc, hn⟩
  · exact Or.inl (h2.trans h)
  · exact Or.inr ⟨c, by rw [ht]; exact List.mem_append_left _ hc, hn⟩
theorem SoR.eq (h1 : s1.2.1 = s.2.1) (h2 : caS s1 = caS s) : SoR a s s1 := SoR.of ⟨[], by rw [h1, List.append_nil]⟩ h2
theorem SoR.tr {s2 : TS} (h : SoR a s s1) (h' : SoR a s1 s2) : SoR a s s2 := by
  refine ⟨?_, fun ha => (h'.2.1 ha).trans (h.2.1 ha), fun h9 => h'.2.2 (h.2.2 h9)⟩
  obtain ⟨t, ht⟩ := h.1
  obtain ⟨t', ht'⟩ := h'.1
  exact ⟨t ++ t', by rw [ht', ht, List.append_assoc]⟩
theorem SoR.pre {s2 : TS} (h' : SoR a s1 s2) (h1 : s1.2.1 = s.2.1) (h2 : caS s1 = caS s) : SoR a s s2 := (SoR.eq h1 h2).tr h'
theorem so_fl : SpR a s (tFl k s1) := fun s' he => by cases he
theorem so_in (h : SoR a s s1) : SpR a s (.inl s1) := fun s' he => by
  cases he
  exact h
theorem so_bd {r : TR} {g : TS → TR} (h1 : SpR a s r) (h2 : ∀ s1 : TS, SpR a s1 (g s1)) : SpR a s (tBd r g) := by
  cases r with
  | inl s1 => exact fun s' he => (h1 s1 rfl).tr (h2 s1 s' he)
  | inr e' => exact fun s' he => by cases he
theorem so_sp {n : Int} : SpR a s (tSp n s) := by
  unfold tSp
  split
  · exact so_fl
  · exact so_in (SoR.eq rfl rfl)
theorem so_pt {c : Int} : SpR a s (tPt c s) := so_bd so_sp (fun s => so_in (SoR.of ⟨[c], rfl⟩ rfl))
theorem so_ps : ∀ {L : List Int} {s : TS}, SpR a s (tPs L s)
  | [], s => so_in (SoR.eq rfl rfl)
  | c :: r, s => so_bd so_pt (fun s => so_ps)
theorem so_pn : SpR a s (tPn L s) := so_ps
theorem so_n {s0 : TS} (h : SoR a s0 s) : SpR a s0 (tPn L s) := fun s' he => h.tr (so_pn s' he)
theorem so_1 : SpR a s (gv1 k w s) := by
  have h5 : SpR a s (tFl 5 s) := so_fl
  unfold gv1
  split
  · exact so_ps
  · split
    · split
      · exact so_ps
      · exact h5
    · split
      · split
        · split
          · exact so_ps
          · exact h5
        · exact h5
      · split
        · split
          · exact so_ps
          · exact h5
        · split
          · split
            · exact so_ps
            · exact h5
          · exact so_ps
theorem so_2 : SpR a s (gv2 k w s) := by
  unfold gv2
  split
  · exact so_pn
  · split
    · exact so_pn
    · split
      · split
        · exact so_pn
        · exact so_fl
      · split
        · exact so_pn
        · exact so_fl
theorem so_3 : SpR a s (gv3 k w s) := by
  unfold gv3
  split
  · split
    · split
      · split
        · exact so_fl
        · exact so_n (SoR.eq rfl rfl)
      · exact so_pn
    · split
      · exact so_n (SoR.eq rfl rfl)
      · exact so_pn
  · exact so_fl
theorem so_N : SpR false s (gvN w s) := by
  unfold gvN
  split
  · exact so_fl
  · intro s' he
    cases h1 : tPn (91 :: (wrN (s.2.2.2.2.2.1.2.2 + 1) 1 ++ [93])) (sNo s (s.2.2.2.2.2.1.1 ++ [w.getD 0 []]) s.2.2.2.2.2.1.2.1 (s.2.2.2.2.2.1.2.2 + 1)) with
    | inr e =>
      rw [h1] at he
      cases he
    | inl s1 =>
      rw [h1] at he
      have he : Sum.inl (sNo s1 s1.2.2.2.2.2.1.1 (s1.2.2.2.2.2.1.2.1 ++ [((pkL s1.2.1).length : Int) - 1]) s1.2.2.2.2.2.1.2.2) = (Sum.inl s' : TR) := he
      have e2 := Sum.inl.inj he
      have m1 : SoR false s s1 := (so_pn s1 h1).pre rfl rfl
      obtain ⟨t, ht⟩ := m1.1
      rw [← e2]
      refine ⟨⟨t, ht⟩, fun h => absurd h (by decide), fun h => ?_⟩
      have e3 := tPs_o (L := (91 :: (wrN (s.2.2.2.2.2.1.2.2 + 1) 1 ++ [93])).map (cdS s.1.2.2)) h1
      refine Or.inr ⟨cdS s.1.2.2 91, ?_, ?_⟩
      · show _ ∈ s1.2.1
        rw [e3]
        exact List.mem_append_right _ List.mem_cons_self
      · unfold cdS
        omega
theorem so_L : SpR a s (gvL E w s) := by
  unfold gvL
  split
  · split
    · split
      · exact so_fl
      · exact so_in (SoR.eq rfl rfl)
    · exact so_fl
  · exact so_fl
theorem so_I : SpR a s (gvI w s) := by
  unfold gvI
  split
  · exact so_fl
  · split
    · exact so_fl
    · exact so_in (SoR.eq rfl rfl)
theorem so_R : SpR a s (gvR E k w s) := by
  unfold gvR
  split
  · split
    · exact so_n (SoR.eq rfl rfl)
    · split
      · exact so_pn
      · exact so_pn
  · exact so_fl
theorem so_D (hk : k = 16 → a = false) : SpR a s (gvD E k w s) := by
  unfold gvD
  split
  · exact so_1
  · split
    · exact so_2
    · split
      · exact so_3
      · split
        · rename_i h9
          rw [hk h9]
          exact so_N
        · split
          · exact so_L
          · split
            · exact so_I
            · exact so_R
def SubO (sub : Sub9) : Prop := ∀ a f T (s : TS), SpR a s (sub a f T s)
theorem so_ea {sub : Sub9} (hs : SubO sub) : ∀ {sp : List (Nat × Nat)} {s : TS} (w : List (List Int) × TS), eaD sub f T sp s = .inl w → w.2.2.1 = s.2.1 ∧ caS w.2 = caS s
  | [], s, w, he => by
    cases he
    exact ⟨rfl, rfl⟩
  | q :: r, s, w, he => by
    unfold eaD at he
    have h0 := hs true f (sgT T q.1 q.2) (sOu s [])
    cases h1 : sub true f (sgT T q.1 q.2) (sOu s []) with
    | inr e' =>
      simp only [h1] at he
      cases he
    | inl s1 =>
      have ih := so_ea hs (sp := r) (s := sOu s1 s.2.1)
      simp only [h1] at he
      cases h2 : eaD sub f T r (sOu s1 s.2.1) with
      | inr e' =>
        simp only [h2] at he
        cases he
      | inl w' =>
        simp only [h2] at he
        cases he
        have := ih w' h2
        exact ⟨this.1, this.2.trans ((h0 s1 h1).2.1 rfl)⟩
theorem so_G {sub : Sub9} (hs : SubO sub) {m : Int} {sp : List (Nat × Nat)} (hk : m = -1 → k = 16 → a = false) : SpR a s (caG sub E a f T m k sp w s) := by
  unfold caG
  split
  · exact hs _ _ _ _
  · rename_i h9
    split
    · split
      · exact hs _ _ _ _
      · exact hs _ _ _ _
    · exact so_D (hk (by
        by_cases h : m = -1
        · exact h
        · exact absurd h h9))
theorem so_W {sub : Sub9} (hs : SubO sub) {p : Nat} : SpR a s (caW sub E a f T p s) := by
  unfold caW
  refine so_bd so_sp (fun s => ?_)
  split
  · exact so_fl
  · split
    · exact so_fl
    · rename_i hno
      cases h9 : faD T (arD E T p) (neD T p) with
      | inr k => exact so_fl
      | inl q =>
        show SpR a s (match eaD sub f T (if maD E T p = -1 ∧ kiD E T p = 15 then q.1.take 2 else q.1) s with
          | .inr e => (.inr e : TR)
          | .inl w => caG sub E a f T (maD E T p) (kiD E T p) q.1 w.1 w.2)
        cases h2 : eaD sub f T (if maD E T p = -1 ∧ kiD E T p = 15 then q.1.take 2 else q.1) s with
        | inr e => exact fun s' he => by cases he
        | inl w =>
          have h3 := so_ea hs w h2
          refine fun s' he => (SoR.eq h3.1 h3.2).tr (so_G hs (fun hm hk => ?_) s' he)
          cases ha : a
          · rfl
          · refine absurd ⟨hm, ?_⟩ hno
            unfold noM
            rw [hk, ha]
            rfl
theorem so_P {sub : Sub9} (hs : SubO sub) : ∀ (n p : Nat) (s : TS), SpR a s (wkP sub E a f T n p s)
  | 0, p, s => so_in (SoR.eq rfl rfl)
  | n + 1, p, s => by
    unfold wkP
    split
    · exact so_in (SoR.eq rfl rfl)
    · split
      · split
        · exact so_fl
        · split
          · exact so_bd (so_W hs) (so_P hs n _)
          · exact so_bd so_pt (so_P hs n _)
      · split
        · split
          · exact so_fl
          · exact so_bd (hs _ _ _ _) (so_P hs n _)
        · split
          · exact so_fl
          · split
            · split
              · exact so_bd so_ps (so_P hs n _)
              · exact so_fl
            · split
              · exact fun s' he => (so_P hs n _ _ s' he).pre rfl rfl
              · split
                · exact fun s' he => (so_P hs n _ _ s' he).pre rfl rfl
                · exact so_bd so_pt (so_P hs n _)
theorem so_is : ∀ D : Nat, SubO (isD D E)
  | 0, a, f, T, s => so_fl
  | D + 1, a, f, T, s => by
    refine so_bd so_sp (fun s1 => so_bd ?_ (fun s2 => so_in (SoR.eq rfl rfl)))
    rw [wkD_i]
    exact so_P (so_is D) _ _ _
theorem so_wk {D : Nat} : SpR a s (wkD D E a f T s) := by
  rw [wkD_i]
  exact so_P (so_is D) _ _ _
end
