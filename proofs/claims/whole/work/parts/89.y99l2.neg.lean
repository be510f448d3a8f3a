/-! TEXTS: notes are carried by places from 0 on -/
def NgS (s : TS) : Prop := ∀ c ∈ caS s, 0 ≤ c
def NgR (a : Bool) (s s' : TS) : Prop := (∃ t, s'.2.1 = s.2.1 ++ t) ∧ (a = true → caS s' = caS s) ∧ (NgS s → NgS s')
def NqR (a : Bool) (s : TS) (r : TR) : Prop := ∀ s', r = .inl s' → NgR a s s'
section
variable {s s1 : TS} {E : TE} {a : Bool} {f w : List (List Int)} {T L : List Int} {k : Int}
theorem NgR.of (h1 : ∃ t, s1.2.1 = s.2.1 ++ t) (h2 : caS s1 = caS s) : NgR a s s1 := by
  refine ⟨h1, fun _ => h2, fun h => ?_⟩
  intro c hc
  rw [h2] at hc
  exact h c hc
theorem NgR.eq (h1 : s1.2.1 = s.2.1) (h2 : caS s1 = caS s) : NgR a s s1 := NgR.of ⟨[], by rw [h1, List.append_nil]⟩ h2
theorem NgR.tr {s2 : TS} (h : NgR a s s1) (h' : NgR a s1 s2) : NgR a s s2 := by
  refine ⟨?_, fun ha => (h'.2.1 ha).trans (h.2.1 ha), fun h9 => h'.2.2 (h.2.2 h9)⟩
  obtain ⟨t, ht⟩ := h.1
  obtain ⟨t', ht'⟩ := h'.1
  exact ⟨t ++ t', by rw [ht', ht, List.append_assoc]⟩
theorem NgR.pre {s2 : TS} (h' : NgR a s1 s2) (h1 : s1.2.1 = s.2.1) (h2 : caS s1 = caS s) : NgR a s s2 := (NgR.eq h1 h2).tr h'
theorem ngv_fl : NqR a s (tFl k s1) := fun s' he => by cases he
theorem ngv_in (h : NgR a s s1) : NqR a s (.inl s1) := fun s' he => by
  cases he
  exact h
theorem ngv_bd {r : TR} {g : TS → TR} (h1 : NqR a s r) (h2 : ∀ s1 : TS, NqR a s1 (g s1)) : NqR a s (tBd r g) := by
  cases r with
  | inl s1 => exact fun s' he => (h1 s1 rfl).tr (h2 s1 s' he)
  | inr e' => exact fun s' he => by cases he
theorem ngv_sp {n : Int} : NqR a s (tSp n s) := by
  unfold tSp
  split
  · exact ngv_fl
  · exact ngv_in (NgR.eq rfl rfl)
theorem ngv_pt {c : Int} : NqR a s (tPt c s) := ngv_bd ngv_sp (fun s => ngv_in (NgR.of ⟨[c], rfl⟩ rfl))
theorem ngv_ps : ∀ {L : List Int} {s : TS}, NqR a s (tPs L s)
  | [], s => ngv_in (NgR.eq rfl rfl)
  | c :: r, s => ngv_bd ngv_pt (fun s => ngv_ps)
theorem ngv_pn : NqR a s (tPn L s) := ngv_ps
theorem ngv_n {s0 : TS} (h : NgR a s0 s) : NqR a s0 (tPn L s) := fun s' he => h.tr (ngv_pn s' he)
theorem ngv_1 : NqR a s (gv1 k w s) := by
  have h5 : NqR a s (tFl 5 s) := ngv_fl
  unfold gv1
  split
  · exact ngv_ps
  · split
    · split
      · exact ngv_ps
      · exact h5
    · split
      · split
        · split
          · exact ngv_ps
          · exact h5
        · exact h5
      · split
        · split
          · exact ngv_ps
          · exact h5
        · split
          · split
            · exact ngv_ps
            · exact h5
          · exact ngv_ps
theorem ngv_2 : NqR a s (gv2 k w s) := by
  unfold gv2
  split
  · exact ngv_pn
  · split
    · exact ngv_pn
    · split
      · split
        · exact ngv_pn
        · exact ngv_fl
      · split
        · exact ngv_pn
        · exact ngv_fl
theorem ngv_3 : NqR a s (gv3 k w s) := by
  unfold gv3
  split
  · split
    · split
      · split
        · exact ngv_fl
        · exact ngv_n (NgR.eq rfl rfl)
      · exact ngv_pn
    · split
      · exact ngv_n (NgR.eq rfl rfl)
      · exact ngv_pn
  · exact ngv_fl
theorem ngv_N : NqR false s (gvN w s) := by
  unfold gvN
  split
  · exact ngv_fl
  · intro s' he
    cases h1 : tPn (91 :: (wrN (s.2.2.2.2.2.1.2.2 + 1) 1 ++ [93])) (sNo s (s.2.2.2.2.2.1.1 ++ [w.getD 0 []]) s.2.2.2.2.2.1.2.1 (s.2.2.2.2.2.1.2.2 + 1)) with
    | inr e =>
      rw [h1] at he
      cases he
    | inl s1 =>
      rw [h1] at he
      have he : Sum.inl (sNo s1 s1.2.2.2.2.2.1.1 (s1.2.2.2.2.2.1.2.1 ++ [((pkL s1.2.1).length : Int) - 1]) s1.2.2.2.2.2.1.2.2) = (Sum.inl s' : TR) := he
      have e2 := Sum.inl.inj he
      have m1 : NgR false s s1 := (ngv_pn s1 h1).pre rfl rfl
      obtain ⟨t, ht⟩ := m1.1
      rw [← e2]
      refine ⟨⟨t, ht⟩, fun h => absurd h (by decide), fun h => ?_⟩
      have e3 := tPs_o (L := (91 :: (wrN (s.2.2.2.2.2.1.2.2 + 1) 1 ++ [93])).map (cdS s.1.2.2)) h1
      have c1 := m1.2.2 h
      intro c hc
      rcases List.mem_append.mp hc with hc | hc
      · exact c1 c hc
      · rw [List.mem_singleton.mp hc]
        have hm : cdS s.1.2.2 91 ∈ s1.2.1 := by
          rw [e3]
          exact List.mem_append_right _ List.mem_cons_self
        have hne : ¬ pkL s1.2.1 = [] := fun h9 => by
          have := pk_nil h9 hm
          unfold cdS at this
          omega
        have : 0 < (pkL s1.2.1).length := by
          cases hp : pkL s1.2.1 with
          | nil => exact absurd hp hne
          | cons x r => exact Nat.succ_pos _
        omega
theorem ngv_L : NqR a s (gvL E w s) := by
  unfold gvL
  split
  · split
    · split
      · exact ngv_fl
      · exact ngv_in (NgR.eq rfl rfl)
    · exact ngv_fl
  · exact ngv_fl
theorem ngv_I : NqR a s (gvI w s) := by
  unfold gvI
  split
  · exact ngv_fl
  · split
    · exact ngv_fl
    · exact ngv_in (NgR.eq rfl rfl)
theorem ngv_R : NqR a s (gvR E k w s) := by
  unfold gvR
  split
  · split
    · exact ngv_n (NgR.eq rfl rfl)
    · split
      · exact ngv_pn
      · exact ngv_pn
  · exact ngv_fl
theorem ngv_D (hk : k = 16 → a = false) : NqR a s (gvD E k w s) := by
  unfold gvD
  split
  · exact ngv_1
  · split
    · exact ngv_2
    · split
      · exact ngv_3
      · split
        · rename_i h9
          rw [hk h9]
          exact ngv_N
        · split
          · exact ngv_L
          · split
            · exact ngv_I
            · exact ngv_R
def SubN (sub : Sub9) : Prop := ∀ a f T (s : TS), NqR a s (sub a f T s)
theorem ngv_ea {sub : Sub9} (hs : SubN sub) : ∀ {sp : List (Nat × Nat)} {s : TS} (w : List (List Int) × TS), eaD sub f T sp s = .inl w → w.2.2.1 = s.2.1 ∧ caS w.2 = caS s
  | [], s, w, he => by
    cases he
    exact ⟨rfl, rfl⟩
  | q :: r, s, w, he => by
    unfold eaD at he
    have h0 := hs true f (sgT T q.1 q.2) (sOu s [])
    cases h1 : sub true f (sgT T q.1 q.2) (sOu s []) with
    | inr e' =>
      simp only [h1] at he
      cases he
    | inl s1 =>
      have ih := ngv_ea hs (sp := r) (s := sOu s1 s.2.1)
      simp only [h1] at he
      cases h2 : eaD sub f T r (sOu s1 s.2.1) with
      | inr e' =>
        simp only [h2] at he
        cases he
      | inl w' =>
        simp only [h2] at he
        cases he
        have := ih w' h2
        exact ⟨this.1, this.2.trans ((h0 s1 h1).2.1 rfl)⟩
theorem ngv_G {sub : Sub9} (hs : SubN sub) {m : Int} {sp : List (Nat × Nat)} (hk : m = -1 → k = 16 → a = false) : NqR a s (caG sub E a f T m k sp w s) := by
  unfold caG
  split
  · exact hs _ _ _ _
  · rename_i h9
    split
    · split
      · exact hs _ _ _ _
      · exact hs _ _ _ _
    · exact ngv_D (hk (by
        by_cases h : m = -1
        · exact h
        · exact absurd h h9))
theorem ngv_W {sub : Sub9} (hs : SubN sub) {p : Nat} : NqR a s (caW sub E a f T p s) := by
  unfold caW
  refine ngv_bd ngv_sp (fun s => ?_)
  split
  · exact ngv_fl
  · split
    · exact ngv_fl
    · rename_i hno
      cases h9 : faD T (arD E T p) (neD T p) with
      | inr k => exact ngv_fl
      | inl q =>
        show NqR a s (match eaD sub f T (if maD E T p = -1 ∧ kiD E T p = 15 then q.1.take 2 else q.1) s with
          | .inr e => (.inr e : TR)
          | .inl w => caG sub E a f T (maD E T p) (kiD E T p) q.1 w.1 w.2)
        cases h2 : eaD sub f T (if maD E T p = -1 ∧ kiD E T p = 15 then q.1.take 2 else q.1) s with
        | inr e => exact fun s' he => by cases he
        | inl w =>
          have h3 := ngv_ea hs w h2
          refine fun s' he => (NgR.eq h3.1 h3.2).tr (ngv_G hs (fun hm hk => ?_) s' he)
          cases ha : a
          · rfl
          · refine absurd ⟨hm, ?_⟩ hno
            unfold noM
            rw [hk, ha]
            rfl
theorem ngv_P {sub : Sub9} (hs : SubN sub) : ∀ (n p : Nat) (s : TS), NqR a s (wkP sub E a f T n p s)
  | 0, p, s => ngv_in (NgR.eq rfl rfl)
  | n + 1, p, s => by
    unfold wkP
    split
    · exact ngv_in (NgR.eq rfl rfl)
    · split
      · split
        · exact ngv_fl
        · split
          · exact ngv_bd (ngv_W hs) (ngv_P hs n _)
          · exact ngv_bd ngv_pt (ngv_P hs n _)
      · split
        · split
          · exact ngv_fl
          · exact ngv_bd (hs _ _ _ _) (ngv_P hs n _)
        · split
          · exact ngv_fl
          · split
            · split
              · exact ngv_bd ngv_ps (ngv_P hs n _)
              · exact ngv_fl
            · split
              · exact fun s' he => (ngv_P hs n _ _ s' he).pre rfl rfl
              · split
                · exact fun s' he => (ngv_P hs n _ _ s' he).pre rfl rfl
                · exact ngv_bd ngv_pt (ngv_P hs n _)
theorem ngv_is : ∀ D : Nat, SubN (isD D E)
  | 0, a, f, T, s => ngv_fl
  | D + 1, a, f, T, s => by
    refine ngv_bd ngv_sp (fun s1 => ngv_bd ?_ (fun s2 => ngv_in (NgR.eq rfl rfl)))
    rw [wkD_i]
    exact ngv_P (ngv_is D) _ _ _
theorem ngv_wk {D : Nat} : NqR a s (wkD D E a f T s) := by
  rw [wkD_i]
  exact ngv_P (ngv_is D) _ _ _
end
