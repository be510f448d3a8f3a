/-! TEXTS: signs that carry index marks come one behind the other -/
def kaS9 (s : TS) : List Int := s.2.2.2.2.1.2
def KmS (k0 : Nat) (s : TS) : Prop := (∀ i j, k0 ≤ i → i < j → j < (kaS9 s).length → (kaS9 s).getD i 0 ≤ (kaS9 s).getD j 0) ∧ (∀ i, k0 ≤ i → i < (kaS9 s).length → (kaS9 s).getD i 0 ≤ lsP (pkL s.2.1)) ∧ ∀ i, k0 ≤ i → i < (kaS9 s).length → (kaS9 s).getD i 0 = -1 ∨ (0 ≤ (kaS9 s).getD i 0 ∧ (kaS9 s).getD i 0 < ((pkL s.2.1).length : Int) ∧ ¬ (pkL s.2.1).getD ((kaS9 s).getD i 0).toNat 0 % 128 = 32)
def KmR (k0 : Nat) (a : Bool) (s s' : TS) : Prop := (∃ t, s'.2.1 = s.2.1 ++ t) ∧ (a = true → kaS9 s' = kaS9 s) ∧ (KmS k0 s → KmS k0 s')
def KoR (k0 : Nat) (a : Bool) (s : TS) (r : TR) : Prop := ∀ s', r = .inl s' → KmR k0 a s s'
theorem lsP_ap : ∀ (n : Nat) {L t : List Int}, t.length = n → lsP L ≤ lsP (L ++ t)
  | 0, L, t, h => by
    rw [List.eq_nil_of_length_eq_zero h, List.append_nil]
    exact Int.le_refl _
  | n + 1, L, t, h => by
    rcases List.eq_nil_or_concat t with e | ⟨t', c, e⟩
    · rw [e] at h
      cases h
    · rw [e, List.concat_eq_append] at h ⊢
      rw [List.length_append] at h
      have ih := lsP_ap n (L := L) (t := t') (Nat.succ.inj h)
      rw [← List.append_assoc, lsP_sn]
      have := lsP_b (L ++ t')
      split <;> omega
theorem pk_apx {L t : List Int} : ∃ x, pkL (L ++ t) = pkL L ++ x := by
  obtain ⟨x, hx⟩ := pkL_pre (L := L ++ t) L.length
  rw [List.take_append_of_le_length (Nat.le_refl _), List.take_length] at hx
  exact ⟨x, hx⟩
theorem ls_app {L t : List Int} : lsP (pkL L) ≤ lsP (pkL (L ++ t)) := by
  obtain ⟨x, hx⟩ := pkL_pre (L := L ++ t) L.length
  rw [List.take_append_of_le_length (Nat.le_refl _), List.take_length] at hx
  rw [hx]
  exact lsP_ap _ rfl
section
variable {k0 : Nat} {s s1 : TS} {E : TE} {a : Bool} {f w : List (List Int)} {T L : List Int} {k : Int}
theorem KmR.of (h1 : ∃ t, s1.2.1 = s.2.1 ++ t) (h2 : kaS9 s1 = kaS9 s) : KmR k0 a s s1 := by
  refine ⟨h1, fun _ => h2, fun h => ?_⟩
  obtain ⟨t, ht⟩ := h1
  refine ⟨?_, fun i hi hl => ?_, fun i hi hl => ?_⟩
  · rw [h2]
    exact h.1
  · rw [h2] at hl ⊢
    have := h.2.1 i hi hl
    have hp := ls_app (L := s.2.1) (t := t)
    rw [ht]
    omega
  · rw [h2] at hl ⊢
    obtain ⟨x, hx⟩ := pk_apx (L := s.2.1) (t := t)
    rw [ht, hx]
    rcases h.2.2 i hi hl with e | ⟨e1, e2, e3⟩
    · exact Or.inl e
    · refine Or.inr ⟨e1, by rw [List.length_append]; omega, ?_⟩
      rw [getD_l (by omega)]
      exact e3
theorem KmR.eq (h1 : s1.2.1 = s.2.1) (h2 : kaS9 s1 = kaS9 s) : KmR k0 a s s1 := KmR.of ⟨[], by rw [h1, List.append_nil]⟩ h2
theorem KmR.tr {s2 : TS} (h : KmR k0 a s s1) (h' : KmR k0 a s1 s2) : KmR k0 a s s2 := by
  refine ⟨?_, fun ha => (h'.2.1 ha).trans (h.2.1 ha), fun h9 => h'.2.2 (h.2.2 h9)⟩
  obtain ⟨t, ht⟩ := h.1
  obtain ⟨t', ht'⟩ := h'.1
  exact ⟨t ++ t', by rw [ht', ht, List.append_assoc]⟩
theorem KmR.pre {s2 : TS} (h' : KmR k0 a s1 s2) (h1 : s1.2.1 = s.2.1) (h2 : kaS9 s1 = kaS9 s) : KmR k0 a s s2 := (KmR.eq h1 h2).tr h'
theorem ko_fl : KoR k0 a s (tFl k s1) := fun s' he => by cases he
theorem ko_in (h : KmR k0 a s s1) : KoR k0 a s (.inl s1) := fun s' he => by
  cases he
  exact h
theorem ko_bd {r : TR} {g : TS → TR} (h1 : KoR k0 a s r) (h2 : ∀ s1 : TS, KoR k0 a s1 (g s1)) : KoR k0 a s (tBd r g) := by
  cases r with
  | inl s1 => exact fun s' he => (h1 s1 rfl).tr (h2 s1 s' he)
  | inr e' => exact fun s' he => by cases he
theorem ko_sp {n : Int} : KoR k0 a s (tSp n s) := by
  unfold tSp
  split
  · exact ko_fl
  · exact ko_in (KmR.eq rfl rfl)
theorem ko_pt {c : Int} : KoR k0 a s (tPt c s) := ko_bd ko_sp (fun s => ko_in (KmR.of ⟨[c], rfl⟩ rfl))
theorem ko_ps : ∀ {L : List Int} {s : TS}, KoR k0 a s (tPs L s)
  | [], s => ko_in (KmR.eq rfl rfl)
  | c :: r, s => ko_bd ko_pt (fun s => ko_ps)
theorem ko_pn : KoR k0 a s (tPn L s) := ko_ps
theorem ko_n {s0 : TS} (h : KmR k0 a s0 s) : KoR k0 a s0 (tPn L s) := fun s' he => h.tr (ko_pn s' he)
theorem ko_1 : KoR k0 a s (gv1 k w s) := by
  have h5 : KoR k0 a s (tFl 5 s) := ko_fl
  unfold gv1
  split
  · exact ko_ps
  · split
    · split
      · exact ko_ps
      · exact h5
    · split
      · split
        · split
          · exact ko_ps
          · exact h5
        · exact h5
      · split
        · split
          · exact ko_ps
          · exact h5
        · split
          · split
            · exact ko_ps
            · exact h5
          · exact ko_ps
theorem ko_2 : KoR k0 a s (gv2 k w s) := by
  unfold gv2
  split
  · exact ko_pn
  · split
    · exact ko_pn
    · split
      · split
        · exact ko_pn
        · exact ko_fl
      · split
        · exact ko_pn
        · exact ko_fl
theorem ko_3 : KoR k0 a s (gv3 k w s) := by
  unfold gv3
  split
  · split
    · split
      · split
        · exact ko_fl
        · exact ko_n (KmR.eq rfl rfl)
      · exact ko_pn
    · split
      · exact ko_n (KmR.eq rfl rfl)
      · exact ko_pn
  · exact ko_fl
theorem ko_N : KoR k0 a s (gvN w s) := by
  unfold gvN
  split
  · exact ko_fl
  · intro s' he
    cases h1 : tPn (91 :: (wrN (s.2.2.2.2.2.1.2.2 + 1) 1 ++ [93])) (sNo s (s.2.2.2.2.2.1.1 ++ [w.getD 0 []]) s.2.2.2.2.2.1.2.1 (s.2.2.2.2.2.1.2.2 + 1)) with
    | inr e =>
      rw [h1] at he
      cases he
    | inl s1 =>
      rw [h1] at he
      have he : Sum.inl (sNo s1 s1.2.2.2.2.2.1.1 (s1.2.2.2.2.2.1.2.1 ++ [((pkL s1.2.1).length : Int) - 1]) s1.2.2.2.2.2.1.2.2) = (Sum.inl s' : TR) := he
      have e2 := Sum.inl.inj he
      have m1 : KmR k0 a s s1 := (ko_pn s1 h1).pre rfl rfl
      rw [← e2]
      exact m1.tr (KmR.eq rfl rfl)
theorem ko_L : KoR k0 a s (gvL E w s) := by
  unfold gvL
  split
  · split
    · split
      · exact ko_fl
      · exact ko_in (KmR.eq rfl rfl)
    · exact ko_fl
  · exact ko_fl
theorem ko_I : KoR k0 false s (gvI w s) := by
  unfold gvI
  split
  · exact ko_fl
  · split
    · exact ko_fl
    · refine ko_in ⟨⟨[], (List.append_nil _).symm⟩, fun h => absurd h (by decide), fun h => ?_⟩
      have e : kaS9 (sKy s (s.2.2.2.2.1.1 ++ [ms7 (pkL (w.getD 0 []))]) (s.2.2.2.2.1.2 ++ [lsP (pkL s.2.1)])) = kaS9 s ++ [lsP (pkL s.2.1)] := rfl
      refine ⟨fun i j hi hij hj => ?_, fun i hi hl => ?_, fun i hi hl => ?_⟩
      · rw [e] at hj ⊢
        rw [List.length_append] at hj
        have hj : j < (kaS9 s).length + 1 := hj
        rw [snoc_at, snoc_at, if_pos (by omega : i < (kaS9 s).length)]
        by_cases h9 : j < (kaS9 s).length
        · rw [if_pos h9]
          exact h.1 i j hi hij h9
        · rw [if_neg h9, if_pos (by omega)]
          exact h.2.1 i hi (by omega)
      · show _ ≤ lsP (pkL s.2.1)
        rw [e] at hl ⊢
        rw [List.length_append] at hl
        have hl : i < (kaS9 s).length + 1 := hl
        rw [snoc_at]
        by_cases h9 : i < (kaS9 s).length
        · rw [if_pos h9]
          exact h.2.1 i hi h9
        · rw [if_neg h9, if_pos (by omega)]
          exact Int.le_refl _
      · show _ ∨ (_ ∧ _ < ((pkL s.2.1).length : Int) ∧ ¬ (pkL s.2.1).getD _ 0 % 128 = 32)
        rw [e] at hl ⊢
        rw [List.length_append] at hl
        have hl : i < (kaS9 s).length + 1 := hl
        rw [snoc_at]
        by_cases h9 : i < (kaS9 s).length
        · rw [if_pos h9]
          exact h.2.2 i hi h9
        · rw [if_neg h9, if_pos (by omega)]
          have hb := lsP_b (pkL s.2.1)
          by_cases h8 : lsP (pkL s.2.1) = -1
          · exact Or.inl h8
          · exact Or.inr ⟨by omega, hb.2, lsP_n (by omega)⟩
theorem ko_R : KoR k0 a s (gvR E k w s) := by
  unfold gvR
  split
  · split
    · exact ko_n (KmR.eq rfl rfl)
    · split
      · exact ko_pn
      · exact ko_pn
  · exact ko_fl
theorem ko_D (hk : k = 18 → a = false) : KoR k0 a s (gvD E k w s) := by
  unfold gvD
  split
  · exact ko_1
  · split
    · exact ko_2
    · split
      · exact ko_3
      · split
        · exact ko_N
        · split
          · exact ko_L
          · split
            · rename_i h9
              rw [hk h9]
              exact ko_I
            · exact ko_R
def SubKo (k0 : Nat) (sub : Sub9) : Prop := ∀ a f T (s : TS), KoR k0 a s (sub a f T s)
theorem ko_ea {sub : Sub9} (hs : SubKo k0 sub) : ∀ {sp : List (Nat × Nat)} {s : TS} (w : List (List Int) × TS), eaD sub f T sp s = .inl w → w.2.2.1 = s.2.1 ∧ kaS9 w.2 = kaS9 s
  | [], s, w, he => by
    cases he
    exact ⟨rfl, rfl⟩
  | q :: r, s, w, he => by
    unfold eaD at he
    have h0 := hs true f (sgT T q.1 q.2) (sOu s [])
    cases h1 : sub true f (sgT T q.1 q.2) (sOu s []) with
    | inr e' =>
      simp only [h1] at he
      cases he
    | inl s1 =>
      have ih := ko_ea hs (sp := r) (s := sOu s1 s.2.1)
      simp only [h1] at he
      cases h2 : eaD sub f T r (sOu s1 s.2.1) with
      | inr e' =>
        simp only [h2] at he
        cases he
      | inl w' =>
        simp only [h2] at he
        cases he
        have := ih w' h2
        exact ⟨this.1, this.2.trans ((h0 s1 h1).2.1 rfl)⟩
theorem ko_G {sub : Sub9} (hs : SubKo k0 sub) {m : Int} {sp : List (Nat × Nat)} (hk : m = -1 → k = 18 → a = false) : KoR k0 a s (caG sub E a f T m k sp w s) := by
  unfold caG
  split
  · exact hs _ _ _ _
  · rename_i h9
    split
    · split
      · exact hs _ _ _ _
      · exact hs _ _ _ _
    · exact ko_D (hk (by
        by_cases h : m = -1
        · exact h
        · exact absurd h h9))
theorem ko_W {sub : Sub9} (hs : SubKo k0 sub) {p : Nat} : KoR k0 a s (caW sub E a f T p s) := by
  unfold caW
  refine ko_bd ko_sp (fun s => ?_)
  split
  · exact ko_fl
  · split
    · exact ko_fl
    · rename_i hno
      cases h9 : faD T (arD E T p) (neD T p) with
      | inr k => exact ko_fl
      | inl q =>
        show KoR k0 a s (match eaD sub f T (if maD E T p = -1 ∧ kiD E T p = 15 then q.1.take 2 else q.1) s with
          | .inr e => (.inr e : TR)
          | .inl w => caG sub E a f T (maD E T p) (kiD E T p) q.1 w.1 w.2)
        cases h2 : eaD sub f T (if maD E T p = -1 ∧ kiD E T p = 15 then q.1.take 2 else q.1) s with
        | inr e => exact fun s' he => by cases he
        | inl w =>
          have h3 := ko_ea hs w h2
          refine fun s' he => (KmR.eq h3.1 h3.2).tr (ko_G hs (fun hm hk => ?_) s' he)
          cases ha : a
          · rfl
          · refine absurd ⟨hm, ?_⟩ hno
            unfold noM
            rw [hk, ha]
            rfl
theorem ko_P {sub : Sub9} (hs : SubKo k0 sub) : ∀ (n p : Nat) (s : TS), KoR k0 a s (wkP sub E a f T n p s)
  | 0, p, s => ko_in (KmR.eq rfl rfl)
  | n + 1, p, s => by
    unfold wkP
    split
    · exact ko_in (KmR.eq rfl rfl)
    · split
      · split
        · exact ko_fl
        · split
          · exact ko_bd (ko_W hs) (ko_P hs n _)
          · exact ko_bd ko_pt (ko_P hs n _)
      · split
        · split
          · exact ko_fl
          · exact ko_bd (hs _ _ _ _) (ko_P hs n _)
        · split
          · exact ko_fl
          · split
            · split
              · exact ko_bd ko_ps (ko_P hs n _)
              · exact ko_fl
            · split
              · exact fun s' he => (ko_P hs n _ _ s' he).pre rfl rfl
              · split
                · exact fun s' he => (ko_P hs n _ _ s' he).pre rfl rfl
                · exact ko_bd ko_pt (ko_P hs n _)
theorem ko_is : ∀ D : Nat, SubKo k0 (isD D E)
  | 0, a, f, T, s => ko_fl
  | D + 1, a, f, T, s => by
    refine ko_bd ko_sp (fun s1 => ko_bd ?_ (fun s2 => ko_in (KmR.eq rfl rfl)))
    rw [wkD_i]
    exact ko_P (ko_is D) _ _ _
theorem ko_wk {D : Nat} : KoR k0 a s (wkD D E a f T s) := by
  rw [wkD_i]
  exact ko_P (ko_is D) _ _ _
end
