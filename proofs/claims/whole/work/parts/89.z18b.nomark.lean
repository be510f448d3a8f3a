/-! TEXTS: no marks where none are allowed -/
def ZmR (s s' : TS) : Prop := s'.2.2.2.1 = s.2.2.2.1 ∧ s'.2.2.2.2.1 = s.2.2.2.2.1 ∧ s'.2.2.2.2.2.1 = s.2.2.2.2.2.1
def ZyR (s : TS) (r : TR) : Prop := ∀ s', r = .inl s' → ZmR s s'
section
variable {s s1 s2 : TS} {E : TE} {a : Bool} {f w : List (List Int)} {T L : List Int} {k : Int}
theorem ZmR.tr (h : ZmR s s1) (h' : ZmR s1 s2) : ZmR s s2 := ⟨Eq.trans h'.1 h.1, Eq.trans h'.2.1 h.2.1, Eq.trans h'.2.2 h.2.2⟩
theorem ZmR.rf : ZmR s s := ⟨rfl, rfl, rfl⟩
theorem zm_fl : ZyR s (tFl k s1) := fun s' he => by cases he
theorem zm_in (h : ZmR s s1) : ZyR s (.inl s1) := fun s' he => by
  cases he
  exact h
theorem zm_bd {r : TR} {g : TS → TR} (h1 : ZyR s r) (h2 : ∀ s1 : TS, ZyR s1 (g s1)) : ZyR s (tBd r g) := by
  cases r with
  | inl s1 => exact fun s' he => (h1 s1 rfl).tr (h2 s1 s' he)
  | inr e' => exact fun s' he => by cases he
theorem zm_sp {n : Int} (hn : 0 ≤ n) : ZyR s (tSp n s) := by
  unfold tSp
  split
  · exact zm_fl
  · exact zm_in ZmR.rf
theorem zm_pt {c : Int} : ZyR s (tPt c s) := zm_bd (zm_sp (by decide)) (fun s => zm_in ZmR.rf)
theorem zm_ps : ∀ {L : List Int} {s : TS}, ZyR s (tPs L s)
  | [], s => zm_in ZmR.rf
  | c :: r, s => zm_bd zm_pt (fun s => zm_ps)
theorem zm_pn : ZyR s (tPn L s) := zm_ps
theorem zm_n {s0 : TS} (h : ZmR s0 s) : ZyR s0 (tPn L s) := fun s' he => h.tr (zm_pn s' he)
theorem zm_1 : ZyR s (gv1 k w s) := by
  have h5 : ZyR s (tFl 5 s) := zm_fl
  unfold gv1
  split
  · exact zm_ps
  · split
    · split
      · exact zm_ps
      · exact h5
    · split
      · split
        · split
          · exact zm_ps
          · exact h5
        · exact h5
      · split
        · split
          · exact zm_ps
          · exact h5
        · split
          · split
            · exact zm_ps
            · exact h5
          · exact zm_ps
theorem zm_2 : ZyR s (gv2 k w s) := by
  unfold gv2
  split
  · exact zm_pn
  · split
    · exact zm_pn
    · split
      · split
        · exact zm_pn
        · exact zm_fl
      · split
        · exact zm_pn
        · exact zm_fl
theorem zm_3 : ZyR s (gv3 k w s) := by
  unfold gv3
  split
  · split
    · split
      · split
        · exact zm_fl
        · exact zm_n ZmR.rf
      · exact zm_pn
    · split
      · exact zm_n ZmR.rf
      · exact zm_pn
  · exact zm_fl
theorem zm_R : ZyR s (gvR E k w s) := by
  unfold gvR
  split
  · split
    · exact zm_n ZmR.rf
    · split
      · exact zm_pn
      · exact zm_pn
  · exact zm_fl
theorem zm_D (hk : ¬ (k = 16 ∨ k = 17 ∨ k = 18)) : ZyR s (gvD E k w s) := by
  unfold gvD
  split
  · exact zm_1
  · split
    · exact zm_2
    · split
      · exact zm_3
      · split
        · rename_i h9
          exact absurd (Or.inl h9) hk
        · split
          · rename_i h9
            exact absurd (Or.inr (Or.inl h9)) hk
          · split
            · rename_i h9
              exact absurd (Or.inr (Or.inr h9)) hk
            · exact zm_R
def SubZm (sub : Sub9) : Prop := ∀ a f T (s : TS), ZyR s (sub a f T s)
theorem zm_ea {sub : Sub9} (hs : SubZm sub) : ∀ {sp : List (Nat × Nat)} {s : TS} (w : List (List Int) × TS), eaD sub f T sp s = .inl w → ZmR s w.2
  | [], s, w, he => by
    cases he
    exact ZmR.rf
  | q :: r, s, w, he => by
    unfold eaD at he
    have h0 := hs true f (sgT T q.1 q.2) (sOu s [])
    cases h1 : sub true f (sgT T q.1 q.2) (sOu s []) with
    | inr e' =>
      simp only [h1] at he
      cases he
    | inl s1 =>
      have ih := zm_ea hs (sp := r) (s := sOu s1 s.2.1)
      have h2 := h0 s1 h1
      simp only [h1] at he
      cases h3 : eaD sub f T r (sOu s1 s.2.1) with
      | inr e' =>
        simp only [h3] at he
        cases he
      | inl w' =>
        simp only [h3] at he
        cases he
        exact ZmR.tr (s1 := sOu s1 s.2.1) h2 (ih w' h3)
theorem zm_G {sub : Sub9} (hs : SubZm sub) {m : Int} {sp : List (Nat × Nat)} (hk : m = -1 → ¬ (k = 16 ∨ k = 17 ∨ k = 18)) : ZyR s (caG sub E a f T m k sp w s) := by
  unfold caG
  split
  · exact hs _ _ _ _
  · rename_i hm
    have hm : m = -1 := Classical.byContradiction hm
    have hk := hk hm
    split
    · split
      · exact hs _ _ _ _
      · exact hs _ _ _ _
    · exact zm_D hk
theorem zm_W (hE : E.2.2.2 < 1) {sub : Sub9} (hs : SubZm sub) {p : Nat} : ZyR s (caW sub E a f T p s) := by
  unfold caW
  refine zm_bd (zm_sp (by decide)) (fun s => ?_)
  split
  · exact zm_fl
  · split
    · exact zm_fl
    · rename_i hno
      have hk : maD E T p = -1 → ¬ (kiD E T p = 16 ∨ kiD E T p = 17 ∨ kiD E T p = 18) := fun hm hk => hno ⟨hm, by
        unfold noM
        rw [decide_eq_true hk, decide_eq_true (show E.2.2.2 < (if kiD E T p = 16 then 2 else 1) by split <;> omega), Bool.or_true]
        rfl⟩
      cases h9 : faD T (arD E T p) (neD T p) with
      | inr k => exact zm_fl
      | inl q =>
        show ZyR s (match eaD sub f T (if maD E T p = -1 ∧ kiD E T p = 15 then q.1.take 2 else q.1) s with
          | .inr e => (.inr e : TR)
          | .inl w => caG sub E a f T (maD E T p) (kiD E T p) q.1 w.1 w.2)
        cases h2 : eaD sub f T (if maD E T p = -1 ∧ kiD E T p = 15 then q.1.take 2 else q.1) s with
        | inr e => exact fun s' he => by cases he
        | inl w => exact fun s' he => (zm_ea hs w h2).tr (zm_G hs hk s' he)
theorem zm_P (hE : E.2.2.2 < 1) {sub : Sub9} (hs : SubZm sub) : ∀ (n p : Nat) (s : TS), ZyR s (wkP sub E a f T n p s)
  | 0, p, s => zm_in ZmR.rf
  | n + 1, p, s => by
    unfold wkP
    split
    · exact zm_in ZmR.rf
    · split
      · split
        · exact zm_fl
        · split
          · exact zm_bd (zm_W hE hs) (zm_P hE hs n _)
          · exact zm_bd zm_pt (zm_P hE hs n _)
      · split
        · split
          · exact zm_fl
          · exact zm_bd (hs _ _ _ _) (zm_P hE hs n _)
        · split
          · exact zm_fl
          · split
            · split
              · exact zm_bd zm_ps (zm_P hE hs n _)
              · exact zm_fl
            · split
              · exact fun s' he => (by have h := zm_P hE hs n _ _ s' he; exact h)
              · split
                · exact fun s' he => (by have h := zm_P hE hs n _ _ s' he; exact h)
                · exact zm_bd zm_pt (zm_P hE hs n _)
theorem zm_is (hE : E.2.2.2 < 1) : ∀ D : Nat, SubZm (isD D E)
  | 0, a, f, T, s => zm_fl
  | D + 1, a, f, T, s => by
    refine zm_bd (zm_sp (by decide)) (fun s1 => zm_bd ?_ (fun s2 => zm_in ZmR.rf))
    rw [wkD_i]
    exact zm_P hE (zm_is hE D) _ _ _
theorem zm_wk (hE : E.2.2.2 < 1) {D : Nat} : ZyR s (wkD D E a f T s) := by
  rw [wkD_i]
  exact zm_P hE (zm_is hE D) _ _ _
end
