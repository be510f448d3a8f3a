/-! TEXTS: no notes where none are allowed -/
def ZnR (s s' : TS) : Prop := s'.2.2.2.2.2.1 = s.2.2.2.2.2.1
def ZxR (s : TS) (r : TR) : Prop := ∀ s', r = .inl s' → ZnR s s'
section
variable {s s1 s2 : TS} {E : TE} {a : Bool} {f w : List (List Int)} {T L : List Int} {k : Int}
theorem ZnR.tr (h : ZnR s s1) (h' : ZnR s1 s2) : ZnR s s2 := Eq.trans h' h
theorem ZnR.rf : ZnR s s := rfl
theorem zn_fl : ZxR s (tFl k s1) := fun s' he => by cases he
theorem zn_in (h : ZnR s s1) : ZxR s (.inl s1) := fun s' he => by
  cases he
  exact h
theorem zn_bd {r : TR} {g : TS → TR} (h1 : ZxR s r) (h2 : ∀ s1 : TS, ZxR s1 (g s1)) : ZxR s (tBd r g) := by
  cases r with
  | inl s1 => exact fun s' he => (h1 s1 rfl).tr (h2 s1 s' he)
  | inr e' => exact fun s' he => by cases he
theorem zn_sp {n : Int} (hn : 0 ≤ n) : ZxR s (tSp n s) := by
  unfold tSp
  split
  · exact zn_fl
  · exact zn_in ZnR.rf
theorem zn_pt {c : Int} : ZxR s (tPt c s) := zn_bd (zn_sp (by decide)) (fun s => zn_in ZnR.rf)
theorem zn_ps : ∀ {L : List Int} {s : TS}, ZxR s (tPs L s)
  | [], s => zn_in ZnR.rf
  | c :: r, s => zn_bd zn_pt (fun s => zn_ps)
theorem zn_pn : ZxR s (tPn L s) := zn_ps
theorem zn_n {s0 : TS} (h : ZnR s0 s) : ZxR s0 (tPn L s) := fun s' he => h.tr (zn_pn s' he)
theorem zn_1 : ZxR s (gv1 k w s) := by
  have h5 : ZxR s (tFl 5 s) := zn_fl
  unfold gv1
  split
  · exact zn_ps
  · split
    · split
      · exact zn_ps
      · exact h5
    · split
      · split
        · split
          · exact zn_ps
          · exact h5
        · exact h5
      · split
        · split
          · exact zn_ps
          · exact h5
        · split
          · split
            · exact zn_ps
            · exact h5
          · exact zn_ps
theorem zn_2 : ZxR s (gv2 k w s) := by
  unfold gv2
  split
  · exact zn_pn
  · split
    · exact zn_pn
    · split
      · split
        · exact zn_pn
        · exact zn_fl
      · split
        · exact zn_pn
        · exact zn_fl
theorem zn_3 : ZxR s (gv3 k w s) := by
  unfold gv3
  split
  · split
    · split
      · split
        · exact zn_fl
        · exact zn_n ZnR.rf
      · exact zn_pn
    · split
      · exact zn_n ZnR.rf
      · exact zn_pn
  · exact zn_fl
theorem zn_L : ZxR s (gvL E w s) := by
  unfold gvL
  split
  · split
    · split
      · exact zn_fl
      · exact zn_in ZnR.rf
    · exact zn_fl
  · exact zn_fl
theorem zn_I : ZxR s (gvI w s) := by
  unfold gvI
  split
  · exact zn_fl
  · split
    · exact zn_fl
    · exact zn_in ZnR.rf
theorem zn_R : ZxR s (gvR E k w s) := by
  unfold gvR
  split
  · split
    · exact zn_n ZnR.rf
    · split
      · exact zn_pn
      · exact zn_pn
  · exact zn_fl
theorem zn_D (hk : ¬ k = 16) : ZxR s (gvD E k w s) := by
  unfold gvD
  split
  · exact zn_1
  · split
    · exact zn_2
    · split
      · exact zn_3
      · split
        · exact zn_L
        · split
          · exact zn_I
          · exact zn_R
def SubZn (sub : Sub9) : Prop := ∀ a f T (s : TS), ZxR s (sub a f T s)
theorem zn_ea {sub : Sub9} (hs : SubZn sub) : ∀ {sp : List (Nat × Nat)} {s : TS} (w : List (List Int) × TS), eaD sub f T sp s = .inl w → ZnR s w.2
  | [], s, w, he => by
    cases he
    exact ZnR.rf
  | q :: r, s, w, he => by
    unfold eaD at he
    have h0 := hs true f (sgT T q.1 q.2) (sOu s [])
    cases h1 : sub true f (sgT T q.1 q.2) (sOu s []) with
    | inr e' =>
      simp only [h1] at he
      cases he
    | inl s1 =>
      have ih := zn_ea hs (sp := r) (s := sOu s1 s.2.1)
      have h2 := h0 s1 h1
      simp only [h1] at he
      cases h3 : eaD sub f T r (sOu s1 s.2.1) with
      | inr e' =>
        simp only [h3] at he
        cases he
      | inl w' =>
        simp only [h3] at he
        cases he
        exact ZnR.tr (s1 := sOu s1 s.2.1) h2 (ih w' h3)
theorem zn_G {sub : Sub9} (hs : SubZn sub) {m : Int} {sp : List (Nat × Nat)} (hk : m = -1 → ¬ k = 16) : ZxR s (caG sub E a f T m k sp w s) := by
  unfold caG
  split
  · exact hs _ _ _ _
  · rename_i hm
    have hm : m = -1 := Classical.byContradiction hm
    have hk := hk hm
    split
    · split
      · exact hs _ _ _ _
      · exact hs _ _ _ _
    · exact zn_D hk
theorem zn_W (hE : E.2.2.2 < 2) {sub : Sub9} (hs : SubZn sub) {p : Nat} : ZxR s (caW sub E a f T p s) := by
  unfold caW
  refine zn_bd (zn_sp (by decide)) (fun s => ?_)
  split
  · exact zn_fl
  · split
    · exact zn_fl
    · rename_i hno
      have hk : maD E T p = -1 → ¬ kiD E T p = 16 := fun hm hk => hno ⟨hm, by
        unfold noM
        rw [hk, decide_eq_true (Or.inl rfl), if_pos rfl, decide_eq_true hE, Bool.or_true]
        rfl⟩
      cases h9 : faD T (arD E T p) (neD T p) with
      | inr k => exact zn_fl
      | inl q =>
        show ZxR s (match eaD sub f T (if maD E T p = -1 ∧ kiD E T p = 15 then q.1.take 2 else q.1) s with
          | .inr e => (.inr e : TR)
          | .inl w => caG sub E a f T (maD E T p) (kiD E T p) q.1 w.1 w.2)
        cases h2 : eaD sub f T (if maD E T p = -1 ∧ kiD E T p = 15 then q.1.take 2 else q.1) s with
        | inr e => exact fun s' he => by cases he
        | inl w => exact fun s' he => (zn_ea hs w h2).tr (zn_G hs hk s' he)
theorem zn_P (hE : E.2.2.2 < 2) {sub : Sub9} (hs : SubZn sub) : ∀ (n p : Nat) (s : TS), ZxR s (wkP sub E a f T n p s)
  | 0, p, s => zn_in ZnR.rf
  | n + 1, p, s => by
    unfold wkP
    split
    · exact zn_in ZnR.rf
    · split
      · split
        · exact zn_fl
        · split
          · exact zn_bd (zn_W hE hs) (zn_P hE hs n _)
          · exact zn_bd zn_pt (zn_P hE hs n _)
      · split
        · split
          · exact zn_fl
          · exact zn_bd (hs _ _ _ _) (zn_P hE hs n _)
        · split
          · exact zn_fl
          · split
            · split
              · exact zn_bd zn_ps (zn_P hE hs n _)
              · exact zn_fl
            · split
              · exact fun s' he => (by have h := zn_P hE hs n _ _ s' he; exact h)
              · split
                · exact fun s' he => (by have h := zn_P hE hs n _ _ s' he; exact h)
                · exact zn_bd zn_pt (zn_P hE hs n _)
theorem zn_is (hE : E.2.2.2 < 2) : ∀ D : Nat, SubZn (isD D E)
  | 0, a, f, T, s => zn_fl
  | D + 1, a, f, T, s => by
    refine zn_bd (zn_sp (by decide)) (fun s1 => zn_bd ?_ (fun s2 => zn_in ZnR.rf))
    rw [wkD_i]
    exact zn_P hE (zn_is hE D) _ _ _
theorem zn_wk (hE : E.2.2.2 < 2) {D : Nat} : ZxR s (wkD D E a f T s) := by
  rw [wkD_i]
  exact zn_P hE (zn_is hE D) _ _ _
end
