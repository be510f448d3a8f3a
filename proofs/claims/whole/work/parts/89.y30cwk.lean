/-! TEXTS, THE CLASS: where things stand in a text -/
def OX (s s' : TS) : Prop := ∃ L, s'.2.1 = s.2.1 ++ L
theorem OX.rf {s : TS} : OX s s := ⟨[], (List.append_nil _).symm⟩
theorem OX.tr {s s1 s2 : TS} (h : OX s s1) (h' : OX s1 s2) : OX s s2 := by
  obtain ⟨L, e⟩ := h
  obtain ⟨M, e'⟩ := h'
  exact ⟨L ++ M, by rw [e', e, List.append_assoc]⟩
theorem OX.ps {L : List Int} {s s' : TS} (h : tPs L s = .inl s') : OX s s' := ⟨L, by rw [ps_i h]; rfl⟩
theorem OX.pu {s s' : TS} (h : PuR s s') : OX s s' := by
  obtain ⟨L, e⟩ := h
  exact ⟨L, by rw [e]; rfl⟩
theorem gv_ox {E : TE} {k : Int} {w : List (List Int)} {s s' : TS} (e : gvD E k w s = .inl s') : OX s s' := by
  unfold gvD at e
  split at e
  · exact OX.pu (gv1_put e)
  · split at e
    · exact OX.pu (gv2_put e)
    · split at e
      · unfold gv3 at e
        split at e
        · split at e
          · split at e
            · split at e
              · cases e
              · have o := OX.ps e; exact o
            · have o := OX.ps e; exact o
          · split at e
            · have o := OX.ps e; exact o
            · have o := OX.ps e; exact o
        · cases e
      · split at e
        · unfold gvN at e
          split at e
          · cases e
          · obtain ⟨s1, h1, h2⟩ := bd_i e
            cases h2
            have o := OX.ps h1; exact o
        · split at e
          · unfold gvL at e
            split at e
            · split at e
              · split at e
                · cases e
                · cases e; exact OX.rf
              · cases e
            · cases e
          · split at e
            · unfold gvI at e
              split at e
              · cases e
              · split at e
                · cases e
                · cases e; exact OX.rf
            · unfold gvR at e
              split at e
              · split at e
                · have o := OX.ps e; exact o
                · split at e
                  · have o := OX.ps e; exact o
                  · have o := OX.ps e; exact o
              · cases e
def SubX (sub : Sub9) : Prop := ∀ a f T s s', sub a f T s = .inl s' → OX s s'
theorem ea_out {sub : Sub9} {f : List (List Int)} {T : List Int} : ∀ {sp : List (Nat × Nat)} {s : TS} {w : List (List Int) × TS}, eaD sub f T sp s = .inl w → w.2.2.1 = s.2.1
  | [], s, w, e => by cases e; rfl
  | q :: r, s, w, e => by
    unfold eaD at e
    split at e
    · cases e
    · split at e
      · cases e
      · rename_i w1 h2
        cases e
        have o := ea_out h2
        exact o
theorem ca_ox {sub : Sub9} (hs : SubX sub) {E : TE} {a : Bool} {f : List (List Int)} {T : List Int} {q : Nat} {s s' : TS} (e : caW sub E a f T q s = .inl s') : OX s s' := by
  unfold caW at e
  obtain ⟨s1, h1, h2⟩ := bd_i e
  obtain ⟨e1, -, -⟩ := sp_i h1
  have o1 : OX s s1 := ⟨[], by rw [e1, List.append_nil]; rfl⟩
  split at h2
  · cases h2
  · split at h2
    · cases h2
    · split at h2
      · cases h2
      · split at h2
        · cases h2
        · rename_i w hw
          have o2 : OX s1 w.2 := ⟨[], by rw [ea_out hw, List.append_nil]⟩
          refine o1.tr (o2.tr ?_)
          unfold caG at h2
          split at h2
          · exact hs _ _ _ _ _ h2
          · split at h2
            · split at h2
              · exact hs _ _ _ _ _ h2
              · exact hs _ _ _ _ _ h2
            · exact gv_ox h2
theorem wk_ox {sub : Sub9} (hs : SubX sub) {E : TE} {a : Bool} {f : List (List Int)} {T : List Int} : ∀ (n q : Nat) (s s' : TS), wkP sub E a f T n q s = .inl s' → OX s s'
  | 0, q, s, s', e => by cases e; exact OX.rf
  | n + 1, q, s, s', e => by
    have pt : ∀ {c : Int} {s1 : TS}, tPt c s = .inl s1 → OX s s1 := fun h => by
      obtain ⟨e1, -, -⟩ := pt_i h
      exact ⟨_, by rw [e1]; rfl⟩
    unfold wkP at e
    split at e
    · cases e; exact OX.rf
    · split at e
      · split at e
        · cases e
        · split at e
          · obtain ⟨s1, h1, h2⟩ := bd_i e
            exact (ca_ox hs h1).tr (wk_ox hs n _ s1 s' h2)
          · obtain ⟨s1, h1, h2⟩ := bd_i e
            exact (pt h1).tr (wk_ox hs n _ s1 s' h2)
      · split at e
        · split at e
          · cases e
          · obtain ⟨s1, h1, h2⟩ := bd_i e
            exact (hs _ _ _ _ _ h1).tr (wk_ox hs n _ s1 s' h2)
        · split at e
          · cases e
          · split at e
            · split at e
              · obtain ⟨s1, h1, h2⟩ := bd_i e
                exact (OX.ps h1).tr (wk_ox hs n _ s1 s' h2)
              · cases e
            · split at e
              · have o := wk_ox hs n _ _ s' e
                exact o
              · split at e
                · have o := wk_ox hs n _ _ s' e
                  exact o
                · obtain ⟨s1, h1, h2⟩ := bd_i e
                  exact (pt h1).tr (wk_ox hs n _ s1 s' h2)
theorem is_ox {E : TE} : ∀ D : Nat, SubX (isD D E)
  | 0, a, f, T, s, s', e => by cases e
  | D + 1, a, f, T, s, s', e => by
    obtain ⟨s1, h1, h2⟩ := bd_i e
    obtain ⟨s2, h3, h4⟩ := bd_i h2
    cases h4
    obtain ⟨e1, -, -⟩ := sp_i h1
    rw [wkD_i] at h3
    obtain ⟨L, o⟩ := wk_ox (is_ox D) _ _ s1 s2 h3
    exact ⟨L, by show s2.2.1 = _; rw [o, e1]; rfl⟩
/-! the source -/
/-- a text stands in a row from a place on -/
def SgT (σ : MS) (q x0 : Nat) (T : List Int) : Prop := isRow q = true ∧ q ∉ TXX ∧ x0 + T.length ≤ 70000 ∧ ∀ t : Nat, t < T.length → rgt (mX σ q) ((x0 : Int) + t) = T.getD t 0
theorem SgT.fr {σ σ' : MS} {q x0 : Nat} {T : List Int} (h : SgT σ q x0 T) (hf : FrT σ σ') : SgT σ' q x0 T := ⟨h.1, h.2.1, h.2.2.1, fun t ht => by rw [hf.1 q h.2.1]; exact h.2.2.2 t ht⟩
theorem sg_len {T : List Int} {a b : Nat} (h : a ≤ b) (hb : b ≤ T.length) : (sgT T a b).length = b - a := by
  unfold sgT
  rw [List.length_take, List.length_drop]
  omega
theorem sg_at {T : List Int} {a b t : Nat} (hb : b ≤ T.length) (ht : t < b - a) : (sgT T a b).getD t 0 = T.getD (a + t) 0 := by
  unfold sgT
  rw [List.getD_eq_getElem?_getD, List.getElem?_take, if_pos ht, List.getElem?_drop, ← List.getD_eq_getElem?_getD]
theorem SgT.sg {σ : MS} {q x0 : Nat} {T : List Int} (h : SgT σ q x0 T) {a b : Nat} (hab : a ≤ b) (hb : b ≤ T.length) : SgT σ q (x0 + a) (sgT T a b) := by
  have l := sg_len hab hb
  refine ⟨h.1, h.2.1, by rw [l]; have := h.2.2.1; omega, fun t ht => ?_⟩
  rw [l] at ht
  rw [sg_at hb ht, show ((x0 + a : Nat) : Int) + (t : Int) = (x0 : Int) + ((a + t : Nat) : Int) by omega]
  exact h.2.2.2 _ (by omega)
theorem clN_b : ∀ (f : Nat) (L : List Int) (o : Int) (p : Nat), clN f L o p = -1 ∨ ((p : Int) ≤ clN f L o p ∧ clN f L o p < p + L.length)
  | 0, _, _, _ => Or.inl rfl
  | _ + 1, [], _, _ => Or.inl rfl
  | f + 1, c :: r, o, p => by
    have b1 := clN_b f r (o + 1) (p + 1)
    have b2 := clN_b f r (o - 1) (p + 1)
    have b3 := clN_b f r o (p + 1)
    have b4 := clN_b f r.tail o (p + 2)
    have l : r.tail.length ≤ r.length := by rw [List.length_tail]; omega
    unfold clN
    rw [List.length_cons]
    split
    · rcases b4 with h | h
      · exact Or.inl h
      · refine Or.inr ⟨by omega, ?_⟩
        by_cases hr : r.length = 0
        · rw [List.length_tail, hr] at h; omega
        · rw [List.length_tail] at h; omega
    · split
      · rcases b1 with h | h
        · exact Or.inl h
        · exact Or.inr (by omega)
      · split
        · split
          · exact Or.inr (by omega)
          · rcases b2 with h | h
            · exact Or.inl h
            · exact Or.inr (by omega)
        · rcases b3 with h | h
          · exact Or.inl h
          · exact Or.inr (by omega)
theorem clN_c {g : Nat} {c : Int} {r : List Int} {o : Int} {p : Nat} : clN (g + 1) (c :: r) o p = if c = 92 then clN g r.tail o (p + 2) else if c = 123 then clN g r (o + 1) (p + 1) else if c = 125 then (if o - 1 = 0 then (p : Int) else clN g r (o - 1) (p + 1)) else clN g r o (p + 1) := rfl
theorem clD_b {T : List Int} {p : Nat} (h : ¬ clD T p = -1) (hp : p ≤ T.length) (hc : T.getD p 0 = 123) (hlt : p < T.length) : p + 1 ≤ (clD T p).toNat ∧ (clD T p).toNat < T.length ∧ clD T p = (((clD T p).toNat : Nat) : Int) := by
  have b := (clN_b (T.length + 1) (T.drop p) 0 p).resolve_left h
  rw [List.length_drop] at b
  have e : T.drop p = T.getD p 0 :: T.drop (p + 1) := by
    rw [List.drop_eq_getElem_cons hlt, List.getD_eq_getElem?_getD, List.getElem?_eq_getElem hlt]
    rfl
  have b2 : clD T p = clN T.length (T.drop (p + 1)) (0 + 1) (p + 1) := by
    unfold clD
    rw [e, clN_c, hc, if_neg (by decide), if_pos rfl]
  have b3 := clN_b T.length (T.drop (p + 1)) (0 + 1) (p + 1)
  rw [← b2] at b3
  have b4 := b3.resolve_left h
  rw [List.length_drop] at b4
  omega
section
variable {σ0 σ σ' : MS} {Q : MQ9} {E : TE} {a : Bool} {f : List (List Int)} {fr : Int} {A : List Int} {k : Nat} {R : List Int × Bool} {S H : List Int} {z z' : Nat} {n : Int} {s s' : TS} {q x0 : Nat} {T : List Int}
theorem cl_6 (hT : SgT σ q x0 T) (w0 : mV σ 22 0 = s.1.1) (w1 : mV σ 22 1 = s.1.2.1) : ∀ (g : Nat) (j : Nat) (o : Int), T.length + 1 ≤ j + g → j ≤ T.length + 1 → (-(j : Int) ≤ o ∧ o ≤ j) → (¬ clN g (T.drop j) o j = -1 → Q (.inl (some ((x0 : Int) + clN g (T.drop j) o j))) σ) → (clN g (T.drop j) o j = -1 → ∀ σ', TxF σ' (2, s.1.1, s.1.2.1) → K2 σ σ' → Q (.inr (exN 0)) σ') → Texts_closing_6 q ((x0 + T.length : Nat) : Int) o ((x0 + j : Nat) : Int) σ Q := by
  have l0 := hT.2.2.1
  have out : ∀ (j : Nat) (o : Int), T.length ≤ j → j ≤ T.length + 1 → (∀ σ', TxF σ' (2, s.1.1, s.1.2.1) → K2 σ σ' → Q (.inr (exN 0)) σ') → Texts_closing_6 q ((x0 + T.length : Nat) : Int) o ((x0 + j : Nat) : Int) σ Q := fun j o h1 h2 hno => Texts_closing_6.i ⟨by unfold Rg; omega, by unfold Rg; omega, fun _ => Purse_fail.s (s := s) (by decide) w0 w1 hno, fun h9 => absurd h9 (by omega)⟩
  intro g
  induction g with
  | zero =>
    intro j o h1 h2 h3 hy hno
    exact out j o (by omega) h2 (hno rfl)
  | succ g ih =>
    intro j o h1 h2 h3 hy hno
    by_cases hj : T.length ≤ j
    · refine out j o hj h2 (hno ?_)
      rw [List.drop_eq_nil_of_le hj]
      rfl
    · have hlt : j < T.length := by omega
      have e : T.drop j = T.getD j 0 :: T.drop (j + 1) := by
        rw [List.drop_eq_getElem_cons hlt, List.getD_eq_getElem?_getD, List.getElem?_eq_getElem hlt]
        rfl
      have hx : rgt (mX σ q) ((x0 + j : Nat) : Int) = T.getD j 0 := by
        rw [show ((x0 + j : Nat) : Int) = (x0 : Int) + (j : Int) by omega]
        exact hT.2.2.2 j hlt
      have et : (T.drop (j + 1)).tail = T.drop (j + 2) := by rw [List.tail_drop]
      rw [e, clN_c, et] at hy hno
      refine Texts_closing_6.i ⟨by unfold Rg; omega, by unfold Rg; omega, fun h9 => absurd h9 (by omega), fun _ => tB.i hT.1 (tB.i hT.1 ⟨by unfold Rg; omega, ?_⟩)⟩
      rw [hx]
      refine ⟨fun c1 => ⟨fun c2 => ⟨fun c3 => Texts_closing_64.i ?_, fun c3 => ⟨by unfold Rg; omega, fun c4 => Texts_closing_64.i ?_, fun c4 => ⟨by unfold Rg; omega, ?_⟩⟩⟩, fun c2 => Texts_closing_64.i ?_⟩, fun c1 => Texts_closing_64.i ?_⟩
      · rw [if_neg c1, if_neg c2, if_neg c3] at hy hno
        exact ih (j + 1) o (by omega) (by omega) (by omega) hy hno
      · rw [if_neg c1, if_neg c2, if_pos c3, if_neg (by omega)] at hy hno
        exact ih (j + 1) (o + -1) (by omega) (by omega) (by omega) hy hno
      · rw [if_neg c1, if_neg c2, if_pos c3, if_pos (by omega)] at hy
        rw [show ((x0 + j : Nat) : Int) = (x0 : Int) + (j : Int) by omega]
        exact hy (by omega)
      · rw [if_neg c1, if_pos c2] at hy hno
        exact ih (j + 1) (o + 1) (by omega) (by omega) (by omega) hy hno
      · rw [if_pos c1] at hy hno
        exact ih (j + 2) o (by omega) (by omega) (by omega) hy hno
theorem Texts_closing.c (hT : SgT σ q x0 T) (w0 : mV σ 22 0 = s.1.1) (w1 : mV σ 22 1 = s.1.2.1) {p : Nat} (hp : p ≤ T.length) (hy : ¬ clD T p = -1 → Q (.inl (some ((x0 : Int) + clD T p))) σ) (hno : clD T p = -1 → ∀ σ', TxF σ' (2, s.1.1, s.1.2.1) → K2 σ σ' → Q (.inr (exN 0)) σ') : Texts_closing q ((x0 + p : Nat) : Int) ((x0 + T.length : Nat) : Int) σ Q := Texts_closing.i (cl_6 hT w0 w1 (T.length + 1) p 0 (by omega) (by omega) (by omega) hy hno)
/-- spans, as the class writes them -/
def spL (x0 : Nat) : List (Nat × Nat) → List Int
  | [] => []
  | q :: r => ((x0 + q.1 : Nat) : Int) :: ((x0 + q.2 : Nat) : Int) :: spL x0 r
theorem spL_len : ∀ {r : List (Nat × Nat)}, (spL x0 r).length = 2 * r.length
  | [] => rfl
  | q :: r => by
    show (spL x0 r).length + 1 + 1 = 2 * (r.length + 1)
    rw [spL_len]
    omega
theorem fa_6 (hT : SgT σ q x0 T) (w0 : mV σ 22 0 = s.1.1) (w1 : mV σ 22 1 = s.1.2.1) {ar : Nat} (har : ar ≤ 9) : ∀ (m j p : Nat) (B : List Int) (σ1 : MS), j + m = ar → p ≤ T.length → B.length + 2 * m ≤ 1000 → σ1 = wX σ 91 B → (∀ sp e, faD T m p = .inl (sp, e) → Q (.inl (some ((x0 + e : Nat) : Int))) (wX σ 91 (B ++ spL x0 sp))) → (∀ kd, faD T m p = .inr kd → ∀ σ', TxF σ' (kd, s.1.1, s.1.2.1) → FrT σ σ' → Q (.inr (exN 0)) σ') → Texts_findArguments_6 q ((x0 + T.length : Nat) : Int) (ar : Int) ((x0 + p : Nat) : Int) (j : Int) σ1 Q := by
  have l0 := hT.2.2.1
  have q91 : q ≠ 91 := fun e => hT.2.1 (by rw [e]; decide)
  intro m
  induction m with
  | zero =>
    intro j p B σ1 hj hp hB e1 hy hno
    subst e1
    refine Texts_findArguments_6.i ⟨by unfold Rg; omega, by unfold Rg; omega, fun _ => ⟨by unfold Rg; omega, ?_⟩, fun h9 => absurd h9 (by omega)⟩
    have := hy [] p rfl
    rw [show spL x0 [] = [] from rfl, List.append_nil] at this
    exact this
  | succ m ih =>
    intro j p B σ1 hj hp hB e1 hy hno
    subst e1
    have hT1 : SgT (wX σ 91 B) q x0 T := hT.fr (FrT.x (by decide))
    have fail : ∀ {kd : Int}, (0 ≤ kd ∧ kd ≤ 20) → faD T (m + 1) p = .inr kd → ∀ {Q' : MQ9}, (∀ σ', Q (.inr (exN 0)) σ' → Q' (.inr (exN 0)) σ') → Purse_fail kd (wX σ 91 B) Q' := fun {kd} hk e {Q'} hQ => Purse_fail.s (s := s) hk w0 w1 (fun σ' q1 q2 => hQ σ' (hno _ e σ' q1 ((FrT.x (by decide)).tr (FrT.k2 q2))))
    have f30 : (T.length ≤ p ∨ ¬ T.getD p 0 = 123) → Texts_findArguments_30 q ((x0 + T.length : Nat) : Int) (ar : Int) ((x0 + p : Nat) : Int) (j : Int) (wX σ 91 B) Q := fun hc => Texts_findArguments_30.i (fail (by decide) (by unfold faD; rw [if_pos hc]) (fun _ h9 => h9))
    refine Texts_findArguments_6.i ⟨by unfold Rg; omega, by unfold Rg; omega, fun h9 => absurd h9 (by omega), fun _ => ⟨by unfold Rg; omega, by unfold Rg; omega, fun c => f30 (by omega), fun c => tB.i hT.1 (tB.i hT.1 ⟨by unfold Rg; omega, ?_⟩)⟩⟩
    have hlt : p < T.length := by omega
    have hx : rgt (mX (wX σ 91 B) q) ((x0 + p : Nat) : Int) = T.getD p 0 := by
      rw [show ((x0 + p : Nat) : Int) = (x0 : Int) + (p : Int) by omega]
      exact hT1.2.2.2 p hlt
    rw [hx]
    refine ⟨fun d => Texts_findArguments_38.i ?_, fun d => f30 (Or.inr d)⟩
    have hn : ¬ (T.length ≤ p ∨ ¬ T.getD p 0 = 123) := fun h9 => h9.elim (fun h9 => absurd h9 (by omega)) (fun h9 => h9 d)
    refine Texts_closing.c (s := s) hT1 w0 w1 hp (fun g => ?_) (fun g σ' q1 q2 => hno 2 (by unfold faD; rw [if_neg hn, if_pos g]) σ' q1 ((FrT.x (by decide)).tr (FrT.k2 q2)))
    obtain ⟨b1, b2, b3⟩ := clD_b g hp d hlt
    have e91 : mX (wX σ 91 B) 91 = B := wX_self
    have er : (x0 : Int) + clD T p = ((x0 + (clD T p).toNat : Nat) : Int) := by omega
    show Rg (((x0 + p : Nat) : Int) + 1) ∧ (mX (wX σ 91 B) 91).length < 1024 ∧ (mX (wX σ 91 B) 91 ++ [((x0 + p : Nat) : Int) + 1]).length < 1024 ∧ Texts_findArguments_6 q _ _ ((x0 : Int) + clD T p + 1) _ (wX (wX (wX σ 91 B) 91 (mX (wX σ 91 B) 91 ++ [((x0 + p : Nat) : Int) + 1])) 91 (mX (wX σ 91 B) 91 ++ [((x0 + p : Nat) : Int) + 1] ++ [(x0 : Int) + clD T p])) Q
    rw [e91, er, wX_wX, wX_wX]
    refine ⟨by unfold Rg; omega, by omega, by rw [List.length_append, List.length_singleton]; omega, ?_⟩
    have := ih (j + 1) ((clD T p).toNat + 1) (B ++ [((x0 + p : Nat) : Int) + 1] ++ [((x0 + (clD T p).toNat : Nat) : Int)]) _ (by omega) (by omega) (by rw [List.length_append, List.length_append, List.length_singleton, List.length_singleton]; omega) rfl (fun sp e he => ?_) (fun kd he => hno kd ?_)
    · rw [show ((x0 + ((clD T p).toNat + 1) : Nat) : Int) = ((x0 + (clD T p).toNat : Nat) : Int) + 1 by omega] at this
      exact this
    · have h9 := hy ((p + 1, (clD T p).toNat) :: sp) e (by unfold faD; rw [if_neg hn, if_neg g, he])
      rw [List.append_assoc, List.append_assoc]
      exact h9
    · unfold faD
      rw [if_neg hn, if_neg g, he]
theorem fa_b : ∀ {m p : Nat} {sp : List (Nat × Nat)} {e : Nat}, p ≤ T.length → faD T m p = .inl (sp, e) → sp.length = m ∧ p ≤ e ∧ e ≤ T.length ∧ ∀ q ∈ sp, q.1 ≤ q.2 ∧ q.2 ≤ T.length
  | 0, p, sp, e, hp, h => by
    cases h
    exact ⟨rfl, Nat.le_refl _, hp, fun q hq => absurd hq List.not_mem_nil⟩
  | m + 1, p, sp, e, hp, h => by
    unfold faD at h
    split at h
    · cases h
    · rename_i hn
      split at h
      · cases h
      · rename_i g
        have hc : T.getD p 0 = 123 := Classical.byContradiction (fun h9 => hn (Or.inr h9))
        have hlt : p < T.length := Nat.lt_of_not_le (fun h9 => hn (Or.inl h9))
        obtain ⟨b1, b2, b3⟩ := clD_b g hp hc hlt
        split at h
        · rename_i q he
          cases h
          obtain ⟨i1, i2, i3, i4⟩ := fa_b (m := m) (p := (clD T p).toNat + 1) (sp := q.1) (e := q.2) (by omega) he
          refine ⟨by rw [List.length_cons, i1], by omega, i3, fun x hx => ?_⟩
          rcases List.mem_cons.mp hx with rfl | hx
          · exact ⟨b1, by omega⟩
          · exact i4 x hx
        · cases h
end
