/-! LINES ARE FILLED, way 0: the document, the class -/
def okZ (H : HY9) (U : List Int) (a R s : Nat) : Bool := decide (a < s ∧ s ≤ U.length ∧ (((s = U.length ∨ U.getD s 0 = 32 ∨ ptD H U s = 1) ∧ s ≤ a + R) ∨ (ptD H U s = 2 ∧ s + 1 ≤ a + R)))
def fiN (H : HY9) (U : List Int) (a R : Nat) : Nat → Nat
  | 0 => a + R
  | m + 1 => if okZ H U a R (a + (m + 1)) = true then a + (m + 1) else fiN H U a R m
/-- where the line from a ends, and whether a hyphen is put -/
def fiS (H : HY9) (U : List Int) (a R : Nat) : Nat := fiN H U a R R
def fiP (H : HY9) (U : List Int) (a R : Nat) : Bool := decide (ptD H U (fiS H U a R) = 2) && okZ H U a R (fiS H U a R)
def nxA (U : List Int) (s : Nat) : Nat := if U.getD s 0 = 32 then s + 1 else s
def fiL (H : HY9) (U : List Int) (R1 R2 : Nat) : Nat → Nat → List (Nat × Nat × Bool)
  | 0, _ => []
  | n + 1, a => if U.length ≤ a then [] else (a, fiS H U a (if a = 0 then R1 else R2), fiP H U a (if a = 0 then R1 else R2)) :: fiL H U R1 R2 n (nxA U (fiS H U a (if a = 0 then R1 else R2)))
theorem okZ_i {H : HY9} {U : List Int} {a R s : Nat} : okZ H U a R s = true ↔ (a < s ∧ s ≤ U.length ∧ (((s = U.length ∨ U.getD s 0 = 32 ∨ ptD H U s = 1) ∧ s ≤ a + R) ∨ (ptD H U s = 2 ∧ s + 1 ≤ a + R))) := by
  unfold okZ
  rw [decide_eq_true_iff]
theorem okZ_b {H : HY9} {U : List Int} {a R s : Nat} (h : okZ H U a R s = true) : a < s ∧ s ≤ U.length ∧ s ≤ a + R := by
  have := okZ_i.mp h
  omega
theorem fiN_eq {H : HY9} {U : List Int} {a R s : Nat} (h : okZ H U a R s = true) (hm : ∀ t, s < t → okZ H U a R t = false) : ∀ m, s ≤ a + m → fiN H U a R m = s
  | 0, hs => by
    have := okZ_b h
    omega
  | m + 1, hs => by
    unfold fiN
    by_cases e : s = a + (m + 1)
    · rw [← e, if_pos h]
    · rw [if_neg (by rw [hm _ (by omega)]; decide)]
      exact fiN_eq h hm m (by omega)
theorem fi_eq {H : HY9} {U : List Int} {a R s : Nat} (h : okZ H U a R s = true) (hm : ∀ t, s < t → okZ H U a R t = false) : fiS H U a R = s := fiN_eq h hm R (okZ_b h).2.2
theorem fiN_no {H : HY9} {U : List Int} {a R : Nat} (hm : ∀ t, okZ H U a R t = false) : ∀ m, fiN H U a R m = a + R
  | 0 => rfl
  | m + 1 => by
    unfold fiN
    rw [if_neg (by rw [hm]; decide)]
    exact fiN_no hm m
theorem fi_no {H : HY9} {U : List Int} {a R : Nat} (hm : ∀ t, okZ H U a R t = false) : fiS H U a R = a + R := fiN_no hm R
theorem fiN_b {H : HY9} {U : List Int} {a R : Nat} (hR : 1 ≤ R) : ∀ m, m ≤ R → a < fiN H U a R m ∧ fiN H U a R m ≤ a + R
  | 0, _ => by
    show a < a + R ∧ a + R ≤ a + R
    omega
  | m + 1, h => by
    unfold fiN
    split
    · omega
    · exact fiN_b hR m (by omega)
theorem fiN_c {H : HY9} {U : List Int} {a R : Nat} : ∀ m, okZ H U a R (fiN H U a R m) = true ∨ (fiN H U a R m = a + R ∧ ∀ t, a < t → t ≤ a + m → okZ H U a R t = false)
  | 0 => Or.inr ⟨rfl, fun t h1 h2 => by omega⟩
  | m + 1 => by
    unfold fiN
    split
    · left
      assumption
    · rename_i h
      rcases fiN_c (H := H) (U := U) (a := a) (R := R) m with h1 | h1
      · exact Or.inl h1
      · refine Or.inr ⟨h1.1, fun t x y => ?_⟩
        by_cases e : t = a + (m + 1)
        · rw [e]
          exact (Bool.not_eq_true _).mp h
        · exact h1.2 t x (by omega)
theorem fi_b {H : HY9} {U : List Int} {a R : Nat} (hR : 1 ≤ R) : a < fiS H U a R ∧ fiS H U a R ≤ a + R := fiN_b hR R (Nat.le_refl _)
/-- the line ends within the row -/
theorem fi_u {H : HY9} {U : List Int} {a R : Nat} (hR : 1 ≤ R) (ha : a < U.length) : fiS H U a R ≤ U.length := by
  rcases fiN_c (H := H) (U := U) (a := a) (R := R) R with h | h
  · exact (okZ_b h).2.1
  · by_cases e : a + R ≤ U.length
    · show fiN H U a R R ≤ _
      rw [h.1]
      exact e
    · have := h.2 U.length ha (by omega)
      have h9 : okZ H U a R U.length = true := okZ_i.mpr ⟨ha, Nat.le_refl _, Or.inl ⟨Or.inl rfl, by omega⟩⟩
      rw [h9] at this
      exact absurd this (by decide)
theorem pt_e {H : HY9} {U : List Int} {k : Nat} (h : U.length ≤ k) : ptD H U k = 0 := by
  unfold ptD
  rw [if_pos (Or.inr (Or.inl h))]
theorem pt_b {H : HY9} {U : List Int} {k : Nat} (h : sbl (U.getD k 0) = true) : ptD H U k = 0 := by
  unfold ptD
  rw [if_pos (Or.inr (Or.inr h))]
/-- no point behind a blank -/
theorem pt_1 {H : HY9} {U : List Int} {k : Nat} (h : U.getD k 0 = 32) : ptD H U (k + 1) = 0 := by
  unfold ptD
  split
  · rfl
  · rw [if_neg (by rw [Nat.add_sub_cancel, h]; exact fun h9 => absurd h9.1 (by decide)), if_neg (by rw [Nat.add_sub_cancel, h]; exact fun h9 => absurd h9.2.1 (by decide))]
theorem pt_v {H : HY9} {U : List Int} {k : Nat} : ptD H U k = 0 ∨ ptD H U k = 1 ∨ ptD H U k = 2 := by
  unfold ptD
  split
  · exact Or.inl rfl
  · split
    · exact Or.inr (Or.inl rfl)
    · split
      · exact Or.inr (Or.inr rfl)
      · exact Or.inl rfl
def FrFl (σ σ' : MS) : Prop := (∀ q, q ≠ 112 → q ≠ 114 → q ≠ 116 → mX σ' q = mX σ q) ∧ σ'.2.2 = σ.2.2 ∧ ∀ z k, z ≠ 126 → ¬ (z = 111 ∧ k = 12) → mV σ' z k = mV σ z k
theorem FrFl.rf {σ : MS} : FrFl σ σ := ⟨fun _ _ _ _ => rfl, rfl, fun _ _ _ _ => rfl⟩
theorem FrFl.tr {σ σ1 σ2 : MS} (h : FrFl σ σ1) (h' : FrFl σ1 σ2) : FrFl σ σ2 := ⟨fun q a b c => (h'.1 q a b c).trans (h.1 q a b c), h'.2.1.trans h.2.1, fun z k a b => (h'.2.2 z k a b).trans (h.2.2 z k a b)⟩
theorem FrFl.e {σ σ1 : MS} (h : FrE σ σ1) : FrFl σ σ1 := ⟨fun q _ _ _ => by rw [h.1], h.2.1, h.2.2⟩
theorem HyC.fl {σ σ1 : MS} {P X : List (List Int)} {l r : Int} (h : HyC σ P X l r) (f : FrFl σ σ1) : HyC σ1 P X l r := ⟨h.1.cg (f.1 _ (by decide) (by decide) (by decide)) (f.1 _ (by decide) (by decide) (by decide)), h.2.1.cg (f.1 _ (by decide) (by decide) (by decide)) (f.1 _ (by decide) (by decide) (by decide)), (f.2.2 _ _ (by decide) (by decide)).trans h.2.2.1, (f.2.2 _ _ (by decide) (by decide)).trans h.2.2.2⟩
/-- lines in the filler's rows -/
def lnA (x0 : Nat) (L : List (Nat × Nat × Bool)) : List Int := L.map (fun x => ((x0 + x.1 : Nat) : Int))
def lnB (x0 : Nat) (L : List (Nat × Nat × Bool)) : List Int := L.map (fun x => ((x0 + x.2.1 : Nat) : Int))
def lnP (L : List (Nat × Nat × Bool)) : List Int := L.map (fun x => bZ x.2.2)
section
variable {σ : MS} {Q : MQ9} {q x0 : Nat} {U : List Int} {H : HY9}
theorem putL_s {x y : Int} {b : Bool} (hx : Rg x) (hy : Rg y) (h1 : (mX σ 112).length < 65536) (h2 : (mX σ 114).length < 65536) (h3 : (mX σ 116).length < 65536) (hq : Q (.inl none) (wX (wX (wX σ 112 (mX σ 112 ++ [x])) 114 (mX σ 114 ++ [y])) 116 (mX σ 116 ++ [bZ b]))) : Filler_putLine x y (bZ b) σ Q := by
  have e : mX (wX (wX σ 112 (mX σ 112 ++ [x])) 114 (mX σ 114 ++ [y])) 116 = mX σ 116 := by rw [wX_ne (by decide), wX_ne (by decide)]
  refine Filler_putLine.i ⟨hx, h1, hy, h2, by cases b <;> decide, fun h9 => ?_, fun h9 => ?_⟩
  · rw [bZ_z h9] at hq
    refine Filler_putLine_29.i ⟨by rw [e]; exact h3, ?_⟩
    rw [e]
    exact hq
  · rw [bZ_ne h9] at hq
    refine Filler_putLine_29.i ⟨by rw [e]; exact h3, ?_⟩
    rw [e]
    exact hq
theorem fi_54 (hU : LnC σ q x0 U) {l2 l4 l5 l7 : Int} {a li : Nat} (hli : li ≤ U.length) (ha : a ≤ li) (hq : ∀ w, a ≤ w → w ≤ li → (li = U.length → w = li) → (li < U.length → (w = a ∨ U.getD w 0 = 32) ∧ ∀ j, w < j → j ≤ li → ¬ U.getD j 0 = 32) → Filler_fill_84 q l2 ((x0 + U.length : Nat) : Int) l4 l5 ((x0 + a : Nat) : Int) l7 ((x0 + li : Nat) : Int) ((x0 + w : Nat) : Int) σ Q) : ∀ (n w : Nat), w = a + n → w ≤ li → (li = U.length → w = li) → (∀ j, w < j → j ≤ li → ¬ U.getD j 0 = 32) → Filler_fill_54 q l2 ((x0 + U.length : Nat) : Int) l4 l5 ((x0 + a : Nat) : Int) l7 ((x0 + li : Nat) : Int) ((x0 + w : Nat) : Int) σ Q := by
  have l0 := hU.2.1
  intro n
  induction n with
  | zero =>
    intro w hw hwl h1 h2
    exact Filler_fill_54.i ⟨by unfold Rg; omega, fun h9 => hq w (by omega) hwl h1 (fun h => by omega), fun h9 => ⟨by unfold Rg; omega, by unfold Rg; omega, fun _ => hq w (by omega) hwl h1 (fun _ => ⟨Or.inl (by omega), h2⟩), fun h8 => absurd h8 (by omega)⟩⟩
  | succ n ih =>
    intro w hw hwl h1 h2
    refine Filler_fill_54.i ⟨by unfold Rg; omega, fun h9 => hq w (by omega) hwl h1 (fun h => by omega), fun h9 => ⟨by unfold Rg; omega, by unfold Rg; omega, fun h8 => absurd h8 (by omega), fun h8 => tB.i hU.1 (tB.i hU.1 ⟨by unfold Rg; omega, ?_⟩)⟩⟩
    rw [hU.at (show w < U.length by omega)]
    refine ⟨fun h7 => hq w (by omega) hwl h1 (fun _ => ⟨Or.inr h7, h2⟩), fun h7 => ?_⟩
    rw [show ((x0 + w : Nat) : Int) + (-1) = ((x0 + (w - 1) : Nat) : Int) by omega]
    exact ih (w - 1) (by omega) (by omega) (fun h => by omega) (fun j x y => by
      by_cases e : j = w
      · rw [e]
        exact h7
      · exact h2 j (by omega) y)
/-- the points, from the last one -/
theorem fi_125 (hok : okK U) (hbk : bkE U) (hb : HyB H.2.1 H.2.2.1 H.2.2.2.1 H.2.2.2.2) (hy : mV σ 111 11 = bZ H.1) (hC0 : HyC σ H.2.1 H.2.2.1 H.2.2.2.1 H.2.2.2.2) (hU0 : LnC σ q x0 U) {l4 l5 l7 : Int} {a li wd st : Nat} (hli : li ≤ U.length) (hwd : wd ≤ U.length + 1) (hq : ∀ σ' st' b, FrE σ σ' → CaC σ' x0 U H → ((∃ p, st' = p ∧ wd < p ∧ p ≤ li ∧ (ptD H U p = 1 ∨ (ptD H U p = 2 ∧ p < li)) ∧ b = decide (ptD H U p = 2) ∧ ∀ j, p < j → j ≤ li → ¬ (ptD H U j = 1 ∨ (ptD H U j = 2 ∧ j < li))) ∨ (st' = st ∧ b = false ∧ ∀ j, wd < j → j ≤ li → ¬ (ptD H U j = 1 ∨ (ptD H U j = 2 ∧ j < li)))) → Filler_fill_188 q (x0 : Int) ((x0 + U.length : Nat) : Int) l4 l5 ((x0 + a : Nat) : Int) l7 ((x0 + st' : Nat) : Int) (bZ b) σ' Q) : ∀ (n p : Nat) (σ' : MS), p ≤ wd + n → p ≤ li → FrE σ σ' → CaC σ' x0 U H → (∀ j, p < j → j ≤ li → ¬ (ptD H U j = 1 ∨ (ptD H U j = 2 ∧ j < li))) → Filler_fill_125 q (x0 : Int) ((x0 + U.length : Nat) : Int) l4 l5 ((x0 + a : Nat) : Int) l7 ((x0 + li : Nat) : Int) ((x0 + st : Nat) : Int) ((x0 + wd : Nat) : Int) 0 ((x0 + p : Nat) : Int) σ' Q := by
  have l0 := hU0.2.1
  intro n
  induction n with
  | zero =>
    intro p σ' hp hpl f c hn
    have := hq σ' st false f c (Or.inr ⟨rfl, rfl, fun j x y => hn j (by omega) y⟩)
    exact Filler_fill_125.i ⟨by unfold Rg; omega, by unfold Rg; omega, fun _ => this, fun h9 => absurd h9 (by omega)⟩
  | succ n ih =>
    intro p σ' hp hpl f c hn
    refine Filler_fill_125.i ⟨by unfold Rg; omega, by unfold Rg; omega, fun h9 => hq σ' st false f c (Or.inr ⟨rfl, rfl, fun j x y => hn j (by omega) y⟩), fun h9 => ?_⟩
    have hU' : LnC σ' q x0 U := ⟨hU0.1, hU0.2.1, fun t ht => by rw [f.1]; exact hU0.2.2 t ht⟩
    refine Filler_pointAt.c hU' hok hbk hb (hC0.e f) ((f.2.2 _ _ (by decide) (by decide)).trans hy) c (fun σ2 f2 c2 => ?_) (by omega)
    have hv := pt_v (H := H) (U := U) (k := p)
    have go : ¬ (ptD H U p = 1 ∨ (ptD H U p = 2 ∧ p < li)) → Filler_fill_182 q (x0 : Int) ((x0 + U.length : Nat) : Int) l4 l5 ((x0 + a : Nat) : Int) l7 ((x0 + li : Nat) : Int) ((x0 + st : Nat) : Int) ((x0 + wd : Nat) : Int) 0 ((x0 + p : Nat) : Int) σ2 Q := fun hno => by
      refine Filler_fill_182.i ?_
      rw [show ((x0 + p : Nat) : Int) + (-1) = ((x0 + (p - 1) : Nat) : Int) by omega]
      exact ih (p - 1) σ2 (by omega) (by omega) (f.tr f2) c2 (fun j x y => by
        by_cases e : j = p
        · rw [e]
          exact hno
        · exact hn j (by omega) y)
    have hit : (ptD H U p = 1 ∨ (ptD H U p = 2 ∧ p < li)) → Filler_fill_162 q (x0 : Int) ((x0 + U.length : Nat) : Int) l4 l5 ((x0 + a : Nat) : Int) l7 ((x0 + p : Nat) : Int) (ptD H U p) σ2 Q := fun hh => by
      have := hq σ2 p (decide (ptD H U p = 2)) (f.tr f2) c2 (Or.inl ⟨p, rfl, by omega, hpl, hh, rfl, hn⟩)
      refine Filler_fill_162.i ⟨fun h8 => Filler_fill_177.i ?_, fun h8 => Filler_fill_177.i ?_⟩
      · rw [decide_eq_false h8] at this
        exact this
      · rw [decide_eq_true h8] at this
        exact this
    exact ⟨fun h8 => hit (Or.inl h8), fun h8 => ⟨fun h7 => go (by omega), fun h7 => ⟨by unfold Rg; omega, fun h6 => go (by omega), fun h6 => hit (Or.inr ⟨h7, by omega⟩)⟩⟩⟩
theorem CaC.x {σ1 : MS} (h : CaC σ x0 U H) (hv : ∀ z k, mV σ1 z k = mV σ z k) : CaC σ1 x0 U H := by
  rcases h with h | ⟨a, h1, h2, h3⟩
  · exact Or.inl ((hv _ _).trans h)
  · exact Or.inr ⟨a, (hv _ _).trans h1, h2, fun k k1 k2 => by rw [hv]; exact h3 k k1 k2⟩
/-- one line -/
theorem fi_1 (hok : okK U) (hbk : bkE U) (hb : HyB H.2.1 H.2.2.1 H.2.2.2.1 H.2.2.2.2) (hy : mV σ 111 11 = bZ H.1) (hC0 : HyC σ H.2.1 H.2.2.1 H.2.2.2.1 H.2.2.2.2) (hU0 : LnC σ q x0 U) (hca : CaC σ x0 U H) {l4 l5 l7 : Int} {a R : Nat} (ha : a < U.length) (hR : 1 ≤ R ∧ R ≤ 100000) (hq : ∀ σ', FrE σ σ' → CaC σ' x0 U H → Filler_fill_188 q (x0 : Int) ((x0 + U.length : Nat) : Int) l4 l5 ((x0 + a : Nat) : Int) l7 ((x0 + fiS H U a R : Nat) : Int) (bZ (fiP H U a R)) σ' Q) : Filler_fill_41 q (x0 : Int) ((x0 + U.length : Nat) : Int) l4 l5 ((x0 + a : Nat) : Int) l7 ((x0 + U.length : Nat) : Int) ((x0 + a : Nat) : Int) 1 (R : Int) σ Q := by
  have l0 := hU0.2.1
  refine Filler_fill_41.i ⟨by unfold Rg; omega, by unfold Rg; omega, by unfold Rg; omega, ?_⟩
  have e1 : min ((x0 + U.length : Nat) : Int) (((x0 + a : Nat) : Int) + max 1 (R : Int)) = ((x0 + min U.length (a + R) : Nat) : Int) := by omega
  rw [e1]
  generalize hli : min U.length (a + R) = li
  have hli1 : li ≤ U.length := by omega
  have hli2 : a < li := by omega
  refine fi_54 hU0 hli1 (by omega) (fun w w1 w2 w3 w4 => ?_) (li - a) li (by omega) (Nat.le_refl _) (fun _ => rfl) (fun j x y => by omega)
  have fin : ∀ st wd : Nat, (a < w → st = w ∧ wd = w + 1) → (¬ a < w → st = li ∧ wd = a) → Filler_fill_116 q (x0 : Int) ((x0 + U.length : Nat) : Int) l4 l5 ((x0 + a : Nat) : Int) l7 ((x0 + li : Nat) : Int) ((x0 + st : Nat) : Int) ((x0 + wd : Nat) : Int) σ Q := fun st wd s1 s2 => by
    refine Filler_fill_116.i (fi_125 hok hbk hb hy hC0 hU0 hli1 (by
      by_cases h9 : a < w
      · have := (s1 h9).2
        omega
      · have := (s2 h9).2
        omega) (fun σ' st' b f c hor => ?_) li li σ (by omega) (Nat.le_refl _) FrE.rf hca (fun j x y => by omega))
    have key : fiS H U a R = st' ∧ fiP H U a R = b := by
      have put : ∀ s, fiS H U a R = s → okZ H U a R s = true → fiP H U a R = decide (ptD H U s = 2) := fun s hs ho => by
        unfold fiP
        rw [hs, ho, Bool.and_true]
      by_cases hn : li = U.length
      · have hw := w3 hn
        obtain ⟨t1, t2⟩ := s1 (by omega)
        have ho : okZ H U a R U.length = true := okZ_i.mpr ⟨ha, Nat.le_refl _, Or.inl ⟨Or.inl rfl, by omega⟩⟩
        have hs : fiS H U a R = U.length := fi_eq ho (fun t ht => by
          cases h9 : okZ H U a R t with
          | false => rfl
          | true => have := okZ_b h9; omega)
        rcases hor with ⟨p, p1, p2, p3, -⟩ | ⟨p1, p2, p3⟩
        · omega
        · refine ⟨by omega, ?_⟩
          rw [put _ hs ho, p2, pt_e (Nat.le_refl _)]
          rfl
      · obtain ⟨w5, w6⟩ := w4 (by omega)
        have eli : li = a + R := by
          clear hor
          omega
        rcases hor with ⟨p, p1, p2, p3, p4, p5, p6⟩ | ⟨p1, p2, p3⟩
        · have hap : a < p := by
            by_cases h9 : a < w
            · have := (s1 h9).2
              omega
            · have := (s2 h9).2
              omega
          have ho : okZ H U a R p = true := okZ_i.mpr ⟨hap, by omega, by omega⟩
          have hs : fiS H U a R = p := fi_eq ho (fun t ht => by
            cases h9 : okZ H U a R t with
            | false => rfl
            | true =>
              have h8 := okZ_i.mp h9
              have hb9 := okZ_b h9
              have h7 := w6 t (by
                by_cases h9 : a < w
                · have := (s1 h9).2
                  omega
                · have := (s2 h9).2
                  omega) (by omega)
              have h6 := p6 t ht (by omega)
              omega)
          exact ⟨by omega, by rw [put _ hs ho, p5]⟩
        · by_cases h9 : a < w
          · obtain ⟨t1, t2⟩ := s1 h9
            have hw32 := w5.resolve_left (by omega)
            have ho : okZ H U a R w = true := okZ_i.mpr ⟨h9, by omega, Or.inl ⟨Or.inr (Or.inl hw32), by omega⟩⟩
            have hs : fiS H U a R = w := fi_eq ho (fun t ht => by
              cases h9 : okZ H U a R t with
              | false => rfl
              | true =>
                have h8 := okZ_i.mp h9
                have hb9 := okZ_b h9
                have h7 := w6 t (by omega) (by omega)
                by_cases e : t = w + 1
                · have := pt_1 (H := H) hw32
                  rw [← e] at this
                  omega
                · have h6 := p3 t (by omega) (by omega)
                  omega)
            refine ⟨by omega, ?_⟩
            rw [put _ hs ho, p2, pt_b ((hbk w (by omega)).mp hw32)]
            rfl
          · obtain ⟨t1, t2⟩ := s2 h9
            have none : ∀ t, okZ H U a R t = false := fun t => by
              cases h9 : okZ H U a R t with
              | false => rfl
              | true =>
                have h8 := okZ_i.mp h9
                have hb9 := okZ_b h9
                have h7 := w6 t (by omega) (by omega)
                have h6 := p3 t (by omega) (by omega)
                omega
            refine ⟨by rw [fi_no none]; omega, ?_⟩
            unfold fiP
            rw [none, Bool.and_false, p2]
    rw [← key.1, ← key.2]
    exact hq σ' f c
  refine Filler_fill_84.i ⟨by unfold Rg; omega, by unfold Rg; omega, fun h9 => Filler_fill_98.i ⟨by unfold Rg; omega, by unfold Rg; omega, fun h8 => ?_, fun h8 => absurd h8 (by omega)⟩, fun h9 => Filler_fill_98.i ⟨by unfold Rg; omega, by unfold Rg; omega, fun h8 => absurd h8 (by omega), fun h8 => ?_⟩⟩
  · exact fin li a (fun h => by omega) (fun _ => ⟨rfl, rfl⟩)
  · have := fin w (w + 1) (fun _ => ⟨rfl, rfl⟩) (fun h => by omega)
    rw [show ((x0 + (w + 1) : Nat) : Int) = ((x0 + w : Nat) : Int) + 1 by omega] at this
    exact this
theorem fi_13 (hok : okK U) (hbk : bkE U) (hb : HyB H.2.1 H.2.2.1 H.2.2.2.1 H.2.2.2.2) (hq9 : q ≠ 112 ∧ q ≠ 114 ∧ q ≠ 116) {R1 R2 : Nat} (hR1 : 1 ≤ R1 ∧ R1 ≤ 100000) (hR2 : 1 ≤ R2 ∧ R2 ≤ 100000) : ∀ (n a : Nat) (σ : MS), (mX σ 112).length + n ≤ 65536 → (mX σ 114).length + n ≤ 65536 → (mX σ 116).length + n ≤ 65536 → LnC σ q x0 U → HyC σ H.2.1 H.2.2.1 H.2.2.2.1 H.2.2.2.2 → mV σ 111 11 = bZ H.1 → CaC σ x0 U H → a ≤ U.length + 1 → n ≤ U.length → (∀ σ', FrFl σ σ' → mX σ' 112 = mX σ 112 ++ lnA x0 (fiL H U R1 R2 n a) → mX σ' 114 = mX σ 114 ++ lnB x0 (fiL H U R1 R2 n a) → mX σ' 116 = mX σ 116 ++ lnP (fiL H U R1 R2 n a) → Q (.inl none) σ') → Filler_fill_13 q (x0 : Int) ((x0 + U.length : Nat) : Int) (R1 : Int) (R2 : Int) ((x0 + a : Nat) : Int) (n : Int) σ Q := by
  intro n
  induction n with
  | zero =>
    intro a σ m1 m2 m3 hU hC hy hca ha hn hq
    exact Filler_fill_13.i ⟨by decide, fun _ => hq σ FrFl.rf (List.append_nil _).symm (List.append_nil _).symm (List.append_nil _).symm, fun h9 => absurd h9 (by decide)⟩
  | succ n ih =>
    intro a σ m1 m2 m3 hU hC hy hca ha hn hq
    have l0 := hU.2.1
    refine Filler_fill_13.i ⟨by unfold Rg; omega, fun h9 => absurd h9 (by omega), fun _ => ⟨by unfold Rg; omega, by unfold Rg; omega, fun h9 => ?_, fun h9 => ?_⟩⟩
    · have e : fiL H U R1 R2 (n + 1) a = [] := by
        unfold fiL
        rw [if_pos (by omega)]
      rw [e] at hq
      exact hq σ FrFl.rf (List.append_nil _).symm (List.append_nil _).symm (List.append_nil _).symm
    · have hlt : a < U.length := by omega
      have go : ∀ R : Nat, R = (if a = 0 then R1 else R2) → (1 ≤ R ∧ R ≤ 100000) → Filler_fill_41 q (x0 : Int) ((x0 + U.length : Nat) : Int) (R1 : Int) (R2 : Int) ((x0 + a : Nat) : Int) ((n + 1 : Nat) : Int) ((x0 + U.length : Nat) : Int) ((x0 + a : Nat) : Int) 1 (R : Int) σ Q := fun R eR hR => by
        have e : fiL H U R1 R2 (n + 1) a = (a, fiS H U a R, fiP H U a R) :: fiL H U R1 R2 n (nxA U (fiS H U a R)) := by
          conv => lhs; unfold fiL
          rw [if_neg (by omega), ← eR]
        rw [e] at hq
        have sb := fi_b (H := H) (U := U) (a := a) hR.1
        have su := fi_u (H := H) (U := U) (a := a) hR.1 hlt
        refine fi_1 hok hbk hb hy hC hU hca hlt hR (fun σ1 f1 c1 => ?_)
        have x1 := f1.1
        refine Filler_fill_188.i (putL_s (by unfold Rg; omega) (by unfold Rg; omega) (by rw [x1]; omega) (by rw [x1]; omega) (by rw [x1]; omega) ?_)
        rw [x1]
        generalize hσ2 : wX (wX (wX σ1 112 (mX σ 112 ++ [((x0 + a : Nat) : Int)])) 114 (mX σ 114 ++ [((x0 + fiS H U a R : Nat) : Int)])) 116 (mX σ 116 ++ [bZ (fiP H U a R)]) = σ2
        have y1 : mX σ2 112 = mX σ 112 ++ [((x0 + a : Nat) : Int)] := by rw [← hσ2, wX_ne (by decide), wX_ne (by decide), wX_self]
        have y2 : mX σ2 114 = mX σ 114 ++ [((x0 + fiS H U a R : Nat) : Int)] := by rw [← hσ2, wX_ne (by decide), wX_self]
        have y3 : mX σ2 116 = mX σ 116 ++ [bZ (fiP H U a R)] := by rw [← hσ2, wX_self]
        have f2 : FrFl σ σ2 := (FrFl.e f1).tr ⟨fun y a b c => by rw [← hσ2, wX_ne c, wX_ne b, wX_ne a], by rw [← hσ2]; rfl, fun z k _ _ => by rw [← hσ2]; rfl⟩
        have hU2 : LnC σ2 q x0 U := ⟨hU.1, hU.2.1, fun t ht => by rw [f2.1 q hq9.1 hq9.2.1 hq9.2.2]; exact hU.2.2 t ht⟩
        have nx : ∀ a', a' = nxA U (fiS H U a R) ∨ (U.length ≤ a' ∧ U.length ≤ nxA U (fiS H U a R)) → a' ≤ U.length + 1 → Filler_fill_218 q (x0 : Int) ((x0 + U.length : Nat) : Int) (R1 : Int) (R2 : Int) ((n + 1 : Nat) : Int) ((x0 + a' : Nat) : Int) σ2 Q := fun a' ha' hau => by
          refine Filler_fill_218.i ?_
          rw [show ((n + 1 : Nat) : Int) + (-1) = (n : Int) by omega]
          have eL : fiL H U R1 R2 n a' = fiL H U R1 R2 n (nxA U (fiS H U a R)) := by
            rcases ha' with h | ⟨h1, h2⟩
            · rw [h]
            · cases n with
              | zero => rfl
              | succ n =>
                unfold fiL
                rw [if_pos h1, if_pos h2]
          refine ih a' σ2 (by rw [y1, List.length_append, List.length_singleton]; omega) (by rw [y2, List.length_append, List.length_singleton]; omega) (by rw [y3, List.length_append, List.length_singleton]; omega) hU2 (hC.fl f2) ((f2.2.2 _ _ (by decide) (by decide)).trans hy) (c1.x (fun z k => by rw [← hσ2]; rfl)) hau (by omega) (fun σ' f' z1 z2 z3 => ?_)
          rw [eL] at z1 z2 z3
          refine hq σ' (f2.tr f') ?_ ?_ ?_
          · rw [z1, y1, List.append_assoc]
            rfl
          · rw [z2, y2, List.append_assoc]
            rfl
          · rw [z3, y3, List.append_assoc]
            rfl
        refine tB.i hU.1 (tB.i hU.1 ⟨by unfold Rg; omega, fun h8 => ?_, fun h8 => ?_⟩)
        · by_cases he : fiS H U a R < U.length
          · rw [hU2.at he] at h8
            refine nx _ (Or.inl ?_) (by omega)
            unfold nxA
            rw [if_neg h8]
          · refine nx _ (Or.inr ⟨by omega, ?_⟩) (by omega)
            unfold nxA
            split <;> omega
        · rw [show ((x0 + fiS H U a R : Nat) : Int) + 1 = ((x0 + (fiS H U a R + 1) : Nat) : Int) by omega]
          by_cases he : fiS H U a R < U.length
          · rw [hU2.at he] at h8
            refine nx _ (Or.inl ?_) (by omega)
            unfold nxA
            rw [if_pos h8]
          · refine nx _ (Or.inr ⟨by omega, ?_⟩) (by omega)
            unfold nxA
            split <;> omega
      exact ⟨by unfold Rg; omega, by unfold Rg; omega, fun h8 => go R2 (by rw [if_neg (by omega)]) hR2, fun h8 => go R1 (by rw [if_pos (by omega)]) hR1⟩
/-- a row is filled -/
theorem Filler_fill.c (hok : okK U) (hbk : bkE U) (hb : HyB H.2.1 H.2.2.1 H.2.2.2.1 H.2.2.2.2) (hq9 : q ≠ 112 ∧ q ≠ 114 ∧ q ≠ 116) {R1 R2 : Nat} (hR1 : 1 ≤ R1 ∧ R1 ≤ 100000) (hR2 : 1 ≤ R2 ∧ R2 ≤ 100000) (m1 : (mX σ 112).length + U.length ≤ 65536) (m2 : (mX σ 114).length + U.length ≤ 65536) (m3 : (mX σ 116).length + U.length ≤ 65536) (hU : LnC σ q x0 U) (hC : HyC σ H.2.1 H.2.2.1 H.2.2.2.1 H.2.2.2.2) (hy : mV σ 111 11 = bZ H.1) (hq : ∀ σ', FrFl σ σ' → mX σ' 112 = mX σ 112 ++ lnA x0 (fiL H U R1 R2 U.length 0) → mX σ' 114 = mX σ 114 ++ lnB x0 (fiL H U R1 R2 U.length 0) → mX σ' 116 = mX σ 116 ++ lnP (fiL H U R1 R2 U.length 0) → Q (.inl none) σ') : Filler_fill q (x0 : Int) ((x0 + U.length : Nat) : Int) (R1 : Int) (R2 : Int) σ Q := by
  have f0 : FrFl σ (wV σ 111 12 (-1)) := ⟨fun _ _ _ _ => rfl, rfl, fun z k _ b => wV_ne (by omega)⟩
  refine Filler_fill.i ?_
  rw [show ((x0 + U.length : Nat) : Int) - (x0 : Int) = (U.length : Int) by omega]
  exact fi_13 hok hbk hb hq9 hR1 hR2 U.length 0 (wV σ 111 12 (-1)) m1 m2 m3 ⟨hU.1, hU.2.1, hU.2.2⟩ (hC.fl f0) ((f0.2.2 _ _ (by decide) (by decide)).trans hy) (Or.inl wV_self) (by omega) (Nat.le_refl _) (fun σ' f => hq σ' (f0.tr f))
end
