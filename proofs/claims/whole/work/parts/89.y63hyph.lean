/-! LETTERS ARE PARTED: the document -/
/-- an exception's letters; whether a dash stands behind k of them -/
def exL (x : List Int) : List Int := x.filter (fun c => decide (¬ c = 45))
def exH : List Int → Nat → Nat → Bool
  | [], _, _ => false
  | c :: r, k, m => if c = 45 then (decide (m = k) || exH r k m) else exH r k (m + 1)
def exF (X : List (List Int)) (U : List Int) : Option (List Int) := X.reverse.find? (fun x => decide (exL x = U))
/-- a pattern's signs; the digit behind k of them -/
def paL (p : List Int) : List Int := p.filter (fun c => !sDi c)
def paG : List Int → Nat → Nat → Int
  | [], _, _ => 0
  | c :: r, k, m => if sDi c = true then (if m = k then max (c - 48) (paG r k m) else paG r k m) else paG r k (m + 1)
def doT (U : List Int) : List Int := 46 :: (U ++ [46])
def mtP (p U : List Int) (s : Nat) : Bool := decide (((doT U).drop s).take (paL p).length = paL p)
def lv1 (p U : List Int) (s : Nat) (L : Nat → Int) : Nat → Int := if mtP p U s = true then (fun q => if s ≤ q then max (L q) (paG p (q - s) 0) else L q) else L
def lvR (p U : List Int) : Nat → Nat → (Nat → Int) → (Nat → Int)
  | 0, _, L => L
  | m + 1, s, L => lvR p U m (s + 1) (lv1 p U s L)
def lvA (U : List Int) : List (List Int) → (Nat → Int) → (Nat → Int)
  | [], L => L
  | p :: P, L => lvA U P (lvR p U (U.length + 2) 0 L)
def hyK (P X : List (List Int)) (l r : Int) (U : List Int) (k : Nat) : Bool := match exF X U with
  | some x => exH x k 0
  | none => decide (l ≤ (k : Int) ∧ (k : Int) + r ≤ U.length) && decide (lvA U P (fun _ => 0) (k + 1) % 2 = 1)
theorem exL_app {p r : List Int} : exL (p ++ r) = exL p ++ exL r := List.filter_append ..
theorem exL_d : exL [45] = [] := rfl
theorem exL_c {c : Int} (h : ¬ c = 45) : exL [c] = [c] := by
  unfold exL
  rw [List.filter_cons_of_pos (by exact decide_eq_true h)]
  rfl
theorem exH_c {c : Int} {r : List Int} {k m : Nat} : exH (c :: r) k m = if c = 45 then (decide (m = k) || exH r k m) else exH r k (m + 1) := rfl
theorem paG_c {c : Int} {r : List Int} {k m : Nat} : paG (c :: r) k m = if sDi c = true then (if m = k then max (c - 48) (paG r k m) else paG r k m) else paG r k (m + 1) := rfl
theorem exH_app {k : Nat} : ∀ {p r : List Int} {m : Nat}, exH (p ++ r) k m = (exH p k m || exH r k (m + (exL p).length))
  | [], r, m => by
    show exH r k m = (false || exH r k (m + 0))
    rw [Bool.false_or]
    rfl
  | c :: p, r, m => by
    show exH (c :: (p ++ r)) k m = _
    rw [exH_c, exH_c]
    by_cases h : c = 45
    · rw [if_pos h, if_pos h, exH_app]
      have e : exL (c :: p) = exL p := by
        unfold exL
        rw [List.filter_cons_of_neg (by rw [decide_eq_false (fun h9 => h9 h)]; decide)]
      rw [e, Bool.or_assoc]
    · rw [if_neg h, if_neg h, exH_app]
      have e : exL (c :: p) = c :: exL p := by
        unfold exL
        rw [List.filter_cons_of_pos (by exact decide_eq_true h)]
      rw [e, List.length_cons, show m + 1 + (exL p).length = m + ((exL p).length + 1) by omega]
theorem paL_app {p r : List Int} : paL (p ++ r) = paL p ++ paL r := List.filter_append ..
theorem paL_d {c : Int} (h : sDi c = true) : paL [c] = [] := by
  unfold paL
  rw [List.filter_cons_of_neg (by rw [h]; decide)]
  rfl
theorem paL_c {c : Int} (h : sDi c = false) : paL [c] = [c] := by
  unfold paL
  rw [List.filter_cons_of_pos (by rw [h]; decide)]
  rfl
theorem paG_n {k : Nat} : ∀ {p : List Int} {m : Nat}, 0 ≤ paG p k m
  | [], m => Int.le_refl _
  | c :: r, m => by
    unfold paG
    split
    · split
      · exact Int.le_trans (paG_n (p := r)) (Int.le_max_right _ _)
      · exact paG_n
    · exact paG_n
theorem paG_app {k : Nat} : ∀ {p r : List Int} {m : Nat}, paG (p ++ r) k m = max (paG p k m) (paG r k (m + (paL p).length))
  | [], r, m => by
    show paG r k m = max 0 (paG r k (m + 0))
    have := paG_n (p := r) (k := k) (m := m)
    rw [Nat.add_zero]
    omega
  | c :: p, r, m => by
    show paG (c :: (p ++ r)) k m = _
    rw [paG_c, paG_c]
    by_cases h : sDi c = true
    · have e : paL (c :: p) = paL p := by
        unfold paL
        rw [List.filter_cons_of_neg (by rw [h]; decide)]
      rw [if_pos h, if_pos h, paG_app, e]
      split
      · omega
      · rfl
    · have e : paL (c :: p) = c :: paL p := by
        unfold paL
        rw [List.filter_cons_of_pos (by simpa using h)]
      rw [if_neg h, if_neg h, paG_app, e, List.length_cons, show m + 1 + (paL p).length = m + ((paL p).length + 1) by omega]
theorem lv1_n {p U : List Int} {s : Nat} {L : Nat → Int} (h : ∀ q, 0 ≤ L q) : ∀ q, 0 ≤ lv1 p U s L q := fun q => by
  unfold lv1
  split
  · show 0 ≤ (if s ≤ q then max (L q) (paG p (q - s) 0) else L q)
    split
    · exact Int.le_trans (h q) (Int.le_max_left _ _)
    · exact h q
  · exact h q
theorem lvR_n {p U : List Int} : ∀ {m s : Nat} {L : Nat → Int}, (∀ q, 0 ≤ L q) → ∀ q, 0 ≤ lvR p U m s L q
  | 0, s, L, h => h
  | m + 1, s, L, h => lvR_n (m := m) (s := s + 1) (L := lv1 p U s L) (lv1_n h)
theorem lvA_n {U : List Int} : ∀ {P : List (List Int)} {L : Nat → Int}, (∀ q, 0 ≤ L q) → ∀ q, 0 ≤ lvA U P L q
  | [], L, h => h
  | p :: P, L, h => lvA_n (P := P) (L := lvR p U (U.length + 2) 0 L) (lvR_n h)
theorem doT_len {U : List Int} : (doT U).length = U.length + 2 := by
  unfold doT
  rw [List.length_cons, List.length_append, List.length_singleton]
theorem doT_0 {U : List Int} : (doT U).getD 0 0 = 46 := rfl
theorem doT_e {U : List Int} : (doT U).getD (U.length + 1) 0 = 46 := by
  show (U ++ [46]).getD U.length 0 = 46
  exact getD_s
theorem doT_m {U : List Int} {i : Nat} (h : i < U.length) : (doT U).getD (i + 1) 0 = U.getD i 0 := by
  show (U ++ [46]).getD i 0 = U.getD i 0
  exact getD_l h
/-! LETTERS ARE PARTED: the class -/
/-- the rules for it -/
def HyC (σ : MS) (P X : List (List Int)) (l r : Int) : Prop := shR σ 39 P ∧ shR σ 44 X ∧ mV σ 24 4 = l ∧ mV σ 24 5 = r
def HyB (P X : List (List Int)) (l r : Int) : Prop := P.length ≤ 120 ∧ smW 16 P ∧ (∀ p ∈ P, 0 < (paL p).length) ∧ X.length ≤ 60 ∧ smW 24 X ∧ (0 ≤ l ∧ l ≤ 100) ∧ (0 ≤ r ∧ r ≤ 100)
/-- letters in a row -/
def LtC (σ : MS) (q fr : Nat) (U : List Int) : Prop := isRow q = true ∧ fr + U.length ≤ 70000 ∧ ∀ i, i < U.length → lowS (rgt (mX σ q) ((fr + i : Nat) : Int) % 128) = U.getD i 0
section
variable {σ σ0 σ1 : MS} {Q : MQ9} {P X : List (List Int)} {l r : Int} {U : List Int} {q fr : Nat}
theorem HyB.sP (h : HyB P X l r) : suM P ≤ 1920 := by
  have := suM_b (n := 16) (W := P) (fun x hx => (h.2.1 x hx).1)
  have := h.1
  omega
theorem HyB.sX (h : HyB P X l r) : suM X ≤ 1440 := by
  have := suM_b (n := 24) (W := X) (fun x hx => (h.2.2.2.2.1 x hx).1)
  have := h.2.2.2.1
  omega
theorem take_sn9 {U : List Int} {j : Nat} (h : j < U.length) : U.take (j + 1) = U.take j ++ [U.getD j 0] := take_sn h
theorem isEx_16 (hR : HyC σ P X l r) (hb : HyB P X l r) (hL : LtC σ q fr U) {k : Nat} (hk : k < X.length) : ∀ (rs p : List Int) (j : Nat), X.getD k [] = p ++ rs → j ≤ U.length → exL p = U.take j → Q (.inl (some (bZ (decide (exL (X.getD k []) = U))))) σ → Filler_isExceptionOf_16 (k : Int) q ((fr + U.length : Nat) : Int) ((fr + j : Nat) : Int) ((suM (X.take k) + p.length : Nat) : Int) σ Q
  | [], p, j, he, hj, hp, hq => by
    obtain ⟨a1, a2, a3⟩ := sh_at (L := X) hk
    have s9 := hb.sX
    have l9 := hL.2.1
    have k60 := hb.2.2.2.1
    have e45 : mX σ 47 = enS 0 X := hR.2.1.2
    rw [List.append_nil] at he
    rw [he] at a1 a3 hq
    refine Filler_isExceptionOf_16.i ⟨by unfold Rg; omega, ?_⟩
    rw [e45, a1]
    refine ⟨by unfold Rg; omega, fun _ => ⟨by unfold Rg; omega, by unfold Rg; omega, fun h9 => ?_, fun h9 => ?_⟩, fun h9 => absurd h9 (by omega)⟩
    · rw [hp, decide_eq_false (fun h8 => h9 ?_)] at hq
      · exact hq
      · have := congrArg List.length h8
        rw [List.length_take] at this
        omega
    · have : j = U.length := by omega
      rw [hp, this, List.take_length, decide_eq_true rfl] at hq
      exact hq
  | c :: rs, p, j, he, hj, hp, hq => by
    obtain ⟨a1, a2, a3⟩ := sh_at (L := X) hk
    have s9 := hb.sX
    have l9 := hL.2.1
    have k60 := hb.2.2.2.1
    have e47 : mX σ 47 = enS 0 X := hR.2.1.2
    have e45 : mX σ 45 = X.flatten := hR.2.1.1
    have hlen : (X.getD k []).length = p.length + 1 + rs.length := by rw [he, List.length_append, List.length_cons]; omega
    have hf := fl_at (L := X) hk (i := p.length) (by omega)
    have hx : rgt (mX σ 45) ((suM (X.take k) + p.length : Nat) : Int) = c := by
      rw [e45, rgt_n (by rw [flat_len]; omega), hf, he, List.getD_eq_getElem?_getD, List.getElem?_append_right (Nat.le_refl _), Nat.sub_self]
      rfl
    have he2 : X.getD k [] = (p ++ [c]) ++ rs := by rw [he, List.append_assoc]; rfl
    have l1 : (p ++ [c]).length = p.length + 1 := by rw [List.length_append, List.length_singleton]
    refine Filler_isExceptionOf_16.i ⟨by unfold Rg; omega, ?_⟩
    rw [e47, a1, hx]
    refine ⟨by unfold Rg; omega, fun h9 => absurd h9 (by omega), fun _ => ⟨by unfold Rg; omega, fun c45 => Filler_isExceptionOf_85.i ?_, fun c45 => ⟨by unfold Rg; omega, by unfold Rg; omega, fun h9 => ?_, fun h9 => tB.i hL.1 (tB.i hL.1 ⟨by unfold Rg; omega, T_small.s (by unfold Rg; omega) ⟨fun h8 => Filler_isExceptionOf_85.i ?_, fun h8 => ?_⟩⟩)⟩⟩⟩
    · rw [show ((suM (X.take k) + p.length : Nat) : Int) + 1 = ((suM (X.take k) + (p ++ [c]).length : Nat) : Int) by rw [l1]; omega]
      exact isEx_16 hR hb hL hk rs (p ++ [c]) j he2 hj (by rw [exL_app, c45, exL_d, List.append_nil]; exact hp) hq
    · have : j = U.length := by omega
      rw [decide_eq_false] at hq
      · exact hq
      · rw [he2, exL_app, exL_app, exL_c c45, hp, this, List.take_length]
        intro h8
        have := congrArg List.length h8
        rw [List.length_append, List.length_append, List.length_singleton] at this
        omega
    · have hj2 : j < U.length := by omega
      rw [hL.2.2 j hj2] at h8
      show Filler_isExceptionOf_16 (k : Int) q ((fr + U.length : Nat) : Int) (((fr + j : Nat) : Int) + 1) (((suM (X.take k) + p.length : Nat) : Int) + 1) σ Q
      rw [show ((suM (X.take k) + p.length : Nat) : Int) + 1 = ((suM (X.take k) + (p ++ [c]).length : Nat) : Int) by rw [l1]; omega, show ((fr + j : Nat) : Int) + 1 = ((fr + (j + 1) : Nat) : Int) by omega]
      exact isEx_16 hR hb hL hk rs (p ++ [c]) (j + 1) he2 (by omega) (by rw [exL_app, exL_c c45, hp, take_sn hj2, h8]) hq
    · have hj2 : j < U.length := by omega
      rw [hL.2.2 j hj2] at h8
      rw [decide_eq_false] at hq
      · exact hq
      · rw [he2, exL_app, exL_app, exL_c c45, hp]
        intro h7
        have : (U.take j ++ [c] ++ exL rs).getD j 0 = U.getD j 0 := by rw [h7]
        rw [List.getD_eq_getElem?_getD, List.getElem?_append_left (by rw [List.length_append, List.length_singleton, List.length_take]; omega), List.getElem?_append_right (by rw [List.length_take]; omega), List.length_take, show j - min j U.length = 0 by omega] at this
        exact h8 this.symm
theorem Filler_isExceptionOf.c (hR : HyC σ P X l r) (hb : HyB P X l r) (hL : LtC σ q fr U) {k : Nat} (hk : k < X.length) (hq : Q (.inl (some (bZ (decide (exL (X.getD k []) = U))))) σ) : Filler_isExceptionOf (k : Int) q (fr : Int) ((fr + U.length : Nat) : Int) σ Q := by
  obtain ⟨a1, a2, a3⟩ := sh_at (L := X) hk
  have k60 := hb.2.2.2.1
  have e47 : mX σ 47 = enS 0 X := hR.2.1.2
  refine Filler_isExceptionOf.i ⟨by unfold Rg; omega, ?_⟩
  rw [e47, a2]
  exact isEx_16 hR hb hL hk (X.getD k []) [] 0 rfl (Nat.zero_le _) rfl hq
/-- only the digits change -/
def FrD (σ σ' : MS) : Prop := mX σ' = mX σ ∧ σ'.2.2 = σ.2.2 ∧ ∀ z k, z ≠ 126 → mV σ' z k = mV σ z k
/-- and where the row began that was parted last -/
def FrE (σ σ' : MS) : Prop := mX σ' = mX σ ∧ σ'.2.2 = σ.2.2 ∧ ∀ z k, z ≠ 126 → ¬ (z = 111 ∧ k = 12) → mV σ' z k = mV σ z k
theorem FrD.rf : FrD σ σ := ⟨rfl, rfl, fun _ _ _ => rfl⟩
theorem FrD.tr {σ2 : MS} (h : FrD σ σ1) (h' : FrD σ1 σ2) : FrD σ σ2 := ⟨h'.1.trans h.1, h'.2.1.trans h.2.1, fun z k a => (h'.2.2 z k a).trans (h.2.2 z k a)⟩
theorem FrD.w {k : Nat} {x : Int} : FrD σ (wV σ 126 k x) := ⟨rfl, rfl, fun z k a => wV_ne (Or.inl a)⟩
theorem HyC.d (h : HyC σ P X l r) (f : FrD σ σ1) : HyC σ1 P X l r := ⟨⟨by rw [f.1]; exact h.1.1, by rw [f.1]; exact h.1.2⟩, ⟨by rw [f.1]; exact h.2.1.1, by rw [f.1]; exact h.2.1.2⟩, by rw [f.2.2 _ _ (by decide)]; exact h.2.2.1, by rw [f.2.2 _ _ (by decide)]; exact h.2.2.2⟩
theorem LtC.d (h : LtC σ q fr U) (f : FrD σ σ1) : LtC σ1 q fr U := ⟨h.1, h.2.1, fun i hi => by rw [f.1]; exact h.2.2 i hi⟩
theorem HyC.e (h : HyC σ P X l r) (f : FrE σ σ1) : HyC σ1 P X l r := ⟨⟨by rw [f.1]; exact h.1.1, by rw [f.1]; exact h.1.2⟩, ⟨by rw [f.1]; exact h.2.1.1, by rw [f.1]; exact h.2.1.2⟩, by rw [f.2.2 _ _ (by decide) (by decide)]; exact h.2.2.1, by rw [f.2.2 _ _ (by decide) (by decide)]; exact h.2.2.2⟩
theorem LtC.e (h : LtC σ q fr U) (f : FrE σ σ1) : LtC σ1 q fr U := ⟨h.1, h.2.1, fun i hi => by rw [f.1]; exact h.2.2 i hi⟩
theorem layEx_14 (hb : HyB P X l r) {k : Nat} (hk : k < X.length) (hq : ∀ σ', FrD σ0 σ' → (∀ m, m < 40 → mV σ' 126 (m + 1) = if exH (X.getD k []) m 0 = true then 1 else 0) → Q (.inl none) σ') : ∀ (rs p : List Int) (σ : MS), HyC σ P X l r → X.getD k [] = p ++ rs → FrD σ0 σ → (∀ m, m < 40 → mV σ 126 (m + 1) = if exH p m 0 = true then 1 else 0) → Filler_layException_14 (k : Int) ((exL p).length : Int) ((suM (X.take k) + p.length : Nat) : Int) σ Q
  | [], p, σ, hR, he, hf, hd => by
    obtain ⟨a1, a2, a3⟩ := sh_at (L := X) hk
    have s9 := hb.sX
    have k60 := hb.2.2.2.1
    have e47 : mX σ 47 = enS 0 X := hR.2.1.2
    rw [List.append_nil] at he
    rw [he] at a1 a3 hq
    refine Filler_layException_14.i ⟨by unfold Rg; omega, ?_⟩
    rw [e47, a1]
    exact ⟨by unfold Rg; omega, fun _ => hq σ hf hd, fun h9 => absurd h9 (by omega)⟩
  | c :: rs, p, σ, hR, he, hf, hd => by
    obtain ⟨a1, a2, a3⟩ := sh_at (L := X) hk
    have s9 := hb.sX
    have k60 := hb.2.2.2.1
    have e47 : mX σ 47 = enS 0 X := hR.2.1.2
    have e45 : mX σ 45 = X.flatten := hR.2.1.1
    have hlen : (X.getD k []).length = p.length + 1 + rs.length := by rw [he, List.length_append, List.length_cons]; omega
    have h24 := (hb.2.2.2.2.1.at k).1
    have hpl : (exL p).length ≤ p.length := List.length_filter_le _ _
    have hf9 := fl_at (L := X) hk (i := p.length) (by omega)
    have hx : rgt (mX σ 45) ((suM (X.take k) + p.length : Nat) : Int) = c := by
      rw [e45, rgt_n (by rw [flat_len]; omega), hf9, he, List.getD_eq_getElem?_getD, List.getElem?_append_right (Nat.le_refl _), Nat.sub_self]
      rfl
    have he2 : X.getD k [] = (p ++ [c]) ++ rs := by rw [he, List.append_assoc]; rfl
    have l1 : (p ++ [c]).length = p.length + 1 := by rw [List.length_append, List.length_singleton]
    refine Filler_layException_14.i ⟨by unfold Rg; omega, ?_⟩
    rw [e47, a1, hx]
    refine ⟨by unfold Rg; omega, fun h9 => absurd h9 (by omega), fun _ => ⟨by unfold Rg; omega, fun c45 => ⟨by unfold Rg; omega, fun h9 => absurd h9 (by omega), fun h9 => ⟨by omega, by omega, Filler_layException_69.i ?_⟩⟩, fun c45 => Filler_layException_69.i ?_⟩⟩
    · rw [show ((suM (X.take k) + p.length : Nat) : Int) + 1 = ((suM (X.take k) + (p ++ [c]).length : Nat) : Int) by rw [l1]; omega, show (((exL p).length : Int) + 1).toNat = (exL p).length + 1 by omega]
      have e : (exL (p ++ [c])).length = (exL p).length := by rw [exL_app, c45, exL_d, List.append_nil]
      have := layEx_14 hb hk hq rs (p ++ [c]) (wV σ 126 ((exL p).length + 1) 1) (hR.d FrD.w) he2 (hf.tr FrD.w) (fun m hm => ?_)
      · rw [e] at this
        exact this
      · rw [exH_app, c45]
        have e9 : exH [45] m (0 + (exL p).length) = decide ((exL p).length = m) := by
          show (decide (0 + (exL p).length = m) || false) = _
          rw [Bool.or_false, Nat.zero_add]
        rw [e9]
        by_cases h8 : m = (exL p).length
        · subst h8
          rw [wV_self, decide_eq_true rfl, Bool.or_true, if_pos rfl]
        · rw [wV_ne (Or.inr (by omega)), decide_eq_false (fun h7 => h8 h7.symm), Bool.or_false]
          exact hd m hm
    · rw [show ((suM (X.take k) + p.length : Nat) : Int) + 1 = ((suM (X.take k) + (p ++ [c]).length : Nat) : Int) by rw [l1]; omega]
      have e : (exL (p ++ [c])).length = (exL p).length + 1 := by rw [exL_app, exL_c c45, List.length_append, List.length_singleton]
      have := layEx_14 hb hk hq rs (p ++ [c]) σ hR he2 hf (fun m hm => ?_)
      · rw [e] at this
        exact this
      · rw [exH_app]
        have e9 : exH [c] m (0 + (exL p).length) = false := by
          unfold exH
          rw [if_neg c45]
          rfl
        rw [e9, Bool.or_false]
        exact hd m hm
end
