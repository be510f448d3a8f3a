/-! hyphens: BOTH ANSWER ALIKE -/
def hyO (f : Nat → Bool) : List Int → Nat → List Int
  | [], _ => []
  | c :: r, i => (if f i = true then [45] else []) ++ c :: hyO f r (i + 1)
def hyF (P X : List (List Int)) (l r : Int) (L : List Int) (i : Nat) : Bool := decide (1 ≤ i) && hyK P X l r (L.map lowS) i
theorem hyO_len {f : Nat → Bool} : ∀ {L : List Int} {i : Nat}, L.length ≤ (hyO f L i).length ∧ (hyO f L i).length ≤ 2 * L.length
  | [], i => ⟨Nat.le_refl _, Nat.le_refl _⟩
  | c :: r, i => by
    have := hyO_len (f := f) (L := r) (i := i + 1)
    show (c :: r).length ≤ ((if f i = true then [45] else []) ++ c :: hyO f r (i + 1)).length ∧ ((if f i = true then [45] else []) ++ c :: hyO f r (i + 1)).length ≤ 2 * (c :: r).length
    rw [List.length_append, List.length_cons, List.length_cons]
    split
    · rw [List.length_singleton]
      omega
    · rw [List.length_nil]
      omega
theorem hyO_app {f : Nat → Bool} : ∀ {L M : List Int} {i : Nat}, hyO f (L ++ M) i = hyO f L i ++ hyO f M (i + L.length)
  | [], M, i => rfl
  | c :: r, M, i => by
    show (if f i = true then [45] else []) ++ c :: hyO f (r ++ M) (i + 1) = ((if f i = true then [45] else []) ++ c :: hyO f r (i + 1)) ++ hyO f M (i + (r.length + 1))
    rw [hyO_app, List.append_assoc, List.cons_append, show i + 1 + r.length = i + (r.length + 1) by omega]
section
variable {σ σ0 σ1 : MS} {Q : MQ9} {P X : List (List Int)} {l r : Int} {L : List Int}
theorem hyC_31 (hL : mX σ 1 = L) (hl : L.length ≤ 4000) (hb : smB L) (hq1 : L.all sLe = true → T_hyphens_64 1 σ Q) (hq0 : L.all sLe = false → T_hyphens_64 0 σ Q) : T_hyphens_31 1 0 σ Q := by
  have ea : allR (fun i => sLe (L.getD i 0)) L.length = L.all sLe := by
    rw [Bool.eq_iff_iff, allR_i, List.all_eq_true]
    constructor
    · intro h x hx
      obtain ⟨i, hi, rfl⟩ := List.getElem_of_mem hx
      have := h i hi
      rw [List.getD_eq_getElem?_getD, List.getElem?_eq_getElem hi] at this
      exact this
    · intro h i hi
      rw [List.getD_eq_getElem?_getD, List.getElem?_eq_getElem hi]
      exact h _ (List.getElem_mem hi)
  refine loopIs (P := fun is i => T_hyphens_31 is i σ Q) (f := fun i => sLe (L.getD i 0)) (n := L.length) (fun i hi k9 => ?_) (fun e => ?_) (fun e i hi => ?_)
  · have hx := hb.gd hi
    refine T_hyphens_31.i ⟨by unfold Rg; omega, fun h9 => absurd h9 (by rw [hL]; omega), fun _ => ⟨fun h9 => absurd h9 (by decide), fun _ => ⟨by unfold Rg; omega, ?_⟩⟩⟩
    rw [hL, rgt_n hi]
    exact T_isLetter.s (by unfold Rg; omega) k9
  · rw [ea] at e
    exact T_hyphens_31.i ⟨by unfold Rg; omega, fun _ => hq1 e, fun h9 => absurd h9 (by rw [hL]; omega)⟩
  · rw [ea] at e
    exact T_hyphens_31.i ⟨by unfold Rg; omega, fun _ => hq0 e, fun _ => ⟨fun _ => hq0 e, fun h9 => absurd rfl h9⟩⟩
theorem hyC_105 (hl : L.length ≤ 40) (hq : ∀ σ', σ' = wX (wX σ 5 (hyO (hyF P X l r L) L 0)) 1 [] → Q (.inl (some (((hyO (hyF P X l r L) L 0).length : Int) - (L.length : Int)))) σ') (hL : mX σ 1 = L) (hd : DgC σ P X l r (L.map lowS)) : ∀ (rs p : List Int), L = p ++ rs → T_hyphens_105 (p.length : Int) (wX σ 5 (hyO (hyF P X l r L) p 0)) Q
  | [], p, he => by
    rw [List.append_nil] at he
    have x1 : mX (wX σ 5 (hyO (hyF P X l r L) p 0)) 1 = L := by rw [wX_ne (by decide)]; exact hL
    have hl2 := hyO_len (f := hyF P X l r L) (L := L) (i := 0)
    have hp := congrArg List.length he
    refine T_hyphens_105.i ⟨by unfold Rg; omega, fun _ => ?_, fun h9 => absurd h9 (by rw [x1]; omega)⟩
    rw [x1, wX_self, ← he]
    exact ⟨by unfold Rg; omega, hq _ rfl⟩
  | c :: rs, p, he => by
    have x1 : mX (wX σ 5 (hyO (hyF P X l r L) p 0)) 1 = L := by rw [wX_ne (by decide)]; exact hL
    have hlen : L.length = p.length + 1 + rs.length := by rw [he, List.length_append, List.length_cons]; omega
    have hl2 := hyO_len (f := hyF P X l r L) (L := p) (i := 0)
    have hx : rgt L (p.length : Int) = c := rgt_at he
    have lm : (L.map lowS).length = L.length := List.length_map ..
    have nx := hyC_105 hl hq hL hd rs (p ++ [c]) (by rw [he, List.append_assoc]; rfl)
    rw [List.length_append, List.length_singleton] at nx
    have eo : hyO (hyF P X l r L) (p ++ [c]) 0 = hyO (hyF P X l r L) p 0 ++ ((if hyF P X l r L p.length = true then [45] else []) ++ [c]) := by
      rw [hyO_app, Nat.zero_add]
      rfl
    rw [eo] at nx
    have c136 : ∀ Z : List Int, Z.length ≤ 100 → T_hyphens_105 ((p.length + 1 : Nat) : Int) (wX σ 5 (Z ++ [c])) Q → T_hyphens_136 (p.length : Int) (wX σ 5 Z) Q := by
      intro Z hZ h9
      have x2 : mX (wX σ 5 Z) 1 = L := by rw [wX_ne (by decide)]; exact hL
      refine T_hyphens_136.i ⟨by unfold Rg; omega, by rw [wX_self]; omega, ?_⟩
      rw [x2, hx, wX_self, wX_wX, show (p.length : Int) + 1 = ((p.length + 1 : Nat) : Int) by omega]
      exact h9
    refine T_hyphens_105.i ⟨by unfold Rg; omega, fun h9 => absurd h9 (by rw [x1]; omega), fun _ => ?_⟩
    refine Filler_parts.c (P := P) (X := X) (l := l) (r := r) (U := L.map lowS) (by omega) (by omega) hd ⟨fun h9 => ?_, fun h9 => ?_⟩
    · have h8 : hyF P X l r L p.length = false := bZ_z h9
      rw [h8, if_neg (by decide), List.nil_append] at nx
      exact c136 _ (by omega) nx
    · have h8 : hyF P X l r L p.length = true := bZ_ne h9
      rw [h8, if_pos rfl, ← List.append_assoc] at nx
      refine ⟨by rw [wX_self]; omega, ?_⟩
      rw [wX_self, wX_wX]
      exact c136 _ (by rw [List.length_append, List.length_singleton]; omega) nx
def FrHc (σ σ' : MS) : Prop := (∀ q, q ∉ [1, 5] → mX σ' q = mX σ q) ∧ σ'.2.2 = σ.2.2 ∧ ∀ z k, z ≠ 126 → ¬ (z = 111 ∧ k = 12) → mV σ' z k = mV σ z k
def goodH (L : List Int) : Bool := decide (1 ≤ L.length ∧ L.length ≤ 40) && L.all sLe
theorem T_hyphens.c (hb : HyB P X l r) (hR : HyC σ P X l r) (hL : mX σ 1 = L) (hl : L.length ≤ 4000) (hs : smB L) (h0 : goodH L = false → ∀ σ', FrHc σ σ' → mX σ' 1 = [] → mX σ' 5 = mX σ 5 → Q (.inl (some (-1))) σ') (h1 : goodH L = true → ∀ σ', FrHc σ σ' → mX σ' 1 = [] → mX σ' 5 = hyO (hyF P X l r L) L 0 → Q (.inl (some (((hyO (hyF P X l r L) L 0).length : Int) - (L.length : Int)))) σ') : T_hyphens σ Q := by
  have no : goodH L = false → T_hyphens_64 0 σ Q := fun h9 => T_hyphens_64.i ⟨fun h8 => absurd rfl h8, fun _ => h0 h9 _ ⟨fun q hq => wX_ne (fun e => hq (by rw [e]; decide)), rfl, fun _ _ _ _ => rfl⟩ wX_self (wX_ne (by decide))⟩
  have n27 : goodH L = false → T_hyphens_27 σ Q := fun h9 => T_hyphens_27.i (T_hyphens_28.i (T_hyphens_31.i ⟨by decide, fun _ => no h9, fun _ => ⟨fun _ => no h9, fun h8 => absurd rfl h8⟩⟩))
  refine T_hyphens.i ?_
  rw [hL]
  refine ⟨fun h9 => n27 ?_, fun h9 => ⟨fun h8 => n27 ?_, fun h8 => T_hyphens_28.i (hyC_31 hL hl hs (fun e => ?_) (fun e => no ?_))⟩⟩
  · unfold goodH
    rw [decide_eq_false (by omega), Bool.false_and]
  · unfold goodH
    rw [decide_eq_false (by omega), Bool.false_and]
  · have hg : goodH L = true := by
      unfold goodH
      rw [decide_eq_true (by omega), e]
      rfl
    have lm : (L.map lowS).length = L.length := List.length_map ..
    have hLt : LtC σ 1 0 (L.map lowS) := ⟨by decide +kernel, by omega, fun i hi => by
      rw [lm] at hi
      have hx := hs.gd hi
      rw [hL, Nat.zero_add, rgt_n hi, List.getD_eq_getElem?_getD (l := L.map lowS), List.getElem?_map, List.getElem?_eq_getElem hi]
      show lowS (L.getD i 0 % 128) = lowS L[i]
      rw [show L.getD i 0 % 128 = L.getD i 0 by omega, List.getD_eq_getElem?_getD, List.getElem?_eq_getElem hi]
      rfl⟩
    refine T_hyphens_64.i ⟨fun _ => ?_, fun h7 => absurd h7 (by decide)⟩
    rw [hL, show ((L.length : Nat) : Int) = ((0 + (L.map lowS).length : Nat) : Int) by rw [lm]; omega]
    refine Filler_partLetters.c (fr := 0) hb (by omega) hR hLt (fun σ1 f1 _ d1 => ?_)
    have hL1 : mX σ1 1 = L := by rw [f1.1]; exact hL
    refine hyC_105 (L := L) (P := P) (X := X) (l := l) (r := r) (by omega) (fun σ' e' => h1 hg σ' ?_ ?_ ?_) hL1 d1 L [] rfl
    · subst e'
      exact ⟨fun q hq => by rw [wX_ne (fun e => hq (by rw [e]; decide)), wX_ne (fun e => hq (by rw [e]; decide)), f1.1], f1.2.1, f1.2.2⟩
    · rw [e']
      exact wX_self
    · rw [e', wX_ne (by decide), wX_self]
  · unfold goodH
    rw [e, Bool.and_false]
theorem hyR_34 {n : Int} (hn : n = (L.length : Int)) (h7 : hol σ 247 L) (hl : L.length ≤ 4000) (hb : smB L) (hq1 : L.all sLe = true → R_hyphens_59 n 1 σ Q) (hq0 : L.all sLe = false → R_hyphens_59 n 0 σ Q) : R_hyphens_34 n 1 0 σ Q := by
  subst hn
  have ea : allR (fun i => sLe (L.getD i 0)) L.length = L.all sLe := by
    rw [Bool.eq_iff_iff, allR_i, List.all_eq_true]
    constructor
    · intro h x hx
      obtain ⟨i, hi, rfl⟩ := List.getElem_of_mem hx
      have := h i hi
      rw [List.getD_eq_getElem?_getD, List.getElem?_eq_getElem hi] at this
      exact this
    · intro h i hi
      rw [List.getD_eq_getElem?_getD, List.getElem?_eq_getElem hi]
      exact h _ (List.getElem_mem hi)
  refine loopIs (P := fun is i => R_hyphens_34 (L.length : Int) is i σ Q) (f := fun i => sLe (L.getD i 0)) (n := L.length) (fun i hi k9 => ?_) (fun e => ?_) (fun e i hi => ?_)
  · have hx := hb.gd hi
    refine R_hyphens_34.i ⟨by unfold Rg; omega, fun h9 => absurd h9 (by omega), fun _ => ⟨fun h9 => absurd h9 (by decide), fun _ => ⟨by omega, by omega, ?_⟩⟩⟩
    rw [Int.toNat_natCast, h7 i hi]
    exact R_isLetter.s (by unfold Rg; omega) k9
  · rw [ea] at e
    exact R_hyphens_34.i ⟨by unfold Rg; omega, fun _ => hq1 e, fun h9 => absurd h9 (by omega)⟩
  · rw [ea] at e
    exact R_hyphens_34.i ⟨by unfold Rg; omega, fun _ => hq0 e, fun _ => ⟨fun _ => hq0 e, fun h9 => absurd rfl h9⟩⟩
theorem hyR_67 (h7 : hol σ0 247 L) (hl : L.length ≤ 40) (hb : smB L) (hq : ∀ σ', FrZ [254, 256] [] σ0 σ' → (∀ j, j < L.length → mV σ' 254 j = L.getD j 0 ∧ mV σ' 256 j = 0) → R_hyphens_67 (L.length : Int) (L.length : Int) σ' Q) : ∀ (m k : Nat) (σ : MS), k + m = L.length → FrZ [254, 256] [] σ0 σ → (∀ j, j < k → mV σ 254 j = L.getD j 0 ∧ mV σ 256 j = 0) → R_hyphens_67 (L.length : Int) (k : Int) σ Q := by
  intro m
  induction m with
  | zero =>
    intro k σ hk hf h
    have e : k = L.length := by omega
    subst e
    exact hq σ hf h
  | succ m ih =>
    intro k σ hk hf h
    have hlt : k < L.length := by omega
    refine R_hyphens_67.i ⟨by unfold Rg; omega, fun h9 => absurd h9 (by omega), fun _ => ⟨by omega, by omega, by omega, by omega, by omega, by omega, ?_⟩⟩
    rw [Int.toNat_natCast, hf.z (by decide) (by decide), h7 k hlt, hb.at hlt, show (k : Int) + 1 = ((k + 1 : Nat) : Int) by omega]
    refine ih (k + 1) _ (by omega) ((hf.tr (FrZ.wz (by decide))).tr (FrZ.wz (by decide))) (fun j hj => ?_)
    by_cases e : j = k
    · subst e
      rw [wV_ne (Or.inl (by decide)), wV_self, wV_self]
      exact ⟨rfl, by decide⟩
    · rw [wV_ne (Or.inl (by decide)), wV_ne (Or.inr e), wV_ne (Or.inr e), wV_ne (Or.inl (by decide))]
      exact h j (by omega)
theorem hyR_125 {f : Nat → Bool} (h7 : hol σ0 247 L) (hl : L.length ≤ 40) (hb : smB L) (hp : ∀ k, 0 < k → k < L.length → (mV σ0 256 k = 2 ↔ f k = true)) (hf0 : f 0 = false) (hq : ∀ σ', FrZ [336] [141] σ0 σ' → mV σ' 246 141 = ((hyO f L 0).length : Int) → hol σ' 336 (hyO f L 0) → Q (.inl (some (((hyO f L 0).length : Int) - (L.length : Int)))) σ') : ∀ (rs p : List Int) (σ : MS), L = p ++ rs → FrZ [336] [141] σ0 σ → mV σ 246 141 = ((hyO f p 0).length : Int) → hol σ 336 (hyO f p 0) → R_hyphens_125 (L.length : Int) (((hyO f p 0).length : Int) - (p.length : Int)) (p.length : Int) σ Q
  | [], p, σ, he, hf, h1, h2 => by
    rw [List.append_nil] at he
    subst he
    have hl2 := hyO_len (f := f) (L := L) (i := 0)
    exact R_hyphens_125.i ⟨by unfold Rg; omega, fun _ => ⟨by unfold Rg; omega, hq σ hf h1 h2⟩, fun h9 => absurd h9 (by omega)⟩
  | c :: rs, p, σ, he, hf, h1, h2 => by
    have hlen : L.length = p.length + 1 + rs.length := by rw [he, List.length_append, List.length_cons]; omega
    have hl2 := hyO_len (f := f) (L := p) (i := 0)
    have hcb : 0 ≤ c ∧ c ≤ 127 := hb c (by rw [he]; simp)
    have hc : L.getD p.length 0 = c := by
      rw [he, List.getD_eq_getElem?_getD, List.getElem?_append_right (Nat.le_refl _), Nat.sub_self]
      rfl
    have eo : hyO f (p ++ [c]) 0 = hyO f p 0 ++ ((if f p.length = true then [45] else []) ++ [c]) := by
      rw [hyO_app, Nat.zero_add]
      rfl
    have lp : (p ++ [c]).length = p.length + 1 := by rw [List.length_append, List.length_singleton]
    have c171 : ∀ (Z : List Int) (σ2 : MS), Z.length ≤ 100 → hyO f (p ++ [c]) 0 = Z ++ [c] → FrZ [336] [141] σ0 σ2 → mV σ2 246 141 = (Z.length : Int) → hol σ2 336 Z → R_hyphens_171 (L.length : Int) ((Z.length : Int) - (p.length : Int)) (p.length : Int) σ2 Q := by
      intro Z σ2 hZ ez f2 g1 g2
      have v7 : mV σ2 247 p.length = c := by
        rw [f2.z (by decide) (by decide), h7 p.length (by omega)]
        exact hc
      refine R_hyphens_171.i ⟨by omega, by omega, ?_⟩
      rw [g1, Int.toNat_natCast, Int.toNat_natCast, v7, b8_id (by omega), show (p.length : Int) + 1 = ((p ++ [c]).length : Int) by rw [lp]; omega]
      refine ⟨by omega, by omega, by unfold Rg; omega, ?_⟩
      have lz : (hyO f (p ++ [c]) 0).length = Z.length + 1 := by rw [ez, List.length_append, List.length_singleton]
      have := hyR_125 h7 hl hb hp hf0 hq rs (p ++ [c]) (wV (wV σ2 336 Z.length c) 246 141 ((Z.length : Int) + 1)) (by rw [he, List.append_assoc]; rfl) ((f2.tr (FrZ.wz (by decide))).tr (FrZ.wf (by decide))) (by rw [wV_self, lz]; omega) (fun i hi => ?_)
      · rw [lz, lp] at this
        rw [show ((Z.length + 1 : Nat) : Int) - ((p.length + 1 : Nat) : Int) = (Z.length : Int) - (p.length : Int) by omega] at this
        rw [lp]
        exact this
      · rw [wV_ne (Or.inl (by decide))]
        rw [ez] at hi ⊢
        exact g2.sn i hi
    refine R_hyphens_125.i ⟨by unfold Rg; omega, fun h9 => absurd h9 (by omega), fun _ => ⟨by unfold Rg; omega, fun h9 => ?_, fun h9 => ⟨by omega, by omega, ?_⟩⟩⟩
    · have e0 : p.length = 0 := by omega
      refine c171 (hyO f p 0) σ (by omega) ?_ hf h1 h2
      rw [eo, e0, hf0, if_neg (by decide), List.nil_append]
    · have hpp := hp p.length (by omega) (by omega)
      rw [Int.toNat_natCast, hf.z (by decide) (by decide), h1, Int.toNat_natCast]
      refine ⟨fun h8 => c171 (hyO f p 0) σ (by omega) ?_ hf h1 h2, fun h8 => ⟨by omega, by omega, by unfold Rg; omega, ?_⟩⟩
      · rw [eo, if_neg (fun h7 => h8 (hpp.mpr h7)), List.nil_append]
      · have := c171 (hyO f p 0 ++ [45]) (wV (wV σ 336 (hyO f p 0).length (b8 45)) 246 141 (((hyO f p 0).length : Int) + 1)) (by rw [List.length_append, List.length_singleton]; omega) (by rw [eo, if_pos (hpp.mp h8), List.append_assoc]) ((hf.tr (FrZ.wz (by decide))).tr (FrZ.wf (by decide))) (by rw [wV_self, List.length_append, List.length_singleton]; omega) (fun i hi => ?_)
        · rw [List.length_append, List.length_singleton] at this
          rw [show (((hyO f p 0).length + 1 : Nat) : Int) - (p.length : Int) = ((hyO f p 0).length : Int) - (p.length : Int) + 1 by omega] at this
          exact this
        · rw [wV_ne (Or.inl (by decide)), show b8 45 = 45 by decide]
          exact h2.sn i hi
theorem R_hyphens.p (hb : HyB P X l r) (hR : HyR σ P X l r) (h6 : mV σ 246 6 = (L.length : Int)) (h7 : hol σ 247 L) (hl : L.length ≤ 4000) (hs : smB L) (h0 : goodH L = false → Q (.inl (some (-1))) (wV (wV σ 246 0 0) 246 6 0)) (h1 : goodH L = true → ∀ σ', FrZ [254, 256, 336, 348] [0, 6, 141] σ σ' → mV σ' 246 6 = 0 → mV σ' 246 141 = ((hyO (hyF P X l r L) L 0).length : Int) → hol σ' 336 (hyO (hyF P X l r L) L 0) → Q (.inl (some (((hyO (hyF P X l r L) L 0).length : Int) - (L.length : Int)))) σ') : R_hyphens σ Q := by
  generalize hσ1 : wV (wV σ 246 0 0) 246 6 0 = σ1 at h0
  have f1 : FrZ [] [0, 6] σ σ1 := by rw [← hσ1]; exact (FrZ.wf (by decide)).tr (FrZ.wf (by decide))
  have no : goodH L = false → R_hyphens_59 (L.length : Int) 0 σ1 Q := fun h9 => R_hyphens_59.i ⟨fun h8 => absurd rfl h8, fun _ => h0 h9⟩
  have n30 : goodH L = false → R_hyphens_30 (L.length : Int) σ1 Q := fun h9 => R_hyphens_30.i (R_hyphens_31.i (R_hyphens_34.i ⟨by decide, fun _ => no h9, fun _ => ⟨fun _ => no h9, fun h8 => absurd rfl h8⟩⟩))
  have h71 : hol σ1 247 L := fun i hi => by rw [f1.z (by decide) (by decide)]; exact h7 i hi
  refine R_hyphens.i ?_
  rw [h6, hσ1]
  refine ⟨fun h9 => n30 ?_, fun h9 => ⟨fun h8 => n30 ?_, fun h8 => R_hyphens_31.i (hyR_34 rfl h71 hl hs (fun e => ?_) (fun e => no ?_))⟩⟩
  · unfold goodH
    rw [decide_eq_false (by omega), Bool.false_and]
  · unfold goodH
    rw [decide_eq_false (by omega), Bool.false_and]
  · have hg : goodH L = true := by
      unfold goodH
      rw [decide_eq_true (by omega), e]
      rfl
    have lm : (L.map lowS).length = L.length := List.length_map ..
    refine R_hyphens_59.i ⟨fun _ => ?_, fun h7 => absurd h7 (by decide)⟩
    refine hyR_67 (σ0 := σ1) h71 (by omega) hs (fun σ2 f2 v2 => ?_) L.length 0 σ1 (by omega) FrZ.rf (fun j hj => absurd hj (Nat.not_lt_zero _))
    have f12 : FrZ [254, 256] [0, 6] σ σ2 := (f1.mo (by decide) (by decide)).tr (f2.mo (by decide) (by decide))
    have hR1 : HyR σ1 P X l r := by
      obtain ⟨⟨a1, a2⟩, ⟨b1, b2⟩, c1, c2⟩ := hR
      refine ⟨⟨(f1.f (by decide) (by decide)).trans a1, fun p hp => ?_⟩, ⟨(f1.f (by decide) (by decide)).trans b1, fun x hx => ?_⟩, (f1.z (by decide) (by decide)).trans c1, (f1.z (by decide) (by decide)).trans c2⟩
      · obtain ⟨d1, d2, d3⟩ := a2 p hp
        exact ⟨(f1.z (by decide) (by decide)).trans d1, d2.cg (fun k _ _ => f1.z (by decide) (by decide)), fun k hk => (f1.z (by decide) (by decide)).trans (d3 k hk)⟩
      · obtain ⟨d1, d2, d3⟩ := b2 x hx
        exact ⟨(f1.z (by decide) (by decide)).trans d1, d2.cg (fun k _ _ => f1.z (by decide) (by decide)), fun k hk => by rw [f1.z (by decide) (by decide)]; exact d3 k hk⟩
    have hR2 : HyR σ2 P X l r := hR1.z f2 (by decide)
    have hLt : LtR σ2 0 (L.map lowS) := ⟨by omega, fun i hi => by
      rw [lm] at hi
      have hx := hs.gd hi
      rw [Nat.zero_add, (v2 i hi).1, List.getD_eq_getElem?_getD (l := L.map lowS), List.getElem?_map, List.getElem?_eq_getElem hi]
      show lowS (L.getD i 0 % 256) = lowS L[i]
      rw [show L.getD i 0 % 256 = L.getD i 0 by omega, List.getD_eq_getElem?_getD, List.getElem?_eq_getElem hi]
      rfl⟩
    refine R_hyphens_67.i ⟨by unfold Rg; omega, fun _ => ⟨by decide, by decide, by decide, by decide, ?_⟩, fun h9 => absurd h9 (by omega)⟩
    rw [hR2.2.2.1, hR2.2.2.2]
    have := R_letters.p (Q := kV (thQ Q) fun σ1 => R_hyphens_125 (L.length : Int) 0 0 (wV σ1 246 141 0) Q) (fr := 0) hb (by omega) (by omega) hR2 hLt (fun σ3 p3 => ?_)
    · rw [lm] at this
      exact this
    · obtain ⟨f3, g3, -⟩ := p3
      have f14 : FrZ [254, 256, 348] [0, 6, 141] σ (wV σ3 246 141 0) := ((f12.mo (by decide) (by decide)).tr (f3.mo (by decide) (by decide))).tr (FrZ.wf (by decide))
      refine hyR_125 (σ0 := wV σ3 246 141 0) (f := hyF P X l r L) (fun i hi => ?_) (by omega) hs (fun k k1 k2 => ?_) rfl (fun σ' f' y1 y2 => h1 hg σ' ((f14.mo (by decide) (by decide)).tr (f'.mo (by decide) (by decide))) ?_ y1 y2) L [] (wV σ3 246 141 0) rfl FrZ.rf wV_self (fun i hi => absurd hi (Nat.not_lt_zero _))
      · rw [f14.z (by decide) (by decide)]
        exact h7 i hi
      · have h9 := g3 k k1 (by omega)
        rw [Nat.zero_add] at h9
        rw [wV_ne (Or.inl (by decide)), h9, (v2 k k2).2]
        unfold hyF
        rw [decide_eq_true (show 1 ≤ k from k1), Bool.true_and]
        by_cases h8 : hyK P X l r (L.map lowS) k = true
        · rw [if_pos h8]
          exact ⟨fun _ => h8, fun _ => rfl⟩
        · rw [if_neg h8]
          exact ⟨fun h7 => absurd h7 (by decide), fun h7 => absurd h7 h8⟩
      · rw [f'.f (by decide) (by decide), wV_ne (Or.inr (by decide)), f3.f (by decide) (by decide), f2.f (by decide) (by decide), ← hσ1, wV_self]
  · unfold goodH
    rw [e, Bool.and_false]
/-- rules to part letters, at rest -/
def HyP (σ : MS) : Prop := ∃ P X l r, HyB P X l r ∧ HyC σ P X l r ∧ HyR σ P X l r
/-- what hyphens leaves -/
def FrHy (σ σ' : MS) : Prop := (∀ q, q ∉ [1, 5] → mX σ' q = mX σ q) ∧ mB σ' = mB σ ∧ ∀ z k, z ∉ [126, 254, 256, 336, 348] → ¬ (z = 111 ∧ k = 12) → ¬ (z = 246 ∧ k ∈ [0, 6, 141]) → mV σ' z k = mV σ z k
theorem hyphens_b {th th' : String → MS → Prop} (h : MemR σ) (hp : HyP σ) (an : AnR σ) (hq : ∀ v σ', MemR σ' → HyP σ' → AnR σ' → FrHy σ σ' → Q (.inl (some v)) σ') : T_hyphens σ (kI th fun v σ1 => R_hyphens σ1 (kI th' fun v' σ2 => v' = v ∧ Q (.inl (some v)) σ2)) := by
  obtain ⟨⟨p1, p2, p3, p4⟩, ⟨m1, m2, m3, m4⟩, ⟨t9, c9, hP⟩, e1, e2, e3⟩ := id h
  obtain ⟨P, X, l, r, hb, hC, hR⟩ := hp
  have fin : ∀ (σ1 σ2 : MS), FrHc σ σ1 → mX σ1 1 = [] → FrZ [254, 256, 336, 348] [0, 6, 141] σ1 σ2 → mV σ2 246 6 = 0 → MemR σ2 ∧ HyP σ2 ∧ FrHy σ σ2 := by
    intro σ1 σ2 f1 x1 f2 y6
    have fr : ∀ z k, z ∉ [126, 254, 256, 336, 348] → ¬ (z = 111 ∧ k = 12) → ¬ (z = 246 ∧ k ∈ [0, 6, 141]) → mV σ2 z k = mV σ z k := fun z k a b c => by
      simp only [List.mem_cons, List.not_mem_nil, or_false, not_or] at a c
      rw [f2.2.2 z k (by simp only [List.mem_cons, List.not_mem_nil, or_false, not_or]; exact ⟨a.2.1, a.2.2.1, a.2.2.2.1, a.2.2.2.2⟩) (by
        simp only [List.mem_cons, List.not_mem_nil, or_false]
        omega)]
      exact f1.2.2 z k a.1 b
    have fX : mX σ2 = mX σ1 := f2.1
    have xx : ∀ q, q ∉ [1, 5] → mX σ2 q = mX σ q := fun q hq => by rw [fX]; exact f1.1 q hq
    refine ⟨⟨⟨?_, ?_, ?_, ?_⟩, ⟨?_, ?_, ?_, ?_⟩, ⟨t9, c9, ?_⟩, ?_, ?_, ?_⟩, ⟨P, X, l, r, hb, ?_, ?_⟩, xx, f2.2.1.trans (congrArg Prod.fst f1.2.1), fr⟩
    · rw [y6, fX, x1]
      rfl
    · rw [fX, x1]
      exact fun i hi => absurd hi (Nat.not_lt_zero _)
    · rw [fX, x1]
      exact Nat.zero_le _
    · rw [fX, x1]
      exact smB.nil
    · rw [fr 246 7 (by decide) (by decide) (by decide), xx 3 (by decide)]
      exact m1
    · rw [xx 3 (by decide)]
      exact fun i hi => by rw [fr 248 i (by decide) (by omega) (by omega)]; exact m2 i hi
    · rw [xx 3 (by decide)]
      exact m3
    · rw [xx 3 (by decide)]
      exact m4
    · refine hP.cg (fun j hj => ?_) (fun k => fr 251 k (by decide) (by omega) (by omega)) (fun k => fr 250 k (by decide) (by omega) (by omega)) (fr 246 8 (by decide) (by decide) (by decide)) (fr 0 6 (by decide) (by decide) (by decide)) (fr 0 5 (by decide) (by decide) (by decide))
      exact xx _ (by simp only [List.mem_cons, List.not_mem_nil, or_false]; omega)
    · rw [fr 22 1 (by decide) (by decide) (by decide), fr 246 33 (by decide) (by decide) (by decide)]
      exact e1
    · rw [fr 22 1 (by decide) (by decide) (by decide)]
      exact e2
    · rw [fr 22 1 (by decide) (by decide) (by decide)]
      exact e3
    · obtain ⟨a1, a2, a3, a4⟩ := hC
      exact ⟨⟨by rw [xx _ (by decide)]; exact a1.1, by rw [xx _ (by decide)]; exact a1.2⟩, ⟨by rw [xx _ (by decide)]; exact a2.1, by rw [xx _ (by decide)]; exact a2.2⟩, by rw [fr 24 4 (by decide) (by decide) (by decide)]; exact a3, by rw [fr 24 5 (by decide) (by decide) (by decide)]; exact a4⟩
    · obtain ⟨⟨a1, a2⟩, ⟨b1, b2⟩, c1, c2⟩ := hR
      refine ⟨⟨(fr 246 47 (by decide) (by decide) (by decide)).trans a1, fun p hp => ?_⟩, ⟨(fr 246 48 (by decide) (by decide) (by decide)).trans b1, fun x hx => ?_⟩, (fr 275 4 (by decide) (by decide) (by decide)).trans c1, (fr 275 5 (by decide) (by decide) (by decide)).trans c2⟩
      · obtain ⟨d1, d2, d3⟩ := a2 p hp
        exact ⟨(fr 271 p (by decide) (by omega) (by omega)).trans d1, d2.cg (fun k _ _ => fr 269 k (by decide) (by omega) (by omega)), fun k hk => (fr 270 _ (by decide) (by omega) (by omega)).trans (d3 k hk)⟩
      · obtain ⟨d1, d2, d3⟩ := b2 x hx
        exact ⟨(fr 274 x (by decide) (by omega) (by omega)).trans d1, d2.cg (fun k _ _ => fr 272 k (by decide) (by omega) (by omega)), fun k hk => by rw [fr 273 _ (by decide) (by omega) (by omega)]; exact d3 k hk⟩
  have gz : ∀ σ1 : MS, FrHc σ σ1 → ∀ z k, 242 ≤ z → mV σ1 z k = mV σ z k := fun σ1 f1 z k hz => f1.2.2 z k (by omega) (by omega)
  have hRz : ∀ σ1 : MS, FrHc σ σ1 → HyR σ1 P X l r := fun σ1 f1 => by
    have g := gz σ1 f1
    obtain ⟨⟨a1, a2⟩, ⟨b1, b2⟩, c1, c2⟩ := hR
    refine ⟨⟨(g _ _ (by decide)).trans a1, fun p hp => ?_⟩, ⟨(g _ _ (by decide)).trans b1, fun x hx => ?_⟩, (g _ _ (by decide)).trans c1, (g _ _ (by decide)).trans c2⟩
    · obtain ⟨d1, d2, d3⟩ := a2 p hp
      exact ⟨(g _ _ (by decide)).trans d1, d2.cg (fun k _ _ => g _ _ (by decide)), fun k hk => (g _ _ (by decide)).trans (d3 k hk)⟩
    · obtain ⟨d1, d2, d3⟩ := b2 x hx
      exact ⟨(g _ _ (by decide)).trans d1, d2.cg (fun k _ _ => g _ _ (by decide)), fun k hk => by rw [g _ _ (by decide)]; exact d3 k hk⟩
  refine T_hyphens.c hb hC rfl p3 p4 (fun hg σ1 f1 x1 x5 => ?_) (fun hg σ1 f1 x1 x5 => ?_)
  · have g := gz σ1 f1
    refine R_hyphens.p (L := mX σ 1) hb (hRz σ1 f1) (by rw [g _ _ (by decide)]; exact p1) (fun i hi => by rw [g _ _ (by decide)]; exact p2 i hi) p3 p4 (fun _ => ?_) (fun h9 => absurd h9 (by rw [hg]; decide))
    have f2 : FrZ [254, 256, 336, 348] [0, 6, 141] σ1 (wV (wV σ1 246 0 0) 246 6 0) := (FrZ.wf (by decide)).tr (FrZ.wf (by decide))
    obtain ⟨E1, E2, E3⟩ := fin σ1 _ f1 x1 f2 wV_self
    refine ⟨rfl, hq _ _ E1 E2 ⟨?_, ?_, ?_⟩ E3⟩
    · rw [wV_ne (Or.inr (by decide)), wV_ne (Or.inr (by decide)), g _ _ (by decide)]
      show _ = ((mX σ1 5).length : Int)
      rw [x5]
      exact an.1
    · show (mX σ1 5).length ≤ 65536
      rw [x5]
      exact an.2.1
    · show hol _ 336 (mX σ1 5)
      rw [x5]
      exact fun i hi => by rw [wV_ne (Or.inl (by decide)), wV_ne (Or.inl (by decide)), g _ _ (by decide)]; exact an.2.2 i hi
  · have g := gz σ1 f1
    have hl2 := hyO_len (f := hyF P X l r (mX σ 1)) (L := mX σ 1) (i := 0)
    have h40 : (mX σ 1).length ≤ 40 := by
      unfold goodH at hg
      rw [Bool.and_eq_true, decide_eq_true_iff] at hg
      omega
    refine R_hyphens.p (L := mX σ 1) hb (hRz σ1 f1) (by rw [g _ _ (by decide)]; exact p1) (fun i hi => by rw [g _ _ (by decide)]; exact p2 i hi) p3 p4 (fun h9 => absurd h9 (by rw [hg]; decide)) (fun _ σ2 f2 y6 y1 y2 => ?_)
    obtain ⟨E1, E2, E3⟩ := fin σ1 _ f1 x1 f2 y6
    refine ⟨rfl, hq _ _ E1 E2 ⟨?_, ?_, ?_⟩ E3⟩
    · rw [f2.1, x5]
      exact y1
    · rw [f2.1, x5]
      omega
    · rw [f2.1, x5]
      exact y2
end
