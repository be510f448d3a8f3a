/-! LETTERS ARE PARTED: the reference -/
def HyR (σ : MS) (P X : List (List Int)) (l r : Int) : Prop := (mV σ 246 47 = (P.length : Int) ∧ ∀ p, p < P.length → mV σ 271 p = ((paL (P.getD p [])).length : Int) ∧ holA σ 269 (16 * p) (paL (P.getD p [])) ∧ ∀ k, k ≤ (paL (P.getD p [])).length → mV σ 270 (17 * p + k) = paG (P.getD p []) k 0) ∧ (mV σ 246 48 = (X.length : Int) ∧ ∀ x, x < X.length → mV σ 274 x = ((exL (X.getD x [])).length : Int) ∧ holA σ 272 (24 * x) (exL (X.getD x [])) ∧ ∀ k, k < (exL (X.getD x [])).length → (¬ mV σ 273 (25 * x + k) = 0 ↔ exH (X.getD x []) k 0 = true)) ∧ mV σ 275 4 = l ∧ mV σ 275 5 = r
def LtR (σ : MS) (fr : Nat) (U : List Int) : Prop := fr + U.length ≤ 139000 ∧ ∀ i, i < U.length → lowS (mV σ 254 (fr + i) % 256) = U.getD i 0
def PtR (σ σ' : MS) (fr : Nat) (P X : List (List Int)) (l r : Int) (U : List Int) : Prop := FrZ [256, 348] [] σ σ' ∧ (∀ k, 1 ≤ k → k < U.length → mV σ' 256 (fr + k) = if hyK P X l r U k = true then 2 else mV σ 256 (fr + k)) ∧ ∀ j, (j ≤ fr ∨ fr + U.length ≤ j) → mV σ' 256 j = mV σ 256 j
theorem paG_hi {k : Nat} : ∀ {p : List Int} {m : Nat}, m + (paL p).length < k → paG p k m = 0
  | [], m, h => rfl
  | c :: r, m, h => by
    rw [paG_c]
    by_cases hd : sDi c = true
    · have e : paL (c :: r) = paL r := by
        unfold paL
        rw [List.filter_cons_of_neg (by rw [hd]; decide)]
      rw [e] at h
      rw [if_pos hd, if_neg (by omega)]
      exact paG_hi h
    · have e : paL (c :: r) = c :: paL r := by
        unfold paL
        rw [List.filter_cons_of_pos (by simpa using hd)]
      rw [e, List.length_cons] at h
      rw [if_neg hd]
      exact paG_hi (by omega)
section
variable {σ σ0 σ1 : MS} {Q : MQ9} {P X : List (List Int)} {l r : Int} {U : List Int} {fr : Nat} {L : Nat → Int}
theorem lvR_id {p : List Int} (hp : 0 < (paL p).length) : ∀ (j s : Nat) (L : Nat → Int), U.length + 2 < s + (paL p).length → lvR p U j s L = L
  | 0, s, L, h => rfl
  | j + 1, s, L, h => by
    have e : lv1 p U s L = L := by
      unfold lv1
      rw [if_neg]
      intro h9
      have := mt_len h9 hp
      omega
    show lvR p U j (s + 1) (lv1 p U s L) = L
    rw [e]
    exact lvR_id hp j (s + 1) L (by omega)
theorem HyR.z {S : List Nat} (h : HyR σ P X l r) (q : FrZ S [] σ σ1) (h1 : ∀ z ∈ [246, 269, 270, 271, 272, 273, 274, 275], z ∉ S) : HyR σ1 P X l r := by
  obtain ⟨⟨a1, a2⟩, ⟨b1, b2⟩, c1, c2⟩ := h
  refine ⟨⟨(q.f (by decide) (h1 _ (by decide))).trans a1, fun p hp => ?_⟩, ⟨(q.f (by decide) (h1 _ (by decide))).trans b1, fun x hx => ?_⟩, (q.z (h1 _ (by decide)) (by decide)).trans c1, (q.z (h1 _ (by decide)) (by decide)).trans c2⟩
  · obtain ⟨d1, d2, d3⟩ := a2 p hp
    exact ⟨(q.z (h1 _ (by decide)) (by decide)).trans d1, d2.cg (fun k _ _ => q.z (h1 _ (by decide)) (by decide)), fun k hk => (q.z (h1 _ (by decide)) (by decide)).trans (d3 k hk)⟩
  · obtain ⟨d1, d2, d3⟩ := b2 x hx
    exact ⟨(q.z (h1 _ (by decide)) (by decide)).trans d1, d2.cg (fun k _ _ => q.z (h1 _ (by decide)) (by decide)), fun k hk => by rw [q.z (h1 _ (by decide)) (by decide)]; exact d3 k hk⟩
theorem LtR.z {S : List Nat} (h : LtR σ fr U) (q : FrZ S [] σ σ1) (h1 : 254 ∉ S) : LtR σ1 fr U := ⟨h.1, fun i hi => by rw [q.z h1 (by decide)]; exact h.2 i hi⟩
/-- an exception's points -/
theorem let_103 (hb : HyB P X l r) (hLt : LtR σ0 fr U) {x : Nat} (hx : x < X.length) (hR : HyR σ0 P X l r) (hxU : exL (X.getD x []) = U) (hF : exF X U = some (X.getD x [])) (hq : ∀ σ', PtR σ0 σ' fr P X l r U → Q (.inl none) σ') : ∀ (m k : Nat) (σ : MS), k + m = U.length → 1 ≤ k → FrZ [256, 348] [] σ0 σ → (∀ j, 1 ≤ j → j < k → mV σ 256 (fr + j) = if hyK P X l r U j = true then 2 else mV σ0 256 (fr + j)) → (∀ j, (j ≤ fr ∨ fr + k ≤ j) → mV σ 256 j = mV σ0 256 j) → R_letters_103 (fr : Int) (U.length : Int) (x : Int) (k : Int) σ Q := by
  have hl := hLt.1
  have hx60 := hb.2.2.2.1
  have h24 := (hb.2.2.2.2.1.at x).1
  have hU24 : U.length ≤ 24 := by
    rw [← hxU]
    exact Nat.le_trans (List.length_filter_le _ _) h24
  intro m
  induction m with
  | zero =>
    intro k σ hk k1 hf h1 h2
    have e : k = U.length := by omega
    subst e
    exact R_letters_103.i ⟨by unfold Rg; omega, by unfold Rg; omega, fun _ => hq σ ⟨hf, h1, h2⟩, fun h9 => absurd h9 (by omega)⟩
  | succ m ih =>
    intro k σ hk k1 hf h1 h2
    have hK : hyK P X l r U k = exH (X.getD x []) k 0 := by
      unfold hyK
      rw [hF]
    obtain ⟨-, -, d3⟩ := hR.2.1.2 x hx
    have d4 := d3 k (by rw [hxU]; omega)
    have v : mV σ 273 (25 * x + k) = mV σ0 273 (25 * x + k) := hf.z (by decide) (by decide)
    refine R_letters_103.i ⟨by unfold Rg; omega, by unfold Rg; omega, fun h9 => absurd h9 (by omega), fun _ => ⟨by omega, by omega, ?_⟩⟩
    rw [show (25 * (x : Int) + (k : Int)).toNat = 25 * x + k by omega, show ((fr : Int) + (k : Int)).toNat = fr + k by omega, v]
    refine ⟨fun h9 => R_letters_135.i ?_, fun h9 => ⟨by omega, by omega, R_letters_135.i ?_⟩⟩
    · rw [show (k : Int) + 1 = ((k + 1 : Nat) : Int) by omega]
      refine ih (k + 1) σ (by omega) (by omega) hf (fun j j1 j2 => ?_) (fun j hj => h2 j (by omega))
      by_cases e : j = k
      · subst e
        rw [hK, if_neg (fun h8 => (d4.mpr h8) h9)]
        exact h2 _ (by omega)
      · exact h1 j j1 (by omega)
    · rw [show (k : Int) + 1 = ((k + 1 : Nat) : Int) by omega]
      refine ih (k + 1) _ (by omega) (by omega) (hf.tr (FrZ.wz (by decide))) (fun j j1 j2 => ?_) (fun j hj => ?_)
      · by_cases e : j = k
        · subst e
          rw [hK, if_pos (d4.mp h9), wV_self]
          decide
        · rw [wV_ne (Or.inr (by omega))]
          exact h1 j j1 (by omega)
      · rw [wV_ne (Or.inr (by omega))]
        exact h2 j (by omega)
/-- points by patterns -/
theorem let_388 (hb : HyB P X l r) (hU : U.length ≤ 40) (hLt : LtR σ0 fr U) (hF : exF X U = none) (hq : ∀ σ', PtR σ0 σ' fr P X l r U → Q (.inl none) σ') : ∀ (m k : Nat) (σ : MS), k + m = U.length + 101 → l ≤ (k : Int) → FrZ [256, 348] [] σ0 σ → (∀ j, j ≤ U.length + 2 → mV σ 348 j = lvA U P (fun _ => 0) j) → (∀ j, 1 ≤ j → j < U.length → mV σ 256 (fr + j) = if j < k ∧ hyK P X l r U j = true then 2 else mV σ0 256 (fr + j)) → (∀ j, (j ≤ fr ∨ fr + U.length ≤ j) → mV σ 256 j = mV σ0 256 j) → R_letters_388 (fr : Int) (U.length : Int) r (k : Int) σ Q := by
  have hl := hLt.1
  have hl9 := hb.2.2.2.2.2.1
  have hr9 := hb.2.2.2.2.2.2
  have hK : ∀ k : Nat, hyK P X l r U k = (decide (l ≤ (k : Int) ∧ (k : Int) + r ≤ U.length) && decide (lvA U P (fun _ => 0) (k + 1) % 2 = 1)) := fun k => by
    unfold hyK
    rw [hF]
  have fin : ∀ (k : Nat) (σ : MS), (U.length : Int) - r < (k : Int) → FrZ [256, 348] [] σ0 σ → (∀ j, 1 ≤ j → j < U.length → mV σ 256 (fr + j) = if j < k ∧ hyK P X l r U j = true then 2 else mV σ0 256 (fr + j)) → (∀ j, (j ≤ fr ∨ fr + U.length ≤ j) → mV σ 256 j = mV σ0 256 j) → Q (.inl none) σ := by
    intro k σ hk hf h1 h2
    refine hq σ ⟨hf, fun j j1 j2 => ?_, h2⟩
    rw [h1 j j1 j2]
    by_cases h9 : hyK P X l r U j = true
    · have hjk : j < k := by
        have h8 := h9
        rw [hK, Bool.and_eq_true, decide_eq_true_iff] at h8
        omega
      rw [if_pos h9, if_pos ⟨hjk, h9⟩]
    · rw [if_neg h9, if_neg (fun h8 => h9 h8.2)]
  intro m
  induction m with
  | zero =>
    intro k σ hk kl hf hlv h1 h2
    exact R_letters_388.i ⟨by unfold Rg; omega, by unfold Rg; omega, fun _ => fin k σ (by omega) hf h1 h2, fun h9 => absurd h9 (by omega)⟩
  | succ m ih =>
    intro k σ hk kl hf hlv h1 h2
    have n0 := lvA_n (U := U) (P := P) (L := fun _ => 0) (fun _ => Int.le_refl _) (k + 1)
    have nx : ¬ (1 ≤ k ∧ k < U.length ∧ hyK P X l r U k = true) → R_letters_434 (fr : Int) (U.length : Int) r (k : Int) σ Q := fun h9 => by
      refine R_letters_434.i ?_
      rw [show (k : Int) + 1 = ((k + 1 : Nat) : Int) by omega]
      refine ih (k + 1) σ (by omega) (by omega) hf hlv (fun j j1 j2 => ?_) h2
      rw [h1 j j1 j2]
      by_cases h8 : hyK P X l r U j = true
      · by_cases e : j = k
        · subst e
          exact absurd ⟨j1, j2, h8⟩ h9
        · by_cases h7 : j < k
          · rw [if_pos ⟨h7, h8⟩, if_pos ⟨by omega, h8⟩]
          · rw [if_neg (fun h6 => h7 h6.1), if_neg (fun h6 => h7 (by omega))]
      · rw [if_neg (fun h6 => h8 h6.2), if_neg (fun h6 => h8 h6.2)]
    refine R_letters_388.i ⟨by unfold Rg; omega, by unfold Rg; omega, fun h9 => fin k σ h9 hf h1 h2, fun h9 => ⟨by unfold Rg; omega, fun h8 => nx (by omega), fun h8 => ⟨by unfold Rg; omega, by unfold Rg; omega, fun h7 => nx (by omega), fun h7 => ⟨by omega, by omega, by decide, ?_⟩⟩⟩⟩
    rw [show ((k : Int) + 1).toNat = k + 1 by omega, show ((fr : Int) + (k : Int)).toNat = fr + k by omega, hlv (k + 1) (by omega), Int.tmod_eq_emod_of_nonneg n0]
    refine ⟨fun h6 => nx (fun h5 => ?_), fun h6 => ⟨by omega, by omega, R_letters_434.i ?_⟩⟩
    · have := h5.2.2
      rw [hK, Bool.and_eq_true, decide_eq_true_iff, decide_eq_true_iff] at this
      exact h6 this.2
    · have hy : hyK P X l r U k = true := by
        rw [hK, Bool.and_eq_true, decide_eq_true_iff, decide_eq_true_iff]
        exact ⟨by omega, h6⟩
      rw [show (k : Int) + 1 = ((k + 1 : Nat) : Int) by omega]
      refine ih (k + 1) _ (by omega) (by omega) (hf.tr (FrZ.wz (by decide))) (fun j hj => by rw [wV_ne (Or.inl (by decide))]; exact hlv j hj) (fun j j1 j2 => ?_) (fun j hj => by rw [wV_ne (Or.inr (by omega))]; exact h2 j hj)
      by_cases e : j = k
      · subst e
        rw [wV_self, if_pos ⟨by omega, hy⟩]
        decide
      · rw [wV_ne (Or.inr (by omega)), h1 j j1 j2]
        by_cases h5 : hyK P X l r U j = true
        · by_cases h4 : j < k
          · rw [if_pos ⟨h4, h5⟩, if_pos ⟨by omega, h5⟩]
          · rw [if_neg (fun h3 => h4 h3.1), if_neg (fun h3 => h4 (by omega))]
        · rw [if_neg (fun h3 => h5 h3.2), if_neg (fun h3 => h5 h3.2)]
/-- a pattern's digits are laid -/
theorem let_300 (hb : HyB P X l r) (hU : U.length ≤ 40) (hR : HyR σ0 P X l r) {p s : Nat} (hp : p < P.length) (hs : s + (paL (P.getD p [])).length ≤ U.length + 2) (hq : ∀ σ', FrZ [256, 348] [] σ0 σ' → (∀ j, mV σ' 256 j = mV σ1 256 j) → (∀ j, j ≤ U.length + 2 → mV σ' 348 j = if s ≤ j then max (L j) (paG (P.getD p []) (j - s) 0) else L j) → R_letters_373 (fr : Int) (U.length : Int) l r (p : Int) ((paL (P.getD p [])).length : Int) (s : Int) σ' Q) : ∀ (m k : Nat) (σ : MS), k + m = (paL (P.getD p [])).length + 1 → FrZ [256, 348] [] σ0 σ → (∀ j, mV σ 256 j = mV σ1 256 j) → (∀ j, j ≤ U.length + 2 → mV σ 348 j = if s ≤ j ∧ j < s + k then max (L j) (paG (P.getD p []) (j - s) 0) else L j) → (∀ j, 0 ≤ L j) → R_letters_300 (fr : Int) (U.length : Int) l r (p : Int) ((paL (P.getD p [])).length : Int) (s : Int) 1 (k : Int) σ Q := by
  have hp120 := hb.1
  have h16 := (hb.2.1.at p).1
  have hpl : (paL (P.getD p [])).length ≤ (P.getD p []).length := List.length_filter_le _ _
  intro m
  induction m with
  | zero =>
    intro k σ hk hf h256 hlv hn
    refine R_letters_300.i ⟨by unfold Rg; omega, fun _ => hq σ hf h256 (fun j hj => ?_), fun h9 => absurd h9 (by omega)⟩
    rw [hlv j hj]
    by_cases h9 : s ≤ j
    · by_cases h8 : j < s + k
      · rw [if_pos ⟨h9, h8⟩, if_pos h9]
      · rw [if_neg (fun h7 => h8 h7.2), if_pos h9, paG_hi (by omega)]
        have := hn j
        omega
    · rw [if_neg (fun h7 => h9 h7.1), if_neg h9]
  | succ m ih =>
    intro k σ hk hf h256 hlv hn
    obtain ⟨-, -, d3⟩ := hR.1.2 p hp
    have v : mV σ 270 (17 * p + k) = paG (P.getD p []) k 0 := by
      rw [hf.z (by decide) (by decide)]
      exact d3 k (by omega)
    have w : mV σ 348 (s + k) = L (s + k) := by rw [hlv _ (by omega), if_neg (by omega)]
    have nx : ∀ v9 : Int, v9 = max (L (s + k)) (paG (P.getD p []) k 0) → R_letters_366 (fr : Int) (U.length : Int) l r (p : Int) ((paL (P.getD p [])).length : Int) (s : Int) 1 (k : Int) ((s : Int) + (k : Int)) v9 σ Q := by
      intro v9 hv9
      refine R_letters_366.i ⟨by omega, by omega, ?_⟩
      rw [show ((s : Int) + (k : Int)).toNat = s + k by omega, show (k : Int) + 1 = ((k + 1 : Nat) : Int) by omega]
      refine ih (k + 1) _ (by omega) (hf.tr (FrZ.wz (by decide))) (fun j => by rw [wV_ne (Or.inl (by decide))]; exact h256 j) (fun j hj => ?_) hn
      by_cases e : j = s + k
      · subst e
        rw [wV_self, if_pos (by omega), hv9, show s + k - s = k by omega]
      · rw [wV_ne (Or.inr e), hlv j hj]
        by_cases h9 : s ≤ j ∧ j < s + k
        · rw [if_pos h9, if_pos (by omega)]
        · rw [if_neg h9, if_neg (by omega)]
    refine R_letters_300.i ⟨by unfold Rg; omega, fun h9 => absurd h9 (by omega), fun _ => ⟨fun h9 => absurd h9 (by decide), fun _ => ⟨by omega, by omega, by omega, by omega, ?_⟩⟩⟩
    rw [show (17 * (p : Int) + (k : Int)).toNat = 17 * p + k by omega, show ((s : Int) + (k : Int)).toNat = s + k by omega, v, w]
    exact ⟨fun h9 => ⟨by omega, by omega, nx _ (by omega)⟩, fun h9 => nx _ (by omega)⟩
theorem mt_all {p : List Int} {s : Nat} (h : s + (paL p).length ≤ U.length + 2) : allR (fun i => decide ((paL p).getD i 0 = (doT U).getD (s + i) 0)) (paL p).length = mtP p U s := by
  have dl := doT_len (U := U)
  unfold mtP
  rw [Bool.eq_iff_iff, allR_i, decide_eq_true_iff]
  constructor
  · intro h9
    refine list_ext (by rw [List.length_take, List.length_drop]; omega) (fun i hi => ?_)
    rw [List.length_take, List.length_drop] at hi
    rw [sgT_at (by omega)]
    exact (of_decide_eq_true (h9 i (by omega))).symm
  · intro h9 i hi
    refine decide_eq_true ?_
    rw [← sgT_at (B := doT U) (p := s) (n := (paL p).length) hi, h9]
/-- a pattern is tried at all places -/
theorem let_197 (hb : HyB P X l r) (hU : U.length ≤ 40) (hR : HyR σ0 P X l r) (hLt : LtR σ0 fr U) {p : Nat} (hp : p < P.length) (hq : ∀ σ', FrZ [256, 348] [] σ0 σ' → (∀ j, mV σ' 256 j = mV σ1 256 j) → (∀ j, j ≤ U.length + 2 → mV σ' 348 j = lvR (P.getD p []) U (U.length + 2) 0 L j) → R_letters_176 (fr : Int) (U.length : Int) l r ((p + 1 : Nat) : Int) σ' Q) : ∀ (m s : Nat) (L' : Nat → Int) (σ : MS), s + m = U.length + 2 → FrZ [256, 348] [] σ0 σ → (∀ j, mV σ 256 j = mV σ1 256 j) → (∀ j, j ≤ U.length + 2 → mV σ 348 j = L' j) → (∀ j, 0 ≤ L' j) → lvR (P.getD p []) U m s L' = lvR (P.getD p []) U (U.length + 2) 0 L → R_letters_197 (fr : Int) (U.length : Int) l r (p : Int) ((paL (P.getD p [])).length : Int) (s : Int) σ Q := by
  have hp120 := hb.1
  have hl := hLt.1
  have h16 := (hb.2.1.at p).1
  have hpl : (paL (P.getD p [])).length ≤ (P.getD p []).length := List.length_filter_le _ _
  have hp0 := hb.2.2.1 (P.getD p []) (by rw [List.getD_eq_getElem?_getD, List.getElem?_eq_getElem hp]; exact List.getElem_mem hp)
  have e1 : (p : Int) + 1 = ((p + 1 : Nat) : Int) := by omega
  intro m
  induction m with
  | zero =>
    intro s L' σ hs hf h256 hlv hn he
    refine R_letters_197.i ⟨by unfold Rg; omega, by unfold Rg; omega, fun _ => ?_, fun h9 => absurd h9 (by omega)⟩
    rw [e1]
    exact hq σ hf h256 (fun j hj => by rw [← he]; exact hlv j hj)
  | succ m ih =>
    intro s L' σ hs hf h256 hlv hn he
    refine R_letters_197.i ⟨by unfold Rg; omega, by unfold Rg; omega, fun h9 => ?_, fun h9 => ?_⟩
    · rw [lvR_id hp0 (m + 1) s L' (by omega)] at he
      rw [e1]
      exact hq σ hf h256 (fun j hj => by rw [← he]; exact hlv j hj)
    · have hsm : s + (paL (P.getD p [])).length ≤ U.length + 2 := by omega
      have hma := mt_all (U := U) (p := P.getD p []) (s := s) hsm
      obtain ⟨-, d2, -⟩ := hR.1.2 p hp
      have n373 : ∀ σ2 : MS, FrZ [256, 348] [] σ0 σ2 → (∀ j, mV σ2 256 j = mV σ1 256 j) → (∀ j, j ≤ U.length + 2 → mV σ2 348 j = lv1 (P.getD p []) U s L' j) → R_letters_373 (fr : Int) (U.length : Int) l r (p : Int) ((paL (P.getD p [])).length : Int) (s : Int) σ2 Q := by
        intro σ2 f2 g2 v2
        refine R_letters_373.i ?_
        rw [show (s : Int) + 1 = ((s + 1 : Nat) : Int) by omega]
        exact ih (s + 1) _ σ2 (by omega) f2 g2 v2 (lv1_n hn) he
      refine loopIs (P := fun is i => R_letters_214 (fr : Int) (U.length : Int) l r (p : Int) ((paL (P.getD p [])).length : Int) (s : Int) is i σ Q) (f := fun i => decide ((paL (P.getD p [])).getD i 0 = (doT U).getD (s + i) 0)) (n := (paL (P.getD p [])).length) (fun i hi k9 => ?_) (fun e => ?_) (fun e i hi => ?_)
      · have c264 : ∀ v9 : Int, v9 = (doT U).getD (s + i) 0 → R_letters_264 (fr : Int) (U.length : Int) l r (p : Int) ((paL (P.getD p [])).length : Int) (s : Int) (i : Int) v9 σ Q := by
          intro v9 hv9
          have x9 : mV σ 269 (16 * p + i) = (paL (P.getD p [])).getD i 0 := by
            rw [hf.z (by decide) (by decide)]
            exact d2 i hi
          refine R_letters_264.i ⟨by omega, by omega, ?_⟩
          rw [show (16 * (p : Int) + (i : Int)).toNat = 16 * p + i by omega, x9, hv9]
          exact ⟨fun h8 => R_letters_289.i (by rw [decide_eq_false h8] at k9; exact k9), fun h8 => R_letters_289.i (by rw [decide_eq_true h8] at k9; exact k9)⟩
        refine R_letters_214.i ⟨by unfold Rg; omega, fun h8 => absurd h8 (by omega), fun _ => ⟨fun h8 => absurd h8 (by decide), fun _ => ⟨by unfold Rg; omega, fun h8 => R_letters_246.i (c264 46 ?_), fun h8 => ⟨by unfold Rg; omega, by unfold Rg; omega, fun h7 => ?_, fun h7 => R_letters_246.i (c264 46 ?_)⟩⟩⟩⟩
        · rw [show s + i = 0 by omega]
          rfl
        · obtain ⟨j, hj⟩ : ∃ j, s + i = j + 1 := ⟨s + i - 1, by omega⟩
          have hj2 : j < U.length := by omega
          have a1 := hLt.2 j hj2
          have a2 : mV σ 254 (fr + j) = mV σ0 254 (fr + j) := hf.z (by decide) (by decide)
          rw [show (fr : Int) + ((s : Int) + (i : Int)) - 1 = ((fr + j : Nat) : Int) by omega]
          refine R_at.i ⟨by omega, by omega, R_low.s (by unfold Rg; omega) (c264 _ ?_)⟩
          rw [Int.toNat_natCast, a2, a1, hj, doT_m hj2]
        · rw [show s + i = U.length + 1 by omega]
          exact doT_e.symm
      · rw [hma] at e
        refine R_letters_214.i ⟨by unfold Rg; omega, fun _ => R_letters_297.i ?_, fun h8 => absurd h8 (by omega)⟩
        refine let_300 (L := L') hb hU hR hp hsm (fun σ' f' g' v' => n373 σ' f' g' (fun j hj => ?_)) ((paL (P.getD p [])).length + 1) 0 σ (by omega) hf h256 (fun j hj => by rw [if_neg (by omega)]; exact hlv j hj) hn
        rw [v' j hj]
        unfold lv1
        rw [if_pos e]
      · rw [hma] at e
        have z9 : R_letters_297 (fr : Int) (U.length : Int) l r (p : Int) ((paL (P.getD p [])).length : Int) (s : Int) 0 σ Q := by
          have n9 : R_letters_373 (fr : Int) (U.length : Int) l r (p : Int) ((paL (P.getD p [])).length : Int) (s : Int) σ Q := n373 σ hf h256 (fun j hj => by
            unfold lv1
            rw [e, if_neg (by decide)]
            exact hlv j hj)
          exact R_letters_297.i (R_letters_300.i ⟨by decide, fun _ => n9, fun _ => ⟨fun _ => n9, fun h8 => absurd rfl h8⟩⟩)
        exact R_letters_214.i ⟨by unfold Rg; omega, fun _ => z9, fun _ => ⟨fun _ => z9, fun h8 => absurd rfl h8⟩⟩
theorem let_176 (hb : HyB P X l r) (hU : U.length ≤ 40) (hR : HyR σ0 P X l r) (hLt : LtR σ0 fr U) (hq : ∀ σ', FrZ [256, 348] [] σ0 σ' → (∀ j, mV σ' 256 j = mV σ1 256 j) → (∀ j, j ≤ U.length + 2 → mV σ' 348 j = lvA U P (fun _ => 0) j) → R_letters_388 (fr : Int) (U.length : Int) r l σ' Q) : ∀ (rs p : List (List Int)) (L' : Nat → Int) (σ : MS), P = p ++ rs → FrZ [256, 348] [] σ0 σ → (∀ j, mV σ 256 j = mV σ1 256 j) → (∀ j, j ≤ U.length + 2 → mV σ 348 j = L' j) → (∀ j, 0 ≤ L' j) → lvA U rs L' = lvA U P (fun _ => 0) → R_letters_176 (fr : Int) (U.length : Int) l r (p.length : Int) σ Q
  | [], p, L', σ, he, hf, h256, hlv, hn, hl => by
    have hp120 := hb.1
    rw [List.append_nil] at he
    have hl9 := congrArg List.length he
    have v47 : mV σ 246 47 = (P.length : Int) := (hf.f (by decide) (by decide)).trans hR.1.1
    refine R_letters_176.i ⟨by unfold Rg; omega, fun _ => hq σ hf h256 (fun j hj => by rw [← hl]; exact hlv j hj), fun h9 => absurd h9 (by rw [v47]; omega)⟩
  | x :: rs, p, L', σ, he, hf, h256, hlv, hn, hl => by
    have hp120 := hb.1
    have hl9 : P.length = p.length + 1 + rs.length := by rw [he, List.length_append, List.length_cons]; omega
    have ex : P.getD p.length [] = x := by rw [he]; exact getD_at
    have v47 : mV σ 246 47 = (P.length : Int) := (hf.f (by decide) (by decide)).trans hR.1.1
    have v271 : mV σ 271 p.length = ((paL (P.getD p.length [])).length : Int) := (hf.z (by decide) (by decide)).trans (hR.1.2 p.length (by omega)).1
    refine R_letters_176.i ⟨by unfold Rg; omega, fun h9 => absurd h9 (by rw [v47]; omega), fun _ => ⟨by omega, by omega, ?_⟩⟩
    rw [Int.toNat_natCast, v271]
    refine let_197 (L := L') hb hU hR hLt (p := p.length) (by omega) (fun σ' f' g' v' => ?_) (U.length + 2) 0 L' σ (by omega) hf h256 hlv hn rfl
    rw [ex] at v'
    have := let_176 hb hU hR hLt hq rs (p ++ [x]) (lvR x U (U.length + 2) 0 L') σ' (by rw [he, List.append_assoc]; rfl) f' g' v' (lvR_n hn) hl
    rw [List.length_append, List.length_singleton] at this
    exact this
theorem let_15 (hb : HyB P X l r) (hU : U.length ≤ 40) (hU1 : 1 ≤ U.length) (hR : HyR σ P X l r) (hLt : LtR σ fr U) (hq : ∀ σ', PtR σ σ' fr P X l r U → Q (.inl none) σ') : ∀ (m : Nat), m ≤ X.length → exF (X.take m) U = exF X U → R_letters_15 (fr : Int) (U.length : Int) l r ((m : Int) - 1) σ Q := by
  have k60 := hb.2.2.2.1
  have hl := hLt.1
  intro m
  induction m with
  | zero =>
    intro hm he
    refine R_letters_15.i ⟨by decide, fun _ => ?_, fun h9 => absurd h9 (by decide)⟩
    have hl9 := hb.2.2.2.2.2.1
    refine loopF (P := fun i σ' => R_letters_151 (fr : Int) (U.length : Int) l r i σ' Q) (z := 348) (a := 0) (n := U.length + 3) (f := fun _ => 0) (fun i hi k9 => ?_) ?_
    · refine R_letters_151.i ⟨by unfold Rg; omega, by unfold Rg; omega, fun h9 => absurd h9 (by omega), fun _ => ⟨by omega, by omega, ?_⟩⟩
      rw [Int.toNat_natCast]
      rw [Nat.zero_add] at k9
      exact k9
    · generalize hσ2 : wF σ 348 0 (ofF (fun _ => 0) (U.length + 3)) = σ2
      have f2 : FrZ [256, 348] [] σ σ2 := by rw [← hσ2]; exact FrZ.wF (by decide)
      have g2 : ∀ j, mV σ2 256 j = mV σ 256 j := fun j => by rw [← hσ2]; exact wF_ne (Or.inl (by decide))
      have v2 : ∀ j, j ≤ U.length + 2 → mV σ2 348 j = (fun _ => (0 : Int)) j := fun j hj => by
        rw [← hσ2]
        have := wF_at (σ := σ) (z := 348) (a := 0) (L := ofF (fun _ => 0) (U.length + 3)) (j := j) (by rw [ofF_len]; omega)
        rw [Nat.zero_add] at this
        rw [this, ofF_get (by omega)]
      show R_letters_151 (fr : Int) (U.length : Int) l r ((U.length + 3 : Nat) : Int) σ2 Q
      refine R_letters_151.i ⟨by unfold Rg; omega, by unfold Rg; omega, fun _ => ?_, fun h9 => absurd h9 (by omega)⟩
      refine let_176 (σ0 := σ) (σ1 := σ) hb hU hR hLt (fun σ' f' g' v' => ?_) P [] (fun _ => 0) σ2 rfl f2 g2 v2 (fun _ => Int.le_refl _) rfl
      have el : l = ((l.toNat : Nat) : Int) := by omega
      have := let_388 (σ0 := σ) hb hU hLt (by rw [← he]; rfl) hq (U.length + 101 - l.toNat) l.toNat σ' (by omega) (by omega) f' v' (fun j j1 j2 => ?_) (fun j _ => g' j)
      · rw [← el] at this
        exact this
      · by_cases h9 : j < l.toNat ∧ hyK P X l r U j = true
        · have h8 := h9.2
          unfold hyK at h8
          rw [show exF X U = none by rw [← he]; rfl] at h8
          have h8 : (decide (l ≤ (j : Int) ∧ (j : Int) + r ≤ U.length) && decide (lvA U P (fun _ => 0) (j + 1) % 2 = 1)) = true := h8
          rw [Bool.and_eq_true, decide_eq_true_iff] at h8
          omega
        · rw [if_neg h9]
          exact g' _
  | succ m ih =>
    intro hm he
    have hk : m < X.length := by omega
    have et : X.take (m + 1) = X.take m ++ [X.getD m []] := by
      rw [List.take_add_one, List.getElem?_eq_getElem hk, List.getD_eq_getElem?_getD, List.getElem?_eq_getElem hk]
      rfl
    rw [et, exF_sn] at he
    obtain ⟨d1, d2, d3⟩ := hR.2.1.2 m hk
    have h24 := (hb.2.2.2.2.1.at m).1
    have hxl : (exL (X.getD m [])).length ≤ (X.getD m []).length := List.length_filter_le _ _
    rw [show ((m + 1 : Nat) : Int) - 1 = (m : Int) by omega]
    have c92 : ∀ t : Bool, t = decide (exL (X.getD m []) = U) → R_letters_92 (fr : Int) (U.length : Int) l r (m : Int) (bZ t) σ Q := by
      intro t ht
      subst ht
      refine R_letters_92.i ⟨fun h9 => ?_, fun h9 => ?_⟩
      · have hxU := of_decide_eq_true (bZ_ne h9)
        rw [if_pos hxU] at he
        refine let_103 (σ0 := σ) hb hLt hk hR hxU he.symm hq (U.length - 1) 1 σ (by omega) (Nat.le_refl _) FrZ.rf (fun j j1 j2 => absurd j2 (by omega)) (fun j _ => rfl)
      · rw [if_neg (of_decide_eq_false (bZ_z h9))] at he
        rw [show (m : Int) + -1 = (m : Int) - 1 by omega]
        exact ih (by omega) he
    have m0 : ¬ exL (X.getD m []) = U → R_letters_92 (fr : Int) (U.length : Int) l r (m : Int) 0 σ Q := fun h => c92 false (decide_eq_false h).symm
    have m1 : exL (X.getD m []) = U → R_letters_92 (fr : Int) (U.length : Int) l r (m : Int) 1 σ Q := fun h => c92 true (decide_eq_true h).symm
    refine R_letters_15.i ⟨by unfold Rg; omega, fun h9 => absurd h9 (by omega), fun _ => ⟨by omega, by omega, by unfold Rg; omega, ?_⟩⟩
    rw [Int.toNat_natCast, d1]
    refine ⟨fun h9 => R_letters_36.i ?_, fun h9 => R_letters_36.i ?_⟩
    · have hne : ¬ exL (X.getD m []) = U := fun h8 => h9 (by rw [h8])
      exact R_letters_41.i ⟨by decide, by unfold Rg; omega, fun _ => m0 hne, fun _ => ⟨fun _ => m0 hne, fun h8 => absurd rfl h8⟩⟩
    · have hle : (exL (X.getD m [])).length = U.length := by omega
      refine loopIs (P := fun is i => R_letters_41 (fr : Int) (U.length : Int) l r (m : Int) is i σ Q) (f := fun i => decide ((exL (X.getD m [])).getD i 0 = U.getD i 0)) (n := U.length) (fun i hi k9 => ?_) (fun e => ?_) (fun e i hi => ?_)
      · refine R_letters_41.i ⟨by unfold Rg; omega, by unfold Rg; omega, fun h8 => absurd h8 (by omega), fun _ => ⟨fun h8 => absurd h8 (by decide), fun _ => ⟨by omega, by omega, ?_⟩⟩⟩
        rw [show (fr : Int) + (i : Int) = ((fr + i : Nat) : Int) by omega, show (24 * (m : Int) + (i : Int)).toNat = 24 * m + i by omega, d2 i (by omega)]
        refine R_at.i ⟨by omega, by omega, R_low.s (by unfold Rg; omega) ?_⟩
        rw [Int.toNat_natCast, hLt.2 i hi]
        exact ⟨fun h8 => R_letters_84.i (by rw [decide_eq_false h8] at k9; exact k9), fun h8 => R_letters_84.i (by rw [decide_eq_true h8] at k9; exact k9)⟩
      · have hxU : exL (X.getD m []) = U := list_ext hle (fun i hi => of_decide_eq_true (allR_i.mp e i (by omega)))
        exact R_letters_41.i ⟨by unfold Rg; omega, by unfold Rg; omega, fun _ => m1 hxU, fun h8 => absurd h8 (by omega)⟩
      · have hne : ¬ exL (X.getD m []) = U := fun e2 => by
          have : allR (fun i => decide ((exL (X.getD m [])).getD i 0 = U.getD i 0)) U.length = true := allR_i.mpr (fun i _ => decide_eq_true (by rw [e2]))
          rw [this] at e
          exact Bool.noConfusion e
        exact R_letters_41.i ⟨by unfold Rg; omega, by unfold Rg; omega, fun _ => m0 hne, fun _ => ⟨fun _ => m0 hne, fun h8 => absurd rfl h8⟩⟩
theorem R_letters.p (hb : HyB P X l r) (hU : U.length ≤ 40) (hU1 : 1 ≤ U.length) (hR : HyR σ P X l r) (hLt : LtR σ fr U) (hq : ∀ σ', PtR σ σ' fr P X l r U → Q (.inl none) σ') : R_letters (fr : Int) (U.length : Int) l r σ Q := by
  have k60 := hb.2.2.2.1
  refine R_letters.i ⟨by unfold Rg; omega, fun _ => ?_, fun h9 => absurd h9 (by omega)⟩
  rw [hR.2.1.1]
  exact let_15 hb hU hU1 hR hLt hq X.length (Nat.le_refl _) (by rw [List.take_length])
end
