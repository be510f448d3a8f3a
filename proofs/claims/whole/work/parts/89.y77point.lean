/-! POINTS OF ROWS: the document, the class -/
def ltC (c : Int) : Bool := sLe (c % 128)
/-- the least place from which letters go up to k -/
def rnN (U : List Int) : Nat → Nat
  | 0 => 0
  | k + 1 => if ltC (U.getD k 0) = true then rnN U k else k + 1
def lrU (U : List Int) (a : Nat) : List Int := ((U.drop a).takeWhile ltC).map (fun c => lowS (c % 128))
/-- whether hyphens are put, patterns, exceptions, left, right -/
abbrev HY9 : Type := Bool × List (List Int) × List (List Int) × Int × Int
def hyW (H : HY9) (U : List Int) (k : Nat) : Bool := decide ((lrU U (rnN U k)).length ≤ 40) && hyK H.2.1 H.2.2.1 H.2.2.2.1 H.2.2.2.2 (lrU U (rnN U k)) (k - rnN U k)
def ptD (H : HY9) (U : List Int) (k : Nat) : Int :=
  if k = 0 ∨ U.length ≤ k ∨ sbl (U.getD k 0) = true then 0
  else if U.getD (k - 1) 0 % 128 = 45 ∧ 2 ≤ k ∧ sbl (U.getD (k - 2) 0) = false then 1
  else if H.1 = true ∧ ltC (U.getD (k - 1) 0) = true ∧ ltC (U.getD k 0) = true ∧ hyW H U k = true then 2 else 0
/-- blanks of the row are plain ones -/
def bkE (U : List Int) : Prop := ∀ k, k < U.length → (U.getD k 0 = 32 ↔ sbl (U.getD k 0) = true)
theorem rnN_le {U : List Int} : ∀ k, rnN U k ≤ k
  | 0 => Nat.le_refl _
  | k + 1 => by
    unfold rnN
    have := rnN_le (U := U) k
    split <;> omega
theorem rnN_l {U : List Int} : ∀ k j, rnN U k ≤ j → j < k → ltC (U.getD j 0) = true
  | 0, j, _, h => absurd h (Nat.not_lt_zero _)
  | k + 1, j, h1, h2 => by
    unfold rnN at h1
    split at h1
    · by_cases e : j = k
      · rw [e]
        assumption
      · exact rnN_l k j h1 (by omega)
    · omega
/-- a run of letters up to k begins where no letter stands ahead -/
theorem rnN_u {U : List Int} : ∀ k a, a ≤ k → (∀ j, a ≤ j → j < k → ltC (U.getD j 0) = true) → (a = 0 ∨ ltC (U.getD (a - 1) 0) = false) → rnN U k = a
  | 0, a, h, _, _ => by
    have : a = 0 := by omega
    subst this
    rfl
  | k + 1, a, h, h1, h2 => by
    unfold rnN
    by_cases e : a = k + 1
    · subst e
      rcases h2 with h2 | h2
      · omega
      · rw [Nat.add_sub_cancel] at h2
        rw [if_neg (by rw [h2]; decide)]
    · rw [if_pos (h1 k (by omega) (by omega))]
      exact rnN_u k a (by omega) (fun j x y => h1 j x (by omega)) h2
theorem lr_len {U : List Int} {a : Nat} : (lrU U a).length = ((U.drop a).takeWhile ltC).length := List.length_map ..
theorem lr_s {U : List Int} {a : Nat} (h : a < U.length) (hl : ltC (U.getD a 0) = true) : lrU U a = lowS (U.getD a 0 % 128) :: lrU U (a + 1) := by
  unfold lrU
  rw [drop_c h, List.takeWhile_cons_of_pos hl]
  rfl
theorem lr_e {U : List Int} {a : Nat} (h : U.length ≤ a ∨ ltC (U.getD a 0) = false) : lrU U a = [] := by
  unfold lrU
  by_cases h9 : U.length ≤ a
  · rw [List.drop_eq_nil_of_le h9]
    rfl
  · rw [drop_c (by omega), List.takeWhile_cons_of_neg (by rw [h.resolve_left h9]; decide)]
    rfl
/-- where the run from a ends -/
theorem lr_run {U : List Int} : ∀ (n a : Nat), (∀ j, a ≤ j → j < a + n → j < U.length ∧ ltC (U.getD j 0) = true) → (lrU U a).length = n + (lrU U (a + n)).length ∧ ∀ i, i < n → (lrU U a).getD i 0 = lowS (U.getD (a + i) 0 % 128)
  | 0, a, _ => ⟨by rw [Nat.add_zero, Nat.zero_add], fun i hi => absurd hi (Nat.not_lt_zero _)⟩
  | n + 1, a, h => by
    have h0 := h a (Nat.le_refl _) (by omega)
    have ih := lr_run n (a + 1) (fun j x y => h j (by omega) (by omega))
    rw [lr_s h0.1 h0.2]
    refine ⟨?_, fun i hi => ?_⟩
    · rw [List.length_cons, ih.1, show a + 1 + n = a + (n + 1) by omega]
      omega
    · cases i with
      | zero => rfl
      | succ i =>
        show (lrU U (a + 1)).getD i 0 = _
        rw [ih.2 i (by omega), show a + 1 + i = a + (i + 1) by omega]
theorem mem_tw {f : Int → Bool} {x : Int} : ∀ {L : List Int}, x ∈ L.takeWhile f → f x = true
  | [], h => absurd h List.not_mem_nil
  | c :: L, h => by
    cases e : f c with
    | true =>
      rw [List.takeWhile_cons_of_pos e] at h
      rcases List.mem_cons.mp h with h | h
      · rw [h]
        exact e
      · exact mem_tw h
    | false =>
      rw [List.takeWhile_cons_of_neg (by rw [e]; decide)] at h
      exact absurd h List.not_mem_nil
theorem lr_in {U : List Int} {a j : Nat} (h1 : a ≤ j) (h2 : j < a + (lrU U a).length) : j < U.length ∧ ltC (U.getD j 0) = true := by
  rw [lr_len] at h2
  have hp := List.takeWhile_prefix ltC (l := U.drop a)
  have hl := hp.length_le
  rw [List.length_drop] at hl
  refine ⟨by omega, ?_⟩
  have hi : j - a < ((U.drop a).takeWhile ltC).length := by omega
  have hm : ((U.drop a).takeWhile ltC)[j - a] ∈ (U.drop a).takeWhile ltC := List.getElem_mem hi
  have hx := mem_tw hm
  have he : ((U.drop a).takeWhile ltC)[j - a] = U.getD j 0 := by
    rw [hp.getElem hi, List.getElem_drop, List.getD_eq_getElem?_getD, List.getElem?_eq_getElem (show j < U.length by omega)]
    show U[a + (j - a)] = U[j]
    congr 1
    omega
  rw [he] at hx
  exact hx
theorem lr_end {U : List Int} {a : Nat} : U.length ≤ a + (lrU U a).length ∨ ltC (U.getD (a + (lrU U a).length) 0) = false := by
  have h := (lr_run (U := U) (lrU U a).length a (fun j x y => lr_in x y)).1
  by_cases h1 : U.length ≤ a + (lrU U a).length
  · exact Or.inl h1
  · refine Or.inr ?_
    cases h2 : ltC (U.getD (a + (lrU U a).length) 0) with
    | false => rfl
    | true =>
      have := lr_s (U := U) (a := a + (lrU U a).length) (by omega) h2
      rw [this, List.length_cons] at h
      omega
/-- what is known of the letters parted last -/
def CaC (σ : MS) (x0 : Nat) (U : List Int) (H : HY9) : Prop := mV σ 111 12 = -1 ∨ ∃ a, mV σ 111 12 = ((x0 + a : Nat) : Int) ∧ (lrU U a).length ≤ 40 ∧ DgC σ H.2.1 H.2.2.1 H.2.2.2.1 H.2.2.2.2 (lrU U a)
theorem FrE.rf {σ : MS} : FrE σ σ := ⟨rfl, rfl, fun _ _ _ _ => rfl⟩
theorem FrE.tr {σ σ1 σ2 : MS} (h : FrE σ σ1) (h' : FrE σ1 σ2) : FrE σ σ2 := ⟨h'.1.trans h.1, h'.2.1.trans h.2.1, fun z k a b => (h'.2.2 z k a b).trans (h.2.2 z k a b)⟩
section
variable {σ : MS} {Q : MQ9} {q x0 k : Nat} {U : List Int} {H : HY9}
theorem pa_142 (hU : LnC σ q x0 U) (hok : okK U) {a : Nat} {l2 : Int} (ha : a ≤ U.length) (hq : ∀ e, a ≤ e → (40 < e - a ∨ e = a + (lrU U a).length) → e ≤ U.length → (∀ i, a ≤ i → i < e → ltC (U.getD i 0) = true) → Filler_pointAt_180 q l2 ((x0 + a : Nat) : Int) ((x0 + e : Nat) : Int) σ Q) : ∀ (m j : Nat), j + m = U.length → a ≤ j → (∀ i, a ≤ i → i < j → ltC (U.getD i 0) = true) → Filler_pointAt_142 q l2 ((x0 + U.length : Nat) : Int) ((x0 + a : Nat) : Int) ((x0 + j : Nat) : Int) σ Q := by
  have l0 := hU.2.1
  intro m
  induction m with
  | zero =>
    intro j hj haj hr
    have e1 := (lr_run (U := U) (j - a) a (fun i x y => ⟨by omega, hr i x (by omega)⟩)).1
    rw [show a + (j - a) = j by omega, lr_e (a := j) (Or.inl (by omega)), List.length_nil] at e1
    exact Filler_pointAt_142.i ⟨by unfold Rg; omega, by unfold Rg; omega, fun _ => hq j haj (Or.inr (by omega)) (by omega) hr, fun h9 => absurd h9 (by omega)⟩
  | succ m ih =>
    intro j hj haj hr
    have hlt : j < U.length := by omega
    have hc := hok.gd hlt
    refine Filler_pointAt_142.i ⟨by unfold Rg; omega, by unfold Rg; omega, fun h9 => absurd h9 (by omega), fun _ => ⟨by unfold Rg; omega, fun h9 => hq j haj (Or.inl (by omega)) (by omega) hr, fun h9 => tB.i hU.1 (tB.i hU.1 ⟨by unfold Rg; omega, ?_⟩)⟩⟩
    rw [hU.at hlt]
    refine T_isLetter.s (by unfold Rg; omega) ⟨fun h8 => ?_, fun h8 => ?_⟩
    · have e1 := (lr_run (U := U) (j - a) a (fun i x y => ⟨by omega, hr i x (by omega)⟩)).1
      rw [show a + (j - a) = j by omega, lr_e (a := j) (Or.inr (bZ_z h8)), List.length_nil] at e1
      exact hq j haj (Or.inr (by omega)) (by omega) hr
    · show Filler_pointAt_142 q l2 ((x0 + U.length : Nat) : Int) ((x0 + a : Nat) : Int) (((x0 + j : Nat) : Int) + 1) σ Q
      rw [show ((x0 + j : Nat) : Int) + 1 = ((x0 + (j + 1) : Nat) : Int) by omega]
      exact ih (j + 1) (by omega) (by omega) (fun i x y => by
        by_cases e : i = j
        · rw [e]
          exact bZ_ne h8
        · exact hr i x (by omega))
theorem pa_99 (hU : LnC σ q x0 U) (hok : okK U) (hk : k < U.length) (hq : ∀ a, a ≤ k → (∀ i, a ≤ i → i < k → ltC (U.getD i 0) = true) → (40 < k - a ∨ a = rnN U k) → Filler_pointAt_137 q ((x0 + k : Nat) : Int) ((x0 + U.length : Nat) : Int) ((x0 + a : Nat) : Int) σ Q) : ∀ (a : Nat), a ≤ k → (∀ i, a ≤ i → i < k → ltC (U.getD i 0) = true) → Filler_pointAt_99 q ((x0 + k : Nat) : Int) (x0 : Int) ((x0 + U.length : Nat) : Int) ((x0 + a : Nat) : Int) σ Q := by
  have l0 := hU.2.1
  intro a
  induction a with
  | zero =>
    intro ha hr
    exact Filler_pointAt_99.i ⟨by unfold Rg; omega, by unfold Rg; omega, fun _ => hq 0 ha hr (Or.inr (rnN_u k 0 ha hr (Or.inl rfl)).symm), fun h9 => absurd h9 (by omega)⟩
  | succ a ih =>
    intro ha hr
    have hlt : a < U.length := by omega
    have hc := hok.gd hlt
    refine Filler_pointAt_99.i ⟨by unfold Rg; omega, by unfold Rg; omega, fun h9 => absurd h9 (by omega), fun _ => ⟨by unfold Rg; omega, fun h9 => hq (a + 1) ha hr (Or.inl (by omega)), fun h9 => tB.i hU.1 (tB.i hU.1 ⟨by unfold Rg; omega, ?_⟩)⟩⟩
    rw [show ((x0 + (a + 1) : Nat) : Int) - 1 = ((x0 + a : Nat) : Int) by omega, hU.at hlt]
    refine T_isLetter.s (by unfold Rg; omega) ⟨fun h8 => ?_, fun h8 => ?_⟩
    · exact hq (a + 1) ha hr (Or.inr (rnN_u k (a + 1) ha hr (Or.inr (bZ_z h8))).symm)
    · show Filler_pointAt_99 q ((x0 + k : Nat) : Int) (x0 : Int) ((x0 + U.length : Nat) : Int) (((x0 + (a + 1) : Nat) : Int) + (-1)) σ Q
      rw [show ((x0 + (a + 1) : Nat) : Int) + (-1) = ((x0 + a : Nat) : Int) by omega]
      exact ih (by omega) (fun i x y => by
        by_cases e : i = a
        · rw [e]
          exact bZ_ne h8
        · exact hr i (by omega) y)
theorem Filler_pointAt.c (hU : LnC σ q x0 U) (hok : okK U) (hbk : bkE U) (hb : HyB H.2.1 H.2.2.1 H.2.2.2.1 H.2.2.2.2) (hC : HyC σ H.2.1 H.2.2.1 H.2.2.2.1 H.2.2.2.2) (hy : mV σ 111 11 = bZ H.1) (hca : CaC σ x0 U H) (hq : ∀ σ', FrE σ σ' → CaC σ' x0 U H → Q (.inl (some (ptD H U k))) σ') (hk : k ≤ U.length) : Filler_pointAt q ((x0 + k : Nat) : Int) (x0 : Int) ((x0 + U.length : Nat) : Int) σ Q := by
  have l0 := hU.2.1
  have q0 := hq σ FrE.rf hca
  have zero : (k = 0 ∨ U.length ≤ k ∨ sbl (U.getD k 0) = true) → Q (.inl (some 0)) σ := fun h => by
    unfold ptD at q0
    rw [if_pos h] at q0
    exact q0
  refine Filler_pointAt.i ⟨by unfold Rg; omega, by unfold Rg; omega, fun h9 => zero (Or.inl (by omega)), fun h9 => ⟨by unfold Rg; omega, by unfold Rg; omega, fun h8 => zero (Or.inr (Or.inl (by omega))), fun h8 => tB.i hU.1 (tB.i hU.1 ⟨by unfold Rg; omega, ?_⟩)⟩⟩
  have hlt : k < U.length := by omega
  have h1k : 1 ≤ k := by omega
  have hc := hok.gd hlt
  have hc1 := hok.gd (show k - 1 < U.length by omega)
  rw [hU.at hlt]
  refine ⟨fun h7 => tB.i hU.1 (tB.i hU.1 ⟨by unfold Rg; omega, ?_⟩), fun h7 => zero (Or.inr (Or.inr ((hbk k hlt).mp h7)))⟩
  have nz : ¬ (k = 0 ∨ U.length ≤ k ∨ sbl (U.getD k 0) = true) := fun h => by
    rcases h with h | h | h
    · omega
    · omega
    · exact h7 ((hbk k hlt).mpr h)
  have hx1 : rgt (mX σ q) (((x0 + k : Nat) : Int) - 1) = U.getD (k - 1) 0 := by
    rw [show ((x0 + k : Nat) : Int) - 1 = ((x0 + (k - 1) : Nat) : Int) by omega]
    exact hU.at (by omega)
  rw [hx1]
  have c63 : ¬ (U.getD (k - 1) 0 % 128 = 45 ∧ 2 ≤ k ∧ sbl (U.getD (k - 2) 0) = false) → Filler_pointAt_63 q ((x0 + k : Nat) : Int) (x0 : Int) ((x0 + U.length : Nat) : Int) (U.getD (k - 1) 0 % 128) σ Q := fun nd => by
    unfold ptD at hq q0
    rw [if_neg nz, if_neg nd] at hq q0
    refine Filler_pointAt_63.i ⟨fun h6 => ?_, fun h6 => T_isLetter.s (by unfold Rg; omega) ⟨fun h5 => ?_, fun h5 => tB.i hU.1 (tB.i hU.1 ⟨by unfold Rg; omega, ?_⟩)⟩⟩
    · rw [hy] at h6
      rw [if_neg (by rw [bZ_z h6]; exact fun h => absurd h.1 (by decide))] at q0
      exact q0
    · rw [if_neg (fun h => by rw [show ltC (U.getD (k - 1) 0) = false from bZ_z h5] at h; exact absurd h.2.1 (by decide))] at q0
      exact q0
    · rw [hU.at hlt]
      refine T_isLetter.s (by unfold Rg; omega) ⟨fun h4 => ?_, fun h4 => ?_⟩
      · have hy1 : H.1 = true := by rw [hy] at h6; exact bZ_ne h6
        have L1 : ltC (U.getD (k - 1) 0) = true := bZ_ne h5
        have L0 : ltC (U.getD k 0) = true := bZ_ne h4
        show Filler_pointAt_99 q ((x0 + k : Nat) : Int) (x0 : Int) ((x0 + U.length : Nat) : Int) (((x0 + k : Nat) : Int) - 1) σ Q
        rw [show ((x0 + k : Nat) : Int) - 1 = ((x0 + (k - 1) : Nat) : Int) by omega]
        refine pa_99 hU hok hlt (fun a ha hr hor => ?_) (k - 1) (by omega) (fun i x y => by rw [show i = k - 1 by omega]; exact L1)
        have ha1 : a < k := by
          rcases hor with h | h
          · omega
          · have hs := rnN_u (U := U) k k (Nat.le_refl _) (fun i x y => by omega)
            by_cases e : a = k
            · have := rnN_le (U := U) k
              have e2 : rnN U k = k := by omega
              have e3 : rnN U k = rnN U (k - 1) := by
                conv => lhs; rw [show k = k - 1 + 1 by omega]
                unfold rnN
                rw [if_pos L1]
                cases k - 1 <;> rfl
              have := rnN_le (U := U) (k - 1)
              omega
            · omega
        refine Filler_pointAt_137.i ?_
        rw [show ((x0 + k : Nat) : Int) + 1 = ((x0 + (k + 1) : Nat) : Int) by omega]
        have hra : ∀ i, a ≤ i → i < k + 1 → ltC (U.getD i 0) = true := fun i x y => by
          by_cases e : i = k
          · rw [e]
            exact L0
          · exact hr i x (by omega)
        refine pa_142 hU hok (by omega) (fun e hae hor2 heU hre => ?_) (U.length - (k + 1)) (k + 1) (by omega) (by omega) hra
        have run1 := (lr_run (U := U) (k + 1 - a) a (fun i x y => ⟨by omega, hra i x (by omega)⟩))
        refine Filler_pointAt_180.i ⟨by unfold Rg; omega, fun h3 => ?_, fun h3 => ?_⟩
        · have ee : e = a + (lrU U a).length := hor2.resolve_left (by omega)
          have ea : a = rnN U k := hor.resolve_left (by omega)
          have w40 : (lrU U a).length ≤ 40 := by omega
          have c210 : ∀ σ', FrE σ σ' → CaC σ' x0 U H → DgC σ' H.2.1 H.2.2.1 H.2.2.2.1 H.2.2.2.2 (lrU U a) → Filler_pointAt_210 ((x0 + k : Nat) : Int) ((x0 + a : Nat) : Int) σ' Q := fun σ' f c d => by
            have hq' := hq σ' f c
            refine Filler_pointAt_210.i ?_
            rw [show ((x0 + k : Nat) : Int) - ((x0 + a : Nat) : Int) = ((k - a : Nat) : Int) by omega]
            have hW : hyW H U k = hyK H.2.1 H.2.2.1 H.2.2.2.1 H.2.2.2.2 (lrU U a) (k - a) := by
              unfold hyW
              rw [← ea, decide_eq_true w40, Bool.true_and]
            refine Filler_parts.c w40 (by omega) d ?_
            rw [decide_eq_true (show 1 ≤ k - a by omega), Bool.true_and, ← hW]
            refine ⟨fun h2 => ?_, fun h2 => ?_⟩
            · rw [if_neg (fun h => by rw [bZ_z h2] at h; exact absurd h.2.2.2 (by decide))] at hq'
              exact hq'
            · rw [if_pos ⟨hy1, L1, L0, bZ_ne h2⟩] at hq'
              exact hq'
          refine ⟨by unfold Rg; omega, fun h2 => ?_, fun h2 => ?_⟩
          · rcases hca with h | ⟨a', h1, h2', h3'⟩
            · omega
            · have : a' = a := by omega
              subst this
              exact c210 σ FrE.rf (Or.inr ⟨a', h1, h2', h3'⟩) h3'
          · rw [ee, ← Nat.add_assoc]
            refine Filler_partLetters.c hb w40 hC ⟨hU.1, by omega, fun i hi => ?_⟩ (fun σ' f h d => c210 σ' f (Or.inr ⟨a, h, w40, d⟩) d)
            have hin := lr_run (U := U) (lrU U a).length a (fun j x y => lr_in x y)
            rw [hin.2 i hi, Nat.add_assoc, hU.at (lr_in (U := U) (a := a) (j := a + i) (by omega) (by omega)).1]
        · have n40 : ¬ (lrU U (rnN U k)).length ≤ 40 := fun h => by
            have hle := rnN_le (U := U) k
            have hr2 := lr_run (U := U) (k + 1 - rnN U k) (rnN U k) (fun i x y => ⟨by omega, by
              by_cases e9 : i = k
              · rw [e9]
                exact L0
              · exact rnN_l k i x (by omega)⟩)
            rcases hor with h2 | h2
            · have : rnN U k ≤ a := by
                by_cases h1 : rnN U k ≤ a
                · exact h1
                · have hz : rnN U k = 0 ∨ ltC (U.getD (rnN U k - 1) 0) = false := by
                    have key : ∀ j, rnN U j = 0 ∨ ltC (U.getD (rnN U j - 1) 0) = false := by
                      intro j
                      induction j with
                      | zero => exact Or.inl rfl
                      | succ j ih =>
                        unfold rnN
                        split
                        · exact ih
                        · rename_i h0
                          exact Or.inr (by rw [Nat.add_sub_cancel]; exact (Bool.not_eq_true _).mp h0)
                    exact key k
                  rcases hz with hz | hz
                  · omega
                  · rw [hr (rnN U k - 1) (by omega) (by omega)] at hz
                    exact absurd hz (by decide)
              omega
            · rw [← h2] at h
              rcases hor2 with h1 | h1
              · have hin := lr_run (U := U) (e - a) a
                have := (hin (fun i x y => ⟨by omega, hre i x (by omega)⟩)).1
                omega
              · omega
          rw [if_neg (fun h => by
            unfold hyW at h
            rw [decide_eq_false n40, Bool.false_and] at h
            exact absurd h.2.2.2 (by decide))] at q0
          exact q0
      · rw [if_neg (fun h => by rw [show ltC (U.getD k 0) = false from bZ_z h4] at h; exact absurd h.2.2.1 (by decide))] at q0
        exact q0
  refine ⟨fun h6 => c63 (fun h => h6 h.1), fun h6 => ⟨by unfold Rg; omega, by unfold Rg; omega, fun h5 => c63 (fun h => by omega), fun h5 => tB.i hU.1 (tB.i hU.1 ⟨by unfold Rg; omega, ?_⟩)⟩⟩
  have hx2 : rgt (mX σ q) (((x0 + k : Nat) : Int) - 2) = U.getD (k - 2) 0 := by
    rw [show ((x0 + k : Nat) : Int) - 2 = ((x0 + (k - 2) : Nat) : Int) by omega]
    exact hU.at (by omega)
  rw [hx2]
  have bk2 := hbk (k - 2) (by omega)
  refine ⟨fun h4 => c63 (fun h => ?_), fun h4 => ?_⟩
  · rw [bk2.mp h4] at h
    exact absurd h.2.2 (by decide)
  · have s2 : sbl (U.getD (k - 2) 0) = false := by
      rw [← Bool.not_eq_true]
      exact fun h => h4 (bk2.mpr h)
    unfold ptD at q0
    rw [if_neg nz, if_pos ⟨h6, by omega, s2⟩] at q0
    exact q0
end
