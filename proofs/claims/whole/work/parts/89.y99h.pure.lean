/-! TEXT BLOCKS: what both sides share -/
theorem lsP_fo : ∀ (L : List Int), lsP L = -1 ↔ foN L = L.length
  | [] => ⟨fun _ => rfl, fun _ => rfl⟩
  | c :: r => by
    have ih := lsP_fo r
    have b := lsP_b r
    have fl := foN_l r
    show (if lsP r = -1 then (if c % 128 = 32 then -1 else 0) else lsP r + 1) = -1 ↔ (if c % 128 = 32 then foN r + 1 else 0) = r.length + 1
    by_cases h : lsP r = -1
    · rw [if_pos h]
      have e := ih.mp h
      by_cases h2 : c % 128 = 32
      · rw [if_pos h2, if_pos h2]
        exact ⟨fun _ => by omega, fun _ => rfl⟩
      · rw [if_neg h2, if_neg h2]
        exact ⟨fun h => absurd h (by decide), fun h => by omega⟩
    · rw [if_neg h]
      refine ⟨fun h2 => by omega, fun h2 => ?_⟩
      by_cases h3 : c % 128 = 32
      · rw [if_pos h3] at h2
        exact absurd (ih.mpr (by omega)) h
      · rw [if_neg h3] at h2
        omega
theorem fo_all : ∀ {L : List Int}, (∀ c ∈ L, c % 128 = 32) → foN L = L.length
  | [], _ => rfl
  | c :: r, h => by
    have e : foN (c :: r) = foN r + 1 := if_pos (h c List.mem_cons_self)
    rw [e, fo_all (fun x hx => h x (List.mem_cons_of_mem _ hx))]
    rfl
theorem fo_mem {L : List Int} (h : foN L = L.length) {c : Int} (hc : c ∈ L) : c % 128 = 32 := by
  obtain ⟨i, hi, e⟩ := List.mem_iff_getElem.mp hc
  have := (foN_at (U := L)).1 i (by omega)
  unfold List.getD at this
  rw [List.getElem?_eq_getElem hi, Option.getD_some] at this
  rw [← e]
  exact this
/-- no sign but blanks, raw and packed -/
theorem foP_pk {L : List Int} : foP (pkL L) = -1 ↔ foN L = L.length := by
  refine ⟨fun h => ?_, fun h => ?_⟩
  · have fl := foN_l L
    by_cases h2 : foN L < L.length
    · have := fo_pk h2
      omega
    · omega
  · have : foN (pkL L) = (pkL L).length := fo_all (pk_32 (q := ([], false)) (fun c hc => fo_mem h hc) (fun c hc => absurd hc List.not_mem_nil))
    unfold foP
    rw [if_neg (by omega)]
section
variable {P : List Int} {hg J W : Int} {U : List Int} {hold : Int} {many : Nat}
theorem prAB_at : ∀ (X : List (Nat × Nat × Bool)) (i j : Nat), j < X.length → ((prA P hg J W U i X).getD j ([], 0)).1 = ((prB P hg J W U hold many i X).getD j ([], 0)).1 ∧ ((prA P hg J W U i X).getD j ([], 0)).2 = 2 * bZ (X.getD j (0, 0, false)).2.2 ∧ ((prB P hg J W U hold many i X).getD j ([], 0)).2 = bZ (hoF hold many (i + j)) + 2 * bZ (X.getD j (0, 0, false)).2.2
  | [], _, j, h => absurd h (Nat.not_lt_zero _)
  | x :: r, i, 0, _ => ⟨rfl, rfl, rfl⟩
  | x :: r, i, j + 1, h => by
    have := prAB_at r (i + 1) j (by rw [List.length_cons] at h; omega)
    rw [show i + 1 + j = i + (j + 1) by omega] at this
    exact this
theorem prB_l : ∀ (X : List (Nat × Nat × Bool)) (i : Nat), (prB P hg J W U hold many i X).length = X.length
  | [], _ => rfl
  | x :: r, i => by
    show (prB P hg J W U hold many (i + 1) r).length + 1 = r.length + 1
    rw [prB_l r (i + 1)]
end
theorem map_g9 {Z : List (List Int × Int)} {o : Int} {i : Nat} (h : i < Z.length) : (Z.map (fun x => ((x.1, o, x.2) : GL9))).getD i ([], 0, 0) = ((Z.getD i ([], 0)).1, o, (Z.getD i ([], 0)).2) := by
  unfold List.getD
  rw [List.getElem?_map, List.getElem?_eq_getElem h]
  rfl
theorem liX_n {H : HY9} {U : List Int} {R1 R2 : Nat} {best : Bool} : liX H U R1 R2 best = [] ↔ U = [] := by
  refine ⟨fun h => ?_, fun h => ?_⟩
  · by_cases h2 : U = []
    · exact h2
    · have hl : 0 < U.length := by
        cases U with
        | nil => exact absurd rfl h2
        | cons c r => exact Nat.succ_pos _
      unfold liX at h
      rw [show U.length = (U.length - 1) + 1 by omega] at h
      split at h
      · rw [bsL_s hl] at h
        exact absurd h (List.cons_ne_nil _ _)
      · rw [fiL_s hl] at h
        exact absurd h (List.cons_ne_nil _ _)
  · rw [h]
    unfold liX
    split <;> rfl
/-- work only grows -/
theorem gWk_g : ∀ {C : List (List Int)} {w : Int × Int} {n : Nat}, (∀ w', gWk C w n = .inl w' → w.2 ≤ w'.2 ∧ w.1 ≤ w'.1) ∧ ∀ e, gWk C w n = .inr e → w.2 ≤ e.2.2
  | [], w, n => ⟨fun w' h => by
    have : w = w' := Sum.inl.inj h
    rw [this]
    exact ⟨Int.le_refl _, Int.le_refl _⟩, fun e h => by cases h⟩
  | c :: r, w, n => by
    have ih := gWk_g (C := r) (w := (w.1 + (20 + (c.length : Int)), w.2 + (20 + (c.length : Int)))) (n := n + 1)
    have e0 : gWk (c :: r) w n = (if 1500 ≤ n then .inr (9, w.1, w.2) else if 60000 < w.1 + (20 + (c.length : Int)) ∨ 400000 < w.2 + (20 + (c.length : Int)) then .inr (8, w.1, w.2) else gWk r (w.1 + (20 + (c.length : Int)), w.2 + (20 + (c.length : Int))) (n + 1)) := rfl
    rw [e0]
    split
    · exact ⟨fun w' h => (by cases h), fun e h => by
        rw [← Sum.inr.inj h]
        exact Int.le_refl _⟩
    · split
      · exact ⟨fun w' h => (by cases h), fun e h => by
          rw [← Sum.inr.inj h]
          exact Int.le_refl _⟩
      · refine ⟨fun w' h => ?_, fun e h => ?_⟩
        · have := ih.1 w' h
          have h1 : w.2 + (20 + (c.length : Int)) ≤ w'.2 := this.1
          have h2 : w.1 + (20 + (c.length : Int)) ≤ w'.1 := this.2
          omega
        · have h1 : w.2 + (20 + (c.length : Int)) ≤ e.2.2 := ih.2 e h
          omega
theorem gAll_g {o : Int} {fw : Bool} {Z : List (List Int × Int)} {G : GS9} : (∀ G', gAll o fw Z G = .inl G' → G.1.2 ≤ G'.1.2 ∧ G.1.1 ≤ G'.1.1) ∧ ∀ e, gAll o fw Z G = .inr e → G.1.2 ≤ e.2.2 := by
  rw [gAll_w]
  have h := gWk_g (C := Z.map (·.1)) (w := G.1) (n := G.2.1.length)
  cases h1 : gWk (Z.map (·.1)) G.1 G.2.1.length with
  | inl w =>
    refine ⟨fun G' e => ?_, fun e he => by cases he⟩
    rw [← Sum.inl.inj e]
    exact h.1 w h1
  | inr q =>
    refine ⟨fun G' e => (by cases e), fun e he => ?_⟩
    rw [← Sum.inr.inj he]
    exact h.2 q h1
theorem ntD_g {o : Int} {H : HY9} {W : Int} : ∀ {N : List (List Int)} {n : Int} {G : GS9}, (∀ q, ntD o H W N n G = .inl q → G.1.2 ≤ q.1.1.2 ∧ G.1.1 ≤ q.1.1.1 ∧ q.2.length = N.length ∧ q.1.2.2 = G.2.2 ∧ (∃ Z, q.1.2.1 = G.2.1 ++ Z)) ∧ ∀ e, ntD o H W N n G = .inr e → G.1.2 ≤ e.2.2
  | [], n, G => ⟨fun q h => by
    rw [← Sum.inl.inj h]
    exact ⟨Int.le_refl _, Int.le_refl _, rfl, rfl, [], (List.append_nil _).symm⟩, fun e h => by cases h⟩
  | N :: r, n, G => by
    have e0 : ntD o H W (N :: r) n G = (match gAll o false (prN (ntP n) ((ntP n).length : Int) 0 W (pkL N) 0 (ntX H W (pkL N) n)) G with
      | .inr e => .inr e
      | .inl G1 => match ntD o H W r (n + 1) G1 with
        | .inr e => .inr e
        | .inl q => .inl (q.1, ((G.2.1.length : Int), (G1.2.1.length : Int)) :: q.2)) := rfl
    rw [e0]
    have ga := gAll_g (o := o) (fw := false) (Z := prN (ntP n) ((ntP n).length : Int) 0 W (pkL N) 0 (ntX H W (pkL N) n)) (G := G)
    cases h1 : gAll o false (prN (ntP n) ((ntP n).length : Int) 0 W (pkL N) 0 (ntX H W (pkL N) n)) G with
    | inr e =>
      refine ⟨fun q h => (by cases h), fun e' h => ?_⟩
      rw [← Sum.inr.inj h]
      exact ga.2 e h1
    | inl G1 =>
      have g1 := ga.1 G1 h1
      have gl := gAll_l h1
      have ih := ntD_g (o := o) (H := H) (W := W) (N := r) (n := n + 1) (G := G1)
      cases h2 : ntD o H W r (n + 1) G1 with
      | inr e =>
        refine ⟨fun q h => ?_, fun e' h => ?_⟩
        · simp only [h2] at h
          cases h
        · simp only [h2] at h
          rw [← Sum.inr.inj h]
          have := ih.2 e h2
          omega
      | inl q' =>
        refine ⟨fun q h => ?_, fun e' h => ?_⟩
        · simp only [h2] at h
          rw [← Sum.inl.inj h]
          obtain ⟨i1, i2, i3, i4, Z, i5⟩ := ih.1 q' h2
          refine ⟨by show G.1.2 ≤ q'.1.1.2; omega, by show G.1.1 ≤ q'.1.1.1; omega, by rw [List.length_cons, List.length_cons, i3], ?_, ?_⟩
          · show q'.1.2.2 = _
            rw [i4, gl.2.1]
            rfl
          · show ∃ Z, q'.1.2.1 = _
            rw [i5, gl.1]
            exact ⟨_, List.append_assoc ..⟩
        · simp only [h2] at h
          cases h
/-- a block's lines are within bounds -/
theorem txG_b {o : Int} {Z : List (List Int × Int)} {G G1 : GS9} (hZ : Z ≠ []) (hB : GB9 90 G) (h : gAll o true Z G = .inl G1) : GB9 0 G1 := by
  cases Z with
  | nil => exact absurd rfl hZ
  | cons x r =>
    have h : gBd (gFin o x.1 x.2 true G) (gAll o true r) = .inl G1 := h
    cases h1 : gFin o x.1 x.2 true G with
    | inr e =>
      rw [h1] at h
      cases h
    | inl G2 =>
      rw [h1] at h
      exact gAll_b (Int.le_refl 0) r ((gFin_b hB h1).1.mo (by decide)) h
/-- the flow's new lines -/
theorem seqZ_at : ∀ (m n i : Nat), i < m → (seqZ n m).getD i 0 = ((n + i : Nat) : Int)
  | 0, _, i, h => absurd h (Nat.not_lt_zero _)
  | m + 1, n, 0, _ => rfl
  | m + 1, n, i + 1, h => by
    have := seqZ_at m (n + 1) i (by omega)
    rw [show n + 1 + i = n + (i + 1) by omega] at this
    exact this
