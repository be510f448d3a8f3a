/-! ROWS PACKED: where a place of the raw row comes to stand -/
def gP (L : List Int) (k : Nat) : Nat := (pkL (L.take k)).length + (if (pkS (L.take k)).2 = true ∧ 0 < (pkL (L.take k)).length then 1 else 0)
section
variable {L : List Int} {H : HY9}
theorem gP_0 : gP L 0 = 0 := rfl
/-- a sign -/
theorem gP_n {k : Nat} (hk : k < L.length) (hb : sbl (L.getD k 0) = false) : gP L (k + 1) = gP L k + 1 ∧ (pkL (L.take (k + 1))).length = gP L k + 1 ∧ (pkL (L.take (k + 1))).getD (gP L k) 0 = L.getD k 0 ∧ (pkS (L.take (k + 1))).2 = false := by
  have e := pkL_nb (L := L.take k) hb
  rw [← take_sn hk] at e
  have l1 : (if (pkS (L.take k)).2 = true ∧ 0 < (pkL (L.take k)).length then pkL (L.take k) ++ [32] else pkL (L.take k)).length = gP L k := by
    unfold gP
    split
    · rw [List.length_append, List.length_singleton]
    · rfl
  have l2 : (pkL (L.take (k + 1))).length = gP L k + 1 := by rw [e.1, List.length_append, l1, List.length_singleton]
  refine ⟨?_, l2, ?_, e.2⟩
  · conv => lhs; unfold gP
    rw [l2, e.2, if_neg (fun h => absurd h.1 (by decide))]
  · rw [e.1, ← l1, getD_s]
/-- a blank -/
theorem gP_b {k : Nat} (hk : k < L.length) (hb : sbl (L.getD k 0) = true) : pkL (L.take (k + 1)) = pkL (L.take k) ∧ (pkS (L.take (k + 1))).2 = true ∧ gP L (k + 1) = (pkL (L.take k)).length + (if 0 < (pkL (L.take k)).length then 1 else 0) := by
  have e1 := pkL_bl (L := L.take k) hb
  have e2 := pkS_bl (L := L.take k) hb
  rw [← take_sn hk] at e1 e2
  refine ⟨e1, e2, ?_⟩
  unfold gP
  rw [e1, e2]
  by_cases h : 0 < (pkL (L.take k)).length
  · rw [if_pos ⟨rfl, h⟩, if_pos h]
  · rw [if_neg (fun h9 => h h9.2), if_neg h]
/-- what is known behind a sign, a blank -/
theorem gP_fn {k : Nat} (h1 : 1 ≤ k) (hk : k ≤ L.length) (hb : sbl (L.getD (k - 1) 0) = false) : gP L k = (pkL (L.take k)).length ∧ 0 < gP L k ∧ gP L k = gP L (k - 1) + 1 := by
  have := gP_n (L := L) (k := k - 1) (by omega) hb
  rw [show k - 1 + 1 = k by omega] at this
  exact ⟨by omega, by omega, this.1⟩
theorem gP_e {k : Nat} (h1 : 1 ≤ k) (hk : k < L.length) (hb1 : sbl (L.getD (k - 1) 0) = false) (hb : sbl (L.getD k 0) = true) : gP L (k + 1) = gP L k + 1 := by
  have e := gP_fn h1 (by omega) hb1
  have e2 := gP_b hk hb
  rw [e2.2.2, if_pos (by omega)]
  omega
theorem gP_bb {k : Nat} (h1 : 1 ≤ k) (hk : k < L.length) (hb1 : sbl (L.getD (k - 1) 0) = true) (hb : sbl (L.getD k 0) = true) : gP L (k + 1) = gP L k := by
  have e := gP_b (L := L) (k := k - 1) (by omega) hb1
  rw [show k - 1 + 1 = k by omega] at e
  have e2 := gP_b hk hb
  rw [e2.2.2, e.2.2, e.1]
theorem gP_s1 {k : Nat} (hk : k < L.length) : gP L k ≤ gP L (k + 1) ∧ gP L (k + 1) ≤ gP L k + 1 := by
  cases hb : sbl (L.getD k 0) with
  | false =>
    have := (gP_n hk hb).1
    omega
  | true =>
    rw [(gP_b hk hb).2.2]
    unfold gP
    by_cases h : 0 < (pkL (L.take k)).length
    · rw [if_pos h]
      split <;> omega
    · rw [if_neg h, if_neg (fun h9 => h h9.2)]
      omega
theorem gP_mono {j k : Nat} (h : j ≤ k) (hk : k ≤ L.length) : gP L j ≤ gP L k := by
  induction k with
  | zero =>
    rw [show j = 0 by omega]
    exact Nat.le_refl _
  | succ k ih =>
    by_cases e : j = k + 1
    · rw [e]
      exact Nat.le_refl _
    · exact Nat.le_trans (ih (by omega) (by omega)) (gP_s1 (by omega)).1
theorem gP_add {a n : Nat} (hn : a + n ≤ L.length) (h : ∀ j, a ≤ j → j < a + n → sbl (L.getD j 0) = false) : gP L (a + n) = gP L a + n := by
  induction n with
  | zero => rfl
  | succ n ih =>
    rw [← Nat.add_assoc, (gP_n (by omega) (h (a + n) (by omega) (by omega))).1, ih (by omega) (fun j x y => h j x (by omega))]
    rfl
/-- blanks one behind the other -/
theorem gP_bs {e n : Nat} (h1 : 1 ≤ e) (hb1 : sbl (L.getD (e - 1) 0) = false) (hn : e + n + 1 ≤ L.length) (h : ∀ j, e ≤ j → j < e + n + 1 → sbl (L.getD j 0) = true) : gP L (e + n + 1) = gP L e + 1 := by
  induction n with
  | zero => exact gP_e h1 (by omega) hb1 (h e (by omega) (by omega))
  | succ n ih =>
    have := gP_bb (L := L) (k := e + n + 1) (by omega) (by omega) (by rw [Nat.add_sub_cancel]; exact h (e + n) (by omega) (by omega)) (h (e + n + 1) (by omega) (by omega))
    rw [show e + (n + 1) + 1 = e + n + 1 + 1 by omega, this]
    exact ih (by omega) (fun j x y => h j x (by omega))
/-- the first blanks -/
theorem gP_z {n : Nat} (hn : n ≤ L.length) (h : ∀ j, j < n → sbl (L.getD j 0) = true) : gP L n = 0 ∧ pkL (L.take n) = [] := by
  induction n with
  | zero => exact ⟨rfl, rfl⟩
  | succ n ih =>
    have i := ih (by omega) (fun j x => h j (by omega))
    have e := gP_b (L := L) (k := n) (by omega) (h n (by omega))
    rw [i.2] at e
    exact ⟨e.2.2, e.1⟩
theorem pkF_pre (q : List Int × Bool) (c : Int) : ∃ t, (pkF q c).1 = q.1 ++ t := by
  unfold pkF
  split
  · exact ⟨[], (List.append_nil _).symm⟩
  · show ∃ t, (if q.2 = true ∧ 0 < q.1.length then q.1 ++ [32] else q.1) ++ [c] = q.1 ++ t
    split
    · exact ⟨[32] ++ [c], by rw [List.append_assoc]⟩
    · exact ⟨[c], rfl⟩
theorem pk_pre : ∀ (M : List Int) (q : List Int × Bool), ∃ t, (M.foldl pkF q).1 = q.1 ++ t
  | [], q => ⟨[], (List.append_nil _).symm⟩
  | c :: M, q => by
    obtain ⟨t, ht⟩ := pk_pre M (pkF q c)
    obtain ⟨t1, h1⟩ := pkF_pre q c
    exact ⟨t1 ++ t, by rw [List.foldl_cons, ht, h1, List.append_assoc]⟩
theorem pkL_pre (k : Nat) : ∃ t, pkL L = pkL (L.take k) ++ t := by
  have e : pkS L = (L.drop k).foldl pkF (pkS (L.take k)) := by
    unfold pkS
    rw [← List.foldl_append, List.take_append_drop]
  obtain ⟨t, ht⟩ := pk_pre (L.drop k) (pkS (L.take k))
  refine ⟨t, ?_⟩
  show (pkS L).1 = _
  rw [e, ht]
  rfl
theorem pre_at {A t : List Int} {i : Nat} (h : i < A.length) : (A ++ t).getD i 0 = A.getD i 0 := getD_l h
/-- a sign stands at its place -/
theorem gP_at {k : Nat} (hk : k < L.length) (hb : sbl (L.getD k 0) = false) : (pkL L).getD (gP L k) 0 = L.getD k 0 ∧ gP L k < (pkL L).length := by
  have e := gP_n hk hb
  obtain ⟨t, ht⟩ := pkL_pre (L := L) (k + 1)
  rw [ht]
  exact ⟨by rw [pre_at (by omega)]; exact e.2.2.1, by rw [List.length_append]; omega⟩
/-- ahead of a sign behind blanks stands a blank, or nothing -/
theorem gP_32 {k : Nat} (h1 : 1 ≤ k) (hk : k < L.length) (hb : sbl (L.getD k 0) = false) (hb1 : sbl (L.getD (k - 1) 0) = true) : gP L k = 0 ∨ (1 ≤ gP L k ∧ (pkL L).getD (gP L k - 1) 0 = 32) := by
  have e := gP_b (L := L) (k := k - 1) (by omega) hb1
  rw [show k - 1 + 1 = k by omega] at e
  by_cases h0 : 0 < (pkL (L.take k)).length
  · have e3 := pkL_nb (L := L.take k) hb
    rw [← take_sn hk] at e3
    rw [if_pos ⟨e.2.1, h0⟩] at e3
    have eg : gP L k = (pkL (L.take k)).length + 1 := by
      rw [e.2.2, ← e.1, if_pos h0]
    obtain ⟨t, ht⟩ := pkL_pre (L := L) (k + 1)
    refine Or.inr ⟨by omega, ?_⟩
    rw [ht, e3.1, eg, Nat.add_sub_cancel, pre_at (by rw [List.length_append, List.length_append, List.length_singleton]; omega), pre_at (by rw [List.length_append, List.length_singleton]; omega), getD_s]
  · refine Or.inl ?_
    rw [e.2.2, ← e.1, if_neg h0]
    omega
/-- ahead of a sign: the sign ahead -/
theorem gP_a1 {k : Nat} (h1 : 1 ≤ k) (hk : k < L.length) (hb1 : sbl (L.getD (k - 1) 0) = false) : 1 ≤ gP L k ∧ gP L k - 1 = gP L (k - 1) ∧ (pkL L).getD (gP L k - 1) 0 = L.getD (k - 1) 0 := by
  have e := gP_fn h1 (by omega) hb1
  have e2 := gP_at (L := L) (k := k - 1) (by omega) hb1
  have e3 : gP L k - 1 = gP L (k - 1) := by omega
  exact ⟨by omega, e3, by rw [e3]; exact e2.1⟩
/-- where the last sign stands -/
theorem gP_end {n : Nat} (hn : n ≤ L.length) (h : ∀ j, n ≤ j → j < L.length → sbl (L.getD j 0) = true) : pkL L = pkL (L.take n) := by
  have key : ∀ m, n + m ≤ L.length → pkL (L.take (n + m)) = pkL (L.take n) := by
    intro m
    induction m with
    | zero => exact fun _ => rfl
    | succ m ih =>
      intro hm
      rw [← Nat.add_assoc, (gP_b (by omega) (h (n + m) (by omega) (by omega))).1]
      exact ih (by omega)
  have := key (L.length - n) (by omega)
  rw [show n + (L.length - n) = L.length by omega, List.take_length] at this
  exact this
theorem sbl_128 {c : Int} (h : sbl c = true) : c % 128 = 32 := by
  unfold sbl at h
  have := of_decide_eq_true h
  omega
/-- behind the last sign of a word -/
theorem gP_w {e : Nat} (h1 : 1 ≤ e) (he : e ≤ L.length) (hb1 : sbl (L.getD (e - 1) 0) = false) (h : e = L.length ∨ sbl (L.getD e 0) = true) : (pkL L).length ≤ gP L e ∨ (pkL L).getD (gP L e) 0 = 32 := by
  have ef := gP_fn h1 he hb1
  by_cases hall : ∀ j, e ≤ j → j < L.length → sbl (L.getD j 0) = true
  · rw [gP_end he hall]
    exact Or.inl (by omega)
  · have ⟨j, hj⟩ : ∃ j, ¬ (e ≤ j → j < L.length → sbl (L.getD j 0) = true) := Classical.not_forall.mp hall
    have key : ∀ n, (∀ i, e ≤ i → i < e + n → sbl (L.getD i 0) = true) ∨ ∃ i, e ≤ i ∧ i < e + n ∧ i < L.length ∧ sbl (L.getD i 0) = false ∧ ∀ t, e ≤ t → t < i → sbl (L.getD t 0) = true := by
      intro n
      induction n with
      | zero => exact Or.inl (fun i x y => by omega)
      | succ n ih =>
        rcases ih with ih | ⟨i, i1, i2, i3⟩
        · cases hb : sbl (L.getD (e + n) 0) with
          | true =>
            refine Or.inl (fun i x y => ?_)
            by_cases e9 : i = e + n
            · rw [e9]
              exact hb
            · exact ih i x (by omega)
          | false =>
            by_cases hl : e + n < L.length
            · exact Or.inr ⟨e + n, by omega, by omega, hl, hb, ih⟩
            · exact absurd (fun x y => ih j x (by omega)) hj
        · exact Or.inr ⟨i, i1, by omega, i3⟩
    rcases key (L.length - e) with k | ⟨i, i1, i2, i3, i4, i5⟩
    · exact absurd (fun x y => k j x (by omega)) hj
    · have hie : e < i := by
        by_cases e9 : e = i
        · rcases h with h | h
          · omega
          · rw [e9, i4] at h
            exact absurd h (by decide)
        · omega
      have eg := gP_bs (L := L) (e := e) (n := i - e - 1) h1 hb1 (by omega) (fun t x y => i5 t x (by omega))
      rw [show e + (i - e - 1) + 1 = i by omega] at eg
      rcases gP_32 (L := L) (k := i) (by omega) i3 i4 (i5 (i - 1) (by omega) (by omega)) with h9 | h9
      · omega
      · refine Or.inr ?_
        rw [eg, Nat.add_sub_cancel] at h9
        exact h9.2
theorem nl_b {c : Int} (h : sbl c = true) : ltC c = false := by
  rw [← Bool.not_eq_true]
  intro h9
  rw [(lt_i h9).1] at h
  exact absurd h (by decide)
theorem rnN_0 {U : List Int} : ∀ j, rnN U j = 0 ∨ ltC (U.getD (rnN U j - 1) 0) = false
  | 0 => Or.inl rfl
  | j + 1 => by
    unfold rnN
    split
    · exact rnN_0 j
    · rename_i h0
      exact Or.inr (by rw [Nat.add_sub_cancel]; exact (Bool.not_eq_true _).mp h0)
/-- letters of the packed row are those of the raw one -/
theorem lr_pk {a : Nat} (ha : a < L.length) (hl : ltC (L.getD a 0) = true) : lrU (pkL L) (gP L a) = lrU L a := by
  have hin : ∀ j, a ≤ j → j < a + (lrU L a).length → j < L.length ∧ ltC (L.getD j 0) = true := fun j x y => lr_in x y
  have hr := lr_run (U := L) (lrU L a).length a hin
  have hr1 := lr_s ha hl
  have l1 : 1 ≤ (lrU L a).length := by rw [hr1, List.length_cons]; omega
  have hend := lr_end (U := L) (a := a)
  generalize hn : (lrU L a).length = n at *
  have hnL : a + n ≤ L.length := by
    have := (hin (a + n - 1) (by omega) (by omega)).1
    omega
  have sh : ∀ i, i ≤ n → gP L (a + i) = gP L a + i := fun i hi => gP_add (by omega) (fun j x y => (lt_i (hin j x (by omega)).2).1)
  have hU : ∀ j, gP L a ≤ j → j < gP L a + n → j < (pkL L).length ∧ ltC ((pkL L).getD j 0) = true := fun j x y => by
    have h1 := hin (a + (j - gP L a)) (by omega) (by omega)
    have h2 := gP_at h1.1 (lt_i h1.2).1
    rw [sh _ (by omega), show gP L a + (j - gP L a) = j by omega] at h2
    rw [h2.1]
    exact ⟨h2.2, h1.2⟩
  have hu := lr_run (U := pkL L) n (gP L a) hU
  have he : lrU (pkL L) (gP L a + n) = [] := by
    refine lr_e ?_
    rw [← sh n (Nat.le_refl _)]
    have hb1 : sbl (L.getD (a + n - 1) 0) = false := (lt_i (hin (a + n - 1) (by omega) (by omega)).2).1
    by_cases h9 : a + n < L.length
    · have hnl := hend.resolve_left (by omega)
      cases hb : sbl (L.getD (a + n) 0) with
      | false =>
        refine Or.inr ?_
        rw [(gP_at h9 hb).1]
        exact hnl
      | true =>
        rcases gP_w (L := L) (e := a + n) (by omega) hnL hb1 (Or.inr hb) with h8 | h8
        · exact Or.inl h8
        · exact Or.inr (by rw [h8]; decide)
    · rcases gP_w (L := L) (e := a + n) (by omega) hnL hb1 (Or.inl (by omega)) with h8 | h8
      · exact Or.inl h8
      · exact Or.inr (by rw [h8]; decide)
  rw [he, List.length_nil] at hu
  refine list_ext (by omega) (fun j hj => ?_)
  rw [hu.2 j (by omega), hr.2 j (by omega), ← sh j (by omega), (gP_at (hin (a + j) (by omega) (by omega)).1 (lt_i (hin (a + j) (by omega) (by omega)).2).1).1]
/-- points of the packed row are those of the raw one -/
theorem pt_pk {k : Nat} (hk : k < L.length) (hb : sbl (L.getD k 0) = false) : ptD H (pkL L) (gP L k) = ptD H L k := by
  have ha := gP_at hk hb
  by_cases h0 : k = 0
  · subst h0
    rw [gP_0]
    unfold ptD
    rw [if_pos (Or.inl rfl), if_pos (Or.inl rfl)]
  · cases hb1 : sbl (L.getD (k - 1) 0) with
    | true =>
      have e1 : ptD H L k = 0 := by
        have := sbl_128 hb1
        unfold ptD
        split
        · rfl
        · rw [if_neg (by omega), if_neg (fun h => by rw [nl_b hb1] at h; exact absurd h.2.1 (by decide))]
      rw [e1]
      rcases gP_32 (by omega) hk hb hb1 with h | h
      · rw [h]
        unfold ptD
        rw [if_pos (Or.inl rfl)]
      · have := pt_1 (H := H) h.2
        rw [show gP L k - 1 + 1 = gP L k by omega] at this
        exact this
    | false =>
      obtain ⟨g1, g2, g3⟩ := gP_a1 (by omega) hk hb1
      unfold ptD
      rw [ha.1, hb, g3]
      have n1 : ¬ (gP L k = 0 ∨ (pkL L).length ≤ gP L k ∨ false = true) := by
        rintro (h | h | h)
        · omega
        · omega
        · exact absurd h (by decide)
      have n2 : ¬ (k = 0 ∨ L.length ≤ k ∨ false = true) := by
        rintro (h | h | h)
        · omega
        · omega
        · exact absurd h (by decide)
      rw [if_neg n1, if_neg n2]
      have d : (L.getD (k - 1) 0 % 128 = 45 ∧ 2 ≤ gP L k ∧ sbl ((pkL L).getD (gP L k - 2) 0) = false) ↔ (L.getD (k - 1) 0 % 128 = 45 ∧ 2 ≤ k ∧ sbl (L.getD (k - 2) 0) = false) := by
        by_cases h2 : 2 ≤ k
        · cases hb2 : sbl (L.getD (k - 2) 0) with
          | false =>
            obtain ⟨f1, f2, f3⟩ := gP_a1 (L := L) (k := k - 1) (by omega) (by omega) (by rw [show k - 1 - 1 = k - 2 by omega]; exact hb2)
            rw [← g2, show gP L k - 1 - 1 = gP L k - 2 by omega, show k - 1 - 1 = k - 2 by omega] at f3
            rw [f3, hb2]
            exact ⟨fun h => ⟨h.1, h2, rfl⟩, fun h => ⟨h.1, by omega, rfl⟩⟩
          | true =>
            refine ⟨fun h => ?_, fun h => absurd h.2.2 (by decide)⟩
            rcases gP_32 (L := L) (k := k - 1) (by omega) (by omega) hb1 (by rw [show k - 1 - 1 = k - 2 by omega]; exact hb2) with h9 | h9
            · omega
            · rw [← g2, show gP L k - 1 - 1 = gP L k - 2 by omega] at h9
              rw [h9.2] at h
              exact absurd h.2.2 (by decide)
        · have : k = 1 := by omega
          subst this
          have : gP L 1 = 1 := by
            rw [show (1 : Nat) - 1 = 0 from rfl, gP_0] at g2
            omega
          omega
      have w : (H.1 = true ∧ ltC (L.getD (k - 1) 0) = true ∧ ltC (L.getD k 0) = true ∧ hyW H (pkL L) (gP L k) = true) ↔ (H.1 = true ∧ ltC (L.getD (k - 1) 0) = true ∧ ltC (L.getD k 0) = true ∧ hyW H L k = true) := by
        by_cases hl : ltC (L.getD (k - 1) 0) = true
        · have hle := rnN_le (U := L) k
          have hrl := rnN_l (U := L) k
          have hlt : rnN L k < k := by
            by_cases e : rnN L k = k
            · have e3 : rnN L k = rnN L (k - 1) := by
                conv => lhs; rw [show k = k - 1 + 1 by omega]
                unfold rnN
                rw [if_pos hl]
                cases k - 1 <;> rfl
              have := rnN_le (U := L) (k - 1)
              omega
            · omega
          have sh : ∀ j, rnN L k ≤ j → j ≤ k → gP L j = gP L (rnN L k) + (j - rnN L k) := fun j x y => by
            have := gP_add (L := L) (a := rnN L k) (n := j - rnN L k) (by omega) (fun i x2 y2 => (lt_i (hrl i x2 (by omega))).1)
            rw [show rnN L k + (j - rnN L k) = j by omega] at this
            exact this
          have shk := sh k hle (Nat.le_refl _)
          have ru : rnN (pkL L) (gP L k) = gP L (rnN L k) := by
            refine rnN_u _ _ (by omega) (fun j x y => ?_) ?_
            · have h1 := hrl (rnN L k + (j - gP L (rnN L k))) (by omega) (by omega)
              have h2 := gP_at (L := L) (k := rnN L k + (j - gP L (rnN L k))) (by omega) (lt_i h1).1
              rw [sh _ (by omega) (by omega), show gP L (rnN L k) + (rnN L k + (j - gP L (rnN L k)) - rnN L k) = j by omega] at h2
              rw [h2.1]
              exact h1
            · rcases rnN_0 (U := L) k with h | h
              · exact Or.inl (by rw [h]; rfl)
              · by_cases hz : rnN L k = 0
                · exact Or.inl (by rw [hz]; rfl)
                · cases hbz : sbl (L.getD (rnN L k - 1) 0) with
                  | false =>
                    obtain ⟨f1, f2, f3⟩ := gP_a1 (L := L) (k := rnN L k) (by omega) (by omega) hbz
                    exact Or.inr (by rw [f3]; exact h)
                  | true =>
                    rcases gP_32 (L := L) (k := rnN L k) (by omega) (by omega) (lt_i (hrl _ (Nat.le_refl _) hlt)).1 hbz with h9 | h9
                    · exact Or.inl h9
                    · exact Or.inr (by rw [h9.2]; decide)
          have lp := lr_pk (L := L) (a := rnN L k) (by omega) (hrl _ (Nat.le_refl _) hlt)
          have ew : hyW H (pkL L) (gP L k) = hyW H L k := by
            unfold hyW
            rw [ru, lp, show gP L k - gP L (rnN L k) = k - rnN L k by omega]
          rw [ew]
        · exact ⟨fun h => absurd h.2.1 hl, fun h => absurd h.2.1 hl⟩
      simp only [d, w]
end
