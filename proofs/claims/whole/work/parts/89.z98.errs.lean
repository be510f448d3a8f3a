/-! A ROUND: rules where it fails -/
section
variable {B : BF9} {M : List Int} {i : Nat} {jo : Bool} {d : RD9} {x : RF9}
theorem upB_e {r : BK9 ⊕ (Int × Int × Int)} (h : upB d r = .inr x) : x.1 = d.2.2.1 := by
  unfold upB at h
  split at h
  · cases h
  · rw [← Sum.inr.inj h]
theorem diD_e (h : diD B M i d = .inr x) : x.1 = d.2.2.1 := by
  unfold diD at h
  split at h
  · exact upB_e h
  · split at h
    · exact upB_e h
    · split at h
      · cases h
      · cases h
theorem blD_e (hMb : smB M) (hM4 : M.length ≤ 4000) (hR : RuI d.2.2.1) (h : blD B M i jo d = .inr x) : RuI x.1 := by
  have lu : (lnU M i).length ≤ 4000 := by
    have : (lnU M i).length ≤ M.length := sgT_ll
    omega
  unfold blD at h
  split at h
  · unfold dirD at h
    split at h
    · rename_i q hq
      rw [← Sum.inr.inj h]
      exact (drD_ok hMb.sg9 lu hR).2 _ hq
    · rename_i q hq
      rw [diD_e h]
      exact (drD_ok hMb.sg9 lu hR).1 _ hq
  · split at h
    · unfold heaD at h
      split at h
      · rw [← Sum.inr.inj h]
        exact hR
      · cases h
    · split at h
      · rw [upB_e h]
        exact hR
      · split at h
        · rw [upB_e h]
          exact hR
        · split at h
          · unfold itmD at h
            split at h
            · rw [← Sum.inr.inj h]
              exact hR
            · cases h
          · unfold parD at h
            rw [upB_e h]
            exact hR
theorem rnD_e (hB : BfI B) (hMb : smB M) (hM4 : M.length ≤ 4000) : ∀ {n i : Nat} {jo : Bool} {ln : Int} {d : RD9} {x : Int × RF9}, i ≤ (mlL M).length → (0 ≤ ln ∧ ln ≤ (i : Int)) → RDI d i → rnD B M n i jo ln d = .inr x → RuI x.2.1 ∧ (0 ≤ x.1 ∧ x.1 ≤ ((mlL M).length : Int))
  | 0, i, jo, ln, d, x, hi, hl, h, e => by cases e
  | n + 1, i, jo, ln, d, x, hi, hl, h, e => by
    unfold rnD at e
    by_cases c1 : (mlL M).length ≤ i
    · rw [if_pos c1] at e
      cases e
    · rw [if_neg c1] at e
      have hil : i < (mlL M).length := by omega
      by_cases c2 : kdL M i = 0
      · rw [if_pos c2] at e
        exact rnD_e hB hMb hM4 (n := n) (i := i + 1) (jo := false) (ln := ln) (d := d) (x := x) (by omega) ⟨hl.1, by omega⟩ (h.mo (by omega)) e
      · rw [if_neg c2] at e
        by_cases c3 : 60000 < d.1.1.1.1 + 15 ∨ 400000 < d.1.1.1.2.1 + 15
        · rw [if_pos c3] at e
          have e1 := Sum.inr.inj e
          rw [← e1]
          exact ⟨h.2.1, by show 0 ≤ (i : Int) + 1 ∧ (i : Int) + 1 ≤ ((mlL M).length : Int); omega⟩
        · rw [if_neg c3] at e
          cases hb : blD B M i jo (b15 d.1, d.2) with
          | inr y =>
            simp only [hb] at e
            have h1 : RuI y.1 := blD_e (d := (b15 d.1, d.2)) (x := y) hMb hM4 h.2.1 hb
            have e1 : ((i : Int) + 1, y) = x := Sum.inr.inj e
            rw [← e1]
            exact ⟨h1, by show 0 ≤ (i : Int) + 1 ∧ (i : Int) + 1 ≤ ((mlL M).length : Int); omega⟩
          | inl d' =>
            simp only [hb] at e
            have bn := bnE_l hil
            have h1 : RDI d' (bnE M i) := blD_i hB hMb hM4 hil h c3 hb
            exact rnD_e hB hMb hM4 (n := n) (i := bnE M i) (jo := decide (kdL M i = 5)) (ln := (i : Int) + 1) (d := d') (x := x) bn.2 ⟨by omega, by omega⟩ h1 e
end
