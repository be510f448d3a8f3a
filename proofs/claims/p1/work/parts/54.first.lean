/-! ONE CALL ON A FRESH OBJECT -/
theorem t0 {L : Nat} {scr : Nat → Int32} : TR (σ0 L scr) (sX (σ0 L scr) 1) := ⟨Nat.zero_le _, rfl, fun j h => absurd h (Nat.not_lt_zero _)⟩
theorem kp1 {L : Nat} {scr : Nat → Int32} {σ : SS} {k s : Nat} (hN : sN σ = L) (hS : sS σ = scr) (hk : k ≤ 10000) (hs : s ≤ 1000000) : KP L scr σ k s := ⟨hN, hS, hk, hs⟩
theorem first_feed {L : Nat} {scr : Nat → Int32} {a b c : Int64} : Pair 146 303 [.long a, .long b, .long c] (σ0 L scr) (KP L scr) := by
  refine pair_feed t0 (show 1 ≤ 16 by decide) (fun c' k s hG => ?_)
  have hc : sC (σ0 L scr) 1 = 16 := rfl
  rw [hc] at hG
  obtain ⟨h1, h2, h3, h4⟩ := hG
  have e := (rfn_fr (a := a) (b := b) (c := c) 24 0 (ip (uX (σ0 L scr) 1 c' (fdL a b c (sX (σ0 L scr) 1))) 246 0 0)).1
  refine kp1 ?_ ?_ (by omega) (by omega)
  · exact congrArg (fun q => q.2.2.2.2.2.1) e
  · exact congrArg (fun q => q.2.2.2.2.2.2) e
theorem first_call {L : Nat} {scr : Nat → Int32} {w : Nat → Int32} : ∀ j : Nat, CallOK j w (σ0 L scr) (KP L scr)
  | 0 => first_feed
  | 1 => pair_g (by decide +kernel) (by decide +kernel) gq_write
  | 2 => pair_g (by decide +kernel) (by decide +kernel) gq_add
  | 3 => by
    show PairT 149 311 _ [.int (w 1)] _ _
    rcases le_cases (x := w 1) 7 (by decide) with h | ⟨j, hj, e⟩
    · exact out_replace h (kp1 rfl rfl (by decide) (by decide))
    · rw [e]
      match j, hj with
      | 0, _ => exact pairT_g (by decide +kernel) (by decide +kernel) gq_replace_0
      | 1, _ => exact pairT_g (by decide +kernel) (by decide +kernel) gq_replace_1
      | 2, _ => exact pairT_g (by decide +kernel) (by decide +kernel) gq_replace_2
      | 3, _ => exact pairT_g (by decide +kernel) (by decide +kernel) gq_replace_3
      | 4, _ => exact pairT_g (by decide +kernel) (by decide +kernel) gq_replace_4
      | 5, _ => exact pairT_g (by decide +kernel) (by decide +kernel) gq_replace_5
      | 6, _ => exact pairT_g (by decide +kernel) (by decide +kernel) gq_replace_6
      | 7, _ => exact pairT_g (by decide +kernel) (by decide +kernel) gq_replace_7
      | n + 8, h => exact absurd h (by omega)
  | 4 => pair_g (by decide +kernel) (by decide +kernel) gq_back
  | 5 => emp_find rfl rfl (kp1 rfl rfl (by decide) (by decide))
  | 6 => pair_letter ⟨Nat.zero_le _, rfl, fun j h => absurd h (Nat.not_lt_zero _)⟩ (kp1 rfl rfl (by decide) (by decide))
  | 7 => pair_g (by decide +kernel) (by decide +kernel) gq_set
  | 8 => pairT_g (by decide +kernel) (by decide +kernel) gq_pages
  | 9 => nop_lines rfl rfl (kp1 rfl rfl (by decide) (by decide))
  | 10 => nop_length rfl rfl (kp1 rfl rfl (by decide) (by decide))
  | 11 => nop_sign rfl rfl (kp1 rfl rfl (by decide) (by decide))
  | 12 => nop_style rfl rfl (kp1 rfl rfl (by decide) (by decide))
  | 13 => nop_origin rfl rfl (kp1 rfl rfl (by decide) (by decide))
  | 14 => pair_g (by decide +kernel) (by decide +kernel) gq_labelled
  | 15 => pair_g (by decide +kernel) (by decide +kernel) gq_tell
  | 16 => pair_g (by decide +kernel) (by decide +kernel) gq_hyphens
  | 17 => pair_answer ⟨Nat.zero_le _, rfl, fun j h => absurd h (Nat.not_lt_zero _)⟩ (kp1 rfl rfl (by decide) (by decide))
  | 18 => pairT_g (by decide +kernel) (by decide +kernel) gq_keep
  | 19 => nop_changed rfl rfl (kp1 rfl rfl (by decide) (by decide))
  | 20 => by
    show Pair 166 333 [.int (w 1)] _ _
    rcases le_cases (x := w 1) 19 (by decide) with h | ⟨j, hj, e⟩
    · exact out_count h (kp1 rfl rfl (by decide) (by decide))
    · rw [e]
      match j, hj with
      | 0, _ => exact pair_g (by decide +kernel) (by decide +kernel) gq_count_0
      | 1, _ => exact pair_g (by decide +kernel) (by decide +kernel) gq_count_1
      | 2, _ => exact pair_g (by decide +kernel) (by decide +kernel) gq_count_2
      | 3, _ => exact pair_g (by decide +kernel) (by decide +kernel) gq_count_3
      | 4, _ => exact pair_g (by decide +kernel) (by decide +kernel) gq_count_4
      | 5, _ => exact pair_g (by decide +kernel) (by decide +kernel) gq_count_5
      | 6, _ => exact pair_g (by decide +kernel) (by decide +kernel) gq_count_6
      | 7, _ => exact pair_g (by decide +kernel) (by decide +kernel) gq_count_7
      | 8, _ => exact pair_g (by decide +kernel) (by decide +kernel) gq_count_8
      | 9, _ => exact pair_g (by decide +kernel) (by decide +kernel) gq_count_9
      | 10, _ => exact pair_g (by decide +kernel) (by decide +kernel) gq_count_10
      | 11, _ => exact pair_g (by decide +kernel) (by decide +kernel) gq_count_11
      | 12, _ => exact pair_g (by decide +kernel) (by decide +kernel) gq_count_12
      | 13, _ => exact pair_g (by decide +kernel) (by decide +kernel) gq_count_13
      | 14, _ => exact pair_g (by decide +kernel) (by decide +kernel) gq_count_14
      | 15, _ => exact pair_g (by decide +kernel) (by decide +kernel) gq_count_15
      | 16, _ => exact pair_g (by decide +kernel) (by decide +kernel) gq_count_16
      | 17, _ => exact pair_g (by decide +kernel) (by decide +kernel) gq_count_17
      | 18, _ => exact pair_g (by decide +kernel) (by decide +kernel) gq_count_18
      | 19, _ => exact pair_g (by decide +kernel) (by decide +kernel) gq_count_19
      | n + 20, h => exact absurd h (by omega)
  | j + 21 => kp1 rfl rfl (by decide) (by decide)
theorem runs_one {L : Nat} (hL : L ≤ 7) (scr : Nat → Int32) : Runs L scr := by
  refine runs_of (Inv := fun n σ ka sa => (n = 0 ∧ σ = σ0 L scr ∧ ka = 0 ∧ sa = 0) ∨ (0 < n ∧ KP L scr σ ka sa)) (by omega) ?_ ?_ ?_ ?_
  · rintro n σ ka sa (⟨_, rfl, _, _⟩ | ⟨_, h⟩)
    · exact ⟨rfl, rfl⟩
    · exact ⟨h.1, h.2.1⟩
  · rintro n σ ka sa hn (⟨rfl, rfl, rfl, rfl⟩ | ⟨h, _⟩) j hj ej
    · have e : (fun (σ2 : SS) (k s : Nat) => (0 + 1 = 0 ∧ σ2 = σ0 L scr ∧ 0 + k = 0 ∧ 0 + s = 0) ∨ (0 < 0 + 1 ∧ KP L scr σ2 (0 + k) (0 + s))) = KP L scr := by
        funext σ2 k s
        simp
      rw [e]
      exact first_call j
    · omega
  · exact Or.inl ⟨rfl, rfl, rfl, rfl⟩
  · rintro σ ka sa (⟨_, _, rfl, rfl⟩ | ⟨_, h⟩)
    · exact ⟨by decide, by decide⟩
    · exact ⟨by have := h.2.2.1; omega, by have := h.2.2.2; omega⟩
