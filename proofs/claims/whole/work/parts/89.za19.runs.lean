/-! EVERY SCRIPT RUNS TO ITS END -/
theorem runs_all {L : Nat} (hL : L ≤ 3584) (scr : Nat → Int32) : Runs L scr := by
  refine runs_of (Inv := LwI L scr) hL (fun n σ ka sa h => ?_) (fun n s ka sa hn h j hj ej => ?_) ?_ (fun s ka sa h => ?_)
  · obtain ⟨o1, c, σ, rfl, -⟩ := h
    exact ⟨rfl, rfl⟩
  · obtain ⟨o1, c, σ, rfl, hI, hw, ck, k1, n1⟩ := h
    have kk : ∀ s k m, KQ L scr c s k m → LwI L scr (n + 1) s (ka + k) (sa + m) := fun s k m h => LwI.k k1 n1 h
    by_cases h20 : 20 < j
    · rw [call_out h20]
      exact kk _ 0 0 ⟨o1, c, σ, rfl, hI, hw, ck, by omega, by omega⟩
    · have hj2 : j ≤ 20 := by omega
      clear hj h20 ej
      match j, hj2 with
      | 0, _ => exact Pair.mono (call_0 (ρ := (o1, L, scr)) hI hw ck) kk
      | 1, _ => exact Pair.mono (call_1 (ρ := (o1, L, scr)) hI hw ck) kk
      | 2, _ => exact Pair.mono (call_2 (ρ := (o1, L, scr)) hI hw ck) kk
      | 3, _ => exact PairT.mono (call_3 (ρ := (o1, L, scr)) hI hw ck) kk
      | 4, _ => exact Pair.mono (call_4 (ρ := (o1, L, scr)) hI hw ck) kk
      | 5, _ => exact Pair.mono (call_5 (ρ := (o1, L, scr)) hI hw ck) kk
      | 6, _ => exact Pair.mono (call_6 (ρ := (o1, L, scr)) hI hw ck) kk
      | 7, _ => exact Pair.mono (call_7 (ρ := (o1, L, scr)) hI hw ck) kk
      | 8, _ => exact PairT.mono (call_8 (ρ := (o1, L, scr)) hI hw ck) kk
      | 9, _ => exact PairU.mono (call_9 (ρ := (o1, L, scr)) hI hw ck) kk
      | 10, _ => exact PairU.mono (call_10 (ρ := (o1, L, scr)) hI hw ck) kk
      | 11, _ => exact PairU.mono (call_11 (ρ := (o1, L, scr)) hI hw ck) kk
      | 12, _ => exact PairU.mono (call_12 (ρ := (o1, L, scr)) hI hw ck) kk
      | 13, _ => exact PairU.mono (call_13 (ρ := (o1, L, scr)) hI hw ck) kk
      | 14, _ => exact Pair.mono (call_14 (ρ := (o1, L, scr)) hI hw ck) kk
      | 15, _ => exact Pair.mono (call_15 (ρ := (o1, L, scr)) hI hw ck) kk
      | 16, _ => exact Pair.mono (call_16 (ρ := (o1, L, scr)) hI hw ck) kk
      | 17, _ => exact Pair.mono (call_17 (ρ := (o1, L, scr)) hI hw ck) kk
      | 18, _ => exact PairT.mono (call_18 (ρ := (o1, L, scr)) hI hw ck) kk
      | 19, _ => exact PairU.mono (call_19 (ρ := (o1, L, scr)) hI hw ck) kk
      | 20, _ => exact Pair.mono (call_20 (ρ := (o1, L, scr)) hI hw ck) kk
      | j + 21, h => exact absurd h (by omega)
  · exact ⟨fun _ => 0, c16, ms0, ms0_c.symm, ms0_i, ms0_w, c16_k, by omega, by omega⟩
  · obtain ⟨o1, c, σ, -, -, -, ck, k1, n1⟩ := h
    have := Ph_b ck
    have : L / 7 ≤ 512 := by omega
    omega
