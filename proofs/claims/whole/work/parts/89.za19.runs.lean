/-! EVERY SCRIPT RUNS TO ITS END -/
section
variable {σ : MS} {ρ : MR9} {c : Nat → Nat} {w : Nat → Int32} {K : KK}
theorem cok_0 (h : Inv9 σ) (wf : WF σ) (ck : CK c) (kk : ∀ s k m, KQ ρ.2.1 ρ.2.2 c s k m → K s k m) : CallOK 0 w (cv ρ c σ) K := by
  have q := Pair.mono (call_0 (w := w) (ρ := ρ) h wf ck) kk
  exact q
theorem cok_1 (h : Inv9 σ) (wf : WF σ) (ck : CK c) (kk : ∀ s k m, KQ ρ.2.1 ρ.2.2 c s k m → K s k m) : CallOK 1 w (cv ρ c σ) K := by
  have q := Pair.mono (call_1 (ρ := ρ) h wf ck) kk
  exact q
theorem cok_2 (h : Inv9 σ) (wf : WF σ) (ck : CK c) (kk : ∀ s k m, KQ ρ.2.1 ρ.2.2 c s k m → K s k m) : CallOK 2 w (cv ρ c σ) K := by
  have q := Pair.mono (call_2 (ρ := ρ) h wf ck) kk
  exact q
theorem cok_3 (h : Inv9 σ) (wf : WF σ) (ck : CK c) (kk : ∀ s k m, KQ ρ.2.1 ρ.2.2 c s k m → K s k m) : CallOK 3 w (cv ρ c σ) K := by
  have q := PairT.mono (call_3 (w := w) (ρ := ρ) h wf ck) kk
  exact q
theorem cok_4 (h : Inv9 σ) (wf : WF σ) (ck : CK c) (kk : ∀ s k m, KQ ρ.2.1 ρ.2.2 c s k m → K s k m) : CallOK 4 w (cv ρ c σ) K := by
  have q := Pair.mono (call_4 (ρ := ρ) h wf ck) kk
  exact q
theorem cok_5 (h : Inv9 σ) (wf : WF σ) (ck : CK c) (kk : ∀ s k m, KQ ρ.2.1 ρ.2.2 c s k m → K s k m) : CallOK 5 w (cv ρ c σ) K := by
  have q := Pair.mono (call_5 (w := w) (ρ := ρ) h wf ck) kk
  exact q
theorem cok_6 (h : Inv9 σ) (wf : WF σ) (ck : CK c) (kk : ∀ s k m, KQ ρ.2.1 ρ.2.2 c s k m → K s k m) : CallOK 6 w (cv ρ c σ) K := by
  have q := Pair.mono (call_6 (w := w) (ρ := ρ) h wf ck) kk
  exact q
theorem cok_7 (h : Inv9 σ) (wf : WF σ) (ck : CK c) (kk : ∀ s k m, KQ ρ.2.1 ρ.2.2 c s k m → K s k m) : CallOK 7 w (cv ρ c σ) K := by
  have q := Pair.mono (call_7 (ρ := ρ) h wf ck) kk
  exact q
theorem cok_8 (h : Inv9 σ) (wf : WF σ) (ck : CK c) (kk : ∀ s k m, KQ ρ.2.1 ρ.2.2 c s k m → K s k m) : CallOK 8 w (cv ρ c σ) K := by
  have q := PairT.mono (call_8 (ρ := ρ) h wf ck) kk
  exact q
theorem cok_9 (h : Inv9 σ) (wf : WF σ) (ck : CK c) (kk : ∀ s k m, KQ ρ.2.1 ρ.2.2 c s k m → K s k m) : CallOK 9 w (cv ρ c σ) K := by
  have q := PairU.mono (call_9 (w := w) (ρ := ρ) h wf ck) kk
  exact q
theorem cok_10 (h : Inv9 σ) (wf : WF σ) (ck : CK c) (kk : ∀ s k m, KQ ρ.2.1 ρ.2.2 c s k m → K s k m) : CallOK 10 w (cv ρ c σ) K := by
  have q := PairU.mono (call_10 (w := w) (ρ := ρ) h wf ck) kk
  exact q
theorem cok_11 (h : Inv9 σ) (wf : WF σ) (ck : CK c) (kk : ∀ s k m, KQ ρ.2.1 ρ.2.2 c s k m → K s k m) : CallOK 11 w (cv ρ c σ) K := by
  have q := PairU.mono (call_11 (w := w) (ρ := ρ) h wf ck) kk
  exact q
theorem cok_12 (h : Inv9 σ) (wf : WF σ) (ck : CK c) (kk : ∀ s k m, KQ ρ.2.1 ρ.2.2 c s k m → K s k m) : CallOK 12 w (cv ρ c σ) K := by
  have q := PairU.mono (call_12 (w := w) (ρ := ρ) h wf ck) kk
  exact q
theorem cok_13 (h : Inv9 σ) (wf : WF σ) (ck : CK c) (kk : ∀ s k m, KQ ρ.2.1 ρ.2.2 c s k m → K s k m) : CallOK 13 w (cv ρ c σ) K := by
  have q := PairU.mono (call_13 (w := w) (ρ := ρ) h wf ck) kk
  exact q
theorem cok_14 (h : Inv9 σ) (wf : WF σ) (ck : CK c) (kk : ∀ s k m, KQ ρ.2.1 ρ.2.2 c s k m → K s k m) : CallOK 14 w (cv ρ c σ) K := by
  have q := Pair.mono (call_14 (ρ := ρ) h wf ck) kk
  exact q
theorem cok_15 (h : Inv9 σ) (wf : WF σ) (ck : CK c) (kk : ∀ s k m, KQ ρ.2.1 ρ.2.2 c s k m → K s k m) : CallOK 15 w (cv ρ c σ) K := by
  have q := Pair.mono (call_15 (ρ := ρ) h wf ck) kk
  exact q
theorem cok_16 (h : Inv9 σ) (wf : WF σ) (ck : CK c) (kk : ∀ s k m, KQ ρ.2.1 ρ.2.2 c s k m → K s k m) : CallOK 16 w (cv ρ c σ) K := by
  have q := Pair.mono (call_16 (ρ := ρ) h wf ck) kk
  exact q
theorem cok_17 (h : Inv9 σ) (wf : WF σ) (ck : CK c) (kk : ∀ s k m, KQ ρ.2.1 ρ.2.2 c s k m → K s k m) : CallOK 17 w (cv ρ c σ) K := by
  have q := Pair.mono (call_17 (w := w) (ρ := ρ) h wf ck) kk
  exact q
theorem cok_18 (h : Inv9 σ) (wf : WF σ) (ck : CK c) (kk : ∀ s k m, KQ ρ.2.1 ρ.2.2 c s k m → K s k m) : CallOK 18 w (cv ρ c σ) K := by
  have q := PairT.mono (call_18 (ρ := ρ) h wf ck) kk
  exact q
theorem cok_19 (h : Inv9 σ) (wf : WF σ) (ck : CK c) (kk : ∀ s k m, KQ ρ.2.1 ρ.2.2 c s k m → K s k m) : CallOK 19 w (cv ρ c σ) K := by
  have q := PairU.mono (call_19 (w := w) (ρ := ρ) h wf ck) kk
  exact q
theorem cok_20 (h : Inv9 σ) (wf : WF σ) (ck : CK c) (kk : ∀ s k m, KQ ρ.2.1 ρ.2.2 c s k m → K s k m) : CallOK 20 w (cv ρ c σ) K := by
  have q := Pair.mono (call_20 (w := w) (ρ := ρ) h wf ck) kk
  exact q
theorem cok_all (h : Inv9 σ) (wf : WF σ) (ck : CK c) (kk : ∀ s k m, KQ ρ.2.1 ρ.2.2 c s k m → K s k m) : ∀ {j : Nat}, j ≤ 20 → CallOK j w (cv ρ c σ) K
  | 0, _ => cok_0 h wf ck kk
  | 1, _ => cok_1 h wf ck kk
  | 2, _ => cok_2 h wf ck kk
  | 3, _ => cok_3 h wf ck kk
  | 4, _ => cok_4 h wf ck kk
  | 5, _ => cok_5 h wf ck kk
  | 6, _ => cok_6 h wf ck kk
  | 7, _ => cok_7 h wf ck kk
  | 8, _ => cok_8 h wf ck kk
  | 9, _ => cok_9 h wf ck kk
  | 10, _ => cok_10 h wf ck kk
  | 11, _ => cok_11 h wf ck kk
  | 12, _ => cok_12 h wf ck kk
  | 13, _ => cok_13 h wf ck kk
  | 14, _ => cok_14 h wf ck kk
  | 15, _ => cok_15 h wf ck kk
  | 16, _ => cok_16 h wf ck kk
  | 17, _ => cok_17 h wf ck kk
  | 18, _ => cok_18 h wf ck kk
  | 19, _ => cok_19 h wf ck kk
  | 20, _ => cok_20 h wf ck kk
  | j + 21, hj => absurd hj (by omega)
end
theorem lwi_n {L : Nat} {scr : Nat → Int32} {n ka sa : Nat} {s : SS} (h : LwI L scr n s ka sa) : sN s = L ∧ sS s = scr := by
  obtain ⟨o1, c, σ, rfl, -⟩ := h
  exact ⟨rfl, rfl⟩
theorem lwi_s {L : Nat} {scr : Nat → Int32} {n ka sa : Nat} {s : SS} (h : LwI L scr n s ka sa) (j : Nat) (w : Nat → Int32) : CallOK j w s (fun s2 k m => LwI L scr (n + 1) s2 (ka + k) (sa + m)) := by
  obtain ⟨o1, c, σ, rfl, hI, hw, ck, k1, n1⟩ := h
  have kk : ∀ s k m, KQ L scr c s k m → LwI L scr (n + 1) s (ka + k) (sa + m) := fun s k m h => LwI.k k1 n1 h
  by_cases h20 : 20 < j
  · rw [call_out h20]
    exact kk _ 0 0 ⟨o1, c, σ, rfl, hI, hw, ck, by omega, by omega⟩
  · have hj2 : j ≤ 20 := by omega
    exact cok_all (ρ := (o1, L, scr)) (K := fun s2 k m => LwI L scr (n + 1) s2 (ka + k) (sa + m)) hI hw ck kk hj2
theorem lwi_0 {L : Nat} {scr : Nat → Int32} : LwI L scr 0 (σ0 L scr) 0 0 := ⟨fun _ => 0, c16, ms0, ms0_c.symm, ms0_i, ms0_w, c16_k, by omega, by omega⟩
theorem lwi_e {L : Nat} (hL : L ≤ 3584) {scr : Nat → Int32} {ka sa : Nat} {s : SS} (h : LwI L scr (L / 7) s ka sa) : ka ≤ 600672 ∧ sa ≤ 5689215 := by
  obtain ⟨o1, c, σ, -, -, -, ck, k1, n1⟩ := h
  have h1 := Ph_b ck
  have h2 : L / 7 ≤ 512 := by omega
  generalize Ph c = x at h1 k1 n1
  generalize L / 7 = y at h2 k1 n1
  exact ⟨by omega, by omega⟩
theorem runs_all {L : Nat} (hL : L ≤ 3584) (scr : Nat → Int32) : Runs L scr :=
  runs_of (Inv := LwI L scr) hL (fun n σ ka sa h => lwi_n h) (fun n s ka sa _ h j _ _ => lwi_s h j _) lwi_0 (fun s ka sa h => lwi_e hL h)
