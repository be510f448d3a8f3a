/-! THE TAPE OF BOTH -/
theorem by_sh (w : Int64) (a : Int64) (u : UInt64) (s : Nat) (hs : s ≤ 56) (ha : (w >>> a).toBitVec = w.toBitVec.sshiftRight s) (hu : (w.toUInt64 >>> u).toBitVec = w.toBitVec >>> s) : (w >>> a).toInt32 &&& 255 = (w.toUInt64 >>> u).toInt64.toInt32 &&& 255 := by
  apply Int32.toBitVec_inj.mp
  rw [Int32.toBitVec_and, Int32.toBitVec_and, Int64.toBitVec_toInt32, Int64.toBitVec_toInt32, ha]
  have e : (w.toUInt64 >>> u).toInt64.toBitVec = w.toBitVec >>> s := hu
  rw [e]
  apply BitVec.eq_of_getLsbD_eq
  intro i hi
  have h255 : (255 : Int32).toBitVec = 255#32 := rfl
  rw [h255, BitVec.getLsbD_and, BitVec.getLsbD_and]
  by_cases h8 : i < 8
  · congr 1
    rw [BitVec.signExtend_eq_setWidth_of_le _ (by decide), BitVec.signExtend_eq_setWidth_of_le _ (by decide)]
    rw [BitVec.getLsbD_setWidth, BitVec.getLsbD_setWidth, BitVec.getLsbD_sshiftRight, BitVec.getLsbD_ushiftRight]
    have h1 : ¬ 64 ≤ i := by omega
    have h2 : s + i < 64 := by omega
    simp [h1, h2]
  · have : (255#32).getLsbD i = false := by
      have hh : (255#32) = BitVec.ofNat 32 (2 ^ 8 - 1) := rfl
      rw [hh, BitVec.getLsbD_ofNat, Nat.testBit_two_pow_sub_one]
      simp [h8]
    rw [this, Bool.and_false, Bool.and_false]
theorem by_eq (w : Int64) : ∀ n : Nat, n < 8 → (w >>> ((nI (8 * n)).toInt64 &&& 63)).toInt32 &&& 255 = byX w (nI (8 * n))
  | 0, _ => by_sh w _ _ 0 (by decide) rfl rfl
  | 1, _ => by_sh w _ _ 8 (by decide) rfl rfl
  | 2, _ => by_sh w _ _ 16 (by decide) rfl rfl
  | 3, _ => by_sh w _ _ 24 (by decide) rfl rfl
  | 4, _ => by_sh w _ _ 32 (by decide) rfl rfl
  | 5, _ => by_sh w _ _ 40 (by decide) rfl rfl
  | 6, _ => by_sh w _ _ 48 (by decide) rfl rfl
  | 7, _ => by_sh w _ _ 56 (by decide) rfl rfl
  | n + 8, h => absurd h (by omega)
theorem rem_eq : ∀ k : Nat, k < 24 → 56 - 8 * (nI k - nI k / 8 * 8) = nI (8 * (7 - k % 8)) := by decide +kernel
theorem byM_eq (w : Int64) {k : Nat} (hk : k < 24) : byM w (nI k) = byX w (nI (8 * (7 - k % 8))) := by
  unfold byM
  rw [rem_eq k hk]
  exact by_eq w _ (by omega)
/-- the tape -/
def TR (σ : SS) (T : List Int32) : Prop := T.length ≤ 4000 ∧ sI σ 246 6 = nI T.length ∧ ∀ j, j < T.length → sI σ 247 j = T.getD j 0
theorem nar_eq : ∀ j : Nat, j < 127 → vp_nar .byte (nI j).toInt8.toInt32 = nI j := by decide +kernel
theorem nar_ok {s : Int32} (h : s = 10 ∨ (¬ s < 32 ∧ ¬ 126 < s)) : vp_nar .byte s.toInt8.toInt32 = s := by
  rcases h with rfl | ⟨h1, h2⟩
  · exact nar_eq 10 (by omega)
  · have h3 : ¬ s < 0 := by
      rw [Int32.lt_iff_toInt_lt] at h1 ⊢
      have e1 : (32 : Int32).toInt = 32 := rfl
      have e2 : (0 : Int32).toInt = 0 := rfl
      rw [e1] at h1
      rw [e2]
      omega
    obtain ⟨j, hj, rfl⟩ := nI_of h3
    refine nar_eq j (Nat.lt_of_not_le (fun z => h2 ?_))
    exact nI_lt (a := 126) z hj
theorem TR.ok {σ : SS} {T : List Int32} (h : TR σ T) : TpOK σ := ⟨T.length, h.1, h.2.1⟩
theorem TR.n {σ : SS} {T : List Int32} (h : TR σ T) (s : Int32) : TR (rfb σ s) (fb T s) := by
  obtain ⟨h1, h2, h3⟩ := h
  unfold rfb fb
  rw [h2]
  by_cases hc : (s = 10 ∨ (¬ s < 32 ∧ ¬ 126 < s)) ∧ ¬ 4000 ≤ nI T.length
  · rw [if_pos ⟨hc.2, hc.1⟩, if_pos hc]
    have hl : T.length < 4000 := Nat.lt_of_not_le (fun z => hc.2 (nI_le (a := 4000) z (by omega)))
    refine ⟨by rw [List.length_append]; simp; omega, ?_, fun j hj => ?_⟩
    · show nI T.length + 1 = _
      rw [nI_1, List.length_append]
      rfl
    · rw [List.length_append] at hj
      simp at hj
      show va_up (sI σ 247) (nI T.length).toNatClampNeg (vp_nar .byte s.toInt8.toInt32) j = _
      rw [nI_clamp (by omega), nar_ok hc.1]
      by_cases e : j = T.length
      · subst e
        rw [va_up_self]
        simp
      · rw [va_up_ne _ _ e, h3 j (by omega)]
        have hj2 : j < T.length := by omega
        simp [List.getElem?_append_left hj2]
  · rw [if_neg (fun z => hc ⟨z.2, z.1⟩), if_neg hc]
    exact ⟨h1, h2, h3⟩
def tfn (a b c : Int64) : Nat → Nat → List Int32 → List Int32
  | 0, _, T => T
  | m + 1, k, T => tfn a b c m (k + 1) (fb T (byX (wdL a b c k) (nI (8 * (7 - k % 8)))))
theorem TR.rfn {a b c : Int64} : ∀ (m k : Nat) (σ : SS) (T : List Int32), k + m ≤ 24 → TR σ T → TR (rfn a b c m k σ) (tfn a b c m k T)
  | 0, _, _, _, _, h => h
  | m + 1, k, σ, T, hk, h => by
    refine TR.rfn m (k + 1) _ _ (by omega) ?_
    rw [byM_eq _ (by omega)]
    exact h.n _
theorem tfn_fd (a b c : Int64) (T : List Int32) : tfn a b c 24 0 T = fdL a b c T := rfl
/-- what a feed leaves as it was -/
theorem rfb_fr {σ : SS} {s : Int32} : (rfb σ s).2 = σ.2 ∧ ∀ z k, z ≠ 247 → (z, k) ≠ (246, 6) → sI (rfb σ s) z k = sI σ z k := by
  unfold rfb
  split
  · refine ⟨rfl, fun z k h1 h2 => ?_⟩
    show va_up (va_up (sI σ) 247 _) 246 (va_up _ 6 _) z k = _
    by_cases e : z = 246
    · subst e
      rw [va_up_self, va_up_ne _ _ (fun q => h2 (by rw [q]))]
      rfl
    · rw [va_up_ne _ _ e, va_up_ne _ _ h1]
  · exact ⟨rfl, fun _ _ _ _ => rfl⟩
theorem rfn_fr {a b c : Int64} : ∀ (m k : Nat) (σ : SS), (rfn a b c m k σ).2 = σ.2 ∧ ∀ z j, z ≠ 247 → (z, j) ≠ (246, 6) → sI (rfn a b c m k σ) z j = sI σ z j
  | 0, _, _ => ⟨rfl, fun _ _ _ _ => rfl⟩
  | m + 1, k, σ => by
    obtain ⟨h1, h2⟩ := rfn_fr (a := a) (b := b) (c := c) m (k + 1) (rfb σ (byM (wdL a b c k) (nI k)))
    obtain ⟨g1, g2⟩ := rfb_fr (σ := σ) (s := byM (wdL a b c k) (nI k))
    exact ⟨h1.trans g1, fun z j e1 e2 => (h2 z j e1 e2).trans (g2 z j e1 e2)⟩
theorem pair_feed {σ : SS} {a b c : Int64} {K : KK} (ht : TR σ (sX σ 1)) (hc : 1 ≤ sC σ 1) (hK : ∀ c' k s, Grow 8000 (sC σ 1) c' k s → K (rfn a b c 24 0 (ip (uX σ 1 c' (fdL a b c (sX σ 1))) 246 0 0)) k s) : Pair 146 303 [.long a, .long b, .long c] σ K := by
  refine Ev.mono (sp_X11_feed (by decide) ht.1 hc) (fun o σ1 k s hh => ?_)
  obtain ⟨rfl, c', hG, rfl⟩ := hh
  refine ⟨_, rfl, rfl, rfl, ?_⟩
  have ht0 : TR (ip (uX σ 1 c' (fdL a b c (sX σ 1))) 246 0 0) (sX σ 1) := ⟨ht.1, ht.2.1, ht.2.2⟩
  have h24 := TR.rfn (a := a) (b := b) (c := c) 24 0 _ _ (by omega) ht0
  refine Ev.mono (sp_X12_feed ht0.ok) (fun o2 σ2 k2 s2 hh => ?_)
  obtain ⟨e1, e2, e3, e4⟩ := hh
  refine ⟨?_, ?_⟩
  · rw [e1, h24.2.1, tfn_fd]
  · rw [e2, e3, e4]
    exact hK c' k s hG

