/-! FEED: class and reference -/
theorem by_sh (w : Int64) (a : Int64) (u : UInt64) (s : Nat) (hs : s ≤ 56) (ha : (w >>> a).toBitVec = w.toBitVec.sshiftRight s) (hu : (w.toUInt64 >>> u).toBitVec = w.toBitVec >>> s) : (w >>> a).toInt32 &&& 255 = (w.toUInt64 >>> u).toInt64.toInt32 &&& 255 := by
  apply Int32.toBitVec_inj.mp
  rw [Int32.toBitVec_and, Int32.toBitVec_and, Int64.toBitVec_toInt32, Int64.toBitVec_toInt32, ha]
  have e : (w.toUInt64 >>> u).toInt64.toBitVec = w.toBitVec >>> s := hu
  rw [e]
  apply BitVec.eq_of_getLsbD_eq
  intro i hi
  have h255 : (255 : Int32).toBitVec = 255#32 := rfl
  rw [h255, BitVec.getLsbD_and, BitVec.getLsbD_and]
  by_cases h8 : i < 8
  · congr 1
    rw [BitVec.signExtend_eq_setWidth_of_le _ (by decide), BitVec.signExtend_eq_setWidth_of_le _ (by decide)]
    rw [BitVec.getLsbD_setWidth, BitVec.getLsbD_setWidth, BitVec.getLsbD_sshiftRight, BitVec.getLsbD_ushiftRight]
    have h1 : ¬ 64 ≤ i := by omega
    have h2 : s + i < 64 := by omega
    simp [h1, h2]
  · have : (255#32).getLsbD i = false := by
      have hh : (255#32) = BitVec.ofNat 32 (2 ^ 8 - 1) := rfl
      rw [hh, BitVec.getLsbD_ofNat, Nat.testBit_two_pow_sub_one]
      simp [h8]
    rw [this, Bool.and_false, Bool.and_false]
theorem by_eq (w : Int64) : ∀ n : Nat, n < 8 → (w >>> ((nI (8 * n)).toInt64 &&& 63)).toInt32 &&& 255 = ((w.toUInt64 >>> ((nI (8 * n)).toInt64.toUInt64 &&& Int64.toUInt64 63)).toInt64).toInt32 &&& 255
  | 0, _ => by_sh w _ _ 0 (by decide) rfl rfl
  | 1, _ => by_sh w _ _ 8 (by decide) rfl rfl
  | 2, _ => by_sh w _ _ 16 (by decide) rfl rfl
  | 3, _ => by_sh w _ _ 24 (by decide) rfl rfl
  | 4, _ => by_sh w _ _ 32 (by decide) rfl rfl
  | 5, _ => by_sh w _ _ 40 (by decide) rfl rfl
  | 6, _ => by_sh w _ _ 48 (by decide) rfl rfl
  | 7, _ => by_sh w _ _ 56 (by decide) rfl rfl
  | n + 8, h => absurd h (by omega)
theorem l255 (v : Int64) : v.toInt32 &&& 255 = iI (v.toInt % 256) := by
  have h : v.toInt32 = iI v.toInt := by
    have h := l2i_ok v.toInt
    rw [show iJ v.toInt = v from Int64.ofInt_toInt v] at h
    exact h
  rw [h]
  exact and_mask v.toInt (m := 255) 8 (by decide) (by decide)
/-- both shifts tell the same byte -/
theorem sh_eq (x : Int) (n : Nat) (hn : n < 8) : lsh x ((8 * n : Nat) : Int) % 256 = lus x ((8 * n : Nat) : Int) % 256 := by
  have h := by_eq (iJ x) n hn
  rw [l255, l255] at h
  unfold lsh lus
  rw [iI_nat]
  exact (Rg.eq (by unfold Rg; omega) (by unfold Rg; omega)).mp h
/-- a byte comes to the tape -/
def fd1 (T : List Int) (b : Int) : List Int := if (b = 10 ∨ (32 ≤ b ∧ b ≤ 126)) ∧ T.length < 4000 then T ++ [b] else T
def fdB (x : Int) : Nat → List Int → List Int
  | 0, T => T
  | j + 1, T => fdB x j (fd1 T (lus x ((8 * j : Nat) : Int) % 256))
theorem fd1_len {T : List Int} {b : Int} (h : T.length ≤ 4000) : (fd1 T b).length ≤ 4000 := by
  unfold fd1
  split
  · rw [List.length_append, List.length_singleton]; omega
  · exact h
theorem fd1_sm {T : List Int} {b : Int} (h : smB T) : smB (fd1 T b) := by
  unfold fd1
  split
  · rename_i e
    intro x hx
    rcases List.mem_append.mp hx with hx | hx
    · exact h x hx
    · rw [List.mem_singleton.mp hx]; omega
  · exact h
theorem fdB_len {x : Int} : ∀ {j : Nat} {T : List Int}, T.length ≤ 4000 → (fdB x j T).length ≤ 4000
  | 0, _, h => h
  | j + 1, T, h => by
    unfold fdB
    exact fdB_len (fd1_len h)
theorem fdB_sm {x : Int} : ∀ {j : Nat} {T : List Int}, smB T → smB (fdB x j T)
  | 0, _, h => h
  | j + 1, T, h => by
    unfold fdB
    exact fdB_sm (fd1_sm h)
theorem wX_wX {σ : MS} {q : Nat} {L M : List Int} : wX (wX σ q L) q M = wX σ q M := by
  refine Prod.ext ?_ rfl
  funext z
  show va_up (va_up σ.1 q L) q M z = va_up σ.1 q M z
  by_cases h : z = q
  · subst h; rw [va_up_self, va_up_self]
  · rw [va_up_ne _ _ h, va_up_ne _ _ h, va_up_ne _ _ h]
theorem wX_id {σ : MS} {q : Nat} : wX σ q (mX σ q) = σ := by
  refine Prod.ext ?_ rfl
  funext z
  show va_up σ.1 q (σ.1 q) z = σ.1 z
  by_cases h : z = q
  · subst h; rw [va_up_self]
  · rw [va_up_ne _ _ h]
theorem T_feedBytes_3.s {x : Int} {Q : MQ9} : ∀ (j : Nat) (σ : MS), j ≤ 8 → (mX σ 1).length ≤ 4000 → Q (.inl none) (wX σ 1 (fdB x j (mX σ 1))) → T_feedBytes_3 x (((8 * j : Nat) : Int) - 8) σ Q
  | 0, σ, _, _, hq => by
    refine T_feedBytes_3.i ⟨by unfold Rg; omega, fun _ => ?_, fun h => absurd h (by omega)⟩
    have e : wX σ 1 (fdB x 0 (mX σ 1)) = σ := wX_id
    rw [e] at hq
    exact hq
  | j + 1, σ, hj, hl, hq => by
    have e8 : ((8 * (j + 1) : Nat) : Int) - 8 = ((8 * j : Nat) : Int) := by omega
    rw [e8]
    have next : ∀ σ' : MS, σ' = wX σ 1 (fd1 (mX σ 1) (lus x ((8 * j : Nat) : Int) % 256)) → T_feedBytes_60 x ((8 * j : Nat) : Int) σ' Q := by
      intro σ' e
      refine T_feedBytes_60.i ?_
      rw [show ((8 * j : Nat) : Int) + (-8) = ((8 * j : Nat) : Int) - 8 by omega]
      have e1 : mX σ' 1 = fd1 (mX σ 1) (lus x ((8 * j : Nat) : Int) % 256) := by rw [e]; exact wX_self
      refine T_feedBytes_3.s j σ' (by omega) (by rw [e1]; exact fd1_len hl) ?_
      rw [e1, e, wX_wX]
      exact hq
    have no : ¬ ((lus x ((8 * j : Nat) : Int) % 256 = 10 ∨ (32 ≤ lus x ((8 * j : Nat) : Int) % 256 ∧ lus x ((8 * j : Nat) : Int) % 256 ≤ 126)) ∧ (mX σ 1).length < 4000) → T_feedBytes_60 x ((8 * j : Nat) : Int) σ Q := by
      intro h
      refine next σ ?_
      unfold fd1
      rw [if_neg h, wX_id]
    have yes : (lus x ((8 * j : Nat) : Int) % 256 = 10 ∨ (32 ≤ lus x ((8 * j : Nat) : Int) % 256 ∧ lus x ((8 * j : Nat) : Int) % 256 ≤ 126)) → T_feedBytes_38 x ((8 * j : Nat) : Int) (lus x ((8 * j : Nat) : Int) % 256) σ Q := by
      intro h
      refine T_feedBytes_38.i ⟨fun h4 => no (fun h5 => by have := h5.2; omega), fun h4 => ⟨by omega, next _ ?_⟩⟩
      unfold fd1
      rw [if_pos ⟨h, by omega⟩]
    refine T_feedBytes_3.i ⟨by unfold Rg; omega, fun h => absurd h (by omega), fun _ => ⟨fun h => yes (Or.inl h), fun h => ⟨fun h2 => no (fun h5 => ?_), fun h2 => ⟨fun h3 => no (fun h5 => ?_), fun h3 => yes (Or.inr ⟨h2, h3⟩)⟩⟩⟩⟩
    · rcases h5.1 with h6 | h6
      · exact h h6
      · omega
    · rcases h5.1 with h6 | h6
      · exact h h6
      · omega
theorem T_feedBytes.s {x : Int} {Q : MQ9} {σ : MS} (hl : (mX σ 1).length ≤ 4000) (hq : Q (.inl none) (wX σ 1 (fdB x 8 (mX σ 1)))) : T_feedBytes x σ Q := T_feedBytes.i (T_feedBytes_3.s 8 σ (Nat.le_refl _) hl hq)
/-- the class's feed -/
theorem T_feed.s {x y z : Int} {Q : MQ9} {σ : MS} (hl : (mX σ 1).length ≤ 4000) (hq : Q (.inl (some ((fdB z 8 (fdB y 8 (fdB x 8 (mX σ 1)))).length : Int))) (wX σ 1 (fdB z 8 (fdB y 8 (fdB x 8 (mX σ 1)))))) : T_feed x y z σ Q := by
  refine T_feed.i (T_feedBytes.s hl (T_feedBytes.s ?_ (T_feedBytes.s ?_ ?_)))
  · rw [wX_self]; exact fdB_len hl
  · rw [wX_wX, wX_self, wX_self]; exact fdB_len (fdB_len hl)
  · rw [wX_wX, wX_wX, wX_self, wX_self]
    show Q (.inl (some ((mX (wX σ 1 _) 1).length : Int))) (wX σ 1 _)
    rw [wX_self]
    exact hq
