/-! A ROUND BEGINS: the reference -/
/-- labels of the round before -/
def LbR9 (σ : MS) (nw : Nat) (B : BF9) : Prop := mV σ 285 (1 - nw) = (B.1.1.length : Int) ∧ nmS σ 279 280 12 (60 * (1 - nw)) B.1.1 ∧ nmS σ 281 282 32 (60 * (1 - nw)) B.1.2.1 ∧ (∀ q, q < B.1.1.length → mV σ 283 (60 * (1 - nw) + q) = B.1.2.2.1.getD q 0) ∧ (0 < B.1.1.length → mV σ 246 52 = B.1.2.2.2.1 ∧ mV σ 246 53 = B.1.2.2.2.2)
/-- the reference ahead of a round -/
def PrR9 (σ : MS) (M : List Int) (B : BF9) (nw : Nat) (w : Int × Int) : Prop := ScR σ M ∧ (nw ≤ 1 ∧ mV σ 246 59 = (nw : Int)) ∧ (mV σ 246 28 = 0 ∧ mV σ 246 32 = w.1 ∧ mV σ 246 33 = w.2) ∧ LbR9 σ nw B ∧ BeR9 σ nw B
section
variable {σ : MS} {Q : MQ9} {nw : Nat} {M : List Int} {B : BF9} {w : Int × Int}
theorem R_settings.p (hq : ∀ σ', FrZ [275] [] σ σ' → (∀ k, k < 13 → mV σ' 275 k = AT1.getD k 0) → Q (.inl none) σ') : R_settings σ Q := by
  refine R_settings.i ⟨by decide, by decide, by decide, by decide, by decide, by decide, by decide, by decide, by decide, by decide, by decide, by decide, by decide, by decide, by decide, by decide, by decide, by decide, by decide, by decide, by decide, by decide, by decide, by decide, by decide, by decide, hq _ ?_ ?_⟩
  · exact ((((((((((((FrZ.wz (by decide)).tr (FrZ.wz (by decide))).tr (FrZ.wz (by decide))).tr (FrZ.wz (by decide))).tr (FrZ.wz (by decide))).tr (FrZ.wz (by decide))).tr (FrZ.wz (by decide))).tr (FrZ.wz (by decide))).tr (FrZ.wz (by decide))).tr (FrZ.wz (by decide))).tr (FrZ.wz (by decide))).tr (FrZ.wz (by decide))).tr (FrZ.wz (by decide))
  · intro k hk
    have : k = 0 ∨ k = 1 ∨ k = 2 ∨ k = 3 ∨ k = 4 ∨ k = 5 ∨ k = 6 ∨ k = 7 ∨ k = 8 ∨ k = 9 ∨ k = 10 ∨ k = 11 ∨ k = 12 := by omega
    rcases this with rfl | rfl | rfl | rfl | rfl | rfl | rfl | rfl | rfl | rfl | rfl | rfl | rfl <;> rfl
theorem rro_83 {σ0 : MS} (hq : ∀ σ', FrZ [299] [] σ0 σ' → (∀ k, k < 4 → mV σ' 299 k = 0) → R_round_83 4 σ' Q) : ∀ (n j : Nat) (σ : MS), j + n = 4 → FrZ [299] [] σ0 σ → (∀ k, k < j → mV σ 299 k = 0) → R_round_83 (j : Int) σ Q := by
  intro n
  induction n with
  | zero =>
    intro j σ hj hf hk
    have e : j = 4 := by omega
    rw [e] at hk ⊢
    exact hq σ hf hk
  | succ n ih =>
    intro j σ hj hf hk
    refine R_round_83.i ⟨by unfold Rg; omega, fun h => absurd h (by omega), fun _ => ⟨by omega, by omega, ?_⟩⟩
    rw [Int.toNat_natCast, show (j : Int) + 1 = ((j + 1 : Nat) : Int) by omega]
    refine ih (j + 1) _ (by omega) (hf.tr (FrZ.wz (by decide))) (fun k hk9 => ?_)
    by_cases e : k = j
    · rw [e]
      exact wV_self
    · rw [wV_ne (Or.inr e)]
      exact hk k (by omega)
/-- where a round's beginning writes -/
theorem G9.o {z k : Nat} (h : (z = 246 ∧ k ∈ [46, 47, 48, 58, 86, 74, 81, 84, 85, 99, 98, 112, 113, 30, 29, 28, 32, 33]) ∨ z = 275 ∨ z = 299 ∨ ((z = 285 ∨ z = 292 ∨ z = 298) ∧ k = nw)) : AlG9 nw z k := by
  rcases h with ⟨rfl, h⟩ | rfl | rfl | ⟨h, rfl⟩
  · by_cases c1 : k = 29 ∨ k = 30
    · exact Or.inr ⟨rfl, c1⟩
    · by_cases c2 : k ∈ RDK
      · exact Or.inl (Or.inr (Or.inr ⟨rfl, c2⟩))
      · by_cases c3 : k = 74
        · exact Or.inl (Or.inl (Or.inr (Or.inr (Or.inl ⟨rfl, c3⟩))))
        · have a : ∀ k ∈ [46, 47, 48, 58, 86, 74, 81, 84, 85, 99, 98, 112, 113, 30, 29, 28, 32, 33], ¬ (k = 29 ∨ k = 30) → k ∉ RDK → k ≠ 74 → k ∈ 84 :: BkK := by decide
          exact Or.inl (Or.inl (Or.inl (Or.inl ⟨rfl, a k h c1 c2 c3⟩)))
  · exact Or.inl (Or.inr (Or.inl (by decide)))
  · exact Or.inl (Or.inl (Or.inr (Or.inl (by decide))))
  · rcases h with rfl | rfl | rfl
    · exact Or.inl (Or.inl (Or.inl (Or.inr (Or.inr ⟨by decide, Or.inr (Nat.div_one _)⟩))))
    · exact Or.inl (Or.inl (Or.inr (Or.inr (Or.inr ⟨by decide, Nat.div_one _⟩))))
    · exact Or.inl (Or.inl (Or.inl (Or.inr (Or.inr ⟨by decide, Or.inr (Nat.div_one _)⟩))))
theorem BeR9.fr {σ1 : MS} (h : BeR9 σ nw B) (hw : nw ≤ 1) (z : ∀ y k, y ∈ [286, 287, 288, 289, 290, 293, 294, 295, 296] → mV σ1 y k = mV σ y k) (b : ∀ y, y = 292 ∨ y = 298 → mV σ1 y (1 - nw) = mV σ y (1 - nw)) (k : ∀ j, j = 52 ∨ j = 53 → mV σ1 246 j = mV σ 246 j) : BeR9 σ1 nw B := by
  obtain ⟨⟨h1, h2⟩, ⟨h3, h4⟩, h5, h6⟩ := h
  refine ⟨⟨(b _ (by omega)).trans h1, fun i hi => ?_⟩, ⟨(b _ (by omega)).trans h3, fun i hi => ?_⟩, fun i hi => (z _ _ (by decide)).trans (h5 i hi), fun e => ⟨(k _ (by omega)).trans (h6 e).1, (k _ (by omega)).trans (h6 e).2⟩⟩
  · obtain ⟨a1, a2, a3, a4, a5⟩ := h2 i hi
    exact ⟨(z _ _ (by decide)).trans a1, (z _ _ (by decide)).trans a2, fun t ht => (z _ _ (by decide)).trans (a3 t ht), (z _ _ (by decide)).trans a4, (z _ _ (by decide)).trans a5⟩
  · obtain ⟨a1, a2, a3⟩ := h4 i hi
    exact ⟨(z _ _ (by decide)).trans a1, (z _ _ (by decide)).trans a2, fun t ht => (z _ _ (by decide)).trans (a3 t ht)⟩
theorem RuR.r0 (h1 : ∀ k, k < 13 → mV σ 275 k = AT1.getD k 0) (h46 : mV σ 246 46 = 0) (h47 : mV σ 246 47 = 0) (h48 : mV σ 246 48 = 0) : RuR σ ru0 := ⟨h1, fun X => ⟨⟨h46, Nat.zero_le _, fun i hi => absurd hi (Nat.not_lt_zero _)⟩, fun w hw => absurd hw List.not_mem_nil, fun m hm => absurd hm (Nat.not_lt_zero _)⟩, ⟨h47, fun p hp => absurd hp (Nat.not_lt_zero _)⟩, ⟨h48, fun p hp => absurd hp (Nat.not_lt_zero _)⟩⟩
/-- a round, the reference: all blocks -/
theorem R_round.p (hMb : smB M) (hB : BfI B) (hw0 : 0 ≤ w.1 ∧ w.1 ≤ 60000) (hw1 : 0 ≤ w.2 ∧ w.2 ≤ 400000) (hP : PrR9 σ M B nw w) (hy : ∀ x σ', rouD B M w = .inl x → CdR σ' M B nw false x.1 → mV σ' 246 30 = x.2 → FrG9 nw σ σ' → Q (.inl none) σ') (hn : ∀ l x σ', rouD B M w = .inr (l, x) → ¬ x.2.1 = 0 → TxR σ' x.2 → UnB σ' → RuR σ' x.1 → mV σ' 246 29 = l → FrG9 nw σ σ' → Q (.inl none) σ') : R_round σ Q := by
  obtain ⟨hS, ⟨hn1, h59⟩, ⟨h28, h32, h33⟩, ⟨l1, l2, l3, l4, l5⟩, hBe⟩ := hP
  have ml4 : (mlL M).length ≤ 4000 := Nat.le_trans (mlF_l (T := M) M.length 0) hS.2.1
  refine R_round.i (R_settings.p (fun σ1 f1 s1 => ?_))
  generalize hA : wV (wV (wV (wV σ 246 46 0) 246 47 0) 246 48 0) 246 58 0 = σa at f1
  have fa : FrZ [] [46, 47, 48, 58] σ σa := by
    rw [← hA]
    exact (((FrZ.wf (by decide)).tr (FrZ.wf (by decide))).tr (FrZ.wf (by decide))).tr (FrZ.wf (by decide))
  have a46 : mV σa 246 46 = 0 ∧ mV σa 246 47 = 0 ∧ mV σa 246 48 = 0 ∧ mV σa 246 58 = 0 := by
    rw [← hA]
    exact ⟨rfl, rfl, rfl, rfl⟩
  clear hA
  have f1a : FrZ [275] [46, 47, 48, 58] σ σ1 := (fa.mo (fun x hx => absurd hx List.not_mem_nil) (fun x hx => hx)).tr (f1.mo (fun x hx => hx) (fun x hx => absurd hx List.not_mem_nil))
  have k1 : ∀ k, k = 46 ∨ k = 47 ∨ k = 48 ∨ k = 58 → mV σ1 246 k = 0 := fun k h => (f1.f List.not_mem_nil (by decide)).trans (by
    rcases h with rfl | rfl | rfl | rfl
    · exact a46.1
    · exact a46.2.1
    · exact a46.2.2.1
    · exact a46.2.2.2)
  have e59 : mV σ1 246 59 = (nw : Int) := (f1a.f (by decide) (by decide)).trans h59
  show 0 ≤ mV σ1 246 59 ∧ mV σ1 246 59 < 2 ∧ 0 ≤ mV σ1 246 59 ∧ mV σ1 246 59 < 2 ∧ 0 ≤ mV σ1 246 59 ∧ mV σ1 246 59 < 2 ∧ Rg (70000 * mV σ1 246 59) ∧ Rg (70000 * mV σ1 246 59) ∧ R_round_83 0 (wV (wV (wV (wV (wV (wV σ1 246 86 0) 285 (mV σ1 246 59).toNat 0) 292 (mV σ1 246 59).toNat 0) 298 (mV σ1 246 59).toNat 0) 246 74 (70000 * mV σ1 246 59)) 246 81 (70000 * mV σ1 246 59)) Q
  rw [e59, Int.toNat_natCast]
  refine ⟨by omega, by omega, by omega, by omega, by omega, by omega, by unfold Rg; omega, by unfold Rg; omega, ?_⟩
  generalize hA : wV (wV (wV (wV (wV (wV σ1 246 86 0) 285 nw 0) 292 nw 0) 298 nw 0) 246 74 (70000 * (nw : Int))) 246 81 (70000 * (nw : Int)) = σ2
  have z2 : ∀ y k, y ≠ 246 → ¬ ((y = 285 ∨ y = 292 ∨ y = 298) ∧ k = nw) → mV σ2 y k = mV σ1 y k := fun y k n1 n2 => by
    rw [← hA, wV_ne (by omega), wV_ne (by omega), wV_ne (by omega), wV_ne (by omega), wV_ne (by omega), wV_ne (by omega)]
  have k2 : ∀ k, k ≠ 86 → k ≠ 74 → k ≠ 81 → mV σ2 246 k = mV σ1 246 k := fun k n1 n2 n3 => by
    rw [← hA, wV_ne (by omega), wV_ne (by omega), wV_ne (by omega), wV_ne (by omega), wV_ne (by omega), wV_ne (by omega)]
  have v81 : mV σ2 246 81 = 70000 * (nw : Int) := by rw [← hA, wV_self]
  have v74 : mV σ2 246 74 = 70000 * (nw : Int) := by rw [← hA, wV_ne (by omega), wV_self]
  have v86 : mV σ2 246 86 = 0 := by rw [← hA, wV_ne (by omega), wV_ne (by omega), wV_ne (by omega), wV_ne (by omega), wV_ne (by omega), wV_self]
  have v298 : mV σ2 298 nw = 0 := by rw [← hA, wV_ne (by omega), wV_ne (by omega), wV_self]
  have v292 : mV σ2 292 nw = 0 := by rw [← hA, wV_ne (by omega), wV_ne (by omega), wV_ne (by omega), wV_self]
  have v285 : mV σ2 285 nw = 0 := by rw [← hA, wV_ne (by omega), wV_ne (by omega), wV_ne (by omega), wV_ne (by omega), wV_self]
  have g2 : FrG9 nw σ1 σ2 := by
    rw [← hA]
    exact (((((FrA.w (G9.o (Or.inl ⟨rfl, by decide⟩))).tr (FrA.w (G9.o (Or.inr (Or.inr (Or.inr ⟨by decide, rfl⟩)))))).tr (FrA.w (G9.o (Or.inr (Or.inr (Or.inr ⟨by decide, rfl⟩)))))).tr (FrA.w (G9.o (Or.inr (Or.inr (Or.inr ⟨by decide, rfl⟩)))))).tr (FrA.w (G9.o (Or.inl ⟨rfl, by decide⟩)))).tr (FrA.w (G9.o (Or.inl ⟨rfl, by decide⟩)))
  clear hA
  have g1 : FrG9 nw σ σ1 := ⟨f1a.1, f1a.2.1, fun z k n => f1a.2.2 z k (fun e => n (G9.o (Or.inr (Or.inl (List.mem_singleton.mp e))))) (by
    by_cases h6 : z = 246
    · refine Or.inr (fun e => n (G9.o (Or.inl ⟨h6, ?_⟩)))
      have a : ∀ k ∈ [46, 47, 48, 58], k ∈ [46, 47, 48, 58, 86, 74, 81, 84, 85, 99, 98, 112, 113, 30, 29, 28, 32, 33] := by decide
      exact a k e
    · exact Or.inl h6)⟩
  refine rro_83 (σ0 := σ2) (fun σ3 f3 n3 => ?_) 4 0 σ2 (by decide) FrZ.rf (fun k hk => absurd hk (Nat.not_lt_zero _))
  refine R_round_83.i ⟨by decide, fun _ => ?_, fun h => absurd h (by decide)⟩
  have g3 : FrG9 nw σ2 σ3 := ⟨f3.1, f3.2.1, fun z k n => f3.2.2 z k (fun e => n (G9.o (Or.inr (Or.inr (Or.inl (List.mem_singleton.mp e)))))) (Or.inr List.not_mem_nil)⟩
  generalize hA : wV (wV (wV (wV (wV (wV (wV (wV σ3 246 84 0) 246 85 0) 246 99 0) 246 98 0) 246 112 0) 246 113 0) 246 30 0) 246 29 0 = σ4
  have f4 : FrZ [] [84, 85, 99, 98, 112, 113, 30, 29] σ3 σ4 := by
    rw [← hA]
    exact (((((((FrZ.wf (by decide)).tr (FrZ.wf (by decide))).tr (FrZ.wf (by decide))).tr (FrZ.wf (by decide))).tr (FrZ.wf (by decide))).tr (FrZ.wf (by decide))).tr (FrZ.wf (by decide))).tr (FrZ.wf (by decide))
  have k4 : ∀ k, k ∈ [84, 85, 99, 98, 112, 113, 30, 29] → mV σ4 246 k = 0 := fun k h => by
    rw [← hA]
    simp only [List.mem_cons, List.not_mem_nil, or_false] at h
    rcases h with rfl | rfl | rfl | rfl | rfl | rfl | rfl | rfl <;> rfl
  clear hA
  have g4 : FrG9 nw σ3 σ4 := ⟨f4.1, f4.2.1, fun z k n => f4.2.2 z k List.not_mem_nil (by
    by_cases h6 : z = 246
    · refine Or.inr (fun e => n (G9.o (Or.inl ⟨h6, ?_⟩)))
      have a : ∀ k ∈ [84, 85, 99, 98, 112, 113, 30, 29], k ∈ [46, 47, 48, 58, 86, 74, 81, 84, 85, 99, 98, 112, 113, 30, 29, 28, 32, 33] := by decide
      exact a k e
    · exact Or.inl h6)⟩
  have gA : FrG9 nw σ σ4 := ((g1.tr g2).tr g3).tr g4
  -- what all that leaves
  have zz : ∀ y k, y ≠ 246 → y ≠ 275 → y ≠ 299 → ¬ ((y = 285 ∨ y = 292 ∨ y = 298) ∧ k = nw) → mV σ4 y k = mV σ y k := fun y k n1 n2 n3 n4 => (f4.z List.not_mem_nil n1).trans ((f3.z (by simp only [List.mem_singleton]; exact n3) n1).trans ((z2 y k n1 n4).trans (f1a.z (by simp only [List.mem_singleton]; exact n2) n1)))
  have kk : ∀ k, k ∉ [46, 47, 48, 58, 86, 74, 81, 84, 85, 99, 98, 112, 113, 30, 29] → mV σ4 246 k = mV σ 246 k := fun k h => by
    simp only [List.mem_cons, List.not_mem_nil, or_false, not_or] at h
    refine (f4.f ?_ (by decide)).trans ((f3.f List.not_mem_nil (by decide)).trans ((k2 k (by omega) (by omega) (by omega)).trans (f1a.f ?_ (by decide))))
    · simp only [List.mem_cons, List.not_mem_nil, or_false]
      omega
    · simp only [List.mem_cons, List.not_mem_nil, or_false]
      omega
  have kb : ∀ k, k ∉ [84, 85, 99, 98, 112, 113, 30, 29] → mV σ4 246 k = mV σ2 246 k := fun k h => (f4.f h (by decide)).trans (f3.f List.not_mem_nil (by decide))
  have e12 : mV σ4 246 12 = ((mlL M).length : Int) := (kk _ (by decide)).trans hS.2.2.2.1
  have hR4 : RuR σ4 ru0 := RuR.r0 (fun k hk => (f4.z List.not_mem_nil (by decide)).trans ((f3.z (by decide) (by decide)).trans ((z2 _ _ (by decide) (by omega)).trans (s1 k hk)))) ((kb _ (by decide)).trans ((k2 _ (by decide) (by decide) (by decide)).trans (k1 _ (by omega)))) ((kb _ (by decide)).trans ((k2 _ (by decide) (by decide) (by decide)).trans (k1 _ (by omega)))) ((kb _ (by decide)).trans ((k2 _ (by decide) (by decide) (by decide)).trans (k1 _ (by omega))))
  have hC : ∀ σ5, FrZ [] [32, 33] σ4 σ5 → mV σ5 246 32 = w.1 + ((mlL M).length : Int) → mV σ5 246 33 = w.2 + ((mlL M).length : Int) → CdR σ5 M B nw false (rd0 (w.1 + ((mlL M).length : Int), w.2 + ((mlL M).length : Int))) := fun σ5 f5 w32 w33 => by
    have y5 : ∀ y k, y ≠ 246 → mV σ5 y k = mV σ4 y k := fun y k n1 => f5.z List.not_mem_nil n1
    have q5 : ∀ k, k ≠ 32 → k ≠ 33 → mV σ5 246 k = mV σ4 246 k := fun k n1 n2 => f5.f (by
      simp only [List.mem_cons, List.not_mem_nil, or_false]
      omega) (by decide)
    have z5 : ∀ y k, y ≠ 246 → y ≠ 275 → y ≠ 299 → ¬ ((y = 285 ∨ y = 292 ∨ y = 298) ∧ k = nw) → mV σ5 y k = mV σ y k := fun y k n1 n2 n3 n4 => (y5 y k n1).trans (zz y k n1 n2 n3 n4)
    have b5 : ∀ y, y = 285 ∨ y = 292 ∨ y = 298 → mV σ5 y nw = 0 := fun y h => by
      refine (y5 y nw (by omega)).trans ((f4.z List.not_mem_nil (by omega)).trans ((f3.z (by simp only [List.mem_singleton]; omega) (by omega)).trans ?_))
      rcases h with rfl | rfl | rfl
      · exact v285
      · exact v292
      · exact v298
    have c5 : ∀ k, k ∈ [84, 85, 99, 98, 112, 113, 30, 29] → mV σ5 246 k = 0 := fun k h => (q5 k (fun e => by rw [e] at h; exact absurd h (by decide)) (fun e => by rw [e] at h; exact absurd h (by decide))).trans (k4 k h)
    have m5 : ∀ k, k = 86 ∨ k = 74 ∨ k = 81 ∨ k = 58 → mV σ5 246 k = mV σ2 246 k := fun k h => (q5 k (by omega) (by omega)).trans (kb k (by
      simp only [List.mem_cons, List.not_mem_nil, or_false]
      omega))
    have e58 : mV σ5 246 58 = 0 := (m5 _ (by omega)).trans ((k2 _ (by decide) (by decide) (by decide)).trans (k1 _ (by omega)))
    have hR5 : RuR σ5 ru0 := hR4.z f5 (by decide) (by decide)
    have no : ∀ {P : Nat → Prop} (i : Nat), i < 0 → P i := fun i hi => absurd hi (Nat.not_lt_zero _)
    obtain ⟨p1, p2, p3⟩ := hR5.2.1 (B.1, [], 2)
    have w33' : 0 ≤ mV σ5 246 33 := by rw [w33]; omega
    refine ⟨⟨(q5 _ (by decide) (by decide)).trans ((kk _ (by decide)).trans hS.1), hS.2.1, fun i hi => (z5 _ _ (by decide) (by decide) (by decide) (by omega)).trans (hS.2.2.1 i hi), (q5 _ (by decide) (by decide)).trans ((kk _ (by decide)).trans hS.2.2.2.1), fun i hi => (z5 _ _ (by decide) (by decide) (by decide) (by omega)).trans (hS.2.2.2.2 i hi)⟩, ⟨⟨(q5 _ (by decide) (by decide)).trans ((kk _ (by decide)).trans h28), w32, w33, ⟨c5 _ (by decide), c5 _ (by decide), fun i hi => no (P := fun _ => _) i hi⟩⟩, ⟨⟨hn1, (q5 _ (by decide) (by decide)).trans ((kk _ (by decide)).trans h59)⟩, ⟨p1, p2, fun m hm => absurd hm (Nat.not_lt_zero _)⟩, ⟨(z5 _ _ (by decide) (by decide) (by decide) (by omega)).trans l1, l2.cg (fun k => z5 _ _ (by decide) (by decide) (by decide) (by omega)) (fun k => z5 _ _ (by decide) (by decide) (by decide) (by omega)), l3.cg (fun k => z5 _ _ (by decide) (by decide) (by decide) (by omega)) (fun k => z5 _ _ (by decide) (by decide) (by decide) (by omega)), fun q hq => (z5 _ _ (by decide) (by decide) (by decide) (by omega)).trans (l4 q hq)⟩, fun hp => ⟨(q5 _ (by decide) (by decide)).trans ((kk _ (by decide)).trans (l5 hp).1), (q5 _ (by decide) (by decide)).trans ((kk _ (by decide)).trans (l5 hp).2)⟩, fun _ => ⟨c5 _ (by decide), fun i hi => absurd hi (Nat.not_lt_zero _)⟩⟩, ⟨⟨e58, fun i hi => absurd hi (Nat.not_lt_zero _), fun i hi => absurd hi (Nat.not_lt_zero _)⟩, ⟨b5 _ (by omega), fun i hi => absurd hi (Nat.not_lt_zero _), fun i hi => absurd hi (Nat.not_lt_zero _)⟩, ⟨b5 _ (by omega), ?_, fun i hi => absurd hi (Nat.not_lt_zero _)⟩, (m5 _ (by omega)).trans v86, c5 _ (by decide)⟩, ⟨by rw [c5 85 (by decide)]; decide, by rw [c5 85 (by decide)]; exact w33'⟩, ⟨⟨c5 _ (by decide), fun i hi => absurd hi (Nat.not_lt_zero _)⟩, c5 _ (by decide)⟩, ⟨fun j hj => absurd hj (Nat.not_lt_zero _), fun j hj => absurd hj (Nat.not_lt_zero _)⟩, ⟨fun k hk => absurd hk (Nat.not_lt_zero _), fun f hf => absurd hf List.not_mem_nil, fun i hi => absurd hi (Nat.not_lt_zero _)⟩⟩, ⟨b5 _ (by omega), ⟨?_, fun i hi => absurd hi (Nat.not_lt_zero _)⟩, fun i hi => absurd hi (Nat.not_lt_zero _), fun j hj => absurd hj (Nat.not_lt_zero _)⟩, hR5, ⟨fun k hk => ?_, [mV σ5 349 0, mV σ5 349 1, mV σ5 349 2], rfl, fun k hk => ?_, trivial, fun e => absurd e (by decide)⟩, hBe.fr hn1 (fun y k h => z5 y k (fun e => by rw [e] at h; exact absurd h (by decide)) (fun e => by rw [e] at h; exact absurd h (by decide)) (fun e => by rw [e] at h; exact absurd h (by decide)) (fun e => by
      rcases e.1 with e1 | e1 | e1 <;> (rw [e1] at h; exact absurd h (by decide)))) (fun y h => z5 y _ (by omega) (by omega) (by omega) (by omega)) (fun j h => (q5 j (by omega) (by omega)).trans (kk j (by
      simp only [List.mem_cons, List.not_mem_nil, or_false]
      omega)))⟩
    · rw [m5 81 (by omega), v81]
      show 70000 * (nw : Int) = ((70000 * nw + 0 : Nat) : Int)
      omega
    · rw [m5 74 (by omega), v74]
      show 70000 * (nw : Int) = ((70000 * nw + 0 : Nat) : Int)
      omega
    · have hk : k < 4 := hk
      rw [y5 _ _ (by decide), f4.z List.not_mem_nil (by decide), n3 k hk]
      have : ∀ k, k < 4 → (0 : Int) = ([0, 0, 0, 0] : List Int).getD k 0 := by decide
      exact this k hk
    · have hk : k < 3 := hk
      have : k = 0 ∨ k = 1 ∨ k = 2 := by omega
      rcases this with rfl | rfl | rfl <;> rfl
  rw [show mV σ3 246 12 = ((mlL M).length : Int) from (f4.f (by decide) (by decide)).symm.trans e12]
  have hW : RxW σ4 (sZz ((w.1, w.2, 0), [], ([], []), ([], [], []), ([], []), ([], [], 0), 0) (mV σ4 246 18) ([], ([], []), ([], [], []), ([], []), ([], [], 0), 0)) := ⟨(kk _ (by decide)).trans h28, (kk _ (by decide)).trans h32, (kk _ (by decide)).trans h33, rfl⟩
  have hBd : BdR 0 0 (sZz ((w.1, w.2, 0), [], ([], []), ([], [], []), ([], []), ([], [], 0), 0) (mV σ4 246 18) ([], ([], []), ([], [], []), ([], []), ([], [], 0), 0)) := ⟨hw0, hw1, by
    show ((0 + 0 + 0 : Nat) : Int) ≤ w.1 + 100
    omega⟩
  by_cases hok : 60000 < w.1 + ((mlL M).length : Int) ∨ 400000 < w.2 + ((mlL M).length : Int)
  · have ef : tSp ((mlL M).length : Int) (sZz ((w.1, w.2, 0), [], ([], []), ([], [], []), ([], []), ([], [], 0), 0) (mV σ4 246 18) ([], ([], []), ([], [], []), ([], []), ([], [], 0), 0)) = tFl 8 (sZz ((w.1, w.2, 0), [], ([], []), ([], [], []), ([], []), ([], [], 0), 0) (mV σ4 246 18) ([], ([], []), ([], [], []), ([], []), ([], [], 0), 0)) := if_pos hok
    refine R_spend.r (n := ((mlL M).length : Int)) (by omega) hW hBd (fun s1 e => by rw [ef] at e; cases e) (fun _ => ?_)
    refine ⟨fun h9 => absurd rfl h9, fun _ => ?_⟩
    refine hn 0 (ru0, (8, w.1, w.2)) _ (if_pos hok) (show ¬ (8 : Int) = 0 by decide) ⟨wV_self, (wV_ne (Or.inr (by decide))).trans hW.2.1, (wV_ne (Or.inr (by decide))).trans hW.2.2.1⟩ ?_ (hR4.z (S := []) (K := [28]) (FrZ.wf (by decide)) (by decide) (by decide)) ((wV_ne (Or.inr (by decide))).trans (k4 _ (by decide))) (gA.tr (FrA.w (G9.o (Or.inl ⟨rfl, by decide⟩))))
    unfold UnB
    rw [wV_ne (Or.inr (by decide)), wV_ne (Or.inr (by decide)), k4 85 (by decide), hW.2.2.1]
    show (0 : Int) ≤ 0 ∧ 0 ≤ w.2
    omega
  · have ef : tSp ((mlL M).length : Int) (sZz ((w.1, w.2, 0), [], ([], []), ([], [], []), ([], []), ([], [], 0), 0) (mV σ4 246 18) ([], ([], []), ([], [], []), ([], []), ([], [], 0), 0)) = .inl (sWk (sZz ((w.1, w.2, 0), [], ([], []), ([], [], []), ([], []), ([], [], 0), 0) (mV σ4 246 18) ([], ([], []), ([], [], []), ([], []), ([], [], 0), 0)) (w.1 + ((mlL M).length : Int)) (w.2 + ((mlL M).length : Int))) := if_neg hok
    refine R_spend.r (n := ((mlL M).length : Int)) (by omega) hW hBd (fun s1 e => ?_) (fun e => by rw [ef] at e; cases e)
    refine ⟨fun _ => ?_, fun h9 => absurd h9 (by decide)⟩
    have f5 : FrZ [] [32, 33] σ4 (wV (wV σ4 246 32 (w.1 + ((mlL M).length : Int))) 246 33 (w.2 + ((mlL M).length : Int))) := (FrZ.wf (by decide)).tr (FrZ.wf (by decide))
    have g5 : FrG9 nw σ (wV (wV σ4 246 32 (w.1 + ((mlL M).length : Int))) 246 33 (w.2 + ((mlL M).length : Int))) := (gA.tr (FrA.w (G9.o (Or.inl ⟨rfl, by decide⟩)))).tr (FrA.w (G9.o (Or.inl ⟨rfl, by decide⟩)))
    have er : rouD B M w = rnD B M (mlL M).length 0 false 0 (rd0 (w.1 + ((mlL M).length : Int), w.2 + ((mlL M).length : Int))) := if_neg hok
    rw [er] at hy hn
    have w32 : mV (wV (wV σ4 246 32 (w.1 + ((mlL M).length : Int))) 246 33 (w.2 + ((mlL M).length : Int))) 246 32 = w.1 + ((mlL M).length : Int) := (wV_ne (Or.inr (by decide))).trans wV_self
    have w33 : mV (wV (wV σ4 246 32 (w.1 + ((mlL M).length : Int))) 246 33 (w.2 + ((mlL M).length : Int))) 246 33 = w.2 + ((mlL M).length : Int) := wV_self
    have i0 := rd0_i (w := (w.1 + ((mlL M).length : Int), w.2 + ((mlL M).length : Int))) ⟨by show 0 ≤ w.1 + ((mlL M).length : Int); omega, by show w.1 + ((mlL M).length : Int) ≤ 60000; omega⟩ ⟨by show 0 ≤ w.2 + ((mlL M).length : Int); omega, by show w.2 + ((mlL M).length : Int) ≤ 400000; omega⟩
    exact rrn_157 (Q := Q) hMb hB (mlL M).length 0 false 0 (-1) (rd0 (w.1 + ((mlL M).length : Int), w.2 + ((mlL M).length : Int))) _ (by omega) (Nat.zero_le _) i0 (hC _ f5 w32 w33) ((wV_ne (Or.inr (by decide))).trans ((wV_ne (Or.inr (by decide))).trans (k4 _ (by decide)))) (Or.inr ⟨rfl, by decide, by decide⟩) (fun x σ' q1 q2 q3 q4 => hy x σ' q1 q2 q3 (g5.tr q4)) (fun l x σ' q1 q2 q3 q4 q5 q6 q7 => hn l x σ' q1 q2 q3 q4 q5 q6 (g5.tr q7))
end
