/-! SET: the reference; both -/
def AlR8 (z k : Nat) : Prop := (z = 246 ∧ k ∉ [6, 7, 8, 115, 135, 141]) ∨ okZ9 z = true
/-- what set leaves in the reference -/
def FrR9 (σ σ' : MS) : Prop := FrA AlR8 σ σ'
section
variable {σ σ0 σ1 σ2 : MS} {Q : MQ9} {M : List Int} {f s9 e : Int}
theorem FrR9.ee (h : FrE9 σ σ1) : FrR9 σ σ1 := FrA.mo h (fun z k a => by
  rcases a with a | a
  · refine Or.inl ⟨a.1, fun e => a.2 ?_⟩
    unfold KpK8
    simp only [List.mem_cons, List.not_mem_nil, or_false] at e ⊢
    omega
  · exact Or.inr a)
theorem FrR9.z {S K : List Nat} (h : FrZ S K σ σ1) (hs : ∀ x ∈ S, okZ9 x = true) (hk : ∀ k ∈ K, k ∉ [6, 7, 8, 115, 135, 141]) : FrR9 σ σ1 := ⟨h.1, h.2.1, fun z k n => h.2.2 z k (fun e => n (Or.inr (hs z e))) (by
  by_cases h6 : z = 246
  · exact Or.inr (fun e => n (Or.inl ⟨h6, hk k e⟩))
  · exact Or.inl h6)⟩
theorem FrR9.tr (h : FrR9 σ σ1) (h' : FrR9 σ1 σ2) : FrR9 σ σ2 := FrA.tr h h'
/-- the manuscript is copied -/
theorem rst_15 (hMb : smB M) (hM4 : M.length ≤ 4000) (h7 : mV σ0 246 7 = (M.length : Int)) (h248 : hol σ0 248 M) (hq : ∀ σ', FrZ [252] [] σ0 σ' → hol σ' 252 M → R_set_15 (M.length : Int) σ' Q) : ∀ (n j : Nat) (σ : MS), j + n = M.length → FrZ [252] [] σ0 σ → (∀ k, k < j → mV σ 252 k = M.getD k 0) → R_set_15 (j : Int) σ Q := by
  intro n
  induction n with
  | zero =>
    intro j σ hj hf hk
    have ej : j = M.length := by omega
    rw [ej] at hk ⊢
    exact hq σ hf hk
  | succ n ih =>
    intro j σ hj hf hk
    have e7 : mV σ 246 7 = (M.length : Int) := (hf.f List.not_mem_nil (by decide)).trans h7
    have e8 : mV σ 248 j = M.getD j 0 := (hf.z (by decide) (by decide)).trans (h248 j (by omega))
    have sm := hMb _ (gd_mem (L := M) (i := j) (by omega))
    refine R_set_15.i ⟨by unfold Rg; omega, fun h => by rw [e7] at h; omega, fun _ => ⟨by omega, by omega, by omega, by omega, ?_⟩⟩
    rw [Int.toNat_natCast, e8, show b8 (M.getD j 0) = M.getD j 0 by unfold b8; omega, show (j : Int) + 1 = ((j + 1 : Nat) : Int) by omega]
    refine ih (j + 1) _ (by omega) (hf.tr (FrZ.wz (by decide))) (fun k hk9 => ?_)
    by_cases c : k = j
    · rw [c]
      exact wV_self
    · rw [wV_ne (Or.inr c)]
      exact hk k (by omega)
/-- the reference behind set -/
def EfR (σ : MS) (nw : Nat) (s : SR9) : Prop := PfR σ (plR9 s.1 s.2.1) ∧ (mV σ 246 123 = (s.2.1.length : Int) ∧ (∀ k, k < s.2.1.length → mV σ 328 k = (((psD s.1 s.2.1).getD k 0 : Nat) : Int)) ∧ mV σ 328 s.2.1.length = ((plR9 s.1 s.2.1).length : Int)) ∧ MkR9 σ nw (neB9 s.1 s.2.1) ∧ RuR σ s.1.2.2.1 ∧ UnB σ ∧ mV σ 246 59 = (nw : Int) ∧ (mV σ 246 33 = s.1.1.1.1.2.1 ∧ mV σ 246 34 = s.1.1.1.1.1) ∧ (mV σ 246 114 = 1 ∧ mV σ 246 128 = s.1.1.1.2.2.2.2.2.1.2.2 ∧ mV σ 246 129 = s.1.1.1.2.2.2.2.2.2 ∧ mV σ 246 130 = s.1.2.2.1.1.getD 11 0 ∧ mV σ 246 131 = s.1.2.2.1.1.getD 12 0) ∧ (mV σ 246 126 = s.2.2.1 ∧ mV σ 246 127 = bZ s.2.2.2) ∧ mV σ 328 0 = 0
/-- set, the reference -/
theorem R_set.r (hMb : smB M) (hM4 : M.length ≤ 4000) (h7 : mV σ 246 7 = (M.length : Int)) (h248 : hol σ 248 M) (hf : 0 ≤ f ∧ f ≤ 999) (h33 : mV σ 246 33 = e) (he : 0 ≤ e ∧ e ≤ 400000) (h328 : mV σ 328 0 = 0) (hy : ∀ s nw σ', seD M 5 1 (bf0 f s9) (0, e) = .inl s → nw ≤ 1 → EfR σ' nw s → FrR9 σ σ' → Q (.inl (some 0)) σ') (hn : ∀ x (nw : Nat) σ', seD M 5 1 (bf0 f s9) (0, e) = .inr x → nw ≤ 1 → UnB σ' → RuR σ' x.2.1 → mV σ' 246 59 = (nw : Int) → (mV σ' 246 33 = x.2.2.2.2 ∧ mV σ' 246 34 = x.2.2.2.1) → mV σ' 246 114 = 0 → mV σ' 328 0 = 0 → FrR9 σ σ' → Q (.inl (some (x.2.2.1 + 16 * x.1))) σ') : R_set σ Q := by
  refine R_set.i ?_
  rw [h7]
  generalize hσ1 : wV (wV σ 246 0 0) 246 10 (M.length : Int) = σ1
  have f1 : FrZ [] [0, 10] σ σ1 := by
    rw [← hσ1]
    exact (FrZ.wf (by decide)).tr (FrZ.wf (by decide))
  have a10 : mV σ1 246 10 = (M.length : Int) := by
    rw [← hσ1]
    exact wV_self
  clear hσ1
  refine rst_15 (σ0 := σ1) hMb hM4 ((f1.f (by decide) (by decide)).trans h7) (fun i hi => (f1.z List.not_mem_nil (by decide)).trans (h248 i hi)) (fun σ2 f2 h252 => ?_) M.length 0 σ1 (Nat.zero_add _) FrZ.rf (fun k hk => absurd hk (Nat.not_lt_zero _))
  have e7 : mV σ2 246 7 = (M.length : Int) := (f2.f List.not_mem_nil (by decide)).trans ((f1.f (by decide) (by decide)).trans h7)
  refine R_set_15.i ⟨by unfold Rg; omega, fun _ => ?_, fun h => by rw [e7] at h; omega⟩
  refine R_splits.p (T := M) ((f2.f List.not_mem_nil (by decide)).trans a10) hM4 h252 (fun σ3 f3 la3 => ⟨by decide, by decide, by decide, by decide, by decide, by decide, ?_⟩)
  generalize hσ4 : wV (wV (wV (wV (wV (wV (wV (wV (wV σ3 246 28 0) 246 32 0) 246 114 0) 246 127 0) 246 126 0) 246 59 1) 285 1 0) 292 1 0) 298 1 0 = σ4
  have f4 : FrZ [285, 292, 298] [28, 32, 114, 127, 126, 59] σ3 σ4 := by
    rw [← hσ4]
    exact ((((((((FrZ.wf (by decide)).tr (FrZ.wf (by decide))).tr (FrZ.wf (by decide))).tr (FrZ.wf (by decide))).tr (FrZ.wf (by decide))).tr (FrZ.wf (by decide))).tr (FrZ.wz (by decide))).tr (FrZ.wz (by decide))).tr (FrZ.wz (by decide))
  have v4 : mV σ4 246 28 = 0 ∧ mV σ4 246 32 = 0 ∧ mV σ4 246 114 = 0 ∧ mV σ4 246 127 = 0 ∧ mV σ4 246 126 = 0 ∧ mV σ4 246 59 = 1 ∧ mV σ4 285 1 = 0 ∧ mV σ4 292 1 = 0 ∧ mV σ4 298 1 = 0 := by
    rw [← hσ4]
    exact ⟨rfl, rfl, rfl, rfl, rfl, rfl, rfl, rfl, rfl⟩
  clear hσ4
  obtain ⟨v28, v32, v114, v127, v126, v59, v285, v292, v298⟩ := v4
  have fA : FrZ [252, 253, 285, 292, 298] [0, 10, 12, 28, 32, 114, 127, 126, 59] σ σ4 := (((f1.mo (fun x hx => absurd hx List.not_mem_nil) (by decide)).tr (f2.mo (by decide) (fun x hx => absurd hx List.not_mem_nil))).tr (f3.mo (by decide) (by decide))).tr (f4.mo (by decide) (by decide))
  have gA : FrR9 σ σ4 := FrR9.z fA (by decide) (by decide)
  have w33 : mV σ4 246 33 = e := (fA.f (by decide) (by decide)).trans h33
  have hSc : ScR σ4 M := ⟨(f4.f (by decide) (by decide)).trans ((f3.f (by decide) (by decide)).trans ((f2.f List.not_mem_nil (by decide)).trans a10)), hM4, fun i hi => (f4.z (by decide) (by decide)).trans ((f3.z (by decide) (by decide)).trans (h252 i hi)), (f4.f (by decide) (by decide)).trans la3.1, fun i hi => (f4.z (by decide) (by decide)).trans (la3.2 i hi)⟩
  have no : ∀ {p : Nat → Prop} (i : Nat), i < 0 → p i := fun i hi => absurd hi (Nat.not_lt_zero _)
  have hS : SeR σ4 M (bf0 f s9) 0 (0, e) 1 := ⟨hSc, v59, ⟨v28, v32, w33⟩, ⟨v285, fun m hm => absurd hm (Nat.not_lt_zero _), fun m hm => absurd hm (Nat.not_lt_zero _), fun q hq => absurd hq (Nat.not_lt_zero _), fun h => absurd h (Nat.lt_irrefl _)⟩, ⟨⟨v292, fun i hi => absurd hi (Nat.not_lt_zero _)⟩, ⟨v298, fun i hi => absurd hi (Nat.not_lt_zero _)⟩, fun i hi => absurd hi (Nat.not_lt_zero _), fun h => by
    rcases h with h | h
    · exact absurd h (Nat.lt_irrefl _)
    · exact absurd h (Nat.lt_irrefl _)⟩, v126, (fA.z (by decide) (by decide)).trans h328⟩
  refine rse_96 hMb 4 1 0 (bf0 f s9) (0, e) σ4 (by decide) (by decide) (by decide) (bf0_i hf) h06 he hS v127 (fun s nw' σ5 q1 q2 q3 q4 q5 q6 q7 q8 => ?_) (fun x nw' σ5 q1 q2 q3 q4 q5 q6 q7 q8 q9 => ?_)
  · obtain ⟨p1, ⟨p2, p3, p4⟩, p5, p6, ⟨p7, p8, p9⟩, ⟨p10, p11⟩, p12, ⟨p13, p14, p15⟩⟩ := q4
    refine R_set_353.i ⟨fun _ => ?_, fun h => absurd p13 h⟩
    rw [p14, p7, p8, p10, p11]
    generalize hσ6 : wV (wV (wV (wV (wV (wV σ5 246 34 s.1.1.1.1.1) 246 114 1) 246 128 s.1.1.1.2.2.2.2.2.1.2.2) 246 129 s.1.1.1.2.2.2.2.2.2) 246 130 (s.1.2.2.1.1.getD 11 0)) 246 131 (s.1.2.2.1.1.getD 12 0) = σ6
    have f6 : FrZ [] [34, 114, 128, 129, 130, 131] σ5 σ6 := by
      rw [← hσ6]
      exact (((((FrZ.wf (by decide)).tr (FrZ.wf (by decide))).tr (FrZ.wf (by decide))).tr (FrZ.wf (by decide))).tr (FrZ.wf (by decide))).tr (FrZ.wf (by decide))
    have v6 : mV σ6 246 34 = s.1.1.1.1.1 ∧ mV σ6 246 114 = 1 ∧ mV σ6 246 128 = s.1.1.1.2.2.2.2.2.1.2.2 ∧ mV σ6 246 129 = s.1.1.1.2.2.2.2.2.2 ∧ mV σ6 246 130 = s.1.2.2.1.1.getD 11 0 ∧ mV σ6 246 131 = s.1.2.2.1.1.getD 12 0 := by
      rw [← hσ6]
      exact ⟨rfl, rfl, rfl, rfl, rfl, rfl⟩
    clear hσ6
    have nil : ∀ {L : List Nat}, ∀ x ∈ L, x ∉ ([] : List Nat) := fun x _ => List.not_mem_nil
    obtain ⟨i1, i2, i3, i4, i5⟩ := (seD_i hMb hM4 (bf0_i hf) h06 he).1 s q1
    have bi := neB9_i i1 i4
    refine hy s nw' σ6 q1 q2 ⟨p1.z9 f6 nil (by decide), ⟨(f6.f (by decide) (by decide)).trans p2, fun k hk => (f6.z List.not_mem_nil (by decide)).trans (p3 k hk), (f6.z List.not_mem_nil (by decide)).trans p4⟩, p5.cg bi.1.2.2.1 bi.2.1.1 bi.2.2.1.1 (fun y k h => f6.z List.not_mem_nil (fun e9 => by rw [e9] at h; exact absurd h (by decide))) (fun q _ => f6.z List.not_mem_nil (by decide)) (fun q _ => f6.z List.not_mem_nil (by decide)) (fun q _ => f6.z List.not_mem_nil (by decide)), p6.z f6 nil (by decide), p9.z f6 List.not_mem_nil (by decide), (f6.f (by decide) (by decide)).trans p12, ⟨(f6.f (by decide) (by decide)).trans p15, v6.1⟩, ⟨v6.2.1, v6.2.2.1, v6.2.2.2.1, v6.2.2.2.2.1, v6.2.2.2.2.2⟩, ⟨(f6.f (by decide) (by decide)).trans q5, (f6.f (by decide) (by decide)).trans q6⟩, (f6.z List.not_mem_nil (by decide)).trans q7⟩ ((gA.tr (FrR9.ee q8)).tr (FrR9.z f6 (fun x hx => absurd hx List.not_mem_nil) (by decide)))
  · obtain ⟨i1, i2, i31, i32, i33⟩ := (seD_i hMb hM4 (bf0_i hf) h06 he).2 x q1
    have h28 : mV σ5 246 28 = x.2.2.1 := q3.1
    refine R_set_353.i ⟨fun h => by rw [h28] at h; omega, fun _ => ?_⟩
    rw [h28, q6]
    refine ⟨by unfold Rg; omega, ?_⟩
    have f6 : FrZ [] [34] σ5 (wV σ5 246 34 (mV σ5 246 32)) := FrZ.wf (by decide)
    have nil : ∀ {L : List Nat}, ∀ x ∈ L, x ∉ ([] : List Nat) := fun x _ => List.not_mem_nil
    have g114 : mV σ5 246 114 = mV σ4 246 114 := q9.2.2 246 114 (fun h => by
      rcases h with h | h
      · exact h.2 (by decide)
      · exact absurd h (by decide))
    refine hn x nw' _ q1 q2 (q4.z f6 List.not_mem_nil (by decide)) (q5.z f6 nil (by decide)) ((f6.f (by decide) (by decide)).trans q7) ⟨(f6.f (by decide) (by decide)).trans q3.2.2, wV_self.trans q3.2.1⟩ ((f6.f (by decide) (by decide)).trans (g114.trans v114)) ((f6.z List.not_mem_nil (by decide)).trans q8) ((gA.tr (FrR9.ee q9)).tr (FrR9.z f6 (fun x hx => absurd hx List.not_mem_nil) (by decide)))
end
/-! what holds between calls -/
/-- numbers that count tells -/
def CnR (σ : MS) (nw : Nat) : Prop := mV σ 212 0 = 1 → (mV σ 228 3 = mV σ 246 123 ∧ mV σ 228 4 = mV σ 246 128 ∧ mV σ 228 5 = mV σ 292 nw ∧ mV σ 228 7 = mV σ 285 nw) ∧ (∃ K, KyR σ nw K ∧ K.length ≤ 100 ∧ suM K ≤ 60200 ∧ (∀ w ∈ K, smB w) ∧ mV σ 228 6 = ((orD K K.length).length : Int)) ∧ (∃ L : List GL9, mV σ 246 124 = (L.length : Int) ∧ L.length ≤ 6100 ∧ mV σ 228 8 = puN L ∧ ∀ l, l < L.length → mV σ 327 l = bZ (decide (2 ≤ (L.getD l ([], 0, 0)).2.2))) ∧ (mV σ 228 9 = mV σ 246 126 ∧ mV σ 228 10 = mV σ 246 127 ∧ mV σ 228 11 = mV σ 246 129 ∧ mV σ 228 12 = mV σ 246 124)
def Inv9 (σ : MS) : Prop := ∃ E z nw, MemR σ ∧ TlR σ E z nw ∧ (mB σ 1 = 212 - z ∧ FdB σ) ∧ AnR σ ∧ PrR σ ∧ KeR σ ∧ HyP σ ∧ CnR σ nw ∧ (mV σ 328 0 = 0 ∧ mV σ 0 14 = mV σ 246 34)
section
variable {σ σ1 σ2 : MS} {Q : MQ9}
theorem r9_n {y k : Nat} (h : y < 246 ∨ y ∈ [247, 248, 249, 250, 251, 329, 330, 331, 336] ∨ (y = 246 ∧ k ∈ [6, 7, 8, 115, 135, 141])) : ¬ AlR8 y k := fun a => by
  rcases a with a | a
  · rcases h with h | h | h
    · omega
    · rw [a.1] at h
      exact absurd h (by decide)
    · exact a.2 h.2
  · have a := of_decide_eq_true a
    rcases h with h | h | h
    · omega
    · exact a.2 (List.mem_cons_of_mem _ h)
    · exact a.2 (by rw [h.1]; exact List.mem_cons_self)
/-- tape, manuscript, former ones, answers, what is kept: both sides leave them -/
theorem keep9 (h : MemR σ) (an : AnR σ) (ke : KeR σ) (f1 : FrT9 σ σ1) (f2 : FrR9 σ1 σ2) (e : mV σ2 22 1 = mV σ2 246 33) (eb : 0 ≤ mV σ2 22 1 ∧ mV σ2 22 1 ≤ 400000) : MemR σ2 ∧ AnR σ2 ∧ KeR σ2 := by
  obtain ⟨⟨a1, a2, a3, a4⟩, ⟨b1, b2, b3, b4⟩, ⟨t, c, ⟨c1, c2, c3, c4, c5, c6⟩⟩, -, -, -⟩ := h
  have x : ∀ q, q < 22 ∨ 228 < q → mX σ2 q = mX σ q := fun q hq => by
    rw [f2.1]
    exact f1.1 q hq
  have v : ∀ y k, (y < 22 ∧ ¬ (y = 0 ∧ k = 14)) ∨ y = 229 → mV σ2 y k = mV σ y k := fun y k hq => (f2.2.2 y k (r9_n (by omega))).trans (f1.2.2 y k (by omega))
  have w : ∀ y k, y ∈ [247, 248, 249, 250, 251, 329, 330, 331, 336] → mV σ2 y k = mV σ y k := fun y k hq => by
    refine (f2.2.2 y k (r9_n (Or.inr (Or.inl hq)))).trans (f1.2.2 y k (Or.inr ?_))
    simp only [List.mem_cons, List.not_mem_nil, or_false] at hq
    omega
  have u : ∀ k, k ∈ [6, 7, 8, 115, 135, 141] → mV σ2 246 k = mV σ 246 k := fun k hq => (f2.2.2 246 k (r9_n (Or.inr (Or.inr ⟨rfl, hq⟩)))).trans (f1.2.2 246 k (Or.inr (by decide)))
  have x1 : mX σ2 1 = mX σ 1 := x 1 (by omega)
  have x3 : mX σ2 3 = mX σ 3 := x 3 (by omega)
  have x5 : mX σ2 5 = mX σ 5 := x 5 (by omega)
  refine ⟨⟨⟨?_, ?_, ?_, ?_⟩, ⟨?_, ?_, ?_, ?_⟩, ⟨t, c, c1, c2, (v _ _ (by omega)).trans c3, (v _ _ (by omega)).trans c4, (u _ (by decide)).trans c5, c6.cg (fun j hj => x _ (by omega)) (fun k => w _ _ (by decide)) (fun k => w _ _ (by decide))⟩, e, eb⟩, ⟨?_, ?_, ?_⟩, ?_⟩
  · rw [x1]
    exact (u _ (by decide)).trans a1
  · rw [x1]
    exact fun i hi => (w _ _ (by decide)).trans (a2 i hi)
  · rw [x1]
    exact a3
  · rw [x1]
    exact a4
  · rw [x3]
    exact (u _ (by decide)).trans b1
  · rw [x3]
    exact fun i hi => (w _ _ (by decide)).trans (b2 i hi)
  · rw [x3]
    exact b3
  · rw [x3]
    exact b4
  · rw [x5]
    exact (u _ (by decide)).trans an.1
  · rw [x5]
    exact an.2.1
  · rw [x5]
    exact fun i hi => (w _ _ (by decide)).trans (an.2.2 i hi)
  · rcases ke with ⟨k1, k2⟩ | ⟨k1, k2, K, ⟨⟨k3, k3'⟩, k4, k5, k6, k7, k8, k9⟩⟩
    · exact Or.inl ⟨(v _ _ (by omega)).trans k1, (u _ (by decide)).trans k2⟩
    · refine Or.inr ⟨(v _ _ (by omega)).trans k1, (u _ (by decide)).trans k2, K, ⟨⟨(x _ (by omega)).trans k3, (x _ (by omega)).trans k3'⟩, (x _ (by omega)).trans k4, (u _ (by decide)).trans k5, k6, k7, fun l hl => ⟨(w _ _ (by decide)).trans (k8 l hl).1, (w _ _ (by decide)).trans (k8 l hl).2⟩, fun i hi => (w _ _ (by decide)).trans (k9 i hi)⟩⟩
end
section
variable {room : Int} {F : List Int} {Ls : List GL9} {A : List Int} {sp : List (Int × Int)} {S : List Int} {g : HG9}
theorem psG_ge : ∀ {P : List (Nat × Nat)} {n c k : Nat}, k < P.length → n ≤ (psG S F Ls A sp g room n c P).getD k 0 ∧ (psG S F Ls A sp g room n c P).getD k 0 ≤ n + (prG9 S F Ls A sp g room c P).length
  | [], n, c, k, h => absurd h (Nat.not_lt_zero _)
  | p :: P, n, c, 0, _ => ⟨Nat.le_refl _, Nat.le_add_right _ _⟩
  | p :: P, n, c, k + 1, h => by
    have ih := psG_ge (P := P) (n := n + (pgG S F Ls A sp g room c p.1 p.2).length) (c := c + 1) (k := k) (Nat.lt_of_succ_lt_succ h)
    show n ≤ (psG S F Ls A sp g room (n + (pgG S F Ls A sp g room c p.1 p.2).length) (c + 1) P).getD k 0 ∧ (psG S F Ls A sp g room (n + (pgG S F Ls A sp g room c p.1 p.2).length) (c + 1) P).getD k 0 ≤ n + (pgG S F Ls A sp g room c p.1 p.2 ++ prG9 S F Ls A sp g room (c + 1) P).length
    rw [List.length_append]
    omega
theorem psG_m : ∀ {P : List (Nat × Nat)} {n c k : Nat}, k < P.length → (psG S F Ls A sp g room n c P).getD k 0 ≤ nxP (psG S F Ls A sp g room n c P) (n + (prG9 S F Ls A sp g room c P).length) k ∧ nxP (psG S F Ls A sp g room n c P) (n + (prG9 S F Ls A sp g room c P).length) k ≤ n + (prG9 S F Ls A sp g room c P).length
  | [], n, c, k, h => absurd h (Nat.not_lt_zero _)
  | p :: P, n, c, 0, _ => by
    have lp := psG_l (S := S) (F := F) (Ls := Ls) (A := A) (sp := sp) (g := g) (room := room) (P := P) (c := c + 1) (n := n + (pgG S F Ls A sp g room c p.1 p.2).length)
    show n ≤ (if 0 + 1 < (psG S F Ls A sp g room (n + (pgG S F Ls A sp g room c p.1 p.2).length) (c + 1) P).length + 1 then (psG S F Ls A sp g room (n + (pgG S F Ls A sp g room c p.1 p.2).length) (c + 1) P).getD 0 0 else n + (pgG S F Ls A sp g room c p.1 p.2 ++ prG9 S F Ls A sp g room (c + 1) P).length) ∧ (if 0 + 1 < (psG S F Ls A sp g room (n + (pgG S F Ls A sp g room c p.1 p.2).length) (c + 1) P).length + 1 then (psG S F Ls A sp g room (n + (pgG S F Ls A sp g room c p.1 p.2).length) (c + 1) P).getD 0 0 else n + (pgG S F Ls A sp g room c p.1 p.2 ++ prG9 S F Ls A sp g room (c + 1) P).length) ≤ n + (pgG S F Ls A sp g room c p.1 p.2 ++ prG9 S F Ls A sp g room (c + 1) P).length
    rw [lp, List.length_append]
    by_cases c9 : 0 + 1 < P.length + 1
    · have := psG_ge (S := S) (F := F) (Ls := Ls) (A := A) (sp := sp) (g := g) (room := room) (P := P) (n := n + (pgG S F Ls A sp g room c p.1 p.2).length) (c := c + 1) (k := 0) (by omega)
      rw [if_pos c9]
      omega
    · rw [if_neg c9]
      omega
  | p :: P, n, c, k + 1, h => by
    have ih := psG_m (P := P) (n := n + (pgG S F Ls A sp g room c p.1 p.2).length) (c := c + 1) (k := k) (Nat.lt_of_succ_lt_succ h)
    have e : n + (prG9 S F Ls A sp g room c (p :: P)).length = n + (pgG S F Ls A sp g room c p.1 p.2).length + (prG9 S F Ls A sp g room (c + 1) P).length := by
      show n + (pgG S F Ls A sp g room c p.1 p.2 ++ prG9 S F Ls A sp g room (c + 1) P).length = _
      rw [List.length_append]
      omega
    have e2 : ∀ T, nxP (psG S F Ls A sp g room n c (p :: P)) T (k + 1) = nxP (psG S F Ls A sp g room (n + (pgG S F Ls A sp g room c p.1 p.2).length) (c + 1) P) T k := fun T => by
      show (if k + 1 + 1 < (psG S F Ls A sp g room (n + (pgG S F Ls A sp g room c p.1 p.2).length) (c + 1) P).length + 1 then (psG S F Ls A sp g room (n + (pgG S F Ls A sp g room c p.1 p.2).length) (c + 1) P).getD (k + 1) 0 else T) = (if k + 1 < (psG S F Ls A sp g room (n + (pgG S F Ls A sp g room c p.1 p.2).length) (c + 1) P).length then (psG S F Ls A sp g room (n + (pgG S F Ls A sp g room c p.1 p.2).length) (c + 1) P).getD (k + 1) 0 else T)
      by_cases c9 : k + 1 < (psG S F Ls A sp g room (n + (pgG S F Ls A sp g room c p.1 p.2).length) (c + 1) P).length
      · rw [if_pos c9, if_pos (by omega)]
      · rw [if_neg c9, if_neg (by omega)]
    rw [e, e2]
    exact ih
end
section
variable {σ σ1 σ2 : MS} {Q : MQ9} {a : Nat}
theorem PrR.mk9 {s : SR9} {nw : Nat} (hP : s.2.1.length ≤ 99) (hl : (plR9 s.1 s.2.1).length ≤ 6000 ∧ suM ((plR9 s.1 s.2.1).map (·.1)) ≤ 70000) (h1 : PoC σ (plR9 s.1 s.2.1) []) (h2 : mX σ 220 = (psD s.1 s.2.1).map Int.ofNat) (h3 : mV σ 212 0 = 1) (h4 : EfR σ nw s) : PrR σ := by
  obtain ⟨p1, ⟨p2, p3, p4⟩, -, -, -, -, -, ⟨p5, -⟩, -⟩ := h4
  have lp : (psD s.1 s.2.1).length = s.2.1.length := psG_l
  refine Or.inr ⟨h3, p5, psD s.1 s.2.1, (plR9 s.1 s.2.1).map (·.1), (plR9 s.1 s.2.1).map (·.2.1), ⟨h2, ⟨?_, h1.2.1⟩, h1.2.2.1, by rw [List.length_map, List.length_map], h1.2.2.2⟩, ⟨by rw [lp]; exact p2, by omega, fun i hi => p3 i (by omega), by rw [lp, List.length_map]; exact p4, by rw [List.length_map]; exact p1.1, p1.2.1⟩, by rw [List.length_map]; omega, by omega, fun i hi => ?_, fun l hl9 => ?_, p1.2.2.2⟩
  · have := h1.1
    rw [List.append_nil] at this
    exact this
  · have q := psG_m (S := s.1.2.2.1.1) (F := s.1.1.2.1.2) (Ls := s.1.1.2.1.1) (A := s.1.1.2.2.1.1) (sp := s.1.1.2.2.1.2) (g := s.1.2.1) (room := rmP s.1.2.2.1.1) (P := s.2.1) (n := 0) (c := 0) (k := i) (by omega)
    rw [Nat.zero_add] at q
    rw [List.length_map]
    exact q
  · rw [List.length_map] at hl9
    obtain ⟨y1, y2, y3, y4⟩ := p1.2.2.1 l hl9
    refine ⟨by rw [(gl_map1 hl9).2.2]; exact y2, y1, ?_⟩
    have : ((plR9 s.1 s.2.1).map (·.2.1)).getD l 0 = ((plR9 s.1 s.2.1).getD l ([], 0, 0)).2.1 := by
      unfold List.getD
      rw [List.getElem?_map, List.getElem?_eq_getElem hl9]
      rfl
    rw [this]
    exact y3
/-- set, class and reference -/
theorem set_b {th th' : String → MS → Prop} (ha : 1 ≤ a) (h : Inv9 σ) (hq : ∀ v σ', Inv9 σ' → Q (.inl (some v)) σ') : T_set a σ (kI th fun v σ1 => R_set σ1 (kI th' fun v' σ2 => v' = v ∧ Q (.inl (some v)) σ2)) := by
  obtain ⟨E, z, nw, hM, ⟨⟨-, -, hz, hb0, -, -, -, -⟩, -⟩, ⟨hb1, hF⟩, hA, -, hK, -, -, ⟨h328, -⟩⟩ := h
  obtain ⟨-, ⟨m1, m2, m3, m4⟩, -, w1, w2, w3⟩ := id hM
  -- the reference, behind the class
  have ref : ∀ σ1, FrT9 σ σ1 → ∀ Q : MQ9, (∀ s nw σ', seD (mX σ 3) 5 1 (bf0 (mV σ z 14) (mV σ z 15)) (0, mV σ 22 1) = .inl s → nw ≤ 1 → EfR σ' nw s → FrR9 σ1 σ' → Q (.inl (some 0)) σ') → (∀ x (nw : Nat) σ', seD (mX σ 3) 5 1 (bf0 (mV σ z 14) (mV σ z 15)) (0, mV σ 22 1) = .inr x → nw ≤ 1 → UnB σ' → RuR σ' x.2.1 → mV σ' 246 59 = (nw : Int) → (mV σ' 246 33 = x.2.2.2.2 ∧ mV σ' 246 34 = x.2.2.2.1) → mV σ' 246 114 = 0 → mV σ' 328 0 = 0 → FrR9 σ1 σ' → Q (.inl (some (x.2.2.1 + 16 * x.1))) σ') → R_set σ1 Q := fun σ1 f1 Q hy hn => by
    have v : ∀ y k, 228 < y → mV σ1 y k = mV σ y k := fun y k h => f1.2.2 y k (Or.inr h)
    exact R_set.r (f := mV σ z 14) (s9 := mV σ z 15) (e := mV σ 22 1) m4 m3 ((v _ _ (by decide)).trans m1) (fun i hi => (v _ _ (by decide)).trans (m2 i hi)) (hF z hz) ((v _ _ (by decide)).trans w1.symm) ⟨w2, w3⟩ ((v _ _ (by decide)).trans h328) hy hn
  have hI := seD_i (n := 5) (r := 1) m4 m3 (bf0_i (f := mV σ z 14) (s := mV σ z 15) (hF z hz)) (w := (0, mV σ 22 1)) h06 ⟨w2, w3⟩
  refine T_set.c (M := mX σ 3) ha hz rfl m3 m4 hb0 hb1 hF ⟨w2, w3⟩ (fun s c' z1 σ1 q1 hz1 qb qk qr qf qw po p220 p212 ty f1 => ?_) (fun x c' z1 σ1 q1 hz1 qb qk qr qf qw p212 f1 => ?_)
  · show R_set σ1 _
    refine ref σ1 f1 _ (fun s' nw' σ2 r1 hn9 ef f2 => ?_) (fun x nw' σ2 r1 _ _ _ _ _ _ _ _ => ?_)
    · have es : s' = s := Sum.inl.inj (r1.symm.trans q1)
      rw [es] at ef
      refine ⟨rfl, hq 0 σ2 ?_⟩
      obtain ⟨i1, i2, i3, i4, i5⟩ := hI.1 s q1
      obtain ⟨-, -, b1, b2⟩ := plR9_p i1 i2 i3
      have bi := neB9_i i1 i4
      have ru := i1.2.1
      have x2 : ∀ q, mX σ2 q = mX σ1 q := fun q => by rw [f2.1]
      have v2 : ∀ y k, y < 246 → mV σ2 y k = mV σ1 y k := fun y k h => f2.2.2 y k (r9_n (Or.inl h))
      have ef0 := ef
      obtain ⟨e1, ⟨e2, e3, e4⟩, e5, e6, e7, e8, ⟨e9, e10⟩, ⟨e11, e12, e13, e14, e15⟩, ⟨e16, e17⟩, e18⟩ := ef
      have ti := i1.1.1
      have u0 : 0 ≤ s.1.1.1.2.2.2.2.2.2 := ti.2.2.2.2.2.1.1
      have u1 : s.1.1.1.2.2.2.2.2.2 + 0 ≤ s.1.1.1.1.2.1 := ti.2.2.2.2.2.1.2.1
      have wb : 0 ≤ s.1.1.1.1.2.1 ∧ s.1.1.1.1.2.1 ≤ 400000 := ti.1.2.1
      have w22 : mV σ2 22 1 = s.1.1.1.1.2.1 := (v2 _ _ (by decide)).trans qw.1
      obtain ⟨kM, kA, kK⟩ := keep9 hM hA hK f1 f2 (by rw [w22, e9]) (by rw [w22]; exact wb)
      obtain ⟨t3, t4, t5, t6, t7, t8, t9, t10, t11, t12⟩ := ty
      have po2 : PoC σ2 (plR9 s.1 s.2.1) [] := ⟨(x2 _).trans po.1, (x2 _).trans po.2.1, (x2 _).trans po.2.2.1, (x2 _).trans po.2.2.2⟩
      refine ⟨(s.1.2.2.1.2.1, (neB9 s.1 s.2.1).1, [], 0), z1, nw', kM, ⟨⟨⟨ru.2.1, bi.1, ⟨Nat.zero_le _, fun x hx => absurd hx List.not_mem_nil⟩, (by decide : (0 : Int) ≤ 0 ∧ (0 : Int) ≤ 2)⟩, rfl, hz1, by rw [f2.2.1]; exact qb.1, ?_, ?_, ?_, ?_⟩, ⟨hn9, e8, e6.2.1 _, fun _ => e5.1, fun h => by rw [e11] at h; exact absurd h (by decide), fun _ => ⟨e14, e15⟩, e7⟩⟩, ⟨by rw [f2.2.1]; exact qb.2, fun y h => by rw [v2 y 14 (by omega)]; exact qf y h⟩, kA, PrR.mk9 i4 (by omega) po2 ((x2 _).trans p220) ((v2 _ _ (by decide)).trans p212) ef0, kK, ⟨_, _, _, _, ru.hb, ?_, ⟨e6.2.2.1, e6.2.2.2, e6.1 4 (by decide), e6.1 5 (by decide)⟩⟩, fun _ => ⟨⟨(v2 _ _ (by decide)).trans (t3.trans e2.symm), (v2 _ _ (by decide)).trans (t4.trans e12.symm), (v2 _ _ (by decide)).trans (t5.trans e5.2.1.1.symm), (v2 _ _ (by decide)).trans (t7.trans e5.1.1.symm)⟩, ⟨s.1.1.1.2.2.2.2.1.1, e5.2.2.1, bi.2.2.1.1, bi.2.2.1.2.2.1, bi.2.2.1.2.2.2.1, (v2 _ _ (by decide)).trans t6⟩, ⟨plR9 s.1 s.2.1, e1.1, by omega, (v2 _ _ (by decide)).trans t8, fun l hl => (e1.2.2.1 l hl).2.2.2⟩, (v2 _ _ (by decide)).trans (t9.trans e16.symm), (v2 _ _ (by decide)).trans (t10.trans e17.symm), (v2 _ _ (by decide)).trans (t11.trans e13.symm), (v2 _ _ (by decide)).trans (t12.trans e1.1.symm)⟩, ⟨e18, (v2 _ _ (by decide)).trans (qw.2.trans e10.symm)⟩⟩
      · have ku : KU σ1 (s.1.2.2.1.2.1, (neB9 s.1 s.2.1).1, [], 0) := qr.1.2.1.ku (E := (s.1.2.2.1.2.1, (neB9 s.1 s.2.1).1, [], 0)) (by omega)
        unfold KU shR
        rw [f2.1]
        exact ku
      · obtain ⟨⟨k1, k1'⟩, ⟨k2, k2'⟩, k3, k4, k5⟩ := qk.1
        exact ⟨⟨(x2 _).trans k1, (x2 _).trans k1'⟩, ⟨(x2 _).trans k2, (x2 _).trans k2'⟩, (x2 _).trans k3, (v2 _ _ (by omega)).trans k4, (v2 _ _ (by omega)).trans k5⟩
      · rw [v2 z1 13 (by omega), qk.2]
        exact u0
      · rw [v2 z1 13 (by omega), qk.2, w22]
        omega
      · obtain ⟨⟨k1, k1'⟩, ⟨k2, k2'⟩, k3, k4⟩ := qr.1.hy
        exact ⟨⟨(x2 _).trans k1, (x2 _).trans k1'⟩, ⟨(x2 _).trans k2, (x2 _).trans k2'⟩, (v2 _ _ (by decide)).trans k3, (v2 _ _ (by decide)).trans k4⟩
    · rw [q1] at r1
      cases r1
  · show R_set σ1 _
    refine ref σ1 f1 _ (fun s' nw' σ2 r1 _ _ _ => ?_) (fun x' nw' σ2 r1 hn9 un rr e59 ew e114 e328 f2 => ?_)
    · rw [q1] at r1
      cases r1
    · have ex : x' = x := Sum.inr.inj (r1.symm.trans q1)
      rw [ex] at rr ew
      rw [ex]
      refine ⟨rfl, hq _ σ2 ?_⟩
      obtain ⟨i1, i2, i31, i32, i33⟩ := hI.2 x q1
      have x2 : ∀ q, mX σ2 q = mX σ1 q := fun q => by rw [f2.1]
      have v2 : ∀ y k, y < 246 → mV σ2 y k = mV σ1 y k := fun y k h => f2.2.2 y k (r9_n (Or.inl h))
      have w22 : mV σ2 22 1 = x.2.2.2.2 := (v2 _ _ (by decide)).trans qw.1
      have wb : 0 ≤ x.2.2.2.2 := by
        have a1 := un.1
        have a2 := un.2
        rw [ew.1] at a2
        omega
      obtain ⟨kM, kA, kK⟩ := keep9 hM hA hK f1 f2 (by rw [w22, ew.1]) (by rw [w22]; exact ⟨wb, i33⟩)
      have f0 := bf0_i (f := mV σ1 z1 14) (s := mV σ1 z1 15) (qf z1 hz1)
      refine ⟨(x.2.1.2.1, (bf0 (mV σ1 z1 14) (mV σ1 z1 15)).1, [], 0), z1, nw', kM, ⟨⟨⟨i1.2.1, f0.1, ⟨Nat.zero_le _, fun x hx => absurd hx List.not_mem_nil⟩, (by decide : (0 : Int) ≤ 0 ∧ (0 : Int) ≤ 2)⟩, rfl, hz1, by rw [f2.2.1]; exact qb.1, ?_, ?_, ?_, ?_⟩, ⟨hn9, e59, rr.2.1 _, fun h => absurd e114 h, fun _ => rfl, fun h => absurd h (Nat.lt_irrefl _), un⟩⟩, ⟨by rw [f2.2.1]; exact qb.2, fun y h => by rw [v2 y 14 (by omega)]; exact qf y h⟩, kA, Or.inl ⟨(v2 _ _ (by decide)).trans p212, e114⟩, kK, ⟨_, _, _, _, i1.hb, ?_, ⟨rr.2.2.1, rr.2.2.2, rr.1 4 (by decide), rr.1 5 (by decide)⟩⟩, fun h => ?_, ⟨e328, (v2 _ _ (by decide)).trans (qw.2.trans ew.2.symm)⟩⟩
      · have ku : KU σ1 (x.2.1.2.1, (bf0 (mV σ1 z1 14) (mV σ1 z1 15)).1, [], 0) := qr.1.2.1.ku (E := (x.2.1.2.1, (bf0 (mV σ1 z1 14) (mV σ1 z1 15)).1, [], 0)) (by omega)
        unfold KU shR
        rw [f2.1]
        exact ku
      · obtain ⟨⟨k1, k1'⟩, ⟨k2, k2'⟩, k3, k4, k5⟩ := qk.1
        exact ⟨⟨(x2 _).trans k1, (x2 _).trans k1'⟩, ⟨(x2 _).trans k2, (x2 _).trans k2'⟩, (x2 _).trans k3, v2 _ _ (by omega), v2 _ _ (by omega)⟩
      · rw [v2 z1 13 (by omega), qk.2]
        exact Int.le_refl _
      · rw [v2 z1 13 (by omega), qk.2, w22]
        exact wb
      · obtain ⟨⟨k1, k1'⟩, ⟨k2, k2'⟩, k3, k4⟩ := qr.1.hy
        exact ⟨⟨(x2 _).trans k1, (x2 _).trans k1'⟩, ⟨(x2 _).trans k2, (x2 _).trans k2'⟩, (v2 _ _ (by decide)).trans k3, (v2 _ _ (by decide)).trans k4⟩
      · rw [v2 _ _ (by decide), p212] at h
        exact absurd h (by decide)
end
