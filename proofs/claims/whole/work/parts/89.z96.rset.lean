/-! A ROUND ENDS: marks turn to pages, the reference -/
def AlS9 (nw z k : Nat) : Prop := (z = 283 ∧ k / 60 = nw) ∨ (z = 290 ∧ k / 60 = nw) ∨ (z = 296 ∧ k / 100 = nw)
section
variable {σ σ0 : MS} {Q : MQ9} {room : Int} {F : List Int} {Ls : List GL9} {A : List Int} {sp : List (Int × Int)} {nw : Nat} {P : List (Nat × Nat)} {V : List Int}
theorem S9.n {z k : Nat} (h : z ≠ 283 ∧ z ≠ 290 ∧ z ≠ 296) : ¬ AlS9 nw z k := fun a => by
  rcases a with a | a | a
  · exact h.1 a.1
  · exact h.2.1 a.1
  · exact h.2.2 a.1
theorem rst_v {zl : Nat} {j : Nat} (hB : PgB room F Ls A sp) (hz : zl ≠ 283 ∧ zl ≠ 290 ∧ zl ≠ 296) (hM : MkL σ0 zl F V) (hL : LpN σ0 F P F.length) (hj : j < V.length) (hf : FrA (AlS9 nw) σ0 σ) : (0 ≤ mV σ zl j ∧ mV σ zl j < 1501) ∧ mV σ 319 (mV σ zl j).toNat = (pgN P (V.getD j 0) : Int) := by
  obtain ⟨p1, p2, p3, p4⟩ := hM j hj
  have fb := F_b hB (k := (V.getD j 0).toNat) (by omega)
  have l5 := hB.2.2.1
  rw [hf.2.2 zl j (S9.n hz), hf.2.2 319 _ (S9.n (by decide)), p4]
  refine ⟨by omega, ?_⟩
  have := hL (V.getD j 0).toNat (by omega) p3
  rw [this, show (((V.getD j 0).toNat : Nat) : Int) = V.getD j 0 by omega]
/-- labels -/
theorem rst_198 (hB : PgB room F Ls A sp) (hnw : nw ≤ 1) (h59 : mV σ0 246 59 = (nw : Int)) (hV : V.length ≤ 60) (hN : mV σ0 285 nw = (V.length : Int)) (hM : MkL σ0 284 F V) (hL : LpN σ0 F P F.length) (hq : ∀ σ', FrA (AlS9 nw) σ0 σ' → (∀ k, k < V.length → mV σ' 283 (60 * nw + k) = (pgN P (V.getD k 0) : Int)) → R_set_244 0 σ' Q) : ∀ (n j : Nat) (σ : MS), j + n = V.length → FrA (AlS9 nw) σ0 σ → (∀ k, k < j → mV σ 283 (60 * nw + k) = (pgN P (V.getD k 0) : Int)) → R_set_198 (j : Int) σ Q := by
  intro n
  induction n with
  | zero =>
    intro j σ hj hf hk
    have e59 : mV σ 246 59 = (nw : Int) := (hf.2.2 246 59 (S9.n (by decide))).trans h59
    have eN : mV σ 285 nw = (V.length : Int) := (hf.2.2 285 nw (S9.n (by decide))).trans hN
    refine R_set_198.i ?_
    rw [e59, Int.toNat_natCast, eN]
    exact ⟨by omega, by omega, by unfold Rg; omega, fun _ => hq σ hf (fun k hk9 => hk k (by omega)), fun h => absurd h (by omega)⟩
  | succ n ih =>
    intro j σ hj hf hk
    have e59 : mV σ 246 59 = (nw : Int) := (hf.2.2 246 59 (S9.n (by decide))).trans h59
    have eN : mV σ 285 nw = (V.length : Int) := (hf.2.2 285 nw (S9.n (by decide))).trans hN
    obtain ⟨v1, v2⟩ := rst_v (P := P) (j := j) hB (by decide) hM hL (by omega) hf
    refine R_set_198.i ?_
    rw [e59, Int.toNat_natCast, eN, Int.toNat_natCast, v2, show (60 * (nw : Int) + (j : Int)).toNat = 60 * nw + j by omega, show (j : Int) + 1 = ((j + 1 : Nat) : Int) by omega]
    refine ⟨by omega, by omega, by unfold Rg; omega, fun h => absurd h (by omega), fun _ => ⟨by omega, by omega, v1.1, v1.2, by omega, by omega, ?_⟩⟩
    refine ih (j + 1) _ (by omega) (hf.tr (FrA.w (Or.inl ⟨rfl, by omega⟩))) (fun k hk9 => ?_)
    by_cases e : k = j
    · rw [e]
      exact wV_self
    · rw [wV_ne (Or.inr (by omega))]
      exact hk k (by omega)
/-- headings -/
theorem rst_244 (hB : PgB room F Ls A sp) (hnw : nw ≤ 1) (h59 : mV σ0 246 59 = (nw : Int)) (hV : V.length ≤ 60) (hN : mV σ0 292 nw = (V.length : Int)) (hM : MkL σ0 291 F V) (hL : LpN σ0 F P F.length) (hq : ∀ σ', FrA (AlS9 nw) σ0 σ' → (∀ k, mV σ' 283 k = mV σ0 283 k) → (∀ k, k < V.length → mV σ' 290 (60 * nw + k) = (pgN P (V.getD k 0) : Int)) → R_set_290 0 σ' Q) : ∀ (n j : Nat) (σ : MS), j + n = V.length → FrA (AlS9 nw) σ0 σ → (∀ k, mV σ 283 k = mV σ0 283 k) → (∀ k, k < j → mV σ 290 (60 * nw + k) = (pgN P (V.getD k 0) : Int)) → R_set_244 (j : Int) σ Q := by
  intro n
  induction n with
  | zero =>
    intro j σ hj hf h283 hk
    have e59 : mV σ 246 59 = (nw : Int) := (hf.2.2 246 59 (S9.n (by decide))).trans h59
    have eN : mV σ 292 nw = (V.length : Int) := (hf.2.2 292 nw (S9.n (by decide))).trans hN
    refine R_set_244.i ?_
    rw [e59, Int.toNat_natCast, eN]
    exact ⟨by omega, by omega, by unfold Rg; omega, fun _ => hq σ hf h283 (fun k hk9 => hk k (by omega)), fun h => absurd h (by omega)⟩
  | succ n ih =>
    intro j σ hj hf h283 hk
    have e59 : mV σ 246 59 = (nw : Int) := (hf.2.2 246 59 (S9.n (by decide))).trans h59
    have eN : mV σ 292 nw = (V.length : Int) := (hf.2.2 292 nw (S9.n (by decide))).trans hN
    obtain ⟨v1, v2⟩ := rst_v (P := P) (j := j) hB (by decide) hM hL (by omega) hf
    refine R_set_244.i ?_
    rw [e59, Int.toNat_natCast, eN, Int.toNat_natCast, v2, show (60 * (nw : Int) + (j : Int)).toNat = 60 * nw + j by omega, show (j : Int) + 1 = ((j + 1 : Nat) : Int) by omega]
    refine ⟨by omega, by omega, by unfold Rg; omega, fun h => absurd h (by omega), fun _ => ⟨by omega, by omega, v1.1, v1.2, by omega, by omega, ?_⟩⟩
    refine ih (j + 1) _ (by omega) (hf.tr (FrA.w (Or.inr (Or.inl ⟨rfl, by omega⟩)))) (fun k => (wV_ne (Or.inl (by decide))).trans (h283 k)) (fun k hk9 => ?_)
    by_cases e : k = j
    · rw [e]
      exact wV_self
    · rw [wV_ne (Or.inr (by omega))]
      exact hk k (by omega)
/-- keys -/
theorem rst_290 (hB : PgB room F Ls A sp) (hnw : nw ≤ 1) (h59 : mV σ0 246 59 = (nw : Int)) (hV : V.length ≤ 100) (hN : mV σ0 298 nw = (V.length : Int)) (hM : MkL σ0 297 F V) (hL : LpN σ0 F P F.length) (hq : ∀ σ', FrA (AlS9 nw) σ0 σ' → (∀ k, mV σ' 283 k = mV σ0 283 k) → (∀ k, mV σ' 290 k = mV σ0 290 k) → (∀ k, k < V.length → mV σ' 296 (100 * nw + k) = (pgN P (V.getD k 0) : Int)) → R_areSettled σ' (kI (thQ Q) fun r1 σ1 => ((r1 = 0 → R_set_347 0 σ1 Q) ∧ (¬ r1 = 0 → R_set_347 1 σ1 Q)))) : ∀ (n j : Nat) (σ : MS), j + n = V.length → FrA (AlS9 nw) σ0 σ → (∀ k, mV σ 283 k = mV σ0 283 k) → (∀ k, mV σ 290 k = mV σ0 290 k) → (∀ k, k < j → mV σ 296 (100 * nw + k) = (pgN P (V.getD k 0) : Int)) → R_set_290 (j : Int) σ Q := by
  intro n
  induction n with
  | zero =>
    intro j σ hj hf h283 h290 hk
    have e59 : mV σ 246 59 = (nw : Int) := (hf.2.2 246 59 (S9.n (by decide))).trans h59
    have eN : mV σ 298 nw = (V.length : Int) := (hf.2.2 298 nw (S9.n (by decide))).trans hN
    refine R_set_290.i ?_
    rw [e59, Int.toNat_natCast, eN]
    exact ⟨by omega, by omega, by unfold Rg; omega, fun _ => hq σ hf h283 h290 (fun k hk9 => hk k (by omega)), fun h => absurd h (by omega)⟩
  | succ n ih =>
    intro j σ hj hf h283 h290 hk
    have e59 : mV σ 246 59 = (nw : Int) := (hf.2.2 246 59 (S9.n (by decide))).trans h59
    have eN : mV σ 298 nw = (V.length : Int) := (hf.2.2 298 nw (S9.n (by decide))).trans hN
    obtain ⟨v1, v2⟩ := rst_v (P := P) (j := j) hB (by decide) hM hL (by omega) hf
    refine R_set_290.i ?_
    rw [e59, Int.toNat_natCast, eN, Int.toNat_natCast, v2, show (100 * (nw : Int) + (j : Int)).toNat = 100 * nw + j by omega, show (j : Int) + 1 = ((j + 1 : Nat) : Int) by omega]
    refine ⟨by omega, by omega, by unfold Rg; omega, fun h => absurd h (by omega), fun _ => ⟨by omega, by omega, v1.1, v1.2, by omega, by omega, ?_⟩⟩
    refine ih (j + 1) _ (by omega) (hf.tr (FrA.w (Or.inr (Or.inr ⟨rfl, by omega⟩)))) (fun k => (wV_ne (Or.inl (by decide))).trans (h283 k)) (fun k => (wV_ne (Or.inl (by decide))).trans (h290 k)) (fun k hk9 => ?_)
    by_cases e : k = j
    · rw [e]
      exact wV_self
    · rw [wV_ne (Or.inr (by omega))]
      exact hk k (by omega)
end
