/-! FEED: the reference -/
theorem ms_ext {s s' : MS} (h1 : mX s = mX s') (h2 : ∀ z k, mV s z k = mV s' z k) (h3 : s.2.2 = s'.2.2) : s = s' := Prod.ext h1 (Prod.ext (by funext z k; exact h2 z k) h3)
/-- the reference's tape holds T -/
def tpS (σ : MS) (T : List Int) : MS := wV (wF σ 247 0 T) 246 6 (T.length : Int)
theorem tpS_n {σ : MS} {T : List Int} : mV (tpS σ T) 246 6 = (T.length : Int) := wV_self
theorem tpS_ne {σ : MS} {T : List Int} {z k : Nat} (h1 : z ≠ 246 ∨ k ≠ 6) (h2 : z ≠ 247 ∨ T.length ≤ k) : mV (tpS σ T) z k = mV σ z k := by
  unfold tpS
  rw [wV_ne h1, wF_ne (h2.imp id (fun h => Or.inr (by omega)))]
theorem tpS_at {σ : MS} {T : List Int} {k : Nat} (h : k < T.length) : mV (tpS σ T) 247 k = T.getD k 0 := by
  unfold tpS
  rw [wV_ne (Or.inl (by decide))]
  have e := wF_at (σ := σ) (z := 247) (a := 0) h
  rw [Nat.zero_add] at e
  exact e
theorem tpS_id {σ : MS} {T : List Int} (h6 : mV σ 246 6 = (T.length : Int)) (hT : hol σ 247 T) : tpS σ T = σ := by
  refine ms_ext rfl (fun z k => ?_) rfl
  by_cases a : z = 246 ∧ k = 6
  · rw [a.1, a.2, tpS_n, h6]
  · by_cases b : z = 247 ∧ k < T.length
    · rw [b.1, tpS_at b.2, hT k b.2]
    · exact tpS_ne (by omega) (by omega)
theorem tpS_snoc {σ : MS} {T : List Int} {b : Int} : wV (wV (tpS σ T) 247 T.length b) 246 6 ((T.length : Int) + 1) = tpS σ (T ++ [b]) := by
  have hl : (T ++ [b]).length = T.length + 1 := by rw [List.length_append, List.length_singleton]
  refine ms_ext rfl (fun z k => ?_) rfl
  by_cases a : z = 246 ∧ k = 6
  · rw [a.1, a.2, wV_self, tpS_n, hl]
    rfl
  · rw [wV_ne (by omega)]
    by_cases c : z = 247 ∧ k = T.length
    · rw [c.1, c.2, wV_self, tpS_at (by omega), getD_s]
    · rw [wV_ne (by omega)]
      by_cases d : z = 247 ∧ k < T.length
      · rw [d.1, tpS_at d.2, tpS_at (by omega), getD_l d.2]
      · rw [tpS_ne (by omega) (by omega), tpS_ne (by omega) (by omega)]
def fdw (x y z : Int) (k : Nat) : Int := if k < 8 then x else if k < 16 then y else z
def fdR (x y z : Int) : Nat → Nat → List Int → List Int
  | 0, _, T => T
  | n + 1, k, T => fdR x y z n (k + 1) (fd1 T (lus (fdw x y z k) ((8 * (7 - k % 8) : Nat) : Int) % 256))
theorem fdR_B {x y z : Int} {T : List Int} : fdR x y z 24 0 T = fdB z 8 (fdB y 8 (fdB x 8 T)) := rfl
theorem R_feed_8.s {x y z : Int} {Q : MQ9} {σ : MS} : ∀ (n k : Nat) (T : List Int), k + n = 24 → T.length ≤ 4000 → Q (.inl (some ((fdR x y z n k T).length : Int))) (tpS σ (fdR x y z n k T)) → R_feed_8 x y z (k : Int) (tpS σ T) Q
  | 0, k, T, hk, hl, hq => by
    refine R_feed_8.i ⟨by unfold Rg; omega, fun _ => ?_, fun h => absurd h (by omega)⟩
    rw [tpS_n]
    exact hq
  | n + 1, k, T, hk, hl, hq => by
    have e : (56 - 8 * Int.tmod (k : Int) 8) = ((8 * (7 - k % 8) : Nat) : Int) := by
      rw [Int.tmod_eq_emod_of_nonneg (by omega)]
      omega
    have next : R_feed_115 x y z (k : Int) (tpS σ (fd1 T (lus (fdw x y z k) ((8 * (7 - k % 8) : Nat) : Int) % 256))) Q := by
      refine R_feed_115.i ?_
      exact R_feed_8.s n (k + 1) _ (by omega) (fd1_len hl) hq
    have go : R_feed_39 x y z (k : Int) (fdw x y z k) (tpS σ T) Q := by
      refine R_feed_39.i ?_
      rw [e, sh_eq _ _ (by omega), tpS_n]
      generalize hb : lus (fdw x y z k) ((8 * (7 - k % 8) : Nat) : Int) % 256 = b at next
      have no : ¬ ((b = 10 ∨ (32 ≤ b ∧ b ≤ 126)) ∧ T.length < 4000) → R_feed_115 x y z (k : Int) (tpS σ T) Q := by
        intro h
        unfold fd1 at next
        rw [if_neg h] at next
        exact next
      have yes : (b = 10 ∨ (32 ≤ b ∧ b ≤ 126)) → T.length < 4000 → R_feed_93 x y z (k : Int) b (tpS σ T) Q := by
        intro h h4
        unfold fd1 at next
        rw [if_pos ⟨h, h4⟩, ← tpS_snoc] at next
        refine R_feed_93.i ?_
        have eb : b8 (b8 b) = b := by rw [b8_id (x := b) (by omega), b8_id (by omega)]
        rw [tpS_n, eb]
        exact ⟨by omega, by omega, by unfold Rg; omega, next⟩
      refine ⟨by unfold Rg; omega, by omega, fun h => no (fun h5 => by have := h5.2; omega), fun h => ⟨fun h1 => yes (Or.inl h1) (by omega), fun h1 => ⟨fun h2 => no (fun h5 => by have := h5.1; omega), fun h2 => ⟨fun h3 => no (fun h5 => by have := h5.1; omega), fun h3 => yes (Or.inr ⟨h2, h3⟩) (by omega)⟩⟩⟩⟩
    unfold fdw at go
    refine R_feed_8.i ⟨by unfold Rg; omega, fun h => absurd h (by omega), fun _ => ⟨by unfold Rg; omega, fun h8 => ⟨by unfold Rg; omega, fun h16 => ?_, fun h16 => ?_⟩, fun h8 => ?_⟩⟩
    · rw [if_neg (by omega), if_neg (by omega)] at go
      exact go
    · rw [if_neg (by omega), if_pos (by omega)] at go
      exact go
    · rw [if_pos (by omega)] at go
      exact go
/-- the reference's feed -/
theorem R_feed.s {x y z : Int} {Q : MQ9} {σ : MS} {T : List Int} (h6 : mV σ 246 6 = (T.length : Int)) (hT : hol σ 247 T) (hl : T.length ≤ 4000) (hq : Q (.inl (some ((fdB z 8 (fdB y 8 (fdB x 8 T))).length : Int))) (tpS (wV σ 246 0 0) (fdB z 8 (fdB y 8 (fdB x 8 T))))) : R_feed x y z σ Q := by
  refine R_feed.i ?_
  have e : tpS (wV σ 246 0 0) T = wV σ 246 0 0 := tpS_id (by rw [wV_ne (Or.inr (by decide))]; exact h6) (hol.V hT (by decide))
  have h := R_feed_8.s (x := x) (y := y) (z := z) (Q := Q) (σ := wV σ 246 0 0) 24 0 T rfl hl (by rw [fdR_B]; exact hq)
  rw [e] at h
  exact h
