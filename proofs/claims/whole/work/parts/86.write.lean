/-! WRITE: the reference -/
theorem hol.F {σ : MS} {z : Nat} {L : List Int} : hol (wF σ z 0 L) z L := fun i hi => by
  have h := wF_at (σ := σ) (z := z) (a := 0) hi
  rw [Nat.zero_add] at h
  exact h
theorem hol.V {σ : MS} {z z' k : Nat} {x : Int} {L : List Int} (h : hol σ z L) (hz : z ≠ z') : hol (wV σ z' k x) z L := fun i hi => by
  rw [wV_ne (Or.inl hz)]
  exact h i hi
theorem hol.F' {σ : MS} {z z' a : Nat} {M L : List Int} (h : hol σ z L) (hz : z ≠ z') : hol (wF σ z' a M) z L := fun i hi => by
  rw [wF_ne (Or.inl hz)]
  exact h i hi
theorem R_write_11.s {σ : MS} {Q : MQ9} {T : List Int} (hn : mV σ 246 6 = (T.length : Int)) (hT : hol σ 247 T) (hL : T.length ≤ 4000) (hb : smB T) (hq : Q (.inl (some (lnR T))) (wV (wV (wF σ 248 0 T) 246 7 (T.length : Int)) 246 6 0)) : R_write_11 0 σ Q := by
  refine loopF (z := 248) (a := 0) (n := T.length) (f := fun i => T.getD i 0) (P := fun i s => R_write_11 i s Q) (fun i hi h => ?_) ?_
  · have e1 : mV (wF σ 248 0 (ofF (fun i => T.getD i 0) i)) 246 6 = (T.length : Int) := by rw [wF_ne (Or.inl (by decide)), hn]
    have e2 : mV (wF σ 248 0 (ofF (fun i => T.getD i 0) i)) 247 i = T.getD i 0 := by rw [wF_ne (Or.inl (by decide))]; exact hT i hi
    refine R_write_11.i ⟨Rg.n (by omega), fun h9 => absurd h9 (by rw [e1]; omega), fun _ => ⟨by omega, by omega, by omega, by omega, ?_⟩⟩
    rw [show ((i : Int)).toNat = i from rfl, e2, hb.at hi]
    rw [Nat.zero_add] at h
    exact h
  · rw [ofF_list]
    have e1 : mV (wF σ 248 0 T) 246 6 = (T.length : Int) := by rw [wF_ne (Or.inl (by decide)), hn]
    refine R_write_11.i ⟨Rg.n (by omega), fun _ => ?_, fun h9 => absurd h9 (by rw [e1]; omega)⟩
    rw [e1]
    refine R_linesOf.s (L := T) ?_ (hol.V (hol.V hol.F (by decide)) (by decide)) hL hq
    rw [wV_ne (Or.inr (by decide)), wV_self]
