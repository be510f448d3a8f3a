/-! WHAT THE REFERENCE LEAVES AS IT WAS -/
/-- only arrays of S and the reference's own fields of K have changed -/
def FrZ (S K : List Nat) (σ σ' : MS) : Prop := mX σ' = mX σ ∧ mB σ' = mB σ ∧ ∀ z k, z ∉ S → (z ≠ 246 ∨ k ∉ K) → mV σ' z k = mV σ z k
theorem FrZ.rf {S K : List Nat} {σ : MS} : FrZ S K σ σ := ⟨rfl, rfl, fun _ _ _ _ => rfl⟩
theorem FrZ.tr {S K : List Nat} {σ σ1 σ2 : MS} (h : FrZ S K σ σ1) (h' : FrZ S K σ1 σ2) : FrZ S K σ σ2 := ⟨h'.1.trans h.1, h'.2.1.trans h.2.1, fun z k a b => (h'.2.2 z k a b).trans (h.2.2 z k a b)⟩
theorem FrZ.mo {S K S' K' : List Nat} {σ σ1 : MS} (h : FrZ S K σ σ1) (hs : S ⊆ S') (hk : K ⊆ K') : FrZ S' K' σ σ1 := ⟨h.1, h.2.1, fun z k a b => h.2.2 z k (fun e => a (hs e)) (b.imp id (fun n e => n (hk e)))⟩
theorem FrZ.z {S K : List Nat} {σ σ1 : MS} (h : FrZ S K σ σ1) {z k : Nat} (hz : z ∉ S) (h6 : z ≠ 246) : mV σ1 z k = mV σ z k := h.2.2 z k hz (Or.inl h6)
theorem FrZ.f {S K : List Nat} {σ σ1 : MS} (h : FrZ S K σ σ1) {k : Nat} (hk : k ∉ K) (hz : 246 ∉ S) : mV σ1 246 k = mV σ 246 k := h.2.2 246 k hz (Or.inr hk)
theorem FrZ.wf {S K : List Nat} {σ : MS} {k : Nat} {x : Int} (hk : k ∈ K) : FrZ S K σ (wV σ 246 k x) := ⟨rfl, rfl, fun z' k' _ b => wV_ne (by
  rcases b with b | b
  · exact Or.inl b
  · exact Or.inr (fun e => b (by rw [e]; exact hk)))⟩
theorem FrZ.wz {S K : List Nat} {σ : MS} {z k : Nat} {x : Int} (hz : z ∈ S) : FrZ S K σ (wV σ z k x) := ⟨rfl, rfl, fun z' k' a _ => wV_ne (Or.inl (fun e => a (by rw [e]; exact hz)))⟩
theorem FrZ.wF {S K : List Nat} {σ : MS} {z a : Nat} {L : List Int} (hz : z ∈ S) : FrZ S K σ (wF σ z a L) := ⟨rfl, rfl, fun z' k' h _ => wF_ne (Or.inl (fun e => h (by rw [e]; exact hz)))⟩
theorem FrZ.hol {S K : List Nat} {σ σ1 : MS} (h : FrZ S K σ σ1) {z : Nat} {L : List Int} (hz : z ∉ S) (h6 : z ≠ 246) (hh : hol σ z L) : hol σ1 z L := fun i hi => by rw [h.z hz h6]; exact hh i hi
theorem hol.sn {σ : MS} {z : Nat} {L : List Int} {x : Int} (h : hol σ z L) : hol (wV σ z L.length x) z (L ++ [x]) := fun i hi => by
  rw [List.length_append, List.length_singleton] at hi
  by_cases e : i = L.length
  · subst e
    rw [wV_self, getD_s]
  · rw [wV_ne (Or.inr e), getD_l (by omega)]
    exact h i (by omega)
theorem lcm_lt {x y : Int} : lcm9 x y < 0 ↔ x < y := by
  unfold lcm9
  split
  · exact ⟨fun _ => by assumption, fun _ => by decide⟩
  · split <;> exact ⟨fun h => absurd h (by decide), fun h => absurd h (by assumption)⟩
theorem lcm_le {x y : Int} : lcm9 x y ≤ 0 ↔ x ≤ y := by
  unfold lcm9
  split
  · exact ⟨fun _ => by omega, fun _ => by decide⟩
  · split
    · exact ⟨fun _ => by omega, fun _ => by decide⟩
    · exact ⟨fun h => absurd h (by decide), fun h => by omega⟩
theorem lcm_ge {x y : Int} : 0 ≤ lcm9 x y ↔ y ≤ x := by
  have := lcm_lt (x := x) (y := y)
  omega
theorem lcm_gt {x y : Int} : 0 < lcm9 x y ↔ y < x := by
  have := lcm_le (x := x) (y := y)
  omega
