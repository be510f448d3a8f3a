/-! ITEMS: the reference sets one -/
section
variable {σ σ0 : MS} {Q : MQ9} {nw x0 : Nat} {E : TE} {H : HY9} {S T : List Int} {o : Int} {b : BK9}
theorem RxE.lt {S9 K9 : List Nat} {σ1 : MS} {Lt : List Int} {al : Int} (h : RxE σ E nw) (q : FrZ S9 K9 σ σ1) (h1 : ∀ z ∈ [246, 252, 264, 265, 266, 267, 268, 279, 280, 281, 282, 283, 285], z ∉ S9) (h2 : ∀ k ∈ [46, 52, 53, 59], k ∉ K9) (hl : mV σ1 246 84 = (Lt.length : Int) ∧ hol σ1 300 Lt) : RxE σ1 (E.1, E.2.1, Lt, al) nw := by
  obtain ⟨⟨a1, a2⟩, ⟨⟨b1, b2, b3⟩, b4, b5⟩, ⟨c1, c2, c3, c4⟩, d1, e1⟩ := h
  have z : ∀ y j, y ∈ [252, 264, 265, 266, 267, 268, 279, 280, 281, 282, 283, 285] → mV σ1 y j = mV σ y j := fun y j hy => q.z (h1 y (List.mem_cons_of_mem _ hy)) (fun e => by rw [e] at hy; exact absurd hy (by decide))
  have f : ∀ j, j ∈ [46, 52, 53, 59] → mV σ1 246 j = mV σ 246 j := fun j hj => q.f (h2 j hj) (h1 246 (by decide))
  refine ⟨⟨a1, (f _ (by decide)).trans a2⟩, ⟨⟨(f _ (by decide)).trans b1, b2, fun i hi => ⟨(z _ _ (by decide)).trans (b3 i hi).1, (b3 i hi).2.1, (b3 i hi).2.2.cg (fun k _ _ => z _ _ (by decide))⟩⟩, b4, fun i hi => ?_⟩, ⟨(z _ _ (by decide)).trans c1, c2.cg (fun k => z _ _ (by decide)) (fun k => z _ _ (by decide)), c3.cg (fun k => z _ _ (by decide)) (fun k => z _ _ (by decide)), fun j hj => (z _ _ (by decide)).trans (c4 j hj)⟩, fun hp => ⟨(f _ (by decide)).trans (d1 hp).1, (f _ (by decide)).trans (d1 hp).2⟩, fun _ => hl⟩
  obtain ⟨g1, x, g2, g4, g5⟩ := b5 i hi
  exact ⟨(z _ _ (by decide)).trans g1, x, (z _ _ (by decide)).trans g2, (z _ _ (by decide)).trans g4, g5.cg (fun k => z _ _ (by decide))⟩
def BkZ : List Nat := [246, 252, 264, 265, 266, 267, 268, 276, 277, 278, 279, 280, 281, 282, 283, 284, 285, 293, 294, 295, 297, 298, 303, 304, 308, 309, 310, 311, 312, 313, 314, 317, 318, 320, 321]
def BkQ : List Nat := [28, 32, 33, 46, 52, 53, 58, 59, 81, 85, 86, 98, 99, 112, 113]
theorem BkR.lt {S9 K9 : List Nat} {σ1 : MS} {Lt : List Int} {al : Int} (h : BkR σ E nw b) (q : FrZ S9 K9 σ σ1) (hs : ∀ z ∈ BkZ, z ∉ S9) (hk : ∀ k ∈ BkQ, k ∉ K9) (hl : mV σ1 246 84 = (Lt.length : Int) ∧ hol σ1 300 Lt) : BkR σ1 (E.1, E.2.1, Lt, al) nw b := by
  obtain ⟨r1, r2, ⟨m1, m2, m3, m4, m5⟩, r4, ⟨r5, r6⟩, ⟨r7, r8⟩, r9⟩ := h
  have s : ∀ L : List Nat, (∀ x ∈ L, x ∈ BkZ) → ∀ x ∈ L, x ∉ S9 := fun L h x hx => hs x (h x hx)
  have k : ∀ L : List Nat, (∀ x ∈ L, x ∈ BkQ) → ∀ x ∈ L, x ∉ K9 := fun L h x hx => hk x (h x hx)
  have f : ∀ j, j ∈ BkQ → mV σ1 246 j = mV σ 246 j := fun j h => q.f (hk j h) (hs 246 (by decide))
  have z : ∀ y j, y ∈ BkZ → y ≠ 246 → mV σ1 y j = mV σ y j := fun y j a c => q.z (hs y a) c
  refine ⟨r1.z q (s _ (by decide)) (k _ (by decide)), r2.lt q (s _ (by decide)) (k _ (by decide)) hl, ⟨m1.z q (s _ (by decide)) (k _ (by decide)), m2.z q (s _ (by decide)), m3.z q (s _ (by decide)) (k _ (by decide)), (f _ (by decide)).trans m4, (f _ (by decide)).trans m5⟩, ?_, ⟨⟨(f _ (by decide)).trans r5.1, fun i hi => ?_⟩, (f _ (by decide)).trans r6⟩, ⟨r7.cg (fun j => z _ _ (by decide) (by decide)), r8.cg (fun j => z _ _ (by decide) (by decide))⟩, ?_⟩
  · unfold UnB
    rw [f 85 (by decide), f 33 (by decide)]
    exact r4
  · rw [z 320 _ (by decide) (by decide), z 321 _ (by decide) (by decide)]
    exact r5.2 i hi
  · refine ⟨fun k hk1 => ?_, r9.2.1, fun i hi h0 => ?_⟩
    · rw [z 303 _ (by decide) (by decide), z 304 _ (by decide) (by decide)]
      exact r9.1 k hk1
    · unfold nlA
      rw [z 317 _ (by decide) (by decide), z 318 _ (by decide) (by decide)]
      exact r9.2.2 i hi h0
theorem itr_44 {l1 l2 l3 l4 l5 l6 : Int} {s : Nat} (hs : s ≤ 3) (hq : ∀ σ', FrZ [349] [] σ0 σ' → (∀ k, k < 3 → mV σ' 349 k = if k < s then mV σ0 349 k else 0) → R_item_44 l1 l2 l3 l4 l5 l6 3 σ' Q) : ∀ (n j : Nat) (σ : MS), j + n = 3 → s ≤ j → FrZ [349] [] σ0 σ → (∀ k, k < 3 → mV σ 349 k = if k < s then mV σ0 349 k else if k < j then 0 else mV σ0 349 k) → R_item_44 l1 l2 l3 l4 l5 l6 (j : Int) σ Q := by
  intro n
  induction n with
  | zero =>
    intro j σ hj hsj hf hc
    have e : j = 3 := by omega
    rw [e] at hc ⊢
    exact hq σ hf (fun k hk => by
      rw [hc k hk]
      by_cases h : k < s
      · rw [if_pos h, if_pos h]
      · rw [if_neg h, if_neg h, if_pos hk])
  | succ n ih =>
    intro j σ hj hsj hf hc
    refine R_item_44.i ⟨by unfold Rg; omega, fun h => absurd h (by omega), fun _ => ⟨by omega, by omega, ?_⟩⟩
    rw [Int.toNat_natCast, show (j : Int) + 1 = ((j + 1 : Nat) : Int) by omega]
    refine ih (j + 1) _ (by omega) (by omega) (hf.tr (FrZ.wz (by decide))) (fun k hk => ?_)
    by_cases e : k = j
    · rw [e, wV_self, if_neg (by omega), if_pos (by omega)]
    · rw [wV_ne (Or.inr e), hc k hk]
      by_cases h : k < s
      · rw [if_pos h, if_pos h]
      · rw [if_neg h, if_neg h]
        by_cases h2 : k < j
        · rw [if_pos h2, if_pos (by omega)]
        · rw [if_neg h2, if_neg (by omega)]
theorem itr_cnt {l1 l2 l3 l4 : Int} {d : Nat} {jo : Bool} {cn : List Int} (hd : d ≤ 2) (hcn : cn.length = 3) (hc : hol σ 349 cn) (hq : ∀ σ', FrZ [349] [] σ σ' → hol σ' 349 (itC cn d jo) → R_item_44 l1 l2 l3 l4 (bZ jo) (d : Int) 3 σ' Q) : (¬ bZ jo = 0 → R_item_38 l1 l2 l3 l4 (bZ jo) (d : Int) σ Q) ∧ (bZ jo = 0 → R_item_18 l1 l2 l3 l4 (bZ jo) (d : Int) 0 σ Q) := by
  refine ⟨fun h => ?_, fun h => ?_⟩
  · have hj := bZ_ne h
    refine R_item_38.i ?_
    rw [show (d : Int) + 1 = ((d + 1 : Nat) : Int) by omega]
    refine itr_44 (σ0 := σ) (s := d + 1) (by omega) (fun σ' f g => hq σ' f (fun k hk => ?_)) (3 - (d + 1)) (d + 1) σ (by omega) (Nat.le_refl _) FrZ.rf (fun k hk => ?_)
    · unfold itC at hk ⊢
      rw [ofF_len] at hk
      rw [ofF_get hk, g k hk]
      by_cases h2 : k ≤ d
      · rw [if_pos (by omega), if_pos ⟨hj, h2⟩]
        exact hc k (by omega)
      · rw [if_neg (by omega), if_neg (fun h => h2 h.2)]
    · by_cases h : k < d + 1
      · rw [if_pos h]
      · rw [if_neg h, if_neg h]
  · have hj := bZ_z h
    have f0 : FrZ [349] [] σ (wV (wV (wV σ 349 0 0) 349 1 0) 349 2 0) := ((FrZ.wz (by decide)).tr (FrZ.wz (by decide))).tr (FrZ.wz (by decide))
    have v0 : ∀ k, k < 3 → mV (wV (wV (wV σ 349 0 0) 349 1 0) 349 2 0) 349 k = 0 := fun k hk => by
      by_cases e2 : k = 2
      · rw [e2, wV_self]
      · rw [wV_ne (Or.inr e2)]
        by_cases e1 : k = 1
        · rw [e1, wV_self]
        · have e0 : k = 0 := by omega
          rw [wV_ne (Or.inr e1), e0, wV_self]
    refine R_item_18.i ⟨by decide, fun h => absurd h (by decide), fun _ => ⟨by decide, by decide, ?_⟩⟩
    refine R_item_18.i ⟨by decide, fun h => absurd h (by decide), fun _ => ⟨by decide, by decide, ?_⟩⟩
    refine R_item_18.i ⟨by decide, fun h => absurd h (by decide), fun _ => ⟨by decide, by decide, ?_⟩⟩
    refine R_item_18.i ⟨by decide, fun _ => R_item_38.i ?_, fun h => absurd h (by decide)⟩
    show R_item_44 l1 l2 l3 l4 (bZ jo) (d : Int) ((d : Int) + 1) (wV (wV (wV σ 349 0 0) 349 1 0) 349 2 0) Q
    rw [show (d : Int) + 1 = ((d + 1 : Nat) : Int) by omega]
    refine itr_44 (σ0 := wV (wV (wV σ 349 0 0) 349 1 0) 349 2 0) (s := d + 1) (by omega) (fun σ' f g => hq σ' (f0.tr f) (fun k hk => ?_)) (3 - (d + 1)) (d + 1) _ (by omega) (Nat.le_refl _) FrZ.rf (fun k hk => ?_)
    · unfold itC at hk ⊢
      rw [ofF_len] at hk
      have e0 : (if jo = true ∧ k ≤ d then cn.getD k 0 else 0) = 0 := if_neg (fun h => by rw [hj] at h; exact absurd h.1 (by decide))
      rw [ofF_get hk, g k hk, e0]
      split
      · exact v0 k hk
      · rfl
    · by_cases h : k < d + 1
      · rw [if_pos h]
      · rw [if_neg h, if_neg h]
theorem itr_114 {l1 l3 l4 l5 l6 : Int} {L : List Int} (hL : L.length ≤ 32) (hLs : smB L) (hlen : mV σ0 246 143 = (L.length : Int)) (hh : hol σ0 337 L) (hq : ∀ σ', FrZ [300, 350] [] σ0 σ' → hol σ' 350 L → hol σ' 300 L → R_item_114 l1 l3 l4 l5 l6 (L.length : Int) σ' Q) : ∀ (n j : Nat) (σ : MS), j + n = L.length → FrZ [300, 350] [] σ0 σ → (∀ k, k < j → mV σ 350 k = L.getD k 0 ∧ mV σ 300 k = L.getD k 0) → R_item_114 l1 l3 l4 l5 l6 (j : Int) σ Q := by
  intro n
  induction n with
  | zero =>
    intro j σ hj hf hc
    have e : j = L.length := by omega
    rw [e] at hc ⊢
    exact hq σ hf (fun k hk => (hc k hk).1) (fun k hk => (hc k hk).2)
  | succ n ih =>
    intro j σ hj hf hc
    have e143 : mV σ 246 143 = (L.length : Int) := (hf.f (by decide) (by decide)).trans hlen
    have ev : mV σ 337 j = L.getD j 0 := (hf.z (by decide) (by decide)).trans (hh j (by omega))
    have lb := hLs.b (i := j) (by omega)
    refine R_item_114.i ⟨by unfold Rg; omega, fun h => absurd h (by omega), fun _ => ⟨by omega, by omega, by omega, by omega, by omega, by omega, by omega, by omega, ?_⟩⟩
    rw [Int.toNat_natCast, ev, b8_id (by omega), show (j : Int) + 1 = ((j + 1 : Nat) : Int) by omega]
    refine ih (j + 1) _ (by omega) ((hf.tr (FrZ.wz (by decide))).tr (FrZ.wz (by decide))) (fun k hk => ?_)
    by_cases e : k = j
    · rw [e]
      exact ⟨by rw [wV_ne (Or.inl (by decide)), wV_self], wV_self⟩
    · rw [wV_ne (Or.inl (by decide)), wV_ne (Or.inr e), wV_ne (Or.inr e), wV_ne (Or.inl (by decide))]
      exact hc k (by omega)
end
