/-! HEADINGS: the reference numbers them -/
def hgSS : List Nat := [299, 300, 337]
section
variable {σ σ0 : MS} {Q : MQ9} {nw : Nat}
theorem hr_115 {l1 l2 l3 l4 : Int} {D L : List Int} (hDL : D.length + L.length ≤ 32) (hLs : smB L) (h143 : mV σ0 246 143 = (L.length : Int)) (h337 : hol σ0 337 L) (hq : ∀ σ', FrZ [300] [84] σ0 σ' → mV σ' 246 84 = ((D ++ L).length : Int) → hol σ' 300 (D ++ L) → R_heading_69 l1 l2 l3 (l4 + 1) σ' Q) : ∀ (r p : List Int) (σ : MS), L = p ++ r → FrZ [300] [84] σ0 σ → mV σ 246 84 = ((D ++ p).length : Int) → hol σ 300 (D ++ p) → R_heading_115 l1 l2 l3 l4 (p.length : Int) σ Q := by
  intro r
  induction r with
  | nil =>
    intro p σ he hf h84 h300
    rw [List.append_nil] at he
    have e := (hf.f (k := 143) (by decide) (by decide)).trans h143
    rw [← he] at h84 h300 ⊢
    exact R_heading_115.i ⟨by unfold Rg; omega, fun _ => hq σ hf h84 h300, fun h => absurd h (by omega)⟩
  | cons c r ih =>
    intro p σ he hf h84 h300
    have h2 : L.length = p.length + (r.length + 1) := by rw [he, List.length_append, List.length_cons]
    have e := (hf.f (k := 143) (by decide) (by decide)).trans h143
    have ec : mV σ 337 p.length = c := (hf.z (by decide) (by decide)).trans (h337.at he)
    have cb := hLs c (by rw [he]; exact List.mem_append_right _ List.mem_cons_self)
    have el : (D ++ p).length = D.length + p.length := List.length_append
    refine R_heading_115.i ⟨by unfold Rg; omega, fun h => absurd h (by omega), fun _ => ⟨by rw [h84]; unfold Rg; omega, by omega, by omega, by omega, by omega, ?_⟩⟩
    rw [h84, Int.toNat_natCast, Int.toNat_natCast, ec, b8_id (by omega)]
    have := ih (p ++ [c]) (wV (wV σ 246 84 (((D ++ p).length : Int) + 1)) 300 (D ++ p).length c) (by rw [List.append_assoc]; exact he) ((hf.tr (FrZ.wf (by decide))).tr (FrZ.wz (by decide))) (by
      have e5 : (D ++ p ++ [c]).length = (D ++ p).length + 1 := List.length_append
      rw [wV_ne (Or.inl (by decide)), wV_self, ← List.append_assoc, e5]
      omega) (by
      rw [← List.append_assoc]
      exact (h300.V (by decide)).sn)
    rw [List.length_append] at this
    exact this
theorem hr_69 {l2 l3 : Int} {nu : List Int} {l : Nat} (hl : l ≤ 3) (hnl : nu.length = 4) (hnb : ∀ k, k < 4 → 0 ≤ nu.getD k 0 ∧ nu.getD k 0 ≤ 60) (hn : hol σ0 299 nu) (hq : ∀ σ', FrZ [300, 337] [84, 143] σ0 σ' → mV σ' 246 84 = ((hgJ nu l).length : Int) → hol σ' 300 (hgJ nu l) → R_heading_69 (l : Int) l2 l3 ((l + 1 : Nat) : Int) σ' Q) : ∀ (n j : Nat) (σ : MS), j + n = l → FrZ [300, 337] [84, 143] σ0 σ → mV σ 246 84 = ((hgJ nu j).length : Int) → hol σ 300 (hgJ nu j) → R_heading_69 (l : Int) l2 l3 ((j + 1 : Nat) : Int) σ Q := by
  intro n
  induction n with
  | zero =>
    intro j σ hj hf h84 h300
    have e : j = l := by omega
    rw [e] at h84 h300 ⊢
    exact hq σ hf h84 h300
  | succ n ih =>
    intro j σ hj hf h84 h300
    have jl := hgJ_l hnb j (by omega)
    have b := hnb (j + 1) (by omega)
    have e1 : mV σ 299 (j + 1) = nu.getD (j + 1) 0 := (hf.z (by decide) (by decide)).trans (hn (j + 1) (by omega))
    refine R_heading_69.i ⟨by unfold Rg; omega, by unfold Rg; omega, fun h => absurd h (by omega), fun _ => ⟨by omega, by omega, ?_⟩⟩
    rw [Int.toNat_natCast, e1]
    refine R_writes.s (by omega) (by decide) (fun h => absurd h (by decide)) (fun σ1 ⟨f1, w1, h1⟩ => ?_)
    have wl : (wrN (nu.getD (j + 1) 0) 1).length ≤ 2 := by
      have w := wr_two (nu.getD (j + 1) 0).toNat (by omega)
      rw [show (((nu.getD (j + 1) 0).toNat : Nat) : Int) = nu.getD (j + 1) 0 by omega] at w
      exact w
    have f01 : FrZ [300, 337] [84, 143] σ0 σ1 := hf.tr (f1.mo (by decide) (by decide))
    have g84 : mV σ1 246 84 = ((hgJ nu j).length : Int) := (f1.f (by decide) (by decide)).trans h84
    have g300 : hol σ1 300 (hgJ nu j) := f1.hol (by decide) (by decide) h300
    have go : ∀ (D : List Int) (σ2 : MS), D = hgJ nu j ++ (if 1 ≤ j then [46] else []) → FrZ [300] [84] σ1 σ2 → mV σ2 246 84 = (D.length : Int) → hol σ2 300 D → R_heading_112 (l : Int) l2 l3 ((j + 1 : Nat) : Int) σ2 Q := fun D σ2 hD f2 d84 d300 => by
      have Dl : D.length ≤ 10 := by
        rw [hD, List.length_append]
        split
        · show _ + 1 ≤ 10
          omega
        · show _ + 0 ≤ 10
          omega
      have eJ : D ++ wrN (nu.getD (j + 1) 0) 1 = hgJ nu (j + 1) := by rw [hD]; rfl
      have := hr_115 (Q := Q) (σ0 := σ2) (l1 := (l : Int)) (l2 := l2) (l3 := l3) (l4 := ((j + 1 : Nat) : Int)) (D := D) (L := wrN (nu.getD (j + 1) 0) 1) (by omega) wrN_s ((f2.f (by decide) (by decide)).trans w1) (f2.hol (by decide) (by decide) h1) (fun σ3 f3 t84 t300 => ?_) (wrN (nu.getD (j + 1) 0) 1) [] σ2 rfl FrZ.rf (by rw [List.append_nil]; exact d84) (by rw [List.append_nil]; exact d300)
      · exact R_heading_112.i this
      · rw [eJ] at t84 t300
        have := ih (j + 1) σ3 (by omega) ((f01.tr (f2.mo (by decide) (by decide))).tr (f3.mo (by decide) (by decide))) t84 t300
        rw [show ((j + 1 : Nat) : Int) + 1 = ((j + 1 + 1 : Nat) : Int) by omega]
        exact this
    show Rg ((j + 1 : Nat) : Int) ∧ _
    refine ⟨by unfold Rg; omega, fun h9 => go (hgJ nu j) σ1 (by rw [if_neg (by omega), List.append_nil]) FrZ.rf g84 g300, fun h9 => ⟨by rw [g84]; unfold Rg; omega, by omega, by omega, ?_⟩⟩
    rw [g84, Int.toNat_natCast, b8_id (by decide)]
    refine go (hgJ nu j ++ [46]) _ (by rw [if_pos (by omega)]) ((FrZ.wf (by decide)).tr (FrZ.wz (by decide))) ?_ ((g300.V (by decide)).sn)
    rw [wV_ne (Or.inl (by decide)), wV_self, List.length_append]
    show _ = (((hgJ nu j).length + 1 : Nat) : Int)
    omega
theorem hr_41 {l1 l2 l3 : Int} {l : Nat} (hq : ∀ σ', FrZ [299] [] σ0 σ' → (∀ k, k < 4 → mV σ' 299 k = if k < l then mV σ0 299 k else 0) → R_heading_41 l1 l2 l3 4 σ' Q) : ∀ (n j : Nat) (σ : MS), j + n = 4 → l ≤ j → FrZ [299] [] σ0 σ → (∀ k, k < 4 → mV σ 299 k = if k < l then mV σ0 299 k else if k < j then 0 else mV σ0 299 k) → R_heading_41 l1 l2 l3 (j : Int) σ Q := by
  intro n
  induction n with
  | zero =>
    intro j σ hj hsj hf hc
    have e : j = 4 := by omega
    rw [e] at hc ⊢
    exact hq σ hf (fun k hk => by
      rw [hc k hk]
      by_cases h : k < l
      · rw [if_pos h, if_pos h]
      · rw [if_neg h, if_neg h, if_pos hk])
  | succ n ih =>
    intro j σ hj hsj hf hc
    refine R_heading_41.i ⟨by unfold Rg; omega, fun h => absurd h (by omega), fun _ => ⟨by omega, by omega, ?_⟩⟩
    rw [Int.toNat_natCast, show (j : Int) + 1 = ((j + 1 : Nat) : Int) by omega]
    refine ih (j + 1) _ (by omega) (by omega) (hf.tr (FrZ.wz (by decide))) (fun k hk => ?_)
    by_cases e : k = j
    · rw [e, wV_self, if_neg (by omega), if_pos (by omega)]
    · rw [wV_ne (Or.inr e), hc k hk]
      by_cases h : k < l
      · rw [if_pos h, if_pos h]
      · rw [if_neg h, if_neg h]
        by_cases h2 : k < j
        · rw [if_pos h2, if_pos (by omega)]
        · rw [if_neg h2, if_neg (by omega)]
/-- the number is told; then the row begins -/
theorem hr_A {l2 l3 : Int} {l : Nat} {nu : List Int} {Ti : List (List Int)} (hnw : nw ≤ 1) (h59 : mV σ 246 59 = (nw : Int)) (h292 : mV σ 292 nw = (Ti.length : Int)) (hTl : Ti.length ≤ 60) (hl3 : 1 ≤ l ∧ l ≤ 3) (hn : hol σ 299 nu) (hnl : nu.length = 4) (hnb : ∀ k, k < 4 → 0 ≤ nu.getD k 0 ∧ nu.getD k 0 ≤ (Ti.length : Int)) (hq : Ti.length < 60 → ∀ σ', FrZ hgSS itKK σ σ' → (mV σ' 246 16 = 0 ∧ mV σ' 246 17 = 70000 ∧ mV σ' 246 18 = 0 ∧ mV σ' 246 21 = 0 ∧ mV σ' 246 22 = 0 ∧ mV σ' 246 31 = 0 ∧ mV σ' 246 94 = 0 ∧ mV σ' 246 95 = 1) → mV σ' 246 161 = 0 → hol σ' 299 (hgN nu l) → mV σ' 246 84 = ((hgJ (hgN nu l) l).length : Int) → hol σ' 300 (hgJ (hgN nu l) l) → R_heading_162 (l : Int) l2 l3 0 σ' Q) (hf : 60 ≤ Ti.length → R_fail 9 σ (kV (thQ Q) fun σ2 => Q (.inl none) σ2)) : R_heading (l : Int) l2 l3 σ Q := by
  refine R_heading.i ?_
  rw [h59, Int.toNat_natCast, h292]
  refine ⟨by omega, by omega, fun h => ?_, fun h => hf (by omega)⟩
  have h6 : Ti.length < 60 := by omega
  refine R_begins.p (by decide) (fun σ1 f1 be h161 => ?_)
  have e1 : ∀ k, mV σ1 299 k = mV σ 299 k := fun k => f1.z (by simp) (by decide)
  show 0 ≤ (l : Int) ∧ _
  rw [Int.toNat_natCast, e1, hn l (by omega)]
  have bl := hnb l (by omega)
  refine ⟨by omega, by omega, by omega, by omega, by unfold Rg; omega, ?_⟩
  rw [show (l : Int) + 1 = ((l + 1 : Nat) : Int) by omega]
  refine hr_41 (σ0 := wV σ1 299 l (nu.getD l 0 + 1)) (l := l + 1) (fun σ2 f2 c2 => ?_) (4 - (l + 1)) (l + 1) _ (by omega) (Nat.le_refl _) FrZ.rf (fun k hk => ?_)
  · have nn : hol σ2 299 (hgN nu l) := fun k hk => by
      have hk : k < 4 := by
        unfold hgN at hk
        rw [ofF_len] at hk
        exact hk
      unfold hgN
      rw [ofF_get hk, c2 k hk]
      by_cases h1 : k < l
      · rw [if_pos (by omega), if_pos h1, wV_ne (Or.inr (by omega)), e1]
        exact hn k (by omega)
      · rw [if_neg h1]
        by_cases h2 : k = l
        · rw [if_pos (by omega), if_pos h2, h2, wV_self]
        · rw [if_neg (by omega), if_neg h2]
    have nb := hgN_b (l := l) (m := (Ti.length : Int)) (by omega) hnb
    refine R_heading_41.i ⟨by decide, fun _ => ?_, fun h => absurd h (by decide)⟩
    have f02 : FrZ hgSS itKK σ (wV σ2 246 84 0) := (((f1.mo (fun x hx => absurd hx List.not_mem_nil) (fun x hx => List.mem_cons_of_mem _ (List.mem_cons_of_mem _ hx))).tr (FrZ.wz (by decide))).tr (f2.mo (by decide) (fun x hx => absurd hx List.not_mem_nil))).tr (FrZ.wf (by decide))
    have k2 : ∀ k, mV σ2 246 k = mV σ1 246 k := fun k => (f2.f (by simp) (by decide)).trans (wV_ne (Or.inl (by decide)))
    have := hr_69 (Q := Q) (σ0 := wV σ2 246 84 0) (l2 := l2) (l3 := l3) (nu := hgN nu l) hl3.2 ofF_len (fun k hk => by have := nb k hk; omega) (fun k hk => (wV_ne (Or.inl (by decide))).trans (nn k hk)) (fun σ3 f3 t84 t300 => ?_) l 0 (wV σ2 246 84 0) (by omega) FrZ.rf wV_self (fun i hi => absurd hi (Nat.not_lt_zero _))
    · exact this
    · have k3 : ∀ k, k ≠ 84 → k ≠ 143 → mV σ3 246 k = mV σ1 246 k := fun k a b => ((f3.f (by simp only [List.mem_cons, List.not_mem_nil, or_false]; omega) (by decide)).trans (wV_ne (Or.inr a))).trans (k2 k)
      refine R_heading_69.i ⟨by unfold Rg; omega, by unfold Rg; omega, fun _ => hq h6 σ3 (f02.tr (f3.mo (by decide) (by decide))) ?_ ((k3 _ (by decide) (by decide)).trans h161) (fun k hk => (f3.z (by decide) (by decide)).trans ((wV_ne (Or.inl (by decide))).trans (nn k hk))) t84 t300, fun h => absurd h (by omega)⟩
      rw [k3 _ (by decide) (by decide), k3 _ (by decide) (by decide), k3 _ (by decide) (by decide), k3 _ (by decide) (by decide), k3 _ (by decide) (by decide), k3 _ (by decide) (by decide), k3 _ (by decide) (by decide), k3 _ (by decide) (by decide)]
      exact be
  · by_cases h : k < l + 1
    · rw [if_pos h]
    · rw [if_neg h, if_neg h]
end
