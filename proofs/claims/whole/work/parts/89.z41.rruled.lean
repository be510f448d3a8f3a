/-! TABLES: the reference's line of dashes, made -/
section
variable {σ σ0 : MS} {Q : MQ9} {W : List Int} {c : Nat} {o c9 : Int} {G : GS9}
/-- a line's flag is told anew: it stays -/
theorem RxG.st {σ1 : MS} {G1 : GS9} {C : List Int} (h : RxG σ G1) (hL : G1.2.1 = G.2.1 ++ [(C, o, 0)]) (f : FrZ [314] [] σ σ1) (h1 : ∀ i, i < G.2.1.length → mV σ1 314 i = mV σ 314 i) (h2 : mV σ1 314 G.2.1.length = 0) : RxG σ1 (G1.1, G.2.1 ++ [(C, o, 1)], G1.2.2) := by
  have li := h.2.2.2
  rw [hL] at li
  refine ⟨(f.f (by simp) (by decide)).trans h.1, (f.f (by simp) (by decide)).trans h.2.1, (f.f (by simp) (by decide)).trans h.2.2.1, li.fl rfl (fun i hi => ?_) f h1 (fun i hi => ?_)⟩
  · have hi : i < 1 := hi
    have e : i = 0 := by omega
    rw [e]
    exact ⟨rfl, rfl, rfl⟩
  · have hi : i < 1 := hi
    have e : i = 0 := by omega
    rw [e, Nat.add_zero, h2]
    rfl
theorem R_ruled.p (hc : c ≤ 8) (hW : ∀ k, k < c → mV σ 346 k = W.getD k 0 ∧ 1 ≤ W.getD k 0 ∧ W.getD k 0 ≤ 80) (hl : ∀ k, k ≤ c → (tpJ [45, 43, 45] (fun k => List.replicate (W.getD k 0).toNat (45 : Int)) k).length ≤ 300) (hG : RxG σ G) (hB : GB9 c9 G) (ho : mV σ 246 29 = o) (hy : ∀ G' σ', gFin o (tdR W c) 1 false G = .inl G' → RxG σ' G' → FrLa G.2.1.length σ σ' → (mV σ' 317 G.2.1.length = 0 ∧ mV σ' 318 G.2.1.length = 0) → Q (.inl none) σ') (hn : ∀ e σ', gFin o (tdR W c) 1 false G = .inr e → TxR σ' e → FrLa G.2.1.length σ σ' → Q (.inl none) σ') : R_ruled (c : Int) σ Q := by
  refine R_ruled.i ?_
  have f0 : FrZ [338, 339] [160] σ (wV σ 246 160 0) := FrZ.wf (by decide)
  refine rul_7 (σ0 := wV σ 246 160 0) hc (fun k hk => ⟨(wV_ne (Or.inl (by decide))).trans (hW k hk).1, (hW k hk).2⟩) hl (fun σ1 f1 b1 => ?_) c 0 _ (by omega) FrZ.rf ⟨wV_self, fun i hi => absurd hi (Nat.not_lt_zero _)⟩
  have f01 : FrZ [338, 339] [160] σ σ1 := f0.tr f1
  have lT : (tdR W c).length ≤ 300 := hl c (Nat.le_refl _)
  refine R_ruled_7.i ⟨by unfold Rg; omega, by unfold Rg; omega, fun _ => ?_, fun h => absurd h (by omega)⟩
  refine (R_makes.p (pt := false) (fw := false) (by decide) (by decide) (hG.z f01 (by decide) (by decide)) hB b1 (by omega) ((f01.f (by decide) (by decide)).trans ho) (fun G1 σ2 w1 w2 w3 w4 => ?_) (fun e σ2 w1 w2 w5 w3 => ?_) : R_makes 0 0 (bZ false) σ1 _)
  · have w1 : gFin o (tdR W c) 0 false G = .inl G1 := w1
    obtain ⟨e1, e2⟩ := gFin_fl (fl' := 1) w1
    have w3 : FrMk G.2.1.length σ1 σ2 := w3
    have e99 : mV σ2 246 99 = ((G.2.1.length + 1 : Nat) : Int) := by
      rw [w2.2.2.2.1, e2, List.length_append]
      rfl
    have l15 : G.2.1.length ≤ 1500 := hB.2.2.1
    show ((1 : Int) = 0 → _) ∧ (¬ (1 : Int) = 0 → _)
    refine ⟨fun h => absurd h (by decide), fun _ => ?_⟩
    rw [e99, show ((G.2.1.length + 1 : Nat) : Int) - 1 = (G.2.1.length : Int) by omega, Int.toNat_natCast]
    refine ⟨by omega, by omega, hy _ _ e1 (w2.st e2 (FrZ.wz (by decide)) (fun i hi => wV_ne (Or.inr (by omega))) (by rw [wV_self]; decide)) ?_ ⟨(wV_ne (Or.inl (by decide))).trans w4.2.2.1, (wV_ne (Or.inl (by decide))).trans w4.2.2.2⟩⟩
    have fl : FrLa G.2.1.length σ σ2 := (FrLa.b f01).tr (Nat.le_refl _) (FrLa.k w3)
    exact fl.tr (Nat.le_refl _) ⟨FrZ.wz (by decide), fun z k hz _ => wV_ne (Or.inl (by omega))⟩
  · have w1 : gFin o (tdR W c) 0 false G = .inr e := w1
    have w3 : FrMk G.2.1.length σ1 σ2 := w3
    show ((0 : Int) = 0 → _) ∧ (¬ (0 : Int) = 0 → _)
    exact ⟨fun _ => hn e σ2 (gFin_fe w1) w2 ((FrLa.b f01).tr (Nat.le_refl _) (FrLa.k w3)), fun h => absurd rfl h⟩
end
