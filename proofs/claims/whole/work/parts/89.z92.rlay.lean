/-! PAGES: lay, the reference -/
section
variable {σ : MS} {Q : MQ9} {room : Int} {F : List Int} {Ls : List GL9} {A : List Int} {sp : List (Int × Int)} {nw : Nat} {S : List Int} {g : HG9}
theorem R_lay.p (hB : PgB room F Ls A sp) (hr : 3 ≤ room) (hT : suM (Ls.map (·.1)) ≤ 70000) (hWt : wtF9 F Ls F.length + wtN Ls (ntN sp 0 sp.length) ≤ 60000) (ho : ∀ i, i < Ls.length → Rg (Ls.getD i ([], 0, 0)).2.1) (hS : StB S) (hS9 : 0 ≤ S.getD 9 0 ∧ S.getD 9 0 ≤ 60) (hS11 : 0 ≤ S.getD 11 0 ∧ S.getD 11 0 ≤ 999) (hS12 : 1 ≤ S.getD 12 0 ∧ S.getD 12 0 ≤ 5) (hroom : room = S.getD 9 0 - (if S.getD 10 0 = 1 then 2 else 0)) (hnw : nw ≤ 1) (h59 : mV σ 246 59 = (nw : Int)) (h28 : mV σ 246 28 = 0) (hSv : ∀ k, k < 13 → mV σ 275 k = S.getD k 0) (hgB : HdB g) (hgt : ∀ t ∈ g.1, smB t) (hgs : suM g.1 ≤ 65000) (hg : HdR σ nw F g) (hG : GyR σ F Ls A sp) (h328 : mV σ 328 0 = 0) (hy : ∀ P σ', pgD room F Ls A sp F.length 0 0 = some P → P.length ≤ 99 → LyS σ σ' F Ls A sp S g room P F.length → Q (.inl none) σ') (hno : ∀ σ', pgD room F Ls A sp F.length 0 0 = none → mV σ' 246 28 = 9 → mV σ' 246 29 = mV σ 246 30 → FrZ PgS9 (28 :: 29 :: PgK9) σ σ' → mV σ' 328 0 = 0 → Q (.inl none) σ') : R_lay σ Q := by
  have f1 : FrPp σ (wV (wV (wV σ 246 123 0) 246 124 0) 246 125 0) := ((FrZ.wf (by decide)).tr (FrZ.wf (by decide))).tr (FrZ.wf (by decide))
  have p1 : PfR (wV (wV (wV σ 246 123 0) 246 124 0) 246 125 0) [] := ⟨(wV_ne (Or.inr (by decide))).trans wV_self, wV_self, fun l h => absurd h (Nat.not_lt_zero _), fun i h => absurd h (Nat.not_lt_zero _)⟩
  have c1 : mV (wV (wV (wV σ 246 123 0) 246 124 0) 246 125 0) 246 123 = 0 := (wV_ne (Or.inr (by decide))).trans ((wV_ne (Or.inr (by decide))).trans wV_self)
  have d1 : mV (wV (wV (wV σ 246 123 0) 246 124 0) 246 125 0) 328 0 = 0 := (wV_ne (Or.inl (by decide))).trans ((wV_ne (Or.inl (by decide))).trans ((wV_ne (Or.inl (by decide))).trans h328))
  have g1 := hG.p f1
  have s1 : ∀ k, k < 13 → mV (wV (wV (wV σ 246 123 0) 246 124 0) 246 125 0) 275 k = S.getD k 0 := fun k hk => (f1.z (by decide) (by decide)).trans (hSv k hk)
  have go : ∀ s0 s1' : Int, s0 - s1' = room → R_lay_40 0 s0 s1' (wV (wV (wV σ 246 123 0) 246 124 0) 246 125 0) Q := fun s0 s1' h => by
    refine R_lay_40.i ?_
    rw [h]
    exact rly_42 (σ0 := σ) (S := S) (g := g) (nw := nw) hB hr hT hWt ho hS hS9 hS11 hS12 hroom hnw h59 h28 hSv hgB hgt hgs hg F.length F.length 0 [] _ (by omega) (by omega) (Nat.zero_le _) (by decide) ⟨g1, p1, c1, ⟨fun k hk => absurd hk (Nat.not_lt_zero _), d1⟩, ⟨fun j hj => absurd hj (Nat.not_lt_zero _), fun q hq => absurd hq List.not_mem_nil, fun j hj => absurd hj (Nat.not_lt_zero _)⟩, ⟨Nat.le_refl _, Nat.zero_le _⟩, f1⟩ hy hno
  refine R_lay.i ⟨by decide, by decide, by decide, by decide, ?_⟩
  rw [hSv 9 (by decide), hSv 10 (by decide)]
  refine ⟨fun h => go _ _ ?_, fun h => go _ _ ?_⟩
  · rw [hroom, if_neg h]
  · rw [hroom, if_pos h]
end
