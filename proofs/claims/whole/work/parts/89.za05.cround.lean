/-! ONE ROUND: the class, from its beginning to what the next one finds -/
/-- what rounds leave -/
def FrS8 (σ σ' : MS) : Prop := (∀ q, q < 22 ∨ 212 ≤ q → mX σ' q = mX σ q) ∧ (∀ i, 4 ≤ i → mB σ' i = mB σ i) ∧ mW σ' = mW σ ∧ ∀ y k, y < 22 ∨ 212 ≤ y → mV σ' y k = mV σ y k
/-- the class ahead of a proof -/
def ShC (σ : MS) (z c0 : Nat) (d : RD9) (P : List (Nat × Nat)) : Prop := PgC σ d.1.2.1.2 d.1.2.1.1 d.1.2.2.1.1 d.1.2.2.1.2 ∧ (mX σ 130 = (d.1.2.1.1.map (·.1)).flatten ∧ mX σ 132 = enS 0 (d.1.2.1.1.map (·.1)) ∧ mX σ 134 = d.1.2.1.1.map (·.2.1)) ∧ (mX σ 146 = P.map (fun p => (p.1 : Int)) ∧ mX σ 148 = P.map (fun p => (p.2 : Int))) ∧ MkC σ z (neB9 d P) ∧ mX σ (z + 22) = d.2.1.2.2 ∧ (mV σ z 12 = d.1.1.2.2.2.2.2.1.2.2 ∧ mV σ z 13 = d.1.1.2.2.2.2.2.2 ∧ mV σ z 14 = d.2.2.1.1.getD 11 0 ∧ mV σ z 15 = d.2.2.1.1.getD 12 0) ∧ (RuC σ d.2.2.1 c0 ∧ c0 ≤ 4001) ∧ mB σ 0 = z
section
variable {σ σ1 σ2 : MS} {Q : MQ9} {z z' c0 : Nat} {M : List Int} {B : BF9} {w : Int × Int}
theorem FrS8.tr (h : FrS8 σ σ1) (h' : FrS8 σ1 σ2) : FrS8 σ σ2 := ⟨fun q a => (h'.1 q a).trans (h.1 q a), fun i a => (h'.2.1 i a).trans (h.2.1 i a), h'.2.2.1.trans h.2.2.1, fun y k a => (h'.2.2.2 y k a).trans (h.2.2.2 y k a)⟩
theorem FrS9.s8 (h : FrS9 z z' σ σ1) : FrS8 σ σ1 := ⟨h.1, h.2.1.2.2, h.2.2.1, fun y k a => h.2.2.2 y k (by omega)⟩
theorem FrS8.cl (hz : z = 49 ∨ z = 163) (h : FrCl z σ σ1) : FrS8 σ σ1 := by
  have eb : mB σ1 = mB σ := congrArg Prod.fst h.2.1
  have ew : mW σ1 = mW σ := congrArg Prod.snd h.2.1
  exact ⟨fun q a => h.1 q (by
    simp only [List.mem_cons, List.not_mem_nil, or_false]
    omega), fun i _ => by rw [eb], ew, fun y k a => h.2.2 y k (by omega) (by omega)⟩
theorem FrS8.pa (h : FrPa σ σ1) : FrS8 σ σ1 := by
  have eb : mB σ1 = mB σ := congrArg Prod.fst h.2.1
  have ew : mW σ1 = mW σ := congrArg Prod.snd h.2.1
  exact ⟨fun q a => h.1 q (by omega) (by omega), fun i _ => by rw [eb], ew, fun y k a => h.2.2 y k (by omega)⟩
theorem RuC.pa {R : RU} (h : RuC σ R c0) (f : FrPa σ σ1) : RuC σ1 R c0 := h.cg (Nat.le_refl _) (fun q hq _ _ => f.1 q (by
  unfold FOX at hq
  simp only [List.mem_cons, List.not_mem_nil, or_false] at hq
  omega) (by
  unfold FOX at hq
  simp only [List.mem_cons, List.not_mem_nil, or_false] at hq
  omega)) (fun k => f.2.2 24 k (by decide))
theorem RuC.cl {R : RU} (hz : z = 49 ∨ z = 163) (h : RuC σ R c0) (f : FrCl z σ σ1) : RuC σ1 R c0 := h.cg (Nat.le_refl _) (fun q hq _ _ => f.1 q (by
  unfold FOX at hq
  simp only [List.mem_cons, List.not_mem_nil, or_false] at hq ⊢
  omega)) (fun k => f.2.2 24 k (by omega) (by omega))
/-- a round, the class -/
theorem cro_1 {l1 : Int} (hz : z = 49 ∨ z = 163) (hz' : z' = 49 ∨ z' = 163) (hne : z ≠ z') (hM4 : M.length ≤ 4000) (hMb : smB M) (hB : BfI B) (hl : Rg l1) (hw0 : 0 ≤ w.1 ∧ w.1 ≤ 60000) (hw1 : 0 ≤ w.2 ∧ w.2 ≤ 400000) (hP : PrC9 σ M B z z' w) (hy : ∀ x c' σ', roD B M w = .inl x → x.2.2.length ≤ 99 → ShC σ' z c' x.1 x.2.2 → PrC9 σ' M (neB9 x.1 x.2.2) z' z (x.1.1.1.1.1, x.1.1.1.1.2.1) → mV σ' 127 17 = l1 → mV σ' 127 18 = bZ (lkB (neB9 x.1 x.2.2) B) → FrS8 σ σ' → (∀ y, y = 49 ∨ y = 163 → y ≠ z → mV σ' y 14 = mV σ y 14) → Q (.inl none) σ') (hn : ∀ x c' σ', roD B M w = .inr x → TxF σ' x.2.2 → RuC σ' x.2.1 c' → c' ≤ 4001 → mV σ' 127 16 = x.1 → (mB σ' 0 = z ∧ mB σ' 1 = z') → FrS8 σ σ' → (∀ y, y = 49 ∨ y = 163 → mV σ' y 14 = mV σ y 14) → Q (.inr (exN 0)) σ') : Setter_round l1 σ Q := by
  refine Setter_round.c hz hz' hne hM4 hMb hB hl hw0 hw1 hP (fun x c' σ1 e1 hC hc e16 e17 f1 hpg => ?_) (fun x c' σ1 e1 t1 r1 hc e16 f1 => hn x c' σ1 (roD_f e1) t1 r1 hc e16 ⟨f1.2.1.1, f1.2.1.2.1⟩ f1.s8 (fun y h => f1.2.2.2 y 14 (by omega)))
  have hI := rouD_i hB hMb hM4 hw0.1 hw1.1 e1
  have hC0 := hC
  obtain ⟨⟨m1, m2, m3, m4⟩, k1, h1, r1, n1, bb, t1, i1⟩ := hC0
  refine Setter_closeRound.c hI.1 hC hpg.1 hpg.2 (fun P σ2 p1 p2 p3 p4 p5 p6 p7 p8 f2 => ?_) (fun σ2 p1 p2 f2 => ?_)
  · have x2 : ∀ q, q ≠ 146 → q ≠ 148 → q ≠ z + 11 → q ≠ z + 20 → q ≠ z + 29 → mX σ2 q = mX σ1 q := fun q a1 a2 a3 a4 a5 => f2.1 q (by
      simp only [List.mem_cons, List.not_mem_nil, or_false]
      omega)
    have eb : mB σ2 = mB σ1 := congrArg Prod.fst f2.2.1
    have ga := k1.2.1
    have eN : mX σ1 130 = (x.1.1.2.1.1.map (·.1)).flatten := by
      have := ga.1
      rw [List.append_nil] at this
      exact this
    refine hy (x.1, x.2, P) c' σ2 (roD_y e1 p1) p2 ⟨⟨(x2 _ (by omega) (by omega) (by omega) (by omega) (by omega)).trans ga.2.2.2.2.1, (x2 _ (by omega) (by omega) (by omega) (by omega) (by omega)).trans ga.2.2.2.1, (x2 _ (by omega) (by omega) (by omega) (by omega) (by omega)).trans k1.2.2.1, (x2 _ (by omega) (by omega) (by omega) (by omega) (by omega)).trans k1.2.2.2.1, (x2 _ (by omega) (by omega) (by omega) (by omega) (by omega)).trans k1.2.2.2.2.1⟩, ⟨(x2 _ (by omega) (by omega) (by omega) (by omega) (by omega)).trans eN, (x2 _ (by omega) (by omega) (by omega) (by omega) (by omega)).trans ga.2.1, (x2 _ (by omega) (by omega) (by omega) (by omega) (by omega)).trans ga.2.2.1⟩, ⟨p4, p5⟩, p3, (x2 _ (by omega) (by omega) (by omega) (by omega) (by omega)).trans h1.2.2.2, ⟨(f2.2.2 _ _ (by omega) (by omega)).trans k1.1.2.2.2.1.2.2.1, (f2.2.2 _ _ (by omega) (by omega)).trans k1.1.2.2.2.1.2.2.2.1, p6, p7⟩, ⟨r1.cl hz f2, hc⟩, by rw [eb]; exact k1.1.2.1.1⟩ ⟨⟨(x2 _ (by omega) (by omega) (by omega) (by omega) (by omega)).trans m1, (x2 _ (by omega) (by omega) (by omega) (by omega) (by omega)).trans m2, (x2 _ (by omega) (by omega) (by omega) (by omega) (by omega)).trans m3, (x2 _ (by omega) (by omega) (by omega) (by omega) (by omega)).trans m4⟩, ⟨by rw [eb]; exact k1.1.2.1.1, by rw [eb]; exact bb⟩, ⟨(f2.2.2 _ _ (by omega) (by omega)).trans k1.1.1.1, (f2.2.2 _ _ (by omega) (by omega)).trans k1.1.1.2⟩, ⟨p3.1, p3.2.1, p3.2.2.1, p6, p7⟩, ⟨p3.2.2.2.1, p3.2.2.2.2.1, p3.2.2.2.2.2.1⟩, ⟨p3.2.2.2.2.2.2.1, p3.2.2.2.2.2.2.2⟩⟩ ((f2.2.2 _ _ (by omega) (by omega)).trans e17) p8 (f1.s8.tr (FrS8.cl hz f2)) (fun y h hy9 => (f2.2.2 y 14 (by omega) (by omega)).trans (f1.2.2.2 y 14 (by omega)))
  · have eb : mB σ2 = mB σ1 := congrArg Prod.fst f2.2.1
    have key := hn (x.2, x.1.2.2.1, (9, x.1.1.1.1.1, x.1.1.1.1.2.1)) c' σ2 (roD_n e1 p1) p2 (r1.pa f2) hc ((f2.2.2 _ _ (by decide)).trans e16) ⟨by rw [eb]; exact f1.2.1.1, by rw [eb]; exact f1.2.1.2.1⟩ (f1.s8.tr (FrS8.pa f2)) (fun y h => (f2.2.2 y 14 (by omega)).trans (f1.2.2.2 y 14 (by omega)))
    exact key
end
/-! ALL ROUNDS as a function -/
abbrev SR9 : Type := RD9 × List (Nat × Nat) × Int × Bool
/-- n rounds more may be, r is the next one's number -/
def seD (M : List Int) : Nat → Int → BF9 → Int × Int → SR9 ⊕ (Int × RF9)
  | 0, _, _, w => .inr (0, ru0, (8, w.1, w.2))
  | n + 1, r, B, w => match roD B M w with
    | .inr x => .inr x
    | .inl x => if lkB (neB9 x.1 x.2.2) B = true then .inl (x.1, x.2.2, r, true) else if n = 0 then .inl (x.1, x.2.2, r, false) else seD M n (r + 1) (neB9 x.1 x.2.2) (x.1.1.1.1.1, x.1.1.1.1.2.1)
section
variable {B : BF9} {M : List Int} {w : Int × Int} {n : Nat} {r : Int}
theorem seD_f {x : Int × RF9} (h : roD B M w = .inr x) : seD M (n + 1) r B w = .inr x := by
  unfold seD
  rw [h]
theorem seD_y {x : RZ9} (h : roD B M w = .inl x) : seD M (n + 1) r B w = if lkB (neB9 x.1 x.2.2) B = true then .inl (x.1, x.2.2, r, true) else if n = 0 then .inl (x.1, x.2.2, r, false) else seD M n (r + 1) (neB9 x.1 x.2.2) (x.1.1.1.1.1, x.1.1.1.1.2.1) := by
  conv => lhs; unfold seD
  rw [h]
end
