/-! A PROOF: bounds of its lines; all pages, the class -/
theorem kI_i {th : String → MS → Prop} {f : Int → MS → Prop} {x : Int} {σ : MS} (h : f x σ) : kI th f (.inl (some x)) σ := h
theorem kV_i {th : String → MS → Prop} {f : MS → Prop} {σ : MS} (h : f σ) : kV th f (.inl none) σ := h
section
variable {room : Int} {F : List Int} {Ls : List GL9} {A : List Int} {sp : List (Int × Int)} {S : List Int} {g : HG9}
/-- what is known of pages -/
def PgP (room : Int) (F : List Int) (A : List Int) (sp : List (Int × Int)) (P : List (Nat × Nat)) : Prop := ∀ p ∈ P, p.1 ≤ p.2 ∧ p.2 < F.length ∧ PgO room A sp p.1 p.2
theorem pgD_p (hB : PgB room F Ls A sp) (hr : 3 ≤ room) (hroom : room = S.getD 9 0 - (if S.getD 10 0 = 1 then 2 else 0)) (hS : StB S) (hS9 : S.getD 9 0 ≤ 60) : ∀ {n i c : Nat} {P : List (Nat × Nat)}, i ≤ F.length → pgD room F Ls A sp n i c = some P → PgP room F A sp P ∧ (prG9 S F Ls A sp g room c P).length ≤ 60 * P.length ∧ suM ((prG9 S F Ls A sp g room c P).map (·.1)) + wtF9 F Ls i + wtN Ls (ntN sp 0 (nB A (i : Int))) ≤ 90 * P.length + wtF9 F Ls F.length + wtN Ls (ntN sp 0 sp.length)
  | 0, i, c, P, hi, h => by
    rw [← Option.some.inj h]
    have lsA := hB.2.2.2.2.2.2.2.1
    have nl := nB_l (A := A) (x := (i : Int))
    have w1 := wtF9_a (F := F) (Ls := Ls) (i := i) (j := F.length) hi
    have w2 := wtN_d (Ls := Ls) (sp := sp) (k := nB A (i : Int)) (n := sp.length) (by omega)
    refine ⟨fun p hp => absurd hp List.not_mem_nil, Nat.le_refl _, ?_⟩
    show 0 + _ + _ ≤ 90 * 0 + _ + _
    omega
  | n + 1, i, c, P, hi, h => by
    have lsA := hB.2.2.2.2.2.2.2.1
    have nl := nB_l (A := A) (x := (i : Int))
    have w1 := wtF9_a (F := F) (Ls := Ls) (i := i) (j := F.length) hi
    have w2 := wtN_d (Ls := Ls) (sp := sp) (k := nB A (i : Int)) (n := sp.length) (by omega)
    unfold pgD at h
    by_cases c1 : F.length ≤ i
    · rw [if_pos c1] at h
      rw [← Option.some.inj h]
      refine ⟨fun p hp => absurd hp List.not_mem_nil, Nat.le_refl _, ?_⟩
      show 0 + _ + _ ≤ 90 * 0 + _ + _
      omega
    · rw [if_neg c1] at h
      by_cases c2 : F.getD i 0 < 0
      · rw [if_pos c2] at h
        have ih := pgD_p hB hr hroom hS hS9 (n := n) (i := i + 1) (c := c) (P := P) (by omega) h
        have e1 := wtF9_sk (F := F) (Ls := Ls) c2
        have e2 := nB_sk hB.2.2.2.2.1 c2
        rw [e1, show ((i + 1 : Nat) : Int) = (i : Int) + 1 by omega, e2] at ih
        exact ih
      · rw [if_neg c2] at h
        by_cases c3 : 99 ≤ c
        · rw [if_pos c3] at h
          cases h
        · rw [if_neg c3] at h
          obtain ⟨q1, q2, q3, q4, q5⟩ := pgE_p (room := room) (F := F) (Ls := Ls) (A := A) (sp := sp) (fr := i) (by omega) (by omega)
          have hPo := pgE_o (fr := i) hB hr (by omega) (by omega)
          cases h1 : pgD room F Ls A sp n (pgE room F Ls A sp i + 1) (c + 1) with
          | none =>
            simp only [h1] at h
            cases h
          | some P1 =>
            simp only [h1] at h
            have ih := pgD_p hB hr hroom hS hS9 (n := n) (i := pgE room F Ls A sp i + 1) (c := c + 1) (P := P1) (by omega) h1
            obtain ⟨i1, i2, i3⟩ := ih
            have nbe := nB_mo (A := A) (x := (i : Int)) (y := (pgE room F Ls A sp i : Int) + 1) (by omega)
            have nbl := nB_l (A := A) (x := (pgE room F Ls A sp i : Int) + 1)
            have wF := wtF9_a (F := F) (Ls := Ls) (i := i) (j := pgE room F Ls A sp i + 1) (by omega)
            have wN := wtN_d (Ls := Ls) (sp := sp) (k := nB A (i : Int)) (n := nB A ((pgE room F Ls A sp i : Int) + 1)) nbe
            have pl := pgG_l (S := S) (g := g) (c := c) (F := F) (Ls := Ls) hB hr hroom hS9 hPo
            have ps := pgG_s (F := F) (Ls := Ls) (A := A) (sp := sp) (g := g) (room := room) (c := c) (e := i) (last := pgE room F Ls A sp i) hS
            rw [show ((pgE room F Ls A sp i + 1 : Nat) : Int) = (pgE room F Ls A sp i : Int) + 1 by omega] at i3
            rw [← Option.some.inj h]
            refine ⟨fun p hp => ?_, ?_, ?_⟩
            · rcases List.mem_cons.mp hp with e | e
              · rw [e]
                exact ⟨q1, q2, hPo⟩
              · exact i1 p e
            · show (pgG S F Ls A sp g room c i (pgE room F Ls A sp i) ++ prG9 S F Ls A sp g room (c + 1) P1).length ≤ 60 * (P1.length + 1)
              rw [List.length_append]
              omega
            · show suM ((pgG S F Ls A sp g room c i (pgE room F Ls A sp i) ++ prG9 S F Ls A sp g room (c + 1) P1).map (·.1)) + _ + _ ≤ 90 * (P1.length + 1) + _ + _
              rw [List.map_append, suM_app]
              omega
end
theorem plR9_p {d : RD9} {i : Nat} {P : List (Nat × Nat)} (h : RDI d i) (hw : WtI d.1) (hP : pgR9 d = some P) : PgP (rmP d.2.2.1.1) d.1.2.1.2 d.1.2.2.1.1 d.1.2.2.1.2 P ∧ P.length ≤ 99 ∧ (plR9 d P).length ≤ 5940 ∧ suM ((plR9 d P).map (·.1)) ≤ 69000 := by
  obtain ⟨pgb, r3⟩ := h.pg
  have b9 : (5 : Int) ≤ d.2.2.1.1.getD 9 0 ∧ d.2.2.1.1.getD 9 0 ≤ 60 := h.2.1.1.2 9 (by decide)
  obtain ⟨a1, a2, a3⟩ := pgD_p (g := d.2.1) (c := 0) pgb r3 rfl h.2.1.st b9.2 (Nat.zero_le _) hP
  have p99 := pgD_99 (c := 0) (by decide) hP
  have a2 : (plR9 d P).length ≤ 60 * P.length := a2
  have we := wW9_e (Ls := d.1.2.1.1) (F := d.1.2.1.2) (sp := d.1.2.2.1.2)
  have w1 := hw.1
  have g4 : ((suM (d.1.2.1.1.map (·.1)) : Nat) : Int) + 20 * d.1.2.1.1.length ≤ d.1.1.1.1 := h.1.2.1.2.2.2.1
  have g1 : d.1.1.1.1 ≤ 60000 := h.1.2.1.1.2
  have a3 : suM ((plR9 d P).map (·.1)) + wtF9 d.1.2.1.2 d.1.2.1.1 0 + wtN d.1.2.1.1 (ntN d.1.2.2.1.2 0 (nB d.1.2.2.1.1 ((0 : Nat) : Int))) ≤ 90 * P.length + wtF9 d.1.2.1.2 d.1.2.1.1 d.1.2.1.2.length + wtN d.1.2.1.1 (ntN d.1.2.2.1.2 0 d.1.2.2.1.2.length) := a3
  exact ⟨a1, by omega, by omega, by omega⟩
/-- what a proof's making leaves -/
def FrSx (σ σ' : MS) : Prop := (∀ q, q ∉ [208, 214, 216, 218, 220, 222, 226] → mX σ' q = mX σ q) ∧ σ'.2.2 = σ.2.2 ∧ ∀ y k, y ≠ 228 → ¬ (y = 212 ∧ k = 0) → mV σ' y k = mV σ y k
/-- what the class tells of a proof -/
def TyC (σ : MS) (z : Nat) (d : RD9) (P : List (Nat × Nat)) (r : Int) (st : Bool) : Prop := mV σ 228 3 = (P.length : Int) ∧ mV σ 228 4 = d.1.1.2.2.2.2.2.1.2.2 ∧ mV σ 228 5 = (d.2.1.1.length : Int) ∧ mV σ 228 6 = ((orD d.1.1.2.2.2.2.1.1 d.1.1.2.2.2.2.1.1.length).length : Int) ∧ mV σ 228 7 = (d.1.1.2.2.2.1.1.length : Int) ∧ mV σ 228 8 = puN (plR9 d P) ∧ mV σ 228 9 = r ∧ mV σ 228 10 = bZ st ∧ mV σ 228 11 = d.1.1.2.2.2.2.2.2 ∧ mV σ 228 12 = ((plR9 d P).length : Int)
section
variable {σ σ0 : MS} {Q : MQ9} {z c0 i : Nat} {d : RD9} {P : List (Nat × Nat)}
theorem ShC.sw {σ1 : MS} (hz : z = 49 ∨ z = 163) (h : ShC σ z c0 d P) (f : FrSw σ σ1) : ShC σ1 z c0 d P := by
  have nx : ∀ q, q < 212 → mX σ1 q = mX σ q := fun q a => f.1 q (by
    simp only [List.mem_cons, List.not_mem_nil, or_false]
    omega)
  have nv : ∀ y k, y < 212 → mV σ1 y k = mV σ y k := fun y k a => f.2.2 y k (by omega)
  have eb : mB σ1 = mB σ := congrArg Prod.fst f.2.1
  obtain ⟨⟨a1, a2, a3, a4, a5⟩, ⟨b1, b2, b3⟩, ⟨c1, c2⟩, ⟨⟨d1, d1'⟩, ⟨d2, d2'⟩, d3, ⟨d4, d4'⟩, d5, d6, ⟨d7, d7'⟩, d8⟩, e1, ⟨f1, f2, f3, f4⟩, ⟨g1, g2⟩, h1⟩ := h
  refine ⟨⟨(nx _ (by omega)).trans a1, (nx _ (by omega)).trans a2, (nx _ (by omega)).trans a3, (nx _ (by omega)).trans a4, (nx _ (by omega)).trans a5⟩, ⟨(nx _ (by omega)).trans b1, (nx _ (by omega)).trans b2, (nx _ (by omega)).trans b3⟩, ⟨(nx _ (by omega)).trans c1, (nx _ (by omega)).trans c2⟩, ⟨⟨(nx _ (by omega)).trans d1, (nx _ (by omega)).trans d1'⟩, ⟨(nx _ (by omega)).trans d2, (nx _ (by omega)).trans d2'⟩, (nx _ (by omega)).trans d3, ⟨(nx _ (by omega)).trans d4, (nx _ (by omega)).trans d4'⟩, (nx _ (by omega)).trans d5, (nx _ (by omega)).trans d6, ⟨(nx _ (by omega)).trans d7, (nx _ (by omega)).trans d7'⟩, (nx _ (by omega)).trans d8⟩, (nx _ (by omega)).trans e1, ⟨(nv _ _ (by omega)).trans f1, (nv _ _ (by omega)).trans f2, (nv _ _ (by omega)).trans f3, (nv _ _ (by omega)).trans f4⟩, ⟨g1.cg (Nat.le_refl _) (fun q hq _ _ => nx q (by
    unfold FOX at hq
    simp only [List.mem_cons, List.not_mem_nil, or_false] at hq
    omega)) (fun k => nv 24 k (by omega)), g2⟩, by rw [eb]; exact h1⟩
/-- tallies -/
theorem Proof_takeTallies.c {l2 l3 l4 : Int} (hz : z = 49 ∨ z = 163) (h2 : Rg l2) (h3 : Rg l3) (h4 : l4 = 0 ∨ l4 = 1) (hq : ∀ σ', (∀ q, mX σ' q = mX σ q) → σ'.2.2 = σ.2.2 → (∀ y k, y ≠ 228 → ¬ (y = 212 ∧ k = 0) → mV σ' y k = mV σ y k) → mV σ' 212 0 = 1 → (mV σ' 228 3 = ((mX σ 220).length : Int) ∧ mV σ' 228 4 = mV σ z 12 ∧ mV σ' 228 5 = ((mX σ (z + 13 + 3)).length : Int) ∧ mV σ' 228 6 = l2 ∧ mV σ' 228 7 = ((mX σ (z + 1 + 3)).length : Int) ∧ mV σ' 228 8 = mV σ 228 8 ∧ mV σ' 228 9 = l3 ∧ mV σ' 228 10 = l4 ∧ mV σ' 228 11 = mV σ z 13 ∧ mV σ' 228 12 = ((mX σ 216).length : Int)) → Q (.inl none) σ') : Proof_takeTallies 212 z l2 l3 l4 σ Q := by
  have im : isMarks z = true := by rcases hz with rfl | rfl <;> decide
  have ish : isShelf (z + 13) = true := by rcases hz with rfl | rfl <;> decide
  have ish1 : isShelf (z + 1) = true := by rcases hz with rfl | rfl <;> decide
  have i16 : isRow (z + 13 + 3) = true := by rcases hz with rfl | rfl <;> decide
  have i4 : isRow (z + 1 + 3) = true := by rcases hz with rfl | rfl <;> decide
  have z1 : z ≠ 228 := by omega
  have z2 : z ≠ 212 := by omega
  refine Proof_takeTallies.i (tB.i (by decide) (tB.i (by decide) (tB.i (by decide) (tB.i (by decide) (tB.i (by decide) ⟨by decide, by decide, tB.i (by decide) (tB.i im (tB.i (by decide) ⟨by decide, by decide, tB.i (by decide) (tB.i im (tB.i ish (Shelf_rows.i (tB.i ish (tB.i i16 (kI_i (tB.i (by decide) ⟨by decide, by decide, tB.i (by decide) (tB.i (by decide) ⟨by decide, by decide, h2, tB.i (by decide) (tB.i im (tB.i ish1 (Shelf_rows.i (tB.i ish1 (tB.i i4 (kI_i (tB.i (by decide) ⟨by decide, by decide, tB.i (by decide) (tB.i (by decide) ⟨by decide, by decide, h3, tB.i (by decide) ⟨by unfold Rg; omega, fun h => ?_, fun h => ?_⟩⟩)⟩)))))))⟩)⟩)))))))⟩))⟩)))))
  · refine tB.i (by decide) ⟨by decide, by decide, tB.i (by decide) (tB.i im (tB.i (by decide) ⟨by decide, by decide, tB.i (by decide) (tB.i (by decide) (tB.i (by decide) (Shelf_rows.i (tB.i (by decide) (tB.i (by decide) (kI_i (tB.i (by decide) ⟨by decide, by decide, hq _ (fun _ => rfl) rfl (fun y k a b => ?_) ?_ ⟨?_, ?_, ?_, ?_, ?_, ?_, ?_, ?_, ?_, ?_⟩⟩)))))))⟩))⟩
    · rw [wV_ne (Or.inl a), wV_ne (Or.inl a), wV_ne (Or.inl a), wV_ne (Or.inl a), wV_ne (Or.inl a), wV_ne (Or.inl a), wV_ne (Or.inl a), wV_ne (Or.inl a), wV_ne (Or.inl a), wV_ne (by omega)]
    · (repeat (first | exact wV_self | refine (wV_ne (Or.inr (by decide))).trans ?_ | refine (wV_ne (Or.inl (by decide))).trans ?_))
    · (repeat (first | exact wV_self | refine (wV_ne (Or.inr (by decide))).trans ?_ | refine (wV_ne (Or.inl (by decide))).trans ?_))
    · refine (wV_ne (Or.inr (by decide))).trans ((wV_ne (Or.inr (by decide))).trans ((wV_ne (Or.inr (by decide))).trans ((wV_ne (Or.inr (by decide))).trans ((wV_ne (Or.inr (by decide))).trans ((wV_ne (Or.inr (by decide))).trans ((wV_ne (Or.inr (by decide))).trans (wV_self.trans ?_)))))))
      exact (wV_ne (Or.inl z1)).trans (wV_ne (Or.inl z2))
    · (repeat (first | exact wV_self | refine (wV_ne (Or.inr (by decide))).trans ?_ | refine (wV_ne (Or.inl (by decide))).trans ?_))
    · (repeat (first | exact wV_self | refine (wV_ne (Or.inr (by decide))).trans ?_ | refine (wV_ne (Or.inl (by decide))).trans ?_))
    · (repeat (first | exact wV_self | refine (wV_ne (Or.inr (by decide))).trans ?_ | refine (wV_ne (Or.inl (by decide))).trans ?_))
    · (repeat (first | exact wV_self | refine (wV_ne (Or.inr (by decide))).trans ?_ | refine (wV_ne (Or.inl (by decide))).trans ?_))
      rfl
    · (repeat (first | exact wV_self | refine (wV_ne (Or.inr (by decide))).trans ?_ | refine (wV_ne (Or.inl (by decide))).trans ?_))
    · rw [h]
      (repeat (first | exact wV_self | refine (wV_ne (Or.inr (by decide))).trans ?_ | refine (wV_ne (Or.inl (by decide))).trans ?_))
    · refine (wV_ne (Or.inr (by decide))).trans (wV_self.trans ?_)
      exact (wV_ne (Or.inl z1)).trans ((wV_ne (Or.inl z1)).trans ((wV_ne (Or.inl z1)).trans ((wV_ne (Or.inl z1)).trans ((wV_ne (Or.inl z1)).trans ((wV_ne (Or.inl z1)).trans ((wV_ne (Or.inl z1)).trans (wV_ne (Or.inl z2))))))))
    · exact wV_self
  · refine tB.i (by decide) ⟨by decide, by decide, tB.i (by decide) (tB.i im (tB.i (by decide) ⟨by decide, by decide, tB.i (by decide) (tB.i (by decide) (tB.i (by decide) (Shelf_rows.i (tB.i (by decide) (tB.i (by decide) (kI_i (tB.i (by decide) ⟨by decide, by decide, hq _ (fun _ => rfl) rfl (fun y k a b => ?_) ?_ ⟨?_, ?_, ?_, ?_, ?_, ?_, ?_, ?_, ?_, ?_⟩⟩)))))))⟩))⟩
    · rw [wV_ne (Or.inl a), wV_ne (Or.inl a), wV_ne (Or.inl a), wV_ne (Or.inl a), wV_ne (Or.inl a), wV_ne (Or.inl a), wV_ne (Or.inl a), wV_ne (Or.inl a), wV_ne (Or.inl a), wV_ne (by omega)]
    · (repeat (first | exact wV_self | refine (wV_ne (Or.inr (by decide))).trans ?_ | refine (wV_ne (Or.inl (by decide))).trans ?_))
    · (repeat (first | exact wV_self | refine (wV_ne (Or.inr (by decide))).trans ?_ | refine (wV_ne (Or.inl (by decide))).trans ?_))
    · refine (wV_ne (Or.inr (by decide))).trans ((wV_ne (Or.inr (by decide))).trans ((wV_ne (Or.inr (by decide))).trans ((wV_ne (Or.inr (by decide))).trans ((wV_ne (Or.inr (by decide))).trans ((wV_ne (Or.inr (by decide))).trans ((wV_ne (Or.inr (by decide))).trans (wV_self.trans ?_)))))))
      exact (wV_ne (Or.inl z1)).trans (wV_ne (Or.inl z2))
    · (repeat (first | exact wV_self | refine (wV_ne (Or.inr (by decide))).trans ?_ | refine (wV_ne (Or.inl (by decide))).trans ?_))
    · (repeat (first | exact wV_self | refine (wV_ne (Or.inr (by decide))).trans ?_ | refine (wV_ne (Or.inl (by decide))).trans ?_))
    · (repeat (first | exact wV_self | refine (wV_ne (Or.inr (by decide))).trans ?_ | refine (wV_ne (Or.inl (by decide))).trans ?_))
    · (repeat (first | exact wV_self | refine (wV_ne (Or.inr (by decide))).trans ?_ | refine (wV_ne (Or.inl (by decide))).trans ?_))
      rfl
    · (repeat (first | exact wV_self | refine (wV_ne (Or.inr (by decide))).trans ?_ | refine (wV_ne (Or.inl (by decide))).trans ?_))
    · rw [h4.resolve_left h]
      (repeat (first | exact wV_self | refine (wV_ne (Or.inr (by decide))).trans ?_ | refine (wV_ne (Or.inl (by decide))).trans ?_))
    · refine (wV_ne (Or.inr (by decide))).trans (wV_self.trans ?_)
      exact (wV_ne (Or.inl z1)).trans ((wV_ne (Or.inl z1)).trans ((wV_ne (Or.inl z1)).trans ((wV_ne (Or.inl z1)).trans ((wV_ne (Or.inl z1)).trans ((wV_ne (Or.inl z1)).trans ((wV_ne (Or.inl z1)).trans (wV_ne (Or.inl z2))))))))
    · exact wV_self
/-- all pages, the class -/
theorem csh_2 {st : Bool} {r : Int} (hz : z = 49 ∨ z = 163) (h : RDI d i) (hw : WtI d.1) (hP : pgR9 d = some P) (hr : Rg r) (hq : ∀ σ', PoC σ' (plR9 d P) [] → mX σ' 220 = (psD d P).map Int.ofNat → mV σ' 212 0 = 1 → TyC σ' z d P r st → FrSx σ0 σ' → Q (.inl none) σ') : ∀ (P1 P0 : List (Nat × Nat)) (σ : MS), P0 ++ P1 = P → ShC σ z c0 d P → mV σ 127 17 = r → mV σ 127 18 = bZ st → SwC σ (prG9 d.2.2.1.1 d.1.2.1.2 d.1.2.1.1 d.1.2.2.1.1 d.1.2.2.1.2 d.2.1 (rmP d.2.2.1.1) 0 P0) → mX σ 220 = (psG d.2.2.1.1 d.1.2.1.2 d.1.2.1.1 d.1.2.2.1.1 d.1.2.2.1.2 d.2.1 (rmP d.2.2.1.1) 0 0 P0).map Int.ofNat → FrSw σ0 σ → Setter_show_2 212 (P0.length : Int) σ Q := by
  obtain ⟨pgb, r3⟩ := h.pg
  obtain ⟨pgp, p99, pl, ps⟩ := plR9_p h hw hP
  have ru := h.2.1
  have st9 := ru.st
  have b10 : (0 : Int) ≤ d.2.2.1.1.getD 10 0 ∧ d.2.2.1.1.getD 10 0 ≤ 1 := ru.1.2 10 (by decide)
  have b9 : (5 : Int) ≤ d.2.2.1.1.getD 9 0 ∧ d.2.2.1.1.getD 9 0 ≤ 60 := ru.1.2 9 (by decide)
  have b11 : (1 : Int) ≤ d.2.2.1.1.getD 11 0 ∧ d.2.2.1.1.getD 11 0 ≤ 999 := ru.1.2 11 (by decide)
  have b12 : (1 : Int) ≤ d.2.2.1.1.getD 12 0 ∧ d.2.2.1.1.getD 12 0 ≤ 5 := ru.1.2 12 (by decide)
  have g4 : ((suM (d.1.2.1.1.map (·.1)) : Nat) : Int) + 20 * d.1.2.1.1.length ≤ d.1.1.1.1 := h.1.2.1.2.2.2.1
  have g1 : d.1.1.1.1 ≤ 60000 := h.1.2.1.1.2
  have tot : (suM d.1.1.2.2.2.2.1.1 : Int) + ((0 : Nat) : Int) + ((0 : Nat) : Int) + ((suM d.2.1.1 : Nat) + 100 : Int) ≤ d.1.1.1.1 + 100 := h.1.1.2.2.2.2.2.2
  have hd := h.1.2.2.2.2.2.2.1
  have im : isMarks z = true := by rcases hz with rfl | rfl <;> decide
  have erm : d.2.2.1.1.getD 9 0 - 2 * d.2.2.1.1.getD 10 0 = rmP d.2.2.1.1 := by
    unfold rmP
    split <;> omega
  intro P1
  induction P1 with
  | nil =>
    intro P0 σ hPP hS e17 e18 hw9 e220 f0
    rw [List.append_nil] at hPP
    rw [hPP] at hw9 e220 ⊢
    have k9 := hS.2.2.2.1
    have l146 : (mX σ 146).length = P.length := by rw [hS.2.2.1.1, List.length_map]
    have eb : mB σ 0 = z := hS.2.2.2.2.2.2.2
    refine Setter_show_2.i ⟨by unfold Rg; omega, fun _ => ?_, fun h9 => by rw [l146] at h9; omega⟩
    rw [eb]
    have k3 := h.1.1.2.2.2.1
    refine tB.i im (Marks_order.c (K := d.1.1.2.2.2.2.1.1) hz k9.2.2.2.2.2.2.1 (by omega) k3.2.2 k3.2.1 (kV_i (tB.i (by decide) ?_)))
    show Proof_takeTallies 212 (mB σ 0) ((mX (wX σ 208 (natZ (orD d.1.1.2.2.2.2.1.1 d.1.1.2.2.2.2.1.1.length))) 208).length : Int) (mV σ 127 17) (mV σ 127 18) (wX σ 208 (natZ (orD d.1.1.2.2.2.2.1.1 d.1.1.2.2.2.2.1.1.length))) _
    rw [wX_self, eb, e17, e18]
    have n208 : ∀ q, q ≠ 208 → mX (wX σ 208 (natZ (orD d.1.1.2.2.2.2.1.1 d.1.1.2.2.2.2.1.1.length))) q = mX σ q := fun q a => wX_ne a
    have lo : (natZ (orD d.1.1.2.2.2.2.1.1 d.1.1.2.2.2.2.1.1.length)).length = (orD d.1.1.2.2.2.2.1.1 d.1.1.2.2.2.2.1.1.length).length := List.length_map ..
    have lo2 := orD_l (K := d.1.1.2.2.2.2.1.1) d.1.1.2.2.2.2.1.1.length
    have k100 : d.1.1.2.2.2.2.1.1.length ≤ 100 := k3.2.1
    refine Proof_takeTallies.c hz (by rw [lo]; unfold Rg; omega) hr (bZ_01) (fun σ1 x1 c1 v1 h212 t1 => ?_)
    have x1' : ∀ q, q ≠ 208 → mX σ1 q = mX σ q := fun q a => (x1 q).trans (n208 q a)
    obtain ⟨t3, t4, t5, t6, t7, t8, t9, t10, t11, t12⟩ := t1
    refine hq σ1 ⟨(x1' _ (by decide)).trans hw9.1.1, (x1' _ (by decide)).trans hw9.1.2.1, (x1' _ (by decide)).trans hw9.1.2.2.1, (x1' _ (by decide)).trans hw9.1.2.2.2⟩ ((x1' _ (by decide)).trans e220) h212 ⟨?_, ?_, ?_, ?_, ?_, ?_, t9, t10, ?_, ?_⟩ ⟨fun q a => ?_, c1.trans f0.2.1, fun y k a1 a2 => (v1 y k a1 a2).trans (f0.2.2 y k a1)⟩
    · rw [t3, n208 _ (by decide), e220, List.length_map, psG_l]
    · rw [t4]
      exact hS.2.2.2.2.2.1.1
    · rw [t5, n208 _ (by omega), k9.2.2.2.1.2, enS_len]
      rfl
    · rw [t6, lo]
    · rw [t7, n208 _ (by omega), k9.1.2, enS_len]
      rfl
    · rw [t8]
      exact hw9.2
    · rw [t11]
      exact hS.2.2.2.2.2.1.2.1
    · rw [t12, n208 _ (by decide), hw9.1.2.1, enS_len, List.length_map]
      rfl
    · have a8 : q ≠ 208 := fun e => a (by rw [e]; decide)
      refine (x1' q a8).trans (f0.1 q (fun e => a ?_))
      exact List.mem_cons_of_mem _ e
  | cons p P1 ih =>
    intro P0 σ hPP hS e17 e18 hw9 e220 f0
    have hpm : p ∈ P := by rw [← hPP]; exact List.mem_append_right _ List.mem_cons_self
    obtain ⟨pp1, pp2, pp3⟩ := pgp p hpm
    have lf := pgb.2.1
    have lP : P0.length + (P1.length + 1) = P.length := by
      rw [← hPP, List.length_append]
      rfl
    have l146 : (mX σ 146).length = P.length := by rw [hS.2.2.1.1, List.length_map]
    have eb : mB σ 0 = z := hS.2.2.2.2.2.2.2
    have ep : P.getD P0.length (0, 0) = p := by
      rw [← hPP]
      unfold List.getD
      rw [List.getElem?_append_right (Nat.le_refl _), Nat.sub_self]
      rfl
    have at1 : rgt (mX σ 146) (P0.length : Int) = (p.1 : Int) := by
      rw [hS.2.2.1.1, rgt_n (by rw [List.length_map]; omega)]
      rw [← ep]
      unfold List.getD
      rw [List.getElem?_map, List.getElem?_eq_getElem (by omega : P0.length < P.length)]
      rfl
    have at2 : ∀ {s : MS}, mX s 148 = P.map (fun p => (p.2 : Int)) → rgt (mX s 148) (P0.length : Int) = (p.2 : Int) := fun {s} e9 => by
      rw [e9, rgt_n (by rw [List.length_map]; omega)]
      rw [← ep]
      unfold List.getD
      rw [List.getElem?_map, List.getElem?_eq_getElem (by omega : P0.length < P.length)]
      rfl
    have at1' : ∀ {s : MS}, mX s 146 = P.map (fun p => (p.1 : Int)) → rgt (mX s 146) (P0.length : Int) = (p.1 : Int) := fun {s} e9 => by
      rw [e9, ← hS.2.2.1.1]
      exact at1
    have ePr : prG9 d.2.2.1.1 d.1.2.1.2 d.1.2.1.1 d.1.2.2.1.1 d.1.2.2.1.2 d.2.1 (rmP d.2.2.1.1) 0 (P0 ++ [p]) = prG9 d.2.2.1.1 d.1.2.1.2 d.1.2.1.1 d.1.2.2.1.1 d.1.2.2.1.2 d.2.1 (rmP d.2.2.1.1) 0 P0 ++ pgG d.2.2.1.1 d.1.2.1.2 d.1.2.1.1 d.1.2.2.1.1 d.1.2.2.1.2 d.2.1 (rmP d.2.2.1.1) P0.length p.1 p.2 := by
      rw [prG9_a, Nat.zero_add]
      show _ ++ (_ ++ []) = _
      rw [List.append_nil]
    have ePs : psG d.2.2.1.1 d.1.2.1.2 d.1.2.1.1 d.1.2.2.1.1 d.1.2.2.1.2 d.2.1 (rmP d.2.2.1.1) 0 0 (P0 ++ [p]) = psG d.2.2.1.1 d.1.2.1.2 d.1.2.1.1 d.1.2.2.1.1 d.1.2.2.1.2 d.2.1 (rmP d.2.2.1.1) 0 0 P0 ++ [(prG9 d.2.2.1.1 d.1.2.1.2 d.1.2.1.1 d.1.2.2.1.1 d.1.2.2.1.2 d.2.1 (rmP d.2.2.1.1) 0 P0).length] := by
      rw [psG_a, Nat.zero_add]
      rfl
    have eAll : plR9 d P = prG9 d.2.2.1.1 d.1.2.1.2 d.1.2.1.1 d.1.2.2.1.1 d.1.2.2.1.2 d.2.1 (rmP d.2.2.1.1) 0 (P0 ++ [p]) ++ prG9 d.2.2.1.1 d.1.2.1.2 d.1.2.1.1 d.1.2.2.1.1 d.1.2.2.1.2 d.2.1 (rmP d.2.2.1.1) (0 + (P0 ++ [p]).length) P1 := by
      unfold plR9
      rw [← prG9_a, List.append_assoc]
      show _ = prG9 _ _ _ _ _ _ _ 0 (P0 ++ p :: P1)
      rw [hPP]
    generalize hL : prG9 d.2.2.1.1 d.1.2.1.2 d.1.2.1.1 d.1.2.2.1.1 d.1.2.2.1.2 d.2.1 (rmP d.2.2.1.1) 0 P0 = L at hw9 ePr ePs
    rw [ePr] at eAll
    have bl : (L ++ pgG d.2.2.1.1 d.1.2.1.2 d.1.2.1.1 d.1.2.2.1.1 d.1.2.2.1.2 d.2.1 (rmP d.2.2.1.1) P0.length p.1 p.2).length ≤ 5940 := by
      rw [eAll, List.length_append] at pl
      omega
    have bs : suM ((L ++ pgG d.2.2.1.1 d.1.2.1.2 d.1.2.1.1 d.1.2.2.1.1 d.1.2.2.1.2 d.2.1 (rmP d.2.2.1.1) P0.length p.1 p.2).map (·.1)) ≤ 69000 := by
      rw [eAll, List.map_append, suM_app] at ps
      omega
    unfold pgG at bl bs ePr
    rw [← List.append_assoc, ← List.append_assoc] at bl bs ePr
    have l220 : (mX σ 220).length = P0.length := by rw [e220, List.length_map, psG_l]
    have l216 : (mX σ 216).length = L.length := by rw [hw9.1.2.1, enS_len, List.length_map]
    have c220 : capOf 220 = 128 := by decide
    -- the page itself
    have page : ∀ σ1, SwC σ1 (L ++ hdG d.2.2.1.1 d.2.1 P0.length p.1) → ShC σ1 z c0 d P → mV σ1 127 17 = r → mV σ1 127 18 = bZ st → mX σ1 220 = (psG d.2.2.1.1 d.1.2.1.2 d.1.2.1.1 d.1.2.2.1.1 d.1.2.2.1.2 d.2.1 (rmP d.2.2.1.1) 0 0 (P0 ++ [p])).map Int.ofNat → FrSw σ0 σ1 → Setter_show_68 212 (P0.length : Int) σ1 Q := fun σ1 s1 h1 v17 v18 q220 f1 => by
      refine Setter_show_68.i (Setter_pageRoom.i (told_c (k := 9) (by decide) (h1.2.2.2.2.2.2.1.1.1 9 (by decide)) (told_c (k := 10) (by decide) (h1.2.2.2.2.2.2.1.1.1 10 (by decide)) ⟨by unfold Rg; omega, kI_i (tB.i (by decide) ?_)⟩)))
      show Proof_showPage 212 (P0.length : Int) (d.2.2.1.1.getD 9 0 - 2 * d.2.2.1.1.getD 10 0) σ1 _
      rw [erm]
      refine Proof_showPage.c (P := P) pgb r3 (by omega) hw.2 pp1 pp2 (by omega) (at1' h1.2.2.1.1) (at2 h1.2.2.1.2) pp3 (Nat.le_trans bl (by decide)) (Nat.le_trans bs (by decide)) ⟨h1.1, h1.2.1⟩ s1 (fun σ2 s2 f2 e2 => ?_)
      show Setter_show_2 212 ((P0.length : Int) + 1) σ2 Q
      rw [show (P0.length : Int) + 1 = ((P0 ++ [p]).length : Int) by rw [List.length_append]; show _ = ((P0.length + 1 : Nat) : Int); omega]
      refine ih (P0 ++ [p]) σ2 (by rw [List.append_assoc]; exact hPP) (h1.sw hz f2) ((f2.2.2 _ _ (by decide)).trans v17) ((f2.2.2 _ _ (by decide)).trans v18) (by rw [ePr]; exact s2) (e2.trans q220) (f1.tr f2)
    refine Setter_show_2.i ⟨by unfold Rg; omega, fun h9 => by rw [l146] at h9; omega, fun _ => tB.i (by decide) (tB.i (by decide) (Proof_lineCount.i (tB.i (by decide) (tB.i (by decide) (Shelf_rows.i (tB.i (by decide) (tB.i (by decide) (kI_i (kI_i (tB.i (by decide) (tB.i (by decide) ⟨?_, ?_⟩)))))))))))⟩
    · show (mX σ 220).length < capOf 220
      omega
    · show Rules_told 10 (wX σ 220 (mX σ 220 ++ [((mX σ 216).length : Int)])) _
      generalize hσ1 : wX σ 220 (mX σ 220 ++ [((mX σ 216).length : Int)]) = σ1
      have f1 : FrSw σ σ1 := by
        rw [← hσ1]
        exact ⟨fun q a => wX_ne (fun e => a (by rw [e]; decide)), rfl, fun _ _ _ => rfl⟩
      have n1 : ∀ q, q ≠ 220 → mX σ1 q = mX σ q := fun q a => by rw [← hσ1]; exact wX_ne a
      have x220 : mX σ1 220 = (psG d.2.2.1.1 d.1.2.1.2 d.1.2.1.1 d.1.2.2.1.1 d.1.2.2.1.2 d.2.1 (rmP d.2.2.1.1) 0 0 (P0 ++ [p])).map Int.ofNat := by
        rw [← hσ1, wX_self, ePs, e220, l216, List.map_append]
        rfl
      have s1 : SwC σ1 L := ⟨⟨(n1 _ (by decide)).trans hw9.1.1, (n1 _ (by decide)).trans hw9.1.2.1, (n1 _ (by decide)).trans hw9.1.2.2.1, (n1 _ (by decide)).trans hw9.1.2.2.2⟩, by rw [← hσ1]; exact hw9.2⟩
      clear hσ1
      have h1 := hS.sw hz f1
      have v17 : mV σ1 127 17 = r := (f1.2.2 _ _ (by decide)).trans e17
      have v18 : mV σ1 127 18 = bZ st := (f1.2.2 _ _ (by decide)).trans e18
      refine told_c (k := 10) (by decide) (h1.2.2.2.2.2.2.1.1.1 10 (by decide)) ?_
      show (¬ d.2.2.1.1.getD 10 0 = 1 → Setter_show_68 212 (P0.length : Int) σ1 Q) ∧ (d.2.2.1.1.getD 10 0 = 1 → Rg (P0.length : Int) ∧ Rules_told 0 σ1 (kI (thQ Q) fun r5 σ5 => tB (isProof 212) (Proof_showHead 212 (mB σ1 0) (P0.length : Int) (rgt (mX σ1 146) (P0.length : Int)) r5 σ5 (kV (thQ Q) fun σ6 => Setter_show_68 212 (P0.length : Int) σ6 Q))))
      refine ⟨fun h9 => page σ1 ?_ h1 v17 v18 x220 (f0.tr f1), fun h9 => ⟨by unfold Rg; omega, told_c (k := 0) (by decide) (h1.2.2.2.2.2.2.1.1.1 0 (by decide)) (kI_i (tB.i (by decide) ?_))⟩⟩
      · rw [show hdG d.2.2.1.1 d.2.1 P0.length p.1 = [] from if_neg h9, List.append_nil]
        exact s1
      · have eh : hdG d.2.2.1.1 d.2.1 P0.length p.1 = [(hdD d.2.2.1.1 d.2.1 P0.length p.1, 0, 0), ([], 0, 0)] := if_pos h9
        rw [eh] at bl bs page
        rw [show mB σ1 0 = z from h1.2.2.2.2.2.2.2, at1' h1.2.2.1.1]
        have k1 := h1.2.2.2.1
        have hl2 : L.length + 2 ≤ 6000 := by
          rw [List.length_append, List.length_append, List.length_append] at bl
          have bl : L.length + 2 + _ + _ ≤ 5940 := bl
          omega
        have hs2 : suM (L.map (·.1)) ≤ 70000 := by
          rw [List.map_append, List.map_append, List.map_append, suM_app, suM_app, suM_app] at bs
          omega
        refine Proof_showHead.h9 (g := d.2.1) hz st9 ⟨by omega, b11.2⟩ b12 h1.2.2.2.2.2.1.2.2.1 h1.2.2.2.2.2.1.2.2.2 hd (by omega) k1.2.2.2.1 k1.2.2.2.2.1 h1.2.2.2.2.1 (by omega) (by omega) hl2 hs2 s1 (fun σ2 s2 f2 e2 => page σ2 s2 (h1.sw hz f2) ((f2.2.2 _ _ (by decide)).trans v17) ((f2.2.2 _ _ (by decide)).trans v18) (e2.trans x220) ((f0.tr f1).tr f2))
/-- a proof is made, the class -/
theorem Setter_show.c {st : Bool} {r : Int} (hz : z = 49 ∨ z = 163) (h : RDI d i) (hw : WtI d.1) (hP : pgR9 d = some P) (hr : Rg r) (hS : ShC σ z c0 d P) (e17 : mV σ 127 17 = r) (e18 : mV σ 127 18 = bZ st) (x0 : mX σ 214 = [] ∧ mX σ 216 = [] ∧ mX σ 218 = [] ∧ mX σ 220 = [] ∧ mX σ 222 = []) (h8 : mV σ 228 8 = 0) (hq : ∀ σ', PoC σ' (plR9 d P) [] → mX σ' 220 = (psD d P).map Int.ofNat → mV σ' 212 0 = 1 → TyC σ' z d P r st → FrSx σ σ' → Q (.inl none) σ') : Setter_show 212 σ Q :=
  Setter_show.i (csh_2 (σ0 := σ) hz h hw hP hr hq P [] σ rfl hS e17 e18 ⟨⟨x0.1, x0.2.1, x0.2.2.1, x0.2.2.2.2⟩, h8⟩ x0.2.2.2.1 FrSw.rf)
end
