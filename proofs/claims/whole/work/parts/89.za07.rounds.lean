/-! ALL ROUNDS: the document, the class, the reference -/
section
variable {room : Int} {F : List Int} {Ls : List GL9} {A : List Int} {sp : List (Int × Int)}
theorem pgD_99 : ∀ {n i c : Nat} {P : List (Nat × Nat)}, c ≤ 99 → pgD room F Ls A sp n i c = some P → c + P.length ≤ 99
  | 0, i, c, P, hc, h => by
    rw [← Option.some.inj h]
    exact hc
  | n + 1, i, c, P, hc, h => by
    unfold pgD at h
    split at h
    · rw [← Option.some.inj h]
      exact hc
    · split at h
      · exact pgD_99 hc h
      · split at h
        · cases h
        · cases h1 : pgD room F Ls A sp n (pgE room F Ls A sp i + 1) (c + 1) with
          | none =>
            simp only [h1] at h
            cases h
          | some P1 =>
            simp only [h1] at h
            have ih := pgD_99 (by omega) h1
            rw [← Option.some.inj h]
            show c + (P1.length + 1) ≤ 99
            omega
end
section
variable {M : List Int}
/-- work left to the next round -/
def wkN (d : RD9) : Int × Int := (d.1.1.1.1, d.1.1.1.2.1)
theorem wkN_b {d : RD9} {i : Nat} (h : RDI d i) : (0 ≤ (wkN d).1 ∧ (wkN d).1 ≤ 60000) ∧ (0 ≤ (wkN d).2 ∧ (wkN d).2 ≤ 400000) := ⟨h.1.1.1.1, h.1.1.1.2.1⟩
theorem seD_i (hMb : smB M) (hM4 : M.length ≤ 4000) : ∀ {n : Nat} {r : Int} {B : BF9} {w : Int × Int}, BfI B → (0 ≤ w.1 ∧ w.1 ≤ 60000) → (0 ≤ w.2 ∧ w.2 ≤ 400000) → (∀ s, seD M n r B w = .inl s → RDI s.1 (mlL M).length ∧ WtI s.1.1 ∧ pgR9 s.1 = some s.2.1 ∧ s.2.1.length ≤ 99 ∧ (r ≤ s.2.2.1 ∧ s.2.2.1 < r + n)) ∧ ∀ x, seD M n r B w = .inr x → RuI x.2.1 ∧ (0 ≤ x.1 ∧ x.1 ≤ 4000) ∧ VE9 x.2.2
  | 0, r, B, w, hB, h1, h2 => ⟨fun s h => (by cases h), fun x h => by
    rw [← Sum.inr.inj h]
    have r0 := (rd0_i (w := w) h1 h2).2.1
    exact ⟨r0, ⟨(by decide : (0 : Int) ≤ 0), (by decide : (0 : Int) ≤ 4000)⟩, ⟨(by decide : (1 : Int) ≤ 8), (by decide : (8 : Int) ≤ 11), h2.2⟩⟩⟩
  | n + 1, r, B, w, hB, h1, h2 => by
    cases h : roD B M w with
    | inr y =>
      rw [seD_f h]
      refine ⟨fun s h => (by cases h), fun x hx => ?_⟩
      rw [← Sum.inr.inj hx]
      exact roD_e hB hMb hM4 h1 h2 h
    | inl y =>
      obtain ⟨-, q2, q3, q4, -⟩ := roD_i hB hMb hM4 h1 h2 h
      have p99 : y.2.2.length ≤ 99 := by
        have := pgD_99 (c := 0) (by decide) q2
        omega
      rw [seD_y h]
      split
      · refine ⟨fun s hs => ?_, fun x hx => by cases hx⟩
        rw [← Sum.inl.inj hs]
        exact ⟨q3, q4, q2, p99, by show r ≤ r ∧ r < r + ((n + 1 : Nat) : Int); omega⟩
      · split
        · refine ⟨fun s hs => ?_, fun x hx => by cases hx⟩
          rw [← Sum.inl.inj hs]
          exact ⟨q3, q4, q2, p99, by show r ≤ r ∧ r < r + ((n + 1 : Nat) : Int); omega⟩
        · have wb := wkN_b q3
          have ih := seD_i hMb hM4 (n := n) (r := r + 1) (B := neB9 y.1 y.2.2) (w := (y.1.1.1.1.1, y.1.1.1.1.2.1)) (neB9_i q3 p99) wb.1 wb.2
          refine ⟨fun s hs => ?_, ih.2⟩
          obtain ⟨i1, i2, i3, i4, i5⟩ := ih.1 s hs
          exact ⟨i1, i2, i3, i4, by omega⟩
end
/-- fields of both marks are bounded -/
def FdB (σ : MS) : Prop := ∀ y, y = 49 ∨ y = 163 → 0 ≤ mV σ y 14 ∧ mV σ y 14 ≤ 999
section
variable {Q : MQ9} {M : List Int} {a : Nat}
/-- all rounds, the class -/
theorem cse_25 (ha : 1 ≤ a) (hMb : smB M) (hM4 : M.length ≤ 4000) : ∀ (n r z z' : Nat) (B : BF9) (w : Int × Int) (σ : MS), n + r = 5 → 1 ≤ r → (z = 49 ∨ z = 163) → (z' = 49 ∨ z' = 163) → z ≠ z' → BfI B → (0 ≤ w.1 ∧ w.1 ≤ 60000) → (0 ≤ w.2 ∧ w.2 ≤ 400000) → PrC9 σ M B z z' w → mV σ 127 18 = 0 → FdB σ → (∀ s c' z1 σ', seD M (n + 1) (r : Int) B w = .inl s → (z1 = 49 ∨ z1 = 163) → mB σ' 1 = 212 - z1 → ShC σ' z1 c' s.1 s.2.1 → mV σ' 127 17 = s.2.2.1 → mV σ' 127 18 = bZ s.2.2.2 → (mV σ' 22 0 = s.1.1.1.1.1 ∧ mV σ' 22 1 = s.1.1.1.1.2.1) → FdB σ' → FrS8 σ σ' → T_set_77 a 0 σ' Q) → (∀ x c' z1 σ', seD M (n + 1) (r : Int) B w = .inr x → (z1 = 49 ∨ z1 = 163) → TxF σ' x.2.2 → RuC σ' x.2.1 c' → c' ≤ 4001 → mV σ' 127 16 = x.1 → (mB σ' 0 = z1 ∧ mB σ' 1 = 212 - z1) → FdB σ' → FrS8 σ σ' → T_set_58 (a - 1) σ' Q) → T_set_25 a 0 (r : Int) σ Q := by
  intro n
  induction n with
  | zero =>
    intro r z z' B w σ hr hr1 hz hz' hne hB h1 h2 hP h18 hF hy hn
    refine T_set_25.i ⟨by unfold Rg; omega, fun h => absurd h (by omega), fun _ => ⟨fun h => absurd h18 h, fun _ => ?_⟩⟩
    refine cro_1 hz hz' hne hM4 hMb hB (by unfold Rg; omega) h1 h2 hP (fun x c' σ1 e1 p99 sh pr e17 e18 f1 g1 => ?_) (fun x c' σ1 e1 t1 r1 hc e16 b0 f1 g1 => ?_)
    · have hI := (roD_i hB hMb hM4 h1 h2 e1).2.2.1
      have b11 : (1 : Int) ≤ x.1.2.2.1.1.getD 11 0 ∧ x.1.2.2.1.1.getD 11 0 ≤ 999 := hI.2.1.1.2 11 (by decide)
      have hF1 : FdB σ1 := fun y h => by
        by_cases c : y = z
        · rw [c, sh.2.2.2.2.2.1.2.2.1]
          omega
        · rw [g1 y h c]
          exact hF y h
      have e9 : seD M (0 + 1) (r : Int) B w = .inl (x.1, x.2.2, (r : Int), lkB (neB9 x.1 x.2.2) B) := by
        rw [seD_y e1]
        cases hk : lkB (neB9 x.1 x.2.2) B
        · rfl
        · rfl
      show T_set_25 a 0 ((r : Int) + 1) σ1 Q
      refine T_set_25.i ⟨by unfold Rg; omega, fun _ => hy (x.1, x.2.2, (r : Int), lkB (neB9 x.1 x.2.2) B) c' z σ1 e9 hz (by rw [pr.2.1.2]; omega) sh e17 e18 pr.2.2.1 hF1 f1, fun h => absurd h (by omega)⟩
    · have key := hn x c' z σ1 (seD_f e1) hz t1 r1 hc e16 ⟨b0.1, by rw [b0.2]; omega⟩ (fun y h => by rw [g1 y h]; exact hF y h) f1
      exact ⟨rfl, ha, wp_sub (lo2 := [(0, vr 0)]) (by simp) (by decide) key⟩
  | succ n ih =>
    intro r z z' B w σ hr hr1 hz hz' hne hB h1 h2 hP h18 hF hy hn
    refine T_set_25.i ⟨by unfold Rg; omega, fun h => absurd h (by omega), fun _ => ⟨fun h => absurd h18 h, fun _ => ?_⟩⟩
    refine cro_1 hz hz' hne hM4 hMb hB (by unfold Rg; omega) h1 h2 hP (fun x c' σ1 e1 p99 sh pr e17 e18 f1 g1 => ?_) (fun x c' σ1 e1 t1 r1 hc e16 b0 f1 g1 => ?_)
    · have hI := (roD_i hB hMb hM4 h1 h2 e1).2.2.1
      have b11 : (1 : Int) ≤ x.1.2.2.1.1.getD 11 0 ∧ x.1.2.2.1.1.getD 11 0 ≤ 999 := hI.2.1.1.2 11 (by decide)
      have hF1 : FdB σ1 := fun y h => by
        by_cases c : y = z
        · rw [c, sh.2.2.2.2.2.1.2.2.1]
          omega
        · rw [g1 y h c]
          exact hF y h
      have wb := wkN_b hI
      show T_set_25 a 0 ((r : Int) + 1) σ1 Q
      cases hk : lkB (neB9 x.1 x.2.2) B with
      | true =>
        have e9 : seD M (n + 1 + 1) (r : Int) B w = .inl (x.1, x.2.2, (r : Int), true) := by
          rw [seD_y e1, if_pos hk]
        rw [hk] at e18
        have key := hy (x.1, x.2.2, (r : Int), true) c' z σ1 e9 hz (by rw [pr.2.1.2]; omega) sh e17 e18 pr.2.2.1 hF1 f1
        refine T_set_25.i ⟨by unfold Rg; omega, fun _ => key, fun _ => ⟨fun _ => key, fun h => ?_⟩⟩
        rw [e18] at h
        exact absurd h (by decide)
      | false =>
        have e9 : seD M (n + 1 + 1) (r : Int) B w = seD M (n + 1) (((r + 1 : Nat) : Int)) (neB9 x.1 x.2.2) (x.1.1.1.1.1, x.1.1.1.1.2.1) := by
          rw [seD_y e1, if_neg (by rw [hk]; decide), if_neg (by omega), show ((r + 1 : Nat) : Int) = (r : Int) + 1 by omega]
        rw [hk] at e18
        rw [e9] at hy hn
        rw [show (r : Int) + 1 = ((r + 1 : Nat) : Int) by omega]
        exact ih (r + 1) z' z (neB9 x.1 x.2.2) (x.1.1.1.1.1, x.1.1.1.1.2.1) σ1 (by omega) (by omega) hz' hz (fun e => hne e.symm) (neB9_i hI p99) wb.1 wb.2 pr e18 hF1 (fun s c' z1 σ' q1 q2 q3 q4 q5 q6 q7 q8 q9 => hy s c' z1 σ' q1 q2 q3 q4 q5 q6 q7 q8 (f1.tr q9)) (fun x c' z1 σ' q1 q2 q3 q4 q5 q6 q7 q8 q9 => hn x c' z1 σ' q1 q2 q3 q4 q5 q6 q7 q8 (f1.tr q9))
    · have key := hn x c' z σ1 (seD_f e1) hz t1 r1 hc e16 ⟨b0.1, by rw [b0.2]; omega⟩ (fun y h => by rw [g1 y h]; exact hF y h) f1
      exact ⟨rfl, ha, wp_sub (lo2 := [(0, vr 0)]) (by simp) (by decide) key⟩
/-- all rounds, the reference -/
theorem rse_96 (hMb : smB M) : ∀ (n r nw : Nat) (B : BF9) (w : Int × Int) (σ : MS), n + r = 5 → 1 ≤ r → nw ≤ 1 → BfI B → (0 ≤ w.1 ∧ w.1 ≤ 60000) → (0 ≤ w.2 ∧ w.2 ≤ 400000) → SeR σ M B nw w r → mV σ 246 127 = 0 → (∀ s nw' σ', seD M (n + 1) (r : Int) B w = .inl s → nw' ≤ 1 → ((plR9 s.1 s.2.1).length ≤ 6000 ∧ suM ((plR9 s.1 s.2.1).map (·.1)) ≤ 70000) → EnR σ' nw' s.1 s.2.1 → mV σ' 246 126 = s.2.2.1 → mV σ' 246 127 = bZ s.2.2.2 → mV σ' 328 0 = 0 → FrE9 σ σ' → R_set_353 σ' Q) → (∀ x (nw' : Nat) σ', seD M (n + 1) (r : Int) B w = .inr x → nw' ≤ 1 → TxR σ' x.2.2 → UnB σ' → RuR σ' x.2.1 → mV σ' 246 29 = x.1 → mV σ' 246 59 = (nw' : Int) → mV σ' 328 0 = 0 → FrE9 σ σ' → R_set_353 σ' Q) → R_set_96 σ Q := by
  intro n
  induction n with
  | zero =>
    intro r nw B w σ hr hr1 hnw hB h1 h2 hS h127 hy hn
    have hM4 : M.length ≤ 4000 := hS.1.2.1
    refine rse_1 (r := r) (by omega) hMb hB h1 h2 hnw h127 hS (fun x σ1 e1 p99 pb en sc e126 e127 e328 f1 => ?_) (fun x σ1 e1 t1 u1 r1 e29 e59 e328 f1 => hn x nw σ1 (seD_f e1) hnw t1 u1 r1 e29 e59 e328 f1)
    have e9 : seD M (0 + 1) (r : Int) B w = .inl (x.1, x.2.2, (r : Int), lkB (neB9 x.1 x.2.2) B) := by
      rw [seD_y e1]
      cases hk : lkB (neB9 x.1 x.2.2) B
      · rfl
      · rfl
    have key := hy (x.1, x.2.2, (r : Int), lkB (neB9 x.1 x.2.2) B) nw σ1 e9 hnw pb en e126 e127 e328 f1
    refine R_set_96.i ⟨fun _ => key, fun _ => ⟨fun _ => key, fun _ => ⟨fun _ => key, fun h => ?_⟩⟩⟩
    rw [e126] at h
    omega
  | succ n ih =>
    intro r nw B w σ hr hr1 hnw hB h1 h2 hS h127 hy hn
    have hM4 : M.length ≤ 4000 := hS.1.2.1
    refine rse_1 (r := r) (by omega) hMb hB h1 h2 hnw h127 hS (fun x σ1 e1 p99 pb en sc e126 e127 e328 f1 => ?_) (fun x σ1 e1 t1 u1 r1 e29 e59 e328 f1 => hn x nw σ1 (seD_f e1) hnw t1 u1 r1 e29 e59 e328 f1)
    have hI := (roD_i hB hMb hM4 h1 h2 e1).2.2.1
    have wb := wkN_b hI
    cases hk : lkB (neB9 x.1 x.2.2) B with
    | true =>
      have e9 : seD M (n + 1 + 1) (r : Int) B w = .inl (x.1, x.2.2, (r : Int), true) := by
        rw [seD_y e1, if_pos hk]
      rw [hk] at e127
      have key := hy (x.1, x.2.2, (r : Int), true) nw σ1 e9 hnw pb en e126 e127 e328 f1
      refine R_set_96.i ⟨fun _ => key, fun _ => ⟨fun _ => key, fun h => ?_⟩⟩
      rw [e127] at h
      exact absurd h (by decide)
    | false =>
      have e9 : seD M (n + 1 + 1) (r : Int) B w = seD M (n + 1) (((r + 1 : Nat) : Int)) (neB9 x.1 x.2.2) (x.1.1.1.1.1, x.1.1.1.1.2.1) := by
        rw [seD_y e1, if_neg (by rw [hk]; decide), if_neg (by omega), show ((r + 1 : Nat) : Int) = (r : Int) + 1 by omega]
      rw [hk] at e127
      rw [e9] at hy hn
      obtain ⟨lb, be⟩ := LbR9.mk hnw en.2.2.1 en.2.2.2.2.2.1
      have hS' : SeR σ1 M (neB9 x.1 x.2.2) (1 - nw) (x.1.1.1.1.1, x.1.1.1.1.2.1) (r + 1) := ⟨sc, by rw [en.2.2.2.2.2.2.1, show 1 - (1 - nw) = nw by omega], en.2.2.2.2.2.2.2, lb, be, by rw [e126]; omega, e328⟩
      exact ih (r + 1) (1 - nw) (neB9 x.1 x.2.2) (x.1.1.1.1.1, x.1.1.1.1.2.1) σ1 (by omega) (by omega) (by omega) (neB9_i hI p99) wb.1 wb.2 hS' e127 (fun s nw' σ' q1 q2 q3 q4 q5 q6 q7 q8 => hy s nw' σ' q1 q2 q3 q4 q5 q6 q7 (f1.tr q8)) (fun x nw' σ' q1 q2 q3 q4 q5 q6 q7 q8 q9 => hn x nw' σ' q1 q2 q3 q4 q5 q6 q7 q8 (f1.tr q9))
end
