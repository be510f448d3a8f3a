/-! COUNT -/
section
variable {σ : MS} {Q : MQ9} {l1 : Int}
theorem T_count.m (hl : Rg l1) (out : l1 < 0 ∨ 19 < l1 → Q (.inl (some (-1))) σ) (t0 : l1 = 0 → Q (.inl (some ((mX σ 1).length : Int))) σ) (t1 : l1 = 1 → Q (.inl (some ((mX σ 3).length : Int))) σ) (t2 : l1 = 2 → Q (.inl (some (lnR (mX σ 3)))) σ) (no : 3 ≤ l1 → l1 ≤ 12 → mV σ 212 0 = 0 → Q (.inl (some 0)) σ) (mid : 3 ≤ l1 → l1 ≤ 12 → ¬ mV σ 212 0 = 0 → Q (.inl (some (mV σ 228 l1.toNat))) σ) (t13 : l1 = 13 → Q (.inl (some (mV σ 0 14))) σ) (t14 : l1 = 14 → Q (.inl (some (mV σ 22 1))) σ) (t15 : l1 = 15 → Q (.inl (some (mV σ 0 5))) σ) (t16 : l1 = 16 → Q (.inl (some ((mX σ 28).length : Int))) σ) (t17 : l1 = 17 → Q (.inl (some ((mX σ 42).length : Int))) σ) (t18 : l1 = 18 → Q (.inl (some ((mX σ 47).length : Int))) σ) (t19 : l1 = 19 → Q (.inl (some ((mX σ 5).length : Int))) σ) : T_count l1 σ Q := by
  have t34 : ¬ (3 ≤ l1 ∧ l1 ≤ 12) → T_count_34 l1 σ Q := fun c => by
    refine T_count_34.i ⟨hl, out, t0, t1, fun h => T_lineCount.s (t2 h), fun h => absurd h (by omega), fun h => absurd h (by omega), fun h => absurd h (by omega), fun h => absurd h (by omega), fun h => absurd h (by omega), fun h => absurd h (by omega), fun h => absurd h (by omega), fun h => absurd h (by omega), fun h => absurd h (by omega), fun h => absurd h (by omega), t13, t14, t15, fun h => Shelf_rows.i (tB.i (by decide) (tB.i (by decide) (t16 h))), fun h => Shelf_rows.i (tB.i (by decide) (tB.i (by decide) (t17 h))), fun h => Shelf_rows.i (tB.i (by decide) (tB.i (by decide) (t18 h))), t19, trivial⟩
  refine T_count.i ⟨hl, fun h => t34 (by omega), fun h => ⟨hl, fun h9 => t34 (by omega), fun h9 => ⟨fun h0 => no h h9 h0, fun h0 => Proof_tally.i ⟨hl, fun hx => absurd hx (by omega), fun _ => tB.i (by decide) (tB.i (by decide) ⟨hl, fun hx => absurd hx (by omega), fun _ => tB.i (by decide) (tB.i (by decide) ⟨by omega, by omega, mid h h9 h0⟩)⟩)⟩⟩⟩⟩
theorem R_count.m (hl : Rg l1) (out : l1 < 0 ∨ 19 < l1 → Q (.inl (some (-1))) (wV σ 246 0 0)) (f0 : l1 = 0 → Q (.inl (some (mV σ 246 6))) (wV σ 246 0 0)) (f1 : l1 = 1 → Q (.inl (some (mV σ 246 7))) (wV σ 246 0 0)) (f2 : l1 = 2 → R_linesOf (wV σ 246 0 0) (kI (thQ Q) fun r2 σ2 => Q (.inl (some r2)) σ2)) (no : 3 ≤ l1 → l1 ≤ 12 → mV σ 246 114 = 0 → Q (.inl (some 0)) (wV σ 246 0 0)) (h59 : 0 ≤ mV σ 246 59 ∧ mV σ 246 59 < 2) (f3 : l1 = 3 → ¬ mV σ 246 114 = 0 → Q (.inl (some (mV σ 246 123))) (wV σ 246 0 0)) (f4 : l1 = 4 → ¬ mV σ 246 114 = 0 → Q (.inl (some (mV σ 246 128))) (wV σ 246 0 0)) (f5 : l1 = 5 → ¬ mV σ 246 114 = 0 → Q (.inl (some (mV σ 292 (mV σ 246 59).toNat))) (wV σ 246 0 0)) (f6 : l1 = 6 → ¬ mV σ 246 114 = 0 → R_keyBehind (mV σ 246 59) (-1) (wV σ 246 0 0) (kI (thQ Q) fun r σ1 => R_count_258 0 r σ1 Q)) (f7 : l1 = 7 → ¬ mV σ 246 114 = 0 → Q (.inl (some (mV σ 285 (mV σ 246 59).toNat))) (wV σ 246 0 0)) (f8 : l1 = 8 → ¬ mV σ 246 114 = 0 → R_count_292 0 0 (wV σ 246 0 0) Q) (f9 : l1 = 9 → ¬ mV σ 246 114 = 0 → Q (.inl (some (mV σ 246 126))) (wV σ 246 0 0)) (f10 : l1 = 10 → ¬ mV σ 246 114 = 0 → Q (.inl (some (mV σ 246 127))) (wV σ 246 0 0)) (f11 : l1 = 11 → ¬ mV σ 246 114 = 0 → Q (.inl (some (mV σ 246 129))) (wV σ 246 0 0)) (f12 : l1 = 12 → ¬ mV σ 246 114 = 0 → Q (.inl (some (mV σ 246 124))) (wV σ 246 0 0)) (f13 : l1 = 13 → Q (.inl (some (mV σ 246 34))) (wV σ 246 0 0)) (f14 : l1 = 14 → Q (.inl (some (mV σ 246 33))) (wV σ 246 0 0)) (f15 : l1 = 15 → Q (.inl (some (mV σ 246 8))) (wV σ 246 0 0)) (f16 : l1 = 16 → Q (.inl (some (mV σ 246 46))) (wV σ 246 0 0)) (f17 : l1 = 17 → Q (.inl (some (mV σ 246 47))) (wV σ 246 0 0)) (f18 : l1 = 18 → Q (.inl (some (mV σ 246 48))) (wV σ 246 0 0)) (f19 : l1 = 19 → Q (.inl (some (mV σ 246 141))) (wV σ 246 0 0)) : R_count l1 σ Q := by
  refine R_count.i ⟨hl, ?_, f0, f1, f2, ?_, ?_, ?_, ?_, ?_, ?_, ?_, ?_, ?_, ?_, f13, f14, f15, f16, f17, f18, f19, trivial⟩ <;> intro h <;> exact ⟨hl, fun h1 => out (Or.inl h1), fun h1 => ⟨hl, fun h2 => ⟨fun h3 => ⟨hl, fun h4 => f12 (by omega) h3, fun h4 => f3 h4 h3, fun h4 => f4 h4 h3, fun h4 => ⟨h59.1, h59.2, f5 h4 h3⟩, fun h4 => f6 h4 h3, fun h4 => ⟨h59.1, h59.2, f7 h4 h3⟩, fun h4 => f8 h4 h3, fun h4 => f9 h4 h3, fun h4 => f10 h4 h3, fun h4 => f11 h4 h3, trivial⟩, fun h3 => no (by omega) (by omega) h3⟩, fun h2 => out (Or.inr h2)⟩⟩
/-- keys are counted -/
theorem rct_258 {nw : Nat} {K : List (List Int)} (hn : nw ≤ 1) (h59 : mV σ 246 59 = (nw : Int)) (hK : KyR σ nw K) (hs : suM K ≤ 65536) (hb : ∀ w ∈ K, smB w) (hKl : K.length ≤ 100) (hq : Q (.inl (some ((orD K K.length).length : Int))) σ) : ∀ (n i : Nat), i + n = (orD K K.length).length → R_count_258 (i : Int) (kbZ nw (if i < (orD K K.length).length then ((orD K K.length).getD i 0 : Int) else -1)) σ Q := by
  have os := orD_s (K := K) K.length
  have ol := orD_l (K := K) K.length
  intro n
  induction n with
  | zero =>
    intro i hi
    rw [if_neg (by omega)]
    have ei : i = (orD K K.length).length := by omega
    rw [ei]
    refine R_count_258.i ⟨fun _ => ⟨by unfold Rg; omega, hq⟩, fun h => ?_⟩
    unfold kbZ at h
    rw [if_pos (by decide)] at h
    exact absurd h (by decide)
  | succ n ih =>
    intro i hi
    have hil : i < (orD K K.length).length := by omega
    rw [if_pos hil]
    have hO : (orD K K.length).getD i 0 < K.length := (os.2.1 _ (by
      rw [List.getD_eq_getElem?_getD, List.getElem?_eq_getElem hil]
      exact List.getElem_mem hil)).1
    refine R_count_258.i ⟨fun h => ?_, fun h => ?_⟩
    · unfold kbZ at h
      rw [if_neg (by omega)] at h
      omega
    · rw [h59]
      refine R_keyBehind.p hn hK hs hb hKl (Or.inr ⟨by omega, by omega⟩) ?_
      show R_count_258 ((i : Int) + 1) (kbZ nw (kbN K ((orD K K.length).getD i 0 : Int) K.length)) σ Q
      rw [kbN_o os (i := i + 1) (by omega) (Or.inr ⟨by omega, by rw [show i + 1 - 1 = i by omega]⟩), show (i : Int) + 1 = ((i + 1 : Nat) : Int) by omega]
      exact ih (i + 1) (by omega)
/-- hyphens that were put -/
theorem rct_292 {L : List GL9} (h124 : mV σ 246 124 = (L.length : Int)) (hl : L.length ≤ 6100) (h327 : ∀ l, l < L.length → mV σ 327 l = bZ (decide (2 ≤ (L.getD l ([], 0, 0)).2.2))) (hq : Q (.inl (some (puN L))) σ) : ∀ (M A : List GL9), A ++ M = L → R_count_292 (puN A) (A.length : Int) σ Q := by
  intro M
  induction M with
  | nil =>
    intro A hA
    rw [List.append_nil] at hA
    rw [hA]
    have pb := puN_b (L := L)
    exact R_count_292.i ⟨by unfold Rg; omega, fun _ => ⟨by unfold Rg; omega, hq⟩, fun h => by rw [h124] at h; omega⟩
  | cons x M ih =>
    intro A hA
    have lA : A.length < L.length := by
      rw [← hA, List.length_append]
      show A.length < A.length + (M.length + 1)
      omega
    have ex : L.getD A.length ([], 0, 0) = x := by
      rw [← hA]
      unfold List.getD
      rw [List.getElem?_append_right (Nat.le_refl _), Nat.sub_self]
      rfl
    have e7 := h327 A.length lA
    rw [ex] at e7
    have key := ih (A ++ [x]) (by rw [List.append_assoc]; exact hA)
    rw [puN_a, List.length_append] at key
    have key : R_count_292 (puN A + (bZ (decide (2 ≤ x.2.2)) + 0)) ((A.length + 1 : Nat) : Int) σ Q := key
    rw [Int.add_zero] at key
    have nx : ∀ b : Int, b = bZ (decide (2 ≤ x.2.2)) → R_count_315 (A.length : Int) (puN A) b σ Q := fun b hb => by
      refine R_count_315.i ?_
      rw [hb, show (A.length : Int) + 1 = ((A.length + 1 : Nat) : Int) by omega]
      exact key
    refine R_count_292.i ⟨by unfold Rg; omega, fun h => by rw [h124] at h; omega, fun _ => ⟨by omega, by omega, ?_⟩⟩
    rw [Int.toNat_natCast, e7]
    refine ⟨fun h => nx 0 h.symm, fun h => nx 1 ?_⟩
    rcases bZ_01 (b := decide (2 ≤ x.2.2)) with e | e
    · exact absurd e h
    · exact e.symm
/-- both answer, and alike -/
def CvR9 (σ : MS) (l1 : Int) : Prop := ∃ v : Int, (∀ Q : MQ9, Q (.inl (some v)) σ → T_count l1 σ Q) ∧ (∀ Q : MQ9, Q (.inl (some v)) (wV σ 246 0 0) → R_count l1 σ Q)
/-- count, class and reference -/
theorem count_b (hl : Rg l1) (h : Inv9 σ) : CvR9 σ l1 := by
  obtain ⟨E, z, nw, ⟨⟨a1, -, -, -⟩, ⟨b1, b2, b3, b4⟩, ⟨t, c, ⟨-, -, -, c4, c5, -⟩⟩, e1, -, -⟩, ⟨⟨-, -, -, -, ku, -, -, -⟩, ⟨hn, h59, ma, -⟩⟩, -, hA, hP, -, ⟨PP, XX, ll, rr, -, ⟨⟨-, hc1⟩, ⟨-, hc2⟩, -, -⟩, ⟨⟨r1, -⟩, ⟨r2, -⟩, -, -⟩⟩, hC, ⟨-, e14⟩⟩ := h
  have h59b : 0 ≤ mV σ 246 59 ∧ mV σ 246 59 < 2 := by omega
  have pr : (mV σ 212 0 = 0 ∧ mV σ 246 114 = 0) ∨ (mV σ 212 0 = 1 ∧ mV σ 246 114 = 1) := by
    rcases hP with h | h
    · exact Or.inl h
    · exact Or.inr ⟨h.1, h.2.1⟩
  have d1 : ((mX σ 1).length : Int) = mV σ 246 6 := a1.symm
  have d3 : ((mX σ 3).length : Int) = mV σ 246 7 := b1.symm
  have d5 : ((mX σ 5).length : Int) = mV σ 246 141 := hA.1.symm
  have d28 : ((mX σ 28).length : Int) = mV σ 246 46 := by
    rw [show mX σ 28 = enS 0 E.1.1 from ku.1.2, enS_len]
    exact ma.1.1.symm
  have d42 : ((mX σ 42).length : Int) = mV σ 246 47 := by
    rw [show mX σ 42 = enS 0 PP from hc1, enS_len]
    exact r1.symm
  have d47 : ((mX σ 47).length : Int) = mV σ 246 48 := by
    rw [show mX σ 47 = enS 0 XX from hc2, enS_len]
    exact r2.symm
  have ev : ∀ v : Int, (∀ Q : MQ9, Q (.inl (some v)) σ → T_count l1 σ Q) → (∀ Q : MQ9, Q (.inl (some v)) (wV σ 246 0 0) → R_count l1 σ Q) → CvR9 σ l1 := fun v h1 h2 => ⟨v, h1, h2⟩
  have w0 : ∀ {y k : Nat}, y ≠ 246 ∨ k ≠ 0 → mV (wV σ 246 0 0) y k = mV σ y k := fun h => wV_ne h
  by_cases mid : 3 ≤ l1 ∧ l1 ≤ 12
  · rcases pr with ⟨p1, p2⟩ | ⟨p1, p2⟩
    · refine ev 0 (fun Q hq => T_count.m hl (fun h => absurd h (by omega)) (fun h => absurd h (by omega)) (fun h => absurd h (by omega)) (fun h => absurd h (by omega)) (fun _ _ _ => hq) (fun _ _ h => absurd p1 h) (fun h => absurd h (by omega)) (fun h => absurd h (by omega)) (fun h => absurd h (by omega)) (fun h => absurd h (by omega)) (fun h => absurd h (by omega)) (fun h => absurd h (by omega)) (fun h => absurd h (by omega))) (fun Q hq => R_count.m hl (fun h => absurd h (by omega)) (fun h => absurd h (by omega)) (fun h => absurd h (by omega)) (fun h => absurd h (by omega)) (fun _ _ _ => hq) h59b (fun _ h => absurd p2 h) (fun _ h => absurd p2 h) (fun _ h => absurd p2 h) (fun _ h => absurd p2 h) (fun _ h => absurd p2 h) (fun _ h => absurd p2 h) (fun _ h => absurd p2 h) (fun _ h => absurd p2 h) (fun _ h => absurd p2 h) (fun _ h => absurd p2 h) (fun h => absurd h (by omega)) (fun h => absurd h (by omega)) (fun h => absurd h (by omega)) (fun h => absurd h (by omega)) (fun h => absurd h (by omega)) (fun h => absurd h (by omega)) (fun h => absurd h (by omega)))
    · obtain ⟨⟨n3, n4, n5, n7⟩, ⟨K, k1, k2, k3, k4, n6⟩, ⟨L, l1', l2, n8, l4⟩, n9, n10, n11, n12⟩ := hC p1
      have e59 : (mV σ 246 59).toNat = nw := by omega
      have one : ∀ {p : Prop}, mV σ 246 114 = 0 → p := fun h => by
        rw [p2] at h
        exact absurd h (by decide)
      have zer : ∀ {p : Prop}, mV σ 212 0 = 0 → p := fun h => by
        rw [p1] at h
        exact absurd h (by decide)
      have k0 : KyR (wV σ 246 0 0) nw K := ⟨(w0 (Or.inl (by decide))).trans k1.1, fun i hi => by
        obtain ⟨x1, x2, x3⟩ := k1.2 i hi
        exact ⟨(w0 (Or.inl (by decide))).trans x1, (w0 (Or.inl (by decide))).trans x2, fun t ht => (w0 (Or.inl (by decide))).trans (x3 t ht)⟩⟩
      refine ev (mV σ 228 l1.toNat) (fun Q hq => T_count.m hl (fun h => absurd h (by omega)) (fun h => absurd h (by omega)) (fun h => absurd h (by omega)) (fun h => absurd h (by omega)) (fun _ _ h => zer h) (fun _ _ _ => hq) (fun h => absurd h (by omega)) (fun h => absurd h (by omega)) (fun h => absurd h (by omega)) (fun h => absurd h (by omega)) (fun h => absurd h (by omega)) (fun h => absurd h (by omega)) (fun h => absurd h (by omega))) (fun Q hq => R_count.m hl (fun h => absurd h (by omega)) (fun h => absurd h (by omega)) (fun h => absurd h (by omega)) (fun h => absurd h (by omega)) (fun _ _ h => one h) h59b (fun h _ => ?_) (fun h _ => ?_) (fun h _ => ?_) (fun h _ => ?_) (fun h _ => ?_) (fun h _ => ?_) (fun h _ => ?_) (fun h _ => ?_) (fun h _ => ?_) (fun h _ => ?_) (fun h => absurd h (by omega)) (fun h => absurd h (by omega)) (fun h => absurd h (by omega)) (fun h => absurd h (by omega)) (fun h => absurd h (by omega)) (fun h => absurd h (by omega)) (fun h => absurd h (by omega)))
      · rw [h, show (3 : Int).toNat = 3 from rfl, n3] at hq
        exact hq
      · rw [h, show (4 : Int).toNat = 4 from rfl, n4] at hq
        exact hq
      · rw [h, show (5 : Int).toNat = 5 from rfl, n5] at hq
        rw [e59]
        exact hq
      · rw [h, show (6 : Int).toNat = 6 from rfl, n6] at hq
        rw [h59]
        have e0 : (-1 : Int) = kbZ nw (-1) := by
          unfold kbZ
          rw [if_pos (by decide)]
        rw [e0]
        refine R_keyBehind.p hn k0 (by omega) k4 k2 (Or.inl rfl) ?_
        show R_count_258 0 (kbZ nw (kbN K (-1) K.length)) (wV σ 246 0 0) Q
        rw [kbN_o (orD_s (K := K) K.length) (i := 0) (Nat.zero_le _) (Or.inl ⟨rfl, rfl⟩)]
        exact rct_258 hn ((w0 (Or.inr (by decide))).trans h59) k0 (by omega) k4 k2 hq _ 0 (Nat.zero_add _)
      · rw [h, show (7 : Int).toNat = 7 from rfl, n7] at hq
        rw [e59]
        exact hq
      · rw [h, show (8 : Int).toNat = 8 from rfl, n8] at hq
        exact rct_292 ((w0 (Or.inr (by decide))).trans l1') l2 (fun l hl9 => (w0 (Or.inl (by decide))).trans (l4 l hl9)) hq L [] rfl
      · rw [h, show (9 : Int).toNat = 9 from rfl, n9] at hq
        exact hq
      · rw [h, show (10 : Int).toNat = 10 from rfl, n10] at hq
        exact hq
      · rw [h, show (11 : Int).toNat = 11 from rfl, n11] at hq
        exact hq
      · rw [h, show (12 : Int).toNat = 12 from rfl, n12] at hq
        exact hq
  · -- numbers beside the proof
    have tm : ∀ v : Int, (l1 < 0 ∨ 19 < l1 → v = -1) → (l1 = 0 → v = mV σ 246 6) → (l1 = 1 → v = mV σ 246 7) → (l1 = 2 → v = lnR (mX σ 3)) → (l1 = 13 → v = mV σ 246 34) → (l1 = 14 → v = mV σ 246 33) → (l1 = 15 → v = mV σ 246 8) → (l1 = 16 → v = mV σ 246 46) → (l1 = 17 → v = mV σ 246 47) → (l1 = 18 → v = mV σ 246 48) → (l1 = 19 → v = mV σ 246 141) → CvR9 σ l1 := fun v g g0 g1 g2 g13 g14 g15 g16 g17 g18 g19 => by
      refine ev v (fun Q hq => T_count.m hl (fun h => ?_) (fun h => ?_) (fun h => ?_) (fun h => ?_) (fun x y => absurd ⟨x, y⟩ mid) (fun x y => absurd ⟨x, y⟩ mid) (fun h => ?_) (fun h => ?_) (fun h => ?_) (fun h => ?_) (fun h => ?_) (fun h => ?_) (fun h => ?_)) (fun Q hq => R_count.m hl (fun h => ?_) (fun h => ?_) (fun h => ?_) (fun h => ?_) (fun x y => absurd ⟨x, y⟩ mid) h59b (fun h => absurd h (by omega)) (fun h => absurd h (by omega)) (fun h => absurd h (by omega)) (fun h => absurd h (by omega)) (fun h => absurd h (by omega)) (fun h => absurd h (by omega)) (fun h => absurd h (by omega)) (fun h => absurd h (by omega)) (fun h => absurd h (by omega)) (fun h => absurd h (by omega)) (fun h => ?_) (fun h => ?_) (fun h => ?_) (fun h => ?_) (fun h => ?_) (fun h => ?_) (fun h => ?_))
      · rw [g h] at hq
        exact hq
      · rw [g0 h, ← d1] at hq
        exact hq
      · rw [g1 h, ← d3] at hq
        exact hq
      · rw [g2 h] at hq
        exact hq
      · rw [g13 h, ← e14] at hq
        exact hq
      · rw [g14 h, ← e1] at hq
        exact hq
      · rw [g15 h, c5, ← c4] at hq
        exact hq
      · rw [g16 h, ← d28] at hq
        exact hq
      · rw [g17 h, ← d42] at hq
        exact hq
      · rw [g18 h, ← d47] at hq
        exact hq
      · rw [g19 h, ← d5] at hq
        exact hq
      · rw [g h] at hq
        exact hq
      · rw [g0 h] at hq
        exact hq
      · rw [g1 h] at hq
        exact hq
      · refine R_linesOf.s (L := mX σ 3) ((w0 (Or.inr (by decide))).trans b1) (fun i hi => (w0 (Or.inl (by decide))).trans (b2 i hi)) b3 ?_
        rw [g2 h] at hq
        exact hq
      · rw [g13 h] at hq
        exact hq
      · rw [g14 h] at hq
        exact hq
      · rw [g15 h] at hq
        exact hq
      · rw [g16 h] at hq
        exact hq
      · rw [g17 h] at hq
        exact hq
      · rw [g18 h] at hq
        exact hq
      · rw [g19 h] at hq
        exact hq
    by_cases c0 : l1 < 0 ∨ 19 < l1
    · exact tm (-1) (fun _ => rfl) (fun h => absurd h (by omega)) (fun h => absurd h (by omega)) (fun h => absurd h (by omega)) (fun h => absurd h (by omega)) (fun h => absurd h (by omega)) (fun h => absurd h (by omega)) (fun h => absurd h (by omega)) (fun h => absurd h (by omega)) (fun h => absurd h (by omega)) (fun h => absurd h (by omega))
    · have : l1 = 0 ∨ l1 = 1 ∨ l1 = 2 ∨ l1 = 13 ∨ l1 = 14 ∨ l1 = 15 ∨ l1 = 16 ∨ l1 = 17 ∨ l1 = 18 ∨ l1 = 19 := by omega
      rcases this with h | h | h | h | h | h | h | h | h | h
      · exact tm (mV σ 246 6) (fun h => absurd h c0) (fun _ => rfl) (fun h => absurd h (by omega)) (fun h => absurd h (by omega)) (fun h => absurd h (by omega)) (fun h => absurd h (by omega)) (fun h => absurd h (by omega)) (fun h => absurd h (by omega)) (fun h => absurd h (by omega)) (fun h => absurd h (by omega)) (fun h => absurd h (by omega))
      · exact tm (mV σ 246 7) (fun h => absurd h c0) (fun h => absurd h (by omega)) (fun _ => rfl) (fun h => absurd h (by omega)) (fun h => absurd h (by omega)) (fun h => absurd h (by omega)) (fun h => absurd h (by omega)) (fun h => absurd h (by omega)) (fun h => absurd h (by omega)) (fun h => absurd h (by omega)) (fun h => absurd h (by omega))
      · exact tm (lnR (mX σ 3)) (fun h => absurd h c0) (fun h => absurd h (by omega)) (fun h => absurd h (by omega)) (fun _ => rfl) (fun h => absurd h (by omega)) (fun h => absurd h (by omega)) (fun h => absurd h (by omega)) (fun h => absurd h (by omega)) (fun h => absurd h (by omega)) (fun h => absurd h (by omega)) (fun h => absurd h (by omega))
      · exact tm (mV σ 246 34) (fun h => absurd h c0) (fun h => absurd h (by omega)) (fun h => absurd h (by omega)) (fun h => absurd h (by omega)) (fun _ => rfl) (fun h => absurd h (by omega)) (fun h => absurd h (by omega)) (fun h => absurd h (by omega)) (fun h => absurd h (by omega)) (fun h => absurd h (by omega)) (fun h => absurd h (by omega))
      · exact tm (mV σ 246 33) (fun h => absurd h c0) (fun h => absurd h (by omega)) (fun h => absurd h (by omega)) (fun h => absurd h (by omega)) (fun h => absurd h (by omega)) (fun _ => rfl) (fun h => absurd h (by omega)) (fun h => absurd h (by omega)) (fun h => absurd h (by omega)) (fun h => absurd h (by omega)) (fun h => absurd h (by omega))
      · exact tm (mV σ 246 8) (fun h => absurd h c0) (fun h => absurd h (by omega)) (fun h => absurd h (by omega)) (fun h => absurd h (by omega)) (fun h => absurd h (by omega)) (fun h => absurd h (by omega)) (fun _ => rfl) (fun h => absurd h (by omega)) (fun h => absurd h (by omega)) (fun h => absurd h (by omega)) (fun h => absurd h (by omega))
      · exact tm (mV σ 246 46) (fun h => absurd h c0) (fun h => absurd h (by omega)) (fun h => absurd h (by omega)) (fun h => absurd h (by omega)) (fun h => absurd h (by omega)) (fun h => absurd h (by omega)) (fun h => absurd h (by omega)) (fun _ => rfl) (fun h => absurd h (by omega)) (fun h => absurd h (by omega)) (fun h => absurd h (by omega))
      · exact tm (mV σ 246 47) (fun h => absurd h c0) (fun h => absurd h (by omega)) (fun h => absurd h (by omega)) (fun h => absurd h (by omega)) (fun h => absurd h (by omega)) (fun h => absurd h (by omega)) (fun h => absurd h (by omega)) (fun h => absurd h (by omega)) (fun _ => rfl) (fun h => absurd h (by omega)) (fun h => absurd h (by omega))
      · exact tm (mV σ 246 48) (fun h => absurd h c0) (fun h => absurd h (by omega)) (fun h => absurd h (by omega)) (fun h => absurd h (by omega)) (fun h => absurd h (by omega)) (fun h => absurd h (by omega)) (fun h => absurd h (by omega)) (fun h => absurd h (by omega)) (fun h => absurd h (by omega)) (fun _ => rfl) (fun h => absurd h (by omega))
      · exact tm (mV σ 246 141) (fun h => absurd h c0) (fun h => absurd h (by omega)) (fun h => absurd h (by omega)) (fun h => absurd h (by omega)) (fun h => absurd h (by omega)) (fun h => absurd h (by omega)) (fun h => absurd h (by omega)) (fun h => absurd h (by omega)) (fun h => absurd h (by omega)) (fun h => absurd h (by omega)) (fun _ => rfl)
end
