/-! SET: from its beginning, the class -/
/-- nothing is told yet; the class keeps old fields -/
def bf0 (f s : Int) : BF9 := (([], [], [], f, s), ([], [], []), ([], []))
theorem h06 : (0 : Int) ≤ 0 ∧ (0 : Int) ≤ 60000 := by decide
theorem bf0_i {f s : Int} (h : 0 ≤ f ∧ f ≤ 999) : BfI (bf0 f s) := by
  have no : ∀ {α : Type} {p : α → Prop}, ∀ x ∈ ([] : List α), p x := fun x hx => absurd hx List.not_mem_nil
  exact ⟨⟨rfl, rfl, Nat.zero_le _, no, no, no, h, fun h9 => absurd h9 (Nat.lt_irrefl _)⟩, ⟨Nat.zero_le _, rfl, rfl, Nat.zero_le _, no, fun k hk => absurd hk (Nat.not_lt_zero _)⟩, ⟨Nat.zero_le _, rfl, Nat.zero_le _, no, trivial, no, fun i j _ hj => absurd hj (Nat.not_lt_zero _)⟩, fun h9 => by
    rcases h9 with h9 | h9
    · exact absurd h9 (Nat.lt_irrefl _)
    · exact absurd h9 (Nat.lt_irrefl _)⟩
/-- what forgetting a proof leaves -/
def FrFg (σ σ' : MS) : Prop := (∀ q, q ∉ [214, 216, 218, 220, 222] → mX σ' q = mX σ q) ∧ σ'.2.2 = σ.2.2 ∧ ∀ y k, y ≠ 228 → ¬ (y = 212 ∧ k = 0) → mV σ' y k = mV σ y k
section
variable {σ σ0 : MS} {Q : MQ9} {a z : Nat}
theorem pfg_35 (hq : ∀ σ', (∀ q, mX σ' q = mX σ0 q) → σ'.2.2 = σ0.2.2 → (∀ y k, y ≠ 228 → mV σ' y k = mV σ0 y k) → (∀ k, k < 13 → mV σ' 228 k = 0) → Q (.inl none) σ') : ∀ (n j : Nat) (σ : MS), j + n = 13 → (∀ q, mX σ q = mX σ0 q) → σ.2.2 = σ0.2.2 → (∀ y k, y ≠ 228 → mV σ y k = mV σ0 y k) → (∀ k, k < j → mV σ 228 k = 0) → Proof_forget_35 212 (j : Int) σ Q := by
  intro n
  induction n with
  | zero =>
    intro j σ hj h1 h2 h3 h4
    have ej : j = 13 := by omega
    rw [ej] at h4
    refine Proof_forget_35.i (tB.i (by decide) (tB.i (by decide) ⟨by unfold Rg; omega, fun _ => hq σ h1 h2 h3 h4, fun h => absurd h (by omega)⟩))
  | succ n ih =>
    intro j σ hj h1 h2 h3 h4
    refine Proof_forget_35.i (tB.i (by decide) (tB.i (by decide) ⟨by unfold Rg; omega, fun h => absurd h (by omega), fun _ => tB.i (by decide) (tB.i (by decide) ⟨by omega, by omega, ?_⟩)⟩))
    show Proof_forget_35 212 ((j : Int) + 1) (wV σ 228 (j : Int).toNat 0) Q
    rw [Int.toNat_natCast, show (j : Int) + 1 = ((j + 1 : Nat) : Int) by omega]
    refine ih (j + 1) _ (by omega) h1 h2 (fun y k hy => (wV_ne (Or.inl hy)).trans (h3 y k hy)) (fun k hk => ?_)
    by_cases e : k = j
    · rw [e]
      exact wV_self
    · rw [wV_ne (Or.inr e)]
      exact h4 k (by omega)
theorem Proof_forget.c (hq : ∀ σ', FrFg σ σ' → mV σ' 212 0 = 0 → (∀ q, q ∈ [214, 216, 218, 220, 222] → mX σ' q = []) → (∀ k, k < 13 → mV σ' 228 k = 0) → Q (.inl none) σ') : Proof_forget 212 σ Q := by
  refine Proof_forget.i (tB.i (by decide) (tB.i (by decide) (tB.i (by decide) (Shelf_clear.i (tB.i (by decide) (tB.i (by decide) (tB.i (by decide) (tB.i (by decide) (tB.i (by decide) (tB.i (by decide) (kV_i (tB.i (by decide) (tB.i (by decide) (tB.i (by decide) (tB.i (by decide) (tB.i (by decide) (tB.i (by decide) (tB.i (by decide) (tB.i (by decide) (tB.i (by decide) ?_))))))))))))))))))))
  show Proof_forget_35 212 ((0 : Nat) : Int) (wX (wX (wX (wX (wX (wV σ 212 0 0) 214 []) 216 []) 218 []) 220 []) 222 []) Q
  generalize hσ1 : wX (wX (wX (wX (wX (wV σ 212 0 0) 214 []) 216 []) 218 []) 220 []) 222 [] = σ1
  have n1 : ∀ q, q ∉ [214, 216, 218, 220, 222] → mX σ1 q = mX σ q := fun q hq9 => by
    simp only [List.mem_cons, List.not_mem_nil, or_false, not_or] at hq9
    rw [← hσ1]
    exact (wX_ne hq9.2.2.2.2).trans ((wX_ne hq9.2.2.2.1).trans ((wX_ne hq9.2.2.1).trans ((wX_ne hq9.2.1).trans (wX_ne hq9.1))))
  have z1 : ∀ q, q ∈ [214, 216, 218, 220, 222] → mX σ1 q = [] := fun q hq9 => by
    simp only [List.mem_cons, List.not_mem_nil, or_false] at hq9
    rw [← hσ1]
    rcases hq9 with rfl | rfl | rfl | rfl | rfl <;> rfl
  have v1 : ∀ y k, ¬ (y = 212 ∧ k = 0) → mV σ1 y k = mV σ y k := fun y k h => by
    rw [← hσ1]
    exact wV_ne (by omega)
  have v0 : mV σ1 212 0 = 0 := by
    rw [← hσ1]
    exact wV_self
  have b1 : σ1.2.2 = σ.2.2 := by
    rw [← hσ1]
    rfl
  refine pfg_35 (σ0 := σ1) (fun σ2 x2 b2 v2 t2 => hq σ2 ⟨fun q h => (x2 q).trans (n1 q h), b2.trans b1, fun y k h h' => (v2 y k h).trans (v1 y k h')⟩ ((v2 _ _ (by decide)).trans v0) (fun q h => (x2 q).trans (z1 q h)) t2) 13 0 σ1 (by decide) (fun _ => rfl) rfl (fun _ _ _ => rfl) (fun k hk => absurd hk (Nat.not_lt_zero _))
/-- what opening the setter leaves -/
def FrSo (z : Nat) (σ σ' : MS) : Prop := (∀ q, q ≠ 200 → q ≠ 202 → q ≠ 204 → q ∉ MCx z → q ∉ RcX → mX σ' q = mX σ q) ∧ σ'.2.2 = σ.2.2 ∧ ∀ y k, ¬ (y = z ∧ (k = 12 ∨ k = 13)) → y ≠ 24 → ¬ (y = 127 ∧ (k = 17 ∨ k = 18)) → mV σ' y k = mV σ y k
theorem Setter_open.c {M : List Int} (hz : z = 49 ∨ z = 163) (hM : mX σ 3 = M) (hM4 : M.length ≤ 4000) (hb : mB σ 0 = z) (hq : ∀ σ', FrSo z σ σ' → LnM σ' M (mlL M) → (∀ q, q ∈ MCx z → mX σ' q = []) → mV σ' 127 17 = 0 → mV σ' 127 18 = 0 → Q (.inl none) σ') : Setter_open σ Q := by
  have im : isMarks z = true := by rcases hz with rfl | rfl <;> decide
  refine Setter_open.i ?_
  have f0 : FrOp σ (wX (wX (wX σ 200 []) 202 []) 204 []) := ⟨fun q h1 h2 h3 => (wX_ne h3).trans ((wX_ne h2).trans (wX_ne h1)), rfl, rfl⟩
  refine ope_25 (σ0 := σ) hM hM4 (fun σ1 l f1 ln => ?_) M.length 0 _ [] (by omega) (by show 0 + _ ≤ _; omega) (Nat.zero_le _) f0 ⟨rfl, rfl, rfl⟩ rfl
  have m1 : mX σ1 3 = M := (f1.1 _ (by decide) (by decide) (by decide)).trans hM
  have b1 : mB σ1 0 = z := by
    rw [show mB σ1 = mB σ from congrArg Prod.fst f1.2.1]
    exact hb
  refine Setter_open_25.i ⟨by unfold Rg; omega, fun _ => ?_, fun h => by rw [m1] at h; omega⟩
  rw [b1]
  refine tB.i im (Marks_clear.c hz ?_)
  show Q (.inl none) (wV (wV (rclM (mclM σ1 z)) 127 17 0) 127 18 0)
  have nx : ∀ q, q ∉ MCx z → q ∉ RcX → mX (wV (wV (rclM (mclM σ1 z)) 127 17 0) 127 18 0) q = mX σ1 q := fun q h1 h2 => (rclM_n h2).trans (clX_n (L := MCx z) h1)
  have zx : ∀ q, q ∈ MCx z → mX (wV (wV (rclM (mclM σ1 z)) 127 17 0) 127 18 0) q = [] := fun q h => by
    by_cases c : q ∈ RcX
    · exact rclM_0 c
    · exact (rclM_n c).trans (clX_0 (L := MCx z) (Or.inl h))
  have n200 : ∀ q, q = 200 ∨ q = 202 ∨ q = 204 → q ∉ MCx z ∧ q ∉ RcX := fun q h => by
    unfold MCx RcX
    simp only [List.mem_cons, List.not_mem_nil, or_false]
    omega
  refine hq _ ⟨fun q h1 h2 h3 h4 h5 => (nx q h4 h5).trans (f1.1 q h1 h2 h3), mclM_b.trans f1.2.1, fun y k h1 h2 h3 => ?_⟩ ⟨?_, ?_, ?_⟩ zx ?_ wV_self
  · refine (wV_ne (by omega)).trans ((wV_ne (by omega)).trans ((rclM_v h2).trans ((mclM_v h1).trans ?_)))
    exact congrFun (congrFun f1.2.2 y) k
  · exact (nx _ (n200 _ (by omega)).1 (n200 _ (by omega)).2).trans ln.1
  · exact (nx _ (n200 _ (by omega)).1 (n200 _ (by omega)).2).trans ln.2.1
  · exact (nx _ (n200 _ (by omega)).1 (n200 _ (by omega)).2).trans ln.2.2
  · exact (wV_ne (Or.inr (by decide))).trans wV_self
/-- what set leaves in the class -/
def FrT9 (σ σ' : MS) : Prop := (∀ q, q < 22 ∨ 228 < q → mX σ' q = mX σ q) ∧ mW σ' = mW σ ∧ ∀ y k, (y < 22 ∧ ¬ (y = 0 ∧ k = 14)) ∨ 228 < y → mV σ' y k = mV σ y k
/-- set, the class -/
theorem T_set.c {M : List Int} (ha : 1 ≤ a) (hz : z = 49 ∨ z = 163) (hM : mX σ 3 = M) (hM4 : M.length ≤ 4000) (hMb : smB M) (hb0 : mB σ 0 = z) (hb1 : mB σ 1 = 212 - z) (hF : FdB σ) (he : 0 ≤ mV σ 22 1 ∧ mV σ 22 1 ≤ 400000) (hy : ∀ s c' z1 σ', seD M 5 1 (bf0 (mV σ z 14) (mV σ z 15)) (0, mV σ 22 1) = .inl s → (z1 = 49 ∨ z1 = 163) → (mB σ' 0 = z1 ∧ mB σ' 1 = 212 - z1) → (KB σ' z1 (rdE (neB9 s.1 s.2.1) ru0 []) ∧ mV σ' z1 13 = s.1.1.1.2.2.2.2.2.2) → (RuC σ' s.1.2.2.1 c' ∧ c' ≤ 4001) → FdB σ' → (mV σ' 22 1 = s.1.1.1.1.2.1 ∧ mV σ' 0 14 = s.1.1.1.1.1) → PoC σ' (plR9 s.1 s.2.1) [] → mX σ' 220 = (psD s.1 s.2.1).map Int.ofNat → mV σ' 212 0 = 1 → TyC σ' z1 s.1 s.2.1 s.2.2.1 s.2.2.2 → FrT9 σ σ' → Q (.inl (some 0)) σ') (hn : ∀ x c' z1 σ', seD M 5 1 (bf0 (mV σ z 14) (mV σ z 15)) (0, mV σ 22 1) = .inr x → (z1 = 49 ∨ z1 = 163) → (mB σ' 0 = z1 ∧ mB σ' 1 = 212 - z1) → (KB σ' z1 (rdE (bf0 (mV σ' z1 14) (mV σ' z1 15)) ru0 []) ∧ mV σ' z1 13 = 0) → (RuC σ' x.2.1 c' ∧ c' ≤ 4001) → FdB σ' → (mV σ' 22 1 = x.2.2.2.2 ∧ mV σ' 0 14 = x.2.2.2.1) → mV σ' 212 0 = 0 → FrT9 σ σ' → Q (.inl (some (x.2.2.1 + 16 * x.1))) σ') : T_set a σ Q := by
  refine T_set.i (Purse_open.i ?_)
  show Proof_forget 212 (wV (wV σ 22 0 0) 22 2 0) _
  generalize hσ1 : wV (wV σ 22 0 0) 22 2 0 = σ1
  have x1 : ∀ q, mX σ1 q = mX σ q := fun q => by rw [← hσ1]; rfl
  have b1 : σ1.2.2 = σ.2.2 := by rw [← hσ1]; rfl
  have v1 : ∀ y k, ¬ (y = 22 ∧ (k = 0 ∨ k = 2)) → mV σ1 y k = mV σ y k := fun y k h => by
    rw [← hσ1]
    exact (wV_ne (by omega)).trans (wV_ne (by omega))
  have u1 : mV σ1 22 0 = 0 := by
    rw [← hσ1]
    exact (wV_ne (Or.inr (by decide))).trans wV_self
  clear hσ1
  refine Proof_forget.c (fun σ2 f2 h212 hx2 ht2 => ?_)
  have x2 : ∀ q, q ∉ [214, 216, 218, 220, 222] → mX σ2 q = mX σ q := fun q h => (f2.1 q h).trans (x1 q)
  have b2 : σ2.2.2 = σ.2.2 := f2.2.1.trans b1
  have v2 : ∀ y k, y ≠ 228 → ¬ (y = 212 ∧ k = 0) → ¬ (y = 22 ∧ (k = 0 ∨ k = 2)) → mV σ2 y k = mV σ y k := fun y k h1 h2 h3 => (f2.2.2 y k h1 h2).trans (v1 y k h3)
  have eb2 : mB σ2 = mB σ := congrArg Prod.fst b2
  show Setter_open σ2 _
  refine Setter_open.c (M := M) hz ((x2 _ (by decide)).trans hM) hM4 (by rw [eb2]; exact hb0) (fun σ3 f3 ln3 mc3 e17 e18 => ?_)
  have eb3 : mB σ3 = mB σ := (congrArg Prod.fst f3.2.1).trans eb2
  have ew3 : mW σ3 = mW σ := (congrArg Prod.snd f3.2.1).trans (congrArg Prod.snd b2)
  have v3 : ∀ y k, y ≠ 228 → ¬ (y = 212 ∧ k = 0) → ¬ (y = 22 ∧ (k = 0 ∨ k = 2)) → ¬ (y = z ∧ (k = 12 ∨ k = 13)) → y ≠ 24 → ¬ (y = 127 ∧ (k = 17 ∨ k = 18)) → mV σ3 y k = mV σ y k := fun y k h1 h2 h3 h4 h5 h6 => (f3.2.2 y k h4 h5 h6).trans (v2 y k h1 h2 h3)
  have nx3 : ∀ q, q < 22 ∨ 212 ≤ q → mX σ3 q = mX σ2 q := fun q h => f3.1 q (by omega) (by omega) (by omega) (by
    unfold MCx
    simp only [List.mem_cons, List.not_mem_nil, or_false]
    omega) (by
    unfold RcX
    simp only [List.mem_cons, List.not_mem_nil, or_false]
    omega)
  have mq : ∀ q, q = z + 2 ∨ q = z + 4 ∨ q = z + 7 ∨ q = z + 9 ∨ q = z + 11 ∨ q = z + 14 ∨ q = z + 16 ∨ q = z + 18 ∨ q = z + 20 ∨ q = z + 25 ∨ q = z + 27 ∨ q = z + 29 → mX σ3 q = [] := fun q h => mc3 q (by
    unfold MCx
    simp only [List.mem_cons, List.not_mem_nil, or_false]
    omega)
  have w0 : mV σ3 22 0 = 0 := (f3.2.2 _ _ (by omega) (by omega) (by omega)).trans ((f2.2.2 _ _ (by omega) (by omega)).trans u1)
  have w1 : mV σ3 22 1 = mV σ 22 1 := v3 _ _ (by omega) (by omega) (by omega) (by omega) (by omega) (by omega)
  have hP : PrC9 σ3 M (bf0 (mV σ z 14) (mV σ z 15)) (212 - z) z (0, mV σ 22 1) := ⟨⟨(nx3 _ (by omega)).trans ((x2 _ (by decide)).trans hM), ln3⟩, ⟨by rw [eb3]; exact hb0, by rw [eb3]; exact hb1⟩, ⟨w0, w1⟩, ⟨⟨mq _ (by omega), mq _ (by omega)⟩, ⟨mq _ (by omega), mq _ (by omega)⟩, mq _ (by omega), v3 _ _ (by omega) (by omega) (by omega) (by omega) (by omega) (by omega), v3 _ _ (by omega) (by omega) (by omega) (by omega) (by omega) (by omega)⟩, ⟨⟨mq _ (by omega), mq _ (by omega)⟩, mq _ (by omega), mq _ (by omega)⟩, ⟨⟨mq _ (by omega), mq _ (by omega)⟩, mq _ (by omega)⟩⟩
  have hF3 : FdB σ3 := fun y h => by
    rw [v3 y 14 (by omega) (by omega) (by omega) (by omega) (by omega) (by omega)]
    exact hF y h
  have z8 : ∀ {s s' : MS}, FrS8 σ3 s → (∀ q, q < 22 ∨ 228 < q → mX s' q = mX s q) → mW s' = mW s → (∀ y k, (y < 22 ∧ ¬ (y = 0 ∧ k = 14)) ∨ 228 < y → mV s' y k = mV s y k) → FrT9 σ s' := fun {s s'} g1 g2 g3 g4 => ⟨fun q h => (g2 q h).trans ((g1.1 q (by omega)).trans ((nx3 q (by omega)).trans (x2 q (by
    simp only [List.mem_cons, List.not_mem_nil, or_false]
    omega)))), g3.trans (g1.2.2.1.trans ew3), fun y k h => (g4 y k h).trans ((g1.2.2.2 y k (by omega)).trans (v3 y k (by omega) (by omega) (by omega) (by omega) (by omega) (by omega)))⟩
  show T_set_25 a 0 ((1 : Nat) : Int) σ3 Q
  refine cse_25 ha hMb hM4 4 1 (212 - z) z (bf0 (mV σ z 14) (mV σ z 15)) (0, mV σ 22 1) σ3 (by decide) (by decide) (by omega) hz (by omega) (bf0_i (hF z hz)) h06 he hP e18 hF3 (fun s c' z1 σ4 q1 q2 q3 q4 q5 q6 q7 q8 q9 => ?_) (fun x c' z1 σ4 q1 q2 q3 q4 q5 q6 q7 q8 q9 => ?_)
  · obtain ⟨i1, i2, i3, i4, i5⟩ := (seD_i hMb hM4 (bf0_i (hF z hz)) h06 he).1 s q1
    refine T_set_77.i ⟨by decide, fun _ => ?_, fun h => absurd rfl h⟩
    have k4 := q4.2.2.2.1
    have nv : ∀ y k, ¬ (y = 0 ∧ k = 14) → mV (wV σ4 0 14 (mV σ4 22 0)) y k = mV σ4 y k := fun y k h => wV_ne (by omega)
    have sh5 : ShC (wV σ4 0 14 (mV σ4 22 0)) z1 c' s.1 s.2.1 := by
      obtain ⟨a1, a2, a3, a4, a5, ⟨c1, c2, c3, c4⟩, ⟨r1, r2⟩, a8⟩ := q4
      exact ⟨a1, a2, a3, a4, a5, ⟨(nv _ _ (by omega)).trans c1, (nv _ _ (by omega)).trans c2, (nv _ _ (by omega)).trans c3, (nv _ _ (by omega)).trans c4⟩, ⟨r1.cg (Nat.le_refl _) (fun _ _ _ _ => rfl) (fun k => nv _ _ (by omega)), r2⟩, a8⟩
    have e0 : ∀ q, q ∈ [214, 216, 218, 220, 222] → mX (wV σ4 0 14 (mV σ4 22 0)) q = [] := fun q h => by
      have h9 := h
      simp only [List.mem_cons, List.not_mem_nil, or_false] at h9
      exact (q9.1 q (by omega)).trans ((nx3 q (by omega)).trans (hx2 q h))
    have t8 : mV (wV σ4 0 14 (mV σ4 22 0)) 228 8 = 0 := (nv _ _ (by omega)).trans ((q9.2.2.2 228 8 (by omega)).trans ((f3.2.2 228 8 (by omega) (by omega) (by omega)).trans (ht2 8 (by decide))))
    refine Setter_show.c (st := s.2.2.2) (r := s.2.2.1) q2 i1 i2 i3 (by unfold Rg; omega) sh5 ((nv _ _ (by omega)).trans q5) ((nv _ _ (by omega)).trans q6) ⟨e0 _ (by decide), e0 _ (by decide), e0 _ (by decide), e0 _ (by decide), e0 _ (by decide)⟩ t8 (fun σ6 p1 p2 p3 p4 f6 => ?_)
    have eb6 : mB σ6 = mB σ4 := congrArg Prod.fst f6.2.1
    have v6 : ∀ y k, y ≠ 228 → ¬ (y = 212 ∧ k = 0) → ¬ (y = 0 ∧ k = 14) → mV σ6 y k = mV σ4 y k := fun y k h1 h2 h3 => (f6.2.2 y k h1 h2).trans (nv y k h3)
    have x6 : ∀ q, q < 208 → mX σ6 q = mX σ4 q := fun q h => f6.1 q (by
      simp only [List.mem_cons, List.not_mem_nil, or_false]
      omega)
    refine hy s c' z1 σ6 q1 q2 ⟨by rw [eb6]; exact q4.2.2.2.2.2.2.2, by rw [eb6]; exact q3⟩ ⟨⟨⟨(x6 _ (by omega)).trans k4.1.1, (x6 _ (by omega)).trans k4.1.2⟩, ⟨(x6 _ (by omega)).trans k4.2.1.1, (x6 _ (by omega)).trans k4.2.1.2⟩, (x6 _ (by omega)).trans k4.2.2.1, (v6 _ _ (by omega) (by omega) (by omega)).trans q4.2.2.2.2.2.1.2.2.1, (v6 _ _ (by omega) (by omega) (by omega)).trans q4.2.2.2.2.2.1.2.2.2⟩, (v6 _ _ (by omega) (by omega) (by omega)).trans q4.2.2.2.2.2.1.2.1⟩ ⟨q4.2.2.2.2.2.2.1.1.cg (Nat.le_refl _) (fun q hq9 _ _ => x6 q (by
      unfold FOX at hq9
      simp only [List.mem_cons, List.not_mem_nil, or_false] at hq9
      omega)) (fun k => v6 _ _ (by omega) (by omega) (by omega)), q4.2.2.2.2.2.2.1.2⟩ (fun y h => by rw [v6 y 14 (by omega) (by omega) (by omega)]; exact q8 y h) ⟨(v6 _ _ (by omega) (by omega) (by omega)).trans q7.2, (f6.2.2 _ _ (by omega) (by omega)).trans (wV_self.trans q7.1)⟩ p1 p2 p3 p4 (z8 q9 (fun q h => f6.1 q (by
      simp only [List.mem_cons, List.not_mem_nil, or_false]
      omega)) (congrArg Prod.snd f6.2.1) (fun y k h => v6 y k (by omega) (by omega) (by omega)))
  · obtain ⟨i1, i2, i3⟩ := (seD_i hMb hM4 (bf0_i (hF z hz)) h06 he).2 x q1
    obtain ⟨i31, i32, i33⟩ := i3
    have im : isMarks z1 = true := by rcases q2 with rfl | rfl <;> decide
    refine T_set_58.i ?_
    rw [q3.1, q6]
    have key : ∀ σ6, σ6 = mclM (wV σ4 0 14 (mV σ4 22 0)) z1 → Q (.inl (some (x.2.2.1 + 16 * x.1))) σ6 := fun σ6 h6 => by
      have nv : ∀ y k, ¬ (y = z1 ∧ (k = 12 ∨ k = 13)) → ¬ (y = 0 ∧ k = 14) → mV σ6 y k = mV σ4 y k := fun y k h1 h2 => by
        rw [h6]
        exact (mclM_v h1).trans (wV_ne (by omega))
      have eb6 : σ6.2.2 = σ4.2.2 := by
        rw [h6]
        exact mclM_b
      have x6 : ∀ q, q ∉ MCx z1 → mX σ6 q = mX σ4 q := fun q h => by
        rw [h6]
        exact clX_n (L := MCx z1) h
      have m6 : ∀ q, q = z1 + 2 ∨ q = z1 + 4 ∨ q = z1 + 7 ∨ q = z1 + 9 ∨ q = z1 + 11 → mX σ6 q = [] := fun q h => by
        rw [h6]
        refine clX_0 (L := MCx z1) (Or.inl ?_)
        unfold MCx
        simp only [List.mem_cons, List.not_mem_nil, or_false]
        omega
      have out : ∀ q, q < 49 ∨ 212 ≤ q → q ∉ MCx z1 := fun q h => by
        unfold MCx
        simp only [List.mem_cons, List.not_mem_nil, or_false]
        omega
      have e13 : mV σ6 z1 13 = 0 := by
        rw [h6]
        exact mclM_13
      refine hn x c' z1 σ6 q1 q2 ⟨by rw [show mB σ6 = mB σ4 from congrArg Prod.fst eb6]; exact q7.1, by rw [show mB σ6 = mB σ4 from congrArg Prod.fst eb6]; exact q7.2⟩ ⟨⟨⟨m6 _ (by omega), m6 _ (by omega)⟩, ⟨m6 _ (by omega), m6 _ (by omega)⟩, m6 _ (by omega), rfl, rfl⟩, e13⟩ ⟨q4.cg (Nat.le_refl _) (fun q hq9 h87 h89 => x6 q (out q (by
        unfold FOX at hq9
        simp only [List.mem_cons, List.not_mem_nil, or_false] at hq9
        omega))) (fun k => nv _ _ (by omega) (by omega)), q5⟩ (fun y h => by rw [nv y 14 (by omega) (by omega)]; exact q8 y h) ⟨(nv _ _ (by omega) (by omega)).trans q3.2.2, ?_⟩ ?_ (z8 q9 (fun q h => x6 q (out q (by omega))) (congrArg Prod.snd eb6) (fun y k h => nv y k (by omega) (by omega)))
      · rw [h6, mclM_v (by omega), wV_self]
        exact q3.2.1
      · exact (nv _ _ (by omega) (by omega)).trans ((q9.2.2.2 212 0 (by omega)).trans ((f3.2.2 212 0 (by omega) (by omega) (by omega)).trans h212))
    refine T_set_77.i ⟨by unfold Rg; omega, fun h => absurd h (by omega), fun _ => Setter_forget.i ?_⟩
    show tB (isMarks (mB σ4 0)) (Marks_clear (mB σ4 0) (wV σ4 0 14 (mV σ4 22 0)) _)
    rw [q7.1]
    exact tB.i im (Marks_clear.c q2 ⟨by unfold Rg; omega, key _ rfl⟩)
end
