/-! A ROUND: the class, from its beginning to its end -/
/-- the class ahead of a round -/
def PrC9 (σ : MS) (M : List Int) (B : BF9) (z z' : Nat) (w : Int × Int) : Prop := (mX σ 3 = M ∧ LnM σ M (mlL M)) ∧ (mB σ 0 = z' ∧ mB σ 1 = z) ∧ (mV σ 22 0 = w.1 ∧ mV σ 22 1 = w.2) ∧ KB σ z' (rdE B ru0 []) ∧ CtC σ z' B.2.1 ∧ IxC σ z' B.2.2.1 B.2.2.2
/-- what a round leaves, its beginning too -/
def FrS9 (z z' : Nat) (σ σ' : MS) : Prop := (∀ q, q < 22 ∨ 212 ≤ q → mX σ' q = mX σ q) ∧ (mB σ' 0 = z ∧ mB σ' 1 = z' ∧ ∀ i, 4 ≤ i → mB σ' i = mB σ i) ∧ mW σ' = mW σ ∧ ∀ y k, y < 22 ∨ 212 ≤ y ∨ ((y = 49 ∨ y = 163) ∧ (k = 14 ∨ k = 15)) → mV σ' y k = mV σ y k
section
variable {σ : MS} {Q : MQ9} {z z' : Nat} {M : List Int} {B : BF9} {w : Int × Int}
theorem FrS9.rc {σ1 σ2 : MS} (h : FrS9 z z' σ σ1) (h' : FrRC σ1 σ2) : FrS9 z z' σ σ2 := by
  obtain ⟨h1, ⟨h2, h3, h4⟩, h5, h6⟩ := h
  have eb : mB σ2 = mB σ1 := congrArg Prod.fst h'.2.1
  have ew : mW σ2 = mW σ1 := congrArg Prod.snd h'.2.1
  exact ⟨fun q a => (h'.1 q (by omega)).trans (h1 q a), ⟨by rw [eb]; exact h2, by rw [eb]; exact h3, fun i hi => by rw [eb]; exact h4 i hi⟩, ew.trans h5, fun y k a => (h'.2.2 y k (by omega)).trans (h6 y k a)⟩
theorem CdC.o9 {σ1 : MS} (hz : z = 49 ∨ z = 163) (hz' : z' = 49 ∨ z' = 163) (hne : z ≠ z') (hP : PrC9 σ M B z z' w) (f : FrO9 z z' σ σ1) (w0 : mV σ1 22 0 = w.1) (w1 : mV σ1 22 1 = w.2) : CdC σ1 M B z z' false 0 (rd0 w) := by
  obtain ⟨⟨m1, m2, m3, m4⟩, ⟨b0, b1⟩, -, hK, ⟨⟨t1, t2⟩, t3, t4⟩, ⟨⟨i1, i2⟩, i3⟩⟩ := hP
  obtain ⟨x0, xn, ⟨c0, c1, c2, c3, -⟩, -, ⟨v24, v12, v13, v128, v210⟩, v⟩ := f
  have nx : ∀ q, q < 22 ∨ 199 ≤ q ∨ (z' ≤ q ∧ q ≤ z' + 36) → mX σ1 q = mX σ q := fun q a => xn q (by
    unfold MCx
    simp only [List.mem_cons, List.not_mem_nil, or_false]
    omega) (by
    unfold RcX
    simp only [List.mem_cons, List.not_mem_nil, or_false]
    omega) (by
    unfold GcX
    simp only [List.mem_cons, List.not_mem_nil, or_false]
    omega) (by
    simp only [List.mem_cons, List.not_mem_nil, or_false]
    omega)
  have xm : ∀ q, q ∈ MCx z → mX σ1 q = [] := fun q h => x0 q (Or.inl h)
  have xr : ∀ q, q ∈ RcX → mX σ1 q = [] := fun q h => x0 q (Or.inr (Or.inl h))
  have xg : ∀ q, q ∈ GcX → mX σ1 q = [] := fun q h => x0 q (Or.inr (Or.inr (Or.inl h)))
  have xc : ∀ q, q ∈ [98, 100, 102] → mX σ1 q = [] := fun q h => x0 q (Or.inr (Or.inr (Or.inr h)))
  have mz : ∀ q, q = z + 2 ∨ q = z + 4 ∨ q = z + 7 ∨ q = z + 9 ∨ q = z + 11 ∨ q = z + 14 ∨ q = z + 16 ∨ q = z + 18 ∨ q = z + 20 ∨ q = z + 22 ∨ q = z + 25 ∨ q = z + 27 ∨ q = z + 29 ∨ q = z + 35 → mX σ1 q = [] := fun q h => xm q (by
    unfold MCx
    simp only [List.mem_cons, List.not_mem_nil, or_false]
    exact h)
  have hKB : KB σ1 z' (rdE B ru0 []) := hK.cg hz' (fun q a c => nx q (by omega)) (v _ _ (by omega) (by omega) (by omega) (by omega) (by omega)) (v _ _ (by omega) (by omega) (by omega) (by omega) (by omega))
  refine ⟨⟨(nx _ (by omega)).trans m1, (nx _ (by omega)).trans m2, (nx _ (by omega)).trans m3, (nx _ (by omega)).trans m4⟩, ⟨⟨⟨w0, w1⟩, ⟨c0, ⟨c2, c3, hz, hz', fun _ => hne⟩, hne⟩, ⟨⟨[], ⟨xc _ (by decide), xc _ (by decide)⟩, rfl⟩, xc _ (by decide)⟩, ⟨⟨⟨mz _ (by omega), mz _ (by omega)⟩, ⟨mz _ (by omega), mz _ (by omega)⟩, mz _ (by omega)⟩, ⟨⟨mz _ (by omega), mz _ (by omega)⟩, mz _ (by omega)⟩, v12, v13, mz _ (by omega)⟩, hKB, ⟨⟨xr _ (by decide), xr _ (by decide)⟩, xr _ (by decide), [], ⟨xr _ (by decide), xr _ (by decide)⟩, by decide, by decide, by rw [xr _ (by decide)]; rfl, fun m hm => absurd hm (Nat.not_lt_zero _)⟩⟩, ⟨xg _ (by decide), xg _ (by decide), xg _ (by decide), xg _ (by decide), xg _ (by decide), w0, w1⟩, xg _ (by decide), xg _ (by decide), xg _ (by decide), v128⟩, ⟨⟨mz _ (by omega), mz _ (by omega)⟩, mz _ (by omega), mz _ (by omega), mz _ (by omega)⟩, ⟨v24, ⟨⟨xr _ (by decide), xr _ (by decide)⟩, xr _ (by decide), [], ⟨xr _ (by decide), xr _ (by decide)⟩, by decide, by decide, by rw [xr _ (by decide)]; rfl, fun m hm => absurd hm (Nat.not_lt_zero _)⟩, ⟨xr _ (by decide), xr _ (by decide)⟩, ⟨xr _ (by decide), xr _ (by decide)⟩⟩, ⟨fun k hk => ?_, [mV σ1 211 0, mV σ1 211 1, mV σ1 211 2], rfl, fun k hk => ?_, trivial, fun e => absurd e (by decide)⟩, c1, ⟨⟨(nx _ (by omega)).trans t1, (nx _ (by omega)).trans t2⟩, (nx _ (by omega)).trans t3, (nx _ (by omega)).trans t4⟩, ⟨⟨(nx _ (by omega)).trans i1, (nx _ (by omega)).trans i2⟩, (nx _ (by omega)).trans i3⟩⟩
  · have hk : k < 4 := hk
    rw [v210 k hk]
    have : ∀ k, k < 4 → (0 : Int) = ([0, 0, 0, 0] : List Int).getD k 0 := by decide
    exact this k hk
  · have hk : k < 3 := hk
    have : k = 0 ∨ k = 1 ∨ k = 2 := by omega
    rcases this with rfl | rfl | rfl <;> rfl
theorem FrO9.s9 {σ1 : MS} (hz : z = 49 ∨ z = 163) (f : FrO9 z z' σ σ1) : FrS9 z z' σ σ1 := by
  obtain ⟨x0, xn, ⟨c0, c1, c2, c3, c4⟩, cw, -, v⟩ := f
  exact ⟨fun q a => xn q (by
    unfold MCx
    simp only [List.mem_cons, List.not_mem_nil, or_false]
    omega) (by
    unfold RcX
    simp only [List.mem_cons, List.not_mem_nil, or_false]
    omega) (by
    unfold GcX
    simp only [List.mem_cons, List.not_mem_nil, or_false]
    omega) (by
    simp only [List.mem_cons, List.not_mem_nil, or_false]
    omega), ⟨c0, c1, c4⟩, cw, fun y k a => v y k (by omega) (by omega) (by omega) (by omega) (by omega)⟩
/-- a round, the class: all blocks, then its end -/
theorem Setter_round.c {l1 : Int} (hz : z = 49 ∨ z = 163) (hz' : z' = 49 ∨ z' = 163) (hne : z ≠ z') (hM4 : M.length ≤ 4000) (hMb : smB M) (hB : BfI B) (hl : Rg l1) (hw0 : 0 ≤ w.1 ∧ w.1 ≤ 60000) (hw1 : 0 ≤ w.2 ∧ w.2 ≤ 400000) (hP : PrC9 σ M B z z' w) (hy : ∀ x c' σ', rouD B M w = .inl x → CdC σ' M B z z' false c' x.1 → c' ≤ 4001 → mV σ' 127 16 = x.2 → mV σ' 127 17 = l1 → FrS9 z z' σ σ' → mX σ' 146 = [] ∧ mX σ' 148 = [] → Setter_closeRound σ' (kV (thQ Q) fun σ1 => Q (.inl none) σ1)) (hn : ∀ x c' σ', rouD B M w = .inr x → TxF σ' x.2.2 → RuC σ' x.2.1 c' → c' ≤ 4001 → mV σ' 127 16 = x.1 → FrS9 z z' σ σ' → Q (.inr (exN 0)) σ') : Setter_round l1 σ Q := by
  have ml4 : (mlL M).length ≤ 4000 := Nat.le_trans (mlF_l (T := M) M.length 0) hM4
  have hP0 : PrC9 (wV σ 127 16 0) M B z z' w := by
    obtain ⟨a1, a2, a3, a4, a5, a6⟩ := hP
    refine ⟨a1, a2, ⟨(wV_ne (Or.inl (by decide))).trans a3.1, (wV_ne (Or.inl (by decide))).trans a3.2⟩, a4.cg hz' (fun _ _ _ => rfl) (wV_ne (Or.inl (by omega))) (wV_ne (Or.inl (by omega))), a5, a6⟩
  refine Setter_round.i (Setter_openRound.c hl hz hz' hP0.2.1.1 hP0.2.1.2 (fun σ1 f1 e17 => ?_))
  have g1 : FrS9 z z' σ σ1 := by
    obtain ⟨s1, s2, s3, s4⟩ := f1.s9 hz
    exact ⟨s1, s2, s3, fun y k a => (s4 y k a).trans (wV_ne (Or.inl (by omega)))⟩
  have w0 : mV σ1 22 0 = w.1 := (f1.2.2.2.2.2 _ _ (by omega) (by omega) (by omega) (by omega) (by omega)).trans hP0.2.2.1.1
  have w1 : mV σ1 22 1 = w.2 := (f1.2.2.2.2.2 _ _ (by omega) (by omega) (by omega) (by omega) (by omega)).trans hP0.2.2.1.2
  have e16 : mV σ1 127 16 = 0 := (f1.2.2.2.2.2 _ _ (by omega) (by omega) (by omega) (by omega) (by omega)).trans wV_self
  have hC := CdC.o9 hz hz' hne hP0 f1 w0 w1
  have l204 : (mX σ1 204).length = (mlL M).length := by
    rw [hC.1.2.2.2]
    exact List.length_map ..
  show Purse_spend ((mX σ1 204).length : Int) σ1 _
  rw [l204]
  refine Purse_spend.g (n := ((mlL M).length : Int)) (h := w.1) (e := w.2) (by omega) w0 w1 hw0 hw1 (fun hok => ?_) (fun hno tx => ?_)
  · have er : rouD B M w = rnD B M (mlL M).length 0 false 0 (rd0 (w.1 + ((mlL M).length : Int), w.2 + ((mlL M).length : Int))) := if_neg hok
    rw [er] at hy hn
    have g2 : FrRC σ1 (wV (wV σ1 22 0 (w.1 + ((mlL M).length : Int))) 22 1 (w.2 + ((mlL M).length : Int))) := ⟨fun _ _ => rfl, rfl, fun y k a => by
      rw [wV_ne (Or.inl (by omega)), wV_ne (Or.inl (by omega))]⟩
    have hC2 : CdC (wV (wV σ1 22 0 (w.1 + ((mlL M).length : Int))) 22 1 (w.2 + ((mlL M).length : Int))) M B z z' false 0 (rd0 (w.1 + ((mlL M).length : Int), w.2 + ((mlL M).length : Int))) := by
      obtain ⟨a1, ⟨⟨-, r2, r3, r4, r5, r6⟩, ⟨q1, q2, q3, q4, q5, -, -⟩, k3, k4, k5, k6⟩, a3, a4, ⟨a5, cn, cl, ch, cb, ce⟩, a6⟩ := hC
      have u0 : mV (wV (wV σ1 22 0 (w.1 + ((mlL M).length : Int))) 22 1 (w.2 + ((mlL M).length : Int))) 22 0 = w.1 + ((mlL M).length : Int) := by rw [wV_ne (Or.inr (by decide)), wV_self]
      have u1 : mV (wV (wV σ1 22 0 (w.1 + ((mlL M).length : Int))) 22 1 (w.2 + ((mlL M).length : Int))) 22 1 = w.2 + ((mlL M).length : Int) := wV_self
      have uv : ∀ y k, y ≠ 22 → mV (wV (wV σ1 22 0 (w.1 + ((mlL M).length : Int))) 22 1 (w.2 + ((mlL M).length : Int))) y k = mV σ1 y k := fun y k a => by
        rw [wV_ne (Or.inl a), wV_ne (Or.inl a)]
      obtain ⟨⟨r41, r42, r43⟩, ⟨r44, r45⟩, r46, r47, r48⟩ := r4
      exact ⟨a1, ⟨⟨⟨u0, u1⟩, r2, r3, ⟨⟨r41, r42, r43⟩, ⟨r44, r45⟩, (uv _ _ (by omega)).trans r46, (uv _ _ (by omega)).trans r47, r48⟩, r5.cg hz' (fun _ _ _ => rfl) (uv _ _ (by omega)) (uv _ _ (by omega)), r6⟩, ⟨q1, q2, q3, q4, q5, u0, u1⟩, k3, k4, k5, (uv _ _ (by decide)).trans k6⟩, a3, ⟨fun k hk => (uv _ _ (by decide)).trans (a4.1 k hk), a4.2⟩, ⟨fun k hk => (uv _ _ (by decide)).trans (a5 k hk), cn, cl, fun k hk => (uv _ _ (by decide)).trans (ch k hk), cb, ce⟩, a6⟩
    have := crn_31 (Q := Q) (σ0 := wV (wV σ1 22 0 (w.1 + ((mlL M).length : Int))) 22 1 (w.2 + ((mlL M).length : Int))) hM4 hMb hB (mlL M).length 0 false 0 (rd0 (w.1 + ((mlL M).length : Int), w.2 + ((mlL M).length : Int))) 0 _ (by omega) (Nat.zero_le _) (rd0_i ⟨by show 0 ≤ w.1 + _; omega, by show w.1 + _ ≤ 60000; omega⟩ ⟨by show 0 ≤ w.2 + _; omega, by show w.2 + _ ≤ 400000; omega⟩) hC2 ⟨by decide, fun _ => Nat.zero_le _⟩ ((wV_ne (Or.inl (by decide))).trans ((wV_ne (Or.inl (by decide))).trans e16)) FrRC.rf (fun d' ln' c' σ' w1 w2 w3 w4 w5 => hy (d', ln') c' σ' w1 w2 w3 w4 ((w5.2.2 127 17 (by omega)).trans ((wV_ne (Or.inl (by decide))).trans ((wV_ne (Or.inl (by decide))).trans e17))) ((g1.rc g2).rc w5) ⟨(w5.1 146 (by omega)).trans (f1.1 146 (Or.inr (Or.inr (Or.inl (by decide))))), (w5.1 148 (by omega)).trans (f1.1 148 (Or.inr (Or.inr (Or.inl (by decide)))))⟩) (fun x c' σ' w1 w2 w3 w4 w5 w6 => hn x c' σ' w1 w2 w3 w4 w5 ((g1.rc g2).rc w6))
    exact this
  · have er : rouD B M w = .inr (0, ru0, (8, w.1, w.2)) := if_pos hno
    refine hn (0, ru0, (8, w.1, w.2)) 0 _ er tx ?_ (by decide) ((wV_ne (Or.inl (by decide))).trans e16) (g1.rc ⟨fun _ _ => rfl, rfl, fun y k a => wV_ne (Or.inl (by omega))⟩)
    exact hC.2.2.2.1.cg (Nat.le_refl _) (fun _ _ _ _ => rfl) (fun k => wV_ne (Or.inl (by decide)))
end
