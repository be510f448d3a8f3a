/-! A ROUND BEGINS: the class -/
def MCx (z : Nat) : List Nat := [z + 2, z + 4, z + 7, z + 9, z + 11, z + 14, z + 16, z + 18, z + 20, z + 22, z + 25, z + 27, z + 29, z + 35]
def clX : MS → List Nat → MS
  | σ, [] => σ
  | σ, q :: r => clX (wX σ q []) r
theorem clX_n {q : Nat} : ∀ {L : List Nat} {σ : MS}, q ∉ L → mX (clX σ L) q = mX σ q
  | [], σ, _ => rfl
  | a :: r, σ, h => by
    have h1 : q ≠ a := fun e => h (by rw [e]; exact List.mem_cons_self)
    have h2 : q ∉ r := fun e => h (List.mem_cons_of_mem _ e)
    exact (clX_n (L := r) h2).trans (wX_ne h1)
theorem clX_0 {q : Nat} : ∀ {L : List Nat} {σ : MS}, (q ∈ L ∨ mX σ q = []) → mX (clX σ L) q = []
  | [], σ, h => h.resolve_left List.not_mem_nil
  | a :: r, σ, h => by
    refine clX_0 (L := r) ?_
    by_cases e : q = a
    · rw [e]
      exact Or.inr wX_self
    · rcases h with h | h
      · rcases List.mem_cons.mp h with h | h
        · exact absurd h e
        · exact Or.inl h
      · exact Or.inr ((wX_ne e).trans h)
theorem clX_2 : ∀ {L : List Nat} {σ : MS}, (clX σ L).2 = σ.2
  | [], σ => rfl
  | a :: r, σ => (clX_2 (L := r)).trans rfl
def mclM (σ : MS) (z : Nat) : MS := wV (wV (clX σ (MCx z)) z 12 0) z 13 0
section
variable {σ : MS} {Q : MQ9} {z z' : Nat}
theorem Marks_clear.c (hz : z = 49 ∨ z = 163) (hq : Q (.inl none) (mclM σ z)) : Marks_clear z σ Q := by
  rcases hz with rfl | rfl
  · refine Marks_clear.i ?_
    repeat (first | refine tB.i (by decide) ?_ | refine Shelf_clear.i ?_)
    exact hq
  · refine Marks_clear.i ?_
    repeat (first | refine tB.i (by decide) ?_ | refine Shelf_clear.i ?_)
    exact hq
theorem mclM_b : (mclM σ z).2.2 = σ.2.2 := by
  show (clX σ (MCx z)).2.2 = σ.2.2
  rw [clX_2]
theorem mclM_v {y k : Nat} (h : ¬ (y = z ∧ (k = 12 ∨ k = 13))) : mV (mclM σ z) y k = mV σ y k := by
  have e : mV (clX σ (MCx z)) y k = mV σ y k := by
    show (clX σ (MCx z)).2.1 y k = σ.2.1 y k
    rw [clX_2]
  exact ((wV_ne (by omega)).trans (wV_ne (by omega))).trans e
theorem mclM_12 : mV (mclM σ z) z 12 = 0 := (wV_ne (Or.inr (by decide))).trans wV_self
theorem mclM_13 : mV (mclM σ z) z 13 = 0 := wV_self
theorem rclM_v {y k : Nat} (h : y ≠ 24) : mV (rclM σ) y k = mV σ y k := by
  show va_up (mV σ) 24 _ y k = mV σ y k
  rw [va_up_ne _ _ h]
theorem rclM_24 {k : Nat} (h : k < 13) : mV (rclM σ) 24 k = AT1.getD k 0 := by
  show va_up (mV σ) 24 _ 24 k = _
  rw [va_up_self]
  exact if_pos h
def RcX : List Nat := [47, 45, 42, 40, 37, 35, 32, 30, 28, 26]
theorem rclM_0 {q : Nat} (h : q ∈ RcX) : mX (rclM σ) q = [] := if_pos h
theorem rclM_n {q : Nat} (h : q ∉ RcX) : mX (rclM σ) q = mX σ q := if_neg h
def GcX : List Nat := [130, 132, 134, 136, 138, 140, 142, 144, 146, 148]
theorem Galley_clear.c (hq : Q (.inl none) (wV (clX σ GcX) 128 10 0)) : Galley_clear σ Q := by
  refine Galley_clear.i (Shelf_clear.i ?_)
  repeat (refine tB.i (by decide) ?_)
  exact hq
theorem Texts_openRound.c (hz : z = 49 ∨ z = 163) (hz' : z' = 49 ∨ z' = 163) (hq : Q (.inl none) (clX (wB (wB σ 2 z) 3 z') [98, 100, 102])) : Texts_openRound z z' σ Q := by
  refine Texts_openRound.i ⟨hz, hz', Shelf_clear.i ?_⟩
  repeat (refine tB.i (by decide) ?_)
  exact hq
/-- what a round's beginning leaves -/
def FrO9 (z z' : Nat) (σ σ' : MS) : Prop := (∀ q, q ∈ MCx z ∨ q ∈ RcX ∨ q ∈ GcX ∨ q ∈ [98, 100, 102] → mX σ' q = []) ∧ (∀ q, q ∉ MCx z → q ∉ RcX → q ∉ GcX → q ∉ [98, 100, 102] → mX σ' q = mX σ q) ∧ (mB σ' 0 = z ∧ mB σ' 1 = z' ∧ mB σ' 2 = z ∧ mB σ' 3 = z' ∧ ∀ i, 4 ≤ i → mB σ' i = mB σ i) ∧ mW σ' = mW σ ∧ ((∀ k, k < 13 → mV σ' 24 k = AT1.getD k 0) ∧ mV σ' z 12 = 0 ∧ mV σ' z 13 = 0 ∧ mV σ' 128 10 = 0 ∧ ∀ k, k < 4 → mV σ' 210 k = 0) ∧ ∀ y k, y ≠ 24 → ¬ (y = z ∧ (k = 12 ∨ k = 13)) → ¬ (y = 128 ∧ k = 10) → y ≠ 210 → ¬ (y = 127 ∧ k = 17) → mV σ' y k = mV σ y k
theorem Setter_openRound.c {l1 : Int} (hl : Rg l1) (hz : z = 49 ∨ z = 163) (hz' : z' = 49 ∨ z' = 163) (h0 : mB σ 0 = z') (h1 : mB σ 1 = z) (hq : ∀ σ', FrO9 z z' σ σ' → mV σ' 127 17 = l1 → Q (.inl none) σ') : Setter_openRound l1 σ Q := by
  have im : isMarks z = true := by rcases hz with rfl | rfl <;> decide
  refine Setter_openRound.i ⟨hl, by rw [h1]; exact hz, by rw [h0]; exact hz', ?_⟩
  rw [h0, h1]
  refine tB.i im (Marks_clear.c hz ?_)
  show Galley_clear (rclM (mclM (wB (wB (wV σ 127 17 l1) 0 z) 1 z') z)) _
  refine Galley_clear.c ?_
  generalize hA : wB (wB (wV σ 127 17 l1) 0 z) 1 z' = σa
  have a0 : mB σa 0 = z := by rw [← hA]; rfl
  have a1 : mB σa 1 = z' := by rw [← hA]; rfl
  have ab : ∀ i, 4 ≤ i → mB σa i = mB σ i := fun i hi => by
    rw [← hA]
    show va_up (va_up (mB σ) 0 z) 1 z' i = mB σ i
    rw [va_up_ne _ _ (by omega), va_up_ne _ _ (by omega)]
  have aw : mW σa = mW σ := by rw [← hA]; rfl
  have ax : ∀ q, mX σa q = mX σ q := fun q => by rw [← hA]; rfl
  have av : ∀ y k, ¬ (y = 127 ∧ k = 17) → mV σa y k = mV σ y k := fun y k h => by
    rw [← hA]
    show mV (wV σ 127 17 l1) y k = mV σ y k
    exact wV_ne (by omega)
  have a17 : mV σa 127 17 = l1 := by
    rw [← hA]
    show mV (wV σ 127 17 l1) 127 17 = l1
    exact wV_self
  clear hA
  have bb : (wV (clX (rclM (mclM σa z)) GcX) 128 10 0).2.2 = σa.2.2 := by
    show (clX (rclM (mclM σa z)) GcX).2.2 = σa.2.2
    rw [clX_2]
    exact mclM_b
  have b0 : mB (wV (clX (rclM (mclM σa z)) GcX) 128 10 0) 0 = z := by
    show (wV (clX (rclM (mclM σa z)) GcX) 128 10 0).2.2.1 0 = z
    rw [bb]
    exact a0
  have b1 : mB (wV (clX (rclM (mclM σa z)) GcX) 128 10 0) 1 = z' := by
    show (wV (clX (rclM (mclM σa z)) GcX) 128 10 0).2.2.1 1 = z'
    rw [bb]
    exact a1
  show Texts_openRound (mB (wV (clX (rclM (mclM σa z)) GcX) 128 10 0) 0) (mB (wV (clX (rclM (mclM σa z)) GcX) 128 10 0) 1) (wV (clX (rclM (mclM σa z)) GcX) 128 10 0) _
  rw [b0, b1]
  refine Texts_openRound.c hz hz' ?_
  have cx0 : ∀ q, q ∈ MCx z ∨ q ∈ RcX ∨ q ∈ GcX ∨ q ∈ [98, 100, 102] → mX (clX (wB (wB (wV (clX (rclM (mclM σa z)) GcX) 128 10 0) 2 z) 3 z') [98, 100, 102]) q = [] := fun q h => by
    refine clX_0 ?_
    by_cases c : q ∈ [98, 100, 102]
    · exact Or.inl c
    · refine Or.inr (clX_0 (L := GcX) (σ := rclM (mclM σa z)) ?_)
      by_cases c2 : q ∈ GcX
      · exact Or.inl c2
      · refine Or.inr ?_
        by_cases c3 : q ∈ RcX
        · exact rclM_0 c3
        · rw [rclM_n c3]
          rcases h with h | h | h | h
          · exact clX_0 (L := MCx z) (Or.inl h)
          · exact absurd h c3
          · exact absurd h c2
          · exact absurd h c
  have cxn : ∀ q, q ∉ MCx z → q ∉ RcX → q ∉ GcX → q ∉ [98, 100, 102] → mX (clX (wB (wB (wV (clX (rclM (mclM σa z)) GcX) 128 10 0) 2 z) 3 z') [98, 100, 102]) q = mX σ q := fun q n1 n2 n3 n4 => by
    rw [clX_n n4]
    show mX (clX (rclM (mclM σa z)) GcX) q = mX σ q
    rw [clX_n n3, rclM_n n2]
    show mX (clX σa (MCx z)) q = mX σ q
    rw [clX_n n1, ax]
  have e2 : (clX (wB (wB (wV (clX (rclM (mclM σa z)) GcX) 128 10 0) 2 z) 3 z') [98, 100, 102]).2 = (wB (wB (wV (clX (rclM (mclM σa z)) GcX) 128 10 0) 2 z) 3 z').2 := clX_2
  have eg : (clX (rclM (mclM σa z)) GcX).2 = (rclM (mclM σa z)).2 := clX_2
  have cv : ∀ y k, mV (clX (wB (wB (wV (clX (rclM (mclM σa z)) GcX) 128 10 0) 2 z) 3 z') [98, 100, 102]) y k = mV (wV (clX (rclM (mclM σa z)) GcX) 128 10 0) y k := fun y k => by
    show (clX (wB (wB (wV (clX (rclM (mclM σa z)) GcX) 128 10 0) 2 z) 3 z') [98, 100, 102]).2.1 y k = _
    rw [e2]
    rfl
  have cb : ∀ i, mB (clX (wB (wB (wV (clX (rclM (mclM σa z)) GcX) 128 10 0) 2 z) 3 z') [98, 100, 102]) i = va_up (va_up (mB σa) 2 z) 3 z' i := fun i => by
    show (clX (wB (wB (wV (clX (rclM (mclM σa z)) GcX) 128 10 0) 2 z) 3 z') [98, 100, 102]).2.2.1 i = _
    rw [e2]
    show va_up (va_up (wV (clX (rclM (mclM σa z)) GcX) 128 10 0).2.2.1 2 z) 3 z' i = _
    rw [bb]
  have cw : mW (clX (wB (wB (wV (clX (rclM (mclM σa z)) GcX) 128 10 0) 2 z) 3 z') [98, 100, 102]) = mW σ := by
    show (clX (wB (wB (wV (clX (rclM (mclM σa z)) GcX) 128 10 0) 2 z) 3 z') [98, 100, 102]).2.2.2 = _
    rw [e2]
    show (wV (clX (rclM (mclM σa z)) GcX) 128 10 0).2.2.2 = _
    rw [bb]
    exact aw
  have gv : ∀ y k, ¬ (y = 128 ∧ k = 10) → mV (wV (clX (rclM (mclM σa z)) GcX) 128 10 0) y k = mV (rclM (mclM σa z)) y k := fun y k h => by
    rw [wV_ne (by omega)]
    show (clX (rclM (mclM σa z)) GcX).2.1 y k = _
    rw [eg]
  generalize clX (wB (wB (wV (clX (rclM (mclM σa z)) GcX) 128 10 0) 2 z) 3 z') [98, 100, 102] = σe at cx0 cxn cv cb cw
  show Setter_openRound_61 0 σe Q
  have st : ∀ (n : Nat) (j : Nat) (σ4 : MS), j + n = 4 → (∀ k, k < j → mV σ4 210 k = 0) → (∀ y k, y ≠ 210 → mV σ4 y k = mV σe y k) → mX σ4 = mX σe → σ4.2.2 = σe.2.2 → Setter_openRound_61 (j : Int) σ4 Q := by
    intro n
    induction n with
    | zero =>
      intro j σ4 hj hk hv hx hb
      refine Setter_openRound_61.i ⟨by unfold Rg; omega, fun _ => hq σ4 ⟨fun q h => by rw [hx]; exact cx0 q h, fun q n1 n2 n3 n4 => by rw [hx]; exact cxn q n1 n2 n3 n4, ?_, ?_, ⟨fun k hk => ?_, ?_, ?_, ?_, fun k hk9 => hk k (by omega)⟩, fun y k n1 n2 n3 n4 n5 => ?_⟩ ?_, fun h => absurd h (by omega)⟩
      · have eb : ∀ i, mB σ4 i = mB σe i := fun i => congrFun (congrArg Prod.fst hb) i
        refine ⟨?_, ?_, ?_, ?_, fun i hi => ?_⟩
        · rw [eb, cb]
          exact a0
        · rw [eb, cb]
          exact a1
        · rw [eb, cb]
          rfl
        · rw [eb, cb]
          rfl
        · rw [eb, cb, va_up_ne _ _ (by omega), va_up_ne _ _ (by omega)]
          exact ab i hi
      · exact (congrArg Prod.snd hb).trans cw
      · rw [hv _ _ (by decide), cv, gv _ _ (by omega), rclM_24 hk]
      · rw [hv _ _ (by omega), cv, gv _ _ (by omega), rclM_v (by omega)]
        exact mclM_12
      · rw [hv _ _ (by omega), cv, gv _ _ (by omega), rclM_v (by omega)]
        exact mclM_13
      · rw [hv _ _ (by omega), cv]
        exact wV_self
      · rw [hv _ _ n4, cv, gv _ _ n3, rclM_v n1, mclM_v n2, av _ _ n5]
      · rw [hv _ _ (by omega), cv, gv _ _ (by omega), rclM_v (by omega), mclM_v (by omega)]
        exact a17
    | succ n ih =>
      intro j σ4 hj hk hv hx hb
      refine Setter_openRound_61.i ⟨by unfold Rg; omega, fun h => absurd h (by omega), fun _ => ⟨by omega, by omega, ?_⟩⟩
      rw [Int.toNat_natCast, show (j : Int) + 1 = ((j + 1 : Nat) : Int) by omega]
      refine ih (j + 1) _ (by omega) (fun k hk9 => ?_) (fun y k h => (wV_ne (Or.inl h)).trans (hv y k h)) hx hb
      by_cases e : k = j
      · rw [e]
        exact wV_self
      · rw [wV_ne (Or.inr e)]
        exact hk k (by omega)
  exact st 4 0 σe (by decide) (fun k hk => absurd hk (Nat.not_lt_zero _)) (fun _ _ _ => rfl) rfl rfl
end
