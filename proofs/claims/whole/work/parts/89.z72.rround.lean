/-! A ROUND: the reference, frames and what holds between blocks -/
def RdS9 : List Nat := [342, 343, 344, 345, 346, 347, 300, 349] ++ BkS
def HdS9 : List Nat := [291, 299]
/-- where blocks that set lines write, headings apart -/
def AlP9 (nw z k : Nat) : Prop := (z = 246 ∧ k ∈ 84 :: BkK) ∨ z ∈ RdS9 ∨ (z ∈ TRS ∧ (bkW z = 0 ∨ k / bkW z = nw))
/-- headings too -/
def AlR9 (nw z k : Nat) : Prop := AlP9 nw z k ∨ z ∈ HdS9 ∨ (z = 246 ∧ k = 74) ∨ (z ∈ hdS1 ∧ k / hdW z = nw)
/-- directives too -/
def AlD9 (nw z k : Nat) : Prop := AlR9 nw z k ∨ z ∈ RDS ∨ (z = 246 ∧ k ∈ RDK)
def FrD9 (nw : Nat) (σ σ' : MS) : Prop := FrA (AlD9 nw) σ σ'
/-- what the round before told -/
def BeR9 (σ : MS) (nw : Nat) (B : BF9) : Prop := CtR9 σ (1 - nw) B.2.1 ∧ KyR σ (1 - nw) B.2.2.1 ∧ (∀ i, i < B.2.2.1.length → mV σ 296 (100 * (1 - nw) + i) = B.2.2.2.getD i 0) ∧ (0 < B.2.1.1.length ∨ 0 < B.2.2.1.length → mV σ 246 52 = B.1.2.2.2.1 ∧ mV σ 246 53 = B.1.2.2.2.2)
/-- the reference between blocks -/
def CdR (σ : MS) (M : List Int) (B : BF9) (nw : Nat) (jo : Bool) (d : RD9) : Prop := ScR σ M ∧ BkR σ (rdE B d.2.2.1 d.2.2.2.2.2) nw d.1 ∧ HdR σ nw d.1.2.1.2 d.2.1 ∧ RuR σ d.2.2.1 ∧ (hol σ 299 d.2.2.2.1 ∧ ∃ cn : List Int, cn.length = 3 ∧ hol σ 349 cn ∧ True ∧ (jo = true → cn = d.2.2.2.2.1)) ∧ BeR9 σ nw B
/-- what a block comes to -/
def RyR (Q : MQ9) (σ : MS) (M : List Int) (B : BF9) (nw : Nat) (jo : Bool) (r : RD9 ⊕ RF9) : Prop := (∀ d' σ', r = .inl d' → CdR σ' M B nw jo d' → FrD9 nw σ σ' → Q (.inl none) σ') ∧ ∀ x σ', r = .inr x → ¬ x.2.1 = 0 → TxR σ' x.2 → UnB σ' → RuR σ' x.1 → FrD9 nw σ σ' → Q (.inl none) σ'
section
variable {σ σ0 σ1 : MS} {Q : MQ9} {nw i : Nat} {M : List Int} {B : BF9} {jo : Bool} {d : RD9} {E : TE} {b : BK9}
theorem noP9 {z k : Nat} (h1 : z = 246 → k ∉ 84 :: BkK) (h2 : z ∉ RdS9) (h3 : z ∈ TRS → bkW z ≠ 0 ∧ k / bkW z ≠ nw) : ¬ AlP9 nw z k := fun h => by
  rcases h with h | h | ⟨h, h'⟩
  · exact h1 h.1 h.2
  · exact h2 h
  · rcases h' with h' | h'
    · exact (h3 h).1 h'
    · exact (h3 h).2 h'
theorem noR9 {z k : Nat} (h0 : ¬ AlP9 nw z k) (h1 : z = 246 → k ≠ 74) (h2 : z ∉ HdS9) (h3 : z ∈ hdS1 → k / hdW z ≠ nw) : ¬ AlR9 nw z k := fun h => by
  rcases h with h | h | h | ⟨h, h'⟩
  · exact h0 h
  · exact h2 h
  · exact h1 h.1 h.2
  · exact h3 h h'
theorem FrD9.tr {σ2 : MS} (h : FrD9 nw σ σ1) (h' : FrD9 nw σ1 σ2) : FrD9 nw σ σ2 := FrA.tr h h'
theorem FrD9.r (h : FrA (AlR9 nw) σ σ1) : FrD9 nw σ σ1 := FrA.mo h (fun _ _ a => Or.inl a)
theorem FrD9.p (h : FrA (AlP9 nw) σ σ1) : FrD9 nw σ σ1 := FrA.mo h (fun _ _ a => Or.inl (Or.inl a))
theorem FrD9.di (h : FrZ RDS RDK σ σ1) : FrD9 nw σ σ1 := ⟨h.1, h.2.1, fun z k n => h.2.2 z k (fun e => n (Or.inr (Or.inl e))) (by
  by_cases h6 : z = 246
  · exact Or.inr (fun e => n (Or.inr (Or.inr ⟨h6, e⟩)))
  · exact Or.inl h6)⟩
theorem P9.bb (h : FrB nw σ σ1) : FrA (AlP9 nw) σ σ1 := FrA.mo h (fun z k a => by
  rcases a with ⟨a, a'⟩ | a | a
  · exact Or.inl ⟨a, List.mem_cons_of_mem _ a'⟩
  · exact Or.inr (Or.inl (List.mem_append_right _ a))
  · exact Or.inr (Or.inr a))
theorem P9.it (h : FrI nw σ σ1) : FrA (AlP9 nw) σ σ1 := FrA.mo h (fun z k a => by
  rcases a with (⟨a, a'⟩ | a | a) | a | a | a
  · exact Or.inl ⟨a, List.mem_cons_of_mem _ a'⟩
  · exact Or.inr (Or.inl (List.mem_append_right _ a))
  · exact Or.inr (Or.inr a)
  · rw [a]
    exact Or.inr (Or.inl (by decide))
  · rw [a]
    exact Or.inr (Or.inl (by decide))
  · rw [a.1, a.2]
    exact Or.inl ⟨rfl, List.mem_cons_self⟩)
theorem P9.z {S9 K9 : List Nat} (h : FrZ S9 K9 σ σ1) (hs : ∀ x ∈ S9, x ∈ RdS9 ∨ (x ∈ TRS ∧ bkW x = 0)) (hk : ∀ x ∈ K9, x ∈ 84 :: BkK) : FrA (AlP9 nw) σ σ1 := ⟨h.1, h.2.1, fun z k n => h.2.2 z k (fun e => n (by
  rcases hs z e with h | h
  · exact Or.inr (Or.inl h)
  · exact Or.inr (Or.inr ⟨h.1, Or.inl h.2⟩))) (by
  by_cases h6 : z = 246
  · exact Or.inr (fun e => n (Or.inl ⟨h6, hk k e⟩))
  · exact Or.inl h6)⟩
theorem P9.q (h : FrTq nw σ σ1) : FrA (AlP9 nw) σ σ1 := FrA.mo h (fun z k a => by
  have bl : ∀ x ∈ 347 :: 344 :: 346 :: BlS, x ∈ RdS9 := by decide
  have bk : ∀ x ∈ 146 :: 147 :: 148 :: BlK, x ∈ 84 :: BkK := by decide
  have bt : ∀ x ∈ BtS, x ∈ RdS9 := by decide
  have bq : ∀ x ∈ BtK, x ∈ 84 :: BkK := by decide
  have b3 : ∀ x ∈ [342, 343, 346], x ∈ RdS9 := by decide
  rcases a with ((((⟨a, a'⟩ | a | a) | a) | a) | a) | a | a | a | ⟨a, a'⟩
  · exact Or.inl ⟨a, bq _ a'⟩
  · exact Or.inr (Or.inl (bt _ a))
  · exact Or.inr (Or.inr a)
  · exact Or.inr (Or.inl (b3 _ a))
  · rw [a]
    exact Or.inr (Or.inl (by decide))
  · rw [a]
    exact Or.inr (Or.inl (by decide))
  · exact Or.inr (Or.inl (bl _ a))
  · rw [a]
    exact Or.inr (Or.inl (by decide))
  · rw [a]
    exact Or.inr (Or.inl (by decide))
  · exact Or.inl ⟨a, bk _ a'⟩)
theorem R9.h (h : FrHh nw σ σ1) : FrA (AlR9 nw) σ σ1 := FrA.mo h (fun z k a => by
  rcases a with (⟨a, a'⟩ | a | a) | a | ⟨a, a'⟩ | a
  · exact Or.inl (Or.inl ⟨a, List.mem_cons_of_mem _ a'⟩)
  · exact Or.inl (Or.inr (Or.inl (List.mem_append_right _ a)))
  · exact Or.inl (Or.inr (Or.inr a))
  · rcases List.mem_cons.mp a with e | e
    · rw [e]
      exact Or.inr (Or.inl (by decide))
    · rcases List.mem_cons.mp e with e | e
      · rw [e]
        exact Or.inr (Or.inl (by decide))
      · rw [List.mem_singleton.mp e]
        exact Or.inl (Or.inr (Or.inl (by decide)))
  · rcases a' with a' | a'
    · exact Or.inr (Or.inr (Or.inl ⟨a, a'⟩))
    · rw [a, a']
      exact Or.inl (Or.inl ⟨rfl, List.mem_cons_self⟩)
  · exact Or.inr (Or.inr (Or.inr a)))
/-- what all blocks but directives leave whole -/
def KpS9 : List Nat := [252, 253, 264, 265, 266, 267, 268, 269, 270, 271, 272, 273, 274, 275, 283, 290, 296, 319]
def KpK9 : List Nat := [10, 12, 29, 30, 46, 47, 48, 52, 53, 59]
theorem R9.kz (f : FrA (AlR9 nw) σ σ1) {z k : Nat} (h : z ∈ KpS9) : mV σ1 z k = mV σ z k := f.2.2 z k (by
  have a : ∀ z ∈ KpS9, z ≠ 246 ∧ z ∉ RdS9 ∧ z ∉ TRS ∧ z ∉ HdS9 ∧ z ∉ hdS1 := by decide
  obtain ⟨a1, a2, a3, a4, a5⟩ := a z h
  exact noR9 (noP9 (fun e => absurd e a1) a2 (fun e => absurd e a3)) (fun e => absurd e a1) a4 (fun e => absurd e a5))
theorem R9.kk (f : FrA (AlR9 nw) σ σ1) {k : Nat} (h : k ∈ KpK9) : mV σ1 246 k = mV σ 246 k := f.2.2 246 k (by
  have a : ∀ k ∈ KpK9, k ∉ 84 :: BkK ∧ k ≠ 74 := by decide
  obtain ⟨a1, a2⟩ := a k h
  exact noR9 (noP9 (fun _ => a1) (by decide) (fun e => absurd e (by decide))) (fun _ => a2) (by decide) (fun e => absurd e (by decide)))
theorem ScR.r9 (h : ScR σ M) (f : FrA (AlR9 nw) σ σ1) : ScR σ1 M := ⟨(R9.kk f (by decide)).trans h.1, h.2.1, fun i hi => (R9.kz f (by decide)).trans (h.2.2.1 i hi), (R9.kk f (by decide)).trans h.2.2.2.1, fun i hi => (R9.kz f (by decide)).trans (h.2.2.2.2 i hi)⟩
theorem RuR.r9 {R : RU} (h : RuR σ R) (f : FrA (AlR9 nw) σ σ1) : RuR σ1 R := by
  obtain ⟨h1, h2, h3, h4⟩ := h
  refine ⟨fun k hk => (R9.kz f (by decide)).trans (h1 k hk), fun X => (h2 X).cg (R9.kk f (by decide)) (fun y k y1 y2 => R9.kz f (by
    unfold KpS9
    simp only [List.mem_cons, List.not_mem_nil, or_false]
    omega)) (fun k _ => R9.kz f (by decide)), ⟨(R9.kk f (by decide)).trans h3.1, fun p hp => ?_⟩, ⟨(R9.kk f (by decide)).trans h4.1, fun x hx => ?_⟩⟩
  · obtain ⟨a1, a2, a3⟩ := h3.2 p hp
    exact ⟨(R9.kz f (by decide)).trans a1, fun i hi => (R9.kz f (by decide)).trans (a2 i hi), fun k hk => (R9.kz f (by decide)).trans (a3 k hk)⟩
  · obtain ⟨a1, a2, a3⟩ := h4.2 x hx
    refine ⟨(R9.kz f (by decide)).trans a1, fun i hi => (R9.kz f (by decide)).trans (a2 i hi), fun k hk => ?_⟩
    rw [R9.kz f (by decide)]
    exact a3 k hk
/-- the other bank stays -/
theorem R9.bk (f : FrA (AlR9 nw) σ σ1) (hw : nw ≤ 1) {z w j : Nat} (h : (z, w) ∈ [(286, 70000), (287, 60), (288, 60), (289, 60), (293, 70000), (294, 100), (295, 100), (279, 720), (280, 60), (281, 1920), (282, 60), (285, 1), (292, 1), (298, 1)]) (hj : j < w) : mV σ1 z (w * (1 - nw) + j) = mV σ z (w * (1 - nw) + j) := f.2.2 z _ (by
  have a : ∀ p ∈ [((286 : Nat), (70000 : Nat)), (287, 60), (288, 60), (289, 60), (293, 70000), (294, 100), (295, 100), (279, 720), (280, 60), (281, 1920), (282, 60), (285, 1), (292, 1), (298, 1)], p.1 ≠ 246 ∧ p.1 ∉ RdS9 ∧ (p.1 ∈ TRS → bkW p.1 = p.2) ∧ p.1 ∉ HdS9 ∧ (p.1 ∈ hdS1 → hdW p.1 = p.2) ∧ p.2 ≠ 0 := by decide
  obtain ⟨a1, a2, a3, a4, a5, a6⟩ := a (z, w) h
  have a6 : w ≠ 0 := a6
  have key : (w * (1 - nw) + j) / w ≠ nw := by
    rw [Nat.mul_add_div (by omega), Nat.div_eq_of_lt hj]
    omega
  exact noR9 (noP9 (fun e => absurd e a1) a2 (fun e => by rw [a3 e]; exact ⟨a6, key⟩)) (fun e => absurd e a1) a4 (fun e => by rw [a5 e]; exact key))
theorem suM_at9 : ∀ {K : List (List Int)} {i : Nat}, i < K.length → suM (K.take i) + (K.getD i []).length ≤ suM K
  | [], i, h => absurd h (Nat.not_lt_zero _)
  | a :: r, 0, _ => by
    show 0 + a.length ≤ suM (a :: r)
    rw [show suM (a :: r) = a.length + suM r from rfl]
    omega
  | a :: r, i + 1, h => by
    have ih := suM_at9 (K := r) (i := i) (Nat.lt_of_succ_lt_succ h)
    show suM (a :: r.take i) + (r.getD i []).length ≤ suM (a :: r)
    rw [show suM (a :: r) = a.length + suM r from rfl, show suM (a :: r.take i) = a.length + suM (r.take i) from rfl]
    omega
theorem BeR9.r9 (h : BeR9 σ nw B) (hB : BfI B) (hw : nw ≤ 1) (f : FrA (AlR9 nw) σ σ1) : BeR9 σ1 nw B := by
  obtain ⟨⟨h1, h2⟩, ⟨h3, h4⟩, h5, h6⟩ := h
  have c60 := hB.2.1.1
  have cs := hB.2.1.2.2.2.1
  have i100 := hB.2.2.1.1
  have is := hB.2.2.1.2.2.1
  refine ⟨⟨?_, fun i hi => ?_⟩, ⟨?_, fun i hi => ?_⟩, fun i hi => (R9.kz f (by decide)).trans (h5 i hi), fun e => ⟨(R9.kk f (by decide)).trans (h6 e).1, (R9.kk f (by decide)).trans (h6 e).2⟩⟩
  · have := R9.bk f hw (z := 292) (w := 1) (j := 0) (by decide) (by decide)
    rw [Nat.one_mul, Nat.add_zero] at this
    exact this.trans h1
  · obtain ⟨a1, a2, a3, a4, a5⟩ := h2 i hi
    have sm := suM_at9 hi
    refine ⟨(R9.bk f hw (by decide) (by omega)).trans a1, (R9.bk f hw (by decide) (by omega)).trans a2, fun t ht => ?_, (R9.bk f hw (by decide) (by omega)).trans a4, (R9.kz f (by decide)).trans a5⟩
    have := R9.bk f hw (z := 286) (w := 70000) (j := suM (B.2.1.1.take i) + t) (by decide) (by omega)
    rw [← Nat.add_assoc] at this
    exact this.trans (a3 t ht)
  · have := R9.bk f hw (z := 298) (w := 1) (j := 0) (by decide) (by decide)
    rw [Nat.one_mul, Nat.add_zero] at this
    exact this.trans h3
  · obtain ⟨a1, a2, a3⟩ := h4 i hi
    have sm := suM_at9 hi
    refine ⟨(R9.bk f hw (by decide) (by omega)).trans a1, (R9.bk f hw (by decide) (by omega)).trans a2, fun t ht => ?_⟩
    have := R9.bk f hw (z := 293) (w := 70000) (j := suM (B.2.2.1.take i) + t) (by decide) (by omega)
    rw [← Nat.add_assoc] at this
    exact this.trans (a3 t ht)
/-- headings stay where none is set -/
theorem P9.kz (f : FrA (AlP9 nw) σ σ1) {z k : Nat} (h : z ∈ [286, 287, 288, 289, 291, 292, 299]) : mV σ1 z k = mV σ z k := f.2.2 z k (by
  have a : ∀ z ∈ [286, 287, 288, 289, 291, 292, 299], z ≠ 246 ∧ z ∉ RdS9 ∧ z ∉ TRS := by decide
  obtain ⟨a1, a2, a3⟩ := a z h
  exact noP9 (fun e => absurd e a1) a2 (fun e => absurd e a3))
theorem P9.r (f : FrA (AlP9 nw) σ σ1) : FrA (AlR9 nw) σ σ1 := FrA.mo f (fun _ _ a => Or.inl a)
theorem HdR.p9 {F Z : List Int} {g : HG9} (h : HdR σ nw F g) (f : FrA (AlP9 nw) σ σ1) : HdR σ1 nw (F ++ Z) g := by
  obtain ⟨h1, ⟨h2, h3⟩, h4, h5⟩ := h
  refine ⟨(P9.kz f (by decide)).trans h1, ⟨(f.2.2 246 74 (noP9 (fun _ => by decide) (by decide) (fun e => absurd e (by decide)))).trans h2, fun i hi => ?_⟩, fun i hi => (P9.kz f (by decide)).trans (h4 i hi), fun j hj => ?_⟩
  · obtain ⟨a1, a2, a3⟩ := h3 i hi
    exact ⟨(P9.kz f (by decide)).trans a1, (P9.kz f (by decide)).trans a2, fun t ht => (P9.kz f (by decide)).trans (a3 t ht)⟩
  · rw [P9.kz f (by decide)]
    exact (h5 j hj).app
theorem RuR.hy {R : RU} (h : RuR σ R) : HyR σ (rdH R).2.1 (rdH R).2.2.1 (rdH R).2.2.2.1 (rdH R).2.2.2.2 := ⟨h.2.2.1, h.2.2.2, h.1 4 (by decide), h.1 5 (by decide)⟩
/-- a block that sets lines has changed but what such blocks change -/
theorem CdR.nx {jo' : Bool} {b' : BK9} {cn' Lt' : List Int} (h : CdR σ M B nw jo d) (hB : BfI B) (f : FrA (AlP9 nw) σ σ1) (hK : BkR σ1 (rdE B d.2.2.1 Lt') nw b') (hx : FxL d.1 b') (hcn : ∃ cn : List Int, cn.length = 3 ∧ hol σ1 349 cn ∧ True ∧ (jo' = true → cn = cn')) : CdR σ1 M B nw jo' (b', d.2.1, d.2.2.1, d.2.2.2.1, cn', Lt') := by
  obtain ⟨h1, h2, h3, h4, ⟨h5, -⟩, h6⟩ := h
  have hw := h2.2.1.1.1
  obtain ⟨Z, hZ⟩ := hx
  refine ⟨h1.r9 (P9.r f), hK, ?_, h4.r9 (P9.r f), ⟨fun k hk => (P9.kz f (by decide)).trans (h5 k hk), hcn⟩, h6.r9 hB hw (P9.r f)⟩
  show HdR σ1 nw b'.2.1.2 d.2.1
  rw [hZ]
  exact h3.p9 f
theorem CdR.n0 {b' : BK9} (h : CdR σ M B nw jo d) (hB : BfI B) (f : FrA (AlP9 nw) σ σ1) (h349 : ∀ k, mV σ1 349 k = mV σ 349 k) (hK : BkR σ1 (rdE B d.2.2.1 d.2.2.2.2.2) nw b') (hx : FxL d.1 b') : CdR σ1 M B nw false (b', d.2) := by
  refine h.nx (cn' := d.2.2.2.2.1) (Lt' := d.2.2.2.2.2) hB f hK hx ?_
  obtain ⟨-, -, -, -, ⟨-, cn, c1, c2, c3, -⟩, -⟩ := h
  exact ⟨cn, c1, fun k hk => (h349 k).trans (c2 k hk), c3, fun e => absurd e (by decide)⟩
end
