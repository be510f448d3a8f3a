/-! CHANGED: the reference, and both -/
section
variable {σ σ' : MS} {P : List Nat} {L K : List (List Int)} {O : List Int}
theorem R_areRows.s {Q : MQ9} {x y a b n : Nat} (hx : isBy x = true) (hy : isBy y = true) (ha : a + n ≤ arN x) (hb : b + n ≤ arN y) (ha2 : arN x ≤ 200000) (hb2 : arN y ≤ 200000) (hq : Q (.inl (some (bZ (allR (fun i => decide (mV σ x (a + i) = mV σ y (b + i))) n)))) σ) : R_areRows x (a : Int) y (b : Int) (n : Int) σ Q := by
  obtain ⟨q1, q0⟩ := bZ_q (P := fun r => Q (.inl (some r)) σ) hq
  refine R_areRows.i (loopIs (P := fun is i => R_areRows_6 x (a : Int) y (b : Int) (n : Int) is i σ Q) (f := fun i => decide (mV σ x (a + i) = mV σ y (b + i))) (n := n) (fun i hi h => ?_) (fun e => ?_) (fun e i hi => ?_))
  · obtain ⟨k1, k0⟩ := bZ_q (P := fun r => R_areRows_6 x (a : Int) y (b : Int) (n : Int) r ((i : Int) + 1) σ Q) h
    refine R_areRows_6.i ⟨by unfold Rg; omega, by unfold Rg; omega, fun h9 => absurd h9 (by omega), fun _ => ⟨fun h9 => absurd h9 (by decide), fun _ => tB.i hx ⟨by omega, by omega, tB.i hy ⟨by omega, by omega, ?_⟩⟩⟩⟩
    rw [show ((a : Int) + (i : Int)).toNat = a + i by omega, show ((b : Int) + (i : Int)).toNat = b + i by omega]
    exact ⟨fun c => R_areRows_38.i (k0 (decide_eq_false c)), fun c => R_areRows_38.i (k1 (decide_eq_true c))⟩
  · exact R_areRows_6.i ⟨by unfold Rg; omega, by unfold Rg; omega, fun _ => b01.i (Or.inr rfl) (q1 e), fun h9 => absurd h9 (by omega)⟩
  · exact R_areRows_6.i ⟨by unfold Rg; omega, by unfold Rg; omega, fun _ => b01.i (Or.inl rfl) (q0 e), fun _ => ⟨fun _ => b01.i (Or.inl rfl) (q0 e), fun h9 => absurd rfl h9⟩⟩
theorem sm_all {A B : List Int} (hl : A.length = B.length) : allR (fun i => decide (A.getD i 0 % 128 = B.getD i 0 % 128)) A.length = decide (ms7 A = ms7 B) := by
  rw [Bool.eq_iff_iff, allR_i, decide_eq_true_iff]
  constructor
  · intro h
    refine list_ext (by rw [ms7_len, ms7_len, hl]) (fun t ht => ?_)
    rw [ms7_len] at ht
    rw [ms7_at ht, ms7_at (by omega)]
    exact of_decide_eq_true (h t ht)
  · intro h i hi
    refine decide_eq_true ?_
    rw [← ms7_at hi, ← ms7_at (by omega), h]
theorem ar_322 : arN 322 = 80000 ∧ arN 329 = 80000 ∧ isBy 322 = true ∧ isBy 329 = true := by decide +kernel
/-- lines p and q of the proof, or of the proof and the kept one, as the reference compares them -/
theorem R_rows_LL {Q : MQ9} (h : PgR σ P L O) {p q : Nat} (hp : p < L.length) (hq : q < L.length) (hl : (L.getD q []).length = (L.getD p []).length) (hQ : Q (.inl (some (bZ (smL L L q p)))) σ) : R_areRows 322 (mV σ 324 q) 322 (mV σ 324 p) (mV σ 325 p) σ Q := by
  obtain ⟨a1, -, a3, -⟩ := ar_322
  have c2 := h.2.2.2.1
  obtain ⟨-, -, e3⟩ := sh_at hp
  obtain ⟨-, -, f3⟩ := sh_at hq
  rw [(h.2.2.2.2.2.1 q hq).2.1, (h.2.2.2.2.2.1 p hp).2.1, (h.2.2.2.2.2.1 p hp).1]
  refine R_areRows.s a3 a3 (by rw [a1]; omega) (by rw [a1]; omega) (by rw [a1]; omega) (by rw [a1]; omega) ?_
  have e : allR (fun i => decide (mV σ 322 (suM (L.take q) + i) = mV σ 322 (suM (L.take p) + i))) (L.getD p []).length = smL L L q p := by
    unfold smL
    rw [← sm_all hl, hl]
    refine allR_c (fun i hi => ?_)
    rw [(h.2.2.2.2.2.2 _ (by omega)).1, (h.2.2.2.2.2.2 _ (by omega)).1, fl_at hq (by omega), fl_at hp hi]
  rw [e]
  exact hQ
theorem R_isLine.s {Q : MQ9} (h : PgR σ P L O) (k : KpR σ K) {p q : Nat} (hp : p < L.length) (hq : q < K.length) (hQ : Q (.inl (some (bZ (smL L K p q)))) σ) : R_isLine (p : Int) (q : Int) σ Q := by
  obtain ⟨q1, q0⟩ := bZ_q (P := fun r => Q (.inl (some r)) σ) hQ
  obtain ⟨a1, a2, a3, a4⟩ := ar_322
  have c1 := h.2.2.1
  have c2 := h.2.2.2.1
  obtain ⟨-, -, -, k4, k5, k6, k7⟩ := k
  obtain ⟨-, -, e3⟩ := sh_at hp
  obtain ⟨-, -, f3⟩ := sh_at hq
  refine R_isLine.i ⟨by omega, by omega, by omega, by omega, ?_⟩
  rw [show ((p : Nat) : Int).toNat = p from rfl, show ((q : Nat) : Int).toNat = q from rfl, (h.2.2.2.2.2.1 p hp).1, (k6 q hq).1, (h.2.2.2.2.2.1 p hp).2.1, (k6 q hq).2]
  refine ⟨fun a => q0 (decide_eq_false (fun e => a ?_)), fun a => ⟨by omega, by omega, by omega, by omega, by omega, by omega, ?_⟩⟩
  · have := congrArg List.length e
    rw [ms7_len, ms7_len] at this
    rw [this]
  · have hl : (L.getD p []).length = (K.getD q []).length := by omega
    refine R_areRows.s a3 a4 (by rw [a1]; omega) (by rw [a2]; omega) (by rw [a1]; omega) (by rw [a2]; omega) ?_
    have e : allR (fun i => decide (mV σ 322 (suM (L.take p) + i) = mV σ 329 (suM (K.take q) + i))) (L.getD p []).length = smL L K p q := by
      unfold smL
      rw [← sm_all hl]
      refine allR_c (fun i hi => ?_)
      rw [(h.2.2.2.2.2.2 _ (by omega)).1, k7 _ (by omega), fl_at hp hi, fl_at hq (by omega)]
    rw [e]
    exact ⟨fun b => q0 (bZ_z b), fun b => q1 (bZ_ne b)⟩
theorem PgR.fz {S M : List Nat} (h : PgR σ P L O) (f : FrZ S M σ σ') (hS : ∀ z ∈ [322, 323, 324, 325, 326, 328], z ∉ S) (hM : ∀ k ∈ [123, 124, 125], k ∉ M) (h6 : 246 ∉ S) : PgR σ' P L O := h.cg (fun q _ => by rw [f.1]) (fun z hz k => f.z (hS z hz) (by revert z; decide)) (fun k hk => f.f (hM k hk) h6)
theorem KpR.fz {S M : List Nat} (h : KpR σ K) (f : FrZ S M σ σ') (hS : ∀ z ∈ [329, 330, 331], z ∉ S) (hM : 135 ∉ M) (h6 : 246 ∉ S) : KpR σ' K := h.cg (fun q _ => by rw [f.1]) (fun z hz k => f.z (hS z hz) (by revert z; decide)) (f.f hM h6)
/-- numbers for the lines -/
def NuR (σ : MS) (L K : List (List Int)) (n m : Nat) : Prop := (∀ p, p < n → mV σ 332 p = ((idA L p : Nat) : Int)) ∧ (∀ k, k < m → mV σ 333 k = idB L K k)
theorem R_numbers.s {Q : MQ9} (h : PgR σ P L O) (k : KpR σ K) (hq : ∀ σ', FrZ [332, 333] [] σ σ' → NuR σ' L K L.length K.length → Q (.inl none) σ') : R_numbers σ Q := by
  have c1 := h.2.2.1
  have k4 := k.2.2.2.1
  have hp : ∀ {σ1 : MS}, FrZ [332, 333] [] σ σ1 → PgR σ1 P L O ∧ KpR σ1 K ∧ mV σ1 246 124 = (L.length : Int) ∧ mV σ1 246 135 = (K.length : Int) := fun f => ⟨h.fz f (by decide) (by decide) (by decide), k.fz f (by decide) (by decide) (by decide), by rw [f.f (by decide) (by decide)]; exact h.2.1.2.2.2.2.1, by rw [f.f (by decide) (by decide)]; exact k.2.2.1⟩
  have second : ∀ (m n : Nat), n + m = K.length → ∀ σ1, FrZ [332, 333] [] σ σ1 → NuR σ1 L K L.length n → R_numbers_85 (n : Int) σ1 Q := by
    intro m
    induction m with
    | zero =>
      intro n hn σ1 f1 hN
      obtain ⟨h1, k1, e1, e2⟩ := hp f1
      have : n = K.length := by omega
      subst this
      exact R_numbers_85.i ⟨by unfold Rg; omega, fun _ => hq σ1 f1 hN, fun h9 => absurd h9 (by rw [e2]; omega)⟩
    | succ m ih =>
      intro n hn σ1 f1 hN
      obtain ⟨h1, k1, e1, e2⟩ := hp f1
      have fin : ∀ v : Int, v = idB L K n → R_numbers_136 (n : Int) (n : Int) v σ1 Q := by
        intro v hv
        have hb : Rg v := by
          rw [hv]
          unfold idB Rg
          have := (fsN_i (f := fun q => smL L K q n) L.length 0 (fun i hi => absurd hi (Nat.not_lt_zero i))).1
          split <;> omega
        refine R_numbers_136.i ⟨by omega, by omega, hb, ?_⟩
        refine ih (n + 1) (by omega) _ (f1.tr (FrZ.wz (by decide))) ⟨fun p hp9 => by rw [wV_ne (Or.inl (by decide))]; exact hN.1 p hp9, fun t ht => ?_⟩
        by_cases e : t = n
        · subst e
          rw [show ((t : Nat) : Int).toNat = t from rfl, wV_self, hv]
        · rw [show ((n : Nat) : Int).toNat = n from rfl, wV_ne (Or.inr e)]
          exact hN.2 t (by omega)
      refine R_numbers_85.i ⟨by unfold Rg; omega, fun h9 => absurd h9 (by rw [e2]; omega), fun _ => ?_⟩
      have go : ∀ (m2 q : Nat), q + m2 = L.length → fsN (fun q => smL L K q n) m2 q = fsN (fun q => smL L K q n) L.length 0 → R_numbers_95 (n : Int) (q : Int) σ1 Q := by
        intro m2
        induction m2 with
        | zero =>
          intro q hq2 he
          have hf : fsN (fun q => smL L K q n) L.length 0 = L.length := by rw [← he]; show q = _; omega
          refine R_numbers_95.i ⟨by unfold Rg; omega, fun _ => R_numbers_118.i ⟨by unfold Rg; omega, fun _ => fin _ ?_, fun h9 => absurd h9 (by rw [e1]; omega)⟩, fun h9 => absurd h9 (by rw [e1]; omega)⟩
          unfold idB
          rw [if_neg (by omega)]
        | succ m2 ih2 =>
          intro q hq2 he
          refine R_numbers_95.i ⟨by unfold Rg; omega, fun h9 => absurd h9 (by rw [e1]; omega), fun _ => R_isLine.s h1 k1 (by omega) (by omega) ⟨fun a => R_numbers_118.i ⟨by unfold Rg; omega, fun h9 => absurd h9 (by rw [e1]; omega), fun _ => fin _ ?_⟩, fun a => ih2 (q + 1) (by omega) ?_⟩⟩
          · have hf : fsN (fun q => smL L K q n) L.length 0 = q := by
              rw [← he]
              show (if smL L K q n = true then q else _) = q
              rw [if_pos (bZ_ne a)]
            unfold idB
            rw [hf, if_pos (by omega)]
          · rw [← he]
            show _ = if smL L K q n = true then q else _
            rw [if_neg (by rw [bZ_z a]; decide)]
      exact go L.length 0 (by omega) rfl
  have first : ∀ (m n : Nat), n + m = L.length → ∀ σ1, FrZ [332, 333] [] σ σ1 → NuR σ1 L K n 0 → R_numbers_2 (n : Int) σ1 Q := by
    intro m
    induction m with
    | zero =>
      intro n hn σ1 f1 hN
      obtain ⟨h1, k1, e1, e2⟩ := hp f1
      have : n = L.length := by omega
      subst this
      exact R_numbers_2.i ⟨by unfold Rg; omega, fun _ => second K.length 0 (by omega) σ1 f1 hN, fun h9 => absurd h9 (by rw [e1]; omega)⟩
    | succ m ih =>
      intro n hn σ1 f1 hN
      obtain ⟨h1, k1, e1, e2⟩ := hp f1
      have fin : ∀ q : Nat, q = idA L n → R_numbers_70 (n : Int) (q : Int) σ1 Q := by
        intro q hv
        have hb := (fsN_i (f := fun q => smL L L q n) n 0 (fun i hi => absurd hi (Nat.not_lt_zero i))).1
        have hb2 : q ≤ n := by rw [hv]; unfold idA; omega
        refine R_numbers_70.i ⟨by omega, by omega, by unfold Rg; omega, ?_⟩
        refine ih (n + 1) (by omega) _ (f1.tr (FrZ.wz (by decide))) ⟨fun t ht => ?_, fun t ht => absurd ht (Nat.not_lt_zero t)⟩
        by_cases e : t = n
        · subst e
          rw [show ((t : Nat) : Int).toNat = t from rfl, wV_self, hv]
        · rw [show ((n : Nat) : Int).toNat = n from rfl, wV_ne (Or.inr e)]
          exact hN.1 t (by omega)
      refine R_numbers_2.i ⟨by unfold Rg; omega, fun h9 => absurd h9 (by rw [e1]; omega), fun _ => ?_⟩
      have go : ∀ (m2 q : Nat), q + m2 = n → fsN (fun q => smL L L q n) m2 q = idA L n → R_numbers_12 (n : Int) (q : Int) σ1 Q := by
        intro m2
        induction m2 with
        | zero =>
          intro q hq2 he
          refine R_numbers_12.i ⟨by unfold Rg; omega, by unfold Rg; omega, fun _ => fin q ?_, fun h9 => absurd h9 (by omega)⟩
          rw [← he]
          rfl
        | succ m2 ih2 =>
          intro q hq2 he
          have no : smL L L q n = false → R_numbers_64 (n : Int) (q : Int) σ1 Q := fun a => by
            refine R_numbers_64.i (ih2 (q + 1) (by omega) ?_)
            rw [← he]
            show _ = if smL L L q n = true then q else _
            rw [a, if_neg (by decide)]
          refine R_numbers_12.i ⟨by unfold Rg; omega, by unfold Rg; omega, fun h9 => absurd h9 (by omega), fun _ => ⟨by omega, by omega, by omega, by omega, ?_⟩⟩
          rw [show ((n : Nat) : Int).toNat = n from rfl, show ((q : Nat) : Int).toNat = q from rfl]
          have s1 := (h1.2.2.2.2.2.1 q (by omega)).1
          have s2 := (h1.2.2.2.2.2.1 n (by omega)).1
          refine ⟨fun a => no (decide_eq_false (fun e => a ?_)), fun a => ⟨by omega, by omega, by omega, by omega, by omega, by omega, R_rows_LL h1 (by omega) (by omega) (by omega) ⟨fun b => fin q ?_, fun b => no (bZ_z b)⟩⟩⟩
          · have := congrArg List.length e
            rw [ms7_len, ms7_len] at this
            rw [s1, s2, this]
          · rw [← he]
            show _ = if smL L L q n = true then q else _
            rw [if_pos (bZ_ne b)]
      exact go n 0 (by omega) rfl
  exact R_numbers.i (first L.length 0 (by omega) σ FrZ.rf ⟨fun t ht => absurd ht (Nat.not_lt_zero t), fun t ht => absurd ht (Nat.not_lt_zero t)⟩)
theorem R_common.s {Q : MQ9} (h : PgR σ P L O) (k : KpR σ K) (hq : ∀ σ', FrZ [332, 333, 334, 335] [] σ σ' → Q (.inl (some ((lcN (smL L K) L.length K.length : Nat) : Int))) σ') : R_common σ Q := by
  have c1 := h.2.2.1
  have k4 := k.2.2.2.1
  refine R_common.i (R_numbers.s h k (fun σ0 f0 hN => ?_))
  have hp : ∀ {σ1 : MS}, FrZ [334, 335] [] σ0 σ1 → mV σ1 246 124 = (L.length : Int) ∧ mV σ1 246 135 = (K.length : Int) ∧ NuR σ1 L K L.length K.length := fun f => ⟨by rw [f.f (by decide) (by decide), f0.f (by decide) (by decide)]; exact h.2.1.2.2.2.2.1, by rw [f.f (by decide) (by decide), f0.f (by decide) (by decide)]; exact k.2.2.1, fun p hp9 => by rw [f.z (by decide) (by decide)]; exact hN.1 p hp9, fun t ht => by rw [f.z (by decide) (by decide)]; exact hN.2 t ht⟩
  have rows : ∀ (m p : Nat), p + m = L.length → ∀ σ1, FrZ [334, 335] [] σ0 σ1 → (∀ t, t ≤ K.length → mV σ1 334 t = ((lcN (smL L K) p t : Nat) : Int)) → R_common_29 (p : Int) σ1 Q := by
    intro m
    induction m with
    | zero =>
      intro p hpm σ1 f1 hA
      obtain ⟨e1, e2, -⟩ := hp f1
      refine R_common_29.i ⟨by unfold Rg; omega, fun _ => ⟨by omega, by omega, ?_⟩, fun h9 => absurd h9 (by rw [e1]; omega)⟩
      have : p = L.length := by omega
      rw [e2, show ((K.length : Nat) : Int).toNat = K.length from rfl, hA _ (Nat.le_refl _), this]
      exact hq σ1 ((f0.mo (by decide) (by decide)).tr (f1.mo (by decide) (by decide)))
    | succ m ih =>
      intro p hpm σ1 f1 hA
      obtain ⟨e1, e2, -⟩ := hp f1
      have back : ∀ (m2 t : Nat), t + m2 = K.length + 1 → ∀ σ2, FrZ [334, 335] [] σ0 σ2 → (∀ j, j ≤ K.length → mV σ2 335 j = ((lcN (smL L K) (p + 1) j : Nat) : Int)) → (∀ j, j < t → mV σ2 334 j = ((lcN (smL L K) (p + 1) j : Nat) : Int)) → R_common_130 (p : Int) (t : Int) σ2 Q := by
        intro m2
        induction m2 with
        | zero =>
          intro t ht σ2 f2 hB hC
          obtain ⟨g1, g2, -⟩ := hp f2
          exact R_common_130.i ⟨by unfold Rg; omega, fun _ => ih (p + 1) (by omega) σ2 f2 (fun j hj => hC j (by omega)), fun h9 => absurd h9 (by rw [g2]; omega)⟩
        | succ m2 ih2 =>
          intro t ht σ2 f2 hB hC
          obtain ⟨g1, g2, -⟩ := hp f2
          refine R_common_130.i ⟨by unfold Rg; omega, fun h9 => absurd h9 (by rw [g2]; omega), fun _ => ⟨by omega, by omega, by omega, by omega, ?_⟩⟩
          rw [show ((t : Nat) : Int).toNat = t from rfl, hB t (by omega)]
          refine ih2 (t + 1) (by omega) _ (f2.tr (FrZ.wz (by decide))) (fun j hj => by rw [wV_ne (Or.inl (by decide))]; exact hB j hj) (fun j hj => ?_)
          by_cases e : j = t
          · subst e; exact wV_self
          · rw [wV_ne (Or.inr e)]; exact hC j (by omega)
      have inner : ∀ (m2 t : Nat), t + m2 = K.length → ∀ σ2, FrZ [334, 335] [] σ0 σ2 → (∀ j, j ≤ K.length → mV σ2 334 j = ((lcN (smL L K) p j : Nat) : Int)) → (∀ j, j ≤ t → mV σ2 335 j = ((lcN (smL L K) (p + 1) j : Nat) : Int)) → R_common_46 (p : Int) (t : Int) σ2 Q := by
        intro m2
        induction m2 with
        | zero =>
          intro t ht σ2 f2 hA2 hB
          obtain ⟨g1, g2, -⟩ := hp f2
          exact R_common_46.i ⟨by unfold Rg; omega, fun _ => back (K.length + 1) 0 (by omega) σ2 f2 (fun j hj => hB j (by omega)) (fun j hj => absurd hj (Nat.not_lt_zero j)), fun h9 => absurd h9 (by rw [g2]; omega)⟩
        | succ m2 ih2 =>
          intro t ht σ2 f2 hA2 hB
          obtain ⟨g1, g2, hN2⟩ := hp f2
          have last : ∀ v : Int, v = ((lcN (smL L K) (p + 1) (t + 1) : Nat) : Int) → R_common_121 (p : Int) (t : Int) ((t : Int) + 1) v σ2 Q := by
            intro v hv
            have b := lcN_le (f := smL L K) (p + 1) (t + 1)
            refine R_common_121.i ⟨by omega, by omega, by unfold Rg; omega, ?_⟩
            rw [show ((t : Int) + 1).toNat = t + 1 by omega]
            refine ih2 (t + 1) (by omega) _ (f2.tr (FrZ.wz (by decide))) (fun j hj => by rw [wV_ne (Or.inl (by decide))]; exact hA2 j hj) (fun j hj => ?_)
            by_cases e : j = t + 1
            · subst e; rw [wV_self]; exact hv
            · rw [wV_ne (Or.inr e)]; exact hB j (by omega)
          refine R_common_46.i ⟨by unfold Rg; omega, fun h9 => absurd h9 (by rw [g2]; omega), fun _ => ⟨by omega, by omega, by omega, by omega, ?_⟩⟩
          rw [show ((p : Nat) : Int).toNat = p from rfl, show ((t : Nat) : Int).toNat = t from rfl, show ((t : Int) + 1).toNat = t + 1 by omega, hN2.1 p (by omega), hN2.2 t (by omega), hA2 t (by omega), hA2 (t + 1) (by omega), hB t (Nat.le_refl _)]
          refine ⟨fun a => ⟨by omega, by omega, by omega, by omega, fun b => ⟨by omega, by omega, last _ ?_⟩, fun b => ⟨by omega, by omega, last _ ?_⟩⟩, fun a => ⟨by omega, by omega, last _ ?_⟩⟩
          · rw [lcN_s, if_neg (fun e => a ((id_ok (by omega)).mpr e))]; omega
          · rw [lcN_s, if_neg (fun e => a ((id_ok (by omega)).mpr e))]; omega
          · rw [lcN_s, if_pos ((id_ok (by omega)).mp a)]; rfl
      refine R_common_29.i ⟨by unfold Rg; omega, fun h9 => absurd h9 (by rw [e1]; omega), fun _ => ⟨by decide, by decide, ?_⟩⟩
      refine inner K.length 0 (by omega) _ (f1.tr (FrZ.wz (by decide))) (fun j hj => by rw [wV_ne (Or.inl (by decide))]; exact hA j hj) (fun j hj => ?_)
      have : j = 0 := by omega
      subst this
      rw [lcN_0]
      exact wV_self
  have zero : ∀ (m t : Nat), t + m = K.length + 1 → ∀ σ1, FrZ [334, 335] [] σ0 σ1 → (∀ j, j < t → mV σ1 334 j = 0) → R_common_6 (t : Int) σ1 Q := by
    intro m
    induction m with
    | zero =>
      intro t ht σ1 f1 hA
      obtain ⟨g1, g2, -⟩ := hp f1
      exact R_common_6.i ⟨by unfold Rg; omega, fun _ => rows L.length 0 (by omega) σ1 f1 (fun j hj => hA j (by omega)), fun h9 => absurd h9 (by rw [g2]; omega)⟩
    | succ m ih =>
      intro t ht σ1 f1 hA
      obtain ⟨g1, g2, -⟩ := hp f1
      refine R_common_6.i ⟨by unfold Rg; omega, fun h9 => absurd h9 (by rw [g2]; omega), fun _ => ⟨by omega, by omega, ?_⟩⟩
      rw [show ((t : Nat) : Int).toNat = t from rfl]
      refine ih (t + 1) (by omega) _ (f1.tr (FrZ.wz (by decide))) (fun j hj => ?_)
      by_cases e : j = t
      · subst e; exact wV_self
      · rw [wV_ne (Or.inr e)]; exact hA j (by omega)
  exact zero (K.length + 1) 0 (by omega) σ0 FrZ.rf (fun j hj => absurd hj (Nat.not_lt_zero j))
theorem R_changed_73.s {Q : MQ9} (h : PgR σ P L O) (k : KpR σ K) (hq : Q (.inl (some (if fcD L K = L.length ∧ fcD L K = K.length then -1 else ((fcD L K : Nat) : Int)))) σ) : R_changed_73 0 σ Q := by
  have c1 := h.2.2.1
  have k4 := k.2.2.2.1
  have e1 : mV σ 246 124 = (L.length : Int) := h.2.1.2.2.2.2.1
  have e2 : mV σ 246 135 = (K.length : Int) := k.2.2.1
  have fin : R_changed_104 ((fcD L K : Nat) : Int) σ Q := by
    have hb := (fsN_i (f := fun i => !smL L K i i) (min L.length K.length) 0 (fun i hi => absurd hi (Nat.not_lt_zero i))).1
    have hb2 : fcD L K ≤ 6100 := by unfold fcD; omega
    refine R_changed_104.i ⟨by unfold Rg; omega, fun a => ⟨by unfold Rg; omega, ?_⟩, fun a => ⟨by unfold Rg; omega, fun b => ⟨by unfold Rg; omega, ?_⟩, fun b => ?_⟩⟩
    · rw [if_neg (by omega)] at hq; exact hq
    · rw [if_neg (by omega)] at hq; exact hq
    · rw [if_pos (by omega)] at hq; exact hq
  have go : ∀ (m i : Nat), i + m = min L.length K.length → fsN (fun i => !smL L K i i) m i = fcD L K → R_changed_73 (i : Int) σ Q := by
    intro m
    induction m with
    | zero =>
      intro i hi he
      have hf : fcD L K = i := he.symm
      rw [hf] at fin
      exact R_changed_73.i ⟨by unfold Rg; omega, fun _ => fin, fun h1 => ⟨by unfold Rg; omega, fun _ => fin, fun h9 => absurd h9 (by omega)⟩⟩
    | succ m ih =>
      intro i hi he
      refine R_changed_73.i ⟨by unfold Rg; omega, fun h9 => absurd h9 (by omega), fun _ => ⟨by unfold Rg; omega, fun h9 => absurd h9 (by omega), fun _ => R_isLine.s h k (by omega) (by omega) ⟨fun a => ?_, fun a => ih (i + 1) (by omega) ?_⟩⟩⟩
      · have hf : fcD L K = i := by
          rw [← he]
          show (if (!smL L K i i) = true then i else _) = i
          rw [bZ_z a]
          rfl
        rw [hf] at fin
        exact fin
      · rw [← he]
        show _ = if (!smL L K i i) = true then i else _
        rw [bZ_ne a]
        rfl
  exact go (min L.length K.length) 0 (by omega) rfl
/-- changed: both answer alike -/
theorem changed_b {x : Int} (hx : Rg x) (h : PrR σ) (k : KeR σ) : (∃ e t : Nat, (e = 0 ∧ t = 1 ∨ e = 2 ∧ t = 2) ∧ (∀ Q : MQ9, Q (.inr (exN e)) σ → T_changed x σ Q) ∧ (∀ Q : MQ9, Q (.inl (some 0)) (wV σ 246 0 (t : Int)) → R_changed x σ Q)) ∨ ∃ v : Int, (∀ Q : MQ9, (∀ σ1, Fr [224] [] [] σ σ1 → Q (.inl (some v)) σ1) → T_changed x σ Q) ∧ ∀ σ1, Fr [224] [] [] σ σ1 → ∀ Q : MQ9, (∀ σ2, FrZ [332, 333, 334, 335] [] (wV σ1 246 0 0) σ2 → Q (.inl (some v)) σ2) → R_changed x σ1 Q := by
  rcases h with ⟨h0, h1⟩ | ⟨h0, h1, P, L, O, h⟩
  · exact Or.inl ⟨0, 1, Or.inl ⟨rfl, rfl⟩, fun Q hq => T_changed.i (none_T h0 _ hq), fun Q hq => R_changed.i ⟨fun _ => R_changed_15.i (R_changed_33.i ⟨fun h9 => absurd h9 (by decide), fun _ => hq⟩), fun h9 => absurd h1 h9⟩⟩
  · rcases k with ⟨k0, k1⟩ | ⟨k0, k1, K, k⟩
    · exact Or.inl ⟨0, 1, Or.inl ⟨rfl, rfl⟩, fun Q hq => T_changed.i (T_needProof.i ⟨fun _ => T_needKept.i ⟨fun h9 => absurd k0 h9, fun _ => hq⟩, fun h9 => absurd h9 (by rw [h0]; decide)⟩), fun Q hq => R_changed.i ⟨fun h9 => absurd h9 (by rw [h1]; decide), fun _ => ⟨fun h9 => absurd k1 h9, fun _ => R_changed_15.i (R_changed_33.i ⟨fun h9 => absurd h9 (by decide), fun _ => hq⟩)⟩⟩⟩
    · have tt : ∀ {Q : MQ9}, (Rg x ∧ ((x < 0 ∨ 2 < x) → Q (.inr (exN 2)) σ) ∧ (x = 0 → Proof_lineCount 212 σ (kI (thQ Q) fun r3 σ3 => Proof_common 212 229 σ3 (kI (thQ Q) fun r4 σ4 => Rg (r3 - r4) ∧ Q (.inl (some (r3 - r4))) σ4))) ∧ (x = 1 → Proof_lineCount 229 σ (kI (thQ Q) fun r5 σ5 => Proof_common 212 229 σ5 (kI (thQ Q) fun r6 σ6 => Rg (r5 - r6) ∧ Q (.inl (some (r5 - r6))) σ6))) ∧ (x = 2 → Proof_firstChange 212 229 σ (kI (thQ Q) fun r7 σ7 => Q (.inl (some r7)) σ7)) ∧ True) → T_changed x σ Q := fun hh => T_changed.i (T_needProof.i ⟨fun _ => T_needKept.i ⟨fun _ => hh, fun h9 => absurd h9 (by rw [k0]; decide)⟩, fun h9 => absurd h9 (by rw [h0]; decide)⟩)
      have c1 := h.2.2.1
      have k4 := k.2.2.2.1
      have n1 : (mX σ (212 + 1 + 3)).length = L.length := by rw [show mX σ (212 + 1 + 3) = enS 0 L from h.1.2.1.2, enS_len]
      have n2 : (mX σ (229 + 1 + 3)).length = K.length := by rw [show mX σ (229 + 1 + 3) = enS 0 K from k.1.2, enS_len]
      have lb := lcN_le (f := smL L K) L.length K.length
      have rr : ∀ {σ1 : MS}, Fr [224] [] [] σ σ1 → PgR (wV σ1 246 0 0) P L O ∧ KpR (wV σ1 246 0 0) K ∧ mV σ1 246 114 = 1 ∧ mV σ1 246 115 = 1 ∧ mV σ1 246 124 = (L.length : Int) ∧ mV σ1 246 135 = (K.length : Int) := fun f => by
        have a := h.cg (σ' := wV _ 246 0 0) (fun q hq => f.x (by revert q; decide)) (fun z hz k => (wV_ne (Or.inl (by revert z; decide))).trans (f.z List.not_mem_nil (by revert z; decide))) (fun k hk => (wV_ne (Or.inr (by revert k; decide))).trans (f.f List.not_mem_nil List.not_mem_nil))
        have b := k.cg (σ' := wV _ 246 0 0) (fun q hq => f.x (by revert q; decide)) (fun z hz k => (wV_ne (Or.inl (by revert z; decide))).trans (f.z List.not_mem_nil (by revert z; decide))) ((wV_ne (Or.inr (by decide))).trans (f.f List.not_mem_nil List.not_mem_nil))
        exact ⟨a, b, by rw [f.f List.not_mem_nil List.not_mem_nil]; exact h1, by rw [f.f List.not_mem_nil List.not_mem_nil]; exact k1, by rw [f.f List.not_mem_nil List.not_mem_nil]; exact h.2.1.2.2.2.2.1, by rw [f.f List.not_mem_nil List.not_mem_nil]; exact k.2.2.1⟩
      have r0 : ∀ {σ1 : MS} {Q : MQ9}, Fr [224] [] [] σ σ1 → 0 ≤ x ∧ x ≤ 2 → R_changed_33 x 0 σ1 Q → R_changed x σ1 Q := fun f hx2 hh => by
        obtain ⟨-, -, g1, g2, -⟩ := rr f
        exact R_changed.i ⟨fun h9 => absurd h9 (by rw [g1]; decide), fun _ => ⟨fun _ => ⟨hx, fun h9 => absurd h9 (by omega), fun _ => ⟨hx, fun _ => hh, fun h9 => absurd h9 (by omega)⟩⟩, fun h9 => absurd h9 (by rw [g2]; decide)⟩⟩
      by_cases x0 : x = 0
      · refine Or.inr ⟨(L.length : Int) - ((lcN (smL L K) L.length K.length : Nat) : Int), fun Q hq => tt ⟨hx, fun h9 => absurd h9 (by omega), fun _ => ?_, fun h9 => absurd h9 (by omega), fun h9 => absurd h9 (by omega), trivial⟩, fun σ1 f Q hq => r0 f (by omega) ?_⟩
        · exact Proof_lineCount.i (tB.i rfl (tB.i rfl (rows_s rfl rfl n1 (Proof_common.s h k (fun M => ⟨by unfold Rg; omega, hq _ (Fr.wx (by decide))⟩)))))
        · obtain ⟨p1, p2, g1, g2, g3, g4⟩ := rr f
          refine R_changed_33.i ⟨fun _ => ⟨hx, fun h9 => absurd h9 (by omega), fun _ => ⟨hx, fun h9 => absurd x0 h9, fun _ => R_changed_65.i (R_common.s p1 p2 (fun σ2 f2 => ?_))⟩⟩, fun h9 => absurd rfl h9⟩
          rw [g3]
          exact ⟨by unfold Rg; omega, hq σ2 f2⟩
      · by_cases x1 : x = 1
        · have lb2 := lcN_le2 (f := smL L K) K.length L.length
          refine Or.inr ⟨(K.length : Int) - ((lcN (smL L K) L.length K.length : Nat) : Int), fun Q hq => tt ⟨hx, fun h9 => absurd h9 (by omega), fun h9 => absurd h9 (by omega), fun _ => ?_, fun h9 => absurd h9 (by omega), trivial⟩, fun σ1 f Q hq => r0 f (by omega) ?_⟩
          · exact Proof_lineCount.i (tB.i rfl (tB.i rfl (rows_s rfl rfl n2 (Proof_common.s h k (fun M => ⟨by unfold Rg; omega, hq _ (Fr.wx (by decide))⟩)))))
          · obtain ⟨p1, p2, g1, g2, g3, g4⟩ := rr f
            refine R_changed_33.i ⟨fun _ => ⟨hx, fun h9 => absurd h9 (by omega), fun _ => ⟨hx, fun _ => R_changed_65.i (R_common.s p1 p2 (fun σ2 f2 => ?_)), fun h9 => absurd h9 x0⟩⟩, fun h9 => absurd rfl h9⟩
            rw [g4]
            exact ⟨by unfold Rg; omega, hq σ2 f2⟩
        · by_cases x2 : x = 2
          · refine Or.inr ⟨(if fcD L K = L.length ∧ fcD L K = K.length then -1 else ((fcD L K : Nat) : Int)), fun Q hq => tt ⟨hx, fun h9 => absurd h9 (by omega), fun h9 => absurd h9 x0, fun h9 => absurd h9 x1, fun _ => ?_, trivial⟩, fun σ1 f Q hq => r0 f (by omega) ?_⟩
            · exact Proof_firstChange.s h k (hq σ Fr.rf)
            · obtain ⟨p1, p2, g1, g2, g3, g4⟩ := rr f
              exact R_changed_33.i ⟨fun _ => ⟨hx, fun _ => R_changed_73.s p1 p2 (hq _ FrZ.rf), fun h9 => absurd h9 (by omega)⟩, fun h9 => absurd rfl h9⟩
          · refine Or.inl ⟨2, 2, Or.inr ⟨rfl, rfl⟩, fun Q hq => tt ⟨hx, fun _ => hq, fun h9 => absurd h9 x0, fun h9 => absurd h9 x1, fun h9 => absurd h9 x2, trivial⟩, fun Q hq => ?_⟩
            have n28 : R_changed_28 x σ Q := R_changed_28.i (R_changed_33.i ⟨fun h9 => absurd h9 (by decide), fun _ => hq⟩)
            exact R_changed.i ⟨fun h9 => absurd h9 (by rw [h1]; decide), fun _ => ⟨fun _ => ⟨hx, fun _ => n28, fun a => ⟨hx, fun h9 => absurd h9 (by omega), fun _ => n28⟩⟩, fun h9 => absurd h9 (by rw [k1]; decide)⟩⟩
end
