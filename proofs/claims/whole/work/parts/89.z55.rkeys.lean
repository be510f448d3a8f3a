/-! INDEX: keys compared and put in order, the reference -/
def KyR (σ : MS) (n : Nat) (K : List (List Int)) : Prop := mV σ 298 n = (K.length : Int) ∧ ∀ i, i < K.length → mV σ 294 (100 * n + i) = ((70000 * n + suM (K.take i) : Nat) : Int) ∧ mV σ 295 (100 * n + i) = ((K.getD i []).length : Int) ∧ holA σ 293 (70000 * n + suM (K.take i)) (K.getD i [])
/-- the least key behind one (all where one is -1), the first of its like -/
def kbN (K : List (List Int)) (one : Int) : Nat → Int
  | 0 => -1
  | m + 1 => if 0 ≤ one ∧ cpK (kyA K m) (kyA K one.toNat) ≤ 0 then kbN K one m else if kbN K one m < 0 ∨ cpK (kyA K m) (kyA K (kbN K one m).toNat) < 0 then (m : Int) else kbN K one m
theorem kbN_b {K : List (List Int)} {one : Int} : ∀ m, -1 ≤ kbN K one m ∧ kbN K one m < (m : Int) ∨ (m = 0 ∧ kbN K one m = -1)
  | 0 => Or.inr ⟨rfl, rfl⟩
  | m + 1 => by
    have ih := kbN_b (K := K) (one := one) m
    refine Or.inl ?_
    unfold kbN
    split
    · omega
    · split <;> omega
/-- whether a key comes behind -/
def kbQ (K : List (List Int)) (one : Int) (j : Nat) : Prop := one < 0 ∨ kLt (kyA K one.toNat) (kyA K j)
theorem kbN_s {K : List (List Int)} {one : Int} : ∀ m, (kbN K one m = -1 ∧ ∀ j, j < m → ¬ kbQ K one j) ∨ ∃ x : Nat, kbN K one m = (x : Int) ∧ x < m ∧ kbQ K one x ∧ (∀ j, j < m → kbQ K one j → ¬ kLt (kyA K j) (kyA K x)) ∧ ∀ j, j < x → kbQ K one j → kyA K j ≠ kyA K x
  | 0 => Or.inl ⟨rfl, fun j hj => absurd hj (Nat.not_lt_zero _)⟩
  | m + 1 => by
    have ih := kbN_s (K := K) (one := one) m
    unfold kbN
    by_cases h : 0 ≤ one ∧ cpK (kyA K m) (kyA K one.toNat) ≤ 0
    · rw [if_pos h]
      have nq : ¬ kbQ K one m := by
        rintro (h1 | h1)
        · omega
        · have := cpK_g.mpr h1
          omega
      rcases ih with ⟨e, hj⟩ | ⟨x, e, h1, h2, h3, h4⟩
      · refine Or.inl ⟨e, fun j hj2 => ?_⟩
        by_cases ej : j = m
        · rw [ej]
          exact nq
        · exact hj j (by omega)
      · refine Or.inr ⟨x, e, by omega, h2, fun j hj hq => ?_, h4⟩
        by_cases ej : j = m
        · rw [ej] at hq
          exact absurd hq nq
        · exact h3 j (by omega) hq
    · rw [if_neg h]
      have hq : kbQ K one m := by
        by_cases h0 : one < 0
        · exact Or.inl h0
        · refine Or.inr (cpK_g.mp ?_)
          rcases Int.lt_or_le 0 (cpK (kyA K m) (kyA K one.toNat)) with l | l
          · exact l
          · exact absurd ⟨by omega, l⟩ h
      rcases ih with ⟨e, hj⟩ | ⟨x, e, h1, h2, h3, h4⟩
      · rw [e, if_pos (Or.inl (by decide))]
        refine Or.inr ⟨m, rfl, by omega, hq, fun j hj2 hq2 => ?_, fun j hj2 hq2 => absurd hq2 (hj j hj2)⟩
        by_cases ej : j = m
        · rw [ej]
          exact kLt_ir
        · exact absurd hq2 (hj j (by omega))
      · rw [e, Int.toNat_natCast]
        by_cases hl : cpK (kyA K m) (kyA K x) < 0
        · rw [if_pos (Or.inr hl)]
          have hl := cpK_l.mp hl
          refine Or.inr ⟨m, rfl, by omega, hq, fun j hj2 hq2 => ?_, fun j hj2 hq2 ej => ?_⟩
          · by_cases ej : j = m
            · rw [ej]
              exact kLt_ir
            · intro h9
              exact h3 j (by omega) hq2 (kLt_tr h9 hl)
          · rw [← ej] at hl
            exact h3 j hj2 hq2 hl
        · rw [if_neg (fun h9 => by
            rcases h9 with h9 | h9
            · omega
            · exact hl h9)]
          refine Or.inr ⟨x, rfl, by omega, h2, fun j hj2 hq2 => ?_, h4⟩
          by_cases ej : j = m
          · rw [ej]
            exact fun h9 => hl (cpK_l.mpr h9)
          · exact h3 j (by omega) hq2
theorem pw_at {R : Nat → Nat → Prop} : ∀ {O : List Nat} {i j : Nat}, O.Pairwise R → i < j → j < O.length → R (O.getD i 0) (O.getD j 0)
  | [], _, _, _, _, h => absurd h (Nat.not_lt_zero _)
  | x :: r, 0, j + 1, hp, _, hj => (List.pairwise_cons.mp hp).1 _ (by
    show r.getD j 0 ∈ r
    unfold List.getD
    rw [List.getElem?_eq_getElem (Nat.lt_of_succ_lt_succ hj), Option.getD_some]
    exact List.getElem_mem _)
  | x :: r, i + 1, j + 1, hp, hij, hj => by
    have := pw_at (O := r) (i := i) (j := j) (List.pairwise_cons.mp hp).2 (Nat.lt_of_succ_lt_succ hij) (Nat.lt_of_succ_lt_succ hj)
    exact this
theorem mem_at {O : List Nat} {x : Nat} (h : x ∈ O) : ∃ i, i < O.length ∧ O.getD i 0 = x := by
  obtain ⟨i, hi, e⟩ := List.getElem_of_mem h
  refine ⟨i, hi, ?_⟩
  unfold List.getD
  rw [List.getElem?_eq_getElem hi]
  exact e
theorem gdn_mem {O : List Nat} {i : Nat} (h : i < O.length) : O.getD i 0 ∈ O := by
  unfold List.getD
  rw [List.getElem?_eq_getElem h, Option.getD_some]
  exact List.getElem_mem _
/-- the key that comes next is the next one of the order -/
theorem kbN_o {K : List (List Int)} {O : List Nat} (h : OrS K K.length O) {one : Int} {i : Nat} (hi : i ≤ O.length) (h1 : i = 0 ∧ one = -1 ∨ 1 ≤ i ∧ one = (O.getD (i - 1) 0 : Int)) : kbN K one K.length = if i < O.length then (O.getD i 0 : Int) else -1 := by
  obtain ⟨p1, p2, p3⟩ := h
  -- what comes behind is what stands at i or later
  have hq : ∀ j, j < O.length → (kbQ K one (O.getD j 0) ↔ i ≤ j) := fun j hj => by
    rcases h1 with ⟨e0, e1⟩ | ⟨e0, e1⟩
    · exact ⟨fun _ => by omega, fun _ => Or.inl (by omega)⟩
    · rw [e1]
      unfold kbQ
      rw [Int.toNat_natCast]
      refine ⟨fun h => ?_, fun h => Or.inr (pw_at p1 (by omega) hj)⟩
      rcases h with h | h
      · omega
      · rcases Nat.lt_or_ge j i with l | l
        · by_cases ej : j = i - 1
          · rw [ej] at h
            exact absurd h kLt_ir
          · exact absurd (pw_at (i := j) (j := i - 1) p1 (by omega) (by omega)) (kLt_as h)
        · exact l
  have hK : ∀ m, m < K.length → kbQ K one m → ∃ j, i ≤ j ∧ j < O.length ∧ kyA K (O.getD j 0) = kyA K m := fun m hm h => by
    obtain ⟨x, hx, ex⟩ := p3 m hm
    obtain ⟨j, hj, ej⟩ := mem_at hx
    refine ⟨j, (hq j hj).mp ?_, hj, by rw [ej]; exact ex⟩
    unfold kbQ at h ⊢
    rw [ej, ex]
    exact h
  rcases kbN_s (K := K) (one := one) K.length with ⟨e, hn⟩ | ⟨x, e, x1, x2, x3, x4⟩
  · rw [e, if_neg]
    intro hlt
    have hm := (p2 _ (gdn_mem hlt)).1
    exact hn _ hm ((hq i hlt).mpr (Nat.le_refl _))
  · obtain ⟨j, j1, j2, j3⟩ := hK x x1 x2
    have hlt : i < O.length := by omega
    rw [e, if_pos hlt]
    have hm := p2 _ (gdn_mem hlt)
    have qi := (hq i hlt).mpr (Nat.le_refl _)
    -- the key of x is that of O's place i
    have eK : kyA K (O.getD i 0) = kyA K x := by
      by_cases ej : j = i
      · rw [← ej]
        exact j3
      · have := pw_at (i := i) (j := j) p1 (by omega) j2
        unfold kR at this
        rw [j3] at this
        exact absurd this (x3 _ hm.1 qi)
    rcases Nat.lt_trichotomy x (O.getD i 0) with l | l | l
    · exact absurd eK.symm (hm.2 x l)
    · rw [l]
    · exact absurd eK (x4 _ l qi)
section
variable {σ σ0 : MS} {Q : MQ9} {n : Nat} {K : List (List Int)}
theorem KyR.z {S9 K9 : List Nat} {σ1 : MS} (h : KyR σ n K) (f : FrZ S9 K9 σ σ1) (hs : ∀ z ∈ [293, 294, 295, 298], z ∉ S9) : KyR σ1 n K := ⟨(f.z (hs _ (by decide)) (by decide)).trans h.1, fun i hi => by
  obtain ⟨a1, a2, a3⟩ := h.2 i hi
  exact ⟨(f.z (hs _ (by decide)) (by decide)).trans a1, (f.z (hs _ (by decide)) (by decide)).trans a2, a3.cg (fun k _ _ => f.z (hs _ (by decide)) (by decide))⟩⟩
theorem kya_mem {x : Nat} (h : x < K.length) : kyA K x ∈ K := by
  unfold kyA List.getD
  rw [List.getElem?_eq_getElem h, Option.getD_some]
  exact List.getElem_mem _
/-- keys compared, the reference -/
theorem R_compare.p {i j : Nat} (hn : n ≤ 1) (hK : KyR σ n K) (hs : suM K ≤ 65536) (hb : ∀ w ∈ K, smB w) (hKl : K.length ≤ 100) (hi : i < K.length) (hj : j < K.length) (hq : Q (.inl (some (cpK (kyA K i) (kyA K j)))) σ) : R_compare ((100 * n + i : Nat) : Int) ((100 * n + j : Nat) : Int) σ Q := by
  obtain ⟨a1, a2, a3⟩ := hK.2 i hi
  obtain ⟨c1, c2, c3⟩ := hK.2 j hj
  have si := suM_tk (W := K) (i := i) hi
  have sj := suM_tk (W := K) (i := j) hj
  have ba := hb _ (kya_mem hi)
  have bb := hb _ (kya_mem hj)
  have a2 : mV σ 295 (100 * n + i) = ((kyA K i).length : Int) := a2
  have c2 : mV σ 295 (100 * n + j) = ((kyA K j).length : Int) := c2
  have a3 : holA σ 293 (70000 * n + suM (K.take i)) (kyA K i) := a3
  have c3 : holA σ 293 (70000 * n + suM (K.take j)) (kyA K j) := c3
  have si : suM (K.take i) + (kyA K i).length ≤ suM K := si
  have sj : suM (K.take j) + (kyA K j).length ≤ suM K := sj
  generalize kyA K i = a at *
  generalize kyA K j = b at *
  have dr : ∀ {a : List Int} {k : Nat}, k < a.length → a.drop k = a.getD k 0 :: a.drop (k + 1) := fun {a k} h => by
    rw [List.drop_eq_getElem_cons h]
    unfold List.getD
    rw [List.getElem?_eq_getElem h]
    rfl
  have nl : ∀ {a b : List Int} {k : Nat}, min a.length b.length ≤ k → cpL (a.drop k) (b.drop k) = 0 ∧ cpP (a.drop k) (b.drop k) = 0 := fun {a b k} h => by
    by_cases l : a.length ≤ k
    · rw [List.drop_eq_nil_of_le l]
      exact ⟨by unfold cpL; rfl, by unfold cpP; rfl⟩
    · rw [List.drop_eq_nil_of_le (as := b) (by omega)]
      cases a.drop k <;> exact ⟨rfl, rfl⟩
  -- the second pass
  have p2 : ∀ (m k : Nat), min a.length b.length ≤ k + m → k ≤ min a.length b.length → a.length = b.length → cpL a b = 0 → cpP a b = cpP (a.drop k) (b.drop k) → R_compare_123 ((100 * n + i : Nat) : Int) ((100 * n + j : Nat) : Int) ((min a.length b.length : Nat) : Int) (k : Int) σ Q := by
    intro m
    induction m with
    | zero =>
      intro k h1 h2 h3 h4 h5
      refine R_compare_123.i ⟨by unfold Rg; omega, fun _ => ?_, fun h => absurd h (by omega)⟩
      have : cpK a b = 0 := by
        unfold cpK
        rw [if_pos h4, if_pos h3, h5, (nl (by omega)).2]
      rw [this] at hq
      exact hq
    | succ m ih =>
      intro k h1 h2 h3 h4 h5
      by_cases he : k = min a.length b.length
      · refine R_compare_123.i ⟨by unfold Rg; omega, fun _ => ?_, fun h => absurd h (by omega)⟩
        have : cpK a b = 0 := by
          unfold cpK
          rw [if_pos h4, if_pos h3, h5, (nl (by omega)).2]
        rw [this] at hq
        exact hq
      · have ka : k < a.length := by omega
        have kb : k < b.length := by omega
        have ga := ba _ (gd_mem ka)
        have gb := bb _ (gd_mem kb)
        rw [dr ka, dr kb] at h5
        have c5 : cpP (a.getD k 0 :: a.drop (k + 1)) (b.getD k 0 :: b.drop (k + 1)) = if a.getD k 0 = b.getD k 0 then cpP (a.drop (k + 1)) (b.drop (k + 1)) else a.getD k 0 - b.getD k 0 := rfl
        rw [c5] at h5
        refine R_compare_123.i ⟨by unfold Rg; omega, fun h => absurd h (by omega), fun _ => ?_⟩
        rw [Int.toNat_natCast, Int.toNat_natCast, a1, c1, show ((70000 * n + suM (K.take i) : Nat) : Int) + (k : Int) = ((70000 * n + suM (K.take i) + k : Nat) : Int) by omega, show ((70000 * n + suM (K.take j) : Nat) : Int) + (k : Int) = ((70000 * n + suM (K.take j) + k : Nat) : Int) by omega, Int.toNat_natCast, Int.toNat_natCast, a3 k ka, c3 k kb]
        refine ⟨by omega, by omega, by omega, by omega, by omega, by omega, by omega, by omega, by unfold Rg; omega, fun e => ?_, fun e => ⟨by unfold Rg; omega, ?_⟩⟩
        · rw [show (k : Int) + 1 = ((k + 1 : Nat) : Int) by omega]
          rw [if_pos (by omega)] at h5
          exact ih (k + 1) (by omega) (by omega) h3 h4 h5
        · rw [if_neg (by omega)] at h5
          have : cpK a b = a.getD k 0 - b.getD k 0 := by
            unfold cpK
            rw [if_pos h4, if_pos h3, h5]
          rw [this] at hq
          exact hq
  -- the first pass
  have p1 : ∀ (m k : Nat), min a.length b.length ≤ k + m → k ≤ min a.length b.length → cpL a b = cpL (a.drop k) (b.drop k) → R_compare_34 ((100 * n + i : Nat) : Int) ((100 * n + j : Nat) : Int) ((min a.length b.length : Nat) : Int) (k : Int) σ Q := by
    have fin : ∀ k : Nat, k = min a.length b.length → cpL a b = cpL (a.drop k) (b.drop k) → R_compare_34 ((100 * n + i : Nat) : Int) ((100 * n + j : Nat) : Int) ((min a.length b.length : Nat) : Int) (k : Int) σ Q := fun k hk h3 => by
      have e0 : cpL a b = 0 := h3.trans (nl (by omega)).1
      refine R_compare_34.i ⟨by unfold Rg; omega, fun _ => ?_, fun h => absurd h (by omega)⟩
      rw [Int.toNat_natCast, Int.toNat_natCast, a2, c2]
      refine ⟨by omega, by omega, by omega, by omega, fun e => ?_, fun e => ⟨by omega, by omega, by omega, by omega, by unfold Rg; omega, ?_⟩⟩
      · exact p2 (min a.length b.length) 0 (by omega) (Nat.zero_le _) (by omega) e0 rfl
      · have : cpK a b = (a.length : Int) - (b.length : Int) := by
          unfold cpK
          rw [if_pos e0, if_neg (by omega)]
        rw [this] at hq
        exact hq
    intro m
    induction m with
    | zero =>
      intro k h1 h2 h3
      exact fin k (by omega) h3
    | succ m ih =>
      intro k h1 h2 h3
      by_cases he : k = min a.length b.length
      · exact fin k he h3
      · have ka : k < a.length := by omega
        have kb : k < b.length := by omega
        have ga := ba _ (gd_mem ka)
        have gb := bb _ (gd_mem kb)
        rw [dr ka, dr kb] at h3
        have c5 : cpL (a.getD k 0 :: a.drop (k + 1)) (b.getD k 0 :: b.drop (k + 1)) = if lowS (a.getD k 0) = lowS (b.getD k 0) then cpL (a.drop (k + 1)) (b.drop (k + 1)) else lowS (a.getD k 0) - lowS (b.getD k 0) := rfl
        rw [c5] at h3
        have lwa : 0 ≤ lowS (a.getD k 0) ∧ lowS (a.getD k 0) ≤ 127 := by
          unfold lowS
          split <;> omega
        have lwb : 0 ≤ lowS (b.getD k 0) ∧ lowS (b.getD k 0) ≤ 127 := by
          unfold lowS
          split <;> omega
        refine R_compare_34.i ⟨by unfold Rg; omega, fun h => absurd h (by omega), fun _ => ?_⟩
        rw [Int.toNat_natCast, a1, show ((70000 * n + suM (K.take i) : Nat) : Int) + (k : Int) = ((70000 * n + suM (K.take i) + k : Nat) : Int) by omega, Int.toNat_natCast, a3 k ka]
        refine ⟨by omega, by omega, by omega, by omega, R_low.s (by unfold Rg; omega) ?_⟩
        show 0 ≤ ((100 * n + j : Nat) : Int) ∧ ((100 * n + j : Nat) : Int) < 200 ∧ _
        rw [Int.toNat_natCast, c1, show ((70000 * n + suM (K.take j) : Nat) : Int) + (k : Int) = ((70000 * n + suM (K.take j) + k : Nat) : Int) by omega, Int.toNat_natCast, c3 k kb]
        refine ⟨by omega, by omega, by omega, by omega, R_low.s (by unfold Rg; omega) ?_⟩
        show Rg (lowS (a.getD k 0) - lowS (b.getD k 0)) ∧ _
        refine ⟨by unfold Rg; omega, fun e => ?_, fun e => ⟨by unfold Rg; omega, ?_⟩⟩
        · rw [show (k : Int) + 1 = ((k + 1 : Nat) : Int) by omega]
          rw [if_pos (by omega)] at h3
          exact ih (k + 1) (by omega) (by omega) h3
        · rw [if_neg (by omega)] at h3
          have : cpK a b = lowS (a.getD k 0) - lowS (b.getD k 0) := by
            unfold cpK
            rw [if_neg (by omega), h3]
          rw [this] at hq
          exact hq
  refine R_compare.i ⟨by omega, by omega, by omega, by omega, ?_⟩
  rw [Int.toNat_natCast, Int.toNat_natCast, a2, c2]
  refine ⟨fun h => ⟨by omega, by omega, R_compare_30.i ?_⟩, fun h => ⟨by omega, by omega, R_compare_30.i ?_⟩⟩
  · have := p1 (min a.length b.length) 0 (by omega) (Nat.zero_le _) rfl
    rw [show min a.length b.length = b.length by omega] at this
    exact this
  · have := p1 (min a.length b.length) 0 (by omega) (Nat.zero_le _) rfl
    rw [show min a.length b.length = a.length by omega] at this
    exact this
def kbZ (n : Nat) (x : Int) : Int := if x < 0 then -1 else 100 * (n : Int) + x
theorem kbZ_n {x : Nat} : kbZ n (x : Int) = ((100 * n + x : Nat) : Int) := by
  unfold kbZ
  rw [if_neg (by omega)]
  omega
/-- the key behind one, the reference -/
theorem R_keyBehind.p {one : Int} (hn : n ≤ 1) (hK : KyR σ n K) (hs : suM K ≤ 65536) (hb : ∀ w ∈ K, smB w) (hKl : K.length ≤ 100) (h1 : one = -1 ∨ 0 ≤ one ∧ one < (K.length : Int)) (hq : Q (.inl (some (kbZ n (kbN K one K.length)))) σ) : R_keyBehind (n : Int) (kbZ n one) σ Q := by
  have eo : 0 ≤ one → kbZ n one = ((100 * n + one.toNat : Nat) : Int) := fun h => by
    unfold kbZ
    rw [if_neg (by omega)]
    omega
  have en : one = -1 → kbZ n one = -1 := fun h => by
    unfold kbZ
    rw [if_pos (by omega)]
  have rb : Rg (kbZ n one) := by
    unfold kbZ Rg
    split <;> omega
  have key : ∀ (r m : Nat), m + r = K.length → R_keyBehind_8 (n : Int) (kbZ n one) (kbZ n (kbN K one m)) ((100 * n + m : Nat) : Int) σ Q := by
    intro r
    induction r with
    | zero =>
      intro m hm
      have e : m = K.length := by omega
      rw [e]
      refine R_keyBehind_8.i ⟨by omega, by omega, ?_⟩
      rw [Int.toNat_natCast, hK.1]
      have kb := kbN_b (K := K) (one := one) K.length
      refine ⟨by unfold Rg; omega, by unfold Rg; omega, fun _ => ⟨?_, hq⟩, fun h => absurd h (by omega)⟩
      unfold kbZ Rg
      split <;> omega
    | succ r ih =>
      intro m hm
      have kb := kbN_b (K := K) (one := one) m
      have nx := ih (m + 1) (by omega)
      rw [show ((100 * n + (m + 1) : Nat) : Int) = ((100 * n + m : Nat) : Int) + 1 by omega] at nx
      have keep : kbN K one (m + 1) = kbN K one m → R_keyBehind_58 (n : Int) (kbZ n one) (kbZ n (kbN K one m)) ((100 * n + m : Nat) : Int) σ Q := fun e => by
        rw [e] at nx
        exact R_keyBehind_58.i nx
      have take : kbN K one (m + 1) = (m : Int) → R_keyBehind_55 (n : Int) (kbZ n one) ((100 * n + m : Nat) : Int) σ Q := fun e => by
        rw [e, kbZ_n] at nx
        exact R_keyBehind_55.i (R_keyBehind_58.i nx)
      have p41 : ¬ (0 ≤ one ∧ cpK (kyA K m) (kyA K one.toNat) ≤ 0) → R_keyBehind_41 (n : Int) (kbZ n one) (kbZ n (kbN K one m)) ((100 * n + m : Nat) : Int) σ Q := fun hc => by
        have eN : kbN K one (m + 1) = if kbN K one m < 0 ∨ cpK (kyA K m) (kyA K (kbN K one m).toNat) < 0 then (m : Int) else kbN K one m := by
          conv => lhs; unfold kbN
          rw [if_neg hc]
        by_cases hneg : kbN K one m < 0
        · have ez : kbZ n (kbN K one m) = -1 := by
            unfold kbZ
            rw [if_pos hneg]
          rw [if_pos (Or.inl hneg)] at eN
          rw [ez]
          exact R_keyBehind_41.i ⟨by decide, fun _ => take eN, fun h => absurd h (by decide)⟩
        · have ez : kbZ n (kbN K one m) = ((100 * n + (kbN K one m).toNat : Nat) : Int) := by
            unfold kbZ
            rw [if_neg hneg]
            omega
          have kp := keep
          rw [ez] at kp ⊢
          refine R_keyBehind_41.i ⟨by unfold Rg; omega, fun h => absurd h (by omega), fun _ => R_compare.p hn hK hs hb hKl (by omega) (by omega) ?_⟩
          show (0 ≤ cpK (kyA K m) (kyA K (kbN K one m).toNat) → _) ∧ (cpK (kyA K m) (kyA K (kbN K one m).toNat) < 0 → _)
          refine ⟨fun h => kp ?_, fun h => take ?_⟩
          · rw [eN, if_neg (by omega)]
          · rw [eN, if_pos (Or.inr h)]
      refine R_keyBehind_8.i ⟨by omega, by omega, ?_⟩
      rw [Int.toNat_natCast, hK.1]
      refine ⟨by unfold Rg; omega, by unfold Rg; omega, fun h => absurd h (by omega), fun _ => ⟨rb, fun h => p41 (fun h9 => ?_), fun h => ?_⟩⟩
      · rw [eo h9.1] at h
        omega
      · have h0 : 0 ≤ one := by
          rcases h1 with e | e
          · rw [en e] at h
            exact absurd h (by decide)
          · exact e.1
        have kp := keep
        have kq := p41
        rw [eo h0] at kp kq ⊢
        refine R_compare.p hn hK hs hb hKl (by omega) (by omega) ?_
        show (0 < cpK (kyA K m) (kyA K one.toNat) → _) ∧ (cpK (kyA K m) (kyA K one.toNat) ≤ 0 → _)
        refine ⟨fun h2 => kq (fun h9 => by omega), fun h2 => kp ?_⟩
        conv => lhs; unfold kbN
        rw [if_pos ⟨h0, h2⟩]
  have := key K.length 0 (by omega)
  rw [show kbZ n (kbN K one 0) = -1 by unfold kbN kbZ; rfl, show ((100 * n + 0 : Nat) : Int) = 100 * (n : Int) by omega] at this
  exact R_keyBehind.i this
/-- whether a key has a page -/
def hpB (K : List (List Int)) (P : List Int) (key : Nat) (p : Int) : Nat → Bool
  | 0 => false
  | m + 1 => hpB K P key p m || (decide (P.getD m 0 = p) && decide (cpK (kyA K m) (kyA K key) = 0))
theorem R_hasPage.p {P : List Int} {key : Nat} {p : Int} (hn : n ≤ 1) (hK : KyR σ n K) (hP : ∀ i, i < K.length → mV σ 296 (100 * n + i) = P.getD i 0) (hs : suM K ≤ 65536) (hb : ∀ w ∈ K, smB w) (hKl : K.length ≤ 100) (hk : key < K.length) (hp : Rg p) (hq : Q (.inl (some (bZ (hpB K P key p K.length)))) σ) : R_hasPage (n : Int) ((100 * n + key : Nat) : Int) p σ Q := by
  have loop : ∀ (r m : Nat), m + r = K.length → R_hasPage_9 (n : Int) ((100 * n + key : Nat) : Int) p (bZ (hpB K P key p m)) ((100 * n + m : Nat) : Int) σ Q := by
    intro r
    induction r with
    | zero =>
      intro m hm
      have e : m = K.length := by omega
      rw [e]
      refine R_hasPage_9.i ⟨by omega, by omega, ?_⟩
      rw [Int.toNat_natCast, hK.1]
      refine ⟨by unfold Rg; omega, by unfold Rg; omega, fun _ => ?_, fun h => absurd h (by omega)⟩
      exact b01.i (bZ_01 (b := hpB K P key p K.length)) hq
    | succ r ih =>
      intro m hm
      have nx := ih (m + 1) (by omega)
      rw [show ((100 * n + (m + 1) : Nat) : Int) = ((100 * n + m : Nat) : Int) + 1 by omega] at nx
      have yes : hpB K P key p (m + 1) = true → R_hasPage_51 (n : Int) ((100 * n + key : Nat) : Int) p ((100 * n + m : Nat) : Int) σ Q := fun e => by
        rw [e] at nx
        exact R_hasPage_51.i (R_hasPage_56.i nx)
      have no : hpB K P key p (m + 1) = false → R_hasPage_55 (n : Int) ((100 * n + key : Nat) : Int) p ((100 * n + m : Nat) : Int) σ Q := fun e => by
        rw [e] at nx
        exact R_hasPage_55.i (R_hasPage_56.i nx)
      have eh : hpB K P key p (m + 1) = (hpB K P key p m || (decide (P.getD m 0 = p) && decide (cpK (kyA K m) (kyA K key) = 0))) := rfl
      refine R_hasPage_9.i ⟨by omega, by omega, ?_⟩
      rw [Int.toNat_natCast, hK.1, Int.toNat_natCast, hP m (by omega)]
      refine ⟨by unfold Rg; omega, by unfold Rg; omega, fun h => absurd h (by omega), fun _ => ⟨fun h => yes ?_, fun h => ⟨by omega, by omega, hp, fun h2 => no ?_, fun h2 => R_compare.p hn hK hs hb hKl (by omega) hk ?_⟩⟩⟩
      · rw [eh, bZ_ne h]
        rfl
      · rw [eh, bZ_z h, decide_eq_false h2]
        rfl
      · show (¬ cpK (kyA K m) (kyA K key) = 0 → _) ∧ (cpK (kyA K m) (kyA K key) = 0 → _)
        refine ⟨fun h3 => no ?_, fun h3 => yes ?_⟩
        · rw [eh, bZ_z h, decide_eq_true h2, decide_eq_false h3]
          rfl
        · rw [eh, bZ_z h, decide_eq_true h2, decide_eq_true h3]
          rfl
  have := loop K.length 0 (by omega)
  rw [show ((100 * n + 0 : Nat) : Int) = 100 * (n : Int) by omega] at this
  exact R_hasPage.i this
end
