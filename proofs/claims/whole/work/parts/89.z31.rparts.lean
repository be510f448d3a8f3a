/-! TABLES: the reference parts a line -/
def blQ (M : List Int) (a e : Nat) : Bool := (sgT M a e).all (fun c => decide (c = 32))
section
variable {σ σ0 : MS} {Q : MQ9} {M : List Int} {e : Nat}
theorem blQ_n {a : Nat} (h : e ≤ a) : blQ M a e = true := by
  unfold blQ sgT
  rw [show e - a = 0 by omega, List.take_zero]
  rfl
theorem blQ_c {a : Nat} (he : e ≤ M.length) (h : a < e) : blQ M a e = (decide (M.getD a 0 = 32) && blQ M (a + 1) e) := by
  unfold blQ
  rw [sgT_c h he]
  rfl
theorem R_isBlank.p {a : Nat} (hM : hol σ 252 M) (hM4 : M.length ≤ 4000) (he : e ≤ M.length) (ha : a ≤ 8000) (hq : Q (.inl (some (bZ (blQ M a e)))) σ) : R_isBlank (a : Int) (e : Int) σ Q := by
  have key : ∀ (n a : Nat), e ≤ a + n → a ≤ 8000 → Q (.inl (some (bZ (blQ M a e)))) σ → R_isBlank_5 (e : Int) 1 (a : Int) σ Q := by
    intro n
    induction n with
    | zero =>
      intro a hn ha hq
      rw [blQ_n (by omega)] at hq
      exact R_isBlank_5.i ⟨by unfold Rg; omega, by unfold Rg; omega, fun _ => b01.i (Or.inr rfl) hq, fun h => absurd h (by omega)⟩
    | succ n ih =>
      intro a hn ha hq
      by_cases hae : e ≤ a
      · rw [blQ_n hae] at hq
        exact R_isBlank_5.i ⟨by unfold Rg; omega, by unfold Rg; omega, fun _ => b01.i (Or.inr rfl) hq, fun h => absurd h (by omega)⟩
      · rw [blQ_c he (by omega)] at hq
        have ec : mV σ 252 a = M.getD a 0 := hM a (by omega)
        refine R_isBlank_5.i ⟨by unfold Rg; omega, by unfold Rg; omega, fun h => absurd h (by omega), fun _ => ⟨fun h => absurd h (by decide), fun _ => ⟨by omega, by omega, ?_⟩⟩⟩
        rw [Int.toNat_natCast, ec]
        refine ⟨fun h => R_isBlank_32.i ?_, fun h => R_isBlank_32.i ?_⟩
        · rw [decide_eq_false h, Bool.false_and] at hq
          rw [show (a : Int) + 1 = ((a + 1 : Nat) : Int) by omega]
          exact R_isBlank_5.i ⟨by unfold Rg; omega, by unfold Rg; omega, fun _ => b01.i (Or.inl rfl) hq, fun _ => ⟨fun _ => b01.i (Or.inl rfl) hq, fun h9 => absurd rfl h9⟩⟩
        · rw [decide_eq_true h, Bool.true_and] at hq
          rw [show (a : Int) + 1 = ((a + 1 : Nat) : Int) by omega]
          exact ih (a + 1) (by omega) (by omega) hq
  exact R_isBlank.i (key e a (by omega) ha hq)
/-- parts stand in the cells from c0 on -/
def PtS (σ : MS) (c0 : Nat) (X : List (Nat × Nat)) : Prop := ∀ k, k < X.length → mV σ 342 (c0 + k) = ((X.getD k (0, 0)).1 : Int) ∧ mV σ 343 (c0 + k) = ((X.getD k (0, 0)).2 : Int)
theorem PtS.sn {c0 a b : Nat} {X : List (Nat × Nat)} (h : PtS σ c0 X) : PtS (wV (wV σ 342 (c0 + X.length) (a : Int)) 343 (c0 + X.length) (b : Int)) c0 (X ++ [(a, b)]) := fun k hk => by
  rw [List.length_append] at hk
  have hk : k < X.length + 1 := hk
  by_cases e : k = X.length
  · have : (X ++ [(a, b)]).getD k (0, 0) = (a, b) := by
      rw [e]
      unfold List.getD
      rw [List.getElem?_append_right (Nat.le_refl _), Nat.sub_self]
      rfl
    rw [this, e, wV_self, wV_ne (Or.inl (by decide)), wV_self]
    exact ⟨rfl, rfl⟩
  · have : (X ++ [(a, b)]).getD k (0, 0) = X.getD k (0, 0) := by
      unfold List.getD
      rw [List.getElem?_append_left (by omega)]
    rw [this, wV_ne (Or.inl (by decide)), wV_ne (Or.inr (by omega)), wV_ne (Or.inr (by omega)), wV_ne (Or.inl (by decide))]
    exact h k (by omega)
theorem pts_124 {c0 : Nat} {acc : List (Nat × Nat)} {st : Nat} (hM : hol σ 252 M) (hM4 : M.length ≤ 4000) (he : e ≤ M.length) (hst : st ≤ 8000) (hc : c0 ≤ 4100) (h28 : mV σ 246 28 = 0) (hS : PtS σ c0 acc) (h8 : acc.length ≤ 8) (hf : FrZ [342, 343] [] σ0 σ) (ho : ∀ z k, z = 342 ∨ z = 343 → k < c0 → mV σ z k = mV σ0 z k) (hy : ∀ X σ', X = acc ++ (if blQ M st e = true then [] else [(st, e)]) → X.length ≤ 8 → FrZ [342, 343] [] σ0 σ' → PtS σ' c0 X → (∀ z k, z = 342 ∨ z = 343 → k < c0 → mV σ' z k = mV σ0 z k) → Q (.inl (some (X.length : Int))) σ') (hn : ¬ (acc ++ (if blQ M st e = true then [] else [(st, e)])).length ≤ 8 → ∀ σ' x, FrZ [342, 343] [28] σ0 σ' → mV σ' 246 28 = 9 → Rg x → Q (.inl (some x)) σ') : R_parts_124 (c0 : Int) (e : Int) (st : Int) (acc.length : Int) σ Q := by
  refine R_parts_124.i (R_isBlank.p hM hM4 he hst ?_)
  show (bZ (blQ M st e) = 0 → _) ∧ (¬ bZ (blQ M st e) = 0 → _)
  refine ⟨fun h => ?_, fun h => ?_⟩
  · have hb := bZ_z h
    rw [hb, if_neg (by decide)] at hn hy
    refine R_parted.i ⟨by unfold Rg; omega, fun h9 => ?_, fun h9 => ?_⟩
    · rw [show (c0 : Int) + (acc.length : Int) = ((c0 + acc.length : Nat) : Int) by omega, Int.toNat_natCast]
      refine ⟨by omega, by omega, by unfold Rg; omega, by omega, by omega, by unfold Rg; omega, by unfold Rg; omega, ?_⟩
      have := hy (acc ++ [(st, e)]) _ rfl (by rw [List.length_append]; show _ + 1 ≤ 8; omega) ((hf.tr (FrZ.wz (by decide))).tr (FrZ.wz (by decide))) hS.sn (fun z k hz hk => by
        rw [wV_ne (Or.inr (by omega)), wV_ne (Or.inr (by omega))]
        exact ho z k hz hk)
      rw [List.length_append] at this
      exact this
    · refine R_fail.i ⟨fun h7 => absurd h28 h7, fun _ => ⟨by decide, by unfold Rg; omega, hn (by rw [List.length_append]; show ¬ _ + 1 ≤ 8; omega) _ _ ((hf.mo (fun x hx => hx) (by simp)).tr (FrZ.wf (by decide))) wV_self (by unfold Rg; omega)⟩⟩
  · have hb := bZ_ne h
    rw [hb, if_pos rfl, List.append_nil] at hy
    exact hy acc σ rfl h8 hf hS ho
theorem pts_bad {c0 st : Nat} (hM : hol σ 252 M) (hM4 : M.length ≤ 4000) (he : e ≤ M.length) (hst : st ≤ 8000) (h28 : mV σ 246 28 = 9) (hq : Q (.inl (some 8)) σ) : R_parts_124 (c0 : Int) (e : Int) (st : Int) 8 σ Q := by
  refine R_parts_124.i (R_isBlank.p hM hM4 he hst ?_)
  refine ⟨fun h => R_parted.i ⟨by decide, fun h9 => absurd rfl h9, fun _ => R_fail.i ⟨fun _ => ⟨by decide, hq⟩, fun h7 => absurd (h28.symm.trans h7) (by decide)⟩⟩, fun h => hq⟩
theorem pts_26 {c0 : Nat} (hM4 : M.length ≤ 4000) (he : e ≤ M.length) (hc : c0 ≤ 4100) : ∀ (n : Nat) (r : List Int) (i st d : Nat) (em : Bool) (acc : List (Nat × Nat)) (σ : MS), r.length ≤ n → i ≤ e + 1 → (i ≤ e → r = sgT M i e) → (e < i → r = []) → st ≤ i → st ≤ e → d ≤ i → (em = true ↔ ∀ t, st ≤ t → t < i → t < e → M.getD t 0 = 32) → acc.length ≤ 8 → hol σ 252 M → mV σ 246 28 = 0 → PtS σ c0 acc → FrZ [342, 343] [] σ0 σ → (∀ z k, z = 342 ∨ z = 343 → k < c0 → mV σ z k = mV σ0 z k) → (∀ X σ', X = acc ++ tcP e n r i st d em → X.length ≤ 8 → FrZ [342, 343] [] σ0 σ' → PtS σ' c0 X → (∀ z k, z = 342 ∨ z = 343 → k < c0 → mV σ' z k = mV σ0 z k) → Q (.inl (some (X.length : Int))) σ') → (¬ (acc ++ tcP e n r i st d em).length ≤ 8 → ∀ σ' x, FrZ [342, 343] [28] σ0 σ' → mV σ' 246 28 = 9 → Rg x → Q (.inl (some x)) σ') → R_parts_26 (c0 : Int) (e : Int) (st : Int) (i : Int) (acc.length : Int) (d : Int) σ Q := by
  have fin : ∀ (i st d : Nat) (em : Bool) (acc : List (Nat × Nat)) (σ : MS), e ≤ i → i ≤ e + 1 → st ≤ e → (em = true ↔ ∀ t, st ≤ t → t < i → t < e → M.getD t 0 = 32) → acc.length ≤ 8 → hol σ 252 M → mV σ 246 28 = 0 → PtS σ c0 acc → FrZ [342, 343] [] σ0 σ → (∀ z k, z = 342 ∨ z = 343 → k < c0 → mV σ z k = mV σ0 z k) → (∀ X σ', X = acc ++ (if em = true then [] else [(st, e)]) → X.length ≤ 8 → FrZ [342, 343] [] σ0 σ' → PtS σ' c0 X → (∀ z k, z = 342 ∨ z = 343 → k < c0 → mV σ' z k = mV σ0 z k) → Q (.inl (some (X.length : Int))) σ') → (¬ (acc ++ (if em = true then [] else [(st, e)])).length ≤ 8 → ∀ σ' x, FrZ [342, 343] [28] σ0 σ' → mV σ' 246 28 = 9 → Rg x → Q (.inl (some x)) σ') → R_parts_26 (c0 : Int) (e : Int) (st : Int) (i : Int) (acc.length : Int) (d : Int) σ Q := fun i st d em acc σ h1 h2 h3 hem h8 hM h28 hS hf ho hy hn => by
    have eb : blQ M st e = em := by
      have key : ∀ (n a : Nat), a + n = e → (blQ M a e = true ↔ ∀ t, a ≤ t → t < e → M.getD t 0 = 32) := by
        intro n
        induction n with
        | zero =>
          intro a ha
          rw [blQ_n (by omega)]
          exact ⟨fun _ t h1 h2 => absurd h2 (by omega), fun _ => rfl⟩
        | succ n ih =>
          intro a ha
          rw [blQ_c he (by omega), Bool.and_eq_true, decide_eq_true_iff, ih (a + 1) (by omega)]
          refine ⟨fun h t h1 h2 => ?_, fun h => ⟨h a (Nat.le_refl _) (by omega), fun t h1 h2 => h t (by omega) h2⟩⟩
          by_cases e9 : t = a
          · rw [e9]
            exact h.1
          · exact h.2 t (by omega) h2
      have k := key (e - st) st (by omega)
      have k2 : blQ M st e = true ↔ em = true := k.trans ⟨fun h => hem.mpr (fun t a b c => h t a c), fun h t a c => hem.mp h t a (by omega) c⟩
      cases hb : blQ M st e <;> cases hm : em
      · rfl
      · rw [hb, hm] at k2
        exact absurd (k2.mpr rfl) (by decide)
      · rw [hb, hm] at k2
        exact absurd (k2.mp rfl) (by decide)
      · rfl
    rw [← eb] at hy hn
    exact R_parts_26.i ⟨by unfold Rg; omega, fun _ => pts_124 hM hM4 he (by omega) hc h28 hS h8 hf ho hy hn, fun h => absurd h (by omega)⟩
  intro n
  induction n with
  | zero =>
    intro r i st d em acc σ hn hi hr hr2 hs hs2 hd hem h8 hM h28 hS hf ho hy hnn
    refine fin i st d em acc σ ?_ hi hs2 hem h8 hM h28 hS hf ho hy hnn
    by_cases h : i ≤ e
    · have := hr h
      have l := sgT_l (U := M) (a := i) he
      rw [← this] at l
      omega
    · omega
  | succ n ih =>
    intro r i st d em acc σ hn hi hr hr2 hs hs2 hd hem h8 hM h28 hS hf ho hy hnn
    cases r with
    | nil =>
      refine fin i st d em acc σ ?_ hi hs2 hem h8 hM h28 hS hf ho hy hnn
      by_cases h : i ≤ e
      · have := hr h
        have l := sgT_l (U := M) (a := i) he
        rw [← this] at l
        have l : 0 = e - i := l
        omega
      · omega
    | cons c r =>
      have hie : i ≤ e := by
        by_cases h : i ≤ e
        · exact h
        · have := hr2 (by omega)
          cases this
      obtain ⟨g1, g2, g3⟩ := sgT_tl he (hr hie)
      rw [List.length_cons] at hn
      have ec : mV σ 252 i = c := (hM i (by omega)).trans g2
      have eT : tcP e (n + 1) (c :: r) i st d em = (if c = 124 ∧ d = 0 then (st, i) :: tcP e n r (i + 1) (i + 1) d true else if c = 92 then tcP e n r.tail (i + 2) st d false else tcP e n r (i + 1) st (if c = 123 then d + 1 else if c = 125 then d - 1 else d) (em && decide (c = 32))) := rfl
      rw [eT] at hy hnn
      have ftl : ∀ t : List Int, r = t → (i + 2 ≤ e → r.tail = sgT M (i + 2) e) ∧ (e < i + 2 → r.tail = []) := fun t ht => by
        cases r with
        | nil =>
          have l := sgT_l (U := M) (a := i + 1) he
          rw [← g3] at l
          have l : 0 = e - (i + 1) := l
          exact ⟨fun h => absurd h (by omega), fun _ => rfl⟩
        | cons x t =>
          have l := sgT_l (U := M) (a := i + 1) he
          rw [← g3] at l
          have l : t.length + 1 = e - (i + 1) := l
          exact ⟨fun _ => (sgT_tl he g3).2.2, fun h => List.eq_nil_of_length_eq_zero (by omega)⟩
      have s104 : ¬ (c = 124 ∧ d = 0) → ∀ d2 : Nat, d2 = (if c = 123 then d + 1 else if c = 125 then d - 1 else d) → R_parts_104 (c0 : Int) (e : Int) (st : Int) (i : Int) (acc.length : Int) (d2 : Int) c σ Q := fun h1 d2 hd2 => by
        rw [if_neg h1] at hy hnn
        refine R_parts_104.i ⟨fun h2 => R_parts_118.i ?_, fun h2 => R_parts_118.i ?_⟩
        · rw [if_neg h2, ← hd2] at hy hnn
          rw [show (i : Int) + 1 = ((i + 1 : Nat) : Int) by omega]
          refine ih r (i + 1) st d2 _ acc σ (by omega) (by omega) (fun _ => g3) (fun h => absurd h (by omega)) (by omega) hs2 ?_ ?_ h8 hM h28 hS hf ho hy hnn
          · rw [hd2]
            split
            · omega
            · split <;> omega
          · rw [Bool.and_eq_true, decide_eq_true_iff, hem]
            refine ⟨fun h t a b x => ?_, fun h => ⟨fun t a b x => h t a (by omega) x, ?_⟩⟩
            · by_cases e9 : t = i
              · rw [e9, g2]
                exact h.2
              · exact h.1 t a (by omega) x
            · have := h i hs (by omega) g1
              rw [g2] at this
              exact this
        · have e0 : d2 = d := by
            rw [hd2, if_neg (by omega), if_neg (by omega)]
          rw [if_pos h2] at hy hnn
          rw [e0, show (i : Int) + 2 = ((i + 2 : Nat) : Int) by omega]
          refine ih r.tail (i + 2) st d false acc σ (by rw [List.length_tail]; omega) (by omega) (ftl r rfl).1 (ftl r rfl).2 (by omega) hs2 (by omega) ?_ h8 hM h28 hS hf ho hy hnn
          refine ⟨fun h => absurd h (by decide), fun h => ?_⟩
          have := h i hs (by omega) g1
          rw [g2] at this
          omega
      have s73 : ∀ d2 : Nat, d2 = (if c = 123 then d + 1 else if c = 125 then d - 1 else d) → R_parts_73 (c0 : Int) (e : Int) (st : Int) (i : Int) (acc.length : Int) (d2 : Int) c σ Q := fun d2 hd2 => by
        refine R_parts_73.i ⟨fun h => s104 (fun h9 => h h9.1) d2 hd2, fun h => ?_⟩
        have e0 : d2 = d := by
          rw [hd2, if_neg (by omega), if_neg (by omega)]
        refine ⟨by unfold Rg; omega, fun h2 => s104 (fun h9 => h2 (by rw [e0, h9.2]; rfl)) d2 hd2, fun h2 => ?_⟩
        have hd0 : d = 0 := by omega
        rw [if_pos ⟨h, hd0⟩] at hy hnn
        refine R_parted.i ⟨by unfold Rg; omega, fun h9 => ?_, fun h9 => ?_⟩
        · rw [show (c0 : Int) + (acc.length : Int) = ((c0 + acc.length : Nat) : Int) by omega, Int.toNat_natCast]
          refine ⟨by omega, by omega, by unfold Rg; omega, by omega, by omega, by unfold Rg; omega, by unfold Rg; omega, ?_⟩
          show R_parts_104 (c0 : Int) (e : Int) ((i : Int) + 1) (i : Int) ((acc.length : Int) + 1) (d2 : Int) c (wV (wV σ 342 (c0 + acc.length) (st : Int)) 343 (c0 + acc.length) (i : Int)) Q
          refine R_parts_104.i ⟨fun h7 => R_parts_118.i ?_, fun h7 => absurd (h7.symm.trans h) (by decide)⟩
          have la : ((acc.length : Int) + 1) = (((acc ++ [(st, i)]).length : Nat) : Int) := by
            rw [List.length_append]
            rfl
          rw [show (i : Int) + 1 = ((i + 1 : Nat) : Int) by omega, la, e0]
          refine ih r (i + 1) (i + 1) d true (acc ++ [(st, i)]) _ (by omega) (by omega) (fun _ => g3) (fun h => absurd h (by omega)) (Nat.le_refl _) (by omega) (by omega) ⟨fun _ t a b _ => absurd b (by omega), fun _ => rfl⟩ (by rw [List.length_append]; show _ + 1 ≤ 8; omega) (fun k hk => ?_) ?_ hS.sn ((hf.tr (FrZ.wz (by decide))).tr (FrZ.wz (by decide))) (fun z k hz hk => ?_) (fun X σ' hX => hy X σ' (by rw [hX, List.append_assoc]; rfl)) (fun h9 => hnn (by rw [List.append_assoc] at h9; exact h9))
          · rw [wV_ne (Or.inl (by decide)), wV_ne (Or.inl (by decide))]
            exact hM k hk
          · rw [wV_ne (Or.inl (by decide)), wV_ne (Or.inl (by decide))]
            exact h28
          · rw [wV_ne (Or.inr (by omega)), wV_ne (Or.inr (by omega))]
            exact ho z k hz hk
        · have bad : ¬ (acc ++ ((st, i) :: tcP e n r (i + 1) (i + 1) d true)).length ≤ 8 := by
            rw [List.length_append, List.length_cons]
            omega
          refine R_fail.i ⟨fun h7 => absurd h28 h7, fun _ => ⟨by decide, by unfold Rg; omega, ?_⟩⟩
          have e8 : (acc.length : Int) = 8 := h9
          show R_parts_104 (c0 : Int) (e : Int) ((i : Int) + 1) (i : Int) (acc.length : Int) (d2 : Int) c (wV σ 246 28 9) Q
          rw [e8]
          refine R_parts_104.i ⟨fun h7 => R_parts_118.i ?_, fun h7 => absurd (h7.symm.trans h) (by decide)⟩
          have hMb : hol (wV σ 246 28 9) 252 M := hM.V (by decide)
          have fin9 : R_parts_124 (c0 : Int) (e : Int) ((i : Int) + 1) 8 (wV σ 246 28 9) Q := by
            rw [show (i : Int) + 1 = ((i + 1 : Nat) : Int) by omega]
            exact pts_bad hMb hM4 he (by omega) wV_self (hnn bad _ _ ((hf.mo (fun x hx => hx) (by simp)).tr (FrZ.wf (by decide))) wV_self (by decide))
          exact R_parts_26.i ⟨by unfold Rg; omega, fun _ => fin9, fun _ => ⟨fun _ => fin9, fun h6 => absurd (wV_self.symm.trans h6) (by decide)⟩⟩
      have s58 : ∀ d1 : Nat, d1 = (if c = 123 then d + 1 else d) → R_parts_58 (c0 : Int) (e : Int) (st : Int) (i : Int) (acc.length : Int) (d1 : Int) c σ Q := fun d1 hd1 => by
        refine R_parts_58.i ⟨fun h => s73 d1 ?_, fun h => ?_⟩
        · rw [hd1]
          by_cases h3 : c = 123
          · rw [if_pos h3, if_pos h3]
          · rw [if_neg h3, if_neg h3, if_neg h]
        · have e0 : d1 = d := by rw [hd1, if_neg (by omega)]
          refine ⟨by unfold Rg; omega, fun h5 => s73 d1 ?_, fun h5 => ?_⟩
          · rw [if_neg (by omega), if_pos h]
            omega
          · rw [show (d1 : Int) + (-1) = ((d - 1 : Nat) : Int) by omega]
            exact s73 (d - 1) (by rw [if_neg (by omega), if_pos h])
      refine R_parts_26.i ⟨by unfold Rg; omega, fun h => absurd h (by omega), fun _ => ⟨fun h => absurd h28 h, fun _ => ⟨by omega, by omega, ?_⟩⟩⟩
      rw [Int.toNat_natCast, ec]
      refine ⟨fun h => s58 d (by rw [if_neg h]), fun h => ?_⟩
      rw [show (d : Int) + 1 = ((d + 1 : Nat) : Int) by omega]
      exact s58 (d + 1) (by rw [if_pos h])
/-- the reference parts line i -/
theorem R_parts.p {i c0 : Nat} (hSc : ScR σ M) (hi : i < (mlL M).length) (hs : ((mlL M).getD i (0, 0)).1 + 1 ≤ ((mlL M).getD i (0, 0)).2) (hc : c0 ≤ 4100) (h28 : mV σ 246 28 = 0) (hy : ∀ X σ', X = tcL M ((mlL M).getD i (0, 0)).1 ((mlL M).getD i (0, 0)).2 → X.length ≤ 8 → FrZ [342, 343] [] σ σ' → PtS σ' c0 X → (∀ z k, z = 342 ∨ z = 343 → k < c0 → mV σ' z k = mV σ z k) → Q (.inl (some (X.length : Int))) σ') (hn : ¬ (tcL M ((mlL M).getD i (0, 0)).1 ((mlL M).getD i (0, 0)).2).length ≤ 8 → ∀ σ' x, FrZ [342, 343] [28] σ σ' → mV σ' 246 28 = 9 → Rg x → Q (.inl (some x)) σ') : R_parts (i : Int) (c0 : Int) σ Q := by
  obtain ⟨h10, hM4, hM, hL⟩ := hSc
  have hb := lin_b (M := M) hi
  have ml4 : (mlL M).length ≤ 4000 := Nat.le_trans (mlF_l (T := M) M.length 0) hM4
  have e253 : mV σ 253 i = (((mlL M).getD i (0, 0)).1 : Int) := hL.2 i hi
  refine R_parts.i (R_lineEnd.p h10 hM4 hM hL hi ?_)
  show 0 ≤ (i : Int) ∧ (i : Int) < 4002 ∧ R_parts_26 (c0 : Int) ((((mlL M).getD i (0, 0)).2 : Nat) : Int) (mV σ 253 (i : Int).toNat + 1) (mV σ 253 (i : Int).toNat + 1) 0 0 σ Q
  rw [Int.toNat_natCast, e253, show ((((mlL M).getD i (0, 0)).1 : Nat) : Int) + 1 = ((((mlL M).getD i (0, 0)).1 + 1 : Nat) : Int) by omega]
  refine ⟨by omega, by omega, ?_⟩
  exact pts_26 (σ0 := σ) hM4 hb.2 hc (((mlL M).getD i (0, 0)).2 - (((mlL M).getD i (0, 0)).1 + 1)) (sgT M (((mlL M).getD i (0, 0)).1 + 1) ((mlL M).getD i (0, 0)).2) _ _ 0 true [] σ (by rw [sgT_l hb.2]; exact Nat.le_refl _) (by omega) (fun _ => rfl) (fun h => absurd h (by omega)) (Nat.le_refl _) hs (Nat.zero_le _) ⟨fun _ t a b _ => absurd b (by omega), fun _ => rfl⟩ (by decide) hM h28 (fun k hk => absurd hk (Nat.not_lt_zero _)) FrZ.rf (fun _ _ _ _ => rfl) (fun X σ' hX => hy X σ' hX) (fun h => hn h)
end
