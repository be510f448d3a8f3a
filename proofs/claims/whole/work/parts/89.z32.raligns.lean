/-! TABLES: the reference knows alignments -/
def alN (a : Int) : Int := if a = 60 then 0 else if a = 94 then 1 else 2
theorem alG_32 : ∀ {L : List Int} {f : Int}, alG (L ++ [32]) f = alG L f
  | [], f => if_pos rfl
  | c :: r, f => by
    show (if c = 32 then alG (r ++ [32]) f else if ¬ f = -1 then -1 else if c = 60 ∨ c = 94 ∨ c = 62 then alG (r ++ [32]) c else -1) = _
    rw [alG_32, alG_32]
    rfl
theorem alG_end {d : Int} (hd : ¬ d = 32) : ∀ {L : List Int} {f : Int}, ¬ f = -1 → alG (L ++ [d]) f = -1
  | [], f, hf => (if_neg hd).trans (if_pos hf)
  | c :: r, f, hf => by
    show (if c = 32 then alG (r ++ [d]) f else if ¬ f = -1 then -1 else if c = 60 ∨ c = 94 ∨ c = 62 then alG (r ++ [d]) c else -1) = -1
    split
    · exact alG_end hd hf
    · rfl
section
variable {σ σ0 : MS} {Q : MQ9} {M : List Int}
theorem alO_sk {a b : Nat} (hb : b ≤ M.length) (h : a < b) (h32 : M.getD a 0 = 32) : alO M (a, b) = alO M (a + 1, b) := by
  show alG (sgT M a b) (-1) = alG (sgT M (a + 1) b) (-1)
  rw [sgT_c h hb, h32]
  exact if_pos rfl
theorem sgT_lst {a b : Nat} (hb : b ≤ M.length) (h : a < b) : sgT M a b = sgT M a (b - 1) ++ [M.getD (b - 1) 0] := by
  have e1 : sgT M (b - 1) b = [M.getD (b - 1) 0] := by
    rw [sgT_c (by omega) hb, show b - 1 + 1 = b by omega, sgT_n]
  rw [sgT_ap (a := a) (b := b - 1) (c := b) (by omega) (by omega) hb, e1]
theorem alO_tr {a b : Nat} (hb : b ≤ M.length) (h : a < b) (h32 : M.getD (b - 1) 0 = 32) : alO M (a, b) = alO M (a, b - 1) := by
  show alG (sgT M a b) (-1) = alG (sgT M a (b - 1)) (-1)
  rw [sgT_lst hb h, h32, alG_32]
theorem alO_0 {a b : Nat} (h : b ≤ a) : alO M (a, b) = -1 := by
  show alG (sgT M a b) (-1) = -1
  unfold sgT
  rw [show b - a = 0 by omega, List.take_zero]
  rfl
theorem alO_1 {a : Nat} (hb : a + 1 ≤ M.length) (h32 : ¬ M.getD a 0 = 32) : alO M (a, a + 1) = if M.getD a 0 = 60 ∨ M.getD a 0 = 94 ∨ M.getD a 0 = 62 then M.getD a 0 else -1 := by
  show alG (sgT M a (a + 1)) (-1) = _
  rw [sgT_c (by omega) hb, sgT_n]
  show (if M.getD a 0 = 32 then alG [] (-1) else if ¬ (-1 : Int) = -1 then -1 else if M.getD a 0 = 60 ∨ M.getD a 0 = 94 ∨ M.getD a 0 = 62 then alG [] (M.getD a 0) else -1) = _
  rw [if_neg h32, if_neg (fun h => h rfl)]
  rfl
theorem alO_2 {a b : Nat} (hb : b ≤ M.length) (h : a + 1 < b) (h1 : ¬ M.getD a 0 = 32) (h2 : ¬ M.getD (b - 1) 0 = 32) : alO M (a, b) = -1 := by
  show alG (sgT M a b) (-1) = -1
  rw [sgT_c (by omega) hb, sgT_lst hb (by omega)]
  show (if M.getD a 0 = 32 then alG (sgT M (a + 1) (b - 1) ++ [M.getD (b - 1) 0]) (-1) else if ¬ (-1 : Int) = -1 then -1 else if M.getD a 0 = 60 ∨ M.getD a 0 = 94 ∨ M.getD a 0 = 62 then alG (sgT M (a + 1) (b - 1) ++ [M.getD (b - 1) 0]) (M.getD a 0) else -1) = -1
  rw [if_neg h1, if_neg (fun h => h rfl)]
  split
  · exact alG_end h2 (by omega)
  · rfl
theorem aln_97 {l1 l2 : Int} {a b k : Nat} (hM : hol σ 252 M) (hM4 : M.length ≤ 4000) (hab : a ≤ b) (hb : b ≤ M.length) (hk : k < 8) (h1 : a < b → ¬ M.getD a 0 = 32 ∧ ¬ M.getD (b - 1) 0 = 32) (hy : ¬ alO M (a, b) = -1 → R_aligns_191 l1 l2 1 (k : Int) (k : Int) (alN (alO M (a, b))) σ Q) (hn : alO M (a, b) = -1 → R_aligns_191 l1 l2 0 (k : Int) (k : Int) 0 σ Q) : R_aligns_97 l1 l2 (k : Int) (a : Int) (b : Int) σ Q := by
  have no : alO M (a, b) = -1 → R_aligns_146 l1 l2 (k : Int) (a : Int) σ Q := fun h => R_aligns_146.i (R_aligns_147.i ⟨fun _ => R_aligns_170.i (hn h), fun h9 => absurd rfl h9⟩)
  refine R_aligns_97.i ⟨by unfold Rg; omega, by unfold Rg; omega, fun h => no ?_, fun h => ?_⟩
  · by_cases e : a = b
    · exact alO_0 (by omega)
    · have := h1 (by omega)
      exact alO_2 hb (by omega) this.1 this.2
  · have hb1 : b = a + 1 := by omega
    have hs := (h1 (by omega)).1
    have ea : mV σ 252 a = M.getD a 0 := hM a (by omega)
    have e1 := alO_1 (M := M) (a := a) (by omega) hs
    rw [← hb1] at e1
    rw [Int.toNat_natCast, ea]
    have yes : (M.getD a 0 = 60 ∨ M.getD a 0 = 94 ∨ M.getD a 0 = 62) → R_aligns_142 l1 l2 (k : Int) (a : Int) σ Q := fun hs3 => by
      rw [if_pos hs3] at e1
      have hy := hy (by rw [e1]; omega)
      rw [e1] at hy
      refine R_aligns_142.i (R_aligns_147.i ⟨fun h9 => absurd h9 (by decide), fun _ => ⟨by omega, by omega, ?_⟩⟩)
      rw [Int.toNat_natCast, ea]
      refine ⟨fun h6 => ⟨by omega, by omega, fun h9 => ?_, fun h9 => ?_⟩, fun h6 => R_aligns_170.i ?_⟩
      · have : alN (M.getD a 0) = 2 := by
          unfold alN
          rw [if_neg h6, if_neg h9]
        rw [this] at hy
        exact hy
      · have : alN (M.getD a 0) = 1 := by
          unfold alN
          rw [if_neg h6, if_pos h9]
        rw [this] at hy
        exact hy
      · have : alN (M.getD a 0) = 0 := by
          unfold alN
          rw [if_pos h6]
        rw [this] at hy
        exact hy
    refine ⟨by omega, by omega, fun h6 => yes (Or.inl h6), fun h6 => ⟨by omega, by omega, fun h9 => yes (Or.inr (Or.inl h9)), fun h9 => ⟨by omega, by omega, fun h2 => no ?_, fun h2 => yes (Or.inr (Or.inr h2))⟩⟩⟩
    rw [e1, if_neg (by omega)]
theorem aln_45 {l1 l2 : Int} {k : Nat} (hM : hol σ 252 M) (hM4 : M.length ≤ 4000) (hk : k < 8) : ∀ (n a b : Nat), b - a ≤ n → a ≤ b → b ≤ M.length → (¬ alO M (a, b) = -1 → R_aligns_191 l1 l2 1 (k : Int) (k : Int) (alN (alO M (a, b))) σ Q) → (alO M (a, b) = -1 → R_aligns_191 l1 l2 0 (k : Int) (k : Int) 0 σ Q) → R_aligns_45 l1 l2 (k : Int) (a : Int) (b : Int) σ Q := by
  have s70 : ∀ (n a b : Nat), b - a ≤ n → a ≤ b → b ≤ M.length → (a < b → ¬ M.getD a 0 = 32) → (¬ alO M (a, b) = -1 → R_aligns_191 l1 l2 1 (k : Int) (k : Int) (alN (alO M (a, b))) σ Q) → (alO M (a, b) = -1 → R_aligns_191 l1 l2 0 (k : Int) (k : Int) 0 σ Q) → R_aligns_70 l1 l2 (k : Int) (a : Int) (b : Int) σ Q := by
    intro n
    induction n with
    | zero =>
      intro a b hn hab hb h1 hy hno
      exact R_aligns_70.i ⟨by unfold Rg; omega, by unfold Rg; omega, fun _ => aln_97 hM hM4 hab hb hk (fun h => absurd h (by omega)) hy hno, fun h => absurd h (by omega)⟩
    | succ n ih =>
      intro a b hn hab hb h1 hy hno
      by_cases e : a = b
      · exact R_aligns_70.i ⟨by unfold Rg; omega, by unfold Rg; omega, fun _ => aln_97 hM hM4 hab hb hk (fun h => absurd h (by omega)) hy hno, fun h => absurd h (by omega)⟩
      · have eb : mV σ 252 (b - 1) = M.getD (b - 1) 0 := hM (b - 1) (by omega)
        refine R_aligns_70.i ⟨by unfold Rg; omega, by unfold Rg; omega, fun h => absurd h (by omega), fun _ => ⟨by omega, by omega, ?_⟩⟩
        rw [show ((b : Int) - 1).toNat = b - 1 by omega, eb]
        refine ⟨fun h => aln_97 hM hM4 hab hb hk (fun h9 => ⟨h1 h9, h⟩) hy hno, fun h => ?_⟩
        rw [alO_tr hb (by omega) h] at hy hno
        rw [show (b : Int) + (-1) = ((b - 1 : Nat) : Int) by omega]
        exact ih a (b - 1) (by omega) (by omega) (by omega) (fun _ => h1 (by omega)) hy hno
  intro n
  induction n with
  | zero =>
    intro a b hn hab hb hy hno
    exact R_aligns_45.i ⟨by unfold Rg; omega, fun _ => s70 0 a b hn hab hb (fun h => absurd h (by omega)) hy hno, fun h => absurd h (by omega)⟩
  | succ n ih =>
    intro a b hn hab hb hy hno
    by_cases e : a = b
    · exact R_aligns_45.i ⟨by unfold Rg; omega, fun _ => s70 0 a b (by omega) hab hb (fun h => absurd h (by omega)) hy hno, fun h => absurd h (by omega)⟩
    · have ea : mV σ 252 a = M.getD a 0 := hM a (by omega)
      refine R_aligns_45.i ⟨by unfold Rg; omega, fun h => absurd h (by omega), fun _ => ⟨by omega, by omega, ?_⟩⟩
      rw [Int.toNat_natCast, ea]
      refine ⟨fun h => s70 (b - a) a b (Nat.le_refl _) hab hb (fun _ => h) hy hno, fun h => ?_⟩
      rw [alO_sk hb (by omega) h] at hy hno
      rw [show (a : Int) + 1 = ((a + 1 : Nat) : Int) by omega]
      exact ih (a + 1) b (by omega) (by omega) hb hy hno
theorem aln_205 (hq : ∀ σ', FrZ [345] [] σ0 σ' → (∀ k, k < 8 → mV σ' 345 k = 0) → Q (.inl (some 0)) σ') : ∀ (n j : Nat) (σ : MS), j + n = 8 → FrZ [345] [] σ0 σ → (∀ k, k < j → mV σ 345 k = 0) → R_aligns_205 0 (j : Int) σ Q := by
  intro n
  induction n with
  | zero =>
    intro j σ hj hf hz
    rw [show j = 8 by omega] at hz ⊢
    exact R_aligns_205.i ⟨by decide, fun _ => b01.i (Or.inl rfl) (hq σ hf hz), fun h => absurd h (by decide)⟩
  | succ n ih =>
    intro j σ hj hf hz
    refine R_aligns_205.i ⟨by unfold Rg; omega, fun h => absurd h (by omega), fun _ => ⟨by omega, by omega, ?_⟩⟩
    rw [Int.toNat_natCast, show (j : Int) + 1 = ((j + 1 : Nat) : Int) by omega]
    refine ih (j + 1) _ (by omega) (hf.tr (FrZ.wz (by decide))) (fun k hk => ?_)
    by_cases e : k = j
    · rw [e, wV_self]
    · rw [wV_ne (Or.inr e)]
      exact hz k (by omega)
theorem R_aligns.p {c0 : Nat} {X : List (Nat × Nat)} {a9 e9 : Nat} (hM : hol σ 252 M) (hM4 : M.length ≤ 4000) (he : e9 ≤ M.length) (hXb : TcB a9 e9 X) (hX8 : X.length ≤ 8) (hS : PtS σ c0 X) (hc : c0 ≤ 4100) (hy : tcA M X = true → ∀ σ', FrZ [345] [] σ σ' → (∀ k, k < 8 → mV σ' 345 k = if k < X.length then alN (alO M (X.getD k (0, 0))) else mV σ 345 k) → Q (.inl (some 1)) σ') (hn : tcA M X = false → ∀ σ', FrZ [345] [] σ σ' → (∀ k, k < 8 → mV σ' 345 k = 0) → Q (.inl (some 0)) σ') : R_aligns (c0 : Int) (X.length : Int) σ Q := by
  have gm : ∀ k, k < X.length → X.getD k (0, 0) ∈ X := fun k hk => by
    unfold List.getD
    rw [List.getElem?_eq_getElem hk, Option.getD_some]
    exact List.getElem_mem _
  have bad : ∀ j, j < X.length → alO M (X.getD j (0, 0)) = -1 → tcA M X = false := fun j hj h => by
    cases e9 : tcA M X with
    | false => rfl
    | true =>
      unfold tcA at e9
      rw [Bool.and_eq_true] at e9
      exact absurd h (of_decide_eq_true (List.all_eq_true.mp e9.2 _ (gm j hj)))
  have zero : tcA M X = false → ∀ σ1, FrZ [345] [] σ σ1 → R_aligns_198 0 σ1 Q := fun hA σ1 f1 => R_aligns_198.i ⟨fun h => absurd rfl h, fun _ => aln_205 (σ0 := σ) (fun σ' f z => hn hA σ' f z) 8 0 σ1 (by omega) f1 (fun k hk => absurd hk (Nat.not_lt_zero _))⟩
  have loop : 0 < X.length → ∀ (n j : Nat) (σ1 : MS), j + n = X.length → FrZ [345] [] σ σ1 → (∀ k, k < j → ¬ alO M (X.getD k (0, 0)) = -1) → (∀ k, k < 8 → mV σ1 345 k = if k < j then alN (alO M (X.getD k (0, 0))) else mV σ 345 k) → R_aligns_13 (c0 : Int) (X.length : Int) 1 (j : Int) σ1 Q := fun h0 => by
    intro n
    induction n with
    | zero =>
      intro j σ1 hj f1 hall hv
      have ej : j = X.length := by omega
      rw [ej] at hall hv ⊢
      have hA : tcA M X = true := by
        unfold tcA
        rw [Bool.and_eq_true]
        refine ⟨?_, List.all_eq_true.mpr (fun p hp => ?_)⟩
        · cases hc : X with
          | nil =>
            rw [hc] at h0
            exact absurd h0 (by decide)
          | cons x r => rfl
        · obtain ⟨i, hi, e⟩ := List.mem_iff_getElem.mp hp
          have := hall i hi
          unfold List.getD at this
          rw [List.getElem?_eq_getElem hi, Option.getD_some, e] at this
          exact decide_eq_true this
      exact R_aligns_13.i ⟨by unfold Rg; omega, by unfold Rg; omega, fun _ => R_aligns_198.i ⟨fun _ => b01.i (Or.inr rfl) (hy hA σ1 f1 hv), fun h => absurd h (by decide)⟩, fun h => absurd h (by omega)⟩
    | succ n ih =>
      intro j σ1 hj f1 hall hv
      have sj := hS j (by omega)
      have xb := hXb _ (gm j (by omega))
      have z1 : ∀ y k, y ≠ 345 → y ≠ 246 → mV σ1 y k = mV σ y k := fun y k a b => f1.z (by rw [List.mem_singleton]; exact a) b
      refine R_aligns_13.i ⟨by unfold Rg; omega, by unfold Rg; omega, fun h => absurd h (by omega), fun _ => ⟨fun h => absurd h (by decide), fun _ => ⟨by omega, by omega, by omega, by omega, ?_⟩⟩⟩
      rw [show (c0 : Int) + (j : Int) = ((c0 + j : Nat) : Int) by omega, Int.toNat_natCast, z1 342 _ (by decide) (by decide), z1 343 _ (by decide) (by decide), sj.1, sj.2]
      refine aln_45 (k := j) (fun k hk => (z1 _ _ (by decide) (by decide)).trans (hM k hk)) hM4 (by omega) _ _ _ (Nat.le_refl _) xb.2.1 (by omega) (fun h => ?_) (fun h => ?_)
      · refine R_aligns_191.i ⟨by omega, by omega, ?_⟩
        rw [Int.toNat_natCast, show (j : Int) + 1 = ((j + 1 : Nat) : Int) by omega]
        refine ih (j + 1) _ (by omega) (f1.tr (FrZ.wz (by decide))) (fun k hk => ?_) (fun k hk => ?_)
        · by_cases e : k = j
          · rw [e]
            exact h
          · exact hall k (by omega)
        · by_cases e : k = j
          · rw [e, wV_self, if_pos (by omega)]
          · rw [wV_ne (Or.inr e), hv k hk]
            by_cases h9 : k < j
            · rw [if_pos h9, if_pos (by omega)]
            · rw [if_neg h9, if_neg (by omega)]
      · have hA := bad j (by omega) h
        refine R_aligns_191.i ⟨by omega, by omega, ?_⟩
        have z := zero hA _ (f1.tr (FrZ.wz (z := 345) (k := (j : Int).toNat) (x := 0) (by decide)))
        exact R_aligns_13.i ⟨by unfold Rg; omega, by unfold Rg; omega, fun _ => z, fun _ => ⟨fun _ => z, fun h9 => absurd rfl h9⟩⟩
  refine R_aligns.i ⟨by unfold Rg; omega, fun h => R_aligns_9.i ?_, fun h => R_aligns_9.i ?_⟩
  · have x0 : X = [] := List.eq_nil_of_length_eq_zero (by omega)
    have hA : tcA M X = false := by rw [x0]; rfl
    exact R_aligns_13.i ⟨by decide, by unfold Rg; omega, fun _ => zero hA σ FrZ.rf, fun _ => ⟨fun _ => zero hA σ FrZ.rf, fun h9 => absurd rfl h9⟩⟩
  · exact loop (by omega) X.length 0 σ (by omega) FrZ.rf (fun k hk => absurd hk (Nat.not_lt_zero _)) (fun k _ => by rw [if_neg (Nat.not_lt_zero _)])
end
