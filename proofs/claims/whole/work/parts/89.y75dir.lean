/-! DIRECTIVES: all of them -/
/-- settings, macros, patterns, exceptions -/
abbrev RU : Type := List Int × TMc × List (List Int) × List (List Int)
def drW (T : List Int) : Int := ixW (wdT 0) 0 (sgT T 0 (wbD T 0))
def drO (T : List Int) : Bool := decide (¬ drW T = -1 ∧ (4 ≤ drW T ↔ wbD T 0 = T.length))
def drT (T : List Int) : Int := if drW T < 4 then 0 else drW T - 3
abbrev DR9 : Type := (RU × TS) ⊕ (RU × (Int × Int × Int))
def drL (pat : Bool) (P : List (List Int)) (T : List Int) (p : Nat) (s : TS) : TK9 := if wsO pat T (wsD T (T.length + 1) p) = true then tkD (mPt pat) (wsL T (wsD T (T.length + 1) p)) s P else .inr ((1, s.1.1, s.1.2.1), P)
def drD (T : List Int) (R : RU) (s : TS) : DR9 :=
  if drO T = false then .inr (R, (1, s.1.1, s.1.2.1))
  else if drW T = 0 then (if dfG T (wbD T 0 + 1) = false then .inr (R, (1, s.1.1, s.1.2.1)) else if dfF R.2.1 T (wbD T 0 + 1) = true then .inr (R, (9, s.1.1, s.1.2.1)) else .inl ((R.1, dfM R.2.1 T (wbD T 0 + 1), R.2.2), s))
  else if drW T = 1 then (if chD T (wbD T 0 + 1) = false then .inr (R, (1, s.1.1, s.1.2.1)) else .inl ((R.1.set (chW T (wbD T 0 + 1)).toNat (chV T (wbD T 0 + 1)), R.2), s))
  else if drW T = 2 then (match drL true R.2.2.1 T (wbD T 0 + 1) s with
    | .inl q => .inl ((R.1, R.2.1, q.2, R.2.2.2), q.1)
    | .inr q => .inr ((R.1, R.2.1, q.2, R.2.2.2), q.1))
  else if drW T = 3 then (match drL false R.2.2.2 T (wbD T 0 + 1) s with
    | .inl q => .inl ((R.1, R.2.1, R.2.2.1, q.2), q.1)
    | .inr q => .inr ((R.1, R.2.1, R.2.2.1, q.2), q.1))
  else .inl (R, s)
/-- rules hold their bounds -/
def RuI (R : RU) : Prop := (R.1.length = 13 ∧ ∀ k, k < 13 → leD.getD k 0 ≤ R.1.getD k 0 ∧ R.1.getD k 0 ≤ moD.getD k 0) ∧ MI R.2.1 ∧ (R.2.2.1.length ≤ 120 ∧ ∀ w ∈ R.2.2.1, wOk true w = true ∧ smB w) ∧ (R.2.2.2.length ≤ 60 ∧ ∀ w ∈ R.2.2.2, wOk false w = true ∧ smB w)
def RuC (σ : MS) (R : RU) (c : Nat) : Prop := (∀ k, k < 13 → mV σ 24 k = R.1.getD k 0) ∧ KUc σ R.2.1 c ∧ shR σ 39 R.2.2.1 ∧ shR σ 44 R.2.2.2
def RuR (σ : MS) (R : RU) : Prop := (∀ k, k < 13 → mV σ 275 k = R.1.getD k 0) ∧ (∀ X, MaR σ (R.2.1, X)) ∧ HyP1 σ R.2.2.1 ∧ HyX1 σ R.2.2.2
def FOX : List Nat := [26, 28, 30, 32, 35, 37, 40, 42, 45, 47, 87, 89]
def FrFo (σ σ' : MS) : Prop := (∀ q, q ∉ FOX → mX σ' q = mX σ q) ∧ σ'.2.2 = σ.2.2 ∧ ∀ z k, z ≠ 22 → z ≠ 24 → ¬ (z = 86 ∧ (k = 14 ∨ k = 18)) → mV σ' z k = mV σ z k
theorem tkD_ok {pat : Bool} {most : Nat} : ∀ (ws : List (List Int)) (s : TS) (P : List (List Int)), P.length ≤ most → (∀ w ∈ P, wOk pat w = true ∧ smB w) → (∀ w ∈ ws, wOk pat w = true ∧ smB w) → (∀ s' P', tkD most ws s P = .inl (s', P') → P'.length ≤ most ∧ ∀ w ∈ P', wOk pat w = true ∧ smB w) ∧ (∀ e P', tkD most ws s P = .inr (e, P') → P'.length ≤ most ∧ ∀ w ∈ P', wOk pat w = true ∧ smB w)
  | [], s, P, hl, hP, _ => by
    refine ⟨fun s' P' h => ?_, fun e P' h => ?_⟩
    · have h : (Sum.inl (s, P) : TK9) = .inl (s', P') := h
      cases h
      exact ⟨hl, hP⟩
    · have h : (Sum.inl (s, P) : TK9) = .inr (e, P') := h
      cases h
  | w :: ws, s, P, hl, hP, hw => by
    by_cases hm : most ≤ P.length
    · have e0 : tkD most (w :: ws) s P = .inr ((9, s.1.1, s.1.2.1), P) := by
        unfold tkD
        rw [if_pos hm]
      rw [e0]
      exact ⟨fun s' P' h => (by cases h), fun e P' h => by cases h; exact ⟨hl, hP⟩⟩
    · cases h1 : tSp 10 s with
      | inr e1 =>
        have e0 : tkD most (w :: ws) s P = .inr (e1, P) := by
          unfold tkD
          rw [if_neg hm, h1]
        rw [e0]
        exact ⟨fun s' P' h => (by cases h), fun e P' h => by cases h; exact ⟨hl, hP⟩⟩
      | inl s1 =>
        have e0 : tkD most (w :: ws) s P = tkD most ws s1 (P ++ [w]) := by
          conv => lhs; unfold tkD
          rw [if_neg hm, h1]
        rw [e0]
        refine tkD_ok ws s1 (P ++ [w]) (by rw [List.length_append, List.length_singleton]; omega) (fun x hx => ?_) (fun x hx => hw x (List.mem_cons_of_mem _ hx))
        rcases List.mem_append.mp hx with hx | hx
        · exact hP x hx
        · rw [List.mem_singleton.mp hx]
          exact hw w (List.mem_cons_self ..)
theorem wsL_ok {pat : Bool} {T : List Int} {L : List (Nat × Nat)} (hTb : smB T) (h : wsO pat T L = true) : ∀ w ∈ wsL T L, wOk pat w = true ∧ smB w := fun w hw => by
  obtain ⟨x, hx, rfl⟩ := List.mem_map.mp hw
  exact ⟨List.all_eq_true.mp h x hx, hTb.sg⟩
theorem drL_ok {pat : Bool} {T : List Int} {p : Nat} {s : TS} {P : List (List Int)} (hTb : smB T) (hl : P.length ≤ mPt pat) (hP : ∀ w ∈ P, wOk pat w = true ∧ smB w) : (∀ q, drL pat P T p s = .inl q → q.2.length ≤ mPt pat ∧ ∀ w ∈ q.2, wOk pat w = true ∧ smB w) ∧ (∀ q, drL pat P T p s = .inr q → q.2.length ≤ mPt pat ∧ ∀ w ∈ q.2, wOk pat w = true ∧ smB w) := by
  unfold drL
  by_cases h : wsO pat T (wsD T (T.length + 1) p) = true
  · rw [if_pos h]
    have := tkD_ok (most := mPt pat) (wsL T (wsD T (T.length + 1) p)) s P hl hP (wsL_ok hTb h)
    exact ⟨fun q hq => this.1 q.1 q.2 hq, fun q hq => this.2 q.1 q.2 hq⟩
  · rw [if_neg h]
    exact ⟨fun q hq => (by cases hq), fun q hq => by cases hq; exact ⟨hl, hP⟩⟩
/-- the directive's rules hold their bounds -/
theorem drD_ok {T : List Int} {R : RU} {s : TS} (hTb : smB T) (hT4 : T.length ≤ 4000) (hR : RuI R) : (∀ q, drD T R s = .inl q → RuI q.1) ∧ (∀ q, drD T R s = .inr q → RuI q.1) := by
  unfold drD
  split
  · exact ⟨fun q h => (by cases h), fun q h => by cases h; exact hR⟩
  · split
    · split
      · exact ⟨fun q h => (by cases h), fun q h => by cases h; exact hR⟩
      · split
        · exact ⟨fun q h => (by cases h), fun q h => by cases h; exact hR⟩
        · rename_i g1 g2
          refine ⟨fun q h => ?_, fun q h => (by cases h)⟩
          cases h
          have g1' : dfG T (wbD T 0 + 1) = true := by rw [← Bool.not_eq_false]; exact g1
          have hp : wbD T 0 + 1 ≤ T.length := by
            have hw := wbD_b (T := T) (p := 0) (Nat.zero_le _)
            by_cases e : wbD T 0 + 1 ≤ T.length
            · exact e
            · have hz := neD_z (T := T) (p := wbD T 0 + 1) (by omega)
              unfold dfG at g1'
              rw [Bool.and_eq_true, decide_eq_true_iff] at g1'
              omega
          exact ⟨hR.1, hR.2.1.df hTb hT4 g1' (by rw [← Bool.not_eq_true]; exact g2) hp, hR.2.2⟩
    · split
      · split
        · exact ⟨fun q h => (by cases h), fun q h => by cases h; exact hR⟩
        · rename_i g1
          refine ⟨fun q h => ?_, fun q h => (by cases h)⟩
          cases h
          have g1' : chD T (wbD T 0 + 1) = true := by rw [← Bool.not_eq_false]; exact g1
          unfold chD chG at g1'
          rw [Bool.and_eq_true, Bool.and_eq_true, decide_eq_true_iff, decide_eq_true_iff] at g1'
          obtain ⟨⟨⟨c1, -⟩, -⟩, c2, c3⟩ := g1'
          have wb := chW_b (T := T) (p := wbD T 0 + 1)
          refine ⟨⟨by show (R.1.set _ _).length = 13; rw [List.length_set]; exact hR.1.1, fun k hk => ?_⟩, hR.2⟩
          show leD.getD k 0 ≤ (R.1.set _ _).getD k 0 ∧ (R.1.set _ _).getD k 0 ≤ moD.getD k 0
          have l13 := hR.1.1
          rw [set_at (by omega)]
          by_cases e : k = (chW T (wbD T 0 + 1)).toNat
          · rw [if_pos e, e]
            exact ⟨c2, c3⟩
          · rw [if_neg e]
            exact hR.1.2 k hk
      · split
        · have ok := drL_ok (pat := true) (T := T) (p := wbD T 0 + 1) (s := s) hTb hR.2.2.1.1 hR.2.2.1.2
          cases e : drL true R.2.2.1 T (wbD T 0 + 1) s with
          | inl q => exact ⟨fun q' h => by cases h; exact ⟨hR.1, hR.2.1, ok.1 q e, hR.2.2.2⟩, fun q' h => (by cases h)⟩
          | inr q => exact ⟨fun q' h => (by cases h), fun q' h => by cases h; exact ⟨hR.1, hR.2.1, ok.2 q e, hR.2.2.2⟩⟩
        · split
          · have ok := drL_ok (pat := false) (T := T) (p := wbD T 0 + 1) (s := s) hTb hR.2.2.2.1 hR.2.2.2.2
            cases e : drL false R.2.2.2 T (wbD T 0 + 1) s with
            | inl q => exact ⟨fun q' h => by cases h; exact ⟨hR.1, hR.2.1, hR.2.2.1, ok.1 q e⟩, fun q' h => (by cases h)⟩
            | inr q => exact ⟨fun q' h => (by cases h), fun q' h => by cases h; exact ⟨hR.1, hR.2.1, hR.2.2.1, ok.2 q e⟩⟩
          · exact ⟨fun q h => by cases h; exact hR, fun q h => (by cases h)⟩
theorem smW.ok {pat : Bool} {P : List (List Int)} (h : ∀ w ∈ P, wOk pat w = true ∧ smB w) : smW (lPt pat) P := fun w hw => ⟨wOk_len (h w hw).1, (h w hw).2⟩
theorem KUc.cg {σ σ' : MS} {M : TMc} {c c' : Nat} (h : KUc σ M c) (hc : c ≤ c') (hX : ∀ q ∈ DFX, mX σ' q = mX σ q) : KUc σ' M c' := by
  obtain ⟨a, b, B, d, e, f, g⟩ := h
  refine ⟨a.cg (hX 26 (by decide)) (hX 28 (by decide)), (hX 30 (by decide)).trans b, B, d.cg (hX 35 (by decide)) (hX 37 (by decide)), by omega, by omega, ?_⟩
  rw [hX 32 (by decide)]
  exact g
theorem RuC.cg {σ σ' : MS} {R : RU} {c c' : Nat} (h : RuC σ R c) (hc : c ≤ c') (hX : ∀ q, q ∈ FOX → q ≠ 87 → q ≠ 89 → mX σ' q = mX σ q) (hV : ∀ k, mV σ' 24 k = mV σ 24 k) : RuC σ' R c' := ⟨fun k hk => (hV k).trans (h.1 k hk), h.2.1.cg hc (fun q hq => hX q (by simp only [DFX, FOX, List.mem_cons, List.not_mem_nil, or_false] at hq ⊢; omega) (by simp only [DFX, List.mem_cons, List.not_mem_nil, or_false] at hq; omega) (by simp only [DFX, List.mem_cons, List.not_mem_nil, or_false] at hq; omega)), h.2.2.1.cg (hX 40 (by decide) (by decide) (by decide)) (hX 42 (by decide) (by decide) (by decide)), h.2.2.2.cg (hX 45 (by decide) (by decide) (by decide)) (hX 47 (by decide) (by decide) (by decide))⟩
theorem RuC.k2 {σ σ' : MS} {R : RU} {c c' : Nat} (h : RuC σ R c) (hc : c ≤ c') (k : K2 σ σ') : RuC σ' R c' := h.cg hc (fun q _ a b => k.1 q a b) (fun j => k.2.2.1 24 j (by decide) (by omega))
theorem FrFo.k2 {σ σ' : MS} (k : K2 σ σ') : FrFo σ σ' := ⟨fun q h => k.1 q (fun e => h (by rw [e]; decide)) (fun e => h (by rw [e]; decide)), k.2.1, fun z j a _ b => k.2.2.1 z j a b⟩
theorem FrFo.rf {σ : MS} : FrFo σ σ := ⟨fun _ _ => rfl, rfl, fun _ _ _ _ _ => rfl⟩
theorem FrFo.df {σ σ' : MS} (h : FrDf σ σ') : FrFo σ σ' := ⟨fun q a => h.1 q (fun e => a (by simp only [DFX, FOX, List.mem_cons, List.not_mem_nil, or_false] at e ⊢; omega)), h.2.1, fun z k _ _ _ => h.2.2 z k⟩
theorem FrFo.w {pat : Bool} {σ σ' : MS} (h : FrW (zPt pat) σ σ') : FrFo σ σ' := by
  refine ⟨fun q a => h.1 q (fun e => a ?_) (fun e => a ?_), h.2.1, fun z k b _ _ => h.2.2 z k b⟩
  · rw [e]
    cases pat <;> decide
  · rw [e]
    cases pat <;> decide
section
variable {σ σ' : MS} {Q : MQ9} {q x0 : Nat} {T : List Int} {s : TS} {R : RU}
theorem fo_3 {l2 : Int} (hT : LnC σ q x0 T) : ∀ (m p : Nat), p + m = T.length → Rules_follow_26 q l2 ((x0 + T.length : Nat) : Int) ((x0 + wbD T p : Nat) : Int) σ Q → Rules_follow_3 q l2 ((x0 + T.length : Nat) : Int) ((x0 + p : Nat) : Int) σ Q := by
  have l0 := hT.2.1
  intro m
  induction m with
  | zero =>
    intro p hp hq
    rw [wb_e (by omega)] at hq
    exact Rules_follow_3.i ⟨by unfold Rg; omega, by unfold Rg; omega, fun _ => hq, fun h9 => absurd h9 (by omega)⟩
  | succ m ih =>
    intro p hp hq
    have hlt : p < T.length := by omega
    rw [wb_c hlt] at hq
    refine Rules_follow_3.i ⟨by unfold Rg; omega, by unfold Rg; omega, fun h9 => absurd h9 (by omega), fun _ => tB.i hT.1 (tB.i hT.1 ⟨by unfold Rg; omega, ?_⟩)⟩
    rw [hT.at hlt]
    refine ⟨fun h9 => ?_, fun h9 => ?_⟩
    · rw [if_pos h9] at hq
      exact hq
    · rw [if_neg h9] at hq
      rw [show ((x0 + p : Nat) : Int) + 1 = ((x0 + (p + 1) : Nat) : Int) by omega]
      exact ih (p + 1) (by omega) hq
theorem drW_b : drW T = -1 ∨ (0 ≤ drW T ∧ drW T < 7) := by
  have h : (wdT 0).length = 7 := by decide +kernel
  have := ixW_b (wdT 0) 0 (sgT T 0 (wbD T 0))
  unfold drW
  rw [h] at this
  omega
theorem Rules_follow.c {c : Nat} (hT : LnC σ q x0 T) (hTb : smB T) (hT4 : T.length ≤ 4000) (hq9 : q ∉ FOX ∧ neB q 26 = true ∧ neB q 35 = true ∧ neB q 40 = true ∧ neB q 45 = true) (hR : RuI R) (hC : RuC σ R c) (hc : c + T.length + 1 ≤ 4096) (w0 : mV σ 22 0 = s.1.1) (w1 : mV σ 22 1 = s.1.2.1) (g0 : 0 ≤ s.1.1 ∧ s.1.1 ≤ 60000) (g1 : 0 ≤ s.1.2.1 ∧ s.1.2.1 ≤ 400000) (h1 : ∀ R' s' σ', drD T R s = .inl (R', s') → RuC σ' R' (c + T.length + 1) → mV σ' 22 0 = s'.1.1 → mV σ' 22 1 = s'.1.2.1 → FrFo σ σ' → Q (.inl (some (drT T))) σ') (h2 : ∀ R' e σ', drD T R s = .inr (R', e) → RuC σ' R' (c + T.length + 1) → TxF σ' e → FrFo σ σ' → Q (.inr (exN 0)) σ') : Rules_follow q (x0 : Int) ((x0 + T.length : Nat) : Int) σ Q := by
  have l0 := hT.2.1
  obtain ⟨b1, b2⟩ := wbD_b (T := T) (p := 0) (Nat.zero_le _)
  have lU := sg_len b1 b2
  have wb := drW_b (T := T)
  refine Rules_follow.i (fo_3 hT T.length 0 (Nat.zero_add _) ?_)
  have bad : drO T = false → Rules_follow_72 q ((x0 + T.length : Nat) : Int) ((x0 + wbD T 0 : Nat) : Int) (drW T) σ Q := fun h9 => by
    have e : drD T R s = .inr (R, (1, s.1.1, s.1.2.1)) := by
      unfold drD
      rw [if_pos h9]
    exact Rules_follow_72.i (Purse_fail.s (s := s) (by decide) w0 w1 (fun σ' a b => h2 _ _ σ' e (hC.k2 (by omega) b) a (FrFo.k2 b)))
  have good : drO T = true → Rules_follow_80 q ((x0 + T.length : Nat) : Int) ((x0 + wbD T 0 : Nat) : Int) (drW T) σ Q := fun h9 => by
    have h8 := h9
    unfold drO at h8
    rw [decide_eq_true_iff] at h8
    have n0 : ¬ drO T = false := by rw [h9]; decide
    rw [show ((x0 + wbD T 0 : Nat) : Int) = ((x0 + wbD T 0 : Nat) : Int) from rfl]
    refine Rules_follow_80.i ⟨fun h7 => ?_, fun h7 => ?_, fun h7 => ?_, fun h7 => ?_, fun h7 => ?_, fun h7 => ?_, fun h7 => ?_, trivial⟩
    · have e : drD T R s = .inl (R, s) := by
        unfold drD
        rw [if_neg n0, if_neg (by omega), if_neg (by omega), if_neg (by omega), if_neg (by omega)]
      have := h1 R s σ e (hC.k2 (by omega) K2.rf) w0 w1 FrFo.rf
      rw [show drT T = 3 by unfold drT; rw [if_neg (by omega)]; omega] at this
      exact this
    · have t0 : drT T = 0 := by unfold drT; rw [if_pos (by omega)]
      rw [t0] at h1
      have hp : wbD T 0 + 1 ≤ T.length := by omega
      rw [show ((x0 + wbD T 0 : Nat) : Int) + 1 = ((x0 + (wbD T 0 + 1) : Nat) : Int) by omega]
      have ed : drD T R s = (if dfG T (wbD T 0 + 1) = false then .inr (R, (1, s.1.1, s.1.2.1)) else if dfF R.2.1 T (wbD T 0 + 1) = true then .inr (R, (9, s.1.1, s.1.2.1)) else .inl ((R.1, dfM R.2.1 T (wbD T 0 + 1), R.2.2), s)) := by
        unfold drD
        rw [if_neg n0, if_pos h7]
      refine Rules_define.c (s := s) (M := R.2.1) (c := c) hT hTb hp ⟨fun h => hq9.1 (by simp only [DFX, FOX, List.mem_cons, List.not_mem_nil, or_false] at h ⊢; omega), hq9.2.1, hq9.2.2.1⟩ hR.2.1 hC.2.1 hc w0 w1 (fun a σ' b d => ?_) (fun a a2 σ' b d => ?_) (fun a a2 σ' b d => ?_)
      · rw [if_pos a] at ed
        exact h2 _ _ σ' ed (hC.k2 (by omega) d) b (FrFo.k2 d)
      · rw [if_neg (by rw [a]; decide), if_pos a2] at ed
        exact h2 _ _ σ' ed (hC.k2 (by omega) d) b (FrFo.k2 d)
      · rw [if_neg (by rw [a]; decide), if_neg (by rw [a2]; decide)] at ed
        refine h1 _ _ σ' ed ⟨fun k hk => (d.2.2 24 k).trans (hC.1 k hk), b, hC.2.2.1.cg (d.1 40 (by decide)) (d.1 42 (by decide)), hC.2.2.2.cg (d.1 45 (by decide)) (d.1 47 (by decide))⟩ ((d.2.2 _ _).trans w0) ((d.2.2 _ _).trans w1) (FrFo.df d)
    · have t0 : drT T = 0 := by unfold drT; rw [if_pos (by omega)]
      rw [t0] at h1
      have hp : wbD T 0 + 1 ≤ T.length := by omega
      rw [show ((x0 + wbD T 0 : Nat) : Int) + 1 = ((x0 + (wbD T 0 + 1) : Nat) : Int) by omega]
      have ed : drD T R s = (if chD T (wbD T 0 + 1) = false then .inr (R, (1, s.1.1, s.1.2.1)) else .inl ((R.1.set (chW T (wbD T 0 + 1)).toNat (chV T (wbD T 0 + 1)), R.2), s)) := by
        unfold drD
        rw [if_neg n0, if_neg (by omega), if_pos h7]
      refine Rules_change.c (s := s) hT hTb hp w0 w1 (fun a => ?_) (fun a σ' b d => ?_)
      · have hch := a
        unfold chD chG at hch
        rw [Bool.and_eq_true, Bool.and_eq_true, decide_eq_true_iff] at hch
        have wb9 := chW_b (T := T) (p := wbD T 0 + 1)
        rw [if_neg (by rw [a]; decide)] at ed
        refine h1 _ _ _ ed ⟨fun k hk => ?_, hC.2.1.cg (by omega) (fun _ _ => rfl), hC.2.2⟩ ((wV_ne (Or.inl (by decide))).trans w0) ((wV_ne (Or.inl (by decide))).trans w1) ⟨fun _ _ => rfl, rfl, fun z k _ b _ => wV_ne (Or.inl b)⟩
        show _ = (R.1.set _ _).getD k 0
        have l13 := hR.1.1
        rw [set_at (by omega)]
        by_cases e : k = (chW T (wbD T 0 + 1)).toNat
        · rw [if_pos e, e, wV_self]
        · rw [if_neg e, wV_ne (Or.inr e)]
          exact hC.1 k hk
      · rw [if_pos a] at ed
        exact h2 _ _ σ' ed (hC.k2 (by omega) d) b (FrFo.k2 d)
    · have t0 : drT T = 0 := by unfold drT; rw [if_pos (by omega)]
      rw [t0] at h1
      have hp : wbD T 0 + 1 ≤ T.length := by omega
      rw [show ((x0 + wbD T 0 : Nat) : Int) + 1 = ((x0 + (wbD T 0 + 1) : Nat) : Int) by omega]
      have ed : drD T R s = (match drL true R.2.2.1 T (wbD T 0 + 1) s with
        | .inl q => .inl ((R.1, R.2.1, q.2, R.2.2.2), q.1)
        | .inr q => .inr ((R.1, R.2.1, q.2, R.2.2.2), q.1)) := by
        unfold drD
        rw [if_neg n0, if_neg (by omega), if_neg (by omega), if_pos h7]
      unfold drL at ed
      refine Rules_takeWords.c (pat := true) (s := s) (P := R.2.2.1) hT hTb hp ⟨fun h => hq9.1 (by rw [h]; decide), fun h => hq9.1 (by rw [h]; decide), hq9.2.2.2.1⟩ hC.2.2.1 (smW.ok hR.2.2.1.2) hR.2.2.1.1 w0 w1 g0 g1 (fun a σ' b d => ?_) (fun a s' P' σ' e b d1 d2 f => ?_) (fun a e' P' σ' e b d f => ?_)
      · rw [if_neg (by rw [a]; decide)] at ed
        exact h2 _ _ σ' ed (hC.k2 (by omega) d) b (FrFo.k2 d)
      · rw [if_pos a, e] at ed
        exact h1 _ _ σ' ed ⟨fun k hk => (f.2.2 24 k (by decide)).trans (hC.1 k hk), hC.2.1.cg (by omega) (fun q hq => f.1 q (by show q ≠ 40; intro h; rw [h] at hq; revert hq; decide) (by show q ≠ 42; intro h; rw [h] at hq; revert hq; decide)), b, hC.2.2.2.cg (f.1 45 (by decide) (by decide)) (f.1 47 (by decide) (by decide))⟩ d1 d2 (FrFo.w f)
      · rw [if_pos a, e] at ed
        exact h2 _ _ σ' ed ⟨fun k hk => (f.2.2 24 k (by decide)).trans (hC.1 k hk), hC.2.1.cg (by omega) (fun q hq => f.1 q (by show q ≠ 40; intro h; rw [h] at hq; revert hq; decide) (by show q ≠ 42; intro h; rw [h] at hq; revert hq; decide)), b, hC.2.2.2.cg (f.1 45 (by decide) (by decide)) (f.1 47 (by decide) (by decide))⟩ d (FrFo.w f)
    · have t0 : drT T = 0 := by unfold drT; rw [if_pos (by omega)]
      rw [t0] at h1
      have hp : wbD T 0 + 1 ≤ T.length := by omega
      rw [show ((x0 + wbD T 0 : Nat) : Int) + 1 = ((x0 + (wbD T 0 + 1) : Nat) : Int) by omega]
      have ed : drD T R s = (match drL false R.2.2.2 T (wbD T 0 + 1) s with
        | .inl q => .inl ((R.1, R.2.1, R.2.2.1, q.2), q.1)
        | .inr q => .inr ((R.1, R.2.1, R.2.2.1, q.2), q.1)) := by
        unfold drD
        rw [if_neg n0, if_neg (by omega), if_neg (by omega), if_neg (by omega), if_pos h7]
      unfold drL at ed
      refine Rules_takeWords.c (pat := false) (s := s) (P := R.2.2.2) hT hTb hp ⟨fun h => hq9.1 (by rw [h]; decide), fun h => hq9.1 (by rw [h]; decide), hq9.2.2.2.2⟩ hC.2.2.2 (smW.ok hR.2.2.2.2) hR.2.2.2.1 w0 w1 g0 g1 (fun a σ' b d => ?_) (fun a s' P' σ' e b d1 d2 f => ?_) (fun a e' P' σ' e b d f => ?_)
      · rw [if_neg (by rw [a]; decide)] at ed
        exact h2 _ _ σ' ed (hC.k2 (by omega) d) b (FrFo.k2 d)
      · rw [if_pos a, e] at ed
        exact h1 _ _ σ' ed ⟨fun k hk => (f.2.2 24 k (by decide)).trans (hC.1 k hk), hC.2.1.cg (by omega) (fun q hq => f.1 q (by show q ≠ 45; intro h; rw [h] at hq; revert hq; decide) (by show q ≠ 47; intro h; rw [h] at hq; revert hq; decide)), hC.2.2.1.cg (f.1 40 (by decide) (by decide)) (f.1 42 (by decide) (by decide)), b⟩ d1 d2 (FrFo.w f)
      · rw [if_pos a, e] at ed
        exact h2 _ _ σ' ed ⟨fun k hk => (f.2.2 24 k (by decide)).trans (hC.1 k hk), hC.2.1.cg (by omega) (fun q hq => f.1 q (by show q ≠ 45; intro h; rw [h] at hq; revert hq; decide) (by show q ≠ 47; intro h; rw [h] at hq; revert hq; decide)), hC.2.2.1.cg (f.1 40 (by decide) (by decide)) (f.1 42 (by decide) (by decide)), b⟩ d (FrFo.w f)
    · have e : drD T R s = .inl (R, s) := by
        unfold drD
        rw [if_neg n0, if_neg (by omega), if_neg (by omega), if_neg (by omega), if_neg (by omega)]
      have := h1 R s σ e (hC.k2 (by omega) K2.rf) w0 w1 FrFo.rf
      rw [show drT T = 1 by unfold drT; rw [if_neg (by omega)]; omega] at this
      exact this
    · have e : drD T R s = .inl (R, s) := by
        unfold drD
        rw [if_neg n0, if_neg (by omega), if_neg (by omega), if_neg (by omega), if_neg (by omega)]
      have := h1 R s σ e (hC.k2 (by omega) K2.rf) w0 w1 FrFo.rf
      rw [show drT T = 2 by unfold drT; rw [if_neg (by omega)]; omega] at this
      exact this
  have c48 : ∀ a : Int, (a = 1 ↔ 4 ≤ drW T) → (a = 0 ∨ a = 1) → Rules_follow_48 q ((x0 + T.length : Nat) : Int) ((x0 + wbD T 0 : Nat) : Int) (drW T) a σ Q := fun a ha ha2 => by
    refine Rules_follow_48.i ⟨fun h9 => bad ?_, fun h9 => ⟨by unfold Rg; omega, by unfold Rg; omega, fun h8 => Rules_follow_69.i ⟨fun h7 => good ?_, fun h7 => bad ?_⟩, fun h8 => Rules_follow_69.i ⟨fun h7 => good ?_, fun h7 => bad ?_⟩⟩⟩
    · unfold drO
      exact decide_eq_false (by omega)
    · unfold drO
      exact decide_eq_true (by omega)
    · unfold drO
      exact decide_eq_false (by omega)
    · unfold drO
      exact decide_eq_true (by omega)
    · unfold drO
      exact decide_eq_false (by omega)
  refine Rules_follow_26.i (Rules_nameIndex.s (j := 0) (by decide) (by decide) hT.1 (U := sgT T 0 (wbD T 0)) (by omega) (by omega) (by omega) (fun t ht => ?_) ?_)
  · rw [lU] at ht
    rw [sg_at b2 ht, Nat.zero_add, show (x0 : Int) + (t : Int) = ((x0 + t : Nat) : Int) by omega]
    exact hT.at (by omega)
  · exact ⟨fun h9 => c48 0 (by have : drW T < 4 := h9; omega) (Or.inl rfl), fun h9 => c48 1 (by have : 4 ≤ drW T := h9; omega) (Or.inr rfl)⟩
end
