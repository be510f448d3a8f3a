/-! DIRECTIVES: lists of words, the reference -/
def Hy1 (pat : Bool) (σ : MS) (P : List (List Int)) : Prop := if pat = true then HyP1 σ P else HyX1 σ P
def sPt (pat : Bool) : List Nat := if pat = true then [269, 270, 271] else [272, 273, 274]
def kPt (pat : Bool) : List Nat := if pat = true then [28, 32, 33, 47] else [28, 32, 33, 48]
def FrG (pat : Bool) (σ σ' : MS) : Prop := FrZ (sPt pat) (kPt pat) σ σ'
theorem gPt : ∀ pat : Bool, 252 ∉ sPt pat ∧ 252 ≠ 246 ∧ [] ⊆ sPt pat ∧ [28] ⊆ kPt pat ∧ [32, 33] ⊆ kPt pat := by decide
theorem wOk_n {pat : Bool} : wOk pat [] = false := by cases pat <;> decide
section
variable {σ σ0 σ1 : MS} {Q : MQ9} {x0 : Nat} {T W : List Int} {s : TS} {pat : Bool} {P : List (List Int)}
theorem Hy1.z {S K : List Nat} (h : Hy1 pat σ P) (q : FrZ S K σ σ1) (h1 : ∀ z ∈ [246, 269, 270, 271, 272, 273, 274], z ∉ S) (h2 : ∀ k ∈ [47, 48], k ∉ K) : Hy1 pat σ1 P := by
  unfold Hy1 at h ⊢
  cases pat with
  | true =>
    rw [if_pos rfl] at h ⊢
    exact ⟨(q.f (h2 _ (by decide)) (h1 _ (by decide))).trans h.1, fun p hp => ⟨(q.z (h1 _ (by decide)) (by decide)).trans (h.2 p hp).1, (h.2 p hp).2.1.cg (fun k _ _ => q.z (h1 _ (by decide)) (by decide)), fun k hk => (q.z (h1 _ (by decide)) (by decide)).trans ((h.2 p hp).2.2 k hk)⟩⟩
  | false =>
    rw [if_neg (by decide)] at h ⊢
    exact ⟨(q.f (h2 _ (by decide)) (h1 _ (by decide))).trans h.1, fun p hp => ⟨(q.z (h1 _ (by decide)) (by decide)).trans (h.2 p hp).1, (h.2 p hp).2.1.cg (fun k _ _ => q.z (h1 _ (by decide)) (by decide)), fun k hk => by rw [q.z (h1 _ (by decide)) (by decide)]; exact (h.2 p hp).2.2 k hk⟩⟩
theorem li_6 {l1 : Int} (hT : LnR σ x0 T) (hTb : smB T) : ∀ (n p : Nat) (c : Nat), p ≤ T.length → T.length + 1 ≤ p + n → 1 ≤ x0 + p → (wsO pat T (wsD T n p) = false → Q (.inl (some 0)) σ) → (wsO pat T (wsD T n p) = true → R_listed_104 ((x0 + T.length : Nat) : Int) (bZ pat) l1 σ Q) → c ≤ p → R_listed_6 l1 ((x0 + T.length : Nat) : Int) (bZ pat) (c : Int) (((x0 + p : Nat) : Int) - 1) σ Q := by
  have l0 := hT.1
  have pR : Rg (bZ pat) := by cases pat <;> decide
  intro n
  induction n with
  | zero =>
    intro p c hp hn
    omega
  | succ n ih =>
    intro p c hp hn h1p h0 h1 hc
    obtain ⟨b1, b2⟩ := wbD_b hp
    have lW := sg_len b1 b2
    have c46 : R_listed_46 l1 ((x0 + T.length : Nat) : Int) (bZ pat) (c : Int) ((x0 + p : Nat) : Int) ((x0 + wbD T p : Nat) : Int) σ Q := by
      have ok : wOk pat (sgT T p (wbD T p)) = true → R_listed_84 l1 ((x0 + T.length : Nat) : Int) (bZ pat) (c : Int) ((x0 + wbD T p : Nat) : Int) σ Q := fun h9 => by
        refine R_listed_84.i ?_
        rw [show (c : Int) + 1 = ((c + 1 : Nat) : Int) by omega]
        by_cases h8 : wbD T p < T.length
        · have e : wsO pat T (wsD T (n + 1) p) = wsO pat T (wsD T n (wbD T p + 1)) := by
            show (wOk pat (sgT T p (wbD T p)) && wsO pat T (if wbD T p < T.length then wsD T n (wbD T p + 1) else [])) = _
            rw [if_pos h8, h9, Bool.true_and]
          rw [e] at h1 h0
          have := ih (wbD T p + 1) (c + 1) (by omega) (by omega) (by omega) h0 h1 (by omega)
          rw [show ((x0 + (wbD T p + 1) : Nat) : Int) - 1 = ((x0 + wbD T p : Nat) : Int) by omega] at this
          exact this
        · have e : wsO pat T (wsD T (n + 1) p) = true := by
            show (wOk pat (sgT T p (wbD T p)) && wsO pat T (if wbD T p < T.length then wsD T n (wbD T p + 1) else [])) = _
            rw [if_neg h8, h9]
            rfl
          exact R_listed_6.i ⟨by unfold Rg; omega, by unfold Rg; omega, fun _ => ⟨by unfold Rg; omega, fun _ => h1 e, fun h7 => absurd h7 (by omega)⟩, fun h7 => absurd h7 (by omega)⟩
      have hW := hT.sg b1 b2
      have nok : wOk pat (sgT T p (wbD T p)) = false → Q (.inl (some 0)) σ := fun h9 => h0 (by
        show (wOk pat (sgT T p (wbD T p)) && wsO pat T (if wbD T p < T.length then wsD T n (wbD T p + 1) else [])) = _
        rw [h9, Bool.false_and])
      refine R_listed_46.i ⟨by unfold Rg; omega, by unfold Rg; omega, fun h9 => nok (by rw [List.eq_nil_of_length_eq_zero (l := sgT T p (wbD T p)) (by omega)]; exact wOk_n), fun h9 => ⟨pR, fun h8 => ?_, fun h8 => ?_⟩⟩
      · have e := bZ_z h8
        subst e
        rw [show x0 + wbD T p = x0 + p + (sgT T p (wbD T p)).length by omega] at ok ⊢
        exact R_isException.p hW hTb.sg ⟨fun h7 => ok (bZ_ne h7), fun h7 => nok (bZ_z h7)⟩
      · have e := bZ_ne h8
        subst e
        rw [show x0 + wbD T p = x0 + p + (sgT T p (wbD T p)).length by omega] at ok ⊢
        exact R_isPattern.p hW hTb.sg ⟨fun h7 => nok (bZ_z h7), fun h7 => ok (bZ_ne h7)⟩
    have walk : ∀ (m j : Nat), j + m = T.length → wbD T j = wbD T p → R_listed_22 l1 ((x0 + T.length : Nat) : Int) (bZ pat) (c : Int) ((x0 + p : Nat) : Int) ((x0 + j : Nat) : Int) σ Q := by
      intro m
      induction m with
      | zero =>
        intro j hj hw
        rw [wb_e (by omega)] at hw
        rw [← hw] at c46
        exact R_listed_22.i ⟨by unfold Rg; omega, by unfold Rg; omega, fun _ => c46, fun h9 => absurd h9 (by omega)⟩
      | succ m ihm =>
        intro j hj hw
        have hlt : j < T.length := by omega
        have hx := hT.2 j hlt
        rw [wb_c hlt] at hw
        refine R_listed_22.i ⟨by unfold Rg; omega, by unfold Rg; omega, fun h9 => absurd h9 (by omega), fun _ => ⟨by omega, by omega, ?_⟩⟩
        rw [Int.toNat_natCast, hx]
        refine ⟨fun h9 => ?_, fun h9 => ?_⟩
        · rw [if_pos h9] at hw
          rw [← hw] at c46
          exact c46
        · rw [if_neg h9] at hw
          rw [show ((x0 + j : Nat) : Int) + 1 = ((x0 + (j + 1) : Nat) : Int) by omega]
          exact ihm (j + 1) (by omega) hw
    refine R_listed_6.i ⟨by unfold Rg; omega, by unfold Rg; omega, fun h9 => absurd h9 (by omega), fun _ => ?_⟩
    rw [show ((x0 + p : Nat) : Int) - 1 + 1 = ((x0 + p : Nat) : Int) by omega]
    exact walk (T.length - p) p (by omega) rfl
/-- what is known at a fault among directives -/
def FaD (σ : MS) (e : Int × Int × Int) : Prop := mV σ 246 28 = e.1 ∧ e.1 ≠ 0 ∧ mV σ 246 32 = e.2.1 ∧ mV σ 246 33 = e.2.2
theorem FaD.w {k : Int} (hk : k ≠ 0) (h : RxW σ s) : FaD (wV σ 246 28 k) (k, s.1.1, s.1.2.1) := ⟨wV_self, hk, by rw [wV_ne (Or.inr (by decide))]; exact h.2.1, by rw [wV_ne (Or.inr (by decide))]; exact h.2.2.1⟩
theorem li_go (hTb : smB T) : ∀ (n p : Nat) (s : TS) (P : List (List Int)) (σ : MS), p ≤ T.length → T.length + 1 ≤ p + n → 1 ≤ x0 + p → wsO pat T (wsD T n p) = true → LnR σ x0 T → Hy1 pat σ P → smW (lPt pat) P → P.length ≤ mPt pat → RxW σ s → BdR 0 0 s → FrG pat σ0 σ → (∀ s' P' σ', tkD (mPt pat) (wsL T (wsD T n p)) s P = .inl (s', P') → Hy1 pat σ' P' → RxW σ' s' → FrG pat σ0 σ' → Q (.inl (some 1)) σ') → (∀ e P' σ', tkD (mPt pat) (wsL T (wsD T n p)) s P = .inr (e, P') → Hy1 pat σ' P' → FaD σ' e → FrG pat σ0 σ' → Q (.inl (some 1)) σ') → R_listed_104 ((x0 + T.length : Nat) : Int) (bZ pat) (((x0 + p : Nat) : Int) - 1) σ Q := by
  have pR : Rg (bZ pat) := by cases pat <;> decide
  intro n
  induction n with
  | zero =>
    intro p s P σ hp hn
    omega
  | succ n ih =>
    intro p s P σ hp hn h1p hok hT hP hPb hPl hW hB hf h1 h2
    have l0 := hT.1
    obtain ⟨b1, b2⟩ := wbD_b hp
    have lW := sg_len b1 b2
    have hok : (wOk pat (sgT T p (wbD T p)) && wsO pat T (if wbD T p < T.length then wsD T n (wbD T p + 1) else [])) = true := hok
    rw [Bool.and_eq_true] at hok
    have wl := wOk_len hok.1
    have eL : wsL T (wsD T (n + 1) p) = sgT T p (wbD T p) :: wsL T (if wbD T p < T.length then wsD T n (wbD T p + 1) else []) := rfl
    rw [eL] at h1 h2
    have flt : ∀ (σ2 : MS), ¬ mV σ2 246 28 = 0 → Q (.inl (some 1)) σ2 → R_listed_224 ((x0 + T.length : Nat) : Int) (bZ pat) ((x0 + wbD T p : Nat) : Int) σ2 Q := fun σ2 h9 h8 => R_listed_224.i (R_listed_104.i ⟨by unfold Rg; omega, by unfold Rg; omega, fun _ => h8, fun _ => ⟨fun _ => h8, fun h7 => absurd h7 h9⟩⟩)
    have c151 : R_listed_151 ((x0 + T.length : Nat) : Int) (bZ pat) ((x0 + p : Nat) : Int) ((x0 + wbD T p : Nat) : Int) σ Q := by
      have many : mPt pat ≤ P.length → R_listed_176 ((x0 + T.length : Nat) : Int) (bZ pat) ((x0 + wbD T p : Nat) : Int) σ Q := fun hge => by
        have es : tkD (mPt pat) (sgT T p (wbD T p) :: wsL T (if wbD T p < T.length then wsD T n (wbD T p + 1) else [])) s P = .inr ((9, s.1.1, s.1.2.1), P) := by
          unfold tkD
          rw [if_pos hge]
        have f9 : FrZ [] [28] σ (wV σ 246 28 9) := FrZ.wf (by decide)
        refine R_listed_176.i (R_fail.r (by decide) hW (flt _ (by rw [wV_self]; decide) ?_))
        exact h2 _ P _ es (hP.z f9 (by decide) (by decide)) (FaD.w (by decide) hW) (hf.tr (f9.mo (gPt pat).2.2.1 (gPt pat).2.2.2.1))
      have room : ¬ mPt pat ≤ P.length → R_listed_185 ((x0 + T.length : Nat) : Int) (bZ pat) ((x0 + p : Nat) : Int) ((x0 + wbD T p : Nat) : Int) σ Q := fun hlt => by
        refine R_listed_185.i (R_spend.r (g := 0) (kt := 0) (by decide) hW hB (fun s1 e1 => ⟨fun h9 => absurd h9 (by decide), fun _ => ?_⟩) (fun e1 => ⟨fun _ => ?_, fun h9 => absurd rfl h9⟩))
        · obtain ⟨e1a, e1b, e1c⟩ := sp_i e1
          generalize hσ1 : wV (wV σ 246 32 (s.1.1 + 10)) 246 33 (s.1.2.1 + 10) = σ1
          have f1 : FrZ [] [32, 33] σ σ1 := by rw [← hσ1]; exact (FrZ.wf (by decide)).tr (FrZ.wf (by decide))
          have hW1 : RxW σ1 s1 := by
            rw [e1a]
            refine ⟨(f1.f (by decide) (by decide)).trans hW.1, ?_, ?_, (f1.f (by decide) (by decide)).trans hW.2.2.2⟩
            · rw [← hσ1, wV_ne (Or.inr (by decide)), wV_self]
              rfl
            · rw [← hσ1, wV_self]
              rfl
          have hB1 : BdR 0 0 s1 := by
            obtain ⟨q1, q2, q3⟩ := hB
            rw [e1a]
            refine ⟨?_, ?_, ?_⟩
            · show 0 ≤ s.1.1 + 10 ∧ s.1.1 + 10 ≤ 60000
              omega
            · show 0 ≤ s.1.2.1 + 10 ∧ s.1.2.1 + 10 ≤ 400000
              omega
            · show ((0 + s.2.1.length + 0 : Nat) : Int) ≤ s.1.1 + 10 + 100
              omega
          have hP1 : Hy1 pat σ1 P := hP.z f1 (by decide) (by decide)
          have hT1 : LnR σ1 x0 T := ⟨l0, fun i hi => by rw [f1.z (by decide) (by decide)]; exact hT.2 i hi⟩
          have ek : ∀ ws, tkD (mPt pat) (sgT T p (wbD T p) :: ws) s P = tkD (mPt pat) ws s1 (P ++ [sgT T p (wbD T p)]) := fun ws => by
            unfold tkD
            rw [if_neg hlt, e1]
            cases ws <;> rfl
          rw [ek] at h1 h2
          have nx : ∀ σ2 : MS, FrG pat σ1 σ2 → Hy1 pat σ2 (P ++ [sgT T p (wbD T p)]) → RxW σ2 s1 → R_listed_224 ((x0 + T.length : Nat) : Int) (bZ pat) ((x0 + wbD T p : Nat) : Int) σ2 Q := fun σ2 f2 hP2 hW2 => by
            have hT2 : LnR σ2 x0 T := ⟨l0, fun i hi => by rw [f2.z (gPt pat).1 (gPt pat).2.1]; exact hT1.2 i hi⟩
            have hf2 : FrG pat σ0 σ2 := (hf.tr (f1.mo (gPt pat).2.2.1 (gPt pat).2.2.2.2)).tr f2
            refine R_listed_224.i ?_
            by_cases h8 : wbD T p < T.length
            · rw [if_pos h8] at h1 h2 hok
              have := ih (wbD T p + 1) s1 _ σ2 (by omega) (by omega) (by omega) hok.2 hT2 hP2 (hPb.app ⟨wl, hTb.sg⟩) (by rw [List.length_append, List.length_singleton]; omega) hW2 hB1 hf2 h1 h2
              rw [show ((x0 + (wbD T p + 1) : Nat) : Int) - 1 = ((x0 + wbD T p : Nat) : Int) by omega] at this
              exact this
            · rw [if_neg h8] at h1
              exact R_listed_104.i ⟨by unfold Rg; omega, by unfold Rg; omega, fun _ => h1 s1 _ σ2 rfl hP2 hW2 hf2, fun h7 => absurd h7 (by omega)⟩
          have hWd := hT1.sg b1 b2
          refine ⟨pR, fun h9 => ?_, fun h9 => ?_⟩
          · have e := bZ_z h9
            subst e
            refine R_listed_209.i ⟨fun h8 => absurd hW1.1 h8, fun _ => ?_⟩
            rw [show x0 + wbD T p = x0 + p + (sgT T p (wbD T p)).length by omega] at nx ⊢
            exact R_keepException.p hWd hTb.sg hok.1 hP1 hPb (by have : ¬ 60 ≤ P.length := hlt; omega) (fun σ2 f2 g2 => nx σ2 (f2.mo (by decide) (by decide)) g2 (hW1.z f2 (by decide) (by decide)))
          · have e := bZ_ne h9
            subst e
            rw [show x0 + wbD T p = x0 + p + (sgT T p (wbD T p)).length by omega] at nx ⊢
            exact R_keepPattern.p hWd hTb.sg hok.1 hP1 hPb (by have : ¬ 120 ≤ P.length := hlt; omega) (fun σ2 f2 g2 => nx σ2 (f2.mo (by decide) (by decide)) g2 (hW1.z f2 (by decide) (by decide)))
        · have es : tkD (mPt pat) (sgT T p (wbD T p) :: wsL T (if wbD T p < T.length then wsD T n (wbD T p + 1) else [])) s P = .inr ((8, s.1.1, s.1.2.1), P) := by
            unfold tkD
            rw [if_neg hlt, e1]
            rfl
          have f9 : FrZ [] [28] σ (wV σ 246 28 8) := FrZ.wf (by decide)
          refine R_listed_209.i ⟨fun _ => flt _ (by rw [wV_self]; decide) ?_, fun h8 => absurd h8 (by rw [wV_self]; decide)⟩
          exact h2 _ P _ es (hP.z f9 (by decide) (by decide)) (FaD.w (by decide) hW) (hf.tr (f9.mo (gPt pat).2.2.1 (gPt pat).2.2.2.1))
      cases pat with
      | true =>
        have v : mV σ 246 47 = (P.length : Int) := hP.1
        refine R_listed_151.i ⟨pR, fun h9 => absurd h9 (by decide), fun _ => ⟨fun h9 => room ?_, fun h9 => many ?_⟩⟩
        · have : P.length ≤ 120 := hPl
          show ¬ 120 ≤ P.length
          rw [v] at h9
          omega
        · show 120 ≤ P.length
          rw [v] at h9
          omega
      | false =>
        have v : mV σ 246 48 = (P.length : Int) := hP.1
        refine R_listed_151.i ⟨pR, fun _ => ⟨fun h9 => room ?_, fun h9 => many ?_⟩, fun h9 => absurd rfl h9⟩
        · have : P.length ≤ 60 := hPl
          show ¬ 60 ≤ P.length
          rw [v] at h9
          omega
        · show 60 ≤ P.length
          rw [v] at h9
          omega
    have walk : ∀ (m j : Nat), j + m = T.length → wbD T j = wbD T p → R_listed_127 ((x0 + T.length : Nat) : Int) (bZ pat) ((x0 + p : Nat) : Int) ((x0 + j : Nat) : Int) σ Q := by
      intro m
      induction m with
      | zero =>
        intro j hj hw
        rw [wb_e (by omega)] at hw
        rw [← hw] at c151
        exact R_listed_127.i ⟨by unfold Rg; omega, by unfold Rg; omega, fun _ => c151, fun h9 => absurd h9 (by omega)⟩
      | succ m ihm =>
        intro j hj hw
        have hlt : j < T.length := by omega
        have hx := hT.2 j hlt
        rw [wb_c hlt] at hw
        refine R_listed_127.i ⟨by unfold Rg; omega, by unfold Rg; omega, fun h9 => absurd h9 (by omega), fun _ => ⟨by omega, by omega, ?_⟩⟩
        rw [Int.toNat_natCast, hx]
        refine ⟨fun h9 => ?_, fun h9 => ?_⟩
        · rw [if_pos h9] at hw
          rw [← hw] at c151
          exact c151
        · rw [if_neg h9] at hw
          rw [show ((x0 + j : Nat) : Int) + 1 = ((x0 + (j + 1) : Nat) : Int) by omega]
          exact ihm (j + 1) (by omega) hw
    refine R_listed_104.i ⟨by unfold Rg; omega, by unfold Rg; omega, fun h9 => absurd h9 (by omega), fun _ => ⟨fun h9 => absurd hW.1 h9, fun _ => ?_⟩⟩
    rw [show ((x0 + p : Nat) : Int) - 1 + 1 = ((x0 + p : Nat) : Int) by omega]
    exact walk (T.length - p) p (by omega) rfl
theorem R_listed.p {p : Nat} {k : Int} (hk : k + 1 = ((x0 + p : Nat) : Int)) (h1p : 1 ≤ x0 + p) (hT : LnR σ x0 T) (hTb : smB T) (hp : p ≤ T.length) (hP : Hy1 pat σ P) (hPb : smW (lPt pat) P) (hPl : P.length ≤ mPt pat) (hW : RxW σ s) (hB : BdR 0 0 s) (h0 : wsO pat T (wsD T (T.length + 1) p) = false → Q (.inl (some 0)) σ) (h1 : wsO pat T (wsD T (T.length + 1) p) = true → ∀ s' P' σ', tkD (mPt pat) (wsL T (wsD T (T.length + 1) p)) s P = .inl (s', P') → Hy1 pat σ' P' → RxW σ' s' → FrG pat σ σ' → Q (.inl (some 1)) σ') (h2 : wsO pat T (wsD T (T.length + 1) p) = true → ∀ e P' σ', tkD (mPt pat) (wsL T (wsD T (T.length + 1) p)) s P = .inr (e, P') → Hy1 pat σ' P' → FaD σ' e → FrG pat σ σ' → Q (.inl (some 1)) σ') : R_listed k ((x0 + T.length : Nat) : Int) (bZ pat) σ Q := by
  obtain rfl : k = ((x0 + p : Nat) : Int) - 1 := by omega
  exact R_listed.i (li_6 hT hTb (T.length + 1) p 0 hp (by omega) h1p h0 (fun hok => li_go hTb (T.length + 1) p s P σ hp (by omega) h1p hok hT hP hPb hPl hW hB FrZ.rf (h1 hok) (h2 hok)) (Nat.zero_le _))
/-- behind the word that tells it -/
theorem R_listed.e {k : Int} (hk : k = ((x0 + T.length : Nat) : Int)) (hl : x0 + T.length ≤ 8100) (h0 : Q (.inl (some 0)) σ) : R_listed k ((x0 + T.length : Nat) : Int) (bZ pat) σ Q := by
  subst hk
  exact R_listed.i (R_listed_6.i ⟨by unfold Rg; omega, by unfold Rg; omega, fun _ => ⟨by decide, fun h9 => absurd rfl h9, fun _ => h0⟩, fun h9 => absurd h9 (by omega)⟩)
end
