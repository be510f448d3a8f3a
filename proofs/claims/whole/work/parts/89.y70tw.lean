/-! DIRECTIVES: lists of words, the class -/
def wsD (T : List Int) : Nat → Nat → List (Nat × Nat)
  | 0, _ => []
  | n + 1, p => (p, wbD T p) :: (if wbD T p < T.length then wsD T n (wbD T p + 1) else [])
def wOk (pat : Bool) (W : List Int) : Bool := if pat = true then paOk W else exOk W
def wsO (pat : Bool) (T : List Int) (L : List (Nat × Nat)) : Bool := L.all (fun x => wOk pat (sgT T x.1 x.2))
abbrev TK9 : Type := (TS × List (List Int)) ⊕ ((Int × Int × Int) × List (List Int))
def tkD (most : Nat) : List (List Int) → TS → List (List Int) → TK9
  | [], s, P => .inl (s, P)
  | w :: ws, s, P => if most ≤ P.length then .inr ((9, s.1.1, s.1.2.1), P) else match tSp 10 s with
    | .inr e => .inr (e, P)
    | .inl s1 => tkD most ws s1 (P ++ [w])
def wsL (T : List Int) (L : List (Nat × Nat)) : List (List Int) := L.map (fun x => sgT T x.1 x.2)
def FrW (z : Nat) (σ σ' : MS) : Prop := (∀ q, q ≠ z + 1 → q ≠ z + 3 → mX σ' q = mX σ q) ∧ σ'.2.2 = σ.2.2 ∧ ∀ y k, y ≠ 22 → mV σ' y k = mV σ y k
theorem FrW.rf {z : Nat} {σ : MS} : FrW z σ σ := ⟨fun _ _ _ => rfl, rfl, fun _ _ _ => rfl⟩
theorem FrW.tr {z : Nat} {σ σ1 σ2 : MS} (h : FrW z σ σ1) (h' : FrW z σ1 σ2) : FrW z σ σ2 := ⟨fun q a b => (h'.1 q a b).trans (h.1 q a b), h'.2.1.trans h.2.1, fun y k a => (h'.2.2 y k a).trans (h.2.2 y k a)⟩
/-- the shelf for it, and how many -/
def zPt (pat : Bool) : Nat := if pat = true then 39 else 44
def mPt (pat : Bool) : Nat := if pat = true then 120 else 60
def lPt (pat : Bool) : Nat := if pat = true then 16 else 24
theorem zpt_ok : ∀ pat : Bool, isShelf (zPt pat) = true ∧ isRow (zPt pat + 1) = true ∧ isRow (zPt pat + 3) = true ∧ 1920 ≤ capOf (zPt pat + 1) ∧ mPt pat ≤ capOf (zPt pat + 3) ∧ mPt pat * lPt pat ≤ 1920 := by decide +kernel
theorem wOk_len {pat : Bool} {W : List Int} (h : wOk pat W = true) : W.length ≤ lPt pat := by
  unfold wOk at h
  unfold lPt
  cases pat with
  | true =>
    rw [if_pos rfl] at h ⊢
    unfold paOk at h
    rw [Bool.and_eq_true, Bool.and_eq_true, decide_eq_true_iff] at h
    exact h.2.2
  | false =>
    rw [if_neg (by decide)] at h ⊢
    unfold exOk at h
    rw [Bool.and_eq_true, decide_eq_true_iff] at h
    exact h.2.2
theorem Purse_spend.w {σ : MS} {Q : MQ9} {n : Int} {s : TS} (hn : 0 ≤ n ∧ n ≤ 100000) (h0 : mV σ 22 0 = s.1.1) (h1 : mV σ 22 1 = s.1.2.1) (b0 : 0 ≤ s.1.1 ∧ s.1.1 ≤ 60000) (b1 : 0 ≤ s.1.2.1 ∧ s.1.2.1 ≤ 400000) (hy : ∀ s', tSp n s = .inl s' → Q (.inl none) (wV (wV σ 22 0 (s.1.1 + n)) 22 1 (s.1.2.1 + n))) (hq : tSp n s = .inr (8, s.1.1, s.1.2.1) → Q (.inr (exN 0)) (wV σ 22 2 8)) : Purse_spend n σ Q := by
  have no : (60000 < s.1.1 + n ∨ 400000 < s.1.2.1 + n) → Purse_spend_22 σ Q := fun h => by
    refine Purse_spend_22.i (hq ?_)
    unfold tSp
    rw [if_pos h]
    rfl
  refine Purse_spend.i ⟨by unfold Rg; omega, by rw [h0]; unfold Rg; omega, fun a => no (by omega), fun a => ⟨by unfold Rg; omega, by rw [h1]; unfold Rg; omega, fun b => ⟨by rw [h0]; unfold Rg; omega, by rw [h1]; unfold Rg; omega, ?_⟩, fun b => no (by omega)⟩⟩
  rw [h0, h1]
  refine hy (sWk s (s.1.1 + n) (s.1.2.1 + n)) ?_
  unfold tSp
  rw [if_neg (by omega)]
theorem FrW.v {z k : Nat} {σ : MS} {x : Int} : FrW z σ (wV σ 22 k x) := ⟨fun _ _ _ => rfl, rfl, fun y k a => wV_ne (Or.inl a)⟩
theorem TxF.w {σ : MS} {s : TS} {k : Int} (w0 : mV σ 22 0 = s.1.1) (w1 : mV σ 22 1 = s.1.2.1) : TxF (wV σ 22 2 k) (k, s.1.1, s.1.2.1) := ⟨wV_self, by rw [wV_ne (Or.inr (by decide))]; exact w0, by rw [wV_ne (Or.inr (by decide))]; exact w1⟩
section
variable {σ σ0 σ1 : MS} {Q : MQ9} {q x0 : Nat} {T : List Int} {s : TS} {pat : Bool}
theorem tw_6 {l2 : Int} (hT : LnC σ q x0 T) (hTb : smB T) (w0 : mV σ 22 0 = s.1.1) (w1 : mV σ 22 1 = s.1.2.1) : ∀ (n p : Nat), p ≤ T.length → T.length + 1 ≤ p + n → (wsO pat T (wsD T n p) = true → Rules_takeWords_6 q l2 ((x0 + T.length : Nat) : Int) (bZ pat) (((x0 + T.length : Nat) : Int) + 1) (((x0 + T.length : Nat) : Int) + 1) σ Q) → (wsO pat T (wsD T n p) = false → ∀ σ', TxF σ' (1, s.1.1, s.1.2.1) → K2 σ σ' → Q (.inr (exN 0)) σ') → Rules_takeWords_6 q l2 ((x0 + T.length : Nat) : Int) (bZ pat) ((x0 + p : Nat) : Int) ((x0 + p : Nat) : Int) σ Q := by
  have l0 := hT.2.1
  have pR : Rg (bZ pat) := by cases pat <;> decide
  intro n
  induction n with
  | zero =>
    intro p hp hn
    omega
  | succ n ih =>
    intro p hp hn h1 h0
    obtain ⟨b1, b2⟩ := wbD_b hp
    have lW := sg_len b1 b2
    have c29 : Rules_takeWords_29 q l2 ((x0 + T.length : Nat) : Int) (bZ pat) ((x0 + p : Nat) : Int) ((x0 + wbD T p : Nat) : Int) σ Q := by
      have ok : wOk pat (sgT T p (wbD T p)) = true → Rules_takeWords_67 q l2 ((x0 + T.length : Nat) : Int) (bZ pat) ((x0 + wbD T p : Nat) : Int) σ Q := fun h9 => by
        refine Rules_takeWords_67.i (Rules_takeWords_73.i ?_)
        by_cases h8 : wbD T p < T.length
        · rw [show ((x0 + wbD T p : Nat) : Int) + 1 = ((x0 + (wbD T p + 1) : Nat) : Int) by omega]
          have e : wsO pat T (wsD T (n + 1) p) = wsO pat T (wsD T n (wbD T p + 1)) := by
            show (wOk pat (sgT T p (wbD T p)) && wsO pat T (if wbD T p < T.length then wsD T n (wbD T p + 1) else [])) = _
            rw [if_pos h8, h9, Bool.true_and]
          rw [e] at h1 h0
          exact ih (wbD T p + 1) (by omega) (by omega) h1 h0
        · have e : wsO pat T (wsD T (n + 1) p) = true := by
            unfold wsD
            rw [if_neg h8]
            show (wOk pat (sgT T p (wbD T p)) && true) = _
            rw [h9]
            rfl
          have := h1 e
          rw [show ((x0 + T.length : Nat) : Int) + 1 = ((x0 + wbD T p : Nat) : Int) + 1 by omega] at this
          exact this
      have nok : wOk pat (sgT T p (wbD T p)) = false → Rules_takeWords_59 q l2 ((x0 + T.length : Nat) : Int) (bZ pat) ((x0 + wbD T p : Nat) : Int) σ Q := fun h9 => by
        refine Rules_takeWords_59.i (Purse_fail.s (s := s) (by decide) w0 w1 (h0 ?_))
        unfold wsD
        show (wOk pat (sgT T p (wbD T p)) && _) = _
        rw [h9, Bool.false_and]
      have hW := hT.sg b1 b2
      rw [show x0 + wbD T p = x0 + p + (sgT T p (wbD T p)).length by omega] at ok nok ⊢
      cases pat with
      | true =>
        refine Rules_takeWords_29.i ⟨pR, fun h9 => absurd h9 (by decide), fun _ => Rules_isPattern.c hW hTb.sg ⟨fun h8 => ok (bZ_ne h8), fun h8 => nok (bZ_z h8)⟩⟩
      | false =>
        refine Rules_takeWords_29.i ⟨pR, fun _ => Rules_isException.c hW hTb.sg ⟨fun h8 => ok (bZ_ne h8), fun h8 => nok (bZ_z h8)⟩, fun h9 => absurd rfl h9⟩
    have walk : ∀ (m j : Nat), j + m = T.length → wbD T j = wbD T p → Rules_takeWords_6 q l2 ((x0 + T.length : Nat) : Int) (bZ pat) ((x0 + p : Nat) : Int) ((x0 + j : Nat) : Int) σ Q := by
      intro m
      induction m with
      | zero =>
        intro j hj hw
        rw [wb_e (by omega)] at hw
        rw [← hw] at c29
        exact Rules_takeWords_6.i ⟨by unfold Rg; omega, by unfold Rg; omega, fun h9 => absurd h9 (by omega), fun _ => ⟨by unfold Rg; omega, by unfold Rg; omega, fun _ => c29, fun h9 => absurd (by omega) h9⟩⟩
      | succ m ihm =>
        intro j hj hw
        have hlt : j < T.length := by omega
        have hx : rgt (mX σ q) ((x0 + j : Nat) : Int) = T.getD j 0 := by
          rw [show ((x0 + j : Nat) : Int) = (x0 : Int) + (j : Int) by omega]
          exact hT.2.2 j hlt
        rw [wb_c hlt] at hw
        refine Rules_takeWords_6.i ⟨by unfold Rg; omega, by unfold Rg; omega, fun h9 => absurd h9 (by omega), fun _ => ⟨by unfold Rg; omega, by unfold Rg; omega, fun h9 => absurd h9 (by omega), fun _ => tB.i hT.1 (tB.i hT.1 ⟨by unfold Rg; omega, ?_⟩)⟩⟩
        rw [hx]
        refine ⟨fun h9 => Rules_takeWords_73.i ?_, fun h9 => ?_⟩
        · rw [if_neg h9] at hw
          rw [show ((x0 + j : Nat) : Int) + 1 = ((x0 + (j + 1) : Nat) : Int) by omega]
          exact ihm (j + 1) (by omega) hw
        · rw [if_pos h9] at hw
          rw [← hw] at c29
          exact c29
    exact walk (T.length - p) p (by omega) rfl
/-- the words are taken -/
theorem tw_go (hTb : smB T) (hq9 : q ≠ zPt pat + 1 ∧ q ≠ zPt pat + 3 ∧ neB q (zPt pat + 1) = true) : ∀ (n p : Nat) (s : TS) (P : List (List Int)) (σ : MS), p ≤ T.length → T.length + 1 ≤ p + n → wsO pat T (wsD T n p) = true → LnC σ q x0 T → shR σ (zPt pat) P → smW (lPt pat) P → P.length ≤ mPt pat → mV σ 22 0 = s.1.1 → mV σ 22 1 = s.1.2.1 → (0 ≤ s.1.1 ∧ s.1.1 ≤ 60000) → (0 ≤ s.1.2.1 ∧ s.1.2.1 ≤ 400000) → FrW (zPt pat) σ0 σ → (∀ s' P' σ', tkD (mPt pat) (wsL T (wsD T n p)) s P = .inl (s', P') → shR σ' (zPt pat) P' → mV σ' 22 0 = s'.1.1 → mV σ' 22 1 = s'.1.2.1 → FrW (zPt pat) σ0 σ' → Q (.inl none) σ') → (∀ e P' σ', tkD (mPt pat) (wsL T (wsD T n p)) s P = .inr (e, P') → shR σ' (zPt pat) P' → TxF σ' e → FrW (zPt pat) σ0 σ' → Q (.inr (exN 0)) σ') → Rules_takeWords_117 q ((x0 + T.length : Nat) : Int) ((x0 + p : Nat) : Int) (zPt pat) ((mPt pat : Nat) : Int) ((x0 + p : Nat) : Int) σ Q := by
  obtain ⟨k1, k2, k3, k4, k5, k6⟩ := zpt_ok pat
  have m120 : mPt pat ≤ 120 := by unfold mPt; split <;> decide
  intro n
  induction n with
  | zero =>
    intro p s P σ hp hn
    omega
  | succ n ih =>
    intro p s P σ hp hn hok hT hP hPb hPl w0 w1 g0 g1 hf h1 h2
    have l0 := hT.2.1
    obtain ⟨b1, b2⟩ := wbD_b hp
    have lW := sg_len b1 b2
    have hok1 : wOk pat (sgT T p (wbD T p)) = true := by
      unfold wsD at hok
      have hok : (wOk pat (sgT T p (wbD T p)) && _) = true := hok
      rw [Bool.and_eq_true] at hok
      exact hok.1
    have wl := wOk_len hok1
    have hPs := suM_b (n := lPt pat) (W := P) (fun x hx => (hPb x hx).1)
    have rows : (mX σ (zPt pat + 3)).length = P.length := by rw [hP.2, enS_len]
    have eL : wsL T (wsD T (n + 1) p) = sgT T p (wbD T p) :: wsL T (if wbD T p < T.length then wsD T n (wbD T p + 1) else []) := rfl
    rw [eL] at h1 h2
    have c140 : Rules_takeWords_140 q ((x0 + T.length : Nat) : Int) ((x0 + p : Nat) : Int) (zPt pat) ((mPt pat : Nat) : Int) ((x0 + wbD T p : Nat) : Int) σ Q := by
      refine Rules_takeWords_140.i (tB.i k1 (rows_s k1 k3 rows ⟨fun h9 => Rules_takeWords_159.i ?_, fun h9 => ?_⟩))
      · have hlt : ¬ mPt pat ≤ P.length := by omega
        refine Purse_spend.w (s := s) (by decide) w0 w1 g0 g1 (fun s1 e1 => ?_) (fun he => ?_)
        · obtain ⟨e1a, e1b, e1c⟩ := sp_i e1
          generalize hσ1 : wV (wV σ 22 0 (s.1.1 + 10)) 22 1 (s.1.2.1 + 10) = σ1
          have x1 : mX σ1 = mX σ := by rw [← hσ1]; rfl
          have f1 : FrW (zPt pat) σ σ1 := by rw [← hσ1]; exact ⟨fun _ _ _ => rfl, rfl, fun y k a => by rw [wV_ne (Or.inl a), wV_ne (Or.inl a)]⟩
          have pm : pourM (rgt (mX σ1 q)) (sgT T p (wbD T p)).length ((x0 + p : Nat) : Int) = sgT T p (wbD T p) := by
            rw [x1]
            have hW := hT.sg b1 b2
            generalize sgT T p (wbD T p) = W at hW ⊢
            have key : ∀ (r b : List Int), W = b ++ r → pourM (rgt (mX σ q)) r.length ((x0 + p + b.length : Nat) : Int) = r := by
              intro r
              induction r with
              | nil => intro b _; rfl
              | cons c r ihr =>
                intro b hb
                have hx := hW.2.2 b.length (by rw [hb, List.length_append, List.length_cons]; omega)
                show rgt (mX σ q) ((x0 + p + b.length : Nat) : Int) :: pourM (rgt (mX σ q)) r.length (((x0 + p + b.length : Nat) : Int) + 1) = c :: r
                rw [show ((x0 + p + b.length : Nat) : Int) = ((x0 + p : Nat) : Int) + (b.length : Int) by omega, hx]
                have e9 : W.getD b.length 0 = c := by
                  rw [hb, List.getD_eq_getElem?_getD, List.getElem?_append_right (Nat.le_refl _), Nat.sub_self]
                  rfl
                have := ihr (b ++ [c]) (by rw [hb, List.append_assoc]; rfl)
                rw [List.length_append, List.length_singleton] at this
                rw [e9, show ((x0 + p : Nat) : Int) + (b.length : Int) + 1 = ((x0 + p + (b.length + 1) : Nat) : Int) by omega, this]
            have := key W [] rfl
            exact this
          have y1 : mX σ1 (zPt pat + 1) = P.flatten := by rw [x1]; exact hP.1
          have y3 : mX σ1 (zPt pat + 3) = enS 0 P := by rw [x1]; exact hP.2
          refine tB.i k1 (tB.i k2 (tB.i k2 (tB.i hT.1 (tB.i hq9.2.2 ⟨by unfold Rg; omega, by unfold Rg; omega, ?_⟩))))
          rw [show (((x0 + wbD T p : Nat) : Int) - ((x0 + p : Nat) : Int)).toNat = (sgT T p (wbD T p)).length by omega, pm, y1]
          have pl9 : P.length * lPt pat + lPt pat ≤ mPt pat * lPt pat := by
            have : (P.length + 1) * lPt pat ≤ mPt pat * lPt pat := Nat.mul_le_mul_right _ (by omega)
            rw [Nat.add_mul, Nat.one_mul] at this
            exact this
          have hPs' : suM P ≤ P.length * lPt pat := by rw [Nat.mul_comm]; exact hPs
          refine ⟨by rw [flat_len]; omega, tB.i k1 ?_⟩
          generalize hσ2 : wX σ1 (zPt pat + 1) (P.flatten ++ sgT T p (wbD T p)) = σ2
          have z1 : mX σ2 (zPt pat + 1) = (P ++ [sgT T p (wbD T p)]).flatten := by rw [← hσ2, wX_self, flat_sn]
          have z3 : mX σ2 (zPt pat + 3) = enS 0 P := by rw [← hσ2, wX_ne (by omega)]; exact y3
          refine Shelf_close.i (tB.i k1 (tB.i k1 (tB.i k2 (tB.i k3 (tB.i k3 ⟨by rw [z3, enS_len]; omega, ?_⟩)))))
          rw [shR.close z1 z3]
          generalize hσ3 : wX σ2 (zPt pat + 3) (enS 0 (P ++ [sgT T p (wbD T p)])) = σ3
          have sh3 : shR σ3 (zPt pat) (P ++ [sgT T p (wbD T p)]) := ⟨by rw [← hσ3, wX_ne (by omega)]; exact z1, by rw [← hσ3]; exact wX_self⟩
          have f3 : FrW (zPt pat) σ σ3 := by
            refine f1.tr ⟨fun y a b => ?_, ?_, fun y k a => ?_⟩
            · rw [← hσ3, wX_ne b, ← hσ2, wX_ne a]
            · rw [← hσ3, ← hσ2]
              rfl
            · rw [← hσ3, ← hσ2]
              rfl
          have v30 : mV σ3 22 0 = s1.1.1 ∧ mV σ3 22 1 = s1.1.2.1 := by
            rw [← hσ3, ← hσ2, ← hσ1, e1a]
            exact ⟨rfl, rfl⟩
          have hT3 : LnC σ3 q x0 T := ⟨hT.1, hT.2.1, fun t ht => by rw [f3.1 q hq9.1 hq9.2.1]; exact hT.2.2 t ht⟩
          have hPb3 : smW (lPt pat) (P ++ [sgT T p (wbD T p)]) := hPb.app ⟨wl, hTb.sg⟩
          have lP3 : (P ++ [sgT T p (wbD T p)]).length ≤ mPt pat := by rw [List.length_append, List.length_singleton]; omega
          have ek : ∀ ws, tkD (mPt pat) (sgT T p (wbD T p) :: ws) s P = tkD (mPt pat) ws s1 (P ++ [sgT T p (wbD T p)]) := fun ws => by
            unfold tkD
            rw [if_neg hlt, e1]
            cases ws <;> rfl
          rw [ek] at h1 h2
          have g30 : (0 ≤ s1.1.1 ∧ s1.1.1 ≤ 60000) ∧ (0 ≤ s1.1.2.1 ∧ s1.1.2.1 ≤ 400000) := by
            rw [e1a]
            show (0 ≤ s.1.1 + 10 ∧ s.1.1 + 10 ≤ 60000) ∧ (0 ≤ s.1.2.1 + 10 ∧ s.1.2.1 + 10 ≤ 400000)
            omega
          refine Rules_takeWords_192.i ?_
          by_cases h8 : wbD T p < T.length
          · rw [if_pos h8] at h1 h2
            have hok2 : wsO pat T (wsD T n (wbD T p + 1)) = true := by
              unfold wsD at hok
              rw [if_pos h8] at hok
              have hok : (wOk pat (sgT T p (wbD T p)) && wsO pat T (wsD T n (wbD T p + 1))) = true := hok
              rw [Bool.and_eq_true] at hok
              exact hok.2
            rw [show ((x0 + wbD T p : Nat) : Int) + 1 = ((x0 + (wbD T p + 1) : Nat) : Int) by omega]
            exact ih (wbD T p + 1) s1 _ σ3 (by omega) (by omega) hok2 hT3 sh3 hPb3 lP3 v30.1 v30.2 g30.1 g30.2 (hf.tr f3) h1 h2
          · rw [if_neg h8] at h1
            exact Rules_takeWords_117.i ⟨by unfold Rg; omega, by unfold Rg; omega, fun _ => h1 s1 _ σ3 rfl sh3 v30.1 v30.2 (hf.tr f3), fun h7 => absurd h7 (by omega)⟩
        · have es : tkD (mPt pat) (sgT T p (wbD T p) :: wsL T (if wbD T p < T.length then wsD T n (wbD T p + 1) else [])) s P = .inr ((8, s.1.1, s.1.2.1), P) := by
            unfold tkD
            rw [if_neg hlt, he]
          exact h2 _ P _ es hP (TxF.w w0 w1) (hf.tr FrW.v)
      · have hge : mPt pat ≤ P.length := by omega
        refine Purse_fail.i ⟨by decide, ?_⟩
        have es : tkD (mPt pat) (sgT T p (wbD T p) :: wsL T (if wbD T p < T.length then wsD T n (wbD T p + 1) else [])) s P = .inr ((9, s.1.1, s.1.2.1), P) := by
          unfold tkD
          rw [if_pos hge]
        exact h2 _ P _ es hP (TxF.w w0 w1) (hf.tr FrW.v)
    have walk : ∀ (m j : Nat), j + m = T.length → wbD T j = wbD T p → Rules_takeWords_117 q ((x0 + T.length : Nat) : Int) ((x0 + p : Nat) : Int) (zPt pat) ((mPt pat : Nat) : Int) ((x0 + j : Nat) : Int) σ Q := by
      intro m
      induction m with
      | zero =>
        intro j hj hw
        rw [wb_e (by omega)] at hw
        rw [← hw] at c140
        exact Rules_takeWords_117.i ⟨by unfold Rg; omega, by unfold Rg; omega, fun h9 => absurd h9 (by omega), fun _ => ⟨by unfold Rg; omega, by unfold Rg; omega, fun _ => c140, fun h9 => absurd (by omega) h9⟩⟩
      | succ m ihm =>
        intro j hj hw
        have hlt : j < T.length := by omega
        have hx : rgt (mX σ q) ((x0 + j : Nat) : Int) = T.getD j 0 := by
          rw [show ((x0 + j : Nat) : Int) = (x0 : Int) + (j : Int) by omega]
          exact hT.2.2 j hlt
        rw [wb_c hlt] at hw
        refine Rules_takeWords_117.i ⟨by unfold Rg; omega, by unfold Rg; omega, fun h9 => absurd h9 (by omega), fun _ => ⟨by unfold Rg; omega, by unfold Rg; omega, fun h9 => absurd h9 (by omega), fun _ => tB.i hT.1 (tB.i hT.1 ⟨by unfold Rg; omega, ?_⟩)⟩⟩
        rw [hx]
        refine ⟨fun h9 => Rules_takeWords_192.i ?_, fun h9 => ?_⟩
        · rw [if_neg h9] at hw
          rw [show ((x0 + j : Nat) : Int) + 1 = ((x0 + (j + 1) : Nat) : Int) by omega]
          exact ihm (j + 1) (by omega) hw
        · rw [if_pos h9] at hw
          rw [← hw] at c140
          exact c140
    exact walk (T.length - p) p (by omega) rfl
/-- a list of words, as the directive says it -/
theorem Rules_takeWords.c {p : Nat} {P : List (List Int)} (hT : LnC σ q x0 T) (hTb : smB T) (hp : p ≤ T.length) (hq9 : q ≠ zPt pat + 1 ∧ q ≠ zPt pat + 3 ∧ neB q (zPt pat + 1) = true) (hP : shR σ (zPt pat) P) (hPb : smW (lPt pat) P) (hPl : P.length ≤ mPt pat) (w0 : mV σ 22 0 = s.1.1) (w1 : mV σ 22 1 = s.1.2.1) (g0 : 0 ≤ s.1.1 ∧ s.1.1 ≤ 60000) (g1 : 0 ≤ s.1.2.1 ∧ s.1.2.1 ≤ 400000) (h0 : wsO pat T (wsD T (T.length + 1) p) = false → ∀ σ', TxF σ' (1, s.1.1, s.1.2.1) → K2 σ σ' → Q (.inr (exN 0)) σ') (h1 : wsO pat T (wsD T (T.length + 1) p) = true → ∀ s' P' σ', tkD (mPt pat) (wsL T (wsD T (T.length + 1) p)) s P = .inl (s', P') → shR σ' (zPt pat) P' → mV σ' 22 0 = s'.1.1 → mV σ' 22 1 = s'.1.2.1 → FrW (zPt pat) σ σ' → Q (.inl none) σ') (h2 : wsO pat T (wsD T (T.length + 1) p) = true → ∀ e P' σ', tkD (mPt pat) (wsL T (wsD T (T.length + 1) p)) s P = .inr (e, P') → shR σ' (zPt pat) P' → TxF σ' e → FrW (zPt pat) σ σ' → Q (.inr (exN 0)) σ') : Rules_takeWords q ((x0 + p : Nat) : Int) ((x0 + T.length : Nat) : Int) (bZ pat) σ Q := by
  have l0 := hT.2.1
  have pR : Rg (bZ pat) := by cases pat <;> decide
  refine Rules_takeWords.i (tw_6 (s := s) hT hTb w0 w1 (T.length + 1) p hp (by omega) (fun hok => ?_) h0)
  have go := tw_go (Q := Q) (σ0 := σ) hTb hq9 (T.length + 1) p s P σ hp (by omega) hok hT hP hPb hPl w0 w1 g0 g1 FrW.rf (h1 hok) (h2 hok)
  refine Rules_takeWords_6.i ⟨by unfold Rg; omega, by unfold Rg; omega, fun _ => ⟨pR, fun h9 => ?_, fun h9 => ?_⟩, fun h9 => absurd h9 (by omega)⟩
  · have e := bZ_z h9
    subst e
    exact Rules_takeWords_95.i ⟨pR, fun _ => Rules_takeWords_109.i go, fun h8 => absurd rfl h8⟩
  · have e := bZ_ne h9
    subst e
    exact Rules_takeWords_95.i ⟨pR, fun h8 => absurd h8 (by decide), fun _ => Rules_takeWords_109.i go⟩
end
