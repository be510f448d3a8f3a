/-! THE REFERENCE WORKS TEXTS: calls, escapes, whole texts, at every depth -/
section
variable {σ σ0 σ1 σ2 σ3 : MS} {Q : MQ9} {g kt kt' u c D Dm Dd nw n0 l0 k0 x0 j i : Nat} {a : Bool} {E : TE} {O T : List Int} {X : RY9} {s s1 s2 : TS} {f w : List (List Int)} {call : Int} {A L P K : List Int} {x y p k m v : Int} {sp : List (Nat × Nat)}
theorem smB.gd (h : smB T) {t : Nat} (ht : t < T.length) : 0 ≤ T.getD t 0 ∧ T.getD t 0 ≤ 127 := h _ (by
  rw [List.getD_eq_getElem?_getD, List.getElem?_eq_getElem ht]
  exact List.getElem_mem ht)
theorem cr_3 {l1 : Int} (hT : SgR σ x0 T) (hTb : smB T) : ∀ (r : List Int) (q : Nat), T.drop q = r → q ≤ T.length → R_calls_27 (Dd + 1) l1 ((x0 + T.length : Nat) : Int) call ((x0 + (q + (r.takeWhile sLe).length) : Nat) : Int) σ Q → R_calls_3 (Dd + 1) l1 ((x0 + T.length : Nat) : Int) call ((x0 + q : Nat) : Int) σ Q
  | [], q, he, hqT, hq => by
    have l0 := hT.1
    have : T.length ≤ q := by
      have := congrArg List.length he
      rw [List.length_drop, List.length_nil] at this
      omega
    exact R_calls_3.i ⟨by unfold Rg; omega, by unfold Rg; omega, fun _ => hq, fun h9 => absurd h9 (by omega)⟩
  | t :: r, q, he, hqT, hq => by
    have l0 := hT.1
    have hlt : q < T.length := by
      have := congrArg List.length he
      rw [List.length_drop, List.length_cons] at this
      omega
    have et : T.getD q 0 = t ∧ T.drop (q + 1) = r := by
      rw [drop_c hlt] at he
      injection he with h1 h2
      exact ⟨h1, h2⟩
    have hb := hTb.gd hlt
    refine R_calls_3.i ⟨by unfold Rg; omega, by unfold Rg; omega, fun h9 => absurd h9 (by omega), fun _ => R_signAt.r hT hlt rfl (R_isLetter.s (by unfold Rg; omega) ⟨fun h9 => ?_, fun h9 => ?_⟩)⟩
    · have h8 := bZ_z h9
      rw [et.1] at h8
      rw [List.takeWhile_cons_of_neg (by rw [h8]; decide)] at hq
      exact hq
    · have h8 := bZ_ne h9
      rw [et.1] at h8
      rw [List.takeWhile_cons_of_pos h8, List.length_cons] at hq
      show R_calls_3 (Dd + 1) l1 ((x0 + T.length : Nat) : Int) call (((x0 + q : Nat) : Int) + 1) σ Q
      rw [show ((x0 + q : Nat) : Int) + 1 = ((x0 + (q + 1) : Nat) : Int) by omega]
      exact cr_3 hT hTb r (q + 1) et.2 (by omega) (by rw [show q + 1 + (r.takeWhile sLe).length = q + ((r.takeWhile sLe).length + 1) by omega]; exact hq)
theorem neD_b {q : Nat} (hq : q ≤ T.length) : q ≤ neD T q ∧ neD T q ≤ T.length := by
  unfold neD
  have := (List.takeWhile_prefix sLe (l := T.drop q)).length_le
  rw [List.length_drop] at this
  omega
theorem nm_hol {q : Nat} (hT : SgR σ x0 T) (hq : q ≤ T.length) : holA σ 252 (x0 + q) (sgT T q (neD T q)) := by
  obtain ⟨b1, b2⟩ := neD_b (T := T) hq
  intro t ht
  rw [sg_len b1 b2] at ht
  rw [sg_at b2 ht]
  have h1 := hT.2 (q + t) (by omega)
  have hl : sLe (T.getD (q + t) 0) = true := by
    have e : (sgT T q (neD T q)) = (T.drop q).takeWhile sLe := by
      unfold sgT neD
      rw [Nat.add_sub_cancel_left]
      exact (List.prefix_iff_eq_take.mp (List.takeWhile_prefix sLe)).symm
    have hm : (sgT T q (neD T q)).getD t 0 ∈ (T.drop q).takeWhile sLe := by
      rw [e] 
      have hl9 : t < ((T.drop q).takeWhile sLe).length := by
        rw [← e, sg_len b1 b2]
        exact ht
      rw [List.getD_eq_getElem?_getD, List.getElem?_eq_getElem hl9]
      exact List.getElem_mem hl9
    rw [sg_at b2 ht] at hm
    exact List.all_eq_true.mp (List.all_takeWhile (l := T.drop q) (p := sLe)) _ hm
  rw [Nat.add_assoc]
  by_cases h9 : mV σ 252 (x0 + (q + t)) = 10
  · rw [if_pos h9] at h1
    rw [← h1] at hl
    exact absurd hl (by decide)
  · rw [if_neg h9] at h1
    exact h1
theorem ki_eq {q : Nat} (hRE : RxE σ E nw) : ixW (wdT 1) 0 (sgT T q (neD T q)) = kiD E T q := by
  unfold kiD
  by_cases h : maD E T q = -1
  · rw [if_pos h]
  · rw [if_neg h]
    exact hRE.2.1.2.1 _ (ixW_mem E.1.1 0 _ h)
theorem caW_e {q : Nat} (h1 : ¬ (maD E T q = -1 ∧ kiD E T q = -1)) (h2 : ¬ (maD E T q = -1 ∧ noM E a (kiD E T q) = true)) (e : tSp 20 s = .inl s1) : caW (isD D E) E a f T q s = faC (isD D E) E a f T (maD E T q) (kiD E T q) [] (arD E T q) (neD T q) s1 := by
  unfold caW faC
  rw [e]
  show (if maD E T q = -1 ∧ kiD E T q = -1 then _ else _) = _
  rw [if_neg h1, if_neg h2]
  cases faD T (arD E T q) (neD T q) with
  | inr kd => rfl
  | inl w =>
    show (match eaD (isD D E) f T (if maD E T q = -1 ∧ kiD E T q = 15 then w.1.take 2 else w.1) s1 with
      | .inr e => (.inr e : TR)
      | .inl w' => caG (isD D E) E a f T (maD E T q) (kiD E T q) w.1 w'.1 w'.2) = _
    show _ = eaC (isD D E) E a f T (maD E T q) (kiD E T q) ([] ++ w.1) [] (if maD E T q = -1 ∧ kiD E T q = 15 then ([] ++ w.1).take 2 else [] ++ w.1) s1
    rw [List.nil_append]
    unfold eaC
    cases eaD (isD D E) f T (if maD E T q = -1 ∧ kiD E T q = 15 then w.1.take 2 else w.1) s1 with
    | inr e => rfl
    | inl w' => rfl
theorem R_calls.r {q : Nat} (hE : EI E) (hW : ∀ D', D = D' + 1 → WkR E D' Dm) (hDd : Dm + 2 ≤ Dd) (hqT : q ≤ T.length) (hT : SgR σ x0 T) (hTb : smB T) (hRE : RxE σ E X.1) (hF : FmR σ kt j call f) (hf : okM9 f) (hS : RxS X g kt j D a E O σ s) (hi : TI p 0 s) (hp : ((g + kt : Nat) : Int) ≤ p) (hcD : j + D ≤ 30) (hg : a = false → 0 < E.2.2.2 → g = 0) (hx : x = ((x0 + q : Nat) : Int)) (hq : UOkI Q X g kt j D a E O σ (caW (isD D E) E a f T q s) ((x0 + nxC E T q : Nat) : Int)) : R_calls (Dd + 1) x ((x0 + T.length : Nat) : Int) call σ Q := by
  subst hx
  have hB := hi.bd hp
  have l0 := hT.1
  obtain ⟨b1, b2⟩ := neD_b (T := T) hqT
  refine R_calls.i (cr_3 hT hTb _ q rfl hqT ?_)
  show R_calls_27 (Dd + 1) ((x0 + q : Nat) : Int) ((x0 + T.length : Nat) : Int) call ((x0 + neD T q : Nat) : Int) σ Q
  have RL : Rg ((x0 + T.length : Nat) : Int) := by unfold Rg; omega
  refine R_calls_27.i (R_spend.r (g := g) (kt := kt) (by decide) hS.1 hB (fun s1 e => ⟨fun _ => ?_, fun h9 => absurd h9 (by decide)⟩) (fun e => ⟨fun h9 => absurd rfl h9, fun _ => ⟨RL, ?_⟩⟩))
  · generalize hσ1 : wV (wV σ 246 32 (s.1.1 + 20)) 246 33 (s.1.2.1 + 20) = σ1
    have f1 : FrZ [] [32, 33] σ σ1 := by rw [← hσ1]; exact (FrZ.wf (by decide)).tr (FrZ.wf (by decide))
    have u1 : FrU g kt j X.1 σ σ1 := f1.u0 (by decide)
    have hS1 : RxS X g kt j D a E O σ1 s1 := by
      obtain ⟨e1, e2, e3⟩ := sp_i e
      subst e1
      obtain ⟨h1, h2, h3, h4⟩ := hS
      refine ⟨⟨(f1.f (by decide) (by decide)).trans h1.1, ?_, ?_, (f1.f (by decide) (by decide)).trans h1.2.2.2⟩, h2.z f1 (by decide) (by decide), h3.v ?_, (f1.f (by decide) (by decide)).trans h4.1, (f1.f (by decide) (by decide)).trans h4.2.1, (f1.f (by decide) (by decide)).trans h4.2.2.1, (f1.f (by decide) (by decide)).trans h4.2.2.2.1, ?_⟩
      · rw [← hσ1, wV_ne (Or.inr (by decide)), wV_self]
        rfl
      · rw [← hσ1, wV_self]
        rfl
      · rw [← hσ1]
        exact (FrA.w (Or.inl ⟨rfl, by decide⟩)).tr (FrA.w (Or.inl ⟨rfl, by decide⟩))
      · have h5 := h4.2.2.2.2
        have h6 := h1.2.2.1
        unfold UnB at h5 ⊢
        rw [← hσ1, wV_ne (Or.inr (by decide)), wV_ne (Or.inr (by decide)), wV_self]
        omega
    have hi1 : TI p 1 s1 := (hi.sp (by decide) e).mo (by omega) (by decide)
    have hT1 := hT.u u1
    have hRE1 := hRE.u hE u1
    have hF1 := hF.u u1
    have hq1 := hq.fr u1
    have hU := nm_hol hT1 hqT
    have lU := sg_len b1 b2
    show R_wordOf (360 + 1) _ _ σ1 _
    have en : x0 + neD T q = x0 + q + (sgT T q (neD T q)).length := by omega
    refine R_wordOf.s (j := 1) (by decide) (by decide) (by omega) en hU ?_
    rw [ki_eq hRE]
    have kb := kiD_b (E := E) (T := T) (p := q)
    have mb := ixW_b E.1.1 0 (sgT T q (neD T q))
    have hma : ixW E.1.1 0 (sgT T q (neD T q)) = maD E T q := rfl
    rw [hma] at mb
    have kne : ¬ maD E T q = -1 → kiD E T q = -1 := fun h => by unfold kiD; rw [if_neg h]
    have may : mV σ1 246 95 = (if a = true then 0 else E.2.2.2) := hS1.2.2.2.2.2.2.1
    have c130 : ¬ (maD E T q = -1 ∧ kiD E T q = -1) → ¬ (maD E T q = -1 ∧ noM E a (kiD E T q) = true) → R_calls_130 (Dd + 1) ((x0 + T.length : Nat) : Int) call ((x0 + neD T q : Nat) : Int) (kiD E T q) (maD E T q) σ1 Q := by
      intro n3 n6
      rw [caW_e n3 n6 e] at hq1
      have hmk : (maD E T q = -1 ∧ 0 ≤ kiD E T q ∧ kiD E T q < 21) ∨ (kiD E T q = -1 ∧ 0 ≤ maD E T q ∧ maD E T q < E.1.1.length) := by omega
      have hno : maD E T q = -1 → noM E a (kiD E T q) = false := fun h => by
        cases h9 : noM E a (kiD E T q) with
        | false => rfl
        | true => exact absurd ⟨h, h9⟩ n6
      have ar9 : arD E T q ≤ 9 := by
        unfold arD
        split
        · rename_i h9
          have := (an_ok (kiD E T q).toNat (by omega)).2
          omega
        · rename_i h9
          have hl9 : (maD E T q).toNat < E.1.2.1.length := by rw [hE.1.1]; omega
          have := hE.1.2.2.2.2.1 (E.1.2.1.getD (maD E T q).toNat 0) (by rw [List.getD_eq_getElem?_getD, List.getElem?_eq_getElem hl9]; exact List.getElem_mem hl9)
          omega
      have c150 : R_calls_150 (Dd + 1) ((x0 + T.length : Nat) : Int) call ((x0 + neD T q : Nat) : Int) (kiD E T q) (maD E T q) ((arD E T q : Nat) : Int) σ1 Q := by
        have h22 : mV σ1 246 22 = (j : Int) := hS1.2.2.2.2.1
        refine R_calls_150.i ?_
        rw [h22, show (j : Int) + 1 = ((j + 1 : Nat) : Int) by omega]
        have f2 : FrZ [] [22] σ1 (wV σ1 246 22 ((j + 1 : Nat) : Int)) := FrZ.wf (by decide)
        have u2 : FrU g kt j X.1 σ1 (wV σ1 246 22 ((j + 1 : Nat) : Int)) := f2.u0 (by decide)
        refine ⟨by unfold Rg; omega, ca_175 (i := neD T q) (p := p) hE hW hDd hmk hno ar9 rfl hTb hf hcD hg hi1 hp (fun w hw => ?_) hq1 (arD E T q) (neD T q) [] _ (by rw [List.length_nil]; omega) b2 (fun z hz => absurd hz List.not_mem_nil) rfl (fun w hw => by rw [List.nil_append]; exact hw) (fun i hi9 => absurd hi9 (Nat.not_lt_zero _)) (hT1.u u2) (hRE1.u hE u2) (hF1.u u2) hS1.cc u2⟩
        unfold nxC
        rw [hw]
      refine R_calls_130.i ⟨fun h9 => R_argumentsOf.r (by omega) ?_, fun h9 => ⟨by omega, by have := hE.1.2.2.1; omega, ?_⟩⟩
      · have h8 : maD E T q = -1 := by omega
        have := (an_ok (kiD E T q).toNat (by omega)).2
        have e9 : ((arD E T q : Nat) : Int) = anD.getD (kiD E T q).toNat 0 := by
          unfold arD
          rw [if_pos h8]
          omega
        rw [← e9]
        exact c150
      · have h8 : ¬ maD E T q = -1 := by omega
        have hl9 : (maD E T q).toNat < E.1.2.1.length := by rw [hE.1.1]; omega
        have := hE.1.2.2.2.2.1 (E.1.2.1.getD (maD E T q).toNat 0) (by rw [List.getD_eq_getElem?_getD, List.getElem?_eq_getElem hl9]; exact List.getElem_mem hl9)
        have e9 : ((arD E T q : Nat) : Int) = E.1.2.1.getD (maD E T q).toNat 0 := by
          unfold arD
          rw [if_neg h8]
          omega
        rw [(hRE1.2.1.2.2 (maD E T q).toNat (by omega)).1, ← e9]
        exact c150
    have c85 : ¬ (maD E T q = -1 ∧ kiD E T q = -1) → R_calls_85 (Dd + 1) ((x0 + T.length : Nat) : Int) call ((x0 + neD T q : Nat) : Int) (kiD E T q) (maD E T q) σ1 Q := by
      intro n3
      have no : noM E a (kiD E T q) = true → R_calls_122 (Dd + 1) ((x0 + T.length : Nat) : Int) σ1 Q := fun h9 => by
        have hk16 : ¬ kiD E T q = -1 := fun h8 => by
          unfold noM at h9
          rw [h8] at h9
          simp at h9
        have h8 : maD E T q = -1 := by
          by_cases h7 : maD E T q = -1
          · exact h7
          · exact absurd (kne h7) hk16
        have e6 : caW (isD D E) E a f T q s = tFl 6 s1 := by
          unfold caW
          rw [e]
          show (if maD E T q = -1 ∧ kiD E T q = -1 then _ else _) = _
          rw [if_neg n3, if_pos ⟨h8, h9⟩]
        rw [e6] at hq1
        exact R_calls_122.i (R_fail.r (by decide) hS1.1 ⟨RL, hS1.fi (by decide) (hi1.bd hp) RL hq1⟩)
      have noI : noM E a (kiD E T q) = true ↔ (kiD E T q = 16 ∨ kiD E T q = 17 ∨ kiD E T q = 18) ∧ (if a = true then 0 else E.2.2.2) < (if kiD E T q = 16 then (2 : Int) else 1) := by
        unfold noM
        rw [Bool.and_eq_true, Bool.or_eq_true, decide_eq_true_iff, decide_eq_true_iff]
        cases a with
        | true =>
          simp only [if_true, true_or, and_true]
          constructor
          · intro h
            refine ⟨h, ?_⟩
            split <;> decide
          · exact fun h => h.1
        | false => simp only [Bool.false_eq_true, if_false, false_or]
      refine R_calls_85.i ⟨fun h9 => R_calls_100.i ⟨fun h8 => R_calls_114.i ⟨fun h7 => c130 n3 (fun h6 => ?_), fun h7 => no (noI.mpr ?_)⟩, fun h8 => ⟨fun h7 => c130 n3 (fun h6 => ?_), fun h7 => R_calls_114.i ⟨fun h5 => c130 n3 (fun h6 => ?_), fun h5 => no (noI.mpr ?_)⟩⟩⟩, fun h9 => ⟨fun h8 => no (noI.mpr ?_), fun h8 => R_calls_100.i ⟨fun h7 => absurd h7 (by omega), fun _ => ⟨fun _ => c130 n3 (fun h6 => ?_), fun h7 => absurd h7 (by omega)⟩⟩⟩⟩
      · have := (noI.mp h6.2).2
        rw [if_neg h9, ← may] at this
        omega
      · refine ⟨by omega, ?_⟩
        rw [if_neg h9, ← may]
        exact h7
      · have := (noI.mp h6.2).1
        omega
      · have := (noI.mp h6.2).2
        rw [if_neg h9, ← may] at this
        omega
      · refine ⟨by omega, ?_⟩
        rw [if_neg h9, ← may]
        exact h5
      · refine ⟨by omega, ?_⟩
        rw [if_pos h9, ← may]
        exact h8
      · have := (noI.mp h6.2).2
        rw [if_pos h9, ← may] at this
        omega
    refine ⟨fun h9 => R_calls_66.i ⟨fun _ => ?_, fun h8 => absurd h8 (by omega)⟩, fun h9 => ?_⟩
    · have h8 : maD E T q = -1 := by
        by_cases h7 : maD E T q = -1
        · exact h7
        · have := kne h7
          omega
      have := c85 (fun h => by omega)
      rw [h8] at this
      exact this
    · refine R_macroOf.s hRE1.2.1.1 (by omega) en hU (R_calls_66.i ⟨fun h8 => absurd h8 (by omega), fun _ => ⟨fun h8 => ?_, fun h8 => ?_⟩⟩)
      · exact c85 (fun h => by rw [hma] at h8; omega)
      · rw [hma] at h8
        have e3 : caW (isD D E) E a f T q s = tFl 3 s1 := by
          unfold caW
          rw [e]
          show (if maD E T q = -1 ∧ kiD E T q = -1 then _ else _) = _
          rw [if_pos (by omega)]
        rw [e3] at hq1
        exact R_fail.r (by decide) hS1.1 ⟨RL, hS1.fi (by decide) (hi1.bd hp) RL hq1⟩
  · have e8 : caW (isD D E) E a f T q s = tFl 8 s := by
      unfold caW
      rw [e]
      rfl
    rw [e8] at hq
    exact hS.fi (by decide) hB RL hq
theorem wk_f3 {l2 l4 : Int} (h2 : Rg l2) (h4 : Rg l4) (h : ¬ mV σ 246 28 = 0) (hq : Q (.inl none) σ) : R_works_3 (Dd + 1) l2 call l4 σ Q := R_works_3.i ⟨h4, h2, fun _ => hq, fun _ => ⟨fun _ => hq, fun h9 => absurd h9 h⟩⟩
theorem RxS.st (h : RxS X g kt c D a E O σ s) : RxS X g kt c D a E O (wV σ 246 18 y) (sSt s y) := by
  obtain ⟨h1, h2, h3, h4⟩ := h
  have q : FrZ [] [18] σ (wV σ 246 18 y) := FrZ.wf (by decide)
  exact ⟨⟨(q.f (by decide) (by decide)).trans h1.1, (q.f (by decide) (by decide)).trans h1.2.1, (q.f (by decide) (by decide)).trans h1.2.2.1, wV_self⟩, h2.z q (by decide) (by decide), h3.v (FrA.w (Or.inl ⟨rfl, by decide⟩)), h4.z q (by decide) (by decide)⟩
theorem wr_3 (hE : EI E) (hW : ∀ D', D = D' + 1 → WkR E D' Dm) (hDd : Dm + 4 ≤ Dd) (hTb : smB T) (hf : okM9 f) (hcD : c + D ≤ 30) (hg : a = false → 0 < E.2.2.2 → g = 0) (hp : ((g + kt : Nat) : Int) ≤ p) : ∀ (n q : Nat) (s : TS) (σ : MS), T.length ≤ q + n → q ≤ T.length → SgR σ x0 T → RxE σ E X.1 → FmR σ kt c call f → RxS X g kt c D a E O σ s → TI p 0 s → UOk Q X g kt c D a E O σ (wkP (isD D E) E a f T n q s) → R_works_3 (Dd + 1) ((x0 + T.length : Nat) : Int) call ((x0 + q : Nat) : Int) σ Q := by
  intro n
  induction n with
  | zero =>
    intro q s σ hn hqT hT hRE hF hS hi hq
    have l0 := hT.1
    exact R_works_3.i ⟨by unfold Rg; omega, by unfold Rg; omega, fun _ => hq.1 s σ rfl hS FrU.rf, fun h9 => absurd h9 (by omega)⟩
  | succ n ih =>
    intro q s σ hn hqT hT hRE hF hS hi hq
    have l0 := hT.1
    have RL : Rg ((x0 + T.length : Nat) : Int) := by unfold Rg; omega
    have Rq : Rg ((x0 + q : Nat) : Int) := by unfold Rg; omega
    have y3 := hi.1.2.2.1
    have hB := hi.bd hp
    by_cases hlt' : T.length ≤ q
    · have e : wkP (isD D E) E a f T (n + 1) q s = .inl s := by unfold wkP; rw [if_pos hlt']
      rw [e] at hq
      exact R_works_3.i ⟨Rq, RL, fun _ => hq.1 s σ rfl hS FrU.rf, fun h9 => absurd h9 (by omega)⟩
    · have hlt : q < T.length := by omega
      have hcb := hTb.gd hlt
      have nxt : ∀ (q' : Nat) (s1 : TS) (σ1 : MS), q + 1 ≤ q' → q' ≤ T.length → RxS X g kt c D a E O σ1 s1 → FrU g kt c X.1 σ σ1 → TI p 0 s1 → UOk Q X g kt c D a E O σ1 (wkP (isD D E) E a f T n q' s1) → R_works_3 (Dd + 1) ((x0 + T.length : Nat) : Int) call ((x0 + q' : Nat) : Int) σ1 Q := fun q' s1 σ1 h1 h2 h3 u1 h4 h5 => ih q' s1 σ1 (by omega) h2 (hT.u u1) (hRE.u hE u1) (hF.u u1) h3 h4 h5
      have unf : wkP (isD D E) E a f T (n + 1) q s = (if T.getD q 0 = 92 then
        (if T.length ≤ q + 1 then tFl 2 s
        else if sLe (T.getD (q + 1) 0) = true then tBd (caW (isD D E) E a f T (q + 1) s) (wkP (isD D E) E a f T n (nxC E T (q + 1)))
        else tBd (tPt (cdS s.1.2.2 (if T.getD (q + 1) 0 = 32 then 544 else T.getD (q + 1) 0)) s) (wkP (isD D E) E a f T n (q + 2)))
      else if T.getD q 0 = 123 then
        (if clD T q = -1 then tFl 2 s else tBd (isD D E a f (sgT T (q + 1) (clD T q).toNat) s) (wkP (isD D E) E a f T n ((clD T q).toNat + 1)))
      else if T.getD q 0 = 125 then tFl 2 s
      else if T.getD q 0 = 35 then
        (if q + 1 < T.length ∧ 49 ≤ T.getD (q + 1) 0 ∧ T.getD (q + 1) 0 ≤ 57 ∧ T.getD (q + 1) 0 - 48 ≤ f.length then tBd (tPs (f.getD (T.getD (q + 1) 0 - 49).toNat []) s) (wkP (isD D E) E a f T n (q + 2)) else tFl 11 s)
      else if T.getD q 0 = 42 then wkP (isD D E) E a f T n (q + 1) (sSt s (if s.1.2.2 % 2 = 0 then s.1.2.2 + 1 else s.1.2.2 - 1))
      else if T.getD q 0 = 95 then wkP (isD D E) E a f T n (q + 1) (sSt s (if s.1.2.2 < 2 then s.1.2.2 + 2 else s.1.2.2 - 2))
      else tBd (tPt (cdS s.1.2.2 (T.getD q 0)) s) (wkP (isD D E) E a f T n (q + 1))) := by
        conv => lhs; unfold wkP
        rw [if_neg hlt']
      rw [unf] at hq
      have flt : ∀ {k : Int} {l4 : Int}, k ≠ 0 → Rg l4 → UOk Q X g kt c D a E O σ (tFl k s) → R_works_3 (Dd + 1) ((x0 + T.length : Nat) : Int) call l4 (wV σ 246 28 k) Q := fun {k l4} hk h4 h => wk_f3 RL h4 (by rw [wV_self]; exact hk) (hS.fl hk hB h)
      have hy : mV σ 246 18 = s.1.2.2 := hS.1.2.2.2
      obtain ⟨D1, rfl⟩ : ∃ D1, Dd = D1 + 2 := ⟨Dd - 2, by omega⟩
      refine R_works_3.i ⟨Rq, RL, fun h9 => absurd h9 (by omega), fun _ => ⟨fun h9 => absurd hS.1.1 h9, fun _ => R_signAt.r hT hlt rfl ⟨fun c92 => ⟨fun c123 => ⟨fun c125 => ⟨fun c42 => R_works_122.i ⟨fun h9 => absurd c42 h9, fun _ => R_works_139.i ?_⟩, fun c42 => ⟨fun c95 => ⟨fun c35 => ?_, fun c35 => ?_⟩, fun c95 => R_works_122.i ⟨fun _ => R_works_139.i ?_, fun h9 => absurd h9 c42⟩⟩⟩, fun c125 => R_fail.r (by decide) hS.1 ?_⟩, fun c123 => R_closes.r hT hqT rfl ⟨fun h9 => ?_, fun h9 => R_fail.r (by decide) hS.1 ?_⟩⟩, fun c92 => ?_⟩⟩⟩
      · rw [if_neg c92, if_neg c123, if_neg c125, if_neg (by omega), if_pos c42] at hq
        rw [hy, (bxo_1 y3).1, show ((x0 + q : Nat) : Int) + 1 = ((x0 + (q + 1) : Nat) : Int) by omega]
        have u1 : ∀ {y : Int}, FrU g kt c X.1 σ (wV σ 246 18 y) := FrU.wf (by decide)
        exact nxt (q + 1) _ _ (Nat.le_refl _) hlt hS.st u1 (hi.st (st_x1 y3)) (hq.fr u1)
      · rw [if_neg c92, if_neg c123, if_neg c125, if_neg c35, if_neg c42, if_neg c95] at hq
        rw [hy]
        refine R_put.r (c := cdS s.1.2.2 (T.getD q 0)) (kt := kt) hS.1 hS.2.1 hB (rd_cd y3 hcb).1.symm (rd_cd y3 hcb).2.symm ⟨fun s1 σ1 e1 p1 => ?_, fun e σ1 he p1 p2 => ?_⟩
        · show R_works_3 (D1 + 2 + 1) ((x0 + T.length : Nat) : Int) call (((x0 + q : Nat) : Int) + 1) σ1 Q
          rw [show ((x0 + q : Nat) : Int) + 1 = ((x0 + (q + 1) : Nat) : Int) by omega]
          exact nxt (q + 1) s1 σ1 (Nat.le_refl _) hlt (hS.po p1) p1.1.u (hi.pt (cd_ok y3 hcb) e1) (hq.bd e1 p1.1.u)
        · exact wk_f3 RL (by unfold Rg; omega) (by rw [p1.1]; exact p1.2.1) (hq.no he p1 (hS.2.2.2.p p2) p2.u)
      · rw [if_neg c92, if_neg c123, if_neg c125, if_pos c35] at hq
        have c31 : c ≤ 31 := by omega
        refine R_argument.r (p := p) hT hTb hlt hF c31 hS hi hp ⟨fun s1 σ1 e1 h1 u1 => ?_, fun e σ1 he h1 h2 u1 => ?_⟩
        · by_cases hc9 : q + 1 < T.length ∧ 49 ≤ T.getD (q + 1) 0 ∧ T.getD (q + 1) 0 ≤ 57 ∧ T.getD (q + 1) 0 - 48 ≤ f.length
          · rw [if_pos hc9] at e1 hq
            show R_works_3 (D1 + 2 + 1) ((x0 + T.length : Nat) : Int) call (((x0 + q : Nat) : Int) + 2) σ1 Q
            rw [show ((x0 + q : Nat) : Int) + 2 = ((x0 + (q + 2) : Nat) : Int) by omega]
            exact nxt (q + 2) s1 σ1 (by omega) (by omega) h1 u1 (hi.ps (hf.at _) e1) (hq.bd e1 u1)
          · rw [if_neg hc9] at e1
            exact absurd e1 (by simp [tFl])
        · refine wk_f3 RL (by unfold Rg; omega) (by rw [h1.1]; exact h1.2.1) ?_
          by_cases hc9 : q + 1 < T.length ∧ 49 ≤ T.getD (q + 1) 0 ∧ T.getD (q + 1) 0 ≤ 57 ∧ T.getD (q + 1) 0 - 48 ≤ f.length
          · rw [if_pos hc9] at he hq
            exact hq.no he h1 h2 u1
          · rw [if_neg hc9] at he hq
            exact hq.2 e σ1 he h1 h2 u1
      · rw [if_neg c92, if_neg c123, if_neg c125, if_neg (by omega), if_neg c42, if_pos c95] at hq
        rw [hy, (bxo_1 y3).2, show ((x0 + q : Nat) : Int) + 1 = ((x0 + (q + 1) : Nat) : Int) by omega]
        have u1 : ∀ {y : Int}, FrU g kt c X.1 σ (wV σ 246 18 y) := FrU.wf (by decide)
        exact nxt (q + 1) _ _ (Nat.le_refl _) hlt hS.st u1 (hi.st (st_x2 y3)) (hq.fr u1)
      · rw [if_neg c92, if_neg c123, if_pos c125] at hq
        exact flt (by decide) Rq hq
      · rw [if_neg c92, if_pos c123] at hq
        have hc : ¬ clD T q = -1 := fun h5 => by
          rw [if_pos h5] at h9
          exact absurd h9 (by decide)
        obtain ⟨b1, b2, b3⟩ := clD_b hc hqT c123 hlt
        rw [if_neg hc] at hq h9 ⊢
        generalize hcl : (clD T q).toNat = cl at *
        have lS := sg_len (T := T) b1 (show cl ≤ T.length by omega)
        rw [b3, show ((x0 + q : Nat) : Int) + 1 = ((x0 + (q + 1) : Nat) : Int) by omega, show (x0 : Int) + (cl : Int) = ((x0 + (q + 1) + (sgT T (q + 1) cl).length : Nat) : Int) by omega]
        refine R_group.r (p := p) hE hW (by omega) (hT.sg b1 (by omega)) hTb.sg hRE hF hf hS hi hp (by omega) (by omega) hg ⟨fun s1 σ1 e1 h1 u1 => ?_, fun e σ1 he h1 h2 u1 => ?_⟩
        · show R_works_3 (D1 + 2 + 1) ((x0 + T.length : Nat) : Int) call (((x0 + (q + 1) + (sgT T (q + 1) cl).length : Nat) : Int) + 1) σ1 Q
          rw [show ((x0 + (q + 1) + (sgT T (q + 1) cl).length : Nat) : Int) + 1 = ((x0 + (cl + 1) : Nat) : Int) by omega]
          exact nxt (cl + 1) s1 σ1 (by omega) (by omega) h1 u1 ((is_ti hE D a f (sgT T (q + 1) cl) s s1 p 0 (by omega) (by decide) hi hf hTb.sg e1).1) (hq.bd e1 u1)
        · exact wk_f3 RL (by unfold Rg; omega) (by rw [h1.1]; exact h1.2.1) (hq.no he h1 h2 u1)
      · rw [if_neg c92, if_pos c123] at hq
        have hc : clD T q = -1 := by
          by_cases h5 : clD T q = -1
          · exact h5
          · obtain ⟨b1, b2, b3⟩ := clD_b h5 hqT c123 hlt
            rw [if_neg h5] at h9
            omega
        rw [if_pos hc] at hq
        exact flt (by decide) Rq hq
      · rw [if_pos c92] at hq
        refine R_escaped.i ⟨by unfold Rg; omega, RL, fun h9 => ?_, fun h9 => R_fail.r (by decide) hS.1 ⟨RL, ?_⟩⟩
        · have hlt1 : q + 1 < T.length := by omega
          have hcb1 := hTb.gd hlt1
          rw [if_neg (by omega)] at hq
          rw [show ((x0 + q : Nat) : Int) + 1 = ((x0 + (q + 1) : Nat) : Int) by omega]
          refine R_signAt.r hT hlt1 rfl (R_isLetter.s (by unfold Rg; omega) ⟨fun h8 => ?_, fun h8 => ?_⟩)
          · rw [if_neg (by rw [bZ_z h8]; decide)] at hq
            have pt : ∀ (cc xx : Int), rdG (cdS s.1.2.2 cc) = xx → cyB (cdS s.1.2.2 cc) = s.1.2.2 → okC (cdS s.1.2.2 cc) → UOk Q X g kt c D a E O σ (tBd (tPt (cdS s.1.2.2 cc) s) (wkP (isD D E) E a f T n (q + 2))) → R_escaped_57 (D1 + 1 + 1) ((x0 + q : Nat) : Int) xx σ (kI (thQ Q) fun r8 σ8 => R_works_3 (D1 + 2 + 1) ((x0 + T.length : Nat) : Int) call r8 σ8 Q) := by
              intro cc xx h1 h2 h3 hq
              refine R_escaped_57.i ?_
              rw [hy]
              refine R_put.r (c := cdS s.1.2.2 cc) (kt := kt) hS.1 hS.2.1 hB h1.symm h2.symm ⟨fun s1 σ1 e1 p1 => ⟨by unfold Rg; omega, ?_⟩, fun e σ1 he p1 p2 => ⟨by unfold Rg; omega, ?_⟩⟩
              · show R_works_3 (D1 + 2 + 1) ((x0 + T.length : Nat) : Int) call (((x0 + q : Nat) : Int) + 2) σ1 Q
                rw [show ((x0 + q : Nat) : Int) + 2 = ((x0 + (q + 2) : Nat) : Int) by omega]
                exact nxt (q + 2) s1 σ1 (by omega) (by omega) (hS.po p1) p1.1.u (hi.pt h3 e1) (hq.bd e1 p1.1.u)
              · exact wk_f3 RL (by unfold Rg; omega) (by rw [p1.1]; exact p1.2.1) (hq.no he p1 (hS.2.2.2.p p2) p2.u)
            refine ⟨fun h7 => ?_, fun h7 => ?_⟩
            · rw [if_neg h7] at hq
              exact pt _ _ (rd_cd y3 hcb1).1 (rd_cd y3 hcb1).2 (cd_ok y3 hcb1) hq
            · rw [if_pos h7] at hq
              exact pt _ _ (rd_hd y3).1 (rd_hd y3).2 (cd_hard y3) hq
          · rw [if_pos (bZ_ne h8)] at hq
            refine R_calls.r (q := q + 1) (p := p) hE hW (by omega) (by omega) hT hTb hRE hF hf hS hi hp hcD hg rfl ⟨fun s1 σ1 e1 h1 u1 => ?_, fun e σ1 x9 he hx9 h1 h2 u1 => ?_⟩
            · obtain ⟨d1, d2⟩ : q + 1 ≤ nxC E T (q + 1) ∧ nxC E T (q + 1) ≤ T.length := by
                obtain ⟨b1, b2⟩ := neD_b (T := T) (q := q + 1) (by omega)
                unfold nxC
                cases h9 : faD T (arD E T (q + 1)) (neD T (q + 1)) with
                | inl w =>
                  obtain ⟨-, w1, w2, -⟩ := fa_b b2 h9
                  show q + 1 ≤ w.2 ∧ w.2 ≤ T.length
                  omega
                | inr kd =>
                  unfold caW at e1
                  rw [h9] at e1
                  obtain ⟨s9, -, e9⟩ := bd_i e1
                  split at e9
                  · exact absurd e9 (by simp [tFl])
                  · split at e9
                    · exact absurd e9 (by simp [tFl])
                    · exact absurd e9 (by simp [tFl])
              exact nxt (nxC E T (q + 1)) s1 σ1 d1 d2 h1 u1 (ca_ti (is_ti hE D) hE hf hTb (by omega) (by decide) hi e1) (hq.bd e1 u1)
            · exact wk_f3 RL hx9 (by rw [h1.1]; exact h1.2.1) (hq.no he h1 h2 u1)
        · rw [if_pos (by omega)] at hq
          exact flt (by decide) RL hq
theorem R_works.r (hE : EI E) (hW : ∀ D', D = D' + 1 → WkR E D' Dm) : WkR E D (Dm + 5) := by
  intro Dd x0 T a f call X g kt c O s σ Q p hDd hT hTb hRE hF hf hS hi hp hcD hg hq
  obtain ⟨D1, rfl⟩ : ∃ D1, Dd = D1 + 1 := ⟨Dd - 1, by omega⟩
  rw [wkD_i] at hq
  exact R_works.i (wr_3 hE hW (by omega) hTb hf hcD hg hp T.length 0 s σ (by omega) (Nat.zero_le _) hT hRE hF hS hi hq)
/-- the reference works texts as the document says -/
theorem is_r (hE : EI E) : ∀ D : Nat, WkR E D (5 * D + 5)
  | 0 => R_works.r (Dm := 0) hE (fun D' h => absurd h (by omega))
  | D + 1 => by
    have := R_works.r (D := D + 1) (Dm := 5 * D + 5) hE (fun D' h => by
      have : D = D' := by omega
      subst this
      exact is_r hE D)
    exact this
end
