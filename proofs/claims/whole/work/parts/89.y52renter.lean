/-! THE REFERENCE WORKS TEXTS: signs, braces, groups, arguments put -/
/-- the reference works texts at a depth -/
def WkR (E : TE) (D Dm : Nat) : Prop := ∀ (Dd x0 : Nat) (T : List Int) (a : Bool) (f : List (List Int)) (call : Int) (X : RY9) (g kt c : Nat) (O : List Int) (s : TS) (σ : MS) (Q : MQ9) (p : Int), Dm ≤ Dd → SgR σ x0 T → smB T → RxE σ E X.1 → FmR σ kt c call f → okM9 f → RxS X g kt c D a E O σ s → TI p 0 s → ((g + kt : Nat) : Int) ≤ p → c + D ≤ 30 → (a = false → 0 < E.2.2.2 → g = 0) → UOk Q X g kt c D a E O σ (wkD D E a f T s) → R_works Dd (x0 : Int) ((x0 + T.length : Nat) : Int) call σ Q
section
variable {σ σ0 σ1 σ2 : MS} {Q : MQ9} {g kt u c D Dm Dd nw n0 l0 k0 x0 : Nat} {a : Bool} {E : TE} {O T : List Int} {X : RY9} {s s1 s2 : TS} {f : List (List Int)} {call : Int} {A L P K : List Int} {x y p : Int} {m m' : TM}
theorem R_signAt.r {t : Nat} (hT : SgR σ x0 T) (ht : t < T.length) (hx : x = ((x0 + t : Nat) : Int)) (hq : Q (.inl (some (T.getD t 0))) σ) : R_signAt x σ Q := by
  subst hx
  have h1 := hT.1
  have h2 := hT.2 t ht
  refine R_signAt.i ⟨by omega, by omega, fun h9 => ⟨by omega, by omega, ?_⟩, fun h9 => ?_⟩
  · rw [Int.toNat_natCast] at h9 ⊢
    rw [if_neg h9] at h2
    rw [h2]
    exact hq
  · rw [Int.toNat_natCast] at h9
    rw [if_pos h9] at h2
    rw [h2]
    exact hq
theorem SgR.sg {b b' : Nat} (hT : SgR σ x0 T) (hab : b ≤ b') (hb : b' ≤ T.length) : SgR σ (x0 + b) (sgT T b b') := by
  refine ⟨by rw [sg_len hab hb]; have := hT.1; omega, fun t ht => ?_⟩
  rw [sg_len hab hb] at ht
  rw [sg_at hb ht, Nat.add_assoc]
  exact hT.2 (b + t) (by omega)
theorem cl_5 (hT : SgR σ x0 T) : ∀ (h : Nat) (j : Nat) (o : Int), T.length + 1 ≤ j + h → j ≤ T.length + 1 → (-(j : Int) ≤ o ∧ o ≤ j) → Q (.inl (some (if clN h (T.drop j) o j = -1 then -1 else (x0 : Int) + clN h (T.drop j) o j))) σ → R_closes_5 ((x0 + T.length : Nat) : Int) o ((x0 + j : Nat) : Int) σ Q := by
  have l0 := hT.1
  have out : ∀ (j : Nat) (o : Int), T.length ≤ j → j ≤ T.length + 1 → Q (.inl (some (-1))) σ → R_closes_5 ((x0 + T.length : Nat) : Int) o ((x0 + j : Nat) : Int) σ Q := fun j o h1 h2 hno => R_closes_5.i ⟨by unfold Rg; omega, by unfold Rg; omega, fun _ => hno, fun h9 => absurd h9 (by omega)⟩
  intro h
  induction h with
  | zero =>
    intro j o h1 h2 h3 hq
    exact out j o (by omega) h2 hq
  | succ h ih =>
    intro j o h1 h2 h3 hq
    by_cases hj : T.length ≤ j
    · refine out j o hj h2 ?_
      rw [List.drop_eq_nil_of_le hj] at hq
      exact hq
    · have hlt : j < T.length := by omega
      have et : (T.drop (j + 1)).tail = T.drop (j + 2) := by rw [List.tail_drop]
      rw [drop_c hlt, clN_c, et] at hq
      refine R_closes_5.i ⟨by unfold Rg; omega, by unfold Rg; omega, fun h9 => absurd h9 (by omega), fun _ => R_signAt.r hT hlt rfl ?_⟩
      have n1 : ∀ o' : Int, R_closes_5 ((x0 + T.length : Nat) : Int) o' ((x0 + (j + 1) : Nat) : Int) σ Q → R_closes_59 ((x0 + T.length : Nat) : Int) o' ((x0 + j : Nat) : Int) σ Q := fun o' h9 => R_closes_59.i (by
        rw [show ((x0 + j : Nat) : Int) + 1 = ((x0 + (j + 1) : Nat) : Int) by omega]
        exact h9)
      refine ⟨fun c1 => ⟨fun c2 => R_closes_42.i ⟨fun c3 => n1 _ ?_, fun c3 => ⟨by unfold Rg; omega, fun c4 => n1 _ ?_, fun c4 => ⟨by unfold Rg; omega, ?_⟩⟩⟩, fun c2 => R_closes_42.i ⟨fun c3 => n1 _ ?_, fun c3 => ?_⟩⟩, fun c1 => ?_⟩
      · rw [if_neg c1, if_neg c2, if_neg c3] at hq
        exact ih (j + 1) o (by omega) (by omega) (by omega) hq
      · rw [if_neg c1, if_neg c2, if_pos c3, if_neg (show ¬ o - 1 = 0 by omega)] at hq
        exact ih (j + 1) (o + -1) (by omega) (by omega) (by omega) hq
      · rw [if_neg c1, if_neg c2, if_pos c3, if_pos (show o - 1 = 0 by omega), if_neg (show ¬ (j : Int) = -1 by omega)] at hq
        rw [show ((x0 + j : Nat) : Int) = (x0 : Int) + (j : Int) by omega]
        exact hq
      · rw [if_neg c1, if_pos c2] at hq
        exact ih (j + 1) (o + 1) (by omega) (by omega) (by omega) hq
      · rw [c2] at c3
        exact absurd c3 (by decide)
      · rw [if_pos c1] at hq
        show R_closes_5 ((x0 + T.length : Nat) : Int) o (((x0 + j : Nat) : Int) + 2) σ Q
        rw [show ((x0 + j : Nat) : Int) + 2 = ((x0 + (j + 2) : Nat) : Int) by omega]
        exact ih (j + 2) o (by omega) (by omega) (by omega) hq
theorem R_closes.r {q : Nat} (hT : SgR σ x0 T) (hp : q ≤ T.length) (hx : x = ((x0 + q : Nat) : Int)) (hq : Q (.inl (some (if clD T q = -1 then -1 else (x0 : Int) + clD T q))) σ) : R_closes x ((x0 + T.length : Nat) : Int) σ Q := by
  subst hx
  exact R_closes.i (cl_5 hT (T.length + 1) q 0 (by omega) (by omega) (by omega) hq)
/-- what is entered -/
theorem RxS.en {n : Int} (h : RxS X g kt c (D + 1) a E O σ s) (hn : 0 ≤ n) (e : tSp n s = .inl s1) : RxS X g kt c D a E O (wV (wV (wV σ 246 32 (s.1.1 + n)) 246 33 (s.1.2.1 + n)) 246 31 (30 - (D : Int))) s1 := by
  obtain ⟨e1, e2, e3⟩ := sp_i e
  subst e1
  obtain ⟨h1, h2, h3, h4⟩ := h
  have q : FrZ [] [31, 32, 33] σ (wV (wV (wV σ 246 32 (s.1.1 + n)) 246 33 (s.1.2.1 + n)) 246 31 (30 - (D : Int))) := ((FrZ.wf (by decide)).tr (FrZ.wf (by decide))).tr (FrZ.wf (by decide))
  have q2 : FrQ σ (wV (wV (wV σ 246 32 (s.1.1 + n)) 246 33 (s.1.2.1 + n)) 246 31 (30 - (D : Int))) := ((FrA.w (Or.inl ⟨rfl, by decide⟩)).tr (FrA.w (Or.inl ⟨rfl, by decide⟩))).tr (FrA.w (Or.inl ⟨rfl, by decide⟩))
  refine ⟨⟨(q.f (by decide) (by decide)).trans h1.1, ?_, ?_, (q.f (by decide) (by decide)).trans h1.2.2.2⟩, h2.z q (by decide) (by decide), h3.v q2, (q.f (by decide) (by decide)).trans h4.1, (q.f (by decide) (by decide)).trans h4.2.1, wV_self, (q.f (by decide) (by decide)).trans h4.2.2.2.1, ?_⟩
  · rw [wV_ne (Or.inr (by decide)), wV_ne (Or.inr (by decide)), wV_self]
    rfl
  · rw [wV_ne (Or.inr (by decide)), wV_self]
    rfl
  · have h5 := h4.2.2.2.2
    have h6 := h1.2.2.1
    unfold UnB at h5 ⊢
    rw [wV_ne (Or.inr (by decide)), wV_ne (Or.inr (by decide)), wV_ne (Or.inr (by decide)), wV_ne (Or.inr (by decide)), wV_self]
    omega
theorem R_enters.r (h : RxS X g kt c D a E O σ s) (hB : BdR g kt s) (hD : D ≤ 30) (h1 : ∀ D' s1, D = D' + 1 → tSp 5 s = .inl s1 → ∀ σ', RxS X g kt c D' a E O σ' s1 → FrZ [] [31, 32, 33] σ σ' → Q (.inl (some 1)) σ') (h0 : ∀ k : Int, k ≠ 0 → (D = 0 → k = 7) → (∀ D', D = D' + 1 → k = 8 ∧ tSp 5 s = tFl 8 s) → Q (.inl (some 0)) (wV σ 246 28 k)) : R_enters σ Q := by
  have h31 := h.2.2.2.2.2.1
  cases D with
  | zero =>
    refine R_enters.i ⟨fun h9 => absurd (by rw [h31]; rfl) h9, fun _ => R_fail.r (by decide) h.1 ?_⟩
    exact h0 7 (by decide) (fun _ => rfl) (fun D' e => absurd e (by omega))
  | succ D =>
    refine R_enters.i ⟨fun _ => R_spend.r (g := g) (kt := kt) (by decide) h.1 hB (fun s1 e => ⟨fun _ => ?_, fun h9 => absurd h9 (by decide)⟩) (fun e => ⟨fun h9 => absurd rfl h9, fun _ => ?_⟩), fun h9 => absurd h9 (by rw [h31]; omega)⟩
    · have t : mV (wV (wV σ 246 32 (s.1.1 + 5)) 246 33 (s.1.2.1 + 5)) 246 31 = 30 - ((D + 1 : Nat) : Int) := by
        rw [wV_ne (Or.inr (by decide)), wV_ne (Or.inr (by decide))]
        exact h31
      rw [t, show 30 - ((D + 1 : Nat) : Int) + 1 = 30 - (D : Int) by omega]
      refine ⟨by unfold Rg; omega, h1 D s1 rfl e _ (h.en (by decide) e) ?_⟩
      exact ((FrZ.wf (by decide)).tr (FrZ.wf (by decide))).tr (FrZ.wf (by decide))
    · exact h0 8 (by decide) (fun h9 => absurd h9 (by omega)) (fun D' e' => ⟨rfl, e⟩)
theorem FrZ.u0 {K : List Nat} (q : FrZ [] K σ σ1) (h2 : ∀ k ∈ K, k ∈ TRK) : FrU g kt c nw σ σ1 := q.uu (fun z hz => absurd hz List.not_mem_nil) h2
/-- the style comes back, and the depth -/
theorem RxS.lv {y9 : Int} (h : RxS X g kt c D a E O σ s) : RxS X g kt c (D + 1) a E O (wV (wV σ 246 18 y9) 246 31 (30 - ((D + 1 : Nat) : Int))) (sSt s y9) := by
  obtain ⟨h1, h2, h3, h4⟩ := h
  have q : FrZ [] [18, 31] σ (wV (wV σ 246 18 y9) 246 31 (30 - ((D + 1 : Nat) : Int))) := (FrZ.wf (by decide)).tr (FrZ.wf (by decide))
  have q2 : FrQ σ (wV (wV σ 246 18 y9) 246 31 (30 - ((D + 1 : Nat) : Int))) := (FrA.w (Or.inl ⟨rfl, by decide⟩)).tr (FrA.w (Or.inl ⟨rfl, by decide⟩))
  refine ⟨⟨(q.f (by decide) (by decide)).trans h1.1, (q.f (by decide) (by decide)).trans h1.2.1, (q.f (by decide) (by decide)).trans h1.2.2.1, ?_⟩, h2.z q (by decide) (by decide), h3.v q2, (q.f (by decide) (by decide)).trans h4.1, (q.f (by decide) (by decide)).trans h4.2.1, wV_self, (q.f (by decide) (by decide)).trans h4.2.2.2.1, h4.2.2.2.2.z q (by decide) (by decide)⟩
  rw [wV_ne (Or.inr (by decide)), wV_self]
  rfl
theorem FaR.z {S K : List Nat} {e : Int × Int × Int} (h : FaR g kt σ e) (q : FrZ S K σ σ1) (h1 : 246 ∉ S) (h2 : ∀ k ∈ [16, 28, 32, 33], k ∉ K) : FaR g kt σ1 e := by
  obtain ⟨a1, a2, a3, a4, t, a5, a6, a7⟩ := h
  exact ⟨(q.f (h2 _ (by decide)) h1).trans a1, a2, (q.f (h2 _ (by decide)) h1).trans a3, (q.f (h2 _ (by decide)) h1).trans a4, t, (q.f (h2 _ (by decide)) h1).trans a5, a6, a7⟩
theorem FaR.k {kt' : Nat} {e : Int × Int × Int} (h : FaR g kt σ e) (hk : kt' ≤ kt) : FaR g kt' σ e := by
  obtain ⟨a1, a2, a3, a4, t, a5, a6, a7⟩ := h
  exact ⟨a1, a2, a3, a4, t, a5, a6, by omega⟩
theorem isD_0 {E : TE} : isD 0 E a f T s = tFl 7 s := rfl
theorem isD_s {E : TE} : isD (D + 1) E a f T s = tBd (tSp 5 s) fun s1 => tBd (wkD D E a f T s1) fun s2 => .inl (sSt s2 s1.1.2.2) := rfl
/-- what stands between braces -/
theorem R_group.r (hE : EI E) (hW : ∀ D', D = D' + 1 → WkR E D' Dm) (hDd : Dm ≤ Dd) (hT : SgR σ x0 T) (hTb : smB T) (hRE : RxE σ E X.1) (hF : FmR σ kt c call f) (hf : okM9 f) (hS : RxS X g kt c D a E O σ s) (hi : TI p 0 s) (hp : ((g + kt : Nat) : Int) ≤ p) (hcD : c + D ≤ 31) (hD : D ≤ 30) (hg : a = false → 0 < E.2.2.2 → g = 0) (hq : UOk Q X g kt c D a E O σ (isD D E a f T s)) : R_group (Dd + 1) (x0 : Int) ((x0 + T.length : Nat) : Int) call σ Q := by
  have hB := hi.bd hp
  refine R_group.i (R_enters.r hS hB hD (fun D' s1 eD e1 σ1 h1 f1 => ⟨fun _ => ?_, fun h9 => absurd h9 (by decide)⟩) (fun k hk k7 k8 => ⟨fun h9 => absurd rfl h9, fun _ => ?_⟩))
  · subst eD
    rw [isD_s] at hq
    have u1 : FrU g kt c X.1 σ σ1 := f1.u0 (by decide)
    have hq1 := hq.bd e1 u1
    refine hW D' rfl Dd x0 T a f call X g kt c O s1 σ1 _ p hDd (hT.u u1) hTb (hRE.u hE u1) (hF.u u1) hf h1 ((hi.sp (by decide) e1).mo (by omega) (by decide)) hp (by omega) hg ⟨fun s2 σ2 e2 h2 u2 => ?_, fun e σ2 he h2 h3 u2 => ?_⟩
    · have h31 := h2.2.2.2.2.2.1
      show Rg (mV σ2 246 31 - 1) ∧ Q (.inl none) (wV (wV σ2 246 18 (mV σ1 246 18)) 246 31 (mV σ2 246 31 - 1))
      rw [h31, show mV σ1 246 18 = s1.1.2.2 from h1.1.2.2.2, show 30 - (D' : Int) - 1 = 30 - ((D' + 1 : Nat) : Int) by omega]
      refine ⟨by unfold Rg; omega, (hq1.bd e2 u2).1 _ _ rfl h2.lv (FrZ.u0 (K := [18, 31]) ((FrZ.wf (by decide)).tr (FrZ.wf (by decide))) (by decide))⟩
    · have h31 := h3.2.2.1
      show Rg (mV σ2 246 31 - 1) ∧ Q (.inl none) (wV (wV σ2 246 18 (mV σ1 246 18)) 246 31 (mV σ2 246 31 - 1))
      rw [h31, show 30 - (D' : Int) - 1 = 30 - ((D' + 1 : Nat) : Int) by omega]
      have f2 : FrZ [] [18, 31] σ2 (wV (wV σ2 246 18 (mV σ1 246 18)) 246 31 (30 - ((D' + 1 : Nat) : Int))) := (FrZ.wf (by decide)).tr (FrZ.wf (by decide))
      refine ⟨by unfold Rg; omega, hq1.no he (h2.z f2 (by decide) (by decide)) ⟨(f2.f (by decide) (by decide)).trans h3.1, (f2.f (by decide) (by decide)).trans h3.2.1, wV_self, (f2.f (by decide) (by decide)).trans h3.2.2.2.1, h3.2.2.2.2.z f2 (by decide) (by decide)⟩ (u2.tr (f2.u0 (by decide)))⟩
  · have e : isD D E a f T s = tFl k s := by
      cases D with
      | zero => rw [isD_0, k7 rfl]
      | succ D' =>
        obtain ⟨k8a, k8b⟩ := k8 D' rfl
        rw [isD_s, k8b, k8a]
        rfl
    rw [e] at hq
    exact hS.fl hk hB hq
theorem R_argument.r {q : Nat} (hT : SgR σ x0 T) (hTb : smB T) (hq9 : q < T.length) (hF : FmR σ kt c call f) (hc : c ≤ 31) (hS : RxS X g kt c D a E O σ s) (hi : TI p 0 s) (hp : ((g + kt : Nat) : Int) ≤ p) (hq : UOk Q X g kt c D a E O σ (if q + 1 < T.length ∧ 49 ≤ T.getD (q + 1) 0 ∧ T.getD (q + 1) 0 ≤ 57 ∧ T.getD (q + 1) 0 - 48 ≤ f.length then tPs (f.getD (T.getD (q + 1) 0 - 49).toNat []) s else tFl 11 s)) : R_argument ((x0 + q : Nat) : Int) ((x0 + T.length : Nat) : Int) call σ Q := by
  have hB := hi.bd hp
  have l0 := hT.1
  have cR : Rg call := by
    rcases hF with h | ⟨j, h1, h2, -⟩
    · rw [h.1]; decide
    · rw [h1]; unfold Rg; omega
  have no : ¬ (q + 1 < T.length ∧ 49 ≤ T.getD (q + 1) 0 ∧ T.getD (q + 1) 0 ≤ 57 ∧ T.getD (q + 1) 0 - 48 ≤ f.length) → R_argument_53 σ Q := fun h9 => by
    rw [if_neg h9] at hq
    exact R_argument_53.i (R_fail.r (by decide) hS.1 (hS.fl (by decide) hB hq))
  refine R_argument.i ⟨by unfold Rg; omega, by unfold Rg; omega, fun h9 => R_argument_18.i (R_isDigit.s (by decide) ⟨fun _ => no (by omega), fun h8 => absurd h8 (by decide)⟩), fun h9 => ?_⟩
  have hlt : q + 1 < T.length := by omega
  have hb := hTb (T.getD (q + 1) 0) (by rw [List.getD_eq_getElem?_getD, List.getElem?_eq_getElem hlt]; exact List.getElem_mem hlt)
  refine R_signAt.r hT hlt (by omega) (R_argument_18.i (R_isDigit.s (by unfold Rg; omega) ⟨fun h8 => no ?_, fun h8 => ⟨fun h7 => no (by omega), fun h7 => ⟨cR, fun h6 => no ?_, fun h6 => ?_⟩⟩⟩))
  · intro h7
    have := bZ_z h8
    rw [show sDi (T.getD (q + 1) 0) = true from sDi_i.mpr (by omega)] at this
    exact absurd this (by decide)
  · rcases hF with h | ⟨j, h1, -⟩
    · rw [h.2, List.length_nil]
      omega
    · omega
  · have d := sDi_i.mp (bZ_ne h8)
    rcases hF with h | ⟨j, h1, h2, h3, h4, h5⟩
    · rw [h.1] at h6
      exact absurd h6 (by decide)
    · subst h1
      refine ⟨by omega, by omega, by unfold Rg; omega, fun h5' => ?_, fun h5' => no ?_⟩
      · rw [Int.toNat_natCast, h4] at h5'
        have hc9 : q + 1 < T.length ∧ 49 ≤ T.getD (q + 1) 0 ∧ T.getD (q + 1) 0 ≤ 57 ∧ T.getD (q + 1) 0 - 48 ≤ f.length := ⟨hlt, by omega, by omega, h5'⟩
        rw [if_pos hc9] at hq
        obtain ⟨i, hi9⟩ : ∃ i : Nat, T.getD (q + 1) 0 - 49 = (i : Int) := ⟨(T.getD (q + 1) 0 - 49).toNat, by omega⟩
        rw [hi9, Int.toNat_natCast] at hq
        obtain ⟨w, e1, e2, e3, hG⟩ := h5 i (by omega)
        rw [show 10 * (j : Int) + T.getD (q + 1) 0 - 49 = ((10 * j + i : Nat) : Int) by omega, Int.toNat_natCast, e1]
        have := hB.2.2
        have := hB.1
        exact ⟨by omega, by omega, R_argument_81.r (by omega) hG (by omega) e2 hS.1 hS.2.1 hB (hq.q hS)⟩
      · rw [Int.toNat_natCast, h4] at h5'
        omega
end
