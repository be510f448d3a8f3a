/-! THE REFERENCE WORKS TEXTS: calls -/
def UOkI (Q : MQ9) (X : RY9) (g kt c D : Nat) (a : Bool) (E : TE) (O : List Int) (σ0 : MS) (r : TR) (v : Int) : Prop := (∀ s' σ', r = .inl s' → RxS X g kt c D a E O σ' s' → FrU g kt c X.1 σ0 σ' → Q (.inl (some v)) σ') ∧ (∀ e σ' x, r = .inr e → Rg x → FaR g kt σ' e → RxP σ' kt c D a E → FrU g kt c X.1 σ0 σ' → Q (.inl (some x)) σ')
theorem ixW_mem : ∀ (ws : List (List Int)) (k : Int) (U : List Int), ¬ ixW ws k U = -1 → U ∈ ws
  | [], k, U, h => absurd rfl h
  | w :: r, k, U, h => by
    unfold ixW at h
    by_cases e : w = U
    · rw [e]
      exact List.mem_cons_self
    · rw [if_neg e] at h
      exact List.mem_cons_of_mem _ (ixW_mem r (k + 1) U h)
section
variable {σ σ0 σ1 σ2 σ3 : MS} {Q : MQ9} {g kt kt' u c D Dm Dd nw n0 l0 k0 x0 j i : Nat} {a : Bool} {E : TE} {O T : List Int} {X : RY9} {s s1 s2 : TS} {f w : List (List Int)} {call : Int} {A L P K : List Int} {x y p k : Int}
theorem UOkI.fr {r : TR} {v : Int} (h : UOkI Q X g kt c D a E O σ r v) (h1 : FrU g kt c X.1 σ σ1) : UOkI Q X g kt c D a E O σ1 r v := ⟨fun s' σ' e' q q2 => h.1 s' σ' e' q (h1.tr q2), fun e' σ' y he hr q q2 q3 => h.2 e' σ' y he hr q q2 (h1.tr q3)⟩
theorem RxS.fi {v : Int} (hk : k ≠ 0) (h : RxS X g kt c D a E O σ s) (hB : BdR g kt s) (hv : Rg x) (hq : UOkI Q X g kt c D a E O σ (tFl k s) v) : Q (.inl (some x)) (wV σ 246 28 k) := hq.2 _ _ x rfl hv (FaR.fl hk h.1 h.2.1 hB) (h.2.2.2.p (FrP.w (g := g) (by decide))) (FrU.wf (by decide))
theorem R_argumentsOf.r (hk : 0 ≤ k ∧ k < 21) (hq : Q (.inl (some (anD.getD k.toNat 0))) σ) : R_argumentsOf k σ Q := by
  obtain ⟨n, rfl⟩ : ∃ n : Nat, k = (n : Int) := ⟨k.toNat, by omega⟩
  rw [Int.toNat_natCast] at hq
  have hn : n < 21 := by omega
  refine R_argumentsOf.i ⟨by unfold Rg; omega, fun d => ?_, fun d => ?_, fun d => ?_, fun d => ?_, fun d => ?_, fun d => ?_, fun d => ?_, fun d => ?_, fun d => ?_, fun d => ?_, fun d => ?_, fun d => ?_, fun d => ?_, fun d => ?_, trivial⟩
  · have : n = 0 ∨ n = 1 ∨ n = 2 ∨ n = 16 ∨ n = 17 ∨ n = 18 ∨ n = 19 ∨ n = 20 := by omega
    rcases this with rfl | rfl | rfl | rfl | rfl | rfl | rfl | rfl <;> exact hq
  all_goals
    first
      | (have : n = 3 := by omega
         subst this; exact hq)
      | (have : n = 4 := by omega
         subst this; exact hq)
      | (have : n = 5 := by omega
         subst this; exact hq)
      | (have : n = 6 := by omega
         subst this; exact hq)
      | (have : n = 7 := by omega
         subst this; exact hq)
      | (have : n = 8 := by omega
         subst this; exact hq)
      | (have : n = 9 := by omega
         subst this; exact hq)
      | (have : n = 10 := by omega
         subst this; exact hq)
      | (have : n = 11 := by omega
         subst this; exact hq)
      | (have : n = 12 := by omega
         subst this; exact hq)
      | (have : n = 13 := by omega
         subst this; exact hq)
      | (have : n = 14 := by omega
         subst this; exact hq)
      | (have : n = 15 := by omega
         subst this; exact hq)
/-- the macro's body -/
theorem R_body.r (hE : EI E) (hW : ∀ D', D = D' + 1 → WkR E D' Dm) (hDd : Dm ≤ Dd) {m : Nat} (hm : m < E.1.1.length) (hRE : RxE σ E X.1) (hF : FmR σ kt (j + 1) (j : Int) f) (hf : okM9 f) (hS : RxS X g kt (j + 1) D a E O σ s) (hi : TI p 0 s) (hp : ((g + kt : Nat) : Int) ≤ p) (hcD : j + D ≤ 30) (hg : a = false → 0 < E.2.2.2 → g = 0) (hq : UOk Q X g kt (j + 1) D a E O σ (isD D E a f (E.1.2.2.getD m []) s)) : R_body (Dd + 1) (m : Int) (j : Int) σ Q := by
  have hB := hi.bd hp
  have m40 := hE.1.2.2.1
  refine R_body.i (R_enters.r hS hB (by omega) (fun D' s1 eD e1 σ1 h1 f1 => ⟨fun _ => ?_, fun h9 => absurd h9 (by decide)⟩) (fun k hk k7 k8 => ⟨fun h9 => absurd rfl h9, fun _ => ?_⟩))
  · subst eD
    rw [isD_s] at hq
    have u1 : FrU g kt (j + 1) X.1 σ σ1 := f1.u0 (by decide)
    have hq1 := hq.bd e1 u1
    obtain ⟨-, x0, b2, b3, b4⟩ := hRE.2.1.2.2 m hm
    rw [Int.toNat_natCast, f1.z (by decide) (by decide), f1.z (by decide) (by decide), b2, b3]
    refine ⟨by omega, by omega, by omega, by omega, hW D' rfl Dd x0 (E.1.2.2.getD m []) a f (j : Int) X g kt (j + 1) O s1 σ1 _ p hDd (b4.u u1) (hE.1.2.2.2.2.2.at m).2 (hRE.u hE u1) (hF.u u1) hf h1 ((hi.sp (by decide) e1).mo (by omega) (by decide)) hp (by omega) hg ⟨fun s2 σ2 e2 h2 u2 => ?_, fun e σ2 he h2 h3 u2 => ?_⟩⟩
    · have h31 := h2.2.2.2.2.2.1
      show Rg (mV σ2 246 31 - 1) ∧ Q (.inl none) (wV (wV σ2 246 18 (mV σ1 246 18)) 246 31 (mV σ2 246 31 - 1))
      rw [h31, show mV σ1 246 18 = s1.1.2.2 from h1.1.2.2.2, show 30 - (D' : Int) - 1 = 30 - ((D' + 1 : Nat) : Int) by omega]
      refine ⟨by unfold Rg; omega, (hq1.bd e2 u2).1 _ _ rfl h2.lv (FrZ.u0 (K := [18, 31]) ((FrZ.wf (by decide)).tr (FrZ.wf (by decide))) (by decide))⟩
    · have h31 := h3.2.2.1
      show Rg (mV σ2 246 31 - 1) ∧ Q (.inl none) (wV (wV σ2 246 18 (mV σ1 246 18)) 246 31 (mV σ2 246 31 - 1))
      rw [h31, show 30 - (D' : Int) - 1 = 30 - ((D' + 1 : Nat) : Int) by omega]
      have f2 : FrZ [] [18, 31] σ2 (wV (wV σ2 246 18 (mV σ1 246 18)) 246 31 (30 - ((D' + 1 : Nat) : Int))) := (FrZ.wf (by decide)).tr (FrZ.wf (by decide))
      refine ⟨by unfold Rg; omega, hq1.no he (h2.z f2 (by decide) (by decide)) ⟨(f2.f (by decide) (by decide)).trans h3.1, (f2.f (by decide) (by decide)).trans h3.2.1, wV_self, (f2.f (by decide) (by decide)).trans h3.2.2.2.1, h3.2.2.2.2.z f2 (by decide) (by decide)⟩ (u2.tr (f2.u0 (by decide)))⟩
  · have e : isD D E a f (E.1.2.2.getD m []) s = tFl k s := by
      cases D with
      | zero => rw [isD_0, k7 rfl]
      | succ D' =>
        obtain ⟨k8a, k8b⟩ := k8 D' rfl
        rw [isD_s, k8b, k8a]
        rfl
    rw [e] at hq
    exact hS.fl hk hB hq
/-- the end of a call -/
theorem ca_390 {v : Int} {r : TR} (hv : Rg v) (hk : kt ≤ kt') (hj : j ≤ 30) (hq : UOkI Q X g kt j D a E O σ0 r v) (h : (∃ s', r = .inl s' ∧ RxS X g kt' (j + 1) D a E O σ s') ∨ (∃ e k9, r = .inr e ∧ FaR g kt σ e ∧ RxP σ k9 (j + 1) D a E)) (hu : FrU g kt j X.1 σ0 σ) : R_calls_390 (Dd + 1) v (kt : Int) σ Q := by
  generalize hσ2 : wV (wV σ 246 21 (kt : Int)) 246 22 (j : Int) = σ2
  have f2 : FrZ [] [21, 22] σ σ2 := by rw [← hσ2]; exact (FrZ.wf (by decide)).tr (FrZ.wf (by decide))
  have q2 : FrQ σ σ2 := by rw [← hσ2]; exact (FrA.w (Or.inl ⟨rfl, by decide⟩)).tr (FrA.w (Or.inl ⟨rfl, by decide⟩))
  have u2 : FrU g kt j X.1 σ0 σ2 := hu.tr (f2.u0 (by decide))
  have h22 : mV σ 246 22 = ((j + 1 : Nat) : Int) := by
    rcases h with ⟨s', -, h⟩ | ⟨e, k9, -, -, h⟩
    · exact h.2.2.2.2.1
    · exact h.2.1
  refine R_calls_390.i ⟨by rw [h22]; unfold Rg; omega, hv, ?_⟩
  rw [h22, show ((j + 1 : Nat) : Int) - 1 = (j : Int) by omega, hσ2]
  have v21 : mV σ2 246 21 = (kt : Int) := by rw [← hσ2, wV_ne (Or.inr (by decide)), wV_self]
  have v22 : mV σ2 246 22 = (j : Int) := by rw [← hσ2, wV_self]
  rcases h with ⟨s', e, h⟩ | ⟨e, k9, he, h1, h2⟩
  · exact hq.1 s' σ2 e ⟨h.1.z f2 (by decide) (by decide), h.2.1.z f2 (by decide) (by decide), h.2.2.1.v q2, v21, v22, (f2.f (by decide) (by decide)).trans h.2.2.2.2.2.1, (f2.f (by decide) (by decide)).trans h.2.2.2.2.2.2.1, h.2.2.2.2.2.2.2.z f2 (by decide) (by decide)⟩ u2
  · exact hq.2 e σ2 v he hv (h1.z f2 (by decide) (by decide)) ⟨v21, v22, (f2.f (by decide) (by decide)).trans h2.2.2.1, (f2.f (by decide) (by decide)).trans h2.2.2.2.1, h2.2.2.2.2.z f2 (by decide) (by decide)⟩ u2
/-- behind the arguments -/
theorem ca_349 {v m : Int} {sp : List (Nat × Nat)} (hE : EI E) (hW : ∀ D', D = D' + 1 → WkR E D' Dm) (hDd : Dm + 2 ≤ Dd) (hv : Rg v) (hkt : kt' = kt + suM w) (hmk : (m = -1 ∧ 0 ≤ k ∧ k < 21) ∨ (k = -1 ∧ 0 ≤ m ∧ m < E.1.1.length)) (hno : m = -1 → noM E a k = false) (hspb : ∀ q ∈ sp, q.1 ≤ q.2 ∧ q.2 ≤ T.length) (hsp9 : sp.length ≤ 9) (hspl : sp.length = if m = -1 then (anD.getD k.toNat 0).toNat else (E.1.2.1.getD m.toNat 0).toNat) (hwl : w.length = if m = -1 ∧ k = 15 then 2 else sp.length) (h59 : ∀ i, i < sp.length → mV σ 259 (10 * j + i) = ((x0 + (sp.getD i (0, 0)).1 : Nat) : Int) ∧ mV σ 260 (10 * j + i) = ((x0 + (sp.getD i (0, 0)).2 : Nat) : Int)) (hT : SgR σ x0 T) (hTb : smB T) (hRE : RxE σ E X.1) (hF : FmR σ kt j call f) (hf : okM9 f) (hw : okM9 w) (hA : ∀ i, i < w.length → ArG σ (10 * j + i) kt' (w.getD i [])) (hS : RxS X g kt' (j + 1) D a E O σ s) (hi : TI p 1 s) (hp : ((g + kt' : Nat) : Int) ≤ p) (hcD : j + D ≤ 30) (hg : a = false → 0 < E.2.2.2 → g = 0) (hu : FrU g kt j X.1 σ0 σ) (hq : UOkI Q X g kt j D a E O σ0 (caG (isD D E) E a f T m k sp w s) v) : R_calls_349 (Dd + 1) call k m (sp.length : Int) (j : Int) v (kt : Int) σ Q := by
  generalize hσ2 : wV σ 263 j (sp.length : Int) = σ2
  have u2 : FrU g kt j X.1 σ σ2 := by rw [← hσ2]; exact FrU.wz (by decide) (by show j ≤ j; exact Nat.le_refl _) (Or.inl rfl)
  have f2 : FrZ [263] [] σ σ2 := by rw [← hσ2]; exact FrZ.wz (by decide)
  have q2 : FrQ σ σ2 := by rw [← hσ2]; exact FrA.w (Or.inr (Or.inr (by decide)))
  have hS2 : RxS X g kt' (j + 1) D a E O σ2 s := ⟨hS.1.z f2 (by decide) (by decide), hS.2.1.z f2 (by decide) (by decide), hS.2.2.1.v q2, hS.2.2.2.z f2 (by decide) (by decide)⟩
  have hu2 := hu.tr u2
  have hA2 : ∀ i, i < w.length → ArG σ2 (10 * j + i) kt' (w.getD i []) := fun i hi9 => by
    obtain ⟨v1, a1, a2, a3, a4⟩ := hA i hi9
    exact ⟨v1, (f2.z (by decide) (by decide)).trans a1, (f2.z (by decide) (by decide)).trans a2, a3, a4.cg (fun k _ _ => ⟨f2.z (by decide) (by decide), f2.z (by decide) (by decide)⟩)⟩
  have nx : ∀ σ4 : MS, ((∃ s', caG (isD D E) E a f T m k sp w s = .inl s' ∧ RxS X g kt' (j + 1) D a E O σ4 s') ∨ (∃ e k9, caG (isD D E) E a f T m k sp w s = .inr e ∧ FaR g kt σ4 e ∧ RxP σ4 k9 (j + 1) D a E)) → FrU g kt j X.1 σ2 σ4 → R_calls_390 (Dd + 1) v (kt : Int) σ4 Q := fun σ4 h u4 => ca_390 (kt' := kt') hv (by omega) (by omega) hq h (hu2.tr u4)
  have okk : UOk (kV (thQ Q) fun σ4 => R_calls_390 (Dd + 1) v (kt : Int) σ4 Q) X g kt' (j + 1) D a E O σ2 (caG (isD D E) E a f T m k sp w s) := ⟨fun s' σ' e h u => nx σ' (Or.inl ⟨s', e, h⟩) (u.mo (Nat.le_refl _) (by omega) (by omega)), fun e σ' he h1 h2 u => nx σ' (Or.inr ⟨e, kt', he, h1.k (by omega), h2⟩) (u.mo (Nat.le_refl _) (by omega) (by omega))⟩
  obtain ⟨D1, rfl⟩ : ∃ D1, Dd = D1 + 2 := ⟨Dd - 2, by omega⟩
  refine R_calls_349.i ⟨by omega, by omega, ?_⟩
  rw [Int.toNat_natCast, hσ2]
  refine ⟨fun h9 => absurd hS.1.1 h9, fun _ => ⟨fun h8 => ?_, fun h8 => ?_⟩⟩
  · obtain ⟨rfl, k0, k21⟩ : m = -1 ∧ 0 ≤ k ∧ k < 21 := by omega
    by_cases h15 : k = 15
    · subst h15
      have e4 : sp.length = 4 := hspl
      have e2 : w.length = 2 := hwl
      have eq : caG (isD D E) E a f T (-1) 15 sp w s = if ms7 (w.getD 0 []) = ms7 (w.getD 1 []) then isD D E a f (sgT T (sp.getD 2 (0, 0)).1 (sp.getD 2 (0, 0)).2) s else isD D E a f (sgT T (sp.getD 3 (0, 0)).1 (sp.getD 3 (0, 0)).2) s := rfl
      rw [eq] at okk
      have hb := hi.bd hp
      have hb1 := hb.1
      have hb3 := hb.2.2
      have gr : ∀ t : Nat, t < 4 → UOk (kV (thQ Q) fun σ4 => R_calls_390 (D1 + 2 + 1) v (kt : Int) σ4 Q) X g kt' (j + 1) D a E O σ2 (isD D E a f (sgT T (sp.getD t (0, 0)).1 (sp.getD t (0, 0)).2) s) → R_gives_525 (D1 + 1 + 1) call ((10 * j + t : Nat) : Int) σ2 (kV (thQ Q) fun σ1 => R_calls_390 (D1 + 2 + 1) v (kt : Int) σ1 Q) := by
        intro t ht ho
        obtain ⟨b1, b2⟩ := hspb (sp.getD t (0, 0)) (by rw [List.getD_eq_getElem?_getD, List.getElem?_eq_getElem (by omega)]; exact List.getElem_mem (by omega))
        obtain ⟨c1, c2⟩ := h59 t (by omega)
        refine R_gives_525.i ⟨by omega, by omega, by omega, by omega, ?_⟩
        rw [Int.toNat_natCast, f2.z (by decide) (by decide), f2.z (by decide) (by decide), c1, c2]
        have l9 := sg_len b1 b2
        rw [show x0 + (sp.getD t (0, 0)).2 = x0 + (sp.getD t (0, 0)).1 + (sgT T (sp.getD t (0, 0)).1 (sp.getD t (0, 0)).2).length by omega]
        exact R_group.r (p := p) hE hW (by omega) ((hT.sg b1 b2).cg (fun k => f2.z (by decide) (by decide))) hTb.sg (hRE.u hE u2) ((hF.u u2).mo (by omega) (by omega)) hf hS2 (hi.mo (Int.le_refl _) (by decide)) hp (by omega) (by omega) hg ho
      refine R_gives.i ⟨by decide, fun d => absurd d (by decide), fun d => absurd d (by decide), fun d => absurd d (by decide), fun d => absurd d (by decide), fun d => absurd d (by decide), fun d => absurd d (by decide), fun d => absurd d (by decide), fun d => absurd d (by decide), fun d => absurd d (by decide), fun d => absurd d (by decide), fun d => absurd d (by decide), fun d => absurd d (by decide), fun d => absurd d (by decide), fun d => absurd d (by decide), fun d => absurd d (by decide), fun d => absurd d (by decide), fun _ => ?_, fun d => absurd d (by decide), fun d => absurd d (by decide), fun d => absurd d (by decide), trivial⟩
      rw [show 10 * (j : Int) + 1 = ((10 * j + 1 : Nat) : Int) by omega, show 10 * (j : Int) + 2 = ((10 * j + 2 : Nat) : Int) by omega, show 10 * (j : Int) + 3 = ((10 * j + 3 : Nat) : Int) by omega, show 10 * (j : Int) = ((10 * j + 0 : Nat) : Int) by omega]
      refine R_areAlike.r (by omega) (by omega) (hA2 0 (by omega)) (hA2 1 (by omega)) (by omega) (hw.at 0) (hw.at 1) ⟨fun d => ?_, fun d => ?_⟩
      · rw [if_neg (of_decide_eq_false (bZ_z d))] at okk
        exact gr 3 (by decide) okk
      · rw [if_pos (of_decide_eq_true (bZ_ne d))] at okk
        exact gr 2 (by decide) okk
    · have eq : caG (isD D E) E a f T (-1) k sp w s = gvD E k w s := by
        unfold caG
        rw [if_neg (by decide), if_neg h15]
      rw [eq] at okk
      rw [if_neg (fun h => h15 h.2), hspl, if_pos rfl] at hwl
      exact R_gives.r (p := p) ⟨k0, k21⟩ h15 hE (hRE.u hE u2) (by omega) hA2 hw hwl (hno rfl) hg hS2 hi hp okk
  · obtain ⟨rfl, m0, m9⟩ : k = -1 ∧ 0 ≤ m ∧ m < E.1.1.length := by omega
    have eq : caG (isD D E) E a f T m (-1) sp w s = isD D E a w (E.1.2.2.getD m.toNat []) s := by
      unfold caG
      rw [if_pos (by omega)]
    rw [eq] at okk
    rw [if_neg (by omega)] at hwl
    have em : m = ((m.toNat : Nat) : Int) := by omega
    rw [em]
    refine R_body.r (p := p) hE hW (by omega) (by omega) (hRE.u hE u2) (Or.inr ⟨j, rfl, by omega, by omega, ?_, hA2⟩) hw hS2 (hi.mo (Int.le_refl _) (by decide)) hp hcD hg okk
    rw [← hσ2, wV_self, hwl]
end
