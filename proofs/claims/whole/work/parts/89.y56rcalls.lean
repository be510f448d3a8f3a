/-! THE REFERENCE WORKS TEXTS: arguments are found and taken -/
def eaC (sub : Sub9) (E : TE) (a : Bool) (f : List (List Int)) (T : List Int) (m k : Int) (sp : List (Nat × Nat)) (W : List (List Int)) (r : List (Nat × Nat)) (s : TS) : TR := match eaD sub f T r s with
  | .inr e => .inr e
  | .inl w => caG sub E a f T m k sp (W ++ w.1) w.2
def faC (sub : Sub9) (E : TE) (a : Bool) (f : List (List Int)) (T : List Int) (m k : Int) (B : List (Nat × Nat)) (n q : Nat) (s : TS) : TR := match faD T n q with
  | .inr kd => tFl kd s
  | .inl w => eaC sub E a f T m k (B ++ w.1) [] (if m = -1 ∧ k = 15 then (B ++ w.1).take 2 else B ++ w.1) s
section
variable {σ σ0 σ1 σ2 σ3 : MS} {Q : MQ9} {g kt kt' u c D Dm Dd nw n0 l0 k0 x0 j i : Nat} {a : Bool} {E : TE} {O T : List Int} {X : RY9} {s s1 s2 : TS} {f w : List (List Int)} {call : Int} {A L P K : List Int} {x y p k m v : Int} {sp : List (Nat × Nat)}
theorem R_takes.dd {D1 : Nat} {b1 b2 b3 : Int} (h : Dd = D1 + 1) (hh : R_takes (D1 + 1) b1 b2 b3 σ Q) : R_takes Dd b1 b2 b3 σ Q := by
  rw [h]
  exact hh
theorem ca_f349 {e : Int × Int × Int} {r : TR} {n l9 : Int} (hj : j ≤ 30) (hl : Rg l9) (hq : UOkI Q X g kt j D a E O σ0 r v) (he : r = .inr e) (h1 : FaR g kt σ e) (h2 : ∃ k9, RxP σ k9 (j + 1) D a E) (hu : FrU g kt j X.1 σ0 σ) : R_calls_349 (Dd + 1) call k m n (j : Int) l9 (kt : Int) σ Q := by
  obtain ⟨k9, h2⟩ := h2
  have f2 : FrZ [263] [] σ (wV σ 263 j n) := FrZ.wz (by decide)
  have u2 : FrU g kt j X.1 σ (wV σ 263 j n) := FrU.wz (by decide) (by show j ≤ j; exact Nat.le_refl _) (Or.inl rfl)
  refine R_calls_349.i ⟨by omega, by omega, ?_⟩
  rw [Int.toNat_natCast]
  refine ⟨fun _ => ?_, fun h9 => absurd h9 (by rw [h1.1]; exact h1.2.1)⟩
  have hq' : UOkI Q X g kt j D a E O σ0 r l9 := ⟨fun s' σ' e' => by rw [he] at e'; exact absurd e' (by simp), hq.2⟩
  exact ca_390 (kt' := kt) hl (Nat.le_refl _) hj hq' (Or.inr ⟨e, k9, he, h1.z f2 (by decide) (by decide), h2.z f2 (by decide) (by decide)⟩) (hu.tr u2)
theorem ca_f307 {e : Int × Int × Int} {r : TR} {n l9 l11 : Int} (hj : j ≤ 30) (hl : Rg l9) (hn : Rg l11) (hq : UOkI Q X g kt j D a E O σ0 r v) (he : r = .inr e) (h1 : FaR g kt σ e) (h2 : ∃ k9, RxP σ k9 (j + 1) D a E) (hu : FrU g kt j X.1 σ0 σ) : R_calls_307 (Dd + 1) call k m n (j : Int) l9 (kt : Int) l11 σ Q := by
  have h9 := ca_f349 (Dd := Dd) (call := call) (k := k) (m := m) (n := n) hj hl hq he h1 h2 hu
  exact R_calls_307.i ⟨hn, fun _ => h9, fun _ => ⟨fun _ => h9, fun h8 => absurd h8 (by rw [h1.1]; exact h1.2.1)⟩⟩
theorem ca_307 (hE : EI E) (hW : ∀ D', D = D' + 1 → WkR E D' Dm) (hDd : Dm + 2 ≤ Dd) (hv : Rg v) (hmk : (m = -1 ∧ 0 ≤ k ∧ k < 21) ∨ (k = -1 ∧ 0 ≤ m ∧ m < E.1.1.length)) (hno : m = -1 → noM E a k = false) (hspb : ∀ q ∈ sp, q.1 ≤ q.2 ∧ q.2 ≤ T.length) (hsp9 : sp.length ≤ 9) (hspl : sp.length = if m = -1 then (anD.getD k.toNat 0).toNat else (E.1.2.1.getD m.toNat 0).toNat) (hTb : smB T) (hf : okM9 f) (hcD : j + D ≤ 30) (hg : a = false → 0 < E.2.2.2 → g = 0) : ∀ (r : List (Nat × Nat)) (W : List (List Int)) (s : TS) (σ : MS) (p : Int), (if m = -1 ∧ k = 15 then sp.take 2 else sp).drop W.length = r → W.length ≤ (if m = -1 ∧ k = 15 then sp.take 2 else sp).length → (∀ i, i < sp.length → mV σ 259 (10 * j + i) = ((x0 + (sp.getD i (0, 0)).1 : Nat) : Int) ∧ mV σ 260 (10 * j + i) = ((x0 + (sp.getD i (0, 0)).2 : Nat) : Int)) → SgR σ x0 T → RxE σ E X.1 → FmR σ kt j call f → okM9 W → (∀ i, i < W.length → ArG σ (10 * j + i) (kt + suM W) (W.getD i [])) → RxS X g (kt + suM W) (j + 1) D a E O σ s → TI p 1 s → ((g + (kt + suM W) : Nat) : Int) ≤ p → FrU g kt j X.1 σ0 σ → UOkI Q X g kt j D a E O σ0 (eaC (isD D E) E a f T m k sp W r s) v → R_calls_307 (Dd + 1) call k m (sp.length : Int) (j : Int) v (kt : Int) (W.length : Int) σ Q
  | [], W, s, σ, p, hr, hWl, h59, hT, hRE, hF, hok, hA, hS, hi, hp, hu, hq => by
    have hq' : UOkI Q X g kt j D a E O σ0 (caG (isD D E) E a f T m k sp W s) v := by
      have e0 : eaC (isD D E) E a f T m k sp W [] s = caG (isD D E) E a f T m k sp W s := by
        show caG (isD D E) E a f T m k sp (W ++ []) s = _
        rw [List.append_nil]
      rw [← e0]
      exact hq
    have hl9 : W.length = (if m = -1 ∧ k = 15 then sp.take 2 else sp).length := by
      have := congrArg List.length hr
      rw [List.length_drop, List.length_nil] at this
      omega
    have hwl : W.length = if m = -1 ∧ k = 15 then 2 else sp.length := by
      by_cases h9 : m = -1 ∧ k = 15
      · rw [if_pos h9] at hl9 ⊢
        rw [if_pos h9.1, h9.2] at hspl
        have e4 : sp.length = 4 := hspl
        rw [List.length_take] at hl9
        omega
      · rw [if_neg h9] at hl9 ⊢
        exact hl9
    have fin := ca_349 (Q := Q) (kt := kt) (Dd := Dd) hE hW hDd hv rfl hmk hno hspb hsp9 hspl hwl h59 hT hTb hRE hF hf hok hA hS hi hp hcD hg hu hq'
    by_cases h9 : m = -1 ∧ k = 15
    · rw [if_pos h9] at hwl
      rw [if_pos h9.1, h9.2] at hspl
      have e4 : sp.length = 4 := hspl
      rw [hwl]
      have n4 : R_calls_307 (Dd + 1) call k m (sp.length : Int) (j : Int) v (kt : Int) 4 σ Q := R_calls_307.i ⟨by decide, fun _ => fin, fun h8 => absurd h8 (by omega)⟩
      have n3 : R_calls_307 (Dd + 1) call k m (sp.length : Int) (j : Int) v (kt : Int) 3 σ Q := R_calls_307.i ⟨by decide, fun h8 => absurd h8 (by omega), fun _ => ⟨fun h8 => absurd hS.1.1 h8, fun _ => ⟨fun h8 => absurd h9.2 h8, fun _ => ⟨by decide, fun _ => R_calls_343.i n4, fun h8 => absurd h8 (by decide)⟩⟩⟩⟩
      exact R_calls_307.i ⟨by decide, fun h8 => absurd h8 (by omega), fun _ => ⟨fun h8 => absurd hS.1.1 h8, fun _ => ⟨fun h8 => absurd h9.2 h8, fun _ => ⟨by decide, fun _ => R_calls_343.i n3, fun h8 => absurd h8 (by decide)⟩⟩⟩⟩
    · rw [if_neg h9] at hwl
      exact R_calls_307.i ⟨by unfold Rg; omega, fun _ => fin, fun h8 => absurd h8 (by omega)⟩
  | q :: r, W, s, σ, p, hr, hWl, h59, hT, hRE, hF, hok, hA, hS, hi, hp, hu, hq => by
    have hlt : W.length < (if m = -1 ∧ k = 15 then sp.take 2 else sp).length := by
      have := congrArg List.length hr
      rw [List.length_drop, List.length_cons] at this
      omega
    have hl1 : W.length < sp.length ∧ (m = -1 ∧ k = 15 → W.length < 2) := by
      by_cases h9 : m = -1 ∧ k = 15
      · rw [if_pos h9, List.length_take] at hlt
        exact ⟨by omega, fun _ => by omega⟩
      · rw [if_neg h9] at hlt
        exact ⟨hlt, fun h8 => absurd h8 h9⟩
    have eq9 : sp.getD W.length (0, 0) = q := by
      have h0 : (if m = -1 ∧ k = 15 then sp.take 2 else sp)[W.length]? = some q := by
        rw [← List.head?_drop, hr]
        rfl
      have h1 : sp[W.length]? = some q := by
        by_cases h9 : m = -1 ∧ k = 15
        · rw [if_pos h9, List.getElem?_take_of_lt (hl1.2 h9)] at h0
          exact h0
        · rw [if_neg h9] at h0
          exact h0
      rw [List.getD_eq_getElem?_getD, h1]
      rfl
    obtain ⟨b1, b2⟩ := hspb q (by
      rw [← eq9, List.getD_eq_getElem?_getD, List.getElem?_eq_getElem hl1.1]
      exact List.getElem_mem hl1.1)
    obtain ⟨c1, c2⟩ := h59 W.length hl1.1
    rw [eq9] at c1 c2
    have l9 := sg_len b1 b2
    have hr2 : (if m = -1 ∧ k = 15 then sp.take 2 else sp).drop (W.length + 1) = r := by
      rw [← List.drop_drop, hr]
      rfl
    obtain ⟨D1, hD1⟩ : ∃ D1, Dd = D1 + 1 := ⟨Dd - 1, by omega⟩
    have tk : R_calls_334 (Dd + 1) call k m (sp.length : Int) (j : Int) v (kt : Int) (W.length : Int) σ Q := by
      refine R_calls_334.i (R_takes.dd hD1 (R_takes.r (kt := kt + suM W) (p := p) (x0 := x0 + q.1) (T := sgT T q.1 q.2) hE hW (by omega) (by omega) (by omega) c1 (by rw [c2]; congr 1; omega) (hT.sg b1 b2) hTb.sg hRE (hF.mo (by omega) (Nat.le_refl _)) hf hS (hi.mo (Int.le_refl _) (by decide)) hp hcD (fun s1 σ1 e1 h1 h2 x1 => ?_) (fun e σ1 he h1 h2 x1 => ?_)))
      · have ok1 := is_ti hE D true f (sgT T q.1 q.2) (sOu s []) s1 (p + s.2.1.length) 1 (by omega) (by decide) ((hi.ou okK.nil).mo (by rw [List.length_nil]; omega) (by decide)) hf hTb.sg e1
        have hi1 : TI (p + s1.2.1.length) 1 (sOu s1 s.2.1) := (ok1.1.ou hi.1.2.2.2).mo (by omega) (by decide)
        have u1 : FrU g kt j X.1 σ σ1 := (x1.fu).mo (Nat.le_refl _) (by omega) (Nat.le_refl _)
        have sW : suM (W ++ [s1.2.1]) = suM W + s1.2.1.length := suM_sn
        have lW : (W ++ [s1.2.1]).length = W.length + 1 := by rw [List.length_append, List.length_singleton]
        refine R_calls_343.i ?_
        rw [show (W.length : Int) + 1 = ((W ++ [s1.2.1]).length : Int) by rw [lW]; omega]
        refine ca_307 hE hW hDd hv hmk hno hspb hsp9 hspl hTb hf hcD hg r (W ++ [s1.2.1]) (sOu s1 s.2.1) σ1 (p + s1.2.1.length) (by rw [lW]; exact hr2) (by rw [lW]; exact hlt) (fun i hi9 => ?_) (hT.u u1) (hRE.u hE u1) (hF.u u1) (fun z hz => ?_) (fun i hi9 => ?_) (by rw [sW, ← Nat.add_assoc]; exact h1) hi1 (by rw [sW]; omega) (hu.tr u1) ?_
        · obtain ⟨d1, d2⟩ := h59 i hi9
          exact ⟨(x1.at (by decide) (by omega) (by omega)).trans d1, (x1.at (by decide) (by omega) (by omega)).trans d2⟩
        · rcases List.mem_append.mp hz with hz | hz
          · exact hok z hz
          · rw [List.mem_singleton.mp hz]
            exact ok1.1.1.2.2.2
        · rw [sW, ← Nat.add_assoc]
          rw [lW] at hi9
          by_cases e9 : i = W.length
          · subst e9
            have eg : (W ++ [s1.2.1]).getD W.length [] = s1.2.1 := getD_at
            rw [eg]
            exact h2
          · have eg : (W ++ [s1.2.1]).getD i [] = W.getD i [] := by
              rw [List.getD_eq_getElem?_getD, List.getD_eq_getElem?_getD, List.getElem?_append_left (by omega)]
            rw [eg]
            exact ((hA i (by omega)).tx x1 (by omega) (by omega)).up (by omega)
        · unfold eaC at hq ⊢
          unfold eaD at hq
          rw [e1] at hq
          show UOkI Q X g kt j D a E O σ0 (match eaD (isD D E) f T r (sOu s1 s.2.1) with
            | .inr e => .inr e
            | .inl w => caG (isD D E) E a f T m k sp (W ++ [s1.2.1] ++ w.1) w.2) v
          revert hq
          show UOkI Q X g kt j D a E O σ0 (match (match eaD (isD D E) f T r (sOu s1 s.2.1) with
            | .inr e => (.inr e : (List (List Int) × TS) ⊕ (Int × Int × Int))
            | .inl w => .inl (s1.2.1 :: w.1, w.2)) with
            | .inr e => .inr e
            | .inl w => caG (isD D E) E a f T m k sp (W ++ w.1) w.2) v → _
          cases eaD (isD D E) f T r (sOu s1 s.2.1) with
          | inr e => exact id
          | inl w =>
            intro hq
            have e9 : W ++ [s1.2.1] ++ w.1 = W ++ (s1.2.1 :: w.1) := by
              rw [List.append_assoc]
              rfl
            show UOkI Q X g kt j D a E O σ0 (caG (isD D E) E a f T m k sp (W ++ [s1.2.1] ++ w.1) w.2) v
            rw [e9]
            exact hq
      · have u1 : FrU g kt j X.1 σ σ1 := (x1.fu).mo (Nat.le_refl _) (by omega) (Nat.le_refl _)
        refine R_calls_343.i (ca_f307 (by omega) hv (by unfold Rg; omega) hq (e := e) ?_ (h1.k (by omega)) h2 (hu.tr u1))
        unfold eaC eaD
        rw [he]
    refine R_calls_307.i ⟨by unfold Rg; omega, fun h8 => absurd h8 (by omega), fun _ => ⟨fun h8 => absurd hS.1.1 h8, fun _ => ⟨fun _ => tk, fun h8 => ⟨by unfold Rg; omega, fun h7 => ?_, fun _ => tk⟩⟩⟩⟩
    have := hl1.2 ⟨by omega, h8⟩
    omega
theorem RxS.cc (h : RxS X g kt c D a E O σ s) : RxS X g kt (j + 1) D a E O (wV σ 246 22 ((j + 1 : Nat) : Int)) s := by
  obtain ⟨h1, h2, h3, h4⟩ := h
  have q : FrZ [] [22] σ (wV σ 246 22 ((j + 1 : Nat) : Int)) := FrZ.wf (by decide)
  exact ⟨h1.z q (by decide) (by decide), h2.z q (by decide) (by decide), h3.v (FrA.w (Or.inl ⟨rfl, by decide⟩)), (q.f (by decide) (by decide)).trans h4.1, wV_self, (q.f (by decide) (by decide)).trans h4.2.2.1, (q.f (by decide) (by decide)).trans h4.2.2.2.1, h4.2.2.2.2.z q (by decide) (by decide)⟩
theorem RxS.z (h : RxS X g kt c D a E O σ s) (q : FrZ [259, 260] [] σ σ1) : RxS X g kt c D a E O σ1 s := by
  obtain ⟨h1, h2, h3, h4⟩ := h
  refine ⟨h1.z q (by decide) (by decide), h2.z q (by decide) (by decide), h3.v ⟨q.1, q.2.1, fun z k n => q.2.2 z k (fun hz => n (Or.inr (Or.inr ?_))) (Or.inr (by simp))⟩, h4.z q (by decide) (by decide)⟩
  revert hz
  simp only [List.mem_cons, List.not_mem_nil, or_false]
  omega
theorem ca_f254 {n l9 : Int} {kd : Int} {r : TR} (hkd : kd ≠ 0) (hj : j ≤ 30) (hi9 : i < 9) (hl : Rg (l9 + 1)) (hS : RxS X g kt (j + 1) D a E O σ s) (hB : BdR g kt s) (hu : FrU g kt j X.1 σ0 σ) (hq : UOkI Q X g kt j D a E O σ0 r v) (he : r = tFl kd s) {l2 : Int} : R_calls_254 (Dd + 1) l2 call k m n (j : Int) l9 (i : Int) (-1) (wV σ 246 28 kd) Q := by
  have eji : (10 * (j : Int) + (i : Int)).toNat = 10 * j + i := by omega
  refine R_calls_254.i ⟨by omega, by omega, hl, by omega, by omega, ?_⟩
  rw [eji]
  generalize hσ2 : wV (wV (wV σ 246 28 kd) 259 (10 * j + i) (l9 + 1)) 260 (10 * j + i) (-1) = σ2
  have f2 : FrZ [259, 260] [] (wV σ 246 28 kd) σ2 := by rw [← hσ2]; exact (FrZ.wz (by decide)).tr (FrZ.wz (by decide))
  have u2 : FrU g kt j X.1 σ σ2 := by
    rw [← hσ2]
    exact (FrA.tr (FrU.wf (by decide)) (FrU.wz (by decide) (by show 10 * j ≤ 10 * j + i; omega) (Or.inl rfl))).tr (FrU.wz (by decide) (by show 10 * j ≤ 10 * j + i; omega) (Or.inl rfl))
  have hF := (FaR.fl hkd hS.1 hS.2.1 hB).z f2 (by decide) (by decide)
  have hP := (hS.2.2.2.p (FrP.w (g := g) (x := kd) (k := 28) (by decide))).z f2 (by decide) (by decide)
  have h98 : R_calls_298 (Dd + 1) call k m n (j : Int) (-1 + 1) σ2 Q := by
    refine R_calls_298.i ?_
    rw [hP.1]
    exact ca_f307 hj (by decide) (by decide) hq he hF ⟨kt, hP⟩ (hu.tr u2)
  exact R_calls_175.i ⟨by unfold Rg; omega, fun _ => h98, fun _ => ⟨fun _ => h98, fun h8 => absurd h8 (by rw [hF.1]; exact hF.2.1)⟩⟩
theorem ca_175 {ar : Nat} (hE : EI E) (hW : ∀ D', D = D' + 1 → WkR E D' Dm) (hDd : Dm + 2 ≤ Dd) (hmk : (m = -1 ∧ 0 ≤ k ∧ k < 21) ∨ (k = -1 ∧ 0 ≤ m ∧ m < E.1.1.length)) (hno : m = -1 → noM E a k = false) (har : ar ≤ 9) (hari : ar = if m = -1 then (anD.getD k.toNat 0).toNat else (E.1.2.1.getD m.toNat 0).toNat) (hTb : smB T) (hf : okM9 f) (hcD : j + D ≤ 30) (hg : a = false → 0 < E.2.2.2 → g = 0) (hi : TI p 1 s) (hp : ((g + kt : Nat) : Int) ≤ p) (hv : ∀ w, faD T ar i = .inl w → v = ((x0 + w.2 : Nat) : Int)) (hq : UOkI Q X g kt j D a E O σ0 (faC (isD D E) E a f T m k [] ar i s) v) : ∀ (n q : Nat) (B : List (Nat × Nat)) (σ : MS), B.length + n = ar → q ≤ T.length → (∀ z ∈ B, z.1 ≤ z.2 ∧ z.2 ≤ T.length) → faC (isD D E) E a f T m k B n q s = faC (isD D E) E a f T m k [] ar i s → (∀ w, faD T n q = .inl w → faD T ar i = .inl (B ++ w.1, w.2)) → (∀ i, i < B.length → mV σ 259 (10 * j + i) = ((x0 + (B.getD i (0, 0)).1 : Nat) : Int) ∧ mV σ 260 (10 * j + i) = ((x0 + (B.getD i (0, 0)).2 : Nat) : Int)) → SgR σ x0 T → RxE σ E X.1 → FmR σ kt j call f → RxS X g kt (j + 1) D a E O σ s → FrU g kt j X.1 σ0 σ → R_calls_175 (Dd + 1) ((x0 + T.length : Nat) : Int) call k m (ar : Int) (j : Int) ((x0 + q : Nat) : Int) (B.length : Int) σ Q := by
  have hB := hi.bd hp
  intro n
  induction n with
  | zero =>
    intro q B σ hn hqT hBb eC eF h59 hT hRE hF hS hu
    have l0 := hT.1
    have eF' := eF ([], q) rfl
    rw [List.append_nil] at eF'
    have ev := hv _ eF'
    refine R_calls_175.i ⟨by unfold Rg; omega, fun _ => R_calls_298.i ?_, fun h9 => absurd h9 (by omega)⟩
    rw [hS.2.2.2.1, show (ar : Int) = (B.length : Int) by omega, ← ev]
    have e0 : faC (isD D E) E a f T m k B 0 q s = eaC (isD D E) E a f T m k B [] (if m = -1 ∧ k = 15 then B.take 2 else B) s := by
      unfold faC faD
      show eaC (isD D E) E a f T m k (B ++ []) [] (if m = -1 ∧ k = 15 then (B ++ []).take 2 else B ++ []) s = _
      rw [List.append_nil]
    rw [← eC, e0] at hq
    exact ca_307 (W := []) hE hW hDd (by rw [ev]; show Rg ((x0 + q : Nat) : Int); unfold Rg; omega) hmk hno hBb (by omega) (by omega) hTb hf hcD hg _ s σ p rfl (Nat.zero_le _) h59 hT hRE hF (fun z hz => absurd hz List.not_mem_nil) (fun i hi9 => absurd hi9 (Nat.not_lt_zero _)) hS hi hp hu hq
  | succ n ih =>
    intro q B σ hn hqT hBb eC eF h59 hT hRE hF hS hu
    have l0 := hT.1
    have no4 : (T.length ≤ q ∨ ¬ T.getD q 0 = 123) → R_calls_236 (Dd + 1) ((x0 + T.length : Nat) : Int) call k m (ar : Int) (j : Int) ((x0 + q : Nat) : Int) (B.length : Int) (-1) σ Q := fun h9 => by
      have e4 : faC (isD D E) E a f T m k B (n + 1) q s = tFl 4 s := by
        unfold faC faD
        rw [if_pos h9]
      refine R_calls_236.i (R_fail.r (by decide) hS.1 ?_)
      exact ca_f254 (by decide) (by omega) (by omega) (by unfold Rg; omega) hS hB hu hq (by rw [← eC, e4])
    refine R_calls_175.i ⟨by unfold Rg; omega, fun h9 => absurd h9 (by omega), fun _ => ⟨fun h9 => absurd hS.1.1 h9, fun _ => ⟨by unfold Rg; omega, by unfold Rg; omega, fun h9 => ?_, fun h9 => ?_⟩⟩⟩
    · exact R_calls_216.i (R_calls_217.i ⟨by unfold Rg; omega, by unfold Rg; omega, fun _ => no4 (Or.inl (by omega)), fun h8 => absurd h8 (by omega)⟩)
    · have hlt : q < T.length := by omega
      refine R_signAt.r hT hlt rfl ⟨fun h8 => ?_, fun h8 => ?_⟩
      · exact R_calls_216.i (R_calls_217.i ⟨by unfold Rg; omega, by unfold Rg; omega, fun h7 => absurd h7 (by omega), fun _ => R_signAt.r hT hlt rfl ⟨fun h7 => absurd h7 h8, fun _ => no4 (Or.inr h8)⟩⟩)
      · refine R_closes.r hT hqT rfl (R_calls_217.i ⟨by unfold Rg; omega, by unfold Rg; omega, fun h7 => absurd h7 (by omega), fun _ => R_signAt.r hT hlt rfl ⟨fun _ => ⟨fun h6 => ?_, fun h6 => ?_⟩, fun h7 => absurd h8 h7⟩⟩)
        · have hc : ¬ clD T q = -1 := fun h5 => by
            rw [if_pos h5] at h6
            exact absurd h6 (by decide)
          obtain ⟨b1, b2, b3⟩ := clD_b hc hqT h8 hlt
          rw [if_neg hc] at h6 ⊢
          generalize hcl : (clD T q).toNat = cl at *
          rw [b3]
          have eji : (10 * (j : Int) + (B.length : Int)).toNat = 10 * j + B.length := by omega
          refine R_calls_254.i ⟨by omega, by omega, by unfold Rg; omega, by omega, by omega, ?_⟩
          rw [eji, show (x0 : Int) + (cl : Int) + 1 = ((x0 + (cl + 1) : Nat) : Int) by omega, show ((x0 + q : Nat) : Int) + 1 = ((x0 + (q + 1) : Nat) : Int) by omega, show (x0 : Int) + (cl : Int) = ((x0 + cl : Nat) : Int) by omega]
          generalize hσ2 : wV (wV σ 259 (10 * j + B.length) ((x0 + (q + 1) : Nat) : Int)) 260 (10 * j + B.length) ((x0 + cl : Nat) : Int) = σ2
          have f2 : FrZ [259, 260] [] σ σ2 := by rw [← hσ2]; exact (FrZ.wz (by decide)).tr (FrZ.wz (by decide))
          have u2 : FrU g kt j X.1 σ σ2 := by
            rw [← hσ2]
            exact (FrU.wz (by decide) (by show 10 * j ≤ 10 * j + B.length; omega) (Or.inl rfl)).tr (FrU.wz (by decide) (by show 10 * j ≤ 10 * j + B.length; omega) (Or.inl rfl))
          have lB : (B ++ [(q + 1, cl)]).length = B.length + 1 := by rw [List.length_append, List.length_singleton]
          have efa : faD T (n + 1) q = match faD T n (cl + 1) with
              | .inl w => .inl ((q + 1, cl) :: w.1, w.2)
              | .inr k => .inr k := by
            conv => lhs; unfold faD
            rw [if_neg (by omega), if_neg hc, hcl]
            cases faD T n (cl + 1) <;> rfl
          rw [show (B.length : Int) + 1 = ((B ++ [(q + 1, cl)]).length : Int) by rw [lB]; omega]
          refine ih (cl + 1) (B ++ [(q + 1, cl)]) σ2 (by rw [lB]; omega) (by omega) (fun z hz => ?_) ?_ (fun w hw => ?_) (fun i hi9 => ?_) (hT.u u2) (hRE.u hE u2) (hF.u u2) (hS.z f2) (hu.tr u2)
          · rcases List.mem_append.mp hz with hz | hz
            · exact hBb z hz
            · rw [List.mem_singleton.mp hz]
              exact ⟨b1, by omega⟩
          · rw [← eC]
            unfold faC
            rw [efa]
            cases faD T n (cl + 1) with
            | inr k => rfl
            | inl w =>
              show eaC (isD D E) E a f T m k (B ++ [(q + 1, cl)] ++ w.1) [] (if m = -1 ∧ k = 15 then (B ++ [(q + 1, cl)] ++ w.1).take 2 else B ++ [(q + 1, cl)] ++ w.1) s = eaC (isD D E) E a f T m k (B ++ (q + 1, cl) :: w.1) [] (if m = -1 ∧ k = 15 then (B ++ (q + 1, cl) :: w.1).take 2 else B ++ (q + 1, cl) :: w.1) s
              rw [List.append_assoc]
              rfl
          · have := eF ((q + 1, cl) :: w.1, w.2) (by rw [efa, hw])
            rw [List.append_assoc]
            exact this
          · rw [lB] at hi9
            by_cases e9 : i = B.length
            · subst e9
              have eg : (B ++ [(q + 1, cl)]).getD B.length (0, 0) = (q + 1, cl) := by
                rw [List.getD_eq_getElem?_getD, List.getElem?_append_right (Nat.le_refl _), Nat.sub_self]
                rfl
              rw [eg, ← hσ2]
              exact ⟨by rw [wV_ne (Or.inl (by decide)), wV_self], wV_self⟩
            · have eg : (B ++ [(q + 1, cl)]).getD i (0, 0) = B.getD i (0, 0) := by
                rw [List.getD_eq_getElem?_getD, List.getD_eq_getElem?_getD, List.getElem?_append_left (by omega)]
              obtain ⟨d1, d2⟩ := h59 i (by omega)
              rw [eg, ← hσ2]
              exact ⟨by rw [wV_ne (Or.inl (by decide)), wV_ne (Or.inr (by omega))]; exact d1, by rw [wV_ne (Or.inr (by omega)), wV_ne (Or.inl (by decide))]; exact d2⟩
        · have hc : clD T q = -1 := by
            by_cases h5 : clD T q = -1
            · exact h5
            · obtain ⟨b1, b2, b3⟩ := clD_b h5 hqT h8 hlt
              rw [if_neg h5] at h6
              omega
          rw [if_pos hc]
          have e2 : faC (isD D E) E a f T m k B (n + 1) q s = tFl 2 s := by
            unfold faC faD
            rw [if_neg (by omega), if_pos hc]
          refine R_fail.r (by decide) hS.1 ?_
          exact ca_f254 (by decide) (by omega) (by omega) (by unfold Rg; omega) hS hB hu hq (by rw [← eC, e2])
end
