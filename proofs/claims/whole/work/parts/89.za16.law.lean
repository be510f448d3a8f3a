/-! FROM THE LAYER OF WHOLE NUMBERS TO THE LAW -/
theorem replace_c {σ : MS} {Q : MQ9} {x : Int} {th th' : String → MS → Prop} (hx : 0 ≤ x ∧ x ≤ 7) (h : MemR σ) (hq : ∀ r σ', MemR σ' → FrM σ σ' → mV σ' 246 0 = 0 → Q (.inl (some r)) σ') : T_replace x σ (kI th fun r σ1 => R_replace x σ1 (kI th' fun r' σ2 => r' = r ∧ Q (.inl (some r)) σ2)) := by
  have hh := h
  obtain ⟨⟨p1, p2, p3, p4⟩, ⟨m1, m2, m3, m4⟩, ⟨t, c, hP⟩, e1, e2, e3⟩ := h
  obtain ⟨b1, b2, b3⟩ := rpA_b (w := x) m4 p4 ⟨e2, e3⟩
  have ht := hP.1
  obtain ⟨-, hc, q6, q5, q8, -⟩ := id hP
  refine T_replace.i ⟨by unfold Rg; omega, fun h9 => absurd h9 (by omega), fun _ => ⟨by unfold Rg; omega, fun _ => ?_, fun h9 => absurd h9 (by omega)⟩⟩
  refine T_putInPlace.s hx m3 p3 m4 p4 ⟨e2, e3⟩ (fun σa x7 v22 w2 ea e7 => ⟨fun hr => ?_, fun hr => ?_⟩)
  · show R_replace x (wX σa 1 []) _
    have vv : ∀ z k, z ≠ 22 ∨ k ≠ 1 → mV (wX σa 1 []) z k = mV σ z k := v22
    refine R_replace.s (M := mX σ 3) (T := mX σ 1) (ev := mV σ 22 1) hx (by rw [vv _ _ (Or.inl (by decide))]; exact p1) (by rw [vv _ _ (Or.inl (by decide))]; exact m1) (fun i hi => by rw [vv _ _ (Or.inl (by decide))]; exact m2 i hi) (fun i hi => by rw [vv _ _ (Or.inl (by decide))]; exact p2 i hi) m3 p3 m4 p4 (by rw [vv _ _ (Or.inl (by decide))]; exact e1.symm) ⟨e2, e3⟩ (fun σ2 hR => ⟨fun _ => ⟨rfl, hq _ _ ?_ ?_ ?_⟩, fun h9 => absurd h9 (by omega)⟩)
    · have gV : ∀ {z k : Nat}, z ≠ 249 → (z ≠ 22 ∧ z ≠ 246) ∨ (z = 246 ∧ k ≠ 0 ∧ k ≠ 6 ∧ k ≠ 33) → mV σ2 z k = mV σ z k := by
        intro z k h1 h2
        rw [hR.2.2.1 z k h1 (by omega), wV_ne (by omega), wV_ne (by omega)]
        exact v22 z k (by omega)
      have gX : ∀ q, mX σ2 q = mX (wX σa 1 []) q := fun q => by rw [hR.1]; rfl
      have gX2 : ∀ q, q ≠ 1 → q ≠ 7 → mX σ2 q = mX σ q := fun q h1 h7 => by rw [gX, wX_ne h1]; exact x7 q h7
      refine MemR.no (σ := σ) (e := (rpA (mX σ 3) (mX σ 1) x (mV σ 22 1)).2.1) hh (by rw [gX]; exact wX_self) (gX2 3 (by decide) (by decide)) (fun j hj => gX2 _ (by omega) (by omega)) (fun k => gV (by decide) (Or.inl (by decide))) (fun k => gV (by decide) (Or.inl (by decide))) (fun k => gV (by decide) (Or.inl (by decide))) (gV (by decide) (by omega)) (gV (by decide) (by omega)) ?_ (gV (by decide) (Or.inl (by decide))) (gV (by decide) (Or.inl (by decide))) ?_ hR.2.2.2.1 b3
      · rw [hR.2.2.1 246 6 (by decide) (Or.inr (by decide))]; exact wV_self
      · rw [hR.2.2.1 22 1 (by decide) (Or.inl (by decide))]; exact ea
    · refine FrM.tr (σ1 := wX σa 1 []) ?_ ((FrM.r (by decide)).tr ((FrM.r (by decide)).tr (FrM.Rp hR)))
      refine FrM.tr (σ1 := σa) ⟨fun q h1 => x7 q (fun e => h1 (by rw [e]; decide)), fun z k _ _ h3 _ => v22 z k (by omega), w2, by rw [ea]; exact rpA_g⟩ (FrM.X (by decide))
    · rw [hR.2.2.1 246 0 (by decide) (Or.inr (by decide)), wV_ne (Or.inr (by decide))]
      exact wV_self
  · have hb6 : mV (wX σa 1 []) 0 6 = (t : Int) := by rw [← q6]; exact v22 0 6 (Or.inl (by decide))
    have hb5 : mV (wX σa 1 []) 0 5 = (c : Int) := by rw [← q5]; exact v22 0 5 (Or.inl (by decide))
    have hx3 : mX (wX σa 1 []) 3 = mX σ 3 := by rw [wX_ne (by decide)]; exact x7 3 (by decide)
    refine T_remember.s ht hb6 (by rw [hb5]; omega) (by rw [hx3]; omega) ?_
    rw [hb5]
    show (mX (tre (wX σa 1 []) t c) 7).length ≤ 4096 ∧ R_replace x (wX (tre (wX σa 1 []) t c) 3 (mX (tre (wX σa 1 []) t c) 7)) _
    have t7 : mX (tre (wX σa 1 []) t c) 7 = (rpA (mX σ 3) (mX σ 1) x (mV σ 22 1)).2.2 := by
      rw [tre_X (by omega), wX_ne (by decide)]
      exact e7 hr
    rw [t7]
    obtain ⟨o1, o2⟩ := b1 hr
    refine ⟨by omega, ?_⟩
    generalize ec : wX (tre (wX σa 1 []) t c) 3 (rpA (mX σ 3) (mX σ 1) x (mV σ 22 1)).2.2 = σc
    have vc : ∀ z k, z ≠ 0 → z ≠ 22 ∨ k ≠ 1 → mV σc z k = mV σ z k := fun z k h0 h1 => by
      rw [← ec]
      show mV (tre (wX σa 1 []) t c) z k = _
      rw [tre_V h0]
      exact v22 z k h1
    have c0 : ∀ k, mV σc 0 k = mV (tre (wX σa 1 []) t c) 0 k := fun k => by rw [← ec]; rfl
    have cX : ∀ q, q ≠ 3 → mX σc q = mX (tre (wX σa 1 []) t c) q := fun q h => by rw [← ec]; exact wX_ne h
    have c3 : mX σc 3 = (rpA (mX σ 3) (mX σ 1) x (mV σ 22 1)).2.2 := by rw [← ec]; exact wX_self
    have cr : ∀ j, j < 6 → mX σc (10 + 2 * j) = mX (tre σ t c) (10 + 2 * j) := fun j hj => by
      rw [cX _ (by omega)]
      by_cases e : j = t
      · subst e
        have a1 : mX (tre (wX σa 1 []) j c) (10 + 2 * j) = mX (wX σa 1 []) 3 := wX_self
        have a2 : mX (tre σ j c) (10 + 2 * j) = mX σ 3 := wX_self
        rw [a1, a2, hx3]
      · rw [tre_X (by omega), tre_X (by omega), wX_ne (by omega)]
        exact x7 _ (by omega)
    have d0 : ∀ k, (k = 5 ∨ k = 6) → mV σc 0 k = mV (tre σ t c) 0 k := fun k hk => by
      rw [c0]
      rcases hk with rfl | rfl
      · have a1 : mV (tre (wX σa 1 []) t c) 0 5 = min 6 ((c : Int) + 1) := wV_self
        have a2 : mV (tre σ t c) 0 5 = min 6 ((c : Int) + 1) := wV_self
        rw [a1, a2]
      · have a1 : mV (tre (wX σa 1 []) t c) 0 6 = (((t + 1) % 6 : Nat) : Int) := by unfold tre; rw [wV_ne (Or.inr (by decide)), wV_self]
        have a2 : mV (tre σ t c) 0 6 = (((t + 1) % 6 : Nat) : Int) := by unfold tre; rw [wV_ne (Or.inr (by decide)), wV_self]
        rw [a1, a2]
    have fc : FrM σ σc := by
      rw [← ec]
      refine FrM.tr (σ1 := wX σa 1 []) ?_ ((FrM.tre ht).tr (FrM.X (by decide)))
      exact FrM.tr (σ1 := σa) ⟨fun q h1 => x7 q (fun e => h1 (by rw [e]; decide)), fun z k _ _ h3 _ => v22 z k (by omega), w2, by rw [ea]; exact rpA_g⟩ (FrM.X (by decide))
    refine R_replace.s (M := mX σ 3) (T := mX σ 1) (ev := mV σ 22 1) hx (by rw [vc _ _ (by decide) (Or.inl (by decide))]; exact p1) (by rw [vc _ _ (by decide) (Or.inl (by decide))]; exact m1) (fun i hi => by rw [vc _ _ (by decide) (Or.inl (by decide))]; exact m2 i hi) (fun i hi => by rw [vc _ _ (by decide) (Or.inl (by decide))]; exact p2 i hi) m3 p3 m4 p4 (by rw [vc _ _ (by decide) (Or.inl (by decide))]; exact e1.symm) ⟨e2, e3⟩ (fun σ2 hR => ⟨fun h9 => absurd h9 (by omega), fun _ => ?_⟩)
    have sV : ∀ {z k : Nat}, z ≠ 249 → z ≠ 0 → z ≠ 22 → (z ≠ 246 ∨ (k ≠ 0 ∧ k ≠ 6 ∧ k ≠ 33)) → mV σ2 z k = mV σ z k := by
      intro z k h1 h0 h22 h2
      rw [hR.2.2.1 z k h1 (by omega), wV_ne (by omega), wV_ne (by omega)]
      exact vc z k h0 (Or.inl h22)
    have s0 : ∀ {k : Nat}, mV σ2 0 k = mV σc 0 k := by
      intro k
      rw [hR.2.2.1 0 k (by decide) (Or.inl (by decide)), wV_ne (Or.inl (by decide)), wV_ne (Or.inl (by decide))]
    have sX : ∀ q, mX σ2 q = mX σc q := fun q => by rw [hR.1]; rfl
    have s8 : 0 ≤ mV σ2 246 8 ∧ mV σ2 246 8 ≤ 6 := by rw [sV (by decide) (by decide) (by decide) (by omega), q8]; omega
    refine R_remembers.s (M := mX σ 3) s8 (by rw [sV (by decide) (by decide) (by decide) (by omega)]; exact m1) (fun i hi => by rw [sV (by decide) (by decide) (by decide) (Or.inl (by decide))]; exact m2 i hi) m3 m4 ?_
    refine R_replace_404.s (σ := rre σ2 (mX σ 3)) (by omega) o1 b2 (fun i hi => ?_) ⟨rfl, hq _ _ ?_ ?_ ?_⟩
    · rw [rre_V (by decide) (by decide) (Or.inl (by decide))]
      exact hR.2.2.2.2 i hi (by omega)
    · generalize rpA (mX σ 3) (mX σ 1) x (mV σ 22 1) = A at *
      have gV : ∀ {z k : Nat}, z ≠ 248 → (z ≠ 246 ∨ k ≠ 7) → mV (wV (wF (rre σ2 (mX σ 3)) 248 0 A.2.2) 246 7 (A.2.2.length : Int)) z k = mV (rre σ2 (mX σ 3)) z k := fun h1 h2 => by rw [wV_ne h2, wF_ne (Or.inl h1)]
      have gX : ∀ q, mX (wV (wF (rre σ2 (mX σ 3)) 248 0 A.2.2) 246 7 (A.2.2.length : Int)) q = mX σc q := fun q => by
        show mX (rre σ2 (mX σ 3)) q = _
        rw [rre_X, sX]
      refine MemR.new (σ := σ) (σ1 := σ2) (L := A.2.2) (e := A.2.1) hh hP ?_ ?_ (fun j hj => by rw [gX]; exact cr j hj) (fun j hj => by rw [sX]; exact cr j hj) (fun k => sV (by decide) (by decide) (by decide) (Or.inl (by decide))) (fun k => sV (by decide) (by decide) (by decide) (Or.inl (by decide))) (sV (by decide) (by decide) (by decide) (by omega)) (by rw [s0]; exact d0 6 (Or.inr rfl)) (by rw [s0]; exact d0 5 (Or.inl rfl)) (fun k => gV (by decide) (Or.inl (by decide))) (fun k => gV (by decide) (Or.inl (by decide))) (gV (by decide) (by omega)) (gV (by decide) (Or.inl (by decide))) (gV (by decide) (Or.inl (by decide))) ?_ wV_self (hol.V hol.F (by decide)) o1 b2 ?_ ?_ b3
      · rw [gX, cX 1 (by decide), tre_X (by omega)]; exact wX_self
      · rw [gX]; exact c3
      · rw [gV (by decide) (by omega), rre_V (by decide) (by decide) (Or.inr (by decide)), hR.2.2.1 246 6 (by decide) (Or.inr (by decide))]
        exact wV_self
      · rw [gV (by decide) (Or.inl (by decide)), rre_V (by decide) (by decide) (Or.inl (by decide)), hR.2.2.1 22 1 (by decide) (Or.inl (by decide)), wV_ne (Or.inl (by decide)), wV_ne (Or.inl (by decide)), ← ec]
        show mV (tre (wX σa 1 []) t c) 22 1 = _
        rw [tre_V (by decide)]
        exact ea
      · rw [gV (by decide) (by omega), rre_V (by decide) (by decide) (Or.inr (by decide))]
        exact hR.2.2.2.1
    · exact fc.tr ((FrM.r (by decide)).tr ((FrM.r (by decide)).tr ((FrM.Rp hR).tr (FrM.rr9.tr ((FrM.F (by decide)).tr (FrM.r (by decide)))))))
    · rw [wV_ne (Or.inr (by decide)), wF_ne (Or.inl (by decide)), rre_V (by decide) (by decide) (Or.inr (by decide)), hR.2.2.1 246 0 (by decide) (Or.inr (by decide)), wV_ne (Or.inr (by decide))]
      exact wV_self
theorem pages_t {σ : MS} (h : PrR σ) : (∃ v : Int, (∀ Q : MQ9, Q (.inl (some v)) σ → T_pages σ Q) ∧ (∀ Q : MQ9, Q (.inl (some v)) (wV σ 246 0 0) → R_pages σ Q)) ∨ ((∀ Q : MQ9, Q (.inr (exN 0)) σ → T_pages σ Q) ∧ (∀ Q : MQ9, Q (.inl (some 0)) (wV σ 246 0 1) → R_pages σ Q)) := by
  rcases h with ⟨h0, h1⟩ | ⟨h0, h1, P, L, O, h⟩
  · exact Or.inr ⟨fun Q hq => T_pages.i (none_T h0 _ hq), fun Q hq => R_pages.i ⟨fun _ => R_pages_13.i ⟨fun _ => hq, fun h9 => absurd h1 h9⟩, fun h9 => absurd h1 h9⟩⟩
  · refine Or.inl ⟨(P.length : Int), fun Q hq => T_pages.i (T_needProof.i ⟨fun _ => ?_, fun h9 => absurd h9 (by rw [h0]; decide)⟩), fun Q hq => R_pages.i ⟨fun h9 => absurd h9 (by rw [h1]; decide), fun _ => R_pages_13.i ⟨fun h9 => absurd h9 (by rw [h1]; decide), fun _ => ?_⟩⟩⟩
    · have hl : (mX σ 220).length = P.length := by rw [h.1.1, List.length_map]
      show Q (.inl (some ((mX σ 220).length : Int))) σ
      rw [hl]
      exact hq
    · rw [h.2.1.1]
      exact hq
/-- what a call comes to, with what it costs -/
def KQ (N : Nat) (scr : Nat → Int32) (c : Nat → Nat) : KK := fun s k n => ∃ (o1 : Nat → Int64) (c2 : Nat → Nat) (σ2 : MS), s = cv (o1, N, scr) c2 σ2 ∧ Inv9 σ2 ∧ WF σ2 ∧ CK c2 ∧ 16 * k + Ph c ≤ Ph c2 + 16 ∧ n + 2 * Ph c ≤ 2 * Ph c2 + 6
section
variable {D D' a μ ν : Nat} {lo lo' : MLo} {ax : List Value} {σ : MS} {ρ : MR9} {c : Nat → Nat} {E E2 : String}
theorem nil_ok : okSt [] := fun v hv => absurd hv List.not_mem_nil
theorem pair9 (h : WP D a μ 0 lo [] σ (kI (fun _ _ => False) fun v σ1 => WP D' 0 ν 0 lo' [] σ1 (kI (fun _ _ => False) fun v' σ2 => v' = v ∧ Inv9 σ2))) (ha : a ≤ 1) (hD : D ≤ 999) (hD' : D' ≤ 999) (w : WF σ) (ck : CK c) (ok : okLo lo) (ok' : okLo lo') (e : lv_args 0 (.ref 0 :: ax) = cvL lo) (e' : lv_args 0 (.ref 246 :: ax) = cvL lo') : Pair μ ν ax (cv ρ c σ) (KQ ρ.2.1 ρ.2.2 c) := by
  obtain ⟨o, σ1, hq, w1, ok1, hE⟩ := h w ok nil_ok
  match o, hq, ok1, hE with
  | .inl none, hq, _, _ => exact hq.elim
  | .inr E, hq, _, _ => exact hq.elim
  | .inl (some v), hq, ok1, hE =>
    obtain ⟨o2, σ2, hq2, w2, ok2, hE2⟩ := hq w1 ok' nil_ok
    match o2, hq2, ok2, hE2 with
    | .inl none, hq2, _, _ => exact hq2.elim
    | .inr E, hq2, _, _ => exact hq2.elim
    | .inl (some v'), hq2, ok2, hE2 =>
      obtain ⟨rfl, hI⟩ := hq2
      unfold Pair
      rw [e]
      refine (hE 999 ρ c hD ck).mono (fun o1 s k n hh => ?_)
      obtain ⟨c1, rfl, rfl, ck1, k1, n1⟩ := hh
      refine ⟨_, rfl, rfl, rfl, ?_⟩
      rw [e']
      refine (hE2 999 ρ c1 hD' ck1).mono (fun o3 s3 k3 n3 h3 => ?_)
      obtain ⟨c2, rfl, rfl, ck2, k2, n2⟩ := h3
      have k1 : 16 * k + Ph c ≤ Ph c1 + 16 * a := k1
      have n1 : n + 2 * Ph c ≤ 2 * Ph c1 + 6 * a := n1
      have k2 : 16 * k3 + Ph c1 ≤ Ph c2 + 16 * 0 := k2
      have n2 : n3 + 2 * Ph c1 ≤ 2 * Ph c2 + 6 * 0 := n2
      exact ⟨rfl, ρ.1, c2, σ2, rfl, hI, w2, ck2, by omega, by omega⟩
/-- what the class and then the reference come to, where the class may throw -/
def ThP (D' ν : Nat) (lo' : MLo) (E E2 : String) : MQ9 := fun o σ1 => (∃ v, o = .inl (some v) ∧ WP D' 0 ν 0 lo' [] σ1 (fun o2 σ2 => o2 = .inl (some v) ∧ mV σ2 246 0 = 0 ∧ Inv9 σ2)) ∨ (o = .inr E ∧ WP D' 0 ν 0 lo' [] σ1 (fun o2 σ2 => (∃ b, o2 = .inl (some b)) ∧ mV σ2 246 0 = 1 ∧ Inv9 σ2)) ∨ (o = .inr E2 ∧ WP D' 0 ν 0 lo' [] σ1 (fun o2 σ2 => (∃ b, o2 = .inl (some b)) ∧ mV σ2 246 0 = 2 ∧ Inv9 σ2))
theorem thr_v {v : Int} {c1 : Nat → Nat} {σ1 : MS} (h : WP D' 0 ν 0 lo' [] σ1 (fun o2 σ2 => o2 = .inl (some v) ∧ mV σ2 246 0 = 0 ∧ Inv9 σ2)) (hD' : D' ≤ 999) (w : WF σ1) (ck : CK c1) (ok' : okLo lo') (e' : lv_args 0 (.ref 246 :: ax) = cvL lo') {k n : Nat} (hk : 16 * k + Ph c ≤ Ph c1 + 16) (hn : n + 2 * Ph c ≤ 2 * Ph c1 + 6) : Ev 999 ν 0 (lv_args 0 (.ref 246 :: ax)) [] (outp (cv ρ c1 σ1) (iI v)) (fun o2 σ2 k2 s2 => o2 = .inl (some (iI v)) ∧ sI σ2 246 0 = 0 ∧ sO σ2 0 = (iI v).toInt64 ∧ KQ ρ.2.1 ρ.2.2 c σ2 (k + k2) (n + s2)) := by
  obtain ⟨o2, σ2, ⟨rfl, h0, hI⟩, w2, ok2, hE2⟩ := h w ok' nil_ok
  rw [e']
  refine (hE2 999 (vp_updL ρ.1 0 (iI v).toInt64, ρ.2) c1 hD' ck).mono (fun o3 s3 k3 n3 h3 => ?_)
  obtain ⟨c2, rfl, rfl, ck2, k2, n2⟩ := h3
  have k2 : 16 * k3 + Ph c1 ≤ Ph c2 + 16 * 0 := k2
  have n2 : n3 + 2 * Ph c1 ≤ 2 * Ph c2 + 6 * 0 := n2
  refine ⟨rfl, ?_, ?_, _, c2, σ2, rfl, hI, w2, ck2, by omega, by omega⟩
  · show iI (mV σ2 246 0) = 0
    rw [h0]
    rfl
  · show vp_updL ρ.1 0 (iI v).toInt64 0 = _
    exact if_pos rfl
theorem thr_t {t : Int} {t' : Int32} (ht : iI t = t') {c1 : Nat → Nat} {σ1 : MS} (h : WP D' 0 ν 0 lo' [] σ1 (fun o2 σ2 => (∃ b, o2 = .inl (some b)) ∧ mV σ2 246 0 = t ∧ Inv9 σ2)) (hD' : D' ≤ 999) (w : WF σ1) (ck : CK c1) (ok' : okLo lo') (e' : lv_args 0 (.ref 246 :: ax) = cvL lo') {k n : Nat} (hk : 16 * k + Ph c ≤ Ph c1 + 16) (hn : n + 2 * Ph c ≤ 2 * Ph c1 + 6) : Ev 999 ν 0 (lv_args 0 (.ref 246 :: ax)) [] (cv ρ c1 σ1) (fun o2 σ2 k2 s2 => (∃ b, o2 = .inl (some b)) ∧ sI σ2 246 0 = t' ∧ KQ ρ.2.1 ρ.2.2 c σ2 (k + k2) (n + s2)) := by
  obtain ⟨o2, σ2, ⟨⟨b, rfl⟩, h0, hI⟩, w2, ok2, hE2⟩ := h w ok' nil_ok
  rw [e']
  refine (hE2 999 ρ c1 hD' ck).mono (fun o3 s3 k3 n3 h3 => ?_)
  obtain ⟨c2, rfl, rfl, ck2, k2, n2⟩ := h3
  have k2 : 16 * k3 + Ph c1 ≤ Ph c2 + 16 * 0 := k2
  have n2 : n3 + 2 * Ph c1 ≤ 2 * Ph c2 + 6 * 0 := n2
  refine ⟨⟨_, rfl⟩, ?_, _, c2, σ2, rfl, hI, w2, ck2, by omega, by omega⟩
  show iI (mV σ2 246 0) = t'
  rw [h0]
  exact ht
theorem pairU9 (h : WP D 0 μ 0 lo [] σ (ThP D' ν lo' E E2)) (hD : D ≤ 998) (hD' : D' ≤ 999) (w : WF σ) (ck : CK c) (ok : okLo lo) (ok' : okLo lo') (e : lv_args 0 (.ref 0 :: ax) = cvL lo) (e' : lv_args 0 (.ref 246 :: ax) = cvL lo') : PairU μ ν E E2 ax (cv ρ c σ) (KQ ρ.2.1 ρ.2.2 c) := by
  obtain ⟨o, σ1, hq, w1, ok1, hE⟩ := h w ok nil_ok
  unfold PairU
  rw [e]
  refine (hE 998 ρ c hD ck).mono (fun o1 s k n hh => ?_)
  obtain ⟨c1, rfl, rfl, ck1, k1, n1⟩ := hh
  refine ⟨rfl, rfl, ?_⟩
  rcases hq with ⟨v, rfl, hq⟩ | ⟨rfl, hq⟩ | ⟨rfl, hq⟩
  · have k1 : 16 * k + Ph c ≤ Ph c1 + 16 * 0 := k1
    have n1 : n + 2 * Ph c ≤ 2 * Ph c1 + 6 * 0 := n1
    exact Or.inl ⟨_, rfl, thr_v hq hD' w1 ck1 ok' e' (by omega) (by omega)⟩
  · have k1 : 16 * k + Ph c ≤ Ph c1 + 16 * (0 + 1) := k1
    have n1 : n + 2 * Ph c ≤ 2 * Ph c1 + 6 * (0 + 1) := n1
    exact Or.inr (Or.inl ⟨rfl, thr_t (t := 1) rfl hq hD' w1 ck1 ok' e' (by omega) (by omega)⟩)
  · have k1 : 16 * k + Ph c ≤ Ph c1 + 16 * (0 + 1) := k1
    have n1 : n + 2 * Ph c ≤ 2 * Ph c1 + 6 * (0 + 1) := n1
    exact Or.inr (Or.inr ⟨rfl, thr_t (t := 2) rfl hq hD' w1 ck1 ok' e' (by omega) (by omega)⟩)
theorem pairT9 (h : WP D 0 μ 0 lo [] σ (fun o σ1 => (∃ v, o = .inl (some v) ∧ WP D' 0 ν 0 lo' [] σ1 (fun o2 σ2 => o2 = .inl (some v) ∧ mV σ2 246 0 = 0 ∧ Inv9 σ2)) ∨ (o = .inr E ∧ WP D' 0 ν 0 lo' [] σ1 (fun o2 σ2 => (∃ b, o2 = .inl (some b)) ∧ mV σ2 246 0 = 1 ∧ Inv9 σ2)))) (hD : D ≤ 998) (hD' : D' ≤ 999) (w : WF σ) (ck : CK c) (ok : okLo lo) (ok' : okLo lo') (e : lv_args 0 (.ref 0 :: ax) = cvL lo) (e' : lv_args 0 (.ref 246 :: ax) = cvL lo') : PairT μ ν E ax (cv ρ c σ) (KQ ρ.2.1 ρ.2.2 c) := by
  obtain ⟨o, σ1, hq, w1, ok1, hE⟩ := h w ok nil_ok
  unfold PairT
  rw [e]
  refine (hE 998 ρ c hD ck).mono (fun o1 s k n hh => ?_)
  obtain ⟨c1, rfl, rfl, ck1, k1, n1⟩ := hh
  refine ⟨rfl, rfl, ?_⟩
  rcases hq with ⟨v, rfl, hq⟩ | ⟨rfl, hq⟩
  · have k1 : 16 * k + Ph c ≤ Ph c1 + 16 * 0 := k1
    have n1 : n + 2 * Ph c ≤ 2 * Ph c1 + 6 * 0 := n1
    exact Or.inl ⟨_, rfl, thr_v hq hD' w1 ck1 ok' e' (by omega) (by omega)⟩
  · have k1 : 16 * k + Ph c ≤ Ph c1 + 16 * (0 + 1) := k1
    have n1 : n + 2 * Ph c ≤ 2 * Ph c1 + 6 * (0 + 1) := n1
    exact Or.inr ⟨rfl, thr_t (t := 1) rfl hq hD' w1 ck1 ok' e' (by omega) (by omega)⟩
end
/-- places and values of arguments -/
theorem lo_1 : okLo [(0, vr 0)] := ⟨by decide, fun q hq => by rw [List.mem_singleton.mp hq]; trivial⟩
theorem lo_r : okLo [(0, vr 246)] := ⟨by decide, fun q hq => by rw [List.mem_singleton.mp hq]; trivial⟩
theorem lo_a {z : Nat} {x : Int} : okLo [(0, vr z), (1, vi x)] := ⟨show ([0, 1] : List Nat).Nodup by decide, fun q hq => by
  simp only [List.mem_cons, List.not_mem_nil, or_false] at hq
  rcases hq with rfl | rfl <;> trivial⟩
theorem lo_b {z : Nat} {x y : Int} : okLo [(0, vr z), (1, vi x), (2, vi y)] := ⟨show ([0, 1, 2] : List Nat).Nodup by decide, fun q hq => by
  simp only [List.mem_cons, List.not_mem_nil, or_false] at hq
  rcases hq with rfl | rfl | rfl <;> trivial⟩
theorem lo_c {z : Nat} {x y u : Int} : okLo [(0, vr z), (1, vi x), (2, vi y), (3, vi u)] := ⟨show ([0, 1, 2, 3] : List Nat).Nodup by decide, fun q hq => by
  simp only [List.mem_cons, List.not_mem_nil, or_false] at hq
  rcases hq with rfl | rfl | rfl | rfl <;> trivial⟩
theorem lo_l {z : Nat} {x y u : Int} : okLo [(0, vr z), (1, vl x), (3, vl y), (5, vl u)] := ⟨show ([0, 1, 3, 5] : List Nat).Nodup by decide, fun q hq => by
  simp only [List.mem_cons, List.not_mem_nil, or_false] at hq
  rcases hq with rfl | rfl | rfl | rfl <;> trivial⟩
theorem ar_a {z : Nat} {x : Int32} : lv_args 0 (.ref z :: [.int x]) = cvL [(0, vr z), (1, vi x.toInt)] := by
  show [(0, Value.ref z), (1, .int x)] = [(0, .ref z), (1, .int (iI x.toInt))]
  rw [iI_to]
theorem ar_b {z : Nat} {x y : Int32} : lv_args 0 (.ref z :: [.int x, .int y]) = cvL [(0, vr z), (1, vi x.toInt), (2, vi y.toInt)] := by
  show [(0, Value.ref z), (1, .int x), (2, .int y)] = [(0, .ref z), (1, .int (iI x.toInt)), (2, .int (iI y.toInt))]
  rw [iI_to, iI_to]
theorem ar_c {z : Nat} {x y u : Int32} : lv_args 0 (.ref z :: [.int x, .int y, .int u]) = cvL [(0, vr z), (1, vi x.toInt), (2, vi y.toInt), (3, vi u.toInt)] := by
  show [(0, Value.ref z), (1, .int x), (2, .int y), (3, .int u)] = [(0, .ref z), (1, .int (iI x.toInt)), (2, .int (iI y.toInt)), (3, .int (iI u.toInt))]
  rw [iI_to, iI_to, iI_to]
theorem ar_l {z : Nat} {x y u : Int64} : lv_args 0 (.ref z :: [.long x, .long y, .long u]) = cvL [(0, vr z), (1, vl x.toInt), (3, vl y.toInt), (5, vl u.toInt)] := by
  show [(0, Value.ref z), (1, .long x), (3, .long y), (5, .long u)] = [(0, .ref z), (1, .long (iJ x.toInt)), (3, .long (iJ y.toInt)), (5, .long (iJ u.toInt))]
  rw [show ∀ v : Int64, iJ v.toInt = v from Int64.ofInt_toInt, show ∀ v : Int64, iJ v.toInt = v from Int64.ofInt_toInt, show ∀ v : Int64, iJ v.toInt = v from Int64.ofInt_toInt]
