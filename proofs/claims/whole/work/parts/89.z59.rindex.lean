/-! INDEX: the reference -/
theorem HyR.k9 {S9 K9 : List Nat} {σ σ1 : MS} {P X : List (List Int)} {l r : Int} (h : HyR σ P X l r) (f : FrZ S9 K9 σ σ1) (hs : ∀ z ∈ [246, 269, 270, 271, 272, 273, 274, 275], z ∉ S9) (hk : ∀ k ∈ [47, 48], k ∉ K9) : HyR σ1 P X l r := by
  obtain ⟨⟨a1, a2⟩, ⟨b1, b2⟩, c1, c2⟩ := h
  have n6 : 246 ∉ S9 := hs 246 (by decide)
  refine ⟨⟨(f.f (hk _ (by decide)) n6).trans a1, fun p hp => ?_⟩, ⟨(f.f (hk _ (by decide)) n6).trans b1, fun x hx => ?_⟩, (f.z (hs _ (by decide)) (by decide)).trans c1, (f.z (hs _ (by decide)) (by decide)).trans c2⟩
  · obtain ⟨d1, d2, d3⟩ := a2 p hp
    exact ⟨(f.z (hs _ (by decide)) (by decide)).trans d1, d2.cg (fun k _ _ => f.z (hs _ (by decide)) (by decide)), fun k hk => (f.z (hs _ (by decide)) (by decide)).trans (d3 k hk)⟩
  · obtain ⟨d1, d2, d3⟩ := b2 x hx
    refine ⟨(f.z (hs _ (by decide)) (by decide)).trans d1, d2.cg (fun k _ _ => f.z (hs _ (by decide)) (by decide)), fun k hk => ?_⟩
    rw [f.z (z := 273) (hs _ (by decide)) (by decide)]
    exact d3 k hk
theorem enT_c {K : List (List Int)} {P : List Int} {f s : Int} {key : Nat} (hP : ∀ i j, i ≤ j → j < K.length → P.getD i 0 ≤ P.getD j 0) (hk : key < K.length) : 0 < (pkL (enT K P f s key)).length := by
  have ps := pgC_s (K := K) (P := P) (key := key) (n := K.length) hP K.length (Nat.le_refl _)
  have hm : P.getD key 0 ∈ pgC K P key K.length := by
    refine (ps.2.1 _).mpr ?_
    have : ∀ m, key < m → hpB K P key (P.getD key 0) m = true := by
      intro m
      induction m with
      | zero => intro h; exact absurd h (Nat.not_lt_zero _)
      | succ m ih =>
        intro h
        show (hpB K P key (P.getD key 0) m || (decide (P.getD m 0 = P.getD key 0) && decide (cpK (kyA K m) (kyA K key) = 0))) = true
        by_cases e : key = m
        · subst e
          rw [decide_eq_true rfl, decide_eq_true (cpK_0.mpr rfl), Bool.and_self, Bool.or_true]
        · rw [ih (by omega)]
          rfl
    exact this _ hk
  have h44 : (44 : Int) ∈ enT K P f s key := by
    unfold enT
    refine List.mem_append_right _ ?_
    cases hL : pgC K P key K.length with
    | nil =>
      rw [hL] at hm
      exact absurd hm List.not_mem_nil
    | cons p r =>
      show 44 ∈ enE f s (r.length + 1) (p :: r)
      rw [enE_c]
      split
      · simp
      · simp
  obtain ⟨i, hi, e⟩ := List.getElem_of_mem h44
  have e2 : (enT K P f s key).getD i 0 = 44 := by
    unfold List.getD
    rw [List.getElem?_eq_getElem hi]
    exact e
  have := (gP_at (L := enT K P f s key) hi (by rw [e2]; decide)).2
  omega
def RgS (σ : MS) (A : List Int) : Prop := mV σ 246 16 = (A.length : Int) ∧ hoG σ 254 255 0 A
section
variable {σ σ0 : MS} {Q : MQ9} {n' : Nat} {K : List (List Int)} {P S : List Int} {f s o : Int} {H : HY9}
theorem R_plain.p {c : Int} {A : List Int} (hc : 0 ≤ c ∧ c ≤ 127) (h : RgS σ A) (hl : A.length ≤ 100000) (hq : ∀ σ', FrZ [254, 255] [16] σ σ' → RgS σ' (A ++ [c]) → Q (.inl none) σ') : R_plain c σ Q := by
  refine R_plain.i ?_
  rw [h.1, Int.toNat_natCast, b8_id (x := c) (by omega), b8_id (x := c) (by omega), b8_id (x := 0) (by decide)]
  refine ⟨by omega, by omega, by omega, by omega, by unfold Rg; omega, hq _ (((FrZ.wz (by decide)).tr (FrZ.wz (by decide))).tr (FrZ.wf (by decide))) ⟨?_, ?_⟩⟩
  · rw [wV_self, List.length_append]
    show _ = ((A.length + 1 : Nat) : Int)
    omega
  · have := hoG.sn (σ := σ) (zg := 254) (zy := 255) (a := 0) (L := A) (c := c) (x := c) (y := 0) (by decide) h.2 (by unfold cgB; rw [if_neg (by omega)]; omega) (by unfold cyB; omega)
    rw [Nat.zero_add] at this
    exact this.cg (fun k _ _ => ⟨wV_ne (Or.inl (by decide)), wV_ne (Or.inl (by decide))⟩)
theorem RgS.z {S9 K9 : List Nat} {σ1 : MS} {A : List Int} (h : RgS σ A) (g : FrZ S9 K9 σ σ1) (hs : ∀ z ∈ [246, 254, 255], z ∉ S9) (hk : 16 ∉ K9) : RgS σ1 A := ⟨(g.f hk (hs _ (by decide))).trans h.1, h.2.cg (fun k _ _ => ⟨g.z (hs _ (by decide)) (by decide), g.z (hs _ (by decide)) (by decide)⟩)⟩
theorem R_plainLabel.p {p : Int} {A : List Int} (h52 : mV σ 246 52 = f) (h53 : mV σ 246 53 = s) (hf : 0 ≤ f ∧ f ≤ 999) (hs : 1 ≤ s ∧ s ≤ 5) (hp : 0 ≤ p ∧ p ≤ 200) (h : RgS σ A) (hl : A.length ≤ 99000) (hq : ∀ σ', FrZ [254, 255, 337] [16, 143] σ σ' → RgS σ' (A ++ wrN (f + p) s) → Q (.inl none) σ') : R_plainLabel p σ Q := by
  refine R_plainLabel.i ?_
  rw [h52, h53]
  refine ⟨by unfold Rg; omega, R_writes.s (by omega) hs (fun _ => by omega) (fun σ1 s1 => ?_)⟩
  obtain ⟨f1, l1, o1⟩ := s1
  have l20 := wrN_len (n := f + p) (sys := s)
  have ls := wrN_s (n := f + p) (sys := s)
  generalize wrN (f + p) s = lab at l1 o1 l20 ls hq
  have f01 : FrZ [254, 255, 337] [16, 143] σ σ1 := f1.mo (by decide) (by decide)
  have h1 := h.z f1 (by decide) (by decide)
  have loop : ∀ (n k : Nat) (σ2 : MS), k + n = lab.length → FrZ [254, 255] [16] σ1 σ2 → RgS σ2 (A ++ lab.take k) → R_plainLabel_17 (k : Int) σ2 Q := by
    intro n
    induction n with
    | zero =>
      intro k σ2 hk f2 h2
      refine R_plainLabel_17.i ?_
      rw [f2.f (k := 143) (by decide) (by decide), l1]
      refine ⟨by unfold Rg; omega, fun _ => hq σ2 (f01.tr (f2.mo (by decide) (by decide))) ?_, fun h => absurd h (by omega)⟩
      rw [List.take_of_length_le (by omega)] at h2
      exact h2
    | succ n ih =>
      intro k σ2 hk f2 h2
      refine R_plainLabel_17.i ?_
      rw [f2.f (k := 143) (by decide) (by decide), l1, Int.toNat_natCast, f2.z (z := 337) (by decide) (by decide), o1 k (by omega)]
      refine ⟨by unfold Rg; omega, fun h => absurd h (by omega), fun _ => ⟨by omega, by omega, R_plain.p (ls _ (gd_mem (by omega))) h2 (by rw [List.length_append, List.length_take]; omega) (fun σ3 f3 h3 => ?_)⟩⟩
      show R_plainLabel_17 ((k : Int) + 1) σ3 Q
      rw [show (k : Int) + 1 = ((k + 1 : Nat) : Int) by omega]
      refine ih (k + 1) σ3 (by omega) (f2.tr f3) ?_
      have e : lab.take (k + 1) = lab.take k ++ [lab.getD k 0] := by
        rw [List.take_add_one]
        unfold List.getD
        rw [List.getElem?_eq_getElem (by omega)]
        rfl
      rw [e, ← List.append_assoc]
      exact h3
  show R_plainLabel_17 0 σ1 Q
  exact loop lab.length 0 σ1 (by omega) FrZ.rf (by rw [List.take_zero, List.append_nil]; exact h1)
/-- what the index reads, the reference -/
def IxR (σ : MS) (n' : Nat) (H : HY9) (S : List Int) (K : List (List Int)) (P : List Int) (f s o : Int) : Prop := KyR σ n' K ∧ (∀ i, i < K.length → mV σ 296 (100 * n' + i) = P.getD i 0) ∧ (0 < K.length → mV σ 246 52 = f ∧ mV σ 246 53 = s) ∧ HyR σ H.2.1 H.2.2.1 H.2.2.2.1 H.2.2.2.2 ∧ (∀ k, k < 13 → mV σ 275 k = S.getD k 0) ∧ mV σ 246 29 = o
theorem IxR.z {S9 K9 : List Nat} {σ1 : MS} (h : IxR σ n' H S K P f s o) (g : FrZ S9 K9 σ σ1) (hs : ∀ z ∈ [246, 269, 270, 271, 272, 273, 274, 275, 293, 294, 295, 296, 298], z ∉ S9) (hk : ∀ k ∈ [29, 47, 48, 52, 53], k ∉ K9) : IxR σ1 n' H S K P f s o := by
  obtain ⟨h1, h2, h3, h4, h5, h6⟩ := h
  have n6 : 246 ∉ S9 := hs 246 (by decide)
  exact ⟨h1.z g (fun z hz => hs z (by simp only [List.mem_cons, List.not_mem_nil, or_false] at hz ⊢; omega)), fun i hi => (g.z (hs _ (by decide)) (by decide)).trans (h2 i hi), fun h0 => ⟨(g.f (hk _ (by decide)) n6).trans (h3 h0).1, (g.f (hk _ (by decide)) n6).trans (h3 h0).2⟩, h4.k9 g (fun z hz => hs z (by simp only [List.mem_cons, List.not_mem_nil, or_false] at hz ⊢; omega)) (fun k hk' => hk k (by simp only [List.mem_cons, List.not_mem_nil, or_false] at hk' ⊢; omega)), fun k hk' => (g.z (hs _ (by decide)) (by decide)).trans (h5 k hk'), (g.f (hk _ (by decide)) n6).trans h6⟩
/-- the pages of a key are told -/
theorem rgi_81 {key : Nat} {l2 : Int} {T : List Int} {N : Nat} (hn : n' ≤ 1) (hB : IxB K P) (hk : key < K.length) (hf : 0 ≤ f ∧ f ≤ 999) (hs : 1 ≤ s ∧ s ≤ 5) (hI : IxR σ0 n' H S K P f s o) (hT : T.length ≤ 80000) (hN : N ≤ 100) (hq : ∀ σ', FrZ [254, 255, 337] [16, 143] σ0 σ' → RgS σ' T → R_register_81 (n' : Int) l2 ((100 * n' + key : Nat) : Int) 100 σ' Q) : ∀ (n fr : Nat) (M A : List Int) (σ : MS), 100 ≤ fr + n → fr ≤ 100 → FrZ [254, 255, 337] [16, 143] σ0 σ → RgS σ A → M.Pairwise (· < ·) → (∀ x ∈ M, (fr : Int) ≤ x ∧ x ≤ 99) → (∀ p : Int, (fr : Int) ≤ p → (hpB K P key p K.length = true ↔ p ∈ M)) → M.length ≤ N → A ++ enE f s N M = T → R_register_81 (n' : Int) l2 ((100 * n' + key : Nat) : Int) (fr : Int) σ Q := by
  have hB0 := hB
  obtain ⟨b1, b2, b3, b4, b5, b6, b7⟩ := hB
  intro n
  induction n with
  | zero =>
    intro fr M A σ hn0 hfr hF hR hp hM hh hl hA
    have e : fr = 100 := by omega
    subst e
    have eM : M = [] := by
      cases M with
      | nil => rfl
      | cons x r =>
        have := hM x List.mem_cons_self
        omega
    rw [eM, enE_n, List.append_nil] at hA
    rw [hA] at hR
    exact hq σ hF hR
  | succ n ih =>
    intro fr M A σ hn0 hfr hF hR hp hM hh hl hA
    by_cases h100 : fr = 100
    · exact ih fr M A σ (by omega) hfr hF hR hp hM hh hl hA
    have hI1 := hI.z hF (by decide) (by decide)
    have hpg : ∀ (p : Int) (Q' : MQ9) (σ1 : MS), IxR σ1 n' H S K P f s o → Rg p → Q' (.inl (some (bZ (hpB K P key p K.length)))) σ1 → R_hasPage (n' : Int) ((100 * n' + key : Nat) : Int) p σ1 Q' := fun p Q' σ1 i1 rp h => R_hasPage.p hn i1.1 i1.2.1 (by omega) b4 b1 hk rp h
    have fs := hI1.2.2.1 (by omega)
    have lA : A.length ≤ T.length := by
      rw [← hA, List.length_append]
      omega
    refine R_register_81.i ⟨by unfold Rg; omega, fun h => absurd h (by omega), fun _ => hpg _ _ σ hI1 (by unfold Rg; omega) ?_⟩
    show (¬ bZ (hpB K P key (fr : Int) K.length) = 0 → _) ∧ (bZ (hpB K P key (fr : Int) K.length) = 0 → _)
    refine ⟨fun h => ?_, fun h => ?_⟩
    · -- the page is one of them: it is the first of M
      have hfm := (hh fr (Int.le_refl _)).mp (bZ_ne h)
      obtain ⟨r, eM⟩ : ∃ r, M = (fr : Int) :: r := by
        cases M with
        | nil => exact absurd hfm List.not_mem_nil
        | cons x r =>
          refine ⟨r, ?_⟩
          rcases List.mem_cons.mp hfm with e | e
          · rw [e]
          · have h1 := (List.pairwise_cons.mp hp).1 _ e
            have h2 := hM x List.mem_cons_self
            omega
      subst eM
      obtain ⟨p1, p2⟩ := List.pairwise_cons.mp hp
      have rl := rnC_l (p := (fr : Int)) (r := r)
      have lr : r.length + 1 ≤ N := hl
      obtain ⟨N', hN'⟩ : ∃ N', N = N' + 1 := ⟨N - 1, by omega⟩
      have eE : enE f s N ((fr : Int) :: r) = if 2 ≤ rnC (fr : Int) r then [44, 32] ++ wrN (f + (fr : Int)) s ++ [45] ++ wrN (f + ((fr : Int) + (rnC (fr : Int) r : Int))) s ++ enE f s N (r.drop (rnC (fr : Int) r)) else [44, 32] ++ wrN (f + (fr : Int)) s ++ enE f s N r := by
        rw [hN', enE_c, enE_m (n := N') (m := N' + 1) (L := r.drop (rnC (fr : Int) r)) (by rw [List.length_drop]; omega) (by rw [List.length_drop]; omega), enE_m (n := N') (m := N' + 1) (L := r) (by omega) (by omega)]
      generalize hR9 : rnC (fr : Int) r = R at rl eE
      have rat : ∀ t, t < R → r.getD t 0 = (fr : Int) + 1 + (t : Int) := fun t ht => rnC_at (by rw [hR9]; exact ht)
      have rno : R < r.length → ¬ r.getD R 0 = (fr : Int) + 1 + (R : Int) := fun h => by
        have := rnC_n (p := (fr : Int)) (r := r) (by rw [hR9]; exact h)
        rw [hR9] at this
        exact this
      have frR : fr + R ≤ 99 := by
        cases R with
        | zero => omega
        | succ R =>
          have h1 := rat R (by omega)
          have h2 := hM _ (List.mem_cons_of_mem _ (gd_mem (L := r) (i := R) (by omega)))
          omega
      have w1 := wrN_len (n := f + (fr : Int)) (sys := s)
      -- which pages come behind
      have inr : ∀ x ∈ r, ∀ p : Int, (fr : Int) + 1 ≤ p → True := fun _ _ _ _ => trivial
      have p135 : R_register_135 (n' : Int) l2 ((100 * n' + key : Nat) : Int) (fr : Int) ((fr + R : Nat) : Int) σ Q := by
        refine R_register_135.i (R_plain.p (by decide) hR (by omega) (fun σ1 f1 h1 => ?_))
        refine R_plain.p (by decide) h1 (by rw [List.length_append]; show _ + 1 ≤ _; omega) (fun σ2 f2 h2 => ?_)
        have f12 : FrZ [254, 255, 337] [16, 143] σ0 σ2 := hF.tr ((f1.tr f2).mo (by decide) (by decide))
        have I2 := hI.z f12 (by decide) (by decide)
        have fs2 := I2.2.2.1 (by omega)
        have l2' : (A ++ [44] ++ [32]).length = A.length + 2 := by
          rw [List.length_append, List.length_append]
          rfl
        show Rg (((fr + R : Nat) : Int) - (fr : Int)) ∧ _
        refine ⟨by unfold Rg; omega, fun h9 => ?_, fun h9 => ?_⟩
        · refine R_plainLabel.p fs2.1 fs2.2 hf hs (by omega) h2 (by omega) (fun σ3 f3 h3 => ?_)
          show R_register_81 (n' : Int) l2 ((100 * n' + key : Nat) : Int) ((fr : Int) + 1) σ3 Q
          rw [show (fr : Int) + 1 = ((fr + 1 : Nat) : Int) by omega]
          rw [if_neg (by omega)] at eE
          refine ih (fr + 1) r _ σ3 (by omega) (by omega) (f12.tr f3) h3 p2 (fun x hx => ⟨by have := p1 x hx; omega, (hM x (List.mem_cons_of_mem _ hx)).2⟩) (fun p hp9 => ?_) (by omega) ?_
          · rw [hh p (by omega), List.mem_cons]
            exact ⟨fun e => e.resolve_left (by omega), Or.inr⟩
          · rw [← hA, eE]
            simp only [List.append_assoc, List.cons_append, List.nil_append]
        · refine R_plainLabel.p fs2.1 fs2.2 hf hs (by omega) h2 (by omega) (fun σ3 f3 h3 => ?_)
          have f13 := f12.tr f3
          have l3 : (A ++ [44] ++ [32] ++ wrN (f + (fr : Int)) s).length = A.length + 2 + (wrN (f + (fr : Int)) s).length := by rw [List.length_append, l2']
          refine R_plain.p (by decide) h3 (by omega) (fun σ4 f4 h4 => ?_)
          have f14 : FrZ [254, 255, 337] [16, 143] σ0 σ4 := f13.tr (f4.mo (by decide) (by decide))
          have I4 := hI.z f14 (by decide) (by decide)
          have fs4 := I4.2.2.1 (by omega)
          refine R_plainLabel.p fs4.1 fs4.2 hf hs (by omega) h4 (by rw [List.length_append, l3]; show _ + 1 ≤ _; omega) (fun σ5 f5 h5 => ?_)
          show R_register_81 (n' : Int) l2 ((100 * n' + key : Nat) : Int) (((fr + R : Nat) : Int) + 1) σ5 Q
          rw [show ((fr + R : Nat) : Int) + 1 = ((fr + R + 1 : Nat) : Int) by omega]
          rw [if_pos (by omega)] at eE
          have dr : ∀ x, x ∈ r.drop R → (fr : Int) + (R : Int) + 1 ≤ x := fun x hx => by
            -- elements behind a stretch are larger than its last
            obtain ⟨i, hi, e⟩ := List.getElem_of_mem hx
            rw [List.length_drop] at hi
            rw [List.getElem_drop] at e
            have h1 := List.pairwise_iff_getElem.mp p2 (R - 1) (R + i) (by omega) (by omega) (by omega)
            have h2 := rat (R - 1) (by omega)
            have h3 : r.getD (R - 1) 0 = r[R - 1]'(by omega) := by
              unfold List.getD
              rw [List.getElem?_eq_getElem (by omega)]
              rfl
            rw [← h3, h2, e] at h1
            omega
          refine ih (fr + R + 1) (r.drop R) _ σ5 (by omega) (by omega) (f14.tr f5) h5 (p2.sublist (List.drop_sublist R r)) (fun x hx => ⟨by have := dr x hx; omega, (hM x (List.mem_cons_of_mem _ (List.mem_of_mem_drop hx))).2⟩) (fun p hp9 => ?_) (by rw [List.length_drop]; omega) ?_
          · rw [hh p (by omega), List.mem_cons]
            refine ⟨fun e => ?_, fun e => Or.inr (List.mem_of_mem_drop e)⟩
            rcases e with e | e
            · omega
            · obtain ⟨i, hi, ei⟩ := List.getElem_of_mem e
              by_cases hiR : i < R
              · have h2 := rat i hiR
                have h3 : r.getD i 0 = p := by
                  unfold List.getD
                  rw [List.getElem?_eq_getElem hi]
                  exact ei
                omega
              · have : r[R + (i - R)]'(by omega) = p := by
                  have e9 : R + (i - R) = i := by omega
                  simp only [e9]
                  exact ei
                rw [← this]
                have hd : i - R < (r.drop R).length := by rw [List.length_drop]; omega
                have := List.getElem_mem hd
                rw [List.getElem_drop] at this
                exact this
          · rw [← hA, eE]
            simp only [List.append_assoc, List.cons_append, List.nil_append]
            rfl
      -- the stretch is counted
      have p109 : ∀ (m t : Nat), t + m = R → R_register_109 (n' : Int) l2 ((100 * n' + key : Nat) : Int) (fr : Int) ((fr + t : Nat) : Int) σ Q := by
        have mem : ∀ t, t ≤ R → ((fr : Int) + 1 + (t : Int) ∈ r ↔ t < R) := fun t ht => by
          refine ⟨fun e => ?_, fun e => ?_⟩
          · rcases Nat.lt_or_ge t R with l | l
            · exact l
            · have et : t = R := by omega
              subst et
              obtain ⟨i, hi, ei⟩ := List.getElem_of_mem e
              have gi : r.getD i 0 = (fr : Int) + 1 + (t : Int) := by
                unfold List.getD
                rw [List.getElem?_eq_getElem hi]
                exact ei
              rcases Nat.lt_trichotomy i t with l2 | l2 | l2
              · have := rat i l2
                omega
              · rw [l2] at gi hi
                exact absurd gi (rno hi)
              · -- a larger one stands between
                have h1 := List.pairwise_iff_getElem.mp p2 t i (by omega) hi l2
                have h4 : r.getD t 0 = r[t]'(by omega) := by
                  unfold List.getD
                  rw [List.getElem?_eq_getElem (by omega)]
                  rfl
                rw [ei, ← h4] at h1
                have h5 : (fr : Int) + (t : Int) < r.getD t 0 := by
                  cases t with
                  | zero =>
                    have := p1 _ (gd_mem (L := r) (i := 0) (by omega))
                    omega
                  | succ t =>
                    have h6 := rat t (by omega)
                    have h7 := List.pairwise_iff_getElem.mp p2 t (t + 1) (by omega) (by omega) (by omega)
                    have h8 : r.getD t 0 = r[t]'(by omega) := by
                      unfold List.getD
                      rw [List.getElem?_eq_getElem (by omega)]
                      rfl
                    rw [← h8, ← h4, h6] at h7
                    omega
                omega
          · have := gd_mem (L := r) (i := t) (by omega)
            rw [rat t e] at this
            exact this
        intro m
        induction m with
        | zero =>
          intro t ht
          have et : t = R := by omega
          subst et
          refine R_register_109.i ⟨by unfold Rg; omega, fun _ => p135, fun h9 => hpg _ _ σ hI1 (by unfold Rg; omega) ?_⟩
          have e0 : hpB K P key (((fr + t : Nat) : Int) + 1) K.length = false := by
            cases e : hpB K P key (((fr + t : Nat) : Int) + 1) K.length with
            | false => rfl
            | true =>
              have := (hh _ (by omega)).mp e
              rcases List.mem_cons.mp this with h8 | h8
              · omega
              · rw [show ((fr + t : Nat) : Int) + 1 = (fr : Int) + 1 + (t : Int) by omega] at h8
                exact absurd ((mem t (Nat.le_refl _)).mp h8) (Nat.lt_irrefl _)
          rw [e0]
          show ((0 : Int) = 0 → _) ∧ (¬ (0 : Int) = 0 → _)
          exact ⟨fun _ => p135, fun h8 => absurd rfl h8⟩
        | succ m ih2 =>
          intro t ht
          refine R_register_109.i ⟨by unfold Rg; omega, fun h9 => absurd h9 (by omega), fun h9 => hpg _ _ σ hI1 (by unfold Rg; omega) ?_⟩
          have e0 : hpB K P key (((fr + t : Nat) : Int) + 1) K.length = true := by
            refine (hh _ (by omega)).mpr (List.mem_cons_of_mem _ ?_)
            rw [show ((fr + t : Nat) : Int) + 1 = (fr : Int) + 1 + (t : Int) by omega]
            exact (mem t (by omega)).mpr (by omega)
          rw [e0]
          show ((1 : Int) = 0 → _) ∧ (¬ (1 : Int) = 0 → _)
          refine ⟨fun h8 => absurd h8 (by decide), fun _ => ?_⟩
          rw [show ((fr + t : Nat) : Int) + 1 = ((fr + (t + 1) : Nat) : Int) by omega]
          exact ih2 (t + 1) (by omega)
      have := p109 R 0 (by omega)
      rw [Nat.add_zero] at this
      exact this
    · have hfm : ¬ (fr : Int) ∈ M := fun e => by
        have := (hh fr (Int.le_refl _)).mpr e
        rw [bZ_z h] at this
        cases this
      rw [show (fr : Int) + 1 = ((fr + 1 : Nat) : Int) by omega]
      refine ih (fr + 1) M A σ (by omega) (by omega) hF hR hp (fun x hx => ?_) (fun p hp9 => hh p (by omega)) hl hA
      have h1 := hM x hx
      refine ⟨?_, h1.2⟩
      rcases Int.lt_or_le (fr : Int) x with l | l
      · omega
      · have : x = (fr : Int) := by omega
        rw [this] at hx
        exact absurd hx hfm
end
