/-! THE REFERENCE WORKS TEXTS: keys -/
def KyI (σ0 σ' : MS) (b : Nat) (K : List Int) : Prop := FrZ [293] [81] σ0 σ' ∧ mV σ' 246 81 = ((b + K.length : Nat) : Int) ∧ holA σ' 293 b K ∧ ∀ k, (k < b ∨ b + K.length ≤ k) → mV σ' 293 k = mV σ0 293 k
theorem pkL_sn {L : List Int} {c : Int} : pkL (L ++ [c]) = (pkF (pkS L) c).1 := by
  unfold pkL
  rw [pkS_sn]
theorem pkL_bl {L : List Int} {c : Int} (h : sbl c = true) : pkL (L ++ [c]) = pkL L := by
  rw [pkL_sn]
  unfold pkF
  rw [if_pos h]
  rfl
theorem pkS_bl {L : List Int} {c : Int} (h : sbl c = true) : (pkS (L ++ [c])).2 = true := by
  rw [pkS_sn]
  unfold pkF
  rw [if_pos h]
theorem pkL_nb {L : List Int} {c : Int} (h : sbl c = false) : pkL (L ++ [c]) = (if (pkS L).2 = true ∧ 0 < (pkL L).length then pkL L ++ [32] else pkL L) ++ [c] ∧ (pkS (L ++ [c])).2 = false := by
  rw [pkL_sn, pkS_sn]
  unfold pkF
  rw [if_neg (by rw [h]; decide)]
  exact ⟨rfl, rfl⟩
theorem pkS_len {L : List Int} : (pkL L).length + (if (pkS L).2 = true then 1 else 0) ≤ L.length := by
  have := pk_len L ([], false)
  have e : (([], false) : List Int × Bool).1.length + (if (([], false) : List Int × Bool).2 = true then 1 else 0) = 0 := rfl
  rw [e] at this
  unfold pkL pkS
  omega
section
variable {σ σ0 σ1 σ2 : MS} {Q : MQ9} {g kt u c D nw n0 l0 k0 b : Nat} {a : Bool} {E : TE} {O : List Int} {X : RY9} {s s1 s2 : TS} {A L P K : List Int} {x y p : Int} {m m' : TM}
theorem KyI.sn {v : Int} (h : KyI σ0 σ b K) : KyI σ0 (wV (wV σ 246 81 (((b + K.length : Nat) : Int) + 1)) 293 (b + K.length) v) b (K ++ [v]) := by
  obtain ⟨h1, h2, h3, h4⟩ := h
  refine ⟨(h1.tr (FrZ.wf (by decide))).tr (FrZ.wz (by decide)), ?_, fun i hi => ?_, fun k hk => ?_⟩
  · rw [wV_ne (Or.inl (by decide)), wV_self, List.length_append, List.length_singleton]
    omega
  · rw [List.length_append, List.length_singleton] at hi
    by_cases e : i = K.length
    · subst e
      rw [wV_self, getD_s]
    · rw [wV_ne (Or.inr (by omega)), wV_ne (Or.inl (by decide)), getD_l (by omega)]
      exact h3 i (by omega)
  · rw [List.length_append, List.length_singleton] at hk
    rw [wV_ne (Or.inr (by omega)), wV_ne (Or.inl (by decide))]
    exact h4 k (by omega)
theorem any_12 {j : Nat} {l2 : Int} (hj : j < 400) (e2 : mV σ 262 j = ((u + A.length : Nat) : Int)) (hG : hoG σ 257 258 u A) (hok : okK A) (hu : u + A.length ≤ 60100) (hq : R_index_12 (j : Int) l2 (bZ (decide (¬ pkL A = []))) ((u + A.length : Nat) : Int) σ Q) : ∀ (n i : Nat), i + n = A.length → R_index_12 (j : Int) l2 (bZ (decide (¬ pkL (A.take i) = []))) ((u + i : Nat) : Int) σ Q := by
  intro n
  induction n with
  | zero =>
    intro i hi
    have e : i = A.length := by omega
    subst e
    rw [List.take_length]
    exact hq
  | succ n ih =>
    intro i hi
    have hlt : i < A.length := by omega
    have okc := hok.gd hlt
    have ej : mV σ 262 (j : Int).toNat = ((u + A.length : Nat) : Int) := by rw [Int.toNat_natCast]; exact e2
    have nx := ih (i + 1) (by omega)
    rw [take_sn hlt] at nx
    have s43 : ∀ t : Bool, (t = true ↔ ¬ pkL (A.take i ++ [A.getD i 0]) = []) → R_index_43 (j : Int) l2 ((u + i : Nat) : Int) (bZ t) σ Q := by
      intro t ht
      have et : t = decide (¬ pkL (A.take i ++ [A.getD i 0]) = []) := by
        rw [Bool.eq_iff_iff, decide_eq_true_iff]
        exact ht
      rw [et]
      refine R_index_43.i ?_
      rw [show ((u + i : Nat) : Int) + 1 = ((u + (i + 1) : Nat) : Int) by omega]
      exact nx
    refine R_index_12.i ⟨by omega, by omega, by unfold Rg; omega, fun h9 => absurd h9 (by rw [ej]; omega), fun _ => ⟨fun h9 => R_index_38.i ?_, fun h9 => R_arg.r hG hlt (by omega) rfl ⟨fun h8 => ?_, fun h8 => R_index_38.i ?_⟩⟩⟩
    · have h7 := of_decide_eq_true (bZ_ne h9)
      refine s43 true ⟨fun _ e => h7 ?_, fun _ => rfl⟩
      by_cases hb : sbl (A.getD i 0) = true
      · rw [pkL_bl hb] at e
        exact e
      · rw [(pkL_nb (by simpa using hb)).1] at e
        exact absurd e (by simp)
    · have h7 := of_decide_eq_false (bZ_z h9)
      refine s43 false ⟨fun h => absurd h (by decide), fun e => ?_⟩
      rw [pkL_bl (by rw [sbl_rd okc]; exact decide_eq_true h8)] at e
      exact absurd e h7
    · refine s43 true ⟨fun _ e => ?_, fun _ => rfl⟩
      rw [(pkL_nb (by rw [sbl_rd okc]; exact decide_eq_false h8)).1] at e
      exact absurd e (by simp)
/-- words are copied -/
theorem key_114 {j : Nat} {l4 : Int} (hj : j < 400) (e2 : mV σ 262 j = ((u + A.length : Nat) : Int)) (hG : hoG σ 257 258 u A) (hok : okK A) (hu : u + A.length ≤ 60100) (hb : b + A.length < 139000) (hq : ∀ σ', KyI σ σ' b (ms7 (pkL A)) → R_index_240 l4 σ' Q) : ∀ (n i : Nat), i + n = A.length →
    (∀ σ', KyI σ σ' b (ms7 (pkL (A.take i))) → (i < A.length → (pkS (A.take i)).2 = true ∨ pkL (A.take i) = [] ∨ sbl (A.getD i 0) = true) → R_index_124 (j : Int) ((u + i : Nat) : Int) l4 (bZ (decide (pkL (A.take i) = []))) σ' Q) ∧
    (∀ σ' K, KyI σ σ' b K → K.length ≤ i → (i < A.length → sbl (A.getD i 0) = false → K ++ [A.getD i 0 % 128] = ms7 (pkL (A.take (i + 1)))) → ((i = A.length ∨ sbl (A.getD i 0) = true) → K = ms7 (pkL (A.take i)) ∧ ¬ pkL (A.take i) = []) → R_index_189 (j : Int) ((u + i : Nat) : Int) l4 0 σ' Q) := by
  have ej : ∀ {σ' : MS} {K : List Int}, KyI σ σ' b K → mV σ' 262 (j : Int).toNat = ((u + A.length : Nat) : Int) := fun h => by
    rw [Int.toNat_natCast, h.1.z (by decide) (by decide)]
    exact e2
  have eG : ∀ {σ' : MS} {K : List Int}, KyI σ σ' b K → hoG σ' 257 258 u A := fun h => hG.cg (fun k _ _ => ⟨h.1.z (by decide) (by decide), h.1.z (by decide) (by decide)⟩)
  intro n
  induction n with
  | zero =>
    intro i hi
    have e : i = A.length := by omega
    subst e
    refine ⟨fun σ' h _ => ?_, fun σ' K h hl _ hend => ?_⟩
    · rw [List.take_length] at h
      refine R_index_124.i ⟨by omega, by omega, by unfold Rg; omega, fun _ => ?_, fun h9 => absurd h9 (by rw [ej h]; omega)⟩
      exact R_index_150.i ⟨by omega, by omega, by unfold Rg; omega, fun h9 => absurd (ej h).symm h9, fun _ => hq σ' h⟩
    · obtain ⟨hk, -⟩ := hend (Or.inl rfl)
      rw [List.take_length] at hk
      rw [hk] at h
      refine R_index_189.i ⟨by omega, by omega, by unfold Rg; omega, fun _ => ?_, fun h9 => absurd h9 (by rw [ej h]; omega)⟩
      exact R_index_114.i ⟨by omega, by omega, by unfold Rg; omega, fun _ => hq σ' h, fun h9 => absurd h9 (by rw [ej h]; omega)⟩
  | succ n ih =>
    intro i hi
    have hlt : i < A.length := by omega
    have okc := hok.gd hlt
    obtain ⟨ihB, ihW⟩ := ih (i + 1) (by omega)
    have sl := pkS_len (L := A.take i)
    have tl : (A.take i).length = i := by rw [List.length_take]; omega
    rw [tl] at sl
    have wn : ∀ σ' K, sbl (A.getD i 0) = false → KyI σ σ' b K → K.length ≤ i → K ++ [A.getD i 0 % 128] = ms7 (pkL (A.take (i + 1))) → R_index_189 (j : Int) ((u + i : Nat) : Int) l4 0 σ' Q := by
      intro σ' K hb0 h hl hK
      have v81 := h.2.1
      refine R_index_189.i ⟨by omega, by omega, by unfold Rg; omega, fun h9 => absurd h9 (by rw [ej h]; omega), fun _ => R_arg.r (eG h) hlt (by omega) rfl ⟨fun h8 => ?_, fun h8 => ?_⟩⟩
      · rw [sbl_rd okc] at hb0
        exact absurd h8 (of_decide_eq_false hb0)
      · show Rg (mV σ' 246 81 + 1) ∧ R_arg _ (wV σ' 246 81 (mV σ' 246 81 + 1)) _
        rw [v81]
        refine ⟨by unfold Rg; omega, R_arg.r (A := A) (u := u) (i := i) ((eG h).cg (fun k _ _ => ⟨wV_ne (Or.inl (by decide)), wV_ne (Or.inl (by decide))⟩)) hlt (by omega) rfl (R_shown.s rdG_r ⟨by omega, by omega, ?_⟩)⟩
        rw [Int.toNat_natCast, shS_rd okc, show b8 (A.getD i 0 % 128) = A.getD i 0 % 128 from b8_id (by omega), show b8 (A.getD i 0 % 128) = A.getD i 0 % 128 from b8_id (by omega), show ((u + i : Nat) : Int) + 1 = ((u + (i + 1) : Nat) : Int) by omega]
        have h2 := h.sn (v := A.getD i 0 % 128)
        refine ihW _ _ h2 (by rw [List.length_append, List.length_singleton]; omega) (fun hlt2 hb2 => ?_) (fun _ => ⟨hK, fun e => ?_⟩)
        · rw [hK, take_sn hlt2, take_sn hlt, (pkL_nb hb2).1, (pkL_nb hb0).2, if_neg (by simp)]
          unfold ms7
          rw [List.map_append]
          rfl
        · rw [e] at hK
          exact absurd hK (by simp [ms7])
    have bb : ∀ σ', sbl (A.getD i 0) = true → KyI σ σ' b (ms7 (pkL (A.take i))) → R_index_124 (j : Int) ((u + i : Nat) : Int) l4 (bZ (decide (pkL (A.take i) = []))) σ' Q := by
      intro σ' hb1 h
      refine R_index_124.i ⟨by omega, by omega, by unfold Rg; omega, fun h9 => absurd h9 (by rw [ej h]; omega), fun _ => R_arg.r (eG h) hlt (by omega) rfl ⟨fun h8 => ?_, fun h8 => ?_⟩⟩
      · rw [sbl_rd okc] at hb1
        exact absurd (of_decide_eq_true hb1) h8
      · show R_index_124 (j : Int) (((u + i : Nat) : Int) + 1) l4 (bZ (decide (pkL (A.take i) = []))) σ' Q
        have e : pkL (A.take (i + 1)) = pkL (A.take i) := by rw [take_sn hlt, pkL_bl hb1]
        have := ihB σ' (by rw [e]; exact h) (fun _ => Or.inl (by rw [take_sn hlt]; exact pkS_bl hb1))
        rw [e] at this
        rw [show ((u + i : Nat) : Int) + 1 = ((u + (i + 1) : Nat) : Int) by omega]
        exact this
    refine ⟨fun σ' h hG9 => ?_, fun σ' K h hl hnb hbl => ?_⟩
    · by_cases hb1 : sbl (A.getD i 0) = true
      · exact bb σ' hb1 h
      · have hb0 : sbl (A.getD i 0) = false := by simpa using hb1
        have v81 := h.2.1
        have hnx := (pkL_nb (L := A.take i) hb0).1
        refine R_index_124.i ⟨by omega, by omega, by unfold Rg; omega, fun h9 => absurd h9 (by rw [ej h]; omega), fun _ => R_arg.r (eG h) hlt (by omega) rfl ⟨fun h8 => ?_, fun h8 => ?_⟩⟩
        · refine R_index_150.i ⟨by omega, by omega, by unfold Rg; omega, fun _ => ⟨fun h7 => R_index_186.i ?_, fun h7 => ?_⟩, fun h7 => absurd h7 (by rw [ej h]; omega)⟩
          · have hz := of_decide_eq_true (bZ_ne h7)
            refine wn σ' _ hb0 h (by rw [ms7_len]; omega) ?_
            rw [take_sn hlt, hnx, hz, if_neg (by simp)]
            rfl
          · have hz := of_decide_eq_false (bZ_z h7)
            have hg : (pkS (A.take i)).2 = true := by
              rcases hG9 hlt with h6 | h6 | h6
              · exact h6
              · exact absurd h6 hz
              · exact absurd h6 hb1
            rw [if_pos hg] at sl
            have h2 := h.sn (v := 32)
            rw [ms7_len] at h2 v81
            rw [v81, Int.toNat_natCast, b8_id (by decide)]
            refine ⟨by unfold Rg; omega, by omega, by omega, R_index_186.i (wn _ _ hb0 h2 (by rw [List.length_append, List.length_singleton, ms7_len]; omega) ?_)⟩
            rw [take_sn hlt, hnx, if_pos ⟨hg, List.length_pos_iff.mpr hz⟩]
            unfold ms7
            rw [List.map_append, List.map_append]
            rfl
        · rw [sbl_rd okc] at hb0
          exact absurd h8 (of_decide_eq_false hb0)
    · by_cases hb1 : sbl (A.getD i 0) = true
      · obtain ⟨hK, hne⟩ := hbl (Or.inr hb1)
        rw [hK] at h
        have h7 := bb σ' hb1 h
        rw [decide_eq_false hne] at h7
        refine R_index_189.i ⟨by omega, by omega, by unfold Rg; omega, fun h9 => absurd h9 (by rw [ej h]; omega), fun _ => R_arg.r (eG h) hlt (by omega) rfl ⟨fun h8 => ?_, fun h8 => ?_⟩⟩
        · exact R_index_114.i ⟨by omega, by omega, by unfold Rg; omega, fun h9 => absurd h9 (by rw [ej h]; omega), fun _ => h7⟩
        · rw [sbl_rd okc] at hb1
          exact absurd (of_decide_eq_true hb1) h8
      · have hb0 : sbl (A.getD i 0) = false := by simpa using hb1
        exact wn σ' K hb0 h hl (hnb hlt hb0)
theorem R_index.r {j : Nat} (hb9 : 0 < E.2.2.2) (hRE : RxE σ E X.1) (hj : j < 400) (hA : ArG σ j kt A) (hok : okK A) (hS : RxS X 0 kt c D false E O σ s) (hi : TI p 0 s) (hp : ((kt : Nat) : Int) ≤ p)
    (hq : UOk Q X 0 kt c D false E O σ (if pkL A = [] then tFl 5 s else if 100 ≤ s.2.2.2.2.1.1.length then tFl 9 s else .inl (sKy s (s.2.2.2.2.1.1 ++ [ms7 (pkL A)]) (s.2.2.2.2.1.2 ++ [lsP (pkL s.2.1)])))) : R_index (j : Int) σ Q := by
  have hB : BdR 0 kt s := hi.bd (by omega)
  obtain ⟨u, e1, e2, e3, hG⟩ := hA
  obtain ⟨⟨a1, a2, hy, a4⟩, -, ⟨L1, L2, L3, L4, L5⟩, ⟨K1, K2, -⟩, ⟨N1, N2, N3, N4⟩, -, hsum⟩ := id hi
  obtain ⟨r1, r2, ⟨m1, m2, m3, m4, m5, m6⟩, r4⟩ := id hS
  obtain ⟨⟨x1, x2⟩, -⟩ := id hRE
  obtain ⟨d1, d2, d3⟩ := m3 hb9
  have d1 : mV σ 298 X.1 = (s.2.2.2.2.1.1.length : Int) := d1
  have d2 : mV σ 246 81 = ((70000 * X.1 + suM s.2.2.2.2.1.1 : Nat) : Int) := d2
  have hu : u + A.length ≤ 60100 := by omega
  have hout : s.2.1.length ≤ 60100 := by
    have := hB.2.2
    omega
  have ej : ((j : Nat) : Int).toNat = j := rfl
  have eX : ((X.1 : Nat) : Int).toNat = X.1 := rfl
  have pl := pkL_len (L := A)
  refine R_index.i ⟨by omega, by omega, ?_⟩
  rw [ej, e1]
  have key := any_12 (σ := σ) (Q := Q) (l2 := (u : Int)) hj e2 hG hok hu ?_ A.length 0 (by omega)
  · exact key
  refine R_index_12.i ⟨by omega, by omega, by unfold Rg; omega, fun _ => ⟨fun h9 => ⟨by rw [x2]; omega, by rw [x2]; omega, fun h8 => ?_, fun h8 => ?_⟩, fun h9 => ?_⟩, fun h9 => absurd h9 (by rw [ej, e2]; omega)⟩
  · have hne := of_decide_eq_true (bZ_ne h9)
    rw [if_neg hne] at hq
    rw [x2, eX, d1] at h8 ⊢
    have h100 : ¬ 100 ≤ s.2.2.2.2.1.1.length := by omega
    rw [if_neg h100] at hq
    have el : 100 * (X.1 : Int) + (s.2.2.2.2.1.1.length : Int) = ((100 * X.1 + s.2.2.2.2.1.1.length : Nat) : Int) := by omega
    rw [el, Int.toNat_natCast, d2]
    refine ⟨by omega, by omega, by omega, by omega, ?_⟩
    generalize hl : 100 * X.1 + s.2.2.2.2.1.1.length = l
    generalize hb : 70000 * X.1 + suM s.2.2.2.2.1.1 = b
    generalize hσ3 : wV σ 294 l (b : Int) = σ3
    have f3 : FrZ [294] [] σ σ3 := by rw [← hσ3]; exact FrZ.wz (by decide)
    have u3 : FrU 0 kt c X.1 σ σ3 := by rw [← hσ3]; exact FrU.wz (by decide) (Nat.zero_le _) (Or.inr (by show l / 100 = X.1; omega))
    have k9 := (key_114 (σ := σ3) (Q := Q) (l4 := (l : Int)) (b := b) hj (by rw [f3.z (by decide) (by decide)]; exact e2) (hG.cg (fun k _ _ => ⟨f3.z (by decide) (by decide), f3.z (by decide) (by decide)⟩)) hok hu (by omega) ?_ A.length 0 (by omega)).1 σ3 ⟨FrZ.rf, by rw [f3.f (by decide) (by decide), d2, ← hb]; rfl, fun i hi => absurd hi (Nat.not_lt_zero _), fun _ _ => rfl⟩ (fun _ => Or.inr (Or.inl rfl))
    · have t262 : mV σ3 262 (j : Int).toNat = ((u + A.length : Nat) : Int) := by
        rw [ej, f3.z (by decide) (by decide)]
        exact e2
      have hA0 : 0 < A.length := by
        rcases Nat.eq_zero_or_pos A.length with h0 | h0
        · have : A = [] := List.eq_nil_of_length_eq_zero h0
          rw [this] at hne
          exact absurd rfl hne
        · exact h0
      exact R_index_114.i ⟨by omega, by omega, by unfold Rg; omega, fun h7 => absurd h7 (by rw [t262]; omega), fun _ => k9⟩
    · intro σ4 h4
      have f4 : FrZ [293, 294] [81] σ σ4 := (f3.mo (by decide) (by decide)).tr (h4.1.mo (by decide) (by decide))
      have lk : (ms7 (pkL A)).length = (pkL A).length := ms7_len
      have v81 : mV σ4 246 81 = ((b + (pkL A).length : Nat) : Int) := by rw [h4.2.1, lk]
      have v294 : mV σ4 294 l = (b : Int) := by
        rw [h4.1.z (by decide) (by decide), ← hσ3, wV_self]
      have u4 : FrU 0 kt c X.1 σ σ4 := by
        refine u3.tr ⟨h4.1.1, h4.1.2.1, fun z k n => ?_⟩
        by_cases e9 : z = 293
        · subst e9
          by_cases hk2 : k / 70000 = X.1
          · exact absurd (Or.inr ⟨by decide, Nat.zero_le _, Or.inr hk2⟩) n
          · refine h4.2.2.2 k ?_
            rw [lk]
            have : suM s.2.2.2.2.1.1 + (pkL A).length ≤ 60100 := by omega
            omega
        · refine h4.1.2.2 z k (by simpa using e9) ?_
          by_cases e6 : z = 246
          · exact Or.inr (fun hk => n (Or.inl ⟨e6, by rw [List.mem_singleton.mp hk]; decide⟩))
          · exact Or.inl e6
      have v59 : mV σ4 246 59 = (X.1 : Int) := by
        rw [f4.f (by decide) (by decide)]
        exact x2
      have v298 : mV σ4 298 X.1 = (s.2.2.2.2.1.1.length : Int) := by
        rw [f4.z (by decide) (by decide)]
        exact d1
      have b6 := lsP_b s.2.1
      refine R_index_240.i ⟨by omega, by omega, by omega, by omega, ?_⟩
      rw [Int.toNat_natCast, v81, v294, v59, eX, v298, show ((b + (pkL A).length : Nat) : Int) - (b : Int) = ((pkL A).length : Int) by omega]
      refine ⟨by unfold Rg; omega, by omega, by omega, ?_⟩
      generalize hσ5 : wV σ4 295 l ((pkL A).length : Int) = σ5
      have f5 : FrZ [293, 294, 295] [81] σ σ5 := by rw [← hσ5]; exact (f4.mo (by decide) (by decide)).tr (FrZ.wz (by decide))
      have u5 : FrU 0 kt c X.1 σ σ5 := by rw [← hσ5]; exact u4.tr (FrU.wz (by decide) (Nat.zero_le _) (Or.inr (by show l / 100 = X.1; omega)))
      refine R_latest.r (s := s) (r2.z f5 (by decide) (by decide)) a4 hout ?_
      refine R_waits.r (P := s.2.1) (m := s.2.2) ((m6 hb9).z f5 (by decide) (by decide)) (by show s.2.2.2.2.2.1.2.1.length + s.2.2.2.1.2.2.length + s.2.2.2.2.1.2.length < 300; omega) (by decide) (by unfold Rg; omega) (by unfold Rg; omega) (fun σ7 f7 w7 => ?_)
      have v59' : mV σ7 246 59 = (X.1 : Int) := by
        rw [f7.f (by decide) (by decide), f5.f (by decide) (by decide)]
        exact x2
      have v298' : mV σ7 298 X.1 = (s.2.2.2.2.1.1.length : Int) := by
        rw [f7.z (by decide) (by decide), f5.z (by decide) (by decide)]
        exact d1
      show 0 ≤ mV σ7 246 59 ∧ mV σ7 246 59 < 2 ∧ 0 ≤ mV σ7 246 59 ∧ mV σ7 246 59 < 2 ∧ Rg (mV σ7 298 ((mV σ7 246 59).toNat) + 1) ∧ Q (.inl none) (wV σ7 298 ((mV σ7 246 59).toNat) (mV σ7 298 ((mV σ7 246 59).toNat) + 1))
      rw [v59', eX, v298']
      refine ⟨by omega, by omega, by omega, by omega, by unfold Rg; omega, ?_⟩
      have f8 : FrZ [293, 294, 295, 298, 305, 306, 307] [81, 94] σ (wV σ7 298 X.1 ((s.2.2.2.2.1.1.length : Int) + 1)) := ((f5.mo (by decide) (by decide)).tr (f7.mo (by decide) (by decide))).tr (FrZ.wz (by decide))
      have u8 : FrU 0 kt c X.1 σ (wV σ7 298 X.1 ((s.2.2.2.2.1.1.length : Int) + 1)) := (u5.tr (f7.uu (by decide) (by decide))).tr (FrU.wz (by decide) (Nat.zero_le _) (Or.inr (by show X.1 / 1 = X.1; omega)))
      refine hq.1 _ _ rfl ⟨r1.z f8 (by decide) (by decide), r2.z f8 (by decide) (by decide), ⟨m1.z f8 (by decide) (by decide), fun b9 => (m2 b9).z f8 (by decide), fun _ => ⟨?_, ?_, fun i hi => ?_⟩, fun b9 => (m4 b9).z f8 (by decide) (by decide), ⟨(f8.f (by decide) (by decide)).trans m5.1, m5.2⟩, fun _ => ?_⟩, r4.z f8 (by decide) (by decide)⟩ u8
      · rw [wV_self]
        show (s.2.2.2.2.1.1.length : Int) + 1 = ((s.2.2.2.2.1.1 ++ [ms7 (pkL A)]).length : Int)
        rw [List.length_append, List.length_singleton]
        omega
      · show _ = ((70000 * X.1 + suM (s.2.2.2.2.1.1 ++ [ms7 (pkL A)]) : Nat) : Int)
        rw [wV_ne (Or.inl (by decide)), f7.f (by decide) (by decide), ← hσ5, wV_ne (Or.inl (by decide)), v81, suM_sn, lk, ← hb, Nat.add_assoc]
      · have hi : i < (s.2.2.2.2.1.1 ++ [ms7 (pkL A)]).length := hi
        rw [List.length_append, List.length_singleton] at hi
        show mV _ 294 (100 * X.1 + i) = ((70000 * X.1 + suM ((s.2.2.2.2.1.1 ++ [ms7 (pkL A)]).take i) : Nat) : Int) ∧ mV _ 295 (100 * X.1 + i) = (((s.2.2.2.2.1.1 ++ [ms7 (pkL A)]).getD i []).length : Int) ∧ holA _ 293 (70000 * X.1 + suM ((s.2.2.2.2.1.1 ++ [ms7 (pkL A)]).take i)) ((s.2.2.2.2.1.1 ++ [ms7 (pkL A)]).getD i [])
        by_cases e : i = s.2.2.2.2.1.1.length
        · subst e
          have eg : (s.2.2.2.2.1.1 ++ [ms7 (pkL A)]).getD s.2.2.2.2.1.1.length [] = ms7 (pkL A) := getD_at
          rw [eg, List.take_append_of_le_length (Nat.le_refl _), List.take_length, hl, hb]
          refine ⟨?_, ?_, h4.2.2.1.cg (fun k _ _ => ?_)⟩
          · rw [wV_ne (Or.inl (by decide)), f7.z (by decide) (by decide), ← hσ5, wV_ne (Or.inl (by decide))]
            exact v294
          · rw [wV_ne (Or.inl (by decide)), f7.z (by decide) (by decide), ← hσ5, wV_self, lk]
          · rw [wV_ne (Or.inl (by decide)), f7.z (by decide) (by decide), ← hσ5, wV_ne (Or.inl (by decide))]
        · have eg : (s.2.2.2.2.1.1 ++ [ms7 (pkL A)]).getD i [] = s.2.2.2.2.1.1.getD i [] := by
            rw [List.getD_eq_getElem?_getD, List.getD_eq_getElem?_getD, List.getElem?_append_left (by omega)]
          rw [eg, List.take_append_of_le_length (by omega)]
          obtain ⟨g1, g2, g3⟩ := d3 i (by show i < s.2.2.2.2.1.1.length; omega)
          refine ⟨?_, ?_, g3.cg (fun k k1 k2 => ?_)⟩
          · rw [wV_ne (Or.inl (by decide)), f7.z (by decide) (by decide), ← hσ5, wV_ne (Or.inl (by decide)), h4.1.z (by decide) (by decide), ← hσ3, wV_ne (Or.inr (by omega))]
            exact g1
          · rw [wV_ne (Or.inl (by decide)), f7.z (by decide) (by decide), ← hσ5, wV_ne (Or.inr (by omega)), f4.z (by decide) (by decide)]
            exact g2
          · have k2 : k < 70000 * X.1 + suM (s.2.2.2.2.1.1.take i) + (s.2.2.2.2.1.1.getD i []).length := k2
            have := suM_tk (W := s.2.2.2.2.1.1) (i := i) (by omega)
            rw [wV_ne (Or.inl (by decide)), f7.z (by decide) (by decide), ← hσ5, wV_ne (Or.inl (by decide)), h4.2.2.2 k (by omega), f3.z (by decide) (by decide)]
      · have w9 := w7 (s.2.2.1, s.2.2.2.1, (s.2.2.2.2.1.1 ++ [ms7 (pkL A)], s.2.2.2.2.1.2 ++ [lsP (pkL s.2.1)]), s.2.2.2.2.2) (fun W hW => hW.wk (v := lsP (pkL s.2.1)) (by show (s.2.2.2.2.1.1.length : Int) = ((s.2.2.2.2.1.2.length : Nat) : Int); omega) b6 (fun h0 => lsP_n h0) (ls_pk _ s.2.1 rfl).symm ⟨rfl, rfl, rfl⟩)
        exact w9.z (FrZ.wz (S := [298]) (K := []) (by decide)) (by decide) (by decide)
  · have hne := of_decide_eq_true (bZ_ne h9)
    rw [if_neg hne] at hq
    rw [x2, eX, d1] at h8
    rw [if_pos (by omega)] at hq
    exact R_fail.r (by decide) r1 (hS.fl (by decide) hB hq)
  · have hz := of_decide_eq_false (bZ_z h9)
    rw [if_pos (by simpa using hz)] at hq
    exact R_fail.r (by decide) r1 (hS.fl (by decide) hB hq)
end
