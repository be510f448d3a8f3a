/-! THE REFERENCE WORKS TEXTS: references, notes -/
theorem ls_pk : ∀ (n : Nat) (L : List Int), L.length = n → pkW L (lsP L) = lsP (pkL L)
  | 0, L, h => by
    have : L = [] := List.eq_nil_of_length_eq_zero h
    subst this
    rfl
  | n + 1, L, h => by
    obtain ⟨M, c, rfl⟩ := snoc_of (L := L) (by omega)
    rw [List.length_append, List.length_singleton] at h
    have ih := ls_pk n M (by omega)
    have b := lsP_b M
    have e : pkL (M ++ [c]) = (pkF (pkS M) c).1 := by
      unfold pkL
      rw [pkS_sn]
    rw [lsP_sn]
    by_cases h3 : c % 128 = 32
    · rw [if_pos h3, pkW_app b.2, ih, e]
      unfold pkF
      by_cases hb : sbl c = true
      · rw [if_pos hb]
        rfl
      · rw [if_neg hb]
        show lsP (pkL M) = lsP ((if (pkS M).2 = true ∧ 0 < (pkS M).1.length then (pkS M).1 ++ [32] else (pkS M).1) ++ [c])
        rw [lsP_sn, if_pos h3]
        by_cases h9 : (pkS M).2 = true ∧ 0 < (pkS M).1.length
        · rw [if_pos h9, lsP_sn, if_pos (by decide)]
          rfl
        · rw [if_neg h9]
          rfl
    · rw [if_neg h3]
      have hb : ¬ sbl c = true := by
        unfold sbl
        intro h9
        have := of_decide_eq_true h9
        omega
      have e2 : pkW (M ++ [c]) (M.length : Int) = ((pkL (M ++ [c])).length : Int) - 1 := by
        unfold pkW
        rw [show ((M.length : Int) + 1).toNat = (M ++ [c]).length by rw [List.length_append, List.length_singleton]; omega, List.take_length]
      rw [e2, e]
      unfold pkF
      rw [if_neg hb]
      show _ = lsP ((if (pkS M).2 = true ∧ 0 < (pkS M).1.length then (pkS M).1 ++ [32] else (pkS M).1) ++ [c])
      rw [lsP_sn, if_neg h3]
      rw [List.length_append, List.length_singleton]
      omega
theorem lsP_n : ∀ {L : List Int}, 0 ≤ lsP L → ¬ L.getD (lsP L).toNat 0 % 128 = 32 := by
  intro L
  have key : ∀ (n : Nat) (L : List Int), L.length = n → 0 ≤ lsP L → ¬ L.getD (lsP L).toNat 0 % 128 = 32 := by
    intro n
    induction n with
    | zero =>
      intro L h h0
      have : L = [] := List.eq_nil_of_length_eq_zero h
      subst this
      exact absurd h0 (by decide)
    | succ n ih =>
      intro L h h0
      obtain ⟨M, c, rfl⟩ := snoc_of (L := L) (by omega)
      rw [List.length_append, List.length_singleton] at h
      have b := lsP_b M
      rw [lsP_sn] at h0 ⊢
      by_cases h3 : c % 128 = 32
      · rw [if_pos h3] at h0 ⊢
        rw [getD_l (by omega)]
        exact ih M (by omega) h0
      · rw [if_neg h3, Int.toNat_natCast, getD_s]
        exact h3
  exact key _ L rfl
section
variable {σ σ0 σ1 σ2 : MS} {Q : MQ9} {g kt u c D nw n0 l0 k0 : Nat} {a : Bool} {E : TE} {O : List Int} {X : RY9} {s s1 s2 : TS} {A L P : List Int} {x y p : Int} {m : TM}
theorem RxS.un {v v' : Int} (hv : v' = v + X.2.2.2.2) (hv2 : 0 ≤ v' ∧ v' ≤ mV σ 246 33) (h : RxS X g kt c D a E O σ s) : RxS X g kt c D a E O (wV σ 246 85 v') (sUn s v) := by
  have q : FrZ [] [85] σ (wV σ 246 85 v') := FrZ.wf (by decide)
  obtain ⟨h1, h2, ⟨m1, m2, m3, m4, m5, m6⟩, h4⟩ := h
  exact ⟨h1.z q (by decide) (by decide), h2.z q (by decide) (by decide), ⟨m1.z q (by decide) (by decide), fun b9 => (m2 b9).z q (by decide), fun b9 => (m3 b9).z q (by decide) (by decide), fun b9 => (m4 b9).z q (by decide) (by decide), ⟨wV_self.trans hv, m5.2⟩, fun b9 => (m6 b9).z q (by decide) (by decide)⟩, (q.f (by decide) (by decide)).trans h4.1, (q.f (by decide) (by decide)).trans h4.2.1, (q.f (by decide) (by decide)).trans h4.2.2.1, (q.f (by decide) (by decide)).trans h4.2.2.2.1, by
    unfold UnB
    rw [wV_self, wV_ne (Or.inr (by decide))]
    exact hv2⟩
theorem R_put.nx (h : ¬ mV σ 246 28 = 0) (hq : Q (.inl none) σ) : R_put x y σ Q := R_put.i ⟨fun _ => hq, fun e => absurd e h⟩
theorem R_told.nx {n sys : Int} (hn : -999999999 ≤ n ∧ n ≤ 999999999) (hs : 1 ≤ sys ∧ sys ≤ 5) (h4 : sys = 4 → n ≤ 99999) (h : ¬ mV σ 246 28 = 0) (hq : ∀ σ', FrZ [337] [143] σ σ' → Q (.inl none) σ') : R_told n sys σ Q := by
  refine R_told.i (R_writes.s hn hs h4 (fun σ1 hS => R_putSmall.i (R_putSmall_2.i ⟨by decide, fun _ => hq _ hS.1, fun _ => ⟨fun _ => hq _ hS.1, fun e => absurd e ?_⟩⟩)))
  rw [hS.1.f (by decide) (by decide)]
  exact h
theorem R_refers.r {k pg : Int} {j : Nat} (hE : EI E) (hRE : RxE σ E X.1) (hj : j < 400) (hpg : pg = bZ (decide (¬ k = 19))) (hA : ArG σ j kt A) (hok : okK A) (hK : keyD A = true) (hS : RxS X g kt c D a E O σ s) (hi : TI p 1 s) (hp : ((g + kt : Nat) : Int) ≤ p)
    (hq : UOk Q X g kt c D a E O σ (if ixW E.2.1.1 0 (ms7 A) = -1 then tPn [63, 63] (sUn s (s.2.2.2.2.2.2 + 1)) else if k = 19 then tPn (E.2.1.2.1.getD (ixW E.2.1.1 0 (ms7 A)).toNat []) s else tPn (wrN (E.2.1.2.2.2.1 + E.2.1.2.2.1.getD (ixW E.2.1.1 0 (ms7 A)).toNat 0) E.2.1.2.2.2.2) s)) : R_refers pg (j : Int) σ Q := by
  have hB := hi.bd hp
  obtain ⟨u, e1, e2, e3, hG⟩ := hA
  have hu : u + A.length ≤ 60100 := by
    have := hB.2.2
    have := hB.1
    omega
  obtain ⟨⟨a1, a2, hy, a4⟩, -, -, -, -, ⟨f1, f2, f3⟩, -⟩ := id hi
  obtain ⟨-, ⟨E1, E2, E3, E4, E5, E6, E7, E8⟩, -, -⟩ := hE
  obtain ⟨⟨r1, r2⟩, -, ⟨c1, c2, c3, c4⟩, d12, -⟩ := hRE
  have ej : ((j : Nat) : Int).toNat = j := rfl
  have pR : Rg pg := by rw [hpg]; unfold bZ; split <;> decide
  refine R_refers.i ⟨by omega, by omega, by omega, by omega, by omega, by omega, ?_⟩
  rw [ej, e1, e2]
  refine R_labelOf.r (b := 1 - X.1) (N := E.2.1.1) (by rw [r2]; omega) (by omega) (by omega) c1 c2 E3 E4 hG hu hK hok ?_
  rcases ixW_b E.2.1.1 0 (ms7 A) with hx | hx
  · rw [if_pos hx] at hq ⊢
    refine ⟨fun h9 => absurd h9 (by decide), fun _ => ?_⟩
    obtain ⟨m5, m5b⟩ := hS.2.2.1.2.2.2.2.1
    have m5 : mV σ 246 85 = s.2.2.2.2.2.2 + X.2.2.2.2 := m5
    rw [m5]
    have hS1 := hS.un (v := s.2.2.2.2.2.2 + 1) (v' := s.2.2.2.2.2.2 + X.2.2.2.2 + 1) (by omega) (by rw [hS.1.2.2.1]; omega)
    have f1' : FrU g kt c X.1 σ (wV σ 246 85 (s.2.2.2.2.2.2 + X.2.2.2.2 + 1)) := FrU.wf (by decide)
    have hq1 := (hq.fr f1').q hS1
    have hy1 : mV σ 246 18 = s.1.2.2 := hS.1.2.2.2
    refine ⟨by unfold Rg; omega, ?_⟩
    rw [hy1]
    refine R_put.r (c := cdS s.1.2.2 63) (kt := kt) hS1.1 hS1.2.1 hB (rd_cd hy (by decide)).1.symm (rd_cd hy (by decide)).2.symm ⟨fun s2 σ2 q1 q2 => ?_, fun e σ2 q1 q2 q3 => ?_⟩
    · have hy2 : mV σ2 246 18 = s.1.2.2 := by
        rw [q2.1.1.f (by decide) (by decide), wV_ne (Or.inr (by decide))]
        exact hy1
      show R_put 63 (mV σ2 246 18) σ2 _
      rw [hy2]
      refine R_put.r (c := cdS s.1.2.2 63) (kt := kt) q2.2.2.1 q2.2.2.2 (BdR.put (show BdR g kt (sUn s (s.2.2.2.2.2.2 + 1)) from hB) q1) (rd_cd hy (by decide)).1.symm (rd_cd hy (by decide)).2.symm ⟨fun s3 σ3 q4 q5 => ?_, fun e σ3 q4 q5 q6 => ?_⟩
      · exact (((hq1.bd q1 q2).bd q4 q5).1 s3 σ3 rfl (PoR.rf q5.2.2.1 q5.2.2.2))
      · exact (hq1.bd q1 q2).no q4 q5 q6
    · exact R_put.nx (by rw [q2.1]; exact q2.2.1) (hq1.no q1 q2 q3)
  · have hx0 : ¬ ixW E.2.1.1 0 (ms7 A) = -1 := by omega
    rw [if_neg hx0] at hq ⊢
    obtain ⟨i, hi9⟩ : ∃ i : Nat, ixW E.2.1.1 0 (ms7 A) = (i : Int) := ⟨(ixW E.2.1.1 0 (ms7 A)).toNat, by omega⟩
    rw [hi9] at hq hx ⊢
    rw [Int.toNat_natCast] at hq
    have hiN : i < E.2.1.1.length := by omega
    have el : 60 * ((1 - X.1 : Nat) : Int) + (i : Int) = ((60 * (1 - X.1) + i : Nat) : Int) := by omega
    refine ⟨fun _ => ⟨pR, fun h0 => ?_, fun h0 => ?_⟩, fun h9 => absurd h9 (by omega)⟩
    · have hk : k = 19 := by
        have := of_decide_eq_false (bZ_z (by rw [← hpg]; exact h0))
        omega
      rw [if_pos hk] at hq
      rw [el]
      obtain ⟨g1, g2⟩ := c3 i (by omega)
      exact R_refers_98.r (by omega) (E5.at i).2 (E5.at i).1 g1 g2 hS.1 hS.2.1 hB hy (hq.q hS)
    · have hk : ¬ k = 19 := of_decide_eq_true (bZ_ne (by rw [← hpg]; exact h0))
      rw [if_neg hk] at hq
      obtain ⟨d1, d2⟩ := d12 (by omega)
      rw [el, Int.toNat_natCast, d1, d2, c4 i hiN]
      have pb : 0 ≤ E.2.1.2.2.1.getD i 0 ∧ E.2.1.2.2.1.getD i 0 ≤ 100 := E6 _ (by
        rw [List.getD_eq_getElem?_getD, List.getElem?_eq_getElem (by omega)]
        exact List.getElem_mem (by omega))
      refine ⟨by omega, by omega, by unfold Rg; omega, ?_⟩
      exact R_told.r (by omega) (E8 (by omega)) (fun _ => by omega) hS.1 hS.2.1 hB hy (hq.q hS)
/-- the last sign that isn't blank -/
theorem R_latest.r (hO : RxO σ 0 s) (hok : okK s.2.1) (hl : s.2.1.length ≤ 60100) (hq : Q (.inl (some (lsP s.2.1))) σ) : R_latest σ Q := by
  obtain ⟨o1, o2⟩ := hO
  have key : ∀ (n : Nat) (M r : List Int), M.length = n → s.2.1 = M ++ r → Q (.inl (some (lsP M))) σ → R_latest_7 ((n : Int) - 1) σ Q := by
    intro n
    induction n with
    | zero =>
      intro M r hM he hq
      have : M = [] := List.eq_nil_of_length_eq_zero hM
      subst this
      exact R_latest_7.i ⟨by decide, fun _ => ⟨by decide, hq⟩, fun h9 => absurd h9 (by decide)⟩
    | succ n ih =>
      intro M r hM he hq
      obtain ⟨q, c, rfl⟩ := snoc_of (L := M) (by omega)
      rw [List.length_append, List.length_singleton] at hM
      have hlen : s.2.1.length = q.length + 1 + r.length := by rw [he, List.length_append, List.length_append, List.length_singleton]
      have hc : s.2.1.getD n 0 = c := by
        rw [he, List.append_assoc, show n = q.length by omega, List.getD_eq_getElem?_getD, List.getElem?_append_right (Nat.le_refl _), Nat.sub_self]
        rfl
      rw [show ((n + 1 : Nat) : Int) - 1 = (n : Int) by omega]
      rw [lsP_sn] at hq
      have h1 := o2.at (i := n) (by omega)
      rw [Nat.zero_add, hc] at h1
      have okc : okC c := by
        rw [← hc]
        exact hok.gd (by omega)
      refine R_latest_7.i ⟨by unfold Rg; omega, fun h9 => absurd h9 (by omega), fun _ => R_at.i ⟨by omega, by omega, ?_⟩⟩
      show R_shown (mV σ 254 ((n : Int).toNat) % 256) σ _
      rw [Int.toNat_natCast, h1]
      refine R_shown.s rdG_r ?_
      show (¬ shS (rdG c) = 32 → _) ∧ _
      rw [shS_rd okc]
      refine ⟨fun d => ⟨by unfold Rg; omega, ?_⟩, fun d => ?_⟩
      · rw [if_neg d, show q.length = n by omega] at hq
        exact hq
      · rw [if_pos d] at hq
        have := ih q (c :: r) (by omega) (by rw [he, List.append_assoc]; rfl) hq
        rw [show (n : Int) + -1 = (n : Int) - 1 by omega]
        exact this
  refine R_latest.i ?_
  rw [o1, Nat.zero_add]
  exact key _ s.2.1 [] rfl (List.append_nil _).symm hq
end
