/-! THE REFERENCE WORKS TEXTS: the whole state; counters, references -/
/-- bank; notes, labels, keys as the text began -/
abbrev RY9 : Type := Nat × Nat × Nat × Nat × Int
def RxS (X : RY9) (g kt c D : Nat) (a : Bool) (E : TE) (O : List Int) (σ : MS) (s : TS) : Prop := RxW σ s ∧ RxO σ g s ∧ RxM (0 < E.2.2.2) σ X.1 X.2.1 X.2.2.1 X.2.2.2.1 X.2.2.2.2 (if a = true then O else s.2.1) s.2.2 ∧ RxP σ kt c D a E
def UOk (Q : MQ9) (X : RY9) (g kt c D : Nat) (a : Bool) (E : TE) (O : List Int) (σ0 : MS) (r : TR) : Prop := (∀ s' σ', r = .inl s' → RxS X g kt c D a E O σ' s' → FrU g kt c X.1 σ0 σ' → Q (.inl none) σ') ∧ (∀ e σ', r = .inr e → FaR g kt σ' e → RxP σ' kt c D a E → FrU g kt c X.1 σ0 σ' → Q (.inl none) σ')
theorem set_gt {L : List Int} {i q : Nat} {v : Int} : (L.set i v).getD q 0 = if i = q ∧ q < L.length then v else L.getD q 0 := by
  rw [List.getD_eq_getElem?_getD, List.getD_eq_getElem?_getD, List.getElem?_set]
  by_cases e : i = q
  · subst e
    by_cases h : i < L.length
    · rw [if_pos rfl, if_pos h, if_pos ⟨rfl, h⟩]
      rfl
    · rw [if_pos rfl, if_neg h, if_neg (fun h9 => h h9.2), List.getElem?_eq_none (by omega)]
  · rw [if_neg e, if_neg (fun h9 => e h9.1)]
section
variable {σ σ0 σ1 σ2 : MS} {Q : MQ9} {g kt u c D nw n0 l0 k0 : Nat} {a : Bool} {E : TE} {O : List Int} {X : RY9} {s s1 s2 : TS} {A L P : List Int} {x y p : Int} {m : TM} {S K : List Nat}
theorem FrU.rf : FrU g kt c nw σ σ := FrA.rf
theorem FrU.tr (h : FrU g kt c nw σ σ1) (h' : FrU g kt c nw σ1 σ2) : FrU g kt c nw σ σ2 := FrA.tr h h'
theorem UOk.bd {r : TR} {f : TS → TR} (h : UOk Q X g kt c D a E O σ (tBd r f)) (e : r = .inl s1) (h1 : FrU g kt c X.1 σ σ1) : UOk Q X g kt c D a E O σ1 (f s1) := by
  subst e
  exact ⟨fun s' σ' e' q q2 => h.1 s' σ' e' q (h1.tr q2), fun e' σ' he q q2 q3 => h.2 e' σ' he q q2 (h1.tr q3)⟩
theorem UOk.fr {r : TR} (h : UOk Q X g kt c D a E O σ r) (h1 : FrU g kt c X.1 σ σ1) : UOk Q X g kt c D a E O σ1 r := ⟨fun s' σ' e' q q2 => h.1 s' σ' e' q (h1.tr q2), fun e' σ' he q q2 q3 => h.2 e' σ' he q q2 (h1.tr q3)⟩
theorem UOk.no {r : TR} {f : TS → TR} (h : UOk Q X g kt c D a E O σ (tBd r f)) {e : Int × Int × Int} (he : r = .inr e) (h1 : FaR g kt σ1 e) (h2 : RxP σ1 kt c D a E) (h3 : FrU g kt c X.1 σ σ1) : Q (.inl none) σ1 := by
  subst he
  exact h.2 e σ1 rfl h1 h2 h3
theorem PuR.mk9 (h : PuR s s1) : s1.2.2 = s.2.2 ∧ ∃ L, s1.2.1 = s.2.1 ++ L := by
  obtain ⟨L, rfl⟩ := h
  exact ⟨rfl, L, rfl⟩
theorem RxM.pu {b : Prop} {d : Int} (h : RxM b σ nw n0 l0 k0 d (if a = true then O else s.2.1) s.2.2) (q : FrQ σ σ1) (hp : PuR s s1) : RxM b σ1 nw n0 l0 k0 d (if a = true then O else s1.2.1) s1.2.2 := by
  obtain ⟨e, L, e2⟩ := hp.mk9
  rw [e, e2]
  cases a with
  | true => exact h.v q
  | false => exact (h.v q).px
theorem RxS.po (h : RxS X g kt c D a E O σ s) (hp : PoR g σ s σ1 s1) : RxS X g kt c D a E O σ1 s1 := ⟨hp.2.2.1, hp.2.2.2, h.2.2.1.pu hp.1.v hp.2.1, h.2.2.2.p hp.1⟩
theorem UOk.q {r : TR} (h : UOk Q X g kt c D a E O σ r) (hs : RxS X g kt c D a E O σ s) : POk Q g kt σ s r := ⟨fun s' σ' e q => h.1 s' σ' e (hs.po q) q.1.u, fun e σ' he q q2 => h.2 e σ' he q (hs.2.2.2.p q2) q2.u⟩
theorem RxS.fl {k : Int} (hk : k ≠ 0) (h : RxS X g kt c D a E O σ s) (hB : BdR g kt s) (hq : UOk Q X g kt c D a E O σ (tFl k s)) : Q (.inl none) (wV σ 246 28 k) := hq.2 _ _ rfl (FaR.fl hk h.1 h.2.1 hB) (h.2.2.2.p (FrP.w (g := g) (by decide))) (FrU.wf (by decide))
/-! pieces that stay -/
theorem RxC.z (h : RxC σ m) (q : FrZ S K σ σ1) (h1 : ∀ z ∈ [246, 276, 277, 278], z ∉ S) (h2 : ∀ k ∈ [58], k ∉ K) : RxC σ1 m := ⟨(q.f (h2 _ (by decide)) (h1 _ (by decide))).trans h.1, h.2.1.cg (fun k => q.z (h1 _ (by decide)) (by decide)) (fun k => q.z (h1 _ (by decide)) (by decide)), fun i hi => by rw [q.z (h1 _ (by decide)) (by decide)]; exact h.2.2 i hi⟩
theorem RxL.z (h : RxL σ nw m) (q : FrZ S K σ σ1) (h1 : ∀ z ∈ [279, 280, 281, 282, 285], z ∉ S) : RxL σ1 nw m := ⟨(q.z (h1 _ (by decide)) (by decide)).trans h.1, h.2.1.cg (fun k => q.z (h1 _ (by decide)) (by decide)) (fun k => q.z (h1 _ (by decide)) (by decide)), h.2.2.cg (fun k => q.z (h1 _ (by decide)) (by decide)) (fun k => q.z (h1 _ (by decide)) (by decide))⟩
theorem RxK.z (h : RxK σ nw m) (q : FrZ S K σ σ1) (h1 : ∀ z ∈ [246, 293, 294, 295, 298], z ∉ S) (h2 : ∀ k ∈ [81], k ∉ K) : RxK σ1 nw m := ⟨(q.z (h1 _ (by decide)) (by decide)).trans h.1, (q.f (h2 _ (by decide)) (h1 _ (by decide))).trans h.2.1, fun i hi => ⟨(q.z (h1 _ (by decide)) (by decide)).trans (h.2.2 i hi).1, (q.z (h1 _ (by decide)) (by decide)).trans (h.2.2 i hi).2.1, (h.2.2 i hi).2.2.cg (fun k _ _ => q.z (h1 _ (by decide)) (by decide))⟩⟩
theorem RxN.z (h : RxN σ n0 m) (q : FrZ S K σ σ1) (h1 : ∀ z ∈ [246, 254, 255, 301, 302], z ∉ S) (h2 : ∀ k ∈ [17, 86], k ∉ K) : RxN σ1 n0 m := ⟨(q.f (h2 _ (by decide)) (h1 _ (by decide))).trans h.1, h.2.1, (q.f (h2 _ (by decide)) (h1 _ (by decide))).trans h.2.2.1, fun i hi => ⟨(q.z (h1 _ (by decide)) (by decide)).trans (h.2.2.2 i hi).1, (q.z (h1 _ (by decide)) (by decide)).trans (h.2.2.2 i hi).2.1, (h.2.2.2 i hi).2.2.cg (fun k _ _ => ⟨q.z (h1 _ (by decide)) (by decide), q.z (h1 _ (by decide)) (by decide)⟩)⟩⟩
theorem WtR.z (h : WtR σ n0 l0 k0 P m) (q : FrZ S K σ σ1) (h1 : ∀ z ∈ [246, 305, 306, 307], z ∉ S) (h2 : ∀ k ∈ [94], k ∉ K) : WtR σ1 n0 l0 k0 P m := by
  obtain ⟨W, w1, w2, w3⟩ := h
  exact ⟨W, (q.f (h2 _ (by decide)) (h1 _ (by decide))).trans w1, fun i hi => ⟨(q.z (h1 _ (by decide)) (by decide)).trans (w2 i hi).1, (q.z (h1 _ (by decide)) (by decide)).trans (w2 i hi).2.1, (q.z (h1 _ (by decide)) (by decide)).trans (w2 i hi).2.2⟩, w3⟩
theorem RxP.z (h : RxP σ kt c D a E) (q : FrZ S K σ σ1) (h1 : 246 ∉ S) (h2 : ∀ k ∈ [21, 22, 31, 95, 33, 85], k ∉ K) : RxP σ1 kt c D a E := ⟨(q.f (h2 _ (by decide)) h1).trans h.1, (q.f (h2 _ (by decide)) h1).trans h.2.1, (q.f (h2 _ (by decide)) h1).trans h.2.2.1, (q.f (h2 _ (by decide)) h1).trans h.2.2.2.1, h.2.2.2.2.z q h1 (fun k hk => h2 k (by revert hk; simp only [List.mem_cons, List.not_mem_nil, or_false]; omega))⟩
theorem RxW.z (h : RxW σ s) (q : FrZ S K σ σ1) (h1 : 246 ∉ S) (h2 : ∀ k ∈ [18, 28, 32, 33], k ∉ K) : RxW σ1 s := h.r (q.f (h2 _ (by decide)) h1) (q.f (h2 _ (by decide)) h1) (q.f (h2 _ (by decide)) h1) (q.f (h2 _ (by decide)) h1)
theorem RxO.z (h : RxO σ g s) (q : FrZ S K σ σ1) (h1 : ∀ z ∈ [246, 254, 255], z ∉ S) (h2 : 16 ∉ K) : RxO σ1 g s := ⟨(q.f h2 (h1 _ (by decide))).trans h.1, h.2.cg (fun k _ _ => ⟨q.z (h1 _ (by decide)) (by decide), q.z (h1 _ (by decide)) (by decide)⟩)⟩
/-! counters -/
theorem cn_21 {st sys n : Int} {j : Nat} {N : List (List Int)} (hj : j < 400) (h5 : mV σ 246 58 = (N.length : Int)) (hN : nmS σ 276 277 12 0 N) (hN20 : N.length ≤ 20) (hsm : smW 12 N) (hn : n = (A.length : Int)) (ej1 : mV σ 261 j = (u : Int)) (hA : hoG σ 257 258 u A) (hu : u + A.length ≤ 60100) (hK : keyD A = true) (hok : okK A) : ∀ (r p : List (List Int)), N = p ++ r → R_counts_127 st (j : Int) sys n (ixW r (p.length : Int) (ms7 A)) σ Q → R_counts_21 st (j : Int) sys n (-1) (p.length : Int) σ Q
  | [], p, he, hq => by
    have hl : N.length = p.length := by rw [he, List.append_nil]
    refine R_counts_21.i ⟨by unfold Rg; omega, fun _ => hq, fun h9 => absurd h9 (by rw [h5]; omega)⟩
  | w :: r, p, he, hq => by
    have hl : N.length = p.length + 1 + r.length := by rw [he, List.length_append, List.length_cons]; omega
    obtain ⟨w1, w3⟩ := hN p.length (by omega)
    have ew : N.getD p.length [] = w := by rw [he]; exact getD_at
    have w2 := (hsm.at p.length).1
    rw [ew] at w1 w2 w3
    rw [Nat.zero_add] at w1 w3
    have k12 := (keyD_i hK).2
    unfold ixW at hq
    have lA := ms7_len (L := A)
    have en : ((p.length : Nat) : Int).toNat = p.length := rfl
    have ej : ((j : Nat) : Int).toNat = j := rfl
    have h93 : ∀ t : Bool, t = decide (w = ms7 A) → R_counts_112 st (j : Int) sys n (-1) (p.length : Int) (bZ t) σ Q := by
      intro t ht
      subst ht
      refine R_counts_112.i ⟨fun b => R_counts_121.i ?_, fun b => R_counts_121.i ?_⟩
      · rw [if_neg (of_decide_eq_false (bZ_z b))] at hq
        have := cn_21 hj h5 hN hN20 hsm hn ej1 hA hu hK hok r (p ++ [w]) (by rw [he, List.append_assoc]; rfl) (by rw [List.length_append, List.length_singleton]; exact hq)
        rw [List.length_append, List.length_singleton] at this
        exact this
      · rw [if_pos (of_decide_eq_true (bZ_ne b))] at hq
        exact R_counts_21.i ⟨by unfold Rg; omega, fun _ => hq, fun _ => ⟨by unfold Rg; omega, fun _ => hq, fun h9 => absurd h9 (by omega)⟩⟩
    have m0 : ¬ w = ms7 A → R_counts_112 st (j : Int) sys n (-1) (p.length : Int) 0 σ Q := fun h => h93 false (decide_eq_false h).symm
    have m1 : w = ms7 A → R_counts_112 st (j : Int) sys n (-1) (p.length : Int) 1 σ Q := fun h => h93 true (decide_eq_true h).symm
    refine R_counts_21.i ⟨by unfold Rg; omega, fun h9 => absurd h9 (by rw [h5]; omega), fun _ => ⟨by decide, fun h9 => absurd h9 (by decide), fun _ => ⟨by omega, by omega, by unfold Rg; omega, ?_⟩⟩⟩
    rw [en, w1]
    refine ⟨fun b => R_counts_52.i ?_, fun b => R_counts_52.i ?_⟩
    · have hn : ¬ w = ms7 A := fun e => b (by rw [e, lA]; exact hn.symm)
      exact R_counts_57.i ⟨by decide, by unfold Rg; omega, fun _ => m0 hn, fun _ => ⟨fun _ => m0 hn, fun h9 => absurd rfl h9⟩⟩
    · have hwl : w.length = A.length := by omega
      refine loopIs (P := fun is i => R_counts_57 st (j : Int) sys n (-1) (p.length : Int) is i σ Q) (f := fun i => decide (w.getD i 0 = (ms7 A).getD i 0)) (n := A.length) (fun i hi h => ?_) (fun e => ?_) (fun e i hi => ?_)
      · obtain ⟨k1, k0⟩ := bZ_q (P := fun r => R_counts_57 st (j : Int) sys n (-1) (p.length : Int) r ((i : Int) + 1) σ Q) h
        refine R_counts_57.i ⟨by unfold Rg; omega, by unfold Rg; omega, fun h9 => absurd h9 (by omega), fun _ => ⟨fun h9 => absurd h9 (by decide), fun _ => ?_⟩⟩
        rw [ej, ej1]
        refine ⟨by omega, by omega, by omega, by omega, by omega, by omega, ?_⟩
        rw [show (12 * (p.length : Int) + (i : Int)).toNat = 12 * p.length + i by omega, show ((u : Int) + (i : Int)).toNat = u + i by omega, w3 i (by omega), hA.key hK hok hi]
        exact ⟨fun b => R_counts_104.i (k0 (decide_eq_false b)), fun b => R_counts_104.i (k1 (decide_eq_true b))⟩
      · have hwU : w = ms7 A := list_ext (by omega) (fun i hi => of_decide_eq_true (allR_i.mp e i (by omega)))
        exact R_counts_57.i ⟨by unfold Rg; omega, by unfold Rg; omega, fun _ => m1 hwU, fun h9 => absurd h9 (by omega)⟩
      · have hn : ¬ w = ms7 A := fun e2 => by
          have : allR (fun i => decide (w.getD i 0 = (ms7 A).getD i 0)) A.length = true := allR_i.mpr (fun i _ => decide_eq_true (by rw [e2]))
          rw [this] at e
          exact Bool.noConfusion e
        exact R_counts_57.i ⟨by unfold Rg; omega, by unfold Rg; omega, fun _ => m0 hn, fun _ => ⟨fun _ => m0 hn, fun h9 => absurd rfl h9⟩⟩
/-- only the counters' arrays change -/
theorem RxS.cn {N : List (List Int)} {V : List Int} (h : RxS X g kt c D a E O σ s) (q : FrZ [276, 277, 278] [58] σ σ1) (hc : RxC σ1 ((N, V), s.2.2.2)) : RxS X g kt c D a E O σ1 (sCn s N V) := by
  obtain ⟨h1, h2, ⟨m1, m2, m3, m4, m5, m6⟩, h4⟩ := h
  exact ⟨h1.z q (by decide) (by decide), h2.z q (by decide) (by decide), ⟨hc, fun b9 => (m2 b9).z q (by decide), fun b9 => (m3 b9).z q (by decide) (by decide), fun b9 => (m4 b9).z q (by decide) (by decide), ⟨(q.f (by decide) (by decide)).trans m5.1, m5.2⟩, fun b9 => (m6 b9).z q (by decide) (by decide)⟩, h4.z q (by decide) (by decide)⟩
theorem FrZ.uc (q : FrZ [276, 277, 278] [58] σ σ1) : FrU g kt c nw σ σ1 := ⟨q.1, q.2.1, fun z k n => by
  refine q.2.2 z k (fun hz => n (Or.inr ⟨?_, ?_, Or.inl ?_⟩)) ?_
  · simp only [List.mem_cons, List.not_mem_nil, or_false] at hz
    rcases hz with rfl | rfl | rfl <;> decide
  · simp only [List.mem_cons, List.not_mem_nil, or_false] at hz
    rcases hz with rfl | rfl | rfl <;> exact Nat.zero_le _
  · simp only [List.mem_cons, List.not_mem_nil, or_false] at hz
    rcases hz with rfl | rfl | rfl <;> rfl
  · by_cases e : z = 246
    · refine Or.inr (fun hk => n (Or.inl ⟨e, ?_⟩))
      simp only [List.mem_cons, List.not_mem_nil, or_false] at hk
      subst hk
      decide
    · exact Or.inl e⟩
theorem R_counts.r {st sys k : Int} {j : Nat} (hj : j < 400) (hst : st = bZ (decide (k = 13))) (hs : 1 ≤ sys ∧ sys ≤ 5) (hA : ArG σ j kt A) (hok : okK A) (hK : keyD A = true) (hS : RxS X g kt c D a E O σ s) (hi : TI p 0 s) (hp : ((g + kt : Nat) : Int) ≤ p)
    (hq : UOk Q X g kt c D a E O σ (if ixW s.2.2.1.1 0 (ms7 A) = -1 then
      (if k = 13 then (if 20 ≤ s.2.2.1.1.length then tFl 9 s else tPn (wrN 1 sys) (sCn s (s.2.2.1.1 ++ [ms7 A]) (s.2.2.1.2 ++ [1])))
      else tPn (wrN 0 sys) s)
    else if k = 13 then tPn (wrN (s.2.2.1.2.getD (ixW s.2.2.1.1 0 (ms7 A)).toNat 0 + 1) sys) (sCn s s.2.2.1.1 (s.2.2.1.2.set (ixW s.2.2.1.1 0 (ms7 A)).toNat (s.2.2.1.2.getD (ixW s.2.2.1.1 0 (ms7 A)).toNat 0 + 1)))
    else tPn (wrN (s.2.2.1.2.getD (ixW s.2.2.1.1 0 (ms7 A)).toNat 0) sys) s)) : R_counts st (j : Int) sys σ Q := by
  have hB := hi.bd hp
  obtain ⟨u, e1, e2, e3, hG⟩ := hA
  have hu : u + A.length ≤ 60100 := by
    have := hB.2.2
    have := hB.1
    omega
  obtain ⟨⟨a1, a2, hy, a4⟩, ⟨b1, b2, b3, b4⟩, -, -, -, -, -⟩ := id hi
  obtain ⟨c1, c2, c3⟩ := hS.2.2.1.1
  have ej : ((j : Nat) : Int).toNat = j := rfl
  have k12 := (keyD_i hK)
  have lA := ms7_len (L := A)
  have stR : Rg st := by rw [hst]; unfold bZ; split <;> decide
  refine R_counts.i ⟨by omega, by omega, by omega, by omega, ?_⟩
  rw [ej, e1, e2, show ((u + A.length : Nat) : Int) - (u : Int) = (A.length : Int) by omega]
  refine cn_21 hj c1 c2 b2 b3 rfl e1 hG hu hK hok s.2.2.1.1 [] rfl ?_
  rw [List.length_nil]
  rcases ixW_b s.2.2.1.1 0 (ms7 A) with hx | hx
  · rw [if_pos hx] at hq
    show R_counts_127 st (j : Int) sys (A.length : Int) (ixW s.2.2.1.1 0 (ms7 A)) σ Q
    rw [hx]
    refine R_counts_127.i ⟨stR, fun h0 => ?_, fun h0 => ⟨by decide, fun h9 => absurd h9 (by decide), fun _ => ?_⟩⟩
    · have hk : ¬ k = 13 := of_decide_eq_false (bZ_z (by rw [← hst]; exact h0))
      rw [if_neg hk] at hq
      refine R_counts_228.i ⟨stR, fun _ => R_counts_243.i ⟨by decide, fun h9 => absurd h9 (by decide), fun _ => R_counts_261.i ?_⟩, fun h9 => absurd h0 h9⟩
      exact R_told.r (by decide) hs (fun _ => by decide) hS.1 hS.2.1 hB hy (hq.q hS)
    · have hk : k = 13 := of_decide_eq_true (bZ_ne (by rw [← hst]; exact h0))
      rw [if_pos hk] at hq
      have d58 : mV σ 246 58 = (s.2.2.1.1.length : Int) := c1
      by_cases h20 : 20 ≤ s.2.2.1.1.length
      · rw [if_pos h20] at hq
        refine ⟨fun h9 => absurd (by rw [d58]; omega) h9, fun _ => R_fail.r (by decide) hS.1 ?_⟩
        exact hS.fl (by decide) hB hq
      · rw [if_neg h20] at hq
        refine ⟨fun _ => ?_, fun h9 => absurd h9 (by rw [d58]; omega)⟩
        rw [d58, Int.toNat_natCast]
        refine ⟨by unfold Rg; omega, by omega, by omega, by unfold Rg; omega, by omega, by omega, ?_⟩
        generalize hσ : wV (wV (wV σ 246 58 ((s.2.2.1.1.length : Int) + 1)) 277 s.2.2.1.1.length (A.length : Int)) 278 s.2.2.1.1.length 0 = σ3
        have f3 : FrZ [276, 277, 278] [58] σ σ3 := by
          rw [← hσ]
          exact ((FrZ.wf (by decide)).tr (FrZ.wz (by decide))).tr (FrZ.wz (by decide))
        refine loopF (P := fun i σ' => R_counts_188 st (j : Int) sys (A.length : Int) (s.2.2.1.1.length : Int) i σ' Q) (z := 276) (a := 12 * s.2.2.1.1.length) (n := A.length) (f := fun i => (ms7 A).getD i 0) (fun i hi k9 => ?_) ?_
        · have t1 : mV (wF σ3 276 (12 * s.2.2.1.1.length) (ofF (fun i => (ms7 A).getD i 0) i)) 261 j = (u : Int) := by
            rw [wF_ne (Or.inl (by decide)), f3.z (by decide) (by decide)]
            exact e1
          have t2 : mV (wF σ3 276 (12 * s.2.2.1.1.length) (ofF (fun i => (ms7 A).getD i 0) i)) 257 (u + i) = (ms7 A).getD i 0 := by
            rw [wF_ne (Or.inl (by decide)), f3.z (by decide) (by decide)]
            exact hG.key hK hok hi
          refine R_counts_188.i ⟨by unfold Rg; omega, by unfold Rg; omega, fun h9 => absurd h9 (by omega), fun _ => ?_⟩
          rw [ej, t1, show ((u : Int) + (i : Int)).toNat = u + i by omega, t2, show (12 * (s.2.2.1.1.length : Int) + (i : Int)).toNat = 12 * s.2.2.1.1.length + i by omega, ms7_sm.at (by omega)]
          exact ⟨by omega, by omega, by omega, by omega, by omega, by omega, k9⟩
        · rw [← lA, ofF_list]
          generalize hσ4 : wF σ3 276 (12 * s.2.2.1.1.length) (ms7 A) = σ4
          have f4 : FrZ [276, 277, 278] [58] σ σ4 := by
            rw [← hσ4]
            exact f3.tr (FrZ.wF (by decide))
          have v4 : mV σ4 278 s.2.2.1.1.length = 0 := by
            rw [← hσ4, wF_ne (Or.inl (by decide)), ← hσ, wV_self]
          refine R_counts_188.i ⟨by unfold Rg; omega, by unfold Rg; omega, fun _ => ?_, fun h9 => absurd h9 (by omega)⟩
          refine R_counts_228.i ⟨stR, fun h9 => absurd h9 h0, fun _ => ⟨by omega, by omega, by omega, by omega, ?_⟩⟩
          rw [Int.toNat_natCast, v4]
          refine ⟨by decide, R_counts_243.i ⟨by unfold Rg; omega, fun _ => ⟨by omega, by omega, R_counts_261.i ?_⟩, fun h9 => absurd h9 (by omega)⟩⟩
          rw [Int.toNat_natCast, wV_self]
          have f5 : FrZ [276, 277, 278] [58] σ (wV σ4 278 s.2.2.1.1.length (0 + 1)) := f4.tr (FrZ.wz (by decide))
          have hS5 : RxS X g kt c D a E O (wV σ4 278 s.2.2.1.1.length (0 + 1)) (sCn s (s.2.2.1.1 ++ [ms7 A]) (s.2.2.1.2 ++ [1])) := by
            refine hS.cn f5 ⟨?_, fun q hq9 => ?_, fun q hq9 => ?_⟩
            · rw [wV_ne (Or.inl (by decide)), ← hσ4, wF_ne (Or.inl (by decide)), ← hσ, wV_ne (Or.inl (by decide)), wV_ne (Or.inl (by decide)), wV_self]
              show (s.2.2.1.1.length : Int) + 1 = ((s.2.2.1.1 ++ [ms7 A]).length : Int)
              rw [List.length_append, List.length_singleton]
              omega
            · show mV _ 277 (0 + q) = (((s.2.2.1.1 ++ [ms7 A]).getD q []).length : Int) ∧ holA _ 276 (12 * (0 + q)) ((s.2.2.1.1 ++ [ms7 A]).getD q [])
              have hq9 : q < (s.2.2.1.1 ++ [ms7 A]).length := hq9
              rw [List.length_append, List.length_singleton] at hq9
              rw [Nat.zero_add]
              by_cases e : q = s.2.2.1.1.length
              · have eg : (s.2.2.1.1 ++ [ms7 A]).getD q [] = ms7 A := by rw [e]; exact getD_at
                rw [eg]
                refine ⟨?_, fun i hi => ?_⟩
                · rw [wV_ne (Or.inl (by decide)), ← hσ4, wF_ne (Or.inl (by decide)), ← hσ, wV_ne (Or.inl (by decide)), e, wV_self, lA]
                · rw [wV_ne (Or.inl (by decide)), ← hσ4, e, wF_at hi]
              · have eg : (s.2.2.1.1 ++ [ms7 A]).getD q [] = s.2.2.1.1.getD q [] := by
                  rw [List.getD_eq_getElem?_getD, List.getD_eq_getElem?_getD, List.getElem?_append_left (by omega)]
                rw [eg]
                obtain ⟨d1, d2⟩ := c2 q (by show q < s.2.2.1.1.length; omega)
                rw [Nat.zero_add] at d1 d2
                have d3 := (b3.at q).1
                refine ⟨?_, d2.cg (fun k k1 k2 => ?_)⟩
                · rw [wV_ne (Or.inl (by decide)), ← hσ4, wF_ne (Or.inl (by decide)), ← hσ, wV_ne (Or.inl (by decide)), wV_ne (Or.inr e), wV_ne (Or.inl (by decide))]
                  exact d1
                · have k2 : k < 12 * q + (s.2.2.1.1.getD q []).length := k2
                  rw [wV_ne (Or.inl (by decide)), ← hσ4, wF_ne (Or.inr (Or.inl (by omega))), ← hσ, wV_ne (Or.inl (by decide)), wV_ne (Or.inl (by decide)), wV_ne (Or.inl (by decide))]
            · show mV _ 278 q = (s.2.2.1.2 ++ [1]).getD q 0
              have hq9 : q < (s.2.2.1.2 ++ [1]).length := hq9
              rw [List.length_append, List.length_singleton] at hq9
              by_cases e : q = s.2.2.1.1.length
              · rw [e, wV_self, ← b1, getD_s]
                rfl
              · rw [wV_ne (Or.inr e), getD_l (by omega), ← hσ4, wF_ne (Or.inl (by decide)), ← hσ, wV_ne (Or.inr e), wV_ne (Or.inl (by decide)), wV_ne (Or.inl (by decide))]
                exact c3 q (by show q < s.2.2.1.2.length; omega)
          refine R_told.r (s := sCn s (s.2.2.1.1 ++ [ms7 A]) (s.2.2.1.2 ++ [1])) (by decide) hs (fun _ => by decide) hS5.1 hS5.2.1 hB hy ?_
          have := (hq.fr (FrZ.uc f5)).q hS5
          exact this
  · have hx0 : ¬ ixW s.2.2.1.1 0 (ms7 A) = -1 := by omega
    rw [if_neg hx0] at hq
    show R_counts_127 st (j : Int) sys (A.length : Int) (ixW s.2.2.1.1 0 (ms7 A)) σ Q
    obtain ⟨i, hi9⟩ : ∃ i : Nat, ixW s.2.2.1.1 0 (ms7 A) = (i : Int) := ⟨(ixW s.2.2.1.1 0 (ms7 A)).toNat, by omega⟩
    rw [hi9] at hq hx ⊢
    rw [Int.toNat_natCast] at hq
    have hiv : i < s.2.2.1.2.length := by omega
    have vi := c3 i hiv
    have vb : 0 ≤ s.2.2.1.2.getD i 0 ∧ s.2.2.1.2.getD i 0 ≤ 60000 := by
      have := b4 (s.2.2.1.2.getD i 0) (by rw [List.getD_eq_getElem?_getD, List.getElem?_eq_getElem hiv]; exact List.getElem_mem hiv)
      omega
    have vi2 : mV σ 278 i = s.2.2.1.2.getD i 0 := vi
    refine R_counts_127.i ⟨stR, fun h0 => ?_, fun h0 => ⟨by unfold Rg; omega, fun _ => ?_, fun h9 => absurd h9 (by omega)⟩⟩
    · have hk : ¬ k = 13 := of_decide_eq_false (bZ_z (by rw [← hst]; exact h0))
      rw [if_neg hk] at hq
      refine R_counts_228.i ⟨stR, fun _ => R_counts_243.i ⟨by unfold Rg; omega, fun _ => ⟨by omega, by omega, R_counts_261.i ?_⟩, fun h9 => absurd h9 (by omega)⟩, fun h9 => absurd h0 h9⟩
      rw [Int.toNat_natCast, vi2]
      exact R_told.r (by omega) hs (fun _ => by omega) hS.1 hS.2.1 hB hy (hq.q hS)
    · have hk : k = 13 := of_decide_eq_true (bZ_ne (by rw [← hst]; exact h0))
      rw [if_pos hk] at hq
      refine R_counts_228.i ⟨stR, fun h9 => absurd h9 h0, fun _ => ⟨by omega, by omega, by omega, by omega, ?_⟩⟩
      rw [Int.toNat_natCast, vi2]
      refine ⟨by unfold Rg; omega, R_counts_243.i ⟨by unfold Rg; omega, fun _ => ⟨by omega, by omega, R_counts_261.i ?_⟩, fun h9 => absurd h9 (by omega)⟩⟩
      rw [Int.toNat_natCast, wV_self]
      have f5 : FrZ [276, 277, 278] [58] σ (wV σ 278 i (s.2.2.1.2.getD i 0 + 1)) := FrZ.wz (by decide)
      have hS5 : RxS X g kt c D a E O (wV σ 278 i (s.2.2.1.2.getD i 0 + 1)) (sCn s s.2.2.1.1 (s.2.2.1.2.set i (s.2.2.1.2.getD i 0 + 1))) := by
        refine hS.cn f5 ⟨?_, c2.cg (fun k => wV_ne (Or.inl (by decide))) (fun k => wV_ne (Or.inl (by decide))), fun q hq9 => ?_⟩
        · rw [wV_ne (Or.inl (by decide))]
          exact c1
        · have hq9 : q < (s.2.2.1.2.set i (s.2.2.1.2.getD i 0 + 1)).length := hq9
          rw [List.length_set] at hq9
          show mV _ 278 q = (s.2.2.1.2.set i (s.2.2.1.2.getD i 0 + 1)).getD q 0
          by_cases e : i = q
          · subst e
            rw [wV_self, set_gt, if_pos ⟨rfl, hq9⟩]
          · rw [wV_ne (Or.inr (fun h => e h.symm)), set_gt, if_neg (fun h => e h.1)]
            exact c3 q hq9
      refine R_told.r (s := sCn s s.2.2.1.1 (s.2.2.1.2.set i (s.2.2.1.2.getD i 0 + 1))) (by omega) hs (fun _ => by omega) hS5.1 hS5.2.1 hB hy ?_
      exact (hq.fr (FrZ.uc f5)).q hS5
end
