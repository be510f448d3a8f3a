/-! PAGES: a page's head, the reference -/
/-- the last heading of the first level at or ahead of a place -/
def hdK (lv ps : List Int) (fr : Int) : Nat → Int
  | 0 => -1
  | n + 1 => if lv.getD n 0 = 1 ∧ ps.getD n 0 ≤ fr then (n : Int) else hdK lv ps fr n
def hdT (g : HG9) (fr : Int) (m : Nat) : List Int := if hdK g.2.1 g.2.2 fr g.1.length = -1 then [] else (g.1.getD (hdK g.2.1 g.2.2 fr g.1.length).toNat []).take m
def hdB (S : List Int) (c : Nat) : List Int := wrN (S.getD 11 0 + (c : Int)) (S.getD 12 0)
def hdM (S : List Int) (c : Nat) : Nat := (S.getD 0 0 - 1 - ((hdB S c).length : Int)).toNat
/-- a page's head -/
def hdD (S : List Int) (g : HG9) (c fr : Nat) : List Int := hdT g (fr : Int) (hdM S c) ++ List.replicate (S.getD 0 0 - ((hdB S c).length : Int) - ((hdT g (fr : Int) (hdM S c)).length : Int)).toNat 32 ++ hdB S c
def hdG (S : List Int) (g : HG9) (c fr : Nat) : List GL9 := if S.getD 10 0 = 1 then [(hdD S g c fr, 0, 0), ([], 0, 0)] else []
section
variable {σ σ0 : MS} {Q : MQ9} {room : Int} {F : List Int} {Ls : List GL9} {A : List Int} {sp : List (Int × Int)} {e nw c : Nat} {L0 : List GL9} {S : List Int} {g : HG9}
theorem hdK_b {lv ps : List Int} {fr : Int} : ∀ {n : Nat}, hdK lv ps fr n = -1 ∨ (0 ≤ hdK lv ps fr n ∧ hdK lv ps fr n < (n : Int))
  | 0 => Or.inl rfl
  | n + 1 => by
    have ih := hdK_b (lv := lv) (ps := ps) (fr := fr) (n := n)
    unfold hdK
    split
    · exact Or.inr ⟨by omega, by omega⟩
    · rcases ih with h | h
      · exact Or.inl h
      · exact Or.inr ⟨h.1, by omega⟩
theorem st_sm {x : Int} (h : 0 ≤ x ∧ x ≤ 127) : x % 128 = x ∧ stY x = 0 := by
  unfold stY
  omega
/-- the number, and the empty line behind it -/
theorem rhd_192 {lb T : List Int} (hb : smB lb) (hl6 : lb.length ≤ 60) (h143 : mV σ0 246 143 = (lb.length : Int)) (h337 : hol σ0 337 lb) (hl : L0.length + 1 < 6100) (hs : suM (L0.map (·.1)) + T.length + lb.length ≤ 80000) (hq : ∀ σ', PfR σ' (L0 ++ [(T ++ lb, 0, 0)] ++ [([], 0, 0)]) → FrPf σ0 σ' → Q (.inl none) σ') : ∀ (n k : Nat) (σ : MS), k + n = lb.length → PfR σ (L0 ++ [(T ++ lb.take k, 0, 0)]) → FrPf σ0 σ → R_head_192 (k : Int) σ Q := by
  intro n
  induction n with
  | zero =>
    intro k σ hk hp hf
    have e143 : mV σ 246 143 = (lb.length : Int) := (hf.f (by decide) (by decide)).trans h143
    have ek : k = lb.length := by omega
    rw [ek, List.take_length] at hp
    refine R_head_192.i ⟨by unfold Rg; omega, fun _ => ?_, fun h => by rw [e143] at h; omega⟩
    have := R_proofLine.p (Q := kV (thQ Q) fun σ1 => Q (.inl none) σ1) (o := 0) (pt := false) (fl := 0) (by decide) hp (by rw [List.length_append]; exact hl) (by rw [mp_sn, suM_s9, List.length_append]; omega) (by decide) (fun σ2 p2 f2 => hq σ2 p2 (hf.tr f2))
    exact this
  | succ n ih =>
    intro k σ hk hp hf
    have e143 : mV σ 246 143 = (lb.length : Int) := (hf.f (by decide) (by decide)).trans h143
    have e337 : mV σ 337 k = lb.getD k 0 := (hf.z (by decide) (by decide)).trans (h337 k (by omega))
    have sm := hb _ (gd_mem (L := lb) (i := k) (by omega))
    have st := st_sm sm
    refine R_head_192.i ⟨by unfold Rg; omega, fun h => by rw [e143] at h; omega, fun _ => ⟨by omega, by omega, ?_⟩⟩
    rw [Int.toNat_natCast, e337]
    refine R_proofSign.p (x := lb.getD k 0) (C := T ++ lb.take k) ⟨st.1, st.2⟩ sm (by decide) hp (by omega) (by rw [List.length_append, List.length_take]; omega) (fun σ2 p2 f2 => ?_)
    rw [show (k : Int) + 1 = ((k + 1 : Nat) : Int) by omega]
    exact ih (k + 1) σ2 (by omega) (by rw [take_sn (by omega), ← List.append_assoc]; exact p2) (hf.tr f2)
/-- blanks ahead of the number -/
theorem rhd_160 {lb T : List Int} {W : Int} (hW : 12 ≤ W ∧ W ≤ 80) (h0 : mV σ0 275 0 = W) (hb : smB lb) (hl6 : lb.length ≤ 60) (hT : T.length ≤ 80) (h143 : mV σ0 246 143 = (lb.length : Int)) (h337 : hol σ0 337 lb) (hl : L0.length + 1 < 6100) (hs : suM (L0.map (·.1)) + 300 ≤ 80000) (hq : ∀ σ', PfR σ' (L0 ++ [(T ++ List.replicate (W - (lb.length : Int) - (T.length : Int)).toNat 32 ++ lb, 0, 0)] ++ [([], 0, 0)]) → FrPf σ0 σ' → Q (.inl none) σ') : ∀ (n k : Nat) (σ : MS), k + n = (W - (lb.length : Int) - (T.length : Int)).toNat → PfR σ (L0 ++ [(T ++ List.replicate k 32, 0, 0)]) → FrPf σ0 σ → R_head_160 ((T.length + k : Nat) : Int) σ Q := by
  intro n
  induction n with
  | zero =>
    intro k σ hk hp hf
    have e143 : mV σ 246 143 = (lb.length : Int) := (hf.f (by decide) (by decide)).trans h143
    have e0 : mV σ 275 0 = W := (hf.z (by decide) (by decide)).trans h0
    have ek : k = (W - (lb.length : Int) - (T.length : Int)).toNat := by omega
    rw [ek] at hp
    refine R_head_160.i ⟨by decide, by decide, by unfold Rg; omega, by rw [e0, e143]; unfold Rg; omega, fun _ => ?_, fun h => by rw [e0, e143] at h; omega⟩
    exact rhd_192 (σ0 := σ0) (L0 := L0) (lb := lb) (T := T ++ List.replicate (W - (lb.length : Int) - (T.length : Int)).toNat 32) hb hl6 h143 h337 hl (by rw [List.length_append, List.length_replicate]; omega) hq lb.length 0 σ (by omega) (by rw [List.take_zero, List.append_nil]; exact hp) hf
  | succ n ih =>
    intro k σ hk hp hf
    have e143 : mV σ 246 143 = (lb.length : Int) := (hf.f (by decide) (by decide)).trans h143
    have e0 : mV σ 275 0 = W := (hf.z (by decide) (by decide)).trans h0
    refine R_head_160.i ⟨by decide, by decide, by unfold Rg; omega, by rw [e0, e143]; unfold Rg; omega, fun h => by rw [e0, e143] at h; omega, fun _ => ?_⟩
    refine R_proofSign.p (x := 32) (C := T ++ List.replicate k 32) ⟨by decide, by decide⟩ (by decide) (by decide) hp (by omega) (by rw [List.length_append, List.length_replicate]; omega) (fun σ2 p2 f2 => ?_)
    have := ih (k + 1) σ2 (by omega) (by rw [rep_s, ← List.append_assoc]; exact p2) (hf.tr f2)
    rw [show ((T.length + k : Nat) : Int) + 1 = ((T.length + (k + 1) : Nat) : Int) by omega]
    exact this
/-- the title -/
theorem rhd_114 {h : Nat} {m : Nat} {t : List Int} (hh : h < 120) (ht : smB t) (htl : t.length ≤ 70000) (hm : m ≤ 80) {x : Nat} (hx : x + t.length ≤ 140000) (h287 : mV σ0 287 h = (x : Int)) (h288 : mV σ0 288 h = (t.length : Int)) (h286 : holA σ0 286 x t) (hl : L0.length + 1 < 6100) (hs : suM (L0.map (·.1)) + 300 ≤ 80000) (hq : ∀ σ', PfR σ' (L0 ++ [(t.take m, 0, 0)]) → FrPf σ0 σ' → R_head_160 ((t.take m).length : Int) σ' Q) : ∀ (n k : Nat) (σ : MS), k + n = (t.take m).length → PfR σ (L0 ++ [(t.take k, 0, 0)]) → FrPf σ0 σ → R_head_114 (h : Int) (m : Int) (k : Int) σ Q := by
  have lt : (t.take m).length = min m t.length := List.length_take
  intro n
  induction n with
  | zero =>
    intro k σ hk hp hf
    have e288 : mV σ 288 h = (t.length : Int) := (hf.z (by decide) (by decide)).trans h288
    have ek : t.take k = t.take m := by
      by_cases c : m ≤ t.length
      · rw [show k = m by omega]
      · rw [List.take_of_length_le (by omega), List.take_of_length_le (by omega)]
    have fin := hq σ (by rw [← ek]; exact hp) hf
    rw [show (t.take m).length = k by omega] at fin
    refine R_head_114.i ⟨by unfold Rg; omega, fun h9 => absurd h9 (by omega), fun _ => ⟨by omega, by omega, by unfold Rg; omega, fun _ => fin, fun h9 => ⟨by unfold Rg; omega, by unfold Rg; omega, fun _ => fin, fun h8 => ?_⟩⟩⟩
    rw [Int.toNat_natCast, e288] at h9
    omega
  | succ n ih =>
    intro k σ hk hp hf
    have e288 : mV σ 288 h = (t.length : Int) := (hf.z (by decide) (by decide)).trans h288
    have e287 : mV σ 287 h = (x : Int) := (hf.z (by decide) (by decide)).trans h287
    have e286 : mV σ 286 (x + k) = t.getD k 0 := (hf.z (by decide) (by decide)).trans (h286 k (by omega))
    have sm := ht _ (gd_mem (L := t) (i := k) (by omega))
    have st := st_sm sm
    refine R_head_114.i ⟨by unfold Rg; omega, fun h9 => absurd h9 (by omega), fun _ => ⟨by omega, by omega, by unfold Rg; omega, fun h9 => ?_, fun _ => ⟨by unfold Rg; omega, by unfold Rg; omega, fun h8 => absurd h8 (by omega), fun _ => ?_⟩⟩⟩
    · rw [Int.toNat_natCast, e288] at h9
      omega
    · rw [Int.toNat_natCast, e287, show ((x : Int) + (k : Int)).toNat = x + k by omega, e286]
      refine ⟨by omega, by omega, by omega, by omega, ?_⟩
      refine R_proofSign.p (x := t.getD k 0) (C := t.take k) ⟨st.1, st.2⟩ sm (by decide) hp (by omega) (by rw [List.length_take]; omega) (fun σ2 p2 f2 => ?_)
      rw [show (k : Int) + 1 = ((k + 1 : Nat) : Int) by omega]
      exact ih (k + 1) σ2 (by omega) (by rw [take_sn (by omega)]; exact p2) (hf.tr f2)
/-- a page's head, the reference -/
theorem R_head.p (hB : PgB room F Ls A sp) (hS : StB S) (hS11 : 0 ≤ S.getD 11 0 ∧ S.getD 11 0 ≤ 999) (hS12 : 1 ≤ S.getD 12 0 ∧ S.getD 12 0 ≤ 5) (hc : c ≤ 99) (he : e < F.length) (h0 : 0 ≤ F.getD e 0) (hnw : nw ≤ 1) (h59 : mV σ 246 59 = (nw : Int)) (h123 : mV σ 246 123 = (c : Int)) (hSv : ∀ k, k < 13 → mV σ 275 k = S.getD k 0) (hgB : HdB g) (hgt : ∀ t ∈ g.1, smB t) (hgs : suM g.1 ≤ 65000) (hg : HdR σ nw F g) (hp : PfR σ L0) (hl : L0.length + 2 ≤ 6100) (hs : suM (L0.map (·.1)) + 300 ≤ 80000) (hq : ∀ σ', PfR σ' (L0 ++ [(hdD S g c e, 0, 0)] ++ [([], 0, 0)]) → FrPp σ σ' → mV σ' 246 123 = (c : Int) → (∀ k, mV σ' 319 k = mV σ 319 k) → (∀ k, mV σ' 328 k = mV σ 328 k) → Q (.inl none) σ') : R_head (F.getD e 0) σ Q := by
  obtain ⟨g1, ⟨g2, g3⟩, g4, g5⟩ := hg
  have fb := F_b hB he
  have l5 := hB.2.2.1
  have hW := hS.1
  have lbl := wrN_len (n := S.getD 11 0 + (c : Int)) (sys := S.getD 12 0)
  -- which heading
  have loop : ∀ (n q : Nat), q + n = g.1.length → (∀ l2 : Int, l2 = (if hdK g.2.1 g.2.2 (e : Int) g.1.length = -1 then -1 else 60 * (nw : Int) + hdK g.2.1 g.2.2 (e : Int) g.1.length) → R_head_4 (F.getD e 0) l2 (g.1.length : Int) σ Q) → R_head_4 (F.getD e 0) (if hdK g.2.1 g.2.2 (e : Int) q = -1 then -1 else 60 * (nw : Int) + hdK g.2.1 g.2.2 (e : Int) q) (q : Int) σ Q := by
    intro n
    induction n with
    | zero =>
      intro q hq9 fin
      have eq : q = g.1.length := by omega
      rw [eq]
      exact fin _ rfl
    | succ n ih =>
      intro q hq9 fin
      have hqg : q < g.1.length := by omega
      have e292 : mV σ 292 nw = (g.1.length : Int) := g1
      have e289 : mV σ 289 (60 * nw + q) = g.2.1.getD q 0 := g4 q hqg
      have hg60 := hgB.1
      obtain ⟨p1, p2, p3, p4⟩ := g5 q (by rw [hgB.2.2]; exact hqg)
      have step : ∀ l2 : Int, l2 = (if hdK g.2.1 g.2.2 (e : Int) (q + 1) = -1 then -1 else 60 * (nw : Int) + hdK g.2.1 g.2.2 (e : Int) (q + 1)) → R_head_55 (F.getD e 0) l2 (q : Int) σ Q := fun l2 hl2 => by
        refine R_head_55.i ?_
        rw [hl2, show (q : Int) + 1 = ((q + 1 : Nat) : Int) by omega]
        exact ih (q + 1) (by omega) fin
      have cmp : mV σ 291 q ≤ F.getD e 0 ↔ g.2.2.getD q 0 ≤ (e : Int) := by
        rw [p4]
        rcases Nat.lt_trichotomy (g.2.2.getD q 0).toNat e with h | h | h
        · have := hB.2.2.2.1.2 _ _ h he p3 h0
          omega
        · rw [h]
          omega
        · have := hB.2.2.2.1.2 _ _ h (by omega) h0 p3
          omega
      have hk1 : hdK g.2.1 g.2.2 (e : Int) (q + 1) = if g.2.1.getD q 0 = 1 ∧ g.2.2.getD q 0 ≤ (e : Int) then (q : Int) else hdK g.2.1 g.2.2 (e : Int) q := rfl
      refine R_head_4.i ?_
      rw [h59, Int.toNat_natCast, e292]
      refine ⟨by omega, by omega, by unfold Rg; omega, fun h => absurd h (by omega), fun _ => ⟨by omega, by omega, ?_⟩⟩
      rw [show (60 * (nw : Int) + (q : Int)).toNat = 60 * nw + q by omega, e289]
      refine ⟨fun h1 => step _ ?_, fun h1 => ⟨by omega, by omega, by unfold Rg; omega, fun h2 => step _ ?_, fun h2 => step _ ?_⟩⟩
      · rw [show hdK g.2.1 g.2.2 (e : Int) (q + 1) = hdK g.2.1 g.2.2 (e : Int) q from hk1.trans (if_neg (fun h9 => h1 h9.1))]
      · rw [Int.toNat_natCast] at h2
        rw [show hdK g.2.1 g.2.2 (e : Int) (q + 1) = hdK g.2.1 g.2.2 (e : Int) q from hk1.trans (if_neg (fun h9 => by have := cmp.mpr h9.2; omega))]
      · rw [Int.toNat_natCast] at h2
        rw [show hdK g.2.1 g.2.2 (e : Int) (q + 1) = (q : Int) from hk1.trans (if_pos ⟨h1, cmp.mp h2⟩), if_neg (by omega)]
  refine R_head.i ?_
  have := loop g.1.length 0 (by omega) (fun l2 hl2 => ?_)
  · exact this
  · have e292 : mV σ 292 nw = (g.1.length : Int) := g1
    refine R_head_4.i ?_
    rw [h59, Int.toNat_natCast, e292]
    have hg60 := hgB.1
    refine ⟨by omega, by omega, by unfold Rg; omega, fun _ => ?_, fun h => absurd h (by omega)⟩
    rw [hSv 11 (by decide), hSv 12 (by decide), h123]
    refine ⟨by decide, by decide, by unfold Rg; omega, by decide, by decide, ?_⟩
    refine R_writes.s (by omega) hS12 (fun _ => by omega) (fun σ1 s1 => ?_)
    obtain ⟨sf, s143, s337⟩ := s1
    have e0 : mV σ1 275 0 = S.getD 0 0 := (sf.z (by decide) (by decide)).trans (hSv 0 (by decide))
    have s143 : mV σ1 246 143 = ((hdB S c).length : Int) := s143
    have lbl : (hdB S c).length ≤ 60 := by
      have : (hdB S c).length = (wrN (S.getD 11 0 + (c : Int)) (S.getD 12 0)).length := rfl
      omega
    have p1 : PfR σ1 L0 := by
      obtain ⟨a1, a2, a3, a4⟩ := hp
      exact ⟨(sf.f (by decide) (by decide)).trans a1, (sf.f (by decide) (by decide)).trans a2, fun l h9 => by
        rw [sf.z (z := 324) (by decide) (by decide), sf.z (z := 325) (by decide) (by decide), sf.z (z := 326) (by decide) (by decide), sf.z (z := 327) (by decide) (by decide)]
        exact a3 l h9, fun i h9 => by
        rw [sf.z (z := 322) (by decide) (by decide), sf.z (z := 323) (by decide) (by decide)]
        exact a4 i h9⟩
    have go : ∀ m : Int, m = (hdM S c : Int) → R_head_105 l2 m σ1 Q := fun m hm => by
      rw [hm]
      refine R_head_105.i ?_
      have := R_proofLine.p (Q := kV (thQ Q) fun σ2 => R_head_114 l2 (hdM S c : Int) 0 σ2 Q) (o := 0) (pt := false) (fl := 0) (by decide) p1 (by omega) (by omega) (by decide) (fun σ2 p2 f2 => ?_)
      · exact this
      · show R_head_114 l2 (hdM S c : Int) 0 σ2 Q
        have m80 : hdM S c ≤ 80 := by
          unfold hdM
          omega
        have z2 : ∀ y k, y ∉ 337 :: PfS → y ≠ 246 → mV σ2 y k = mV σ y k := fun y k a b => (f2.z (fun h => a (List.mem_cons_of_mem _ h)) b).trans (sf.z (fun h => a (by rw [List.mem_singleton.mp h]; exact List.mem_cons_self)) b)
        have e02 : mV σ2 275 0 = S.getD 0 0 := (f2.z (by decide) (by decide)).trans e0
        have e143 : mV σ2 246 143 = ((hdB S c).length : Int) := (f2.f (by decide) (by decide)).trans s143
        have e337 : hol σ2 337 (hdB S c) := fun i hi => (f2.z (by decide) (by decide)).trans (s337 i hi)
        have fpp : ∀ σ3, FrPf σ2 σ3 → FrPp σ σ3 := fun σ3 f3 => ((FrZ.mo sf (by decide) (by decide)).tr (FrPp.pf f2)).tr (FrPp.pf f3)
        have fin : ∀ σ3, FrPf σ2 σ3 → PfR σ3 (L0 ++ [(hdD S g c e, 0, 0)] ++ [([], 0, 0)]) → Q (.inl none) σ3 := fun σ3 f3 p3 => hq σ3 p3 (fpp σ3 f3) ((f3.f (by decide) (by decide)).trans ((f2.f (by decide) (by decide)).trans ((sf.f (by decide) (by decide)).trans h123))) (fun k => (f3.z (by decide) (by decide)).trans (z2 _ _ (by decide) (by decide))) (fun k => (f3.z (by decide) (by decide)).trans (z2 _ _ (by decide) (by decide)))
        have rest : ∀ σ3 : MS, PfR σ3 (L0 ++ [(hdT g (e : Int) (hdM S c), 0, 0)]) → FrPf σ2 σ3 → (hdT g (e : Int) (hdM S c)).length ≤ 80 → R_head_160 ((hdT g (e : Int) (hdM S c)).length : Int) σ3 Q := fun σ3 p3 f3 hT80 => by
          have := rhd_160 (σ0 := σ2) (Q := Q) (L0 := L0) (lb := hdB S c) (T := hdT g (e : Int) (hdM S c)) (W := S.getD 0 0) hW e02 wrN_s lbl hT80 e143 e337 (by omega) hs (fun σ4 p4 f4 => fin σ4 f4 p4) (S.getD 0 0 - ((hdB S c).length : Int) - ((hdT g (e : Int) (hdM S c)).length : Int)).toNat 0 σ3 (by omega) (by rw [show List.replicate 0 (32 : Int) = [] from rfl, List.append_nil]; exact p3) f3
          exact this
        by_cases ck : hdK g.2.1 g.2.2 (e : Int) g.1.length = -1
        · have eT : hdT g (e : Int) (hdM S c) = [] := if_pos ck
          rw [if_pos ck] at hl2
          rw [hl2]
          refine R_head_114.i ⟨by decide, fun _ => ?_, fun h => absurd h (by decide)⟩
          have := rest σ2 (by rw [eT]; exact p2) FrZ.rf (by rw [eT]; decide)
          rw [eT] at this
          exact this
        · have kb := (hdK_b (lv := g.2.1) (ps := g.2.2) (fr := (e : Int)) (n := g.1.length)).resolve_left ck
          obtain ⟨k, ek⟩ : ∃ k : Nat, hdK g.2.1 g.2.2 (e : Int) g.1.length = (k : Int) := ⟨(hdK g.2.1 g.2.2 (e : Int) g.1.length).toNat, by omega⟩
          have eT : hdT g (e : Int) (hdM S c) = (g.1.getD k []).take (hdM S c) := by
            unfold hdT
            rw [if_neg ck, ek, Int.toNat_natCast]
          rw [if_neg ck, ek] at hl2
          rw [hl2, show 60 * (nw : Int) + (k : Int) = ((60 * nw + k : Nat) : Int) by omega]
          have hk : k < g.1.length := by omega
          obtain ⟨q1, q2, q3⟩ := g3 k hk
          have sa := suM_at9 hk
          have tm : smB (g.1.getD k []) := hgt _ (by
            rw [List.getD_eq_getElem?_getD, List.getElem?_eq_getElem hk]
            exact List.getElem_mem hk)
          refine rhd_114 (σ0 := σ2) (L0 := L0) (t := g.1.getD k []) (x := 70000 * nw + suM (g.1.take k)) (by omega) tm (by omega) m80 (by omega) ((z2 _ _ (by decide) (by decide)).trans q1) ((z2 _ _ (by decide) (by decide)).trans q2) (fun t ht => (z2 _ _ (by decide) (by decide)).trans (q3 t ht)) (by omega) hs (fun σ3 p3 f3 => ?_) ((g.1.getD k []).take (hdM S c)).length 0 σ2 (by omega) (by rw [List.take_zero]; exact p2) FrZ.rf
          rw [← eT] at p3 ⊢
          exact rest σ3 p3 f3 (by rw [eT, List.length_take]; omega)
    show 0 ≤ (0 : Int) ∧ (0 : Int) < 13 ∧ Rg (mV σ1 275 0 - 1 - mV σ1 246 143) ∧ _
    rw [e0, s143]
    refine ⟨by decide, by decide, by unfold Rg; omega, fun h => go _ ?_, fun h => go _ ?_⟩
    · unfold hdM
      omega
    · unfold hdM
      omega
end
