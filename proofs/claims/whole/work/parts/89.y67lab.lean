/-! labelled: BOTH ANSWER ALIKE -/
section
variable {σ σ0 σ1 σ2 : MS} {Q : MQ9} {u : Nat} {A : List Int}
theorem R_labelOf_3.g {b : Nat} {N : List (List Int)} (hb : b ≤ 1) (h5 : mV σ 285 b = (N.length : Int)) (hN : nmS σ 279 280 12 (60 * b) N) (hN60 : N.length ≤ 60) (hsm : smW 12 N) (hA : ∀ i, i < A.length → mV σ 257 (u + i) = A.getD i 0) (hu : u + A.length ≤ 60100) : ∀ (r p : List (List Int)), N = p ++ r → Q (.inl (some (if ixW r (p.length : Int) (A) = -1 then -1 else 60 * (b : Int) + ixW r (p.length : Int) (A)))) σ → R_labelOf_3 (b : Int) (u : Int) (A.length : Int) (p.length : Int) σ Q
  | [], p, he, hq => by
    have hl : N.length = p.length := by rw [he, List.append_nil]
    refine R_labelOf_3.i ⟨by omega, by omega, by unfold Rg; omega, fun _ => hq, fun h9 => absurd h9 (by rw [Int.toNat_natCast, h5]; omega)⟩
  | w :: r, p, he, hq => by
    have hl : N.length = p.length + 1 + r.length := by rw [he, List.length_append, List.length_cons]; omega
    obtain ⟨w1, w3⟩ := hN p.length (by omega)
    have ew : N.getD p.length [] = w := by rw [he]; exact getD_at
    have w2 := (hsm.at p.length).1
    rw [ew] at w1 w2 w3
    unfold ixW at hq
    have e60 : (60 * (b : Int) + (p.length : Int)).toNat = 60 * b + p.length := by omega
    have h93 : ∀ t : Bool, t = decide (w = A) → R_labelOf_93 (b : Int) (u : Int) (A.length : Int) (p.length : Int) (60 * (b : Int) + (p.length : Int)) (bZ t) σ Q := by
      intro t ht
      subst ht
      refine R_labelOf_93.i ⟨fun a => ?_, fun a => ⟨by unfold Rg; omega, ?_⟩⟩
      · rw [if_neg (of_decide_eq_false (bZ_z a))] at hq
        have := R_labelOf_3.g hb h5 hN hN60 hsm hA hu r (p ++ [w]) (by rw [he, List.append_assoc]; rfl) (by rw [List.length_append, List.length_singleton]; exact hq)
        rw [List.length_append, List.length_singleton] at this
        exact this
      · rw [if_pos (of_decide_eq_true (bZ_ne a)), if_neg (show ¬ (p.length : Int) = -1 by omega)] at hq
        exact hq
    have m0 : ¬ w = A → R_labelOf_93 (b : Int) (u : Int) (A.length : Int) (p.length : Int) (60 * (b : Int) + (p.length : Int)) 0 σ Q := fun h => h93 false (decide_eq_false h).symm
    have m1 : w = A → R_labelOf_93 (b : Int) (u : Int) (A.length : Int) (p.length : Int) (60 * (b : Int) + (p.length : Int)) 1 σ Q := fun h => h93 true (decide_eq_true h).symm
    refine R_labelOf_3.i ⟨by omega, by omega, by unfold Rg; omega, fun h9 => absurd h9 (by rw [Int.toNat_natCast, h5]; omega), fun _ => ⟨by omega, by omega, by unfold Rg; omega, ?_⟩⟩
    rw [e60, w1]
    refine ⟨fun a => R_labelOf_39.i ?_, fun a => R_labelOf_39.i ?_⟩
    · have hn : ¬ w = A := fun e => a (by rw [e])
      exact R_labelOf_44.i ⟨by decide, by unfold Rg; omega, fun _ => m0 hn, fun _ => ⟨fun _ => m0 hn, fun h9 => absurd rfl h9⟩⟩
    · have hwl : w.length = A.length := by omega
      refine loopIs (P := fun is i => R_labelOf_44 (b : Int) (u : Int) (A.length : Int) (p.length : Int) (60 * (b : Int) + (p.length : Int)) is i σ Q) (f := fun i => decide (w.getD i 0 = A.getD i 0)) (n := A.length) (fun i hi h => ?_) (fun e => ?_) (fun e i hi => ?_)
      · obtain ⟨k1, k0⟩ := bZ_q (P := fun r => R_labelOf_44 (b : Int) (u : Int) (A.length : Int) (p.length : Int) (60 * (b : Int) + (p.length : Int)) r ((i : Int) + 1) σ Q) h
        refine R_labelOf_44.i ⟨by unfold Rg; omega, by unfold Rg; omega, fun h9 => absurd h9 (by omega), fun _ => ⟨fun h9 => absurd h9 (by decide), fun _ => ⟨by omega, by omega, by omega, by omega, ?_⟩⟩⟩
        rw [show (12 * (60 * (b : Int) + (p.length : Int)) + (i : Int)).toNat = 12 * (60 * b + p.length) + i by omega, show ((u : Int) + (i : Int)).toNat = u + i by omega, w3 i (by omega), hA i hi]
        exact ⟨fun a => R_labelOf_85.i (k0 (decide_eq_false a)), fun a => R_labelOf_85.i (k1 (decide_eq_true a))⟩
      · have hwU : w = A := list_ext (by omega) (fun i hi => of_decide_eq_true (allR_i.mp e i (by omega)))
        exact R_labelOf_44.i ⟨by unfold Rg; omega, by unfold Rg; omega, fun _ => m1 hwU, fun h9 => absurd h9 (by omega)⟩
      · have hn : ¬ w = A := fun e2 => by
          have : allR (fun i => decide (w.getD i 0 = A.getD i 0)) A.length = true := allR_i.mpr (fun i _ => decide_eq_true (by rw [e2]))
          rw [this] at e
          exact Bool.noConfusion e
        exact R_labelOf_44.i ⟨by unfold Rg; omega, by unfold Rg; omega, fun _ => m0 hn, fun _ => ⟨fun _ => m0 hn, fun h9 => absurd rfl h9⟩⟩
theorem R_labelOf.g {b : Nat} {N : List (List Int)} {bi n : Int} (hbi : bi = (b : Int)) (hn : n = (A.length : Int)) (hb : b ≤ 1) (h5 : mV σ 285 b = (N.length : Int)) (hN : nmS σ 279 280 12 (60 * b) N) (hN60 : N.length ≤ 60) (hsm : smW 12 N) (hA : ∀ i, i < A.length → mV σ 257 (u + i) = A.getD i 0) (hu : u + A.length ≤ 60100) (hq : Q (.inl (some (if ixW N 0 (A) = -1 then -1 else 60 * (b : Int) + ixW N 0 (A)))) σ) : R_labelOf bi (u : Int) n σ Q := by
  subst hbi
  subst hn
  exact R_labelOf.i (R_labelOf_3.g hb h5 hN hN60 hsm hA hu N [] rfl hq)
end
section
variable {σ σ1 σ2 : MS} {Q : MQ9} {E : TE} {z nw : Nat}
theorem neq5 (hz : z = 49 ∨ z = 163) : neB (z + 6 + 1) 5 = true ∧ isRow 1 = true := by
  rcases hz with rfl | rfl <;> decide +kernel
def FrLc (σ σ' : MS) : Prop := (∀ q, q ∉ [1, 5] → mX σ' q = mX σ q) ∧ σ'.2 = σ.2
theorem T_labelled.c (hE : EI E) (hz : z = 49 ∨ z = 163) (hB0 : mB σ 0 = z) (hB : KB σ z E) (hl : (mX σ 1).length ≤ 4000) (hs : smB (mX σ 1)) (h0 : (mV σ 212 0 = 0 ∨ ixW E.2.1.1 0 (mX σ 1) = -1) → ∀ σ', FrLc σ σ' → mX σ' 1 = [] → mX σ' 5 = mX σ 5 → Q (.inl (some (-1))) σ') (h1 : ¬ mV σ 212 0 = 0 → ∀ i : Nat, ixW E.2.1.1 0 (mX σ 1) = (i : Int) → i < E.2.1.1.length → ∀ σ', FrLc σ σ' → mX σ' 1 = [] → mX σ' 5 = E.2.1.2.1.getD i [] → Q (.inl (some (E.2.1.2.2.1.getD i 0))) σ') : T_labelled σ Q := by
  obtain ⟨lb, rf, la, -, -⟩ := hB
  obtain ⟨-, ⟨t1, t2, t3, t4, t5, t6, t7, t8⟩, -, -⟩ := hE
  obtain ⟨⟨k1, k2, k3, k4, k5, k6, k7, k8, -⟩, -, -, -⟩ := marks_ok hz
  obtain ⟨n5, r1⟩ := neq5 hz
  have s12 := suM_b (n := 12) (W := E.2.1.1) (fun x hx => (t4 x hx).1)
  have s32 := suM_b (n := 32) (W := E.2.1.2.1) (fun x hx => (t5 x hx).1)
  have no : (mV σ 212 0 = 0 ∨ ixW E.2.1.1 0 (mX σ 1) = -1) → T_labelled_41 z (-1) σ Q := fun h9 => T_labelled_41.i ⟨fun h8 => absurd rfl h8, fun _ => h0 h9 _ ⟨fun q hq => wX_ne (fun e => hq (by rw [e]; decide)), rfl⟩ wX_self (wX_ne (by decide))⟩
  refine T_labelled.i ?_
  rw [hB0]
  refine ⟨fun h9 => no (Or.inl h9), fun h9 => tB.i k1 (tB.i k2 (Shelf_seek.s (R := E.2.1.1) (U := mX σ 1) k2 k3 k4 r1 lb (by omega) (by omega) (by decide) (by omega) (by omega) (fun t ht => by rw [show (0 : Int) + (t : Int) = (t : Int) by omega]; exact rgt_n ht) ?_))⟩
  have em : E.2.1.1.map ms7 = E.2.1.1 := by
    have : E.2.1.1.map ms7 = E.2.1.1.map id := List.map_congr_left (fun x hx => ms7_id (t4 x hx).2)
    rw [this, List.map_id]
  show T_labelled_41 z (ixW (E.2.1.1.map ms7) 0 (ms7 (mX σ 1))) σ Q
  rw [em, ms7_id hs]
  rcases ixW_b E.2.1.1 0 (mX σ 1) with hx | hx
  · rw [hx]
    exact no (Or.inr hx)
  · obtain ⟨i, hi9⟩ : ∃ i : Nat, ixW E.2.1.1 0 (mX σ 1) = (i : Int) := ⟨(ixW E.2.1.1 0 (mX σ 1)).toNat, by omega⟩
    have hiN : i < E.2.1.1.length := by omega
    obtain ⟨a1, a2, a3⟩ := sh_at (L := E.2.1.2.1) (l := i) (by omega)
    have y9 : mX (wX (wX σ 1 []) 5 []) (z + 6 + 3) = enS 0 E.2.1.2.1 := by rw [wX_ne (by omega), wX_ne (by omega)]; exact rf.2
    have y7 : mX (wX (wX σ 1 []) 5 []) (z + 6 + 1) = E.2.1.2.1.flatten := by rw [wX_ne (by omega), wX_ne (by omega)]; exact rf.1
    have l32 := (t5.at i).1
    have pm : pourM (rgt E.2.1.2.1.flatten) (E.2.1.2.1.getD i []).length ((suM (E.2.1.2.1.take i) : Nat) : Int) = E.2.1.2.1.getD i [] := by
      have e9 : E.2.1.2.1 = E.2.1.2.1.take i ++ (E.2.1.2.1.getD i [] :: E.2.1.2.1.drop (i + 1)) := by
        have hi8 : i < E.2.1.2.1.length := by omega
        rw [List.getD_eq_getElem?_getD, List.getElem?_eq_getElem hi8]
        have := List.take_append_drop i E.2.1.2.1
        rw [List.drop_eq_getElem_cons hi8] at this
        exact this.symm
      have ff : E.2.1.2.1.flatten = (E.2.1.2.1.take i).flatten ++ (E.2.1.2.1.getD i [] ++ (E.2.1.2.1.drop (i + 1)).flatten) := by
        conv => lhs; rw [e9]
        rw [List.flatten_append, List.flatten_cons]
      have fl := flat_len (E.2.1.2.1.take i)
      generalize E.2.1.2.1.getD i [] = w at ff ⊢
      generalize (E.2.1.2.1.take i).flatten = p at ff fl
      generalize (E.2.1.2.1.drop (i + 1)).flatten = d at ff
      rw [ff, ← fl]
      have key : ∀ (w p : List Int), pourM (rgt (p ++ (w ++ d))) w.length (p.length : Int) = w := by
        intro w
        induction w with
        | nil => intro p; rfl
        | cons c r ih =>
          intro p
          show rgt (p ++ (c :: (r ++ d))) (p.length : Int) :: pourM (rgt (p ++ (c :: (r ++ d)))) r.length ((p.length : Int) + 1) = c :: r
          rw [rgt_at (p := p) (x := c) (r := r ++ d) rfl]
          have := ih (p ++ [c])
          rw [List.append_assoc, List.length_append, List.length_singleton] at this
          rw [show (p.length : Int) + 1 = ((p.length + 1 : Nat) : Int) by omega]
          congr 1
      exact key w p
    refine T_labelled_41.i ⟨fun _ => ?_, fun h8 => absurd h8 (by omega)⟩
    refine tB.i k1 (tB.i k5 (tB.i k1 (tB.i k5 (tB.i k5 (tB.i k1 (tB.i k5 (tB.i k5 (tB.i k6 (tB.i n5 ?_)))))))))
    rw [hi9, y9, y7, a1, a2, show (((suM (E.2.1.2.1.take i) + (E.2.1.2.1.getD i []).length : Nat) : Int) - ((suM (E.2.1.2.1.take i) : Nat) : Int)).toNat = (E.2.1.2.1.getD i []).length by omega, pm, List.nil_append, wX_wX]
    refine ⟨by rw [List.length_nil]; omega, tB.i k1 (tB.i k8 (tB.i k8 ?_))⟩
    have ya : mX (wX (wX σ 1 []) 5 (E.2.1.2.1.getD i [])) (z + 11) = E.2.1.2.2.1 := by rw [wX_ne (by omega), wX_ne (by omega)]; exact la
    rw [ya, rgt_n (by omega)]
    exact h1 h9 i hi9 hiN _ ⟨fun q hq => by rw [wX_ne (fun e => hq (by rw [e]; decide)), wX_ne (fun e => hq (by rw [e]; decide))], rfl⟩ (by rw [wX_ne (by decide), wX_self]) wX_self
theorem R_labelled.p {L : List Int} (hE : EI E) (hn : nw ≤ 1) (h6 : mV σ 246 6 = (L.length : Int)) (h7 : hol σ 247 L) (hl : L.length ≤ 4000) (hs : smB L) (hL : ¬ mV σ 246 114 = 0 → LaR σ E nw) (h59 : mV σ 246 59 = (nw : Int)) (h0 : (mV σ 246 114 = 0 ∨ ixW E.2.1.1 0 L = -1) → ∀ σ', FrZ [257] [0, 6] σ σ' → mV σ' 246 6 = 0 → Q (.inl (some (-1))) σ') (h1 : ¬ mV σ 246 114 = 0 → ∀ i : Nat, ixW E.2.1.1 0 L = (i : Int) → i < E.2.1.1.length → ∀ σ', FrZ [257, 336] [0, 6, 141] σ σ' → mV σ' 246 6 = 0 → mV σ' 246 141 = ((E.2.1.2.1.getD i []).length : Int) → hol σ' 336 (E.2.1.2.1.getD i []) → Q (.inl (some (E.2.1.2.2.1.getD i 0))) σ') : R_labelled σ Q := by
  obtain ⟨-, ⟨t1, t2, t3, t4, t5, t6, t7, t8⟩, -, -⟩ := hE
  refine R_labelled.i ?_
  rw [h6]
  generalize hσ0 : wV (wV σ 246 0 0) 246 6 0 = σ0
  have f0 : FrZ [257] [0, 6] σ σ0 := by rw [← hσ0]; exact (FrZ.wf (by decide)).tr (FrZ.wf (by decide))
  have y6 : mV σ0 246 6 = 0 := by rw [← hσ0, wV_self]
  refine ⟨fun h9 => ?_, fun h9 => h0 (Or.inl h9) σ0 f0 y6⟩
  obtain ⟨c1, c2, c3, c4⟩ := hL h9
  refine loopF (P := fun i σ' => R_labelled_26 (L.length : Int) i σ' Q) (z := 257) (a := 0) (n := L.length) (f := fun i => L.getD i 0) (fun i hi k9 => ?_) ?_
  · have t : mV (wF σ0 257 0 (ofF (fun i => L.getD i 0) i)) 247 i = L.getD i 0 := by
      rw [wF_ne (Or.inl (by decide)), f0.z (by decide) (by decide)]
      exact h7 i hi
    refine R_labelled_26.i ⟨by unfold Rg; omega, fun h8 => absurd h8 (by omega), fun _ => ⟨by omega, by omega, by omega, by omega, ?_⟩⟩
    rw [Int.toNat_natCast, t, hs.at hi]
    rw [Nat.zero_add] at k9
    exact k9
  · rw [ofF_list]
    generalize hσ1 : wF σ0 257 0 L = σ1
    have f1 : FrZ [257] [0, 6] σ σ1 := by rw [← hσ1]; exact f0.tr (FrZ.wF (by decide))
    have z6 : mV σ1 246 6 = 0 := by rw [← hσ1, wF_ne (Or.inl (by decide))]; exact y6
    refine R_labelled_26.i ⟨by unfold Rg; omega, fun _ => ?_, fun h8 => absurd h8 (by omega)⟩
    rw [f1.f (by decide) (by decide), h59]
    refine R_labelOf.g (u := 0) (A := L) (b := nw) (N := E.2.1.1) rfl rfl hn ((f1.z (by decide) (by decide)).trans c1) (c2.cg (fun k => f1.z (by decide) (by decide)) (fun k => f1.z (by decide) (by decide))) t3 t4 (fun i hi => ?_) (by omega) ?_
    · rw [← hσ1]
      exact wF_at hi
    · rcases ixW_b E.2.1.1 0 L with hx | hx
      · rw [if_pos hx]
        exact ⟨fun h8 => absurd h8 (by decide), fun _ => h0 (Or.inr hx) σ1 f1 z6⟩
      · have hx0 : ¬ ixW E.2.1.1 0 L = -1 := by omega
        rw [if_neg hx0]
        obtain ⟨i, hi9⟩ : ∃ i : Nat, ixW E.2.1.1 0 L = (i : Int) := ⟨(ixW E.2.1.1 0 L).toNat, by omega⟩
        have hiN : i < E.2.1.1.length := by omega
        rw [hi9, show 60 * (nw : Int) + (i : Int) = ((60 * nw + i : Nat) : Int) by omega]
        refine ⟨fun _ => ⟨by omega, by omega, ?_⟩, fun h8 => absurd h8 (by omega)⟩
        obtain ⟨g1, g2⟩ := c3 i (by omega)
        have l32 := (t5.at i).1
        have s32 := (t5.at i).2
        rw [Int.toNat_natCast, f1.z (by decide) (by decide), g1]
        generalize hσ2 : wV σ1 246 141 ((E.2.1.2.1.getD i []).length : Int) = σ2
        have f2 : FrZ [257, 336] [0, 6, 141] σ σ2 := by rw [← hσ2]; exact (f1.mo (by decide) (by decide)).tr (FrZ.wf (by decide))
        have v2 : mV σ2 246 141 = ((E.2.1.2.1.getD i []).length : Int) := by rw [← hσ2, wV_self]
        refine loopF (P := fun k σ' => R_labelled_78 ((60 * nw + i : Nat) : Int) k σ' Q) (z := 336) (a := 0) (n := (E.2.1.2.1.getD i []).length) (f := fun k => (E.2.1.2.1.getD i []).getD k 0) (fun k hk k9 => ?_) ?_
        · have t : mV (wF σ2 336 0 (ofF (fun k => (E.2.1.2.1.getD i []).getD k 0) k)) 246 141 = ((E.2.1.2.1.getD i []).length : Int) := by rw [wF_ne (Or.inl (by decide))]; exact v2
          have t' : mV (wF σ2 336 0 (ofF (fun k => (E.2.1.2.1.getD i []).getD k 0) k)) 281 (32 * (60 * nw + i) + k) = (E.2.1.2.1.getD i []).getD k 0 := by
            rw [wF_ne (Or.inl (by decide)), f2.z (by decide) (by decide)]
            exact g2 k hk
          refine R_labelled_78.i ⟨by unfold Rg; omega, fun h8 => absurd h8 (by rw [t]; omega), fun _ => ⟨by omega, by omega, by omega, by omega, ?_⟩⟩
          rw [Int.toNat_natCast, show (32 * ((60 * nw + i : Nat) : Int) + (k : Int)).toNat = 32 * (60 * nw + i) + k by omega, t', s32.at hk]
          rw [Nat.zero_add] at k9
          exact k9
        · rw [ofF_list]
          generalize hσ3 : wF σ2 336 0 (E.2.1.2.1.getD i []) = σ3
          have f3 : FrZ [257, 336] [0, 6, 141] σ σ3 := by rw [← hσ3]; exact f2.tr (FrZ.wF (by decide))
          have v3 : mV σ3 246 141 = ((E.2.1.2.1.getD i []).length : Int) := by rw [← hσ3, wF_ne (Or.inl (by decide))]; exact v2
          refine R_labelled_78.i ⟨by unfold Rg; omega, fun _ => ⟨by omega, by omega, ?_⟩, fun h8 => absurd h8 (by rw [v3]; omega)⟩
          rw [Int.toNat_natCast, f3.z (by decide) (by decide), c4 i hiN]
          refine h1 h9 i hi9 hiN σ3 f3 ?_ v3 (fun k hk => ?_)
          · rw [← hσ3, wF_ne (Or.inl (by decide)), ← hσ2, wV_ne (Or.inr (by decide))]
            exact z6
          · rw [← hσ3]
            have := wF_at (σ := σ2) (z := 336) (a := 0) hk
            rw [Nat.zero_add] at this
            exact this
/-- what labelled leaves -/
def FrLb (σ σ' : MS) : Prop := (∀ q, q ∉ [1, 5] → mX σ' q = mX σ q) ∧ mB σ' = mB σ ∧ ∀ z k, z ∉ [257, 336] → ¬ (z = 246 ∧ k ∈ [0, 6, 141]) → mV σ' z k = mV σ z k
theorem labelled_b {th th' : String → MS → Prop} (h : MemR σ) (t : TlR σ E z nw) (an : AnR σ) (pr : mV σ 212 0 = 0 ↔ mV σ 246 114 = 0) (hq : ∀ v σ', MemR σ' → TlR σ' E z nw → AnR σ' → FrLb σ σ' → Q (.inl (some v)) σ') : T_labelled σ (kI th fun v σ1 => R_labelled σ1 (kI th' fun v' σ2 => v' = v ∧ Q (.inl (some v)) σ2)) := by
  obtain ⟨⟨p1, p2, p3, p4⟩, ⟨m1, m2, m3, m4⟩, ⟨t9, c9, hP⟩, e1, e2, e3⟩ := id h
  obtain ⟨⟨hE, h0, hz, hB0, hU, hB, hu⟩, hn, h59, hM, hL, hN, h30, hUn⟩ := id t
  have fin : ∀ (σ1 σ2 : MS), FrLc σ σ1 → mX σ1 1 = [] → FrZ [257, 336] [0, 6, 141] σ1 σ2 → mV σ2 246 6 = 0 → MemR σ2 ∧ TlR σ2 E z nw ∧ FrLb σ σ2 := by
    intro σ1 σ2 f1 x1 f2 y6
    have eV : mV σ1 = mV σ := congrArg Prod.fst f1.2
    have eB : mB σ2 = mB σ := f2.2.1.trans (congrArg (fun x => x.2.1) f1.2)
    have fr : ∀ z k, z ∉ [257, 336] → ¬ (z = 246 ∧ k ∈ [0, 6, 141]) → mV σ2 z k = mV σ z k := fun z k a c => by
      rw [f2.2.2 z k a (by
        by_cases e : z = 246
        · exact Or.inr (fun h9 => c ⟨e, h9⟩)
        · exact Or.inl e), eV]
    have f6 : ∀ k, k ∉ [0, 6, 141] → mV σ2 246 k = mV σ 246 k := fun k hk => fr 246 k (by decide) (fun h9 => hk h9.2)
    have fz : ∀ y k, y ≠ 246 → y ∉ [257, 336] → mV σ2 y k = mV σ y k := fun y k a b => fr y k b (fun h9 => a h9.1)
    have fX : mX σ2 = mX σ1 := f2.1
    have xx : ∀ q, q ∉ [1, 5] → mX σ2 q = mX σ q := fun q hq => by rw [fX]; exact f1.1 q hq
    refine ⟨⟨⟨?_, ?_, ?_, ?_⟩, ⟨?_, ?_, ?_, ?_⟩, ⟨t9, c9, ?_⟩, ?_, ?_, ?_⟩, ⟨⟨hE, h0, hz, ?_, ?_, ?_, ?_, ?_⟩, hn, ?_, ?_, fun h9 => ?_, fun h9 => ?_, fun h9 => ?_, ?_⟩, xx, eB, fr⟩
    · rw [y6, fX, x1]
      rfl
    · rw [fX, x1]
      exact fun i hi => absurd hi (Nat.not_lt_zero _)
    · rw [fX, x1]
      exact Nat.zero_le _
    · rw [fX, x1]
      exact smB.nil
    · rw [f6 7 (by decide), xx 3 (by decide)]
      exact m1
    · rw [xx 3 (by decide)]
      exact fun i hi => by rw [fz 248 i (by decide) (by decide)]; exact m2 i hi
    · rw [xx 3 (by decide)]
      exact m3
    · rw [xx 3 (by decide)]
      exact m4
    · refine hP.cg (fun j hj => ?_) (fun k => fz 251 k (by decide) (by decide)) (fun k => fz 250 k (by decide) (by decide)) (f6 8 (by decide)) (fz 0 6 (by decide) (by decide)) (fz 0 5 (by decide) (by decide))
      exact xx _ (by simp only [List.mem_cons, List.not_mem_nil, or_false]; omega)
    · rw [fz 22 1 (by decide) (by decide), f6 33 (by decide)]
      exact e1
    · rw [fz 22 1 (by decide) (by decide)]
      exact e2
    · rw [fz 22 1 (by decide) (by decide)]
      exact e3
    · rw [eB]
      exact hB0
    · exact hU.cg (fun q q1 q2 => xx q (by simp only [List.mem_cons, List.not_mem_nil, or_false]; omega))
    · exact hB.cg hz (fun q q1 q2 => xx q (by simp only [List.mem_cons, List.not_mem_nil, or_false]; omega)) (fz _ _ (by omega) (by simp only [List.mem_cons, List.not_mem_nil, or_false]; omega)) (fz _ _ (by omega) (by simp only [List.mem_cons, List.not_mem_nil, or_false]; omega))
    · rw [fz z 13 (by omega) (by simp only [List.mem_cons, List.not_mem_nil, or_false]; omega)]
      exact hu.1
    · rw [fz z 13 (by omega) (by simp only [List.mem_cons, List.not_mem_nil, or_false]; omega), fz 22 1 (by decide) (by decide)]
      exact hu.2
    · rw [f6 59 (by decide)]
      exact h59
    · exact hM.cg (f6 46 (by decide)) (fun y k a b => fz y k (by omega) (by simp only [List.mem_cons, List.not_mem_nil, or_false]; omega)) (fun k _ => fz 252 k (by decide) (by decide))
    · rw [f6 114 (by decide)] at h9
      obtain ⟨c1, c2, c3, c4⟩ := hL h9
      exact ⟨(fz _ _ (by decide) (by decide)).trans c1, c2.cg (fun k => fz _ _ (by decide) (by decide)) (fun k => fz _ _ (by decide) (by decide)), c3.cg (fun k => fz _ _ (by decide) (by decide)) (fun k => fz _ _ (by decide) (by decide)), fun i hi => (fz _ _ (by decide) (by decide)).trans (c4 i hi)⟩
    · rw [f6 114 (by decide)] at h9
      exact hN h9
    · rw [f6 130 (by decide), f6 131 (by decide)]
      exact h30 h9
    · unfold UnB
      rw [f6 85 (by decide), f6 33 (by decide)]
      exact hUn
  have an1 : ∀ (σ1 σ2 : MS), FrLc σ σ1 → mX σ1 5 = mX σ 5 → FrZ [257] [0, 6] σ1 σ2 → AnR σ2 := fun σ1 σ2 f1 x5 f2 => by
    have eV : mV σ1 = mV σ := congrArg Prod.fst f1.2
    refine ⟨?_, ?_, ?_⟩
    · rw [f2.f (by decide) (by decide), f2.1, x5, eV]
      exact an.1
    · rw [f2.1, x5]
      exact an.2.1
    · rw [f2.1, x5]
      exact fun i hi => by rw [f2.z (by decide) (by decide), eV]; exact an.2.2 i hi
  have ref : ∀ (σ1 : MS), FrLc σ σ1 → ∀ (Q9 : MQ9), ((mV σ 246 114 = 0 ∨ ixW E.2.1.1 0 (mX σ 1) = -1) → ∀ σ', FrZ [257] [0, 6] σ1 σ' → mV σ' 246 6 = 0 → Q9 (.inl (some (-1))) σ') → (¬ mV σ 246 114 = 0 → ∀ i : Nat, ixW E.2.1.1 0 (mX σ 1) = (i : Int) → i < E.2.1.1.length → ∀ σ', FrZ [257, 336] [0, 6, 141] σ1 σ' → mV σ' 246 6 = 0 → mV σ' 246 141 = ((E.2.1.2.1.getD i []).length : Int) → hol σ' 336 (E.2.1.2.1.getD i []) → Q9 (.inl (some (E.2.1.2.2.1.getD i 0))) σ') → R_labelled σ1 Q9 := by
    intro σ1 f1 Q9 g0 g1
    have eV : mV σ1 = mV σ := congrArg Prod.fst f1.2
    refine R_labelled.p (L := mX σ 1) hE hn (by rw [eV]; exact p1) (fun i hi => by rw [eV]; exact p2 i hi) p3 p4 (fun h9 => ?_) (by rw [eV]; exact h59) (by rw [eV]; exact g0) (by rw [eV]; exact g1)
    rw [eV] at h9
    obtain ⟨c1, c2, c3, c4⟩ := hL h9
    exact ⟨by rw [eV]; exact c1, c2.cg (fun k => by rw [eV]) (fun k => by rw [eV]), c3.cg (fun k => by rw [eV]) (fun k => by rw [eV]), fun i hi => by rw [eV]; exact c4 i hi⟩
  refine T_labelled.c hE hz hB0 hB p3 p4 (fun hh σ1 f1 x1 x5 => ?_) (fun hh i hi hiN σ1 f1 x1 x5 => ?_)
  · refine ref σ1 f1 _ (fun _ σ2 f2 y6 => ?_) (fun g1 i gi giN => ?_)
    · obtain ⟨E1, E2, E3⟩ := fin σ1 σ2 f1 x1 (f2.mo (by decide) (by decide)) y6
      exact ⟨rfl, hq _ σ2 E1 E2 (an1 σ1 σ2 f1 x5 f2) E3⟩
    · rcases hh with hh | hh
      · exact absurd (pr.mp hh) g1
      · omega
  · refine ref σ1 f1 _ (fun g0 => ?_) (fun _ i' gi giN σ2 f2 y6 y1 y2 => ?_)
    · rcases g0 with g0 | g0
      · exact absurd (pr.mpr g0) hh
      · omega
    · have ei : i' = i := by omega
      subst ei
      have l32 := (hE.2.1.2.2.2.2.1.at i').1
      obtain ⟨E1, E2, E3⟩ := fin σ1 σ2 f1 x1 f2 y6
      refine ⟨rfl, hq _ σ2 E1 E2 ⟨?_, ?_, ?_⟩ E3⟩
      · rw [f2.1, x5]
        exact y1
      · rw [f2.1, x5]
        omega
      · rw [f2.1, x5]
        exact y2
end
