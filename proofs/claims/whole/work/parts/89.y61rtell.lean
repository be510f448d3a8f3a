/-! tell, THE REFERENCE; tell in both -/
/-- macros as the reference has them -/
def MaR (σ : MS) (E : TE) : Prop := mnR σ E.1.1 ∧ (∀ w ∈ E.1.1, ixW (wdT 1) 0 w = -1) ∧ ∀ m, m < E.1.1.length → mV σ 266 m = E.1.2.1.getD m 0 ∧ ∃ x : Nat, mV σ 267 m = (x : Int) ∧ mV σ 268 m = ((x + (E.1.2.2.getD m []).length : Nat) : Int) ∧ SgR σ x (E.1.2.2.getD m []) ∧ x + (E.1.2.2.getD m []).length ≤ 4000
/-- labels of a bank -/
def LaR (σ : MS) (E : TE) (b : Nat) : Prop := mV σ 285 b = (E.2.1.1.length : Int) ∧ nmS σ 279 280 12 (60 * b) E.2.1.1 ∧ nmS σ 281 282 32 (60 * b) E.2.1.2.1 ∧ (∀ q, q < E.2.1.1.length → mV σ 283 (60 * b + q) = E.2.1.2.2.1.getD q 0)
/-- where tell may change the reference -/
def AlL (nw z k : Nat) : Prop := (z = 246 ∧ k ∈ [0, 6, 16, 17, 18, 21, 22, 28, 31, 32, 33, 81, 85, 86, 94, 95, 141, 143, 161]) ∨ (z = 252 ∧ 4000 ≤ k) ∨ z = 336 ∨ (z ∈ TRS ∧ (bkW z = 0 ∨ k / bkW z = 1 - nw))
/-- where its work does -/
def AlN (nw z k : Nat) : Prop := (z = 246 ∧ k ∈ [16, 17, 18, 21, 22, 28, 31, 32, 33, 58, 81, 85, 86, 94, 95, 143, 161]) ∨ (z ∈ TRS ∧ (bkW z = 0 ∨ k / bkW z = 1 - nw))
section
variable {σ σ1 σ2 : MS} {Q : MQ9} {E : TE} {nw : Nat} {T : List Int}
theorem alu_l {z k : Nat} (h : AlU 0 0 0 (1 - nw) z k) : AlN nw z k := by
  rcases h with ⟨h1, h2⟩ | ⟨h1, -, h3⟩
  · refine Or.inl ⟨h1, ?_⟩
    unfold TRK at h2
    simp only [List.mem_cons, List.not_mem_nil, or_false] at h2 ⊢
    omega
  · exact Or.inr ⟨h1, h3⟩
theorem aln_l {z k : Nat} (h : AlN nw z k) : AlL nw z k ∨ (z = 246 ∧ k = 58) := by
  rcases h with ⟨h1, h2⟩ | h
  · by_cases e : k = 58
    · exact Or.inr ⟨h1, e⟩
    · refine Or.inl (Or.inl ⟨h1, ?_⟩)
      simp only [List.mem_cons, List.not_mem_nil, or_false] at h2 ⊢
      omega
  · exact Or.inl (Or.inr (Or.inr (Or.inr h)))
theorem FrA.n6 {k : Nat} (q : FrA (AlN nw) σ σ1) (hk : k ∉ [16, 17, 18, 21, 22, 28, 31, 32, 33, 58, 81, 85, 86, 94, 95, 143, 161]) : mV σ1 246 k = mV σ 246 k := q.2.2 246 k (fun h => by
  rcases h with ⟨-, h⟩ | ⟨h, -⟩
  · exact hk h
  · exact absurd h (by decide))
theorem tell_202 {L : List Int} (hG : hoG σ 254 255 0 L) (hok : okK L) (hl : L.length ≤ 60100) (h16 : mV σ 246 16 = (L.length : Int)) (hq : Q (.inl (some (L.length : Int))) (wF σ 336 0 (ms7 L))) : R_tell_202 0 σ Q := by
  have lL := ms7_len (L := L)
  refine loopF (P := fun i σ' => R_tell_202 i σ' Q) (z := 336) (a := 0) (n := L.length) (f := fun i => (ms7 L).getD i 0) (fun i hi k9 => ?_) ?_
  · generalize hs : wF σ 336 0 (ofF (fun i => (ms7 L).getD i 0) i) = σ9 at k9 ⊢
    have t16 : mV σ9 246 16 = (L.length : Int) := by rw [← hs, wF_ne (Or.inl (by decide))]; exact h16
    have t4 : mV σ9 254 i % 256 = rdG (L.getD i 0) := by
      rw [← hs, wF_ne (Or.inl (by decide))]
      have := hG.at hi
      rw [Nat.zero_add] at this
      exact this
    refine R_tell_202.i ⟨by unfold Rg; omega, fun h9 => absurd h9 (by rw [t16]; omega), fun _ => R_at.i ⟨by omega, by omega, ?_⟩⟩
    show R_shown (mV σ9 254 ((i : Int).toNat) % 256) σ9 _
    rw [Int.toNat_natCast, t4]
    refine R_shown.s rdG_r ⟨by omega, by omega, ?_⟩
    have okc := hok.gd hi
    rw [shS_rd okc, show b8 (L.getD i 0 % 128) = L.getD i 0 % 128 from b8_id (by omega), show b8 (L.getD i 0 % 128) = L.getD i 0 % 128 from b8_id (by omega)]
    have k9 : R_tell_202 ((i : Int) + 1) (wV σ9 336 (0 + i) ((ms7 L).getD i 0)) Q := k9
    rw [Nat.zero_add, ms7_at hi] at k9
    exact k9
  · rw [show ofF (fun i => (ms7 L).getD i 0) L.length = ms7 L by rw [← lL, ofF_list]]
    have t16 : mV (wF σ 336 0 (ms7 L)) 246 16 = (L.length : Int) := by rw [wF_ne (Or.inl (by decide))]; exact h16
    refine R_tell_202.i ⟨by unfold Rg; omega, fun _ => ?_, fun h9 => absurd h9 (by rw [t16]; omega)⟩
    rw [t16]
    exact hq
theorem tell_129 {l1 l2 l4 l5 l6 : Int} (hE : EI E) (h0 : E.2.2.2 = 0) (hn : nw ≤ 1) (hl1 : l1 = (T.length : Int)) (hlT : T.length ≤ 4000) (hTb : smB T) (hT : SgR σ 4000 T) (hM : MaR σ E) (hL : LaR σ E nw) (h59 : mV σ 246 59 = 1 - (nw : Int)) (h52 : 0 < E.2.1.1.length → mV σ 246 52 = E.2.1.2.2.2.1 ∧ mV σ 246 53 = E.2.1.2.2.2.2) (h58 : mV σ 246 58 = 0) (h28 : mV σ 246 28 = 0) (h32 : mV σ 246 32 = 0) (he : 0 ≤ mV σ 246 33 ∧ mV σ 246 33 ≤ 400000) (hu : UnB σ)
    (k1 : ∀ s' σ', wkD 30 E true [] T (tl0 (mV σ 246 33) (mV σ 246 85)) = .inl s' → FrA (AlN nw) σ σ' → hoG σ' 254 255 0 s'.2.1 → okK s'.2.1 → s'.2.1.length ≤ 60100 → mV σ' 246 16 = (s'.2.1.length : Int) → mV σ' 246 33 = s'.1.2.1 → mV σ' 246 85 = s'.2.2.2.2.2.2 → UnB σ' → R_tell_202 0 (wV (wV (wV (wV (wV (wV σ' 285 nw l6) 246 59 (nw : Int)) 246 52 l4) 246 53 l5) 246 58 l2) 246 141 (s'.2.1.length : Int)) Q)
    (k2 : ∀ e σ', wkD 30 E true [] T (tl0 (mV σ 246 33) (mV σ 246 85)) = .inr e → FrA (AlN nw) σ σ' → mV σ' 246 33 = e.2.2 → UnB σ' → Q (.inl (some (-1 - e.1))) (wV (wV (wV (wV (wV σ' 285 nw l6) 246 59 (nw : Int)) 246 52 l4) 246 53 l5) 246 58 l2)) : R_tell_129 l1 l2 (nw : Int) l4 l5 l6 σ Q := by
  subst hl1
  refine R_tell_129.i (R_begins.i ⟨by decide, ?_⟩)
  generalize hσ3 : wV (wV (wV (wV (wV (wV (wV (wV (wV σ 246 16 0) 246 17 70000) 246 21 0) 246 22 0) 246 31 0) 246 18 0) 246 94 0) 246 95 0) 246 161 0 = σ3
  have f3 : FrZ [] [16, 17, 18, 21, 22, 31, 94, 95, 161] σ σ3 := by
    rw [← hσ3]
    exact ((((((((FrZ.wf (by decide)).tr (FrZ.wf (by decide))).tr (FrZ.wf (by decide))).tr (FrZ.wf (by decide))).tr (FrZ.wf (by decide))).tr (FrZ.wf (by decide))).tr (FrZ.wf (by decide))).tr (FrZ.wf (by decide))).tr (FrZ.wf (by decide))
  have q3 : FrA (AlN nw) σ σ3 := ⟨f3.1, f3.2.1, fun z k n => f3.2.2 z k List.not_mem_nil (by
    by_cases e : z = 246
    · refine Or.inr (fun hk => n (Or.inl ⟨e, ?_⟩))
      simp only [List.mem_cons, List.not_mem_nil, or_false] at hk ⊢
      omega
    · exact Or.inl e)⟩
  have v : mV σ3 246 16 = 0 ∧ mV σ3 246 21 = 0 ∧ mV σ3 246 22 = 0 ∧ mV σ3 246 31 = 0 ∧ mV σ3 246 18 = 0 ∧ mV σ3 246 95 = 0 := by
    rw [← hσ3]
    exact ⟨rfl, rfl, rfl, rfl, rfl, rfl⟩
  obtain ⟨v16, v21, v22, v31, v18, v95⟩ := v
  have en : 1 - (1 - nw) = nw := by omega
  have hRE : RxE σ3 E (1 - nw) := by
    obtain ⟨⟨b1, b2, b3⟩, b4, b5⟩ := hM
    obtain ⟨c1, c2, c3, c4⟩ := hL
    refine ⟨⟨by omega, ?_⟩, ⟨⟨(f3.f (by decide) (by decide)).trans b1, b2, fun i hi => ⟨(f3.z (by decide) (by decide)).trans (b3 i hi).1, (b3 i hi).2.1, (b3 i hi).2.2.cg (fun k _ _ => f3.z (by decide) (by decide))⟩⟩, b4, fun i hi => ?_⟩, ?_, fun b9 => ⟨(f3.f (by decide) (by decide)).trans (h52 b9).1, (f3.f (by decide) (by decide)).trans (h52 b9).2⟩, fun b9 => absurd b9 (by omega)⟩
    · rw [f3.f (by decide) (by decide), h59]
      omega
    · obtain ⟨f1, x, f2, f4, f5, -⟩ := b5 i hi
      exact ⟨(f3.z (by decide) (by decide)).trans f1, x, (f3.z (by decide) (by decide)).trans f2, (f3.z (by decide) (by decide)).trans f4, f5.cg (fun k => f3.z (by decide) (by decide))⟩
    · rw [en]
      exact ⟨(f3.z (by decide) (by decide)).trans c1, c2.cg (fun k => f3.z (by decide) (by decide)) (fun k => f3.z (by decide) (by decide)), c3.cg (fun k => f3.z (by decide) (by decide)) (fun k => f3.z (by decide) (by decide)), fun i hi => (f3.z (by decide) (by decide)).trans (c4 i hi)⟩
  have hS : RxS (1 - nw, 0, 0, 0, 0) 0 0 0 30 true E [] σ3 (tl0 (mV σ 246 33) (mV σ 246 85)) := by
    refine ⟨⟨(f3.f (by decide) (by decide)).trans h28, (f3.f (by decide) (by decide)).trans h32, f3.f (by decide) (by decide), v18⟩, ⟨v16, hoG.nil⟩, ⟨⟨(f3.f (by decide) (by decide)).trans h58, fun m hm => absurd hm (Nat.not_lt_zero _), fun i hi => absurd hi (Nat.not_lt_zero _)⟩, fun b9 => absurd b9 (by omega), fun b9 => absurd b9 (by omega), fun b9 => absurd b9 (by omega), ⟨?_, rfl⟩, fun b9 => absurd b9 (by omega)⟩, v21, v22, v31, v95, hu.z f3 (by decide) (by decide)⟩
    rw [f3.f (by decide) (by decide)]
    show mV σ 246 85 = mV σ 246 85 + 0
    omega
  have hTi := tl0_ti he hu
  show R_works 240 ((4000 : Nat) : Int) (4000 + (T.length : Int)) (-1) σ3 _
  rw [show (4000 : Int) + (T.length : Int) = ((4000 + T.length : Nat) : Int) by omega]
  refine is_r hE 30 240 4000 T true [] (-1) (1 - nw, 0, 0, 0, 0) 0 0 0 [] (tl0 (mV σ 246 33) (mV σ 246 85)) σ3 _ 0 (by decide) (hT.cg (fun k => f3.z (by decide) (by decide))) hTb hRE (Or.inl ⟨rfl, rfl⟩) (fun w hw => absurd hw List.not_mem_nil) hS hTi (by decide) (by decide) (fun h9 => absurd h9 (by decide)) ⟨fun s' σ4 e4 h4 u4 => ?_, fun e σ4 he4 h4 h5 u4 => ?_⟩
  · have q4 : FrA (AlN nw) σ σ4 := q3.tr (FrA.mo u4 (fun z k a => alu_l a))
    have ti4 := wkD_ti hE (Int.le_refl 0) (Int.le_refl 0) hTi (fun w hw => absurd hw List.not_mem_nil) hTb e4
    have bd4 := ti4.bd (g := 0) (kt := 0) (by decide)
    have b41 := bd4.1
    have b43 := bd4.2.2
    have t16 : mV σ4 246 16 = (s'.2.1.length : Int) := by
      rw [h4.2.1.1, Nat.zero_add]
    show 0 ≤ (nw : Int) ∧ (nw : Int) < 2 ∧ (mV σ4 246 28 = 0 → R_tell_202 0 (wV (wV (wV (wV (wV (wV σ4 285 ((nw : Int).toNat) l6) 246 59 (nw : Int)) 246 52 l4) 246 53 l5) 246 58 l2) 246 141 (mV σ4 246 16)) Q) ∧ _
    rw [Int.toNat_natCast, t16]
    refine ⟨by omega, by omega, fun _ => k1 s' σ4 e4 q4 h4.2.1.2 ti4.1.2.2.2 (by omega) t16 h4.1.2.2.1 ?_ h4.2.2.2.2.2.2.2, fun h9 => absurd h4.1.1 h9⟩
    have := h4.2.2.1.2.2.2.2.1.1
    have this : mV σ4 246 85 = s'.2.2.2.2.2.2 + 0 := this
    omega
  · have q4 : FrA (AlN nw) σ σ4 := q3.tr (FrA.mo u4 (fun z k a => alu_l a))
    have ek := fk_wk e he4
    show 0 ≤ (nw : Int) ∧ (nw : Int) < 2 ∧ (mV σ4 246 28 = 0 → _) ∧ (¬ mV σ4 246 28 = 0 → Rg (-1 - mV σ4 246 28) ∧ Q (.inl (some (-1 - mV σ4 246 28))) (wV (wV (wV (wV (wV σ4 285 ((nw : Int).toNat) l6) 246 59 (nw : Int)) 246 52 l4) 246 53 l5) 246 58 l2))
    rw [Int.toNat_natCast, h4.1]
    exact ⟨by omega, by omega, fun h9 => absurd h9 h4.2.1, fun _ => ⟨by unfold Rg; omega, k2 e σ4 he4 q4 h4.2.2.2.1 h5.2.2.2.2⟩⟩
theorem R_tell.r {L : List Int} (hE : EI E) (h0 : E.2.2.2 = 0) (hn : nw ≤ 1) (h6 : mV σ 246 6 = (L.length : Int)) (h7 : hol σ 247 L) (hl : L.length ≤ 4000) (hb : smB L) (hM : MaR σ E) (hL : ¬ mV σ 246 114 = 0 → LaR σ E nw) (hN : mV σ 246 114 = 0 → E.2.1.1 = []) (h59 : mV σ 246 59 = (nw : Int)) (h30 : 0 < E.2.1.1.length → mV σ 246 130 = E.2.1.2.2.2.1 ∧ mV σ 246 131 = E.2.1.2.2.2.2) (he : 0 ≤ mV σ 246 33 ∧ mV σ 246 33 ≤ 400000) (hu : UnB σ)
    (k1 : ∀ s' σ', wkD 30 E true [] (tpT L) (tl0 (mV σ 246 33) (mV σ 246 85)) = .inl s' → FrA (AlL nw) σ σ' → mV σ' 246 6 = 0 → hol σ' 336 (ms7 s'.2.1) → mV σ' 246 141 = (s'.2.1.length : Int) → s'.2.1.length ≤ 60100 → mV σ' 246 33 = s'.1.2.1 → UnB σ' → Q (.inl (some (s'.2.1.length : Int))) σ')
    (k2 : ∀ e σ', wkD 30 E true [] (tpT L) (tl0 (mV σ 246 33) (mV σ 246 85)) = .inr e → FrA (AlL nw) σ σ' → mV σ' 246 6 = 0 → mV σ' 246 141 = mV σ 246 141 → (∀ k, mV σ' 336 k = mV σ 336 k) → mV σ' 246 33 = e.2.2 → UnB σ' → Q (.inl (some (-1 - e.1))) σ') : R_tell σ Q := by
  have lT := tpT_len (L := L)
  refine R_tell.i ?_
  rw [h6]
  generalize hσ0 : wV (wV σ 246 0 0) 246 6 0 = σ0
  have f0 : FrZ [] [0, 6] σ σ0 := by rw [← hσ0]; exact (FrZ.wf (by decide)).tr (FrZ.wf (by decide))
  refine loopF (P := fun i σ' => R_tell_17 (L.length : Int) i σ' Q) (z := 252) (a := 4000) (n := L.length) (f := fun i => L.getD i 0) (fun i hi k9 => ?_) ?_
  · have t : mV (wF σ0 252 4000 (ofF (fun i => L.getD i 0) i)) 247 i = L.getD i 0 := by
      rw [wF_ne (Or.inl (by decide)), f0.z (by decide) (by decide)]
      exact h7 i hi
    refine R_tell_17.i ⟨by unfold Rg; omega, fun h9 => absurd h9 (by omega), fun _ => ⟨by omega, by omega, by omega, by omega, ?_⟩⟩
    rw [Int.toNat_natCast, t, hb.at hi, show ((4000 : Int) + (i : Int)).toNat = 4000 + i by omega]
    exact k9
  · rw [ofF_list]
    generalize hσ1 : wF σ0 252 4000 L = σ1
    have f1 : FrZ [252] [0, 6] σ σ1 := by rw [← hσ1]; exact (f0.mo (by decide) (by decide)).tr (FrZ.wF (by decide))
    have lo1 : ∀ k, k < 4000 → mV σ1 252 k = mV σ 252 k := fun k hk => by
      rw [← hσ1, wF_ne (Or.inr (Or.inl hk)), f0.z (by decide) (by decide)]
    have hT1 : SgR σ1 4000 (tpT L) := ⟨by omega, fun t ht => by
      rw [lT] at ht
      rw [tpT_at ht, ← hσ1, wF_at ht]⟩
    have v0 : mV σ1 246 0 = 0 ∧ mV σ1 246 6 = 0 := by
      rw [← hσ1, wF_ne (Or.inl (by decide)), wF_ne (Or.inl (by decide)), ← hσ0, wV_self, wV_ne (Or.inr (by decide)), wV_self]
      exact ⟨rfl, rfl⟩
    have e59 : mV σ1 246 59 = (nw : Int) := (f1.f (by decide) (by decide)).trans h59
    have eN : ((nw : Nat) : Int).toNat = nw := rfl
    refine R_tell_17.i ⟨by unfold Rg; omega, fun _ => ?_, fun h9 => absurd h9 (by omega)⟩
    rw [e59, eN]
    have go : ∀ σ2 : MS, FrZ [285] [28, 32, 52, 53, 58, 59] σ1 σ2 → mV σ2 246 58 = 0 → mV σ2 246 28 = 0 → mV σ2 246 32 = 0 → mV σ2 246 59 = 1 - (nw : Int) → mV σ2 246 52 = mV σ 246 130 → mV σ2 246 53 = mV σ 246 131 → LaR σ2 E nw → (∀ k, k ≠ nw → mV σ2 285 k = mV σ 285 k) → R_tell_129 (L.length : Int) (mV σ1 246 58) (nw : Int) (mV σ1 246 52) (mV σ1 246 53) (mV σ1 285 nw) σ2 Q := by
      intro σ2 f2 w58 w28 w32 w59 w52 w53 hL2 w85
      have f12 : FrZ [252, 285] [0, 6, 28, 32, 52, 53, 58, 59] σ σ2 := (f1.mo (by decide) (by decide)).tr (f2.mo (by decide) (by decide))
      have lo2 : ∀ k, k < 4000 → mV σ2 252 k = mV σ 252 k := fun k hk => by rw [f2.z (by decide) (by decide)]; exact lo1 k hk
      have w33 : mV σ2 246 33 = mV σ 246 33 := f12.f (by decide) (by decide)
      have w855 : mV σ2 246 85 = mV σ 246 85 := f12.f (by decide) (by decide)
      have hM2 : MaR σ2 E := by
        obtain ⟨⟨b1, b2, b3⟩, b4, b5⟩ := hM
        refine ⟨⟨(f12.f (by decide) (by decide)).trans b1, b2, fun i hi => ⟨(f12.z (by decide) (by decide)).trans (b3 i hi).1, (b3 i hi).2.1, (b3 i hi).2.2.cg (fun k _ _ => f12.z (by decide) (by decide))⟩⟩, b4, fun i hi => ?_⟩
        obtain ⟨g1, x, g2, g4, g5, g6⟩ := b5 i hi
        refine ⟨(f12.z (by decide) (by decide)).trans g1, x, (f12.z (by decide) (by decide)).trans g2, (f12.z (by decide) (by decide)).trans g4, ⟨g5.1, fun t ht => ?_⟩, g6⟩
        rw [lo2 _ (by omega)]
        exact g5.2 t ht
      have back : ∀ σ4 : MS, FrA (AlN nw) σ2 σ4 → ∀ z k, ¬ AlL nw z k → ¬ (z = 246 ∧ (k = 58 ∨ k = 59 ∨ k = 52 ∨ k = 53)) → ¬ (z = 285 ∧ k = nw) → mV σ4 z k = mV σ z k := by
        intro σ4 q4 z k n1 n2 n3
        have e4 : mV σ4 z k = mV σ2 z k := q4.2.2 z k (fun h => (aln_l h).elim n1 (fun h => n2 ⟨h.1, Or.inl h.2⟩))
        rw [e4]
        by_cases h5 : z = 252
        · subst h5
          exact lo2 k (by
            by_cases h6 : k < 4000
            · exact h6
            · exact absurd (Or.inr (Or.inl ⟨rfl, by omega⟩)) n1)
        · by_cases h6 : z = 285
          · subst h6
            exact w85 k (fun h => n3 ⟨rfl, h⟩)
          · refine f12.2.2 z k (by simp only [List.mem_cons, List.not_mem_nil, or_false, not_or]; exact ⟨h5, h6⟩) ?_
            by_cases h7 : z = 246
            · refine Or.inr (fun hk => ?_)
              subst h7
              simp only [List.mem_cons, List.not_mem_nil, or_false] at hk
              have n1' : ¬ (k ∈ [0, 6, 16, 17, 18, 21, 22, 28, 31, 32, 33, 81, 85, 86, 94, 95, 141, 143, 161]) := fun h => n1 (Or.inl ⟨rfl, h⟩)
              simp only [List.mem_cons, List.not_mem_nil, or_false] at n1'
              omega
            · exact Or.inl h7
      have mk : ∀ σ4 : MS, FrA (AlN nw) σ2 σ4 → FrA (AlL nw) σ (wV (wV (wV (wV (wV σ4 285 nw (mV σ1 285 nw)) 246 59 (nw : Int)) 246 52 (mV σ1 246 52)) 246 53 (mV σ1 246 53)) 246 58 (mV σ1 246 58)) := by
        intro σ4 q4
        refine ⟨q4.1.trans f12.1, q4.2.1.trans f12.2.1, fun z k n => ?_⟩
        by_cases c1 : z = 246 ∧ k = 58
        · obtain ⟨rfl, rfl⟩ := c1
          rw [wV_self]
          exact f1.f (by decide) (by decide)
        · rw [wV_ne (by omega)]
          by_cases c2 : z = 246 ∧ k = 53
          · obtain ⟨rfl, rfl⟩ := c2
            rw [wV_self]
            exact f1.f (by decide) (by decide)
          · rw [wV_ne (by omega)]
            by_cases c3 : z = 246 ∧ k = 52
            · obtain ⟨rfl, rfl⟩ := c3
              rw [wV_self]
              exact f1.f (by decide) (by decide)
            · rw [wV_ne (by omega)]
              by_cases c4 : z = 246 ∧ k = 59
              · obtain ⟨rfl, rfl⟩ := c4
                rw [wV_self]
                exact h59.symm
              · rw [wV_ne (by omega)]
                by_cases c5 : z = 285 ∧ k = nw
                · obtain ⟨rfl, rfl⟩ := c5
                  rw [wV_self]
                  exact f1.z (by decide) (by decide)
                · rw [wV_ne (by omega)]
                  exact back σ4 q4 z k n (by omega) c5
      have hu2 : UnB σ2 := hu.z f12 (by decide) (by decide)
      have w6 : mV σ2 246 6 = 0 := by rw [f2.f (by decide) (by decide)]; exact v0.2
      have un : ∀ σ4 : MS, ∀ x9 y9 : Int, UnB σ4 → UnB (wV (wV (wV (wV (wV σ4 285 nw (mV σ1 285 nw)) 246 59 (nw : Int)) 246 52 x9) 246 53 y9) 246 58 (mV σ1 246 58)) := fun σ4 x9 y9 h4 => h4.z (S := [285]) (K := [52, 53, 58, 59]) (((((FrZ.wz (by decide)).tr (FrZ.wf (by decide))).tr (FrZ.wf (by decide))).tr (FrZ.wf (by decide))).tr (FrZ.wf (by decide))) (by decide) (by decide)
      refine tell_129 (T := tpT L) hE h0 hn (by rw [lT]) (by omega) (tpT_sm hb) (hT1.cg (fun k => f2.z (by decide) (by decide))) hM2 hL2 w59 (fun b9 => ⟨by rw [w52]; exact (h30 b9).1, by rw [w53]; exact (h30 b9).2⟩) w58 w28 w32 (by rw [w33]; exact he) hu2 (fun s' σ4 e4 q4 g4 o4 l4 t4 x4 y4 z4 => ?_) (fun e σ4 e4 q4 x4 z4 => ?_)
      · rw [w33, w855] at e4
        have q5 := mk σ4 q4
        generalize hσ5 : wV (wV (wV (wV (wV σ4 285 nw (mV σ1 285 nw)) 246 59 (nw : Int)) 246 52 (mV σ1 246 52)) 246 53 (mV σ1 246 53)) 246 58 (mV σ1 246 58) = σ5 at q5
        have f5 : FrZ [285] [52, 53, 58, 59] σ4 σ5 := by
          rw [← hσ5]
          exact ((((FrZ.wz (by decide)).tr (FrZ.wf (by decide))).tr (FrZ.wf (by decide))).tr (FrZ.wf (by decide))).tr (FrZ.wf (by decide))
        have f6 : FrZ [285] [52, 53, 58, 59, 141] σ4 (wV σ5 246 141 (s'.2.1.length : Int)) := (f5.mo (by decide) (by decide)).tr (FrZ.wf (by decide))
        have l7 := ms7_len (L := s'.2.1)
        refine tell_202 (L := s'.2.1) (g4.cg (fun k _ _ => ⟨f6.z (by decide) (by decide), f6.z (by decide) (by decide)⟩)) o4 l4 ((f6.f (by decide) (by decide)).trans t4) (k1 s' _ e4 ?_ ?_ ?_ ?_ l4 ?_ ?_)
        · exact (q5.tr (FrA.w (Or.inl ⟨rfl, by decide⟩))).tr (FrA.wF (fun k _ _ => Or.inr (Or.inr (Or.inl rfl))))
        · rw [wF_ne (Or.inl (by decide)), f6.f (by decide) (by decide), q4.n6 (by decide)]
          exact w6
        · intro i hi
          have := wF_at (σ := wV σ5 246 141 (s'.2.1.length : Int)) (z := 336) (a := 0) hi
          rw [Nat.zero_add] at this
          exact this
        · rw [wF_ne (Or.inl (by decide)), wV_self]
        · rw [wF_ne (Or.inl (by decide)), f6.f (by decide) (by decide)]
          exact x4
        · exact (z4.z f6 (by decide) (by decide)).z (S := [336]) (K := []) (FrZ.wF (by decide)) (by decide) (by decide)
      · rw [w33, w855] at e4
        refine k2 e _ e4 (mk σ4 q4) ?_ ?_ ?_ ?_ ?_
        · rw [wV_ne (Or.inr (by decide)), wV_ne (Or.inr (by decide)), wV_ne (Or.inr (by decide)), wV_ne (Or.inr (by decide)), wV_ne (Or.inl (by decide)), q4.n6 (by decide)]
          exact w6
        · rw [wV_ne (Or.inr (by decide)), wV_ne (Or.inr (by decide)), wV_ne (Or.inr (by decide)), wV_ne (Or.inr (by decide)), wV_ne (Or.inl (by decide)), q4.n6 (by decide)]
          exact f12.f (by decide) (by decide)
        · intro k
          rw [wV_ne (Or.inl (by decide)), wV_ne (Or.inl (by decide)), wV_ne (Or.inl (by decide)), wV_ne (Or.inl (by decide)), wV_ne (Or.inl (by decide)), q4.2.2 336 k (fun h => ?_)]
          · exact f12.z (by decide) (by decide)
          · rcases h with ⟨h, -⟩ | ⟨h, -⟩
            · exact absurd h (by decide)
            · exact absurd h (by decide)
        · rw [wV_ne (Or.inr (by decide)), wV_ne (Or.inr (by decide)), wV_ne (Or.inr (by decide)), wV_ne (Or.inr (by decide)), wV_ne (Or.inl (by decide))]
          exact x4
        · exact un σ4 _ _ z4
    have b130 : mV σ1 246 130 = mV σ 246 130 := f1.f (by decide) (by decide)
    have b131 : mV σ1 246 131 = mV σ 246 131 := f1.f (by decide) (by decide)
    have b114 : mV σ1 246 114 = mV σ 246 114 := f1.f (by decide) (by decide)
    have b285 : ∀ k, mV σ1 285 k = mV σ 285 k := fun k => f1.z (by decide) (by decide)
    rw [b114, b130, b131]
    have lz : LaR σ E nw → ∀ σ9, FrZ [252] [0, 6, 28, 32, 52, 53, 58, 59] σ σ9 → LaR σ9 E nw := fun h σ9 f9 => ⟨(f9.z (by decide) (by decide)).trans h.1, h.2.1.cg (fun k => f9.z (by decide) (by decide)) (fun k => f9.z (by decide) (by decide)), h.2.2.1.cg (fun k => f9.z (by decide) (by decide)) (fun k => f9.z (by decide) (by decide)), fun i hi => (f9.z (by decide) (by decide)).trans (h.2.2.2 i hi)⟩
    generalize hσ2 : wV (wV (wV (wV (wV (wV σ1 246 58 0) 246 28 0) 246 32 0) 246 59 (1 - (nw : Int))) 246 52 (mV σ 246 130)) 246 53 (mV σ 246 131) = σ2
    have f2 : FrZ [] [28, 32, 52, 53, 58, 59] σ1 σ2 := by
      rw [← hσ2]
      exact (((((FrZ.wf (by decide)).tr (FrZ.wf (by decide))).tr (FrZ.wf (by decide))).tr (FrZ.wf (by decide))).tr (FrZ.wf (by decide))).tr (FrZ.wf (by decide))
    have w : mV σ2 246 58 = 0 ∧ mV σ2 246 28 = 0 ∧ mV σ2 246 32 = 0 ∧ mV σ2 246 59 = 1 - (nw : Int) ∧ mV σ2 246 52 = mV σ 246 130 ∧ mV σ2 246 53 = mV σ 246 131 := by
      rw [← hσ2]
      exact ⟨rfl, rfl, rfl, rfl, rfl, rfl⟩
    obtain ⟨w1, w2, w3, w4, w5, w6⟩ := w
    refine ⟨by unfold Rg; omega, by omega, by omega, fun h9 => ?_, fun h9 => ⟨by omega, by omega, ?_⟩⟩
    · exact go σ2 (f2.mo (by decide) (by decide)) w1 w2 w3 w4 w5 w6 (lz (hL h9) σ2 ((f1.mo (by decide) (by decide)).tr (f2.mo (by decide) (by decide)))) (fun k _ => by rw [f2.z (by decide) (by decide)]; exact b285 k)
    · have e9 := hN h9
      have f3 : FrZ [285] [28, 32, 52, 53, 58, 59] σ1 (wV σ2 285 nw 0) := (f2.mo (by decide) (by decide)).tr (FrZ.wz (by decide))
      have er : E.2.1.2.1.length = 0 := by rw [hE.2.1.1, e9]; rfl
      refine go (wV σ2 285 nw 0) f3 (by rw [wV_ne (Or.inl (by decide))]; exact w1) (by rw [wV_ne (Or.inl (by decide))]; exact w2) (by rw [wV_ne (Or.inl (by decide))]; exact w3) (by rw [wV_ne (Or.inl (by decide))]; exact w4) (by rw [wV_ne (Or.inl (by decide))]; exact w5) (by rw [wV_ne (Or.inl (by decide))]; exact w6) ⟨?_, ?_, ?_, ?_⟩ (fun k hk => ?_)
      · rw [wV_self, e9]
        rfl
      · rw [e9]
        exact fun m hm => absurd hm (Nat.not_lt_zero _)
      · exact fun m hm => absurd hm (by omega)
      · rw [e9]
        exact fun m hm => absurd hm (Nat.not_lt_zero _)
      · rw [wV_ne (Or.inr hk), f2.z (by decide) (by decide)]
        exact b285 k
end
