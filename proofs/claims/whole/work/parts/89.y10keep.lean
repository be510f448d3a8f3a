/-! KEEP -/
/-- rows of X, cells of Z, the reference's own fields of K may have changed, nothing else -/
def Fr (X Z K : List Nat) (σ σ' : MS) : Prop := (∀ q, q ∉ X → mX σ' q = mX σ q) ∧ mB σ' = mB σ ∧ ∀ z k, z ∉ Z → (z ≠ 246 ∨ k ∉ K) → mV σ' z k = mV σ z k
section
variable {X Z K X' Z' K' : List Nat} {σ σ1 σ2 : MS}
theorem Fr.rf : Fr X Z K σ σ := ⟨fun _ _ => rfl, rfl, fun _ _ _ _ => rfl⟩
theorem Fr.tr (h : Fr X Z K σ σ1) (h' : Fr X Z K σ1 σ2) : Fr X Z K σ σ2 := ⟨fun q a => (h'.1 q a).trans (h.1 q a), h'.2.1.trans h.2.1, fun z k a b => (h'.2.2 z k a b).trans (h.2.2 z k a b)⟩
theorem Fr.mo (h : Fr X Z K σ σ1) (hx : X ⊆ X') (hz : Z ⊆ Z') (hk : K ⊆ K') : Fr X' Z' K' σ σ1 := ⟨fun q a => h.1 q (fun e => a (hx e)), h.2.1, fun z k a b => h.2.2 z k (fun e => a (hz e)) (b.imp id (fun n e => n (hk e)))⟩
theorem Fr.x (h : Fr X Z K σ σ1) {q : Nat} (hq : q ∉ X) : mX σ1 q = mX σ q := h.1 q hq
theorem Fr.z (h : Fr X Z K σ σ1) {z k : Nat} (hz : z ∉ Z) (h6 : z ≠ 246) : mV σ1 z k = mV σ z k := h.2.2 z k hz (Or.inl h6)
theorem Fr.f (h : Fr X Z K σ σ1) {k : Nat} (hk : k ∉ K) (hz : 246 ∉ Z) : mV σ1 246 k = mV σ 246 k := h.2.2 246 k hz (Or.inr hk)
theorem Fr.wx {q : Nat} {L : List Int} (hq : q ∈ X) : Fr X Z K σ (wX σ q L) := ⟨fun q' a => wX_ne (fun e => a (by rw [e]; exact hq)), rfl, fun _ _ _ _ => rfl⟩
theorem Fr.wz {z k : Nat} {x : Int} (hz : z ∈ Z) : Fr X Z K σ (wV σ z k x) := ⟨fun _ _ => rfl, rfl, fun z' k' a _ => wV_ne (Or.inl (fun e => a (by rw [e]; exact hz)))⟩
theorem Fr.wf {k : Nat} {x : Int} (hk : k ∈ K) : Fr X Z K σ (wV σ 246 k x) := ⟨fun _ _ => rfl, rfl, fun z' k' _ b => wV_ne (by
  rcases b with b | b
  · exact Or.inl b
  · exact Or.inr (fun e => b (by rw [e]; exact hk)))⟩
theorem Fr.of (h : FrZ Z K σ σ1) : Fr X Z K σ σ1 := ⟨fun q _ => by rw [h.1], h.2.1, h.2.2⟩
end
/-- class and reference keep these lines -/
def KpR (σ : MS) (K : List (List Int)) : Prop := shR σ 230 K ∧ mX σ 239 = K.map hsh ∧ mV σ 246 135 = (K.length : Int) ∧ K.length ≤ 6100 ∧ suM K ≤ 80000 ∧ (∀ l, l < K.length → mV σ 331 l = ((K.getD l []).length : Int) ∧ mV σ 330 l = ((suM (K.take l) : Nat) : Int)) ∧ ∀ i, i < suM K → mV σ 329 i = K.flatten.getD i 0 % 128
def KeR (σ : MS) : Prop := (mV σ 229 0 = 0 ∧ mV σ 246 115 = 0) ∨ (mV σ 229 0 = 1 ∧ mV σ 246 115 = 1 ∧ ∃ K, KpR σ K)
section
variable {σ σ' : MS} {P : List Nat} {L : List (List Int)} {O : List Int}
theorem PgR.cg (h : PgR σ P L O) (hX : ∀ q ∈ [214, 216, 218, 220, 222], mX σ' q = mX σ q) (hV : ∀ z ∈ [322, 323, 324, 325, 326, 328], ∀ k, mV σ' z k = mV σ z k) (hf : ∀ k ∈ [123, 124, 125], mV σ' 246 k = mV σ 246 k) : PgR σ' P L O := by
  obtain ⟨⟨a1, a2, a3, a4, a5⟩, ⟨b1, b2, b3, b4, b5, b6⟩, c1, c2, c3, c4, c5⟩ := h
  refine ⟨⟨by rw [hX 220 (by decide)]; exact a1, ⟨?_, ?_⟩, by rw [hX 218 (by decide)]; exact a3, a4, by rw [hX 222 (by decide)]; exact a5⟩, ⟨by rw [hf 123 (by decide)]; exact b1, b2, fun i hi => by rw [hV 328 (by decide)]; exact b3 i hi, by rw [hV 328 (by decide)]; exact b4, by rw [hf 124 (by decide)]; exact b5, by rw [hf 125 (by decide)]; exact b6⟩, c1, c2, c3, fun l hl => ?_, fun i hi => ?_⟩
  · exact (hX 214 (by decide)).trans a2.1
  · exact (hX 216 (by decide)).trans a2.2
  · rw [hV 325 (by decide), hV 324 (by decide), hV 326 (by decide)]; exact c4 l hl
  · rw [hV 322 (by decide), hV 323 (by decide)]; exact c5 i hi
theorem PrR.cg (h : PrR σ) (hX : ∀ q ∈ [214, 216, 218, 220, 222], mX σ' q = mX σ q) (hV : ∀ z ∈ [322, 323, 324, 325, 326, 328], ∀ k, mV σ' z k = mV σ z k) (hf : ∀ k ∈ [114, 123, 124, 125], mV σ' 246 k = mV σ 246 k) (h0 : mV σ' 212 0 = mV σ 212 0) : PrR σ' := by
  rcases h with ⟨h1, h2⟩ | ⟨h1, h2, P, L, O, h⟩
  · exact Or.inl ⟨by rw [h0]; exact h1, by rw [hf 114 (by decide)]; exact h2⟩
  · exact Or.inr ⟨by rw [h0]; exact h1, by rw [hf 114 (by decide)]; exact h2, P, L, O, h.cg hX hV (fun k hk => hf k (List.mem_cons_of_mem _ hk))⟩
theorem KpR.cg {K : List (List Int)} (h : KpR σ K) (hX : ∀ q ∈ [231, 233, 239], mX σ' q = mX σ q) (hV : ∀ z ∈ [329, 330, 331], ∀ k, mV σ' z k = mV σ z k) (hf : mV σ' 246 135 = mV σ 246 135) : KpR σ' K := by
  obtain ⟨a1, a2, a3, a4, a5, a6, a7⟩ := h
  exact ⟨⟨(hX 231 (by decide)).trans a1.1, (hX 233 (by decide)).trans a1.2⟩, by rw [hX 239 (by decide)]; exact a2, by rw [hf]; exact a3, a4, a5, fun l hl => by rw [hV 331 (by decide), hV 330 (by decide)]; exact a6 l hl, fun i hi => by rw [hV 329 (by decide)]; exact a7 i hi⟩
theorem KeR.cg (h : KeR σ) (hX : ∀ q ∈ [231, 233, 239], mX σ' q = mX σ q) (hV : ∀ z ∈ [329, 330, 331], ∀ k, mV σ' z k = mV σ z k) (hf : ∀ k ∈ [115, 135], mV σ' 246 k = mV σ 246 k) (h0 : mV σ' 229 0 = mV σ 229 0) : KeR σ' := by
  rcases h with ⟨h1, h2⟩ | ⟨h1, h2, K, h⟩
  · exact Or.inl ⟨by rw [h0]; exact h1, by rw [hf 115 (by decide)]; exact h2⟩
  · exact Or.inr ⟨by rw [h0]; exact h1, by rw [hf 115 (by decide)]; exact h2, K, h.cg hX hV (hf 135 (by decide))⟩
theorem R_keep_55.s {Q : MQ9} (h : PgR σ P L O) (hq : ∀ σ', FrZ [330, 331] [] σ σ' → hol σ' 330 (ofF (fun l => mV σ 324 l) L.length) → hol σ' 331 (ofF (fun l => mV σ 325 l) L.length) → Q (.inl (some (L.length : Int))) (wV (wV σ' 246 135 (L.length : Int)) 246 115 1)) : R_keep_55 0 σ Q := by
  have fin := loopN (P := fun i => ∀ σ', FrZ [330, 331] [] σ σ' → hol σ' 330 (ofF (fun l => mV σ 324 l) i) → hol σ' 331 (ofF (fun l => mV σ 325 l) i) → R_keep_55 (i : Int) σ' Q) (n := L.length) (fun i hi ih σ' hz h1 h2 => ?_) (fun σ' hz h1 h2 => ?_)
  · exact fin σ FrZ.rf (fun i hi => absurd hi (Nat.not_lt_zero i)) (fun i hi => absurd hi (Nat.not_lt_zero i))
  · have e1 : mV σ' 246 124 = (L.length : Int) := by rw [hz.f (by decide) (by decide)]; exact h.2.1.2.2.2.2.1
    have c1 := h.2.2.1
    refine R_keep_55.i ⟨by unfold Rg; omega, fun h9 => absurd h9 (by rw [e1]; omega), fun _ => ⟨by omega, by omega, by omega, by omega, by omega, by omega, by omega, by omega, ?_⟩⟩
    rw [show ((i : Nat) : Int).toNat = i from rfl, hz.z (by decide) (by decide), hz.z (by decide) (by decide)]
    refine ih _ (hz.tr ((FrZ.wz (by decide)).tr (FrZ.wz (by decide)))) ?_ ?_
    · rw [ofF_succ]
      refine hol.V ?_ (by decide)
      have := h1.sn (x := mV σ 324 i)
      rw [ofF_len] at this
      exact this
    · rw [ofF_succ]
      have := (h2.V (z' := 330) (k := i) (x := mV σ 324 i) (by decide)).sn (x := mV σ 325 i)
      rw [ofF_len] at this
      exact this
  · have e1 : mV σ' 246 124 = (L.length : Int) := by rw [hz.f (by decide) (by decide)]; exact h.2.1.2.2.2.2.1
    have c1 := h.2.2.1
    refine R_keep_55.i ⟨by unfold Rg; omega, fun _ => ?_, fun h9 => absurd h9 (by rw [e1]; omega)⟩
    rw [e1]
    exact hq σ' hz h1 h2
theorem R_keep_27.s {Q : MQ9} (h : PgR σ P L O) (hq : R_keep_55 0 (wF σ 329 0 (ofF (fun i => L.flatten.getD i 0 % 128) (suM L))) Q) : R_keep_27 0 σ Q := by
  have c2 := h.2.2.2.1
  refine loopF (z := 329) (a := 0) (n := suM L) (f := fun i => L.flatten.getD i 0 % 128) (P := fun i s => R_keep_27 i s Q) (fun i hi h9 => ?_) ?_
  · have e1 : mV (wF σ 329 0 (ofF (fun i => L.flatten.getD i 0 % 128) i)) 246 125 = ((suM L : Nat) : Int) := by rw [wF_ne (Or.inl (by decide))]; exact h.2.1.2.2.2.2.2
    have e2 : mV (wF σ 329 0 (ofF (fun i => L.flatten.getD i 0 % 128) i)) 322 i = L.flatten.getD i 0 % 128 := by rw [wF_ne (Or.inl (by decide))]; exact (h.2.2.2.2.2.2 i hi).1
    refine R_keep_27.i ⟨by unfold Rg; omega, fun h8 => absurd h8 (by rw [e1]; omega), fun _ => ⟨by omega, by omega, by omega, by omega, ?_⟩⟩
    rw [show ((i : Nat) : Int).toNat = i from rfl, e2, b8_id (by omega)]
    rw [Nat.zero_add] at h9
    exact h9
  · have e1 : mV (wF σ 329 0 (ofF (fun i => L.flatten.getD i 0 % 128) (suM L))) 246 125 = ((suM L : Nat) : Int) := by rw [wF_ne (Or.inl (by decide))]; exact h.2.1.2.2.2.2.2
    exact R_keep_27.i ⟨by unfold Rg; omega, fun _ => hq, fun h8 => absurd h8 (by rw [e1]; omega)⟩
theorem T_keep.s {Q : MQ9} (h0 : mV σ 212 0 = 1) (h : PgR σ P L O) (hq : Q (.inl (some (L.length : Int))) (wX (wX (wX (wV σ 229 0 1) 231 (mX σ 214)) 233 (mX σ 216)) 239 (mX σ 222))) : T_keep σ Q := by
  have c1 := h.2.2.1
  have c2 := h.2.2.2.1
  have l1 : (mX σ 214).length ≤ 131072 := by rw [show mX σ 214 = L.flatten from h.1.2.1.1, flat_len]; omega
  have l3 : (mX σ 216).length ≤ 8192 := by rw [show mX σ 216 = enS 0 L from h.1.2.1.2, enS_len]; omega
  have l2 : (mX σ 222).length ≤ 8192 := by rw [h.1.2.2.2.2, List.length_map]; omega
  refine T_keep.i (T_needProof.i ⟨fun _ => ?_, fun h9 => absurd h9 (by rw [h0]; decide)⟩)
  refine Proof_copy.i (tB.i rfl (tB.i rfl (b01.i (Or.inr h0) (tB.i rfl (tB.i rfl (tB.i rfl (Shelf_copy.i ?_)))))))
  rw [h0]
  refine tB.i rfl (tB.i rfl (tB.i rfl (tB.i rfl (tB.i rfl (tB.i rfl ⟨l1, tB.i rfl (tB.i rfl (tB.i rfl (tB.i rfl (tB.i rfl (tB.i rfl ⟨l3, ?_⟩)))))⟩)))))
  refine tB.i rfl (tB.i rfl (tB.i rfl (tB.i rfl (tB.i rfl (tB.i rfl ⟨l2, ?_⟩)))))
  refine Proof_lineCount.i (tB.i rfl (tB.i rfl (Shelf_rows.i (tB.i rfl (tB.i rfl ?_)))))
  have e : ((mX σ 216).length : Int) = (L.length : Int) := by rw [show mX σ 216 = enS 0 L from h.1.2.1.2, enS_len]
  show Q (.inl (some ((mX σ 216).length : Int))) _
  rw [e]
  exact hq
theorem keep_b (h : PrR σ) : ((∀ Q : MQ9, Q (.inr (exN 0)) σ → T_keep σ Q) ∧ (∀ Q : MQ9, Q (.inl (some 0)) (wV σ 246 0 1) → R_keep σ Q)) ∨ ∃ v σ1, (∀ Q : MQ9, Q (.inl (some v)) σ1 → T_keep σ Q) ∧ ∀ Q : MQ9, (∀ σ2, PrR σ2 → KeR σ2 → Fr [231, 233, 239] [229, 329, 330, 331] [0, 115, 135] σ σ2 → mV σ2 246 0 = 0 → Q (.inl (some v)) σ2) → R_keep σ1 Q := by
  have hh := h
  rcases h with ⟨h0, h1⟩ | ⟨h0, h1, P, L, O, h⟩
  · exact Or.inl ⟨fun Q hq => T_keep.i (none_T h0 _ hq), fun Q hq => R_keep.i ⟨fun _ => R_keep_13.i ⟨fun h9 => absurd h1 h9, fun _ => hq⟩, fun h9 => absurd h1 h9⟩⟩
  · refine Or.inr ⟨(L.length : Int), _, fun Q hq => T_keep.s h0 h hq, fun Q hq => ?_⟩
    generalize e1 : wX (wX (wX (wV σ 229 0 1) 231 (mX σ 214)) 233 (mX σ 216)) 239 (mX σ 222) = σ1
    have f1 : Fr [231, 233, 239] [229, 329, 330, 331] [0, 115, 135] σ σ1 := by rw [← e1]; exact (Fr.wz (by decide)).tr ((Fr.wx (by decide)).tr ((Fr.wx (by decide)).tr (Fr.wx (by decide))))
    have g1 : mV σ1 246 114 = 1 := by rw [f1.f (by decide) (by decide)]; exact h1
    have p1 : PgR σ1 P L O := h.cg (fun q hq => f1.x (by revert q; decide)) (fun z hz k => f1.z (by revert z; decide) (by revert z; decide)) (fun k hk => f1.f (by revert k; decide) (by decide))
    refine R_keep.i ⟨fun h9 => absurd h9 (by rw [g1]; decide), fun _ => R_keep_13.i ⟨fun _ => ?_, fun h9 => absurd h9 (by rw [g1]; decide)⟩⟩
    have p2 : PgR (wV σ1 246 0 0) P L O := p1.cg (fun _ _ => rfl) (fun z hz k => wV_ne (Or.inl (by revert z; decide))) (fun k hk => wV_ne (Or.inr (by revert k; decide)))
    refine R_keep_27.s p2 ?_
    have f3 : Fr [231, 233, 239] [229, 329, 330, 331] [0, 115, 135] (wV σ1 246 0 0) (wF (wV σ1 246 0 0) 329 0 (ofF (fun i => L.flatten.getD i 0 % 128) (suM L))) := Fr.of (FrZ.wF (by decide))
    generalize e3 : wF (wV σ1 246 0 0) 329 0 (ofF (fun i => L.flatten.getD i 0 % 128) (suM L)) = σ3 at f3 ⊢
    have h329 : hol σ3 329 (ofF (fun i => L.flatten.getD i 0 % 128) (suM L)) := by rw [← e3]; exact hol.F
    have p3 : PgR σ3 P L O := p2.cg (fun q hq => f3.x (by revert q; decide)) (fun z hz k => f3.z (by revert z; decide) (by revert z; decide)) (fun k hk => f3.f (by revert k; decide) (by decide))
    have x0 : mV σ3 246 0 = 0 := by rw [← e3, wF_ne (Or.inl (by decide)), wV_self]
    refine R_keep_55.s p3 (fun σ4 z4 a4 b4 => ?_)
    have f4 : Fr [231, 233, 239] [229, 329, 330, 331] [0, 115, 135] σ3 σ4 := Fr.of (z4.mo (by decide) (by decide))
    have f5 : Fr [231, 233, 239] [229, 329, 330, 331] [0, 115, 135] σ4 (wV (wV σ4 246 135 (L.length : Int)) 246 115 1) := (Fr.wf (by decide)).tr (Fr.wf (by decide))
    have fA : Fr [231, 233, 239] [229, 329, 330, 331] [0, 115, 135] σ1 (wV (wV σ4 246 135 (L.length : Int)) 246 115 1) := (Fr.wf (by decide)).tr (f3.tr (f4.tr f5))
    have vA : ∀ z k, z ≠ 246 → mV (wV (wV σ4 246 135 (L.length : Int)) 246 115 1) z k = mV σ4 z k := fun z k hz => by rw [wV_ne (Or.inl hz), wV_ne (Or.inl hz)]
    have xA : ∀ q, mX (wV (wV σ4 246 135 (L.length : Int)) 246 115 1) q = mX σ1 q := fun q => by
      show mX σ4 q = mX σ1 q
      rw [z4.1, ← e3]
      rfl
    refine hq _ ?_ (Or.inr ⟨?_, wV_self, L, ?_⟩) (f1.tr fA) ?_
    · exact hh.cg (fun q hq => (f1.tr fA).x (by revert q; decide)) (fun z hz k => (f1.tr fA).z (by revert z; decide) (by revert z; decide)) (fun k hk => (f1.tr fA).f (by revert k; decide) (by decide)) ((f1.tr fA).z (by decide) (by decide))
    · rw [vA _ _ (by decide), z4.z (by decide) (by decide), ← e3, wF_ne (Or.inl (by decide)), wV_ne (Or.inl (by decide)), ← e1]
      exact wV_self
    · have k231 : mX σ1 231 = L.flatten := by rw [← e1]; exact h.1.2.1.1
      have k233 : mX σ1 233 = enS 0 L := by rw [← e1]; exact h.1.2.1.2
      have k239 : mX σ1 239 = L.map hsh := by rw [← e1]; exact h.1.2.2.2.2
      refine ⟨⟨(xA 231).trans k231, (xA 233).trans k233⟩, (xA 239).trans k239, ?_, h.2.2.1, h.2.2.2.1, fun l hl => ⟨?_, ?_⟩, fun i hi => ?_⟩
      · rw [wV_ne (Or.inr (by decide)), wV_self]
      · rw [vA _ _ (by decide), b4 l (by rw [ofF_len]; exact hl), ofF_get hl]
        exact (p3.2.2.2.2.2.1 l hl).1
      · rw [vA _ _ (by decide), a4 l (by rw [ofF_len]; exact hl), ofF_get hl]
        exact (p3.2.2.2.2.2.1 l hl).2.1
      · rw [vA _ _ (by decide), z4.z (by decide) (by decide), h329 i (by rw [ofF_len]; exact hi), ofF_get hi]
    · rw [wV_ne (Or.inr (by decide)), wV_ne (Or.inr (by decide)), z4.f (by decide) (by decide), x0]
end
