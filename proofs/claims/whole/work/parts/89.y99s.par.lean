/-! PARAGRAPHS: both sides -/
def bgK : List Nat := [16, 17, 18, 21, 22, 31, 94, 95, 161]
section
variable {σ σ0 : MS} {Q : MQ9} {nw x0 : Nat} {E : TE} {H : HY9} {S T : List Int} {o : Int} {b : BK9}
theorem BkR.k {σ1 : MS} {K : List Nat} (h : BkR σ E nw b) (q : FrZ [350] K σ σ1) (hk : ∀ k ∈ [28, 32, 33, 46, 52, 53, 58, 59, 81, 84, 85, 86, 98, 99, 112, 113], k ∉ K) : BkR σ1 E nw b := by
  obtain ⟨r1, r2, ⟨m1, m2, m3, m4, m5⟩, r4, ⟨r5, r6⟩, ⟨r7, r8⟩, r9⟩ := h
  have f : ∀ k, k ∈ [28, 32, 33, 46, 52, 53, 58, 59, 81, 84, 85, 86, 98, 99, 112, 113] → mV σ1 246 k = mV σ 246 k := fun k h => q.f (hk k h) (by decide)
  have z : ∀ y j, y ≠ 350 → y ≠ 246 → mV σ1 y j = mV σ y j := fun y j a c => q.z (by rw [List.mem_singleton]; exact a) c
  refine ⟨r1.z q (by decide) (fun k hk1 => hk k (by
    simp only [List.mem_cons, List.not_mem_nil, or_false] at hk1 ⊢
    omega)), r2.k q (by decide) (fun k hk1 => hk k (by
    simp only [List.mem_cons, List.not_mem_nil, or_false] at hk1 ⊢
    omega)), ⟨m1.z q (by decide) (fun k hk1 => hk k (by
    simp only [List.mem_cons, List.not_mem_nil, or_false] at hk1 ⊢
    omega)), m2.z q (by decide), m3.z q (by decide) (fun k hk1 => hk k (by
    simp only [List.mem_cons, List.not_mem_nil, or_false] at hk1 ⊢
    omega)), (f _ (by decide)).trans m4, (f _ (by decide)).trans m5⟩, ?_, ⟨⟨(f _ (by decide)).trans r5.1, fun i hi => ?_⟩, (f _ (by decide)).trans r6⟩, ⟨r7.cg (fun j => z _ _ (by decide) (by decide)), r8.cg (fun j => z _ _ (by decide) (by decide))⟩, ?_⟩
  · unfold UnB
    rw [f 85 (by decide), f 33 (by decide)]
    exact r4
  · rw [z 320 _ (by decide) (by decide), z 321 _ (by decide) (by decide)]
    exact r5.2 i hi
  · refine ⟨fun k hk1 => ?_, r9.2.1, fun i hi h0 => ?_⟩
    · rw [z 303 _ (by decide) (by decide), z 304 _ (by decide) (by decide)]
      exact r9.1 k hk1
    · unfold nlA
      rw [z 317 _ (by decide) (by decide), z 318 _ (by decide) (by decide)]
      exact r9.2.2 i hi h0
theorem R_begins.p {a : Int} (ha : Rg a) (hq : ∀ σ', FrZ [] bgK σ σ' → (mV σ' 246 16 = 0 ∧ mV σ' 246 17 = 70000 ∧ mV σ' 246 18 = 0 ∧ mV σ' 246 21 = 0 ∧ mV σ' 246 22 = 0 ∧ mV σ' 246 31 = 0 ∧ mV σ' 246 94 = 0 ∧ mV σ' 246 95 = a) → mV σ' 246 161 = 0 → Q (.inl none) σ') : R_begins a σ Q := by
  refine R_begins.i ⟨ha, hq _ ((((((((((FrZ.wf (by decide)).tr (FrZ.wf (by decide))).tr (FrZ.wf (by decide))).tr (FrZ.wf (by decide))).tr (FrZ.wf (by decide))).tr (FrZ.wf (by decide))).tr (FrZ.wf (by decide))).tr (FrZ.wf (by decide))).tr (FrZ.wf (by decide)))) ⟨rfl, rfl, rfl, rfl, rfl, rfl, rfl, ?_⟩ wV_self⟩
  rw [wV_ne (Or.inr (by decide)), wV_self]
/-- the reference sets a paragraph -/
theorem R_paragraph.p (hT : SgR σ x0 T) (hTb : smB T) (hB : TbB E H S (List.replicate (S.getD 1 0).toNat 32) 0 o b) (hR : BkR σ E nw b) (hfl : FlB b) (hsl : b.2.2.1.2.length = b.2.2.1.1.length) (hSv : ∀ k, k < 13 → mV σ 275 k = S.getD k 0) (hH1 : H.1 = decide (S.getD 3 0 = 1)) (hHy : HyR σ H.2.1 H.2.2.1 H.2.2.2.1 H.2.2.2.2) (ho : mV σ 246 29 = o) (hy : ∀ b' σ', txD o E H S (List.replicate (S.getD 1 0).toNat 32) 0 (S.getD 8 0) false T b = .inl b' → BkR σ' E nw b' → FrB nw σ σ' → Q (.inl none) σ') (hn : ∀ e σ', txD o E H S (List.replicate (S.getD 1 0).toNat 32) 0 (S.getD 8 0) false T b = .inr e → TxR σ' e → UnB σ' → FrB nw σ σ' → Q (.inl none) σ') : R_paragraph (x0 : Int) ((x0 + T.length : Nat) : Int) σ Q := by
  have hS1 := hB.2.2.1.2.1
  refine R_paragraph.i (R_begins.p (by decide) (fun σ1 f1 be h161 => ?_))
  show 0 ≤ (1 : Int) ∧ (1 : Int) < 13 ∧ R_text (x0 : Int) ((x0 + T.length : Nat) : Int) (mV σ1 275 1) 0 0 σ1 (kV (thQ Q) fun σ2 => Q (.inl none) σ2)
  have z1 : ∀ y j, y ≠ 246 → mV σ1 y j = mV σ y j := fun y j h => f1.z (by simp) h
  refine ⟨by decide, by decide, ?_⟩
  have l1 : ((List.replicate (S.getD 1 0).toNat (32 : Int)).length : Int) = S.getD 1 0 := by
    rw [List.length_replicate]
    omega
  have fb : FrB nw σ σ1 := FrB.z f1 (by simp) (by decide)
  have rt := R_text.p (Q := kV (thQ Q) fun σ2 => Q (.inl none) σ2) (nw := nw) (sp := S.getD 8 0) (cl := false) (item := false) (hT.cg (fun k => z1 _ _ (by decide))) hTb hB (hR.k (f1.mo (by simp) (fun x hx => hx)) (by decide)) hfl hsl be (fun k hk => (z1 _ _ (by decide)).trans (hSv k hk)) hH1 (hHy.k f1 (by simp) (by decide)) ⟨[], h161, by decide, fun i hi => absurd hi (Nat.not_lt_zero _), Nat.zero_le _, by rw [List.length_nil, Nat.sub_zero, List.length_replicate, List.append_nil], fun x hx => absurd hx List.not_mem_nil⟩ ((f1.f (by decide) (by simp)).trans ho) ⟨fun _ => h161, fun h => absurd h (by decide)⟩ rfl (fun b' σ2 w1 w2 w3 => hy b' σ2 w1 w2 (fb.tr w3)) (fun e σ2 w1 w2 w4 w3 => hn e σ2 w1 w2 w4 (fb.tr w3))
  rw [l1] at rt
  rw [z1 275 1 (by decide), hSv 1 (by decide)]
  exact rt
/-- the class begins a paragraph -/
theorem Setter_beginParagraph.c {at9 nx : Nat} {M : List Int} (hS : StB S) (hM : mX σ 3 = M) (hM4 : M.length ≤ 4000) (hL : LnM σ M (mlL M)) (h1 : at9 < nx) (h2 : nx ≤ (mlL M).length) (hSv : mV σ 24 1 = S.getD 1 0) (hq : ∀ σ', mX σ' 206 = tpT (sgT M ((mlL M).getD at9 (0, 0)).1 ((mlL M).getD (nx - 1) (0, 0)).2) → mX σ' 118 = List.replicate (S.getD 1 0).toNat 32 → (mX σ' 112 = [] ∧ mX σ' 114 = [] ∧ mX σ' 116 = []) → mV σ' 111 9 = 0 → (∀ q, q ∉ [112, 114, 116, 118, 206] → mX σ' q = mX σ q) → σ'.2.2 = σ.2.2 → (∀ z k, ¬ (z = 111 ∧ (k = 9 ∨ k = 10 ∨ k = 11 ∨ k = 12)) → z ≠ 126 → mV σ' z k = mV σ z k) → Q (.inl none) σ') : Setter_beginParagraph (at9 : Int) (nx : Int) σ Q := by
  have s1 := hS.2.1
  have p0 := (ml_p (T := M) (i := at9) (by omega)).1
  refine Setter_beginParagraph.i (Setter_gather.c (sk := 0) hM hM4 hL h1 h2 (by have := p0.1; omega) ?_)
  rw [Nat.add_zero]
  refine Filler_openPlain.c (fun σ1 f1 k1 w1 e1 v1 => ?_)
  refine told_c (k := 1) (by decide) ((f1.2.2 _ _ (by decide) (by decide) (by decide)).trans hSv) ?_
  show (mX σ1 118).length + (S.getD 1 0).toNat ≤ 64 ∧ Q (.inl none) (wX σ1 118 (mX σ1 118 ++ List.replicate (S.getD 1 0).toNat 32))
  rw [e1.2.2.2, List.nil_append]
  refine ⟨by show 0 + _ ≤ _; omega, hq _ ?_ wX_self ⟨?_, ?_, ?_⟩ v1.1 (fun q hq => ?_) f1.2.1 (fun z k a c => ?_)⟩
  · rw [wX_ne (by decide), f1.1 206 (by decide), wX_self]
  · rw [wX_ne (by decide)]
    exact e1.1
  · rw [wX_ne (by decide)]
    exact e1.2.1
  · rw [wX_ne (by decide)]
    exact e1.2.2.1
  · simp only [List.mem_cons, List.not_mem_nil, or_false, not_or] at hq
    rw [wX_ne (by omega)]
    by_cases h9 : q ∈ [130, 132, 134, 136, 138, 142, 144]
    · rw [k1 q h9, wX_ne (by omega)]
    · simp only [List.mem_cons, List.not_mem_nil, or_false, not_or] at h9
      rw [f1.1 q (by
        simp only [List.mem_cons, List.not_mem_nil, or_false]
        omega), wX_ne (by omega)]
  · by_cases h22 : z = 22
    · rw [h22]
      exact w1 k
    · exact f1.2.2 z k h22 c a
end
