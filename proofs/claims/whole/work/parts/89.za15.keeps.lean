/-! WHAT HOLDS BETWEEN CALLS stays over each of them -/
def bw9 (z : Nat) : Nat := if z = 293 then 70000 else if z = 294 ∨ z = 295 then 100 else 1
section
variable {σ σ' σ1 σ2 : MS} {Q : MQ9} {nw z a : Nat} {E : TE}
theorem CnR.cg (h : CnR σ nw) (h0 : mV σ' 212 0 = mV σ 212 0) (h228 : ∀ k, mV σ' 228 k = mV σ 228 k) (hf : ∀ k, k ∈ [123, 124, 126, 127, 128, 129] → mV σ' 246 k = mV σ 246 k) (hb : ∀ z k, z ∈ [285, 292, 293, 294, 295, 298] → k / bw9 z = nw → mV σ' z k = mV σ z k) (h327 : ∀ k, mV σ' 327 k = mV σ 327 k) : CnR σ' nw := fun h9 => by
  obtain ⟨⟨n3, n4, n5, n7⟩, ⟨K, k1, k2, k3, k4, n6⟩, ⟨L, l1, l2, n8, l4⟩, n9, n10, n11, n12⟩ := h (h0.symm.trans h9)
  have d1 : nw / 1 = nw := Nat.div_one nw
  refine ⟨⟨?_, ?_, ?_, ?_⟩, ⟨K, ⟨?_, fun i hi => ?_⟩, k2, k3, k4, ?_⟩, ⟨L, ?_, l2, ?_, fun l hl => ?_⟩, ?_, ?_, ?_, ?_⟩
  · rw [h228, hf _ (by decide)]
    exact n3
  · rw [h228, hf _ (by decide)]
    exact n4
  · rw [h228, hb 292 nw (by decide) d1]
    exact n5
  · rw [h228, hb 285 nw (by decide) d1]
    exact n7
  · rw [hb 298 nw (by decide) d1]
    exact k1.1
  · obtain ⟨x1, x2, x3⟩ := k1.2 i hi
    have tk := suM_at9 (K := K) (i := i) hi
    refine ⟨?_, ?_, fun t ht => ?_⟩
    · rw [hb 294 _ (by decide) (by show (100 * nw + i) / 100 = nw; omega)]
      exact x1
    · rw [hb 295 _ (by decide) (by show (100 * nw + i) / 100 = nw; omega)]
      exact x2
    · rw [hb 293 _ (by decide) (by show (70000 * nw + suM (K.take i) + t) / 70000 = nw; omega)]
      exact x3 t ht
  · rw [h228]
    exact n6
  · rw [hf _ (by decide)]
    exact l1
  · rw [h228]
    exact n8
  · rw [h327]
    exact l4 l hl
  · rw [h228, hf _ (by decide)]
    exact n9
  · rw [h228, hf _ (by decide)]
    exact n10
  · rw [h228, hf _ (by decide)]
    exact n11
  · rw [h228, hf _ (by decide)]
    exact n12
theorem HyP.cg (h : HyP σ) (hX : ∀ q, q = 40 ∨ q = 42 ∨ q = 45 ∨ q = 47 → mX σ' q = mX σ q) (h24 : ∀ k, mV σ' 24 k = mV σ 24 k) (hz : ∀ z k, 269 ≤ z → z ≤ 275 → mV σ' z k = mV σ z k) (hf : ∀ k, k = 47 ∨ k = 48 → mV σ' 246 k = mV σ 246 k) : HyP σ' := by
  obtain ⟨P, X, l, r, hb, ⟨⟨c1, c2⟩, ⟨c3, c4⟩, c5, c6⟩, ⟨⟨r1, r2⟩, ⟨r3, r4⟩, r5, r6⟩⟩ := h
  refine ⟨P, X, l, r, hb, ⟨⟨(hX _ (by omega)).trans c1, (hX _ (by omega)).trans c2⟩, ⟨(hX _ (by omega)).trans c3, (hX _ (by omega)).trans c4⟩, (h24 _).trans c5, (h24 _).trans c6⟩, ⟨⟨(hf _ (by omega)).trans r1, fun p hp => ?_⟩, ⟨(hf _ (by omega)).trans r3, fun x hx => ?_⟩, (hz _ _ (by decide) (by decide)).trans r5, (hz _ _ (by decide) (by decide)).trans r6⟩⟩
  · obtain ⟨d1, d2, d3⟩ := r2 p hp
    exact ⟨(hz _ _ (by decide) (by decide)).trans d1, fun t ht => (hz _ _ (by decide) (by decide)).trans (d2 t ht), fun k hk => (hz _ _ (by decide) (by decide)).trans (d3 k hk)⟩
  · obtain ⟨d1, d2, d3⟩ := r4 x hx
    refine ⟨(hz _ _ (by decide) (by decide)).trans d1, fun t ht => (hz _ _ (by decide) (by decide)).trans (d2 t ht), fun k hk => ?_⟩
    rw [hz 273 _ (by decide) (by decide)]
    exact d3 k hk
/-- cells that calls other than set and tell may change -/
def WZ9 : List Nat := [22, 86, 111, 126, 229, 247, 248, 249, 250, 251, 254, 256, 257, 329, 330, 331, 332, 333, 334, 335, 336, 348]
def FrW9 (σ σ' : MS) : Prop := (∀ q, q ∉ [1, 3, 5, 7, 10, 12, 14, 16, 18, 20, 224, 231, 233, 239] → mX σ' q = mX σ q) ∧ mB σ' = mB σ ∧ (∀ z k, z ∉ WZ9 → ¬ (z = 0 ∧ (k = 5 ∨ k = 6)) → ¬ (z = 246 ∧ k ∈ [0, 6, 7, 8, 33, 115, 135, 141]) → mV σ' z k = mV σ z k) ∧ mV σ 22 1 ≤ mV σ' 22 1
theorem Inv9.w (h : Inv9 σ) (hM : MemR σ') (hA : AnR σ') (hK : KeR σ') (f : FrW9 σ σ') : Inv9 σ' := by
  obtain ⟨E, z, nw, hM0, ⟨⟨t1, t2, hz, hb0, ku, kb, u1, u2⟩, ⟨hn, h59, ma, la, l0, l13, un⟩⟩, ⟨hb1, hF⟩, -, hP, -, hH, hC, ⟨h328, e14⟩⟩ := h
  obtain ⟨fx, fb, fv, fe⟩ := f
  have vz : ∀ y k, y ∉ WZ9 → y ≠ 0 → y ≠ 246 → mV σ' y k = mV σ y k := fun y k h1 h2 h3 => fv y k h1 (by omega) (fun h => h3 h.1)
  have vf : ∀ k, k ∉ [0, 6, 7, 8, 33, 115, 135, 141] → mV σ' 246 k = mV σ 246 k := fun k h => fv 246 k (by decide) (by omega) (fun h9 => h h9.2)
  have nx : ∀ q, 21 ≤ q → q ≤ 223 → mX σ' q = mX σ q := fun q h1 h2 => fx q (by
    simp only [List.mem_cons, List.not_mem_nil, or_false]
    omega)
  have nm : ∀ y k, y = 49 ∨ y = 163 → mV σ' y k = mV σ y k := fun y k h => by
    rcases h with rfl | rfl
    · exact vz _ _ (by decide) (by decide) (by decide)
    · exact vz _ _ (by decide) (by decide) (by decide)
  have e33 : mV σ' 22 1 = mV σ' 246 33 := hM.2.2.2.1
  have e33' : mV σ 22 1 = mV σ 246 33 := hM0.2.2.2.1
  refine ⟨E, z, nw, hM, ⟨⟨t1, t2, hz, by rw [fb]; exact hb0, ku.cg (fun q a1 a2 => nx q (by omega) (by omega)), kb.cg hz (fun q a1 a2 => nx q (by omega) (by omega)) (nm _ _ hz) (nm _ _ hz), by rw [nm _ _ hz]; exact u1, by rw [nm _ _ hz]; omega⟩, ⟨hn, (vf _ (by decide)).trans h59, ma.cg (vf _ (by decide)) (fun y k a1 a2 => vz y k (by
    unfold WZ9
    simp only [List.mem_cons, List.not_mem_nil, or_false]
    omega) (by omega) (by omega)) (fun k _ => vz _ _ (by decide) (by decide) (by decide)), fun h9 => ?_, fun h9 => l0 ((vf _ (by decide)).symm.trans h9), fun h9 => ⟨(vf _ (by decide)).trans (l13 h9).1, (vf _ (by decide)).trans (l13 h9).2⟩, ?_⟩⟩, ⟨by rw [fb]; exact hb1, fun y h9 => by rw [nm _ _ h9]; exact hF y h9⟩, hA, hP.cg (fun q hq => nx q (by
    simp only [List.mem_cons, List.not_mem_nil, or_false] at hq
    omega) (by
    simp only [List.mem_cons, List.not_mem_nil, or_false] at hq
    omega)) (fun y hy k => vz y k (by
    have a : ∀ y ∈ [322, 323, 324, 325, 326, 328], y ∉ WZ9 := by decide
    exact a y hy) (by
    simp only [List.mem_cons, List.not_mem_nil, or_false] at hy
    omega) (by
    simp only [List.mem_cons, List.not_mem_nil, or_false] at hy
    omega)) (fun k hk => vf k (by
    have a : ∀ k ∈ [114, 123, 124, 125], k ∉ [0, 6, 7, 8, 33, 115, 135, 141] := by decide
    exact a k hk)) (vz _ _ (by decide) (by decide) (by decide)), hK, hH.cg (fun q hq => nx q (by omega) (by omega)) (fun k => vz _ _ (by decide) (by decide) (by decide)) (fun y k a1 a2 => vz y k (by
    unfold WZ9
    simp only [List.mem_cons, List.not_mem_nil, or_false]
    omega) (by omega) (by omega)) (fun k hk => vf k (by
    simp only [List.mem_cons, List.not_mem_nil, or_false]
    omega)), hC.cg (vz _ _ (by decide) (by decide) (by decide)) (fun k => vz _ _ (by decide) (by decide) (by decide)) (fun k hk => vf k (by
    have a : ∀ k ∈ [123, 124, 126, 127, 128, 129], k ∉ [0, 6, 7, 8, 33, 115, 135, 141] := by decide
    exact a k hk)) (fun y k hy _ => vz y k (by
    have a : ∀ y ∈ [285, 292, 293, 294, 295, 298], y ∉ WZ9 := by decide
    exact a y hy) (by
    simp only [List.mem_cons, List.not_mem_nil, or_false] at hy
    omega) (by
    simp only [List.mem_cons, List.not_mem_nil, or_false] at hy
    omega)) (fun k => vz _ _ (by decide) (by decide) (by decide)), ⟨(vz _ _ (by decide) (by decide) (by decide)).trans h328, (fv 0 14 (by decide) (by omega) (by omega)).trans (e14.trans (vf _ (by decide)).symm)⟩⟩
  · obtain ⟨a1, a2, a3, a4⟩ := la (fun h => h9 ((vf _ (by decide)).trans h))
    exact ⟨(vz _ _ (by decide) (by decide) (by decide)).trans a1, a2.cg (fun k => vz _ _ (by decide) (by decide) (by decide)) (fun k => vz _ _ (by decide) (by decide) (by decide)), a3.cg (fun k => vz _ _ (by decide) (by decide) (by decide)) (fun k => vz _ _ (by decide) (by decide) (by decide)), fun q hq => (vz _ _ (by decide) (by decide) (by decide)).trans (a4 q hq)⟩
  · obtain ⟨b1, b2⟩ := un
    have e85 := vf 85 (by decide)
    exact ⟨by rw [e85]; exact b1, by rw [e85]; omega⟩
/-- tape and manuscript -/
theorem Inv9.m (h : Inv9 σ) (hM : MemR σ') (f : FrM σ σ') : Inv9 σ' := by
  obtain ⟨f1, f2, f3, f4⟩ := f
  have h0 := h
  obtain ⟨-, -, -, -, -, -, hA, -, hK, -, -, -⟩ := h
  have nx : ∀ q, q ∉ [1, 3, 7, 10, 12, 14, 16, 18, 20] → mX σ' q = mX σ q := f1
  have x5 : mX σ' 5 = mX σ 5 := nx 5 (by decide)
  refine h0.w hM ⟨?_, ?_, ?_⟩ (hK.cg (fun q hq => nx q (by
    have a : ∀ q ∈ [231, 233, 239], q ∉ [1, 3, 7, 10, 12, 14, 16, 18, 20] := by decide
    exact a q hq)) (fun y hy k => f2 y k (by
    have a : ∀ y ∈ [329, 330, 331], y ∉ [247, 248, 249, 250, 251] := by decide
    exact a y hy) (by
    simp only [List.mem_cons, List.not_mem_nil, or_false] at hy
    omega) (by
    simp only [List.mem_cons, List.not_mem_nil, or_false] at hy
    omega) (by
    simp only [List.mem_cons, List.not_mem_nil, or_false] at hy
    omega)) (fun k hk => f2 246 k (by decide) (by omega) (by omega) (fun h9 => by
    have a : ∀ k ∈ [115, 135], k ∉ [0, 6, 7, 8, 33] := by decide
    exact a k hk h9.2)) (f2 229 0 (by decide) (by omega) (by omega) (by omega))) ⟨fun q hq => nx q (fun h9 => hq (by
    simp only [List.mem_cons, List.not_mem_nil, or_false] at h9 ⊢
    omega)), congrArg Prod.fst f3, fun y k h1 h2 h3 => f2 y k (fun h9 => h1 (by
    unfold WZ9
    simp only [List.mem_cons, List.not_mem_nil, or_false] at h9 ⊢
    omega)) h2 (fun h9 => h1 (by rw [h9.1]; decide)) (fun h9 => h3 ⟨h9.1, by
    have := h9.2
    simp only [List.mem_cons, List.not_mem_nil, or_false] at this ⊢
    omega⟩), f4⟩
  · rw [x5]
    exact (f2 246 141 (by decide) (by omega) (by omega) (fun h9 => absurd h9.2 (by decide))).trans hA.1
  · rw [x5]
    exact hA.2.1
  · rw [x5]
    exact fun i hi => (f2 336 i (by decide) (by omega) (by omega) (by omega)).trans (hA.2.2 i hi)
theorem MemR.w0 {t : Int} (h : MemR σ) : MemR (wV σ 246 0 t) := by
  obtain ⟨⟨p1, p2, p3, p4⟩, ⟨m1, m2, m3, m4⟩, ⟨t9, c9, hP⟩, e1, e2, e3⟩ := h
  have w : ∀ {y k : Nat}, y ≠ 246 ∨ k ≠ 0 → mV (wV σ 246 0 t) y k = mV σ y k := fun h => wV_ne h
  exact ⟨⟨(w (Or.inr (by decide))).trans p1, fun i hi => (w (Or.inl (by decide))).trans (p2 i hi), p3, p4⟩, ⟨(w (Or.inr (by decide))).trans m1, fun i hi => (w (Or.inl (by decide))).trans (m2 i hi), m3, m4⟩, ⟨t9, c9, hP.cg (fun _ _ => rfl) (fun k => w (Or.inl (by decide))) (fun k => w (Or.inl (by decide))) (w (Or.inr (by decide))) (w (Or.inl (by decide))) (w (Or.inl (by decide)))⟩, (w (Or.inl (by decide))).trans (e1.trans (w (Or.inr (by decide))).symm), by rw [w (Or.inl (by decide))]; exact e2, by rw [w (Or.inl (by decide))]; exact e3⟩
/-- only what was thrown is told -/
theorem Inv9.t {t : Int} (h : Inv9 σ) : Inv9 (wV σ 246 0 t) := by
  obtain ⟨E, z, nw, hM, -⟩ := id h
  exact h.m hM.w0 (FrM.r (by decide))
/-- the answer has changed, the tape is empty -/
theorem Inv9.lb (h : Inv9 σ) (hM : MemR σ') (hA : AnR σ') (hX : ∀ q, q ∉ [1, 5] → mX σ' q = mX σ q) (hB : mB σ' = mB σ) (hV : ∀ z k, z ∉ [126, 254, 256, 257, 336, 348] → ¬ (z = 111 ∧ k = 12) → ¬ (z = 246 ∧ k ∈ [0, 6, 141]) → mV σ' z k = mV σ z k) : Inv9 σ' := by
  have h0 := h
  obtain ⟨-, -, -, -, -, -, -, -, hK, -, -, -⟩ := h
  refine h0.w hM hA (hK.cg (fun q hq => hX q (by
    have a : ∀ q ∈ [231, 233, 239], q ∉ [1, 5] := by decide
    exact a q hq)) (fun y hy k => hV y k (by
    have a : ∀ y ∈ [329, 330, 331], y ∉ [126, 254, 256, 257, 336, 348] := by decide
    exact a y hy) (by
    simp only [List.mem_cons, List.not_mem_nil, or_false] at hy
    omega) (by
    simp only [List.mem_cons, List.not_mem_nil, or_false] at hy
    omega)) (fun k hk => hV 246 k (by decide) (by omega) (fun h9 => by
    have a : ∀ k ∈ [115, 135], k ∉ [0, 6, 141] := by decide
    exact a k hk h9.2)) (hV 229 0 (by decide) (by omega) (by omega))) ⟨fun q hq => hX q (fun h9 => hq (by
    simp only [List.mem_cons, List.not_mem_nil, or_false] at h9 ⊢
    omega)), hB, fun y k h1 h2 h3 => hV y k (fun h9 => h1 (by
    unfold WZ9
    simp only [List.mem_cons, List.not_mem_nil, or_false] at h9 ⊢
    omega)) (fun h9 => h1 (by rw [h9.1]; decide)) (fun h9 => h3 ⟨h9.1, by
    have := h9.2
    simp only [List.mem_cons, List.not_mem_nil, or_false] at this ⊢
    omega⟩), Int.le_of_eq (hV 22 1 (by decide) (by omega) (by omega)).symm⟩
/-- tell -/
theorem Inv9.tl (h0 : Inv9 σ) (hM : MemR σ') (t : TlR σ' E z nw) (hb1 : mB σ 1 = 212 - z) (hn9 : ∀ E' z' nw', TlR σ E' z' nw' → nw' = nw) (hA : AnR σ') (f : FrTl nw σ σ') : Inv9 σ' := by
  obtain ⟨E', z', nw', -, t0, ⟨-, hF⟩, -, hP, hK, hH, hC, ⟨h328, e14⟩⟩ := h0
  have en : nw' = nw := hn9 E' z' nw' t0
  rw [en] at hC
  have hn := t.2.1
  obtain ⟨fx, fb, fv⟩ := f
  have noA : ∀ y k, y ≠ 246 → y ≠ 252 → y ≠ 336 → y ∉ TRS → ¬ AlL nw y k := fun y k h1 h2 h3 h4 h => by
    rcases h with h | h | h | h
    · exact h1 h.1
    · exact h2 h.1
    · exact h3 h
    · exact h4 h.1
  have vz : ∀ y k, y ≠ 22 → y ≠ 86 → y ≠ 49 → y ≠ 163 → y ≠ 246 → y ≠ 252 → y ≠ 336 → y ∉ TRS → mV σ' y k = mV σ y k := fun y k h1 h2 h3 h4 h5 h6 h7 h8 => fv y k h1 h2 (by omega) (noA y k h5 h6 h7 h8)
  have vf : ∀ k, k ∉ [0, 6, 16, 17, 18, 21, 22, 28, 31, 32, 33, 81, 85, 86, 94, 95, 141, 143, 161] → mV σ' 246 k = mV σ 246 k := fun k h => fv 246 k (by decide) (by decide) (by omega) (fun a => by
    rcases a with a | a | a | a
    · exact h a.2
    · exact absurd a.1 (by decide)
    · exact absurd a (by decide)
    · exact absurd a.1 (by decide))
  have nx : ∀ q, q = 40 ∨ q = 42 ∨ q = 45 ∨ q = 47 ∨ 212 ≤ q → mX σ' q = mX σ q := fun q h => fx q (by
    simp only [List.mem_cons, List.not_mem_nil, or_false]
    omega) (by
    unfold TXX
    simp only [List.mem_cons, List.not_mem_nil, or_false]
    omega)
  have hb0 : mB σ' 1 = mB σ 1 := fb 1 (by decide) (by decide)
  refine ⟨E, z, nw, hM, t, ⟨hb0.trans hb1, fun y h9 => ?_⟩, hA, hP.cg (fun q hq => nx q (by
    simp only [List.mem_cons, List.not_mem_nil, or_false] at hq
    omega)) (fun y hy k => ?_) (fun k hk => vf k (by
    have a : ∀ k ∈ [114, 123, 124, 125], k ∉ [0, 6, 16, 17, 18, 21, 22, 28, 31, 32, 33, 81, 85, 86, 94, 95, 141, 143, 161] := by decide
    exact a k hk)) (vz _ _ (by decide) (by decide) (by decide) (by decide) (by decide) (by decide) (by decide) (by decide)), hK.cg (fun q hq => nx q (by
    simp only [List.mem_cons, List.not_mem_nil, or_false] at hq
    omega)) (fun y hy k => ?_) (fun k hk => vf k (by
    have a : ∀ k ∈ [115, 135], k ∉ [0, 6, 16, 17, 18, 21, 22, 28, 31, 32, 33, 81, 85, 86, 94, 95, 141, 143, 161] := by decide
    exact a k hk)) (vz _ _ (by decide) (by decide) (by decide) (by decide) (by decide) (by decide) (by decide) (by decide)), hH.cg (fun q hq => nx q (by omega)) (fun k => vz _ _ (by decide) (by decide) (by decide) (by decide) (by decide) (by decide) (by decide) (by decide)) (fun y k a1 a2 => vz y k (by omega) (by omega) (by omega) (by omega) (by omega) (by omega) (by omega) (by
    unfold TRS
    simp only [List.mem_cons, List.not_mem_nil, or_false]
    omega)) (fun k hk => vf k (by
    simp only [List.mem_cons, List.not_mem_nil, or_false]
    omega)), hC.cg (vz _ _ (by decide) (by decide) (by decide) (by decide) (by decide) (by decide) (by decide) (by decide)) (fun k => vz _ _ (by decide) (by decide) (by decide) (by decide) (by decide) (by decide) (by decide) (by decide)) (fun k hk => vf k (by
    have a : ∀ k ∈ [123, 124, 126, 127, 128, 129], k ∉ [0, 6, 16, 17, 18, 21, 22, 28, 31, 32, 33, 81, 85, 86, 94, 95, 141, 143, 161] := by decide
    exact a k hk)) (fun y k hy hk => ?_) (fun k => vz _ _ (by decide) (by decide) (by decide) (by decide) (by decide) (by decide) (by decide) (by decide)), ⟨(vz _ _ (by decide) (by decide) (by decide) (by decide) (by decide) (by decide) (by decide) (by decide)).trans h328, (vz _ _ (by decide) (by decide) (by decide) (by decide) (by decide) (by decide) (by decide) (by decide)).trans (e14.trans (vf _ (by decide)).symm)⟩⟩
  · rw [fv y 14 (by omega) (by omega) (by omega) (noA y 14 (by omega) (by omega) (by omega) (by
      unfold TRS
      simp only [List.mem_cons, List.not_mem_nil, or_false]
      omega))]
    exact hF y h9
  · have a : ∀ y ∈ [322, 323, 324, 325, 326, 328], y ≠ 22 ∧ y ≠ 86 ∧ y ≠ 49 ∧ y ≠ 163 ∧ y ≠ 246 ∧ y ≠ 252 ∧ y ≠ 336 ∧ y ∉ TRS := by decide
    obtain ⟨b1, b2, b3, b4, b5, b6, b7, b8⟩ := a y hy
    exact vz y k b1 b2 b3 b4 b5 b6 b7 b8
  · have a : ∀ y ∈ [329, 330, 331], y ≠ 22 ∧ y ≠ 86 ∧ y ≠ 49 ∧ y ≠ 163 ∧ y ≠ 246 ∧ y ≠ 252 ∧ y ≠ 336 ∧ y ∉ TRS := by decide
    obtain ⟨b1, b2, b3, b4, b5, b6, b7, b8⟩ := a y hy
    exact vz y k b1 b2 b3 b4 b5 b6 b7 b8
  · have a : ∀ y ∈ [285, 292, 293, 294, 295, 298], y ≠ 22 ∧ y ≠ 86 ∧ y ≠ 49 ∧ y ≠ 163 ∧ y ≠ 246 ∧ y ≠ 252 ∧ y ≠ 336 ∧ (y ∈ TRS → bkW y = bw9 y ∧ bkW y ≠ 0) := by decide
    obtain ⟨b1, b2, b3, b4, b5, b6, b7, b8⟩ := a y hy
    refine fv y k b1 b2 (by omega) (fun h => ?_)
    rcases h with h | h | h | ⟨h, h9⟩
    · exact b5 h.1
    · exact b6 h.1
    · exact b7 h
    · obtain ⟨c1, c2⟩ := b8 h
      rcases h9 with h9 | h9
      · exact c2 h9
      · rw [c1, hk] at h9
        omega
end
