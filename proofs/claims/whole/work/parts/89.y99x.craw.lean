/-! RAW LINES: the class, the whole -/
/-- lines of a block without a text -/
def blG (b : BK9) (G1 : GS9) : BK9 := (((G1.1.1, G1.1.2, b.1.1.2.2), b.1.2), G1.2, b.2.2.1, true)
def rwD (o : Int) (S T : List Int) (at9 nx : Nat) (b : BK9) : BK9 ⊕ (Int × Int × Int) := match gAll o true (rwL T (S.getD 0 0) (nx - at9) at9) ((b.1.1.1, b.1.1.2.1), b.2.1.1, flS b (S.getD 8 0)) with
  | .inr e => .inr e
  | .inl G1 => .inl (blG b G1)
section
variable {σ σ0 : MS} {Q : MQ9} {T S : List Int} {o : Int} {E : TE} {z z' : Nat} {b : BK9}
theorem RdC.g {s : TS} {w : Int × Int} {σ1 : MS} (h : RdC σ E z z' s) (nz : ∀ q, q < 111 ∨ 163 ≤ q → mX σ1 q = mX σ q) (h2 : σ1.2.2 = σ.2.2) (v : ∀ y k, (y = 49 ∨ y = 163) → mV σ1 y k = mV σ y k) (h0 : mV σ1 22 0 = w.1) (h1 : mV σ1 22 1 = w.2) : RdC σ1 E z z' ((w.1, w.2, s.1.2.2), s.2) := by
  obtain ⟨-, ⟨r3, r4, r5⟩, r6, ⟨⟨m1, m2, m3⟩, ⟨m4, m5⟩, m6, m7, m8⟩, r7, r8⟩ := h
  have hz := r4.2.2.1
  have hz' := r4.2.2.2.1
  have eB : mB σ1 = mB σ := congrArg Prod.fst h2
  have sh : ∀ {y : Nat} {R : List (List Int)}, shR σ y R → (z ≤ y ∧ y + 3 ≤ z + 36) → shR σ1 y R := fun h a => ⟨(nz _ (by omega)).trans h.1, (nz _ (by omega)).trans h.2⟩
  exact ⟨⟨h0, h1⟩, ⟨by rw [eB]; exact r3, ⟨by rw [eB]; exact r4.1, by rw [eB]; exact r4.2.1, r4.2.2⟩, r5⟩, r6.cg (nz _ (by omega)) (nz _ (by omega)) (nz _ (by omega)), ⟨⟨sh m1 (by omega), sh m2 (by omega), (nz _ (by omega)).trans m3⟩, ⟨sh m4 (by omega), (nz _ (by omega)).trans m5⟩, (v _ _ hz).trans m6, (v _ _ hz).trans m7, (nz _ (by omega)).trans m8⟩, r7.cg hz' (fun q _ _ => nz q (by omega)) (v _ _ hz') (v _ _ hz'), r8.cg (fun q _ _ => nz q (by omega))⟩
/-- a block's frame: galley and work alone -/
def FrBl (σ σ' : MS) : Prop := (∀ q, q ≠ 130 → q ≠ 132 → q ≠ 134 → q ≠ 136 → q ≠ 138 → mX σ' q = mX σ q) ∧ σ'.2.2 = σ.2.2 ∧ ∀ y k, y ≠ 22 → ¬ (y = 128 ∧ k = 10) → mV σ' y k = mV σ y k
theorem BkC.bl {σ1 : MS} {G1 : GS9} (h : BkC σ E z z' b) (f : FrBl σ σ1) (hG : GaC σ1 G1 []) (hb : mV σ1 128 10 = 1) : BkC σ1 E z z' (blG b G1) := by
  obtain ⟨h1, h2, h3, h4, h5, h6⟩ := h
  refine ⟨RdC.g (w := (G1.1.1, G1.1.2)) h1 (fun q a => f.1 q (by omega) (by omega) (by omega) (by omega) (by omega)) f.2.1 (fun y k a => f.2.2 y k (by omega) (by omega)) hG.2.2.2.2.2.1 hG.2.2.2.2.2.2, hG, ?_, ?_, ?_, hb⟩
  · exact (f.1 140 (by decide) (by decide) (by decide) (by decide) (by decide)).trans h3
  · exact (f.1 142 (by decide) (by decide) (by decide) (by decide) (by decide)).trans h4
  · exact (f.1 144 (by decide) (by decide) (by decide) (by decide) (by decide)).trans h5
theorem Setter_raw.c {at9 nx : Nat} (hS : StB S) (hT : mX σ 3 = T) (hT4 : T.length ≤ 4000) (hL : LnM σ T (mlL T)) (h1 : at9 < nx) (hnx : nx ≤ (mlL T).length) (hk : ∀ j, at9 ≤ j → j < nx → kdL T j = 4) (hne : ∀ i, i < nx → kdL T i = 4 → ((mlL T).getD i (0, 0)).1 + 1 ≤ ((mlL T).getD i (0, 0)).2) (ho : Rg o) (hSv : ∀ k, k < 13 → mV σ 24 k = S.getD k 0) (h16 : mV σ 127 16 = o) (hK : BkC σ E z z' b) (hGB : GB9 (-45) (bkG b)) (hy : ∀ b' σ', rwD o S T at9 nx b = .inl b' → BkC σ' E z z' b' → FrBl σ σ' → Q (.inl none) σ') (hn : ∀ e σ', rwD o S T at9 nx b = .inr e → TxF σ' e → FrBl σ σ' → Q (.inr (exN 0)) σ') : Setter_raw (at9 : Int) (nx : Int) σ Q := by
  have s8 := hS.2.2.2.2.2.2
  obtain ⟨q1, q2, q3, q4, q5⟩ := hGB
  have q1 : 0 ≤ b.1.1.1 ∧ b.1.1.1 ≤ 60000 := q1
  have q3' : b.2.1.1.length ≤ 1500 := q3
  have q5 : 45 * (b.2.1.2.length : Int) ≤ 3 * b.1.1.1 + 75 * b.2.1.1.length + (-45) := q5
  have lf : 45 * ((flS b (S.getD 8 0)).length : Int) ≤ 3 * b.1.1.1 + 75 * b.2.1.1.length + 90 := by
    unfold flS
    rw [List.length_append]
    split
    · rw [List.length_replicate]
      omega
    · rw [List.length_nil]
      omega
  have lF : (bkG b).2.2.length ≤ 8000 := by
    show b.2.1.2.length ≤ 8000
    omega
  refine Setter_raw.i (told_c (k := 8) (by decide) (hSv 8 (by decide)) ?_)
  refine Galley_beginBlock.c hK.2.1 hK.2.2.2.2.2 s8 lF (fun σ1 g1 d1 x1 c1 v1 => ?_)
  have fb : FrBl σ σ1 := ⟨fun q _ _ _ _ e => x1 q e, c1, fun y k _ a => v1 y k a⟩
  show Setter_raw_18 (nx : Int) (at9 : Int) σ1 Q
  have fin : ∀ σ2, FrGa σ1 σ2 → FrBl σ σ2 := fun σ2 f => ⟨fun q a b c d e => (f.1 q a b c d e).trans (x1 q e), f.2.1.trans c1, fun y k a c => (f.2.2 y k a).trans (v1 y k c)⟩
  have eR : ∀ r, rwD o S T at9 nx b = r ↔ (match gAll o true (rwL T (S.getD 0 0) (nx - at9) at9) ((b.1.1.1, b.1.1.2.1), b.2.1.1, flS b (S.getD 8 0)) with
    | .inr e => (Sum.inr e : BK9 ⊕ (Int × Int × Int))
    | .inl G1 => .inl (blG b G1)) = r := fun r => Iff.rfl
  refine raw_18 (c9 := 90) (o := o) (W := S.getD 0 0) hT4 hnx hS.1 ho hne (by decide) (nx - at9) at9 σ1 ((b.1.1.1, b.1.1.2.1), b.2.1.1, flS b (S.getD 8 0)) (by omega) hk ((x1 3 (by decide)).trans hT) ⟨(x1 200 (by decide)).trans hL.1, (x1 202 (by decide)).trans hL.2.1, (x1 204 (by decide)).trans hL.2.2⟩ ((v1 _ _ (by decide)).trans (hSv 0 (by decide))) ((v1 _ _ (by decide)).trans h16) g1 ⟨q1, q2, q3, q4, lf⟩ (fun G1 σ2 w1 w2 w3 => ?_) (fun e σ2 w1 w2 w3 => ?_)
  · refine hy (blG b G1) σ2 ((eR _).mpr (by rw [w1])) (hK.bl (fin σ2 w3) w2 ?_) (fin σ2 w3)
    rw [w3.2.2 128 10 (by decide)]
    exact d1
  · exact hn e σ2 ((eR _).mpr (by rw [w1])) w2 (fin σ2 w3)
end
