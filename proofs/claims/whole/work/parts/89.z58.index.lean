/-! INDEX: the class, the whole -/
def ixL (H : HY9) (W : Int) (U : List Int) : List (List Int × Int) := prN [] 2 0 W U 0 (hgX H W 2 U)
def ixA (H : HY9) (W : Int) (K : List (List Int)) (P : List Int) (f s : Int) : List Nat → List (List Int × Int)
  | [] => []
  | k :: r => ixL H W (pkL (enT K P f s k)) ++ ixA H W K P f s r
def ixD (o : Int) (H : HY9) (S : List Int) (K : List (List Int)) (P : List Int) (f s : Int) (b : BK9) : BK9 ⊕ (Int × Int × Int) := if K.length = 0 then .inl b else match gAll o true (ixA H (S.getD 0 0) K P f s (orD K K.length)) ((b.1.1.1, b.1.1.2.1), b.2.1.1, flS b (S.getD 8 0)) with
  | .inr e => .inr e
  | .inl G1 => .inl (blG b G1)
theorem gAll_b2 {o c : Int} {fw : Bool} : ∀ (X : List (List Int × Int)) {G G' : GS9}, GB9 c G → gAll o fw X G = .inl G' → GB9 c G'
  | [], G, G', hB, h => by
    have e : G = G' := Sum.inl.inj h
    rw [← e]
    exact hB
  | x :: r, G, G', hB, h => by
    have h : gBd (gFin o x.1 x.2 fw G) (gAll o fw r) = .inl G' := h
    cases e : gFin o x.1 x.2 fw G with
    | inr q =>
      rw [e] at h
      exact absurd h (by simp [gBd])
    | inl G1 =>
      rw [e] at h
      exact gAll_b2 r ((gFin_b hB e).1.mo (by omega)) h
theorem orD_0 {K : List (List Int)} : (orD K K.length).length = 0 ↔ K.length = 0 := by
  refine ⟨fun h => ?_, fun h => ?_⟩
  · rcases Nat.eq_zero_or_pos K.length with e | e
    · exact e
    · obtain ⟨x, hx, _⟩ := (orD_s (K := K) K.length).2.2 0 e
      have := List.length_pos_of_mem hx
      omega
  · have := orD_l (K := K) K.length
    omega
theorem sm_ok {U : List Int} (h : smB U) : okK U := fun c hc => by
  have := h c hc
  exact ⟨by omega, by omega, fun h5 => by omega⟩
section
variable {σ σ0 : MS} {Q : MQ9} {z z' : Nat} {K : List (List Int)} {P S : List Int} {f s o c9 : Int} {H : HY9} {E : TE} {b : BK9}
/-- what the index reads -/
def IxS (σ : MS) (z' : Nat) (H : HY9) (S : List Int) (K : List (List Int)) (P : List Int) (f s o : Int) : Prop := mB σ 1 = z' ∧ IxC σ z' K P ∧ (mV σ z' 14 = f ∧ mV σ z' 15 = s) ∧ HyC σ H.2.1 H.2.2.1 H.2.2.2.1 H.2.2.2.2 ∧ (∀ k, k < 13 → mV σ 24 k = S.getD k 0) ∧ mV σ 127 16 = o
theorem IxS.fr {σ1 : MS} (hz' : z' = 49 ∨ z' = 163) (h : IxS σ z' H S K P f s o) (g : FrIx z' σ σ1) : IxS σ1 z' H S K P f s o := by
  obtain ⟨h1, ⟨⟨h2, h3⟩, h4⟩, ⟨h5, h6⟩, ⟨⟨c1, c2⟩, ⟨c3, c4⟩, c5, c6⟩, h7, h8⟩ := h
  have x : ∀ q, (q < 111 ∨ (163 ≤ q ∧ q ≤ 199)) → q ≠ z' + 31 → q ≠ z' + 33 → mX σ1 q = mX σ q := fun q a c d => g.1 q (by
    simp only [List.mem_cons, List.not_mem_nil, or_false]
    omega) c d
  have v : ∀ y k, y ≠ 22 → y ≠ 126 → y ≠ 128 → y ≠ 111 → mV σ1 y k = mV σ y k := fun y k a c d e => g.2.2 y k a c (by omega) (by omega)
  exact ⟨by rw [show mB σ1 = mB σ from congrArg Prod.fst g.2.1]; exact h1, ⟨⟨(x _ (by omega) (by omega) (by omega)).trans h2, (x _ (by omega) (by omega) (by omega)).trans h3⟩, (x _ (by omega) (by omega) (by omega)).trans h4⟩, ⟨(v _ _ (by omega) (by omega) (by omega) (by omega)).trans h5, (v _ _ (by omega) (by omega) (by omega) (by omega)).trans h6⟩, ⟨⟨(x _ (by omega) (by omega) (by omega)).trans c1, (x _ (by omega) (by omega) (by omega)).trans c2⟩, ⟨(x _ (by omega) (by omega) (by omega)).trans c3, (x _ (by omega) (by omega) (by omega)).trans c4⟩, (v _ _ (by decide) (by decide) (by decide) (by decide)).trans c5, (v _ _ (by decide) (by decide) (by decide) (by decide)).trans c6⟩, fun k hk => (v _ _ (by decide) (by decide) (by decide) (by decide)).trans (h7 k hk), (v _ _ (by decide) (by decide) (by decide) (by decide)).trans h8⟩
theorem idx_39 {O : List Nat} (hz' : z' = 49 ∨ z' = 163) (hS : StB S) (ho : Rg o) (hB : IxB K P) (hf : 0 ≤ f ∧ f ≤ 999) (hs : 0 < K.length → 1 ≤ s ∧ s ≤ 5) (hb : HyB H.2.1 H.2.2.1 H.2.2.2.1 H.2.2.2.2) (hO : ∀ x ∈ O, x < K.length) (hOl : O.length ≤ 100) (hc : c9 ≤ 1000) : ∀ (r p : List Nat) (σ : MS) (G : GS9), O = p ++ r → mX σ 208 = natZ O → IxS σ z' H S K P f s o → GaC σ G [] → GB9 c9 G → (∀ G' σ', gAll o true (ixA H (S.getD 0 0) K P f s r) G = .inl G' → GaC σ' G' [] → FrIx z' σ σ' → mV σ' 128 10 = mV σ 128 10 → Q (.inl none) σ') → (∀ e σ', gAll o true (ixA H (S.getD 0 0) K P f s r) G = .inr e → TxF σ' e → FrIx z' σ σ' → Q (.inr (exN 0)) σ') → Setter_index_39 (p.length : Int) σ Q := by
  have im : isMarks z' = true := by rcases hz' with rfl | rfl <;> decide
  have s0 := hS.1
  have b3 := hB.2.2.1
  intro r
  induction r with
  | nil =>
    intro p σ G hp h208 hI hG hGB hy hn
    rw [List.append_nil] at hp
    refine Setter_index_39.i ?_
    rw [h208, natZ_l, ← hp]
    exact ⟨by unfold Rg; omega, fun _ => hy G σ rfl hG FrIx.rf rfl, fun h => absurd h (by omega)⟩
  | cons k r ih =>
    intro p σ G hp h208 hI hG hGB hy hn
    have lO : O.length = p.length + (r.length + 1) := by rw [hp, List.length_append, List.length_cons]
    have hk : k < K.length := hO k (by rw [hp]; exact List.mem_append_right _ List.mem_cons_self)
    have ek : O.getD p.length 0 = k := by
      rw [hp]
      unfold List.getD
      rw [List.getElem?_append_right (Nat.le_refl _), Nat.sub_self]
      rfl
    have tl := enT_l (K := K) (P := P) (f := f) (s := s) hk hB.1
    have ts := enT_s (K := K) (P := P) (f := f) (s := s) hB.2.2.2.1 hk
    generalize hU : pkL (enT K P f s k) = U
    have lU : U.length ≤ 65000 := by
      have := pkL_q (L := enT K P f s k)
      rw [← hU]
      omega
    have okU : okK U := by
      rw [← hU]
      exact sm_ok (pkL_s ts)
    have bkU : bkE U := by
      rw [← hU]
      exact bkE.pk
    have e0 : ∀ x, gAll o true (ixA H (S.getD 0 0) K P f s (k :: r)) G = x ↔ gBd (gAll o true (ixL H (S.getD 0 0) U) G) (gAll o true (ixA H (S.getD 0 0) K P f s r)) = x := fun x => by
      rw [← hU, ← gAll_a]
      exact Iff.rfl
    refine Setter_index_39.i ?_
    rw [h208, natZ_l, natZ_at (by omega), ek, hI.1]
    refine ⟨by unfold Rg; omega, fun h => absurd h (by omega), fun _ => ⟨by unfold Rg; omega, tB.i im ?_⟩⟩
    refine Marks_putEntry.c (K := K) (P := P) (f := f) (s := s) hz' ⟨⟨(wX_ne (by omega)).trans hI.2.1.1.1, (wX_ne (by omega)).trans hI.2.1.1.2⟩, (wX_ne (by omega)).trans hI.2.1.2⟩ hB hf (hs (by omega)) hI.2.2.1.1 hI.2.2.1.2 hk wX_self (fun σ1 u1 x1 v1 => ?_)
    rw [hU] at u1
    have f1 : FrIx z' σ σ1 := ⟨fun q a c d => by
      simp only [List.mem_cons, List.not_mem_nil, or_false] at a
      rw [x1 q (by omega) c d, wX_ne (by omega)], congrArg Prod.snd v1, fun y k _ _ _ _ => by
      rw [show mV σ1 = mV σ from congrArg Prod.fst v1]⟩
    show Filler_openPlain σ1 _
    refine Filler_openPlain.c (fun σ2 g2 k2 w2 e2 v2 => ?_)
    have x2 : ∀ q, q ≠ 112 → q ≠ 114 → q ≠ 116 → q ≠ 118 → mX σ2 q = mX σ1 q := fun q a b c d => by
      by_cases h9 : q ∈ [130, 132, 134, 136, 138, 142, 144]
      · exact k2 q h9
      · simp only [List.mem_cons, List.not_mem_nil, or_false, not_or] at h9
        exact g2.1 q (by
          simp only [List.mem_cons, List.not_mem_nil, or_false]
          omega)
    have f2 : FrIx z' σ1 σ2 := ⟨fun q a _ _ => by
      simp only [List.mem_cons, List.not_mem_nil, or_false] at a
      exact x2 q (by omega) (by omega) (by omega) (by omega), g2.2.1, fun y k a c _ d => g2.2.2 y k a c d⟩
    have f3 : FrIx z' σ2 (wV σ2 111 9 2) := ⟨fun _ _ _ _ => rfl, rfl, fun y k _ _ _ d => wV_ne (by omega)⟩
    have m206 : mX σ2 206 = U := (x2 206 (by decide) (by decide) (by decide) (by decide)).trans u1
    have f03 : FrIx z' σ (wV σ2 111 9 2) := (f1.tr f2).tr f3
    have hI3 := hI.fr hz' f03
    have v3 : ∀ y k, ¬ (y = 111 ∧ k = 9) → mV (wV σ2 111 9 2) y k = mV σ2 y k := fun y k h => wV_ne (by omega)
    show Filler_roomOf 0 (wV σ2 111 9 2) _
    refine Filler_roomOf.c (P := []) (by decide) (hI3.2.2.2.2.1 0 (by decide)) s0 e2.2.2.2 (by decide) wV_self (by decide) ?_
    refine Filler_roomOf.c (P := []) (by decide) (hI3.2.2.2.2.1 0 (by decide)) s0 e2.2.2.2 (by decide) wV_self (by decide) ?_
    rw [if_pos rfl, if_neg (by decide)]
    show Filler_fill 206 0 (((mX σ2 206).length : Nat) : Int) (rmO (S.getD 0 0) 0) (rmO (S.getD 0 0) 2) (wV σ2 111 9 2) _
    rw [m206]
    have r1 : rmO (S.getD 0 0) 0 = max 4 (S.getD 0 0 - 0) := rfl
    have r2 : rmO (S.getD 0 0) 2 = max 4 (S.getD 0 0 - 2) := rfl
    generalize hX : hgX H (S.getD 0 0) 2 U = X
    have hXm : X.length ≤ U.length ∧ ∀ x ∈ X, x.1 < x.2.1 ∧ x.2.1 ≤ U.length ∧ x.2.1 - x.1 ≤ 80 := by
      rw [← hX]
      unfold hgX
      exact fiL_m (by omega) (by omega) U.length 0
    have fl := Filler_fill.c (σ := wV σ2 111 9 2) (H := (false, H.2)) (U := U) (q := 206) (x0 := 0) (R1 := (rmO (S.getD 0 0) 0).toNat) (R2 := (rmO (S.getD 0 0) 2).toNat) (Q := kV (thQ Q) fun σ5 => Setter_printLines 206 0 1 σ5 (kV (thQ Q) fun σ6 => Setter_index_39 ((p.length : Int) + 1) σ6 Q)) okU bkU hb (by decide) (by omega) (by omega) (by rw [show mX (wV σ2 111 9 2) 112 = [] from e2.1]; show 0 + _ ≤ _; omega) (by rw [show mX (wV σ2 111 9 2) 114 = [] from e2.2.1]; show 0 + _ ≤ _; omega) (by rw [show mX (wV σ2 111 9 2) 116 = [] from e2.2.2.1]; show 0 + _ ≤ _; omega) (LnC.w (by decide) m206 (by omega)) hI3.2.2.2.1 ((v3 _ _ (by decide)).trans v2.2.2) (fun σ5 g5 y1 y2 y3 => ?_)
    · rw [Nat.zero_add, show (((rmO (S.getD 0 0) 0).toNat : Nat) : Int) = rmO (S.getD 0 0) 0 by omega, show (((rmO (S.getD 0 0) 2).toNat : Nat) : Int) = rmO (S.getD 0 0) 2 by omega] at fl
      exact fl
    have eX : fiL (false, H.2) U (rmO (S.getD 0 0) 0).toNat (rmO (S.getD 0 0) 2).toNat U.length 0 = X := hX
    rw [show mX (wV σ2 111 9 2) 112 = [] from e2.1, List.nil_append, eX] at y1
    rw [show mX (wV σ2 111 9 2) 114 = [] from e2.2.1, List.nil_append, eX] at y2
    rw [show mX (wV σ2 111 9 2) 116 = [] from e2.2.2.1, List.nil_append, eX] at y3
    have f5 : FrIx z' (wV σ2 111 9 2) σ5 := ⟨fun q a _ _ => by
      simp only [List.mem_cons, List.not_mem_nil, or_false] at a
      exact g5.1 q (by omega) (by omega) (by omega), g5.2.1, fun y k _ c _ d => g5.2.2 y k c (by omega)⟩
    have f05 := f03.tr f5
    have hI5 := hI.fr hz' f05
    have hG5 : GaC σ5 G [] := hG.fr (fun q hq => by
      rw [g5.1 q (by omega) (by omega) (by omega), show mX (wV σ2 111 9 2) q = mX σ2 q from rfl, x2 q (by omega) (by omega) (by omega) (by omega), x1 q (by omega) (by omega) (by omega), wX_ne (by omega)]) (fun k hk => by
      rw [g5.2.2 22 k (by decide) (by omega), v3 22 k (by omega), w2 k, show mV σ1 = mV σ from congrArg Prod.fst v1])
    have hb5 : mV σ5 128 10 = mV σ 128 10 := by
      rw [g5.2.2 128 10 (by decide) (by decide), v3 128 10 (by decide), g2.2.2 128 10 (by decide) (by decide) (by decide), show mV σ1 = mV σ from congrArg Prod.fst v1]
    have m2065 : mX σ5 206 = U := (g5.1 206 (by decide) (by decide) (by decide)).trans m206
    have pc : PrC σ5 206 0 U [] 2 0 (S.getD 0 0) o X := ⟨LnC.w (by decide) m2065 (by omega), y1, y2, y3, (g5.1 118 (by decide) (by decide) (by decide)).trans e2.2.2.2, hI5.2.2.2.2.1 0 (by decide), (g5.2.2 111 9 (by decide) (by decide)).trans wV_self, (g5.2.2 111 10 (by decide) (by decide)).trans ((v3 111 10 (by decide)).trans v2.2.1), hI5.2.2.2.2.2⟩
    have eL : ixL H (S.getD 0 0) U = prN [] 2 0 (S.getD 0 0) U 0 X := by
      unfold ixL
      rw [hX]
    show Setter_printLines 206 0 (bZ true) σ5 _
    refine Setter_printLines.c (fw := true) (d9 := c9) (by decide) (by omega) hXm.2 (by decide) (by decide) s0 ho (by decide) hc pc hG5 hGB (fun G1 σ6 q1 q2 q3 => ?_) (fun e σ6 q1 q2 q3 => ?_)
    · have f6 : FrIx z' σ5 σ6 := ⟨fun q a _ _ => by
        simp only [List.mem_cons, List.not_mem_nil, or_false] at a
        exact q3.1 q (by omega) (by omega) (by omega) (by omega) (by omega), q3.2.1, fun y k a _ _ _ => q3.2.2 y k a⟩
      have f06 := f05.tr f6
      have x208 : mX σ6 208 = natZ O := by
        rw [q3.1 208 (by decide) (by decide) (by decide) (by decide) (by decide), g5.1 208 (by decide) (by decide) (by decide), show mX (wV σ2 111 9 2) 208 = mX σ2 208 from rfl, x2 208 (by decide) (by decide) (by decide) (by decide), x1 208 (by decide) (by omega) (by omega), wX_ne (by decide)]
        exact h208
      show Setter_index_39 ((p.length : Int) + 1) σ6 Q
      rw [show (p.length : Int) + 1 = (((p ++ [k]).length : Nat) : Int) by rw [List.length_append]; rfl]
      refine ih (p ++ [k]) σ6 G1 (by rw [List.append_assoc]; exact hp) x208 (hI.fr hz' f06) q2 (gAll_b2 _ hGB q1) (fun G2 σ7 w1 w2' w3 w4 => hy G2 σ7 ((e0 _).mpr (by rw [eL, q1]; exact w1)) w2' (f06.tr w3) ?_) (fun e σ7 w1 w2' w3 => hn e σ7 ((e0 _).mpr (by rw [eL, q1]; exact w1)) w2' (f06.tr w3))
      rw [w4, q3.2.2 128 10 (by decide), hb5]
    · have f6 : FrIx z' σ5 σ6 := ⟨fun q a _ _ => by
        simp only [List.mem_cons, List.not_mem_nil, or_false] at a
        exact q3.1 q (by omega) (by omega) (by omega) (by omega) (by omega), q3.2.1, fun y k a _ _ _ => q3.2.2 y k a⟩
      exact hn e σ6 ((e0 _).mpr (by rw [eL, q1]; rfl)) q2 (f05.tr f6)
/-- the index, the class -/
theorem Setter_index.c (hS : StB S) (ho : Rg o) (hB : IxB K P) (hf : 0 ≤ f ∧ f ≤ 999) (hs : 0 < K.length → 1 ≤ s ∧ s ≤ 5) (hb : HyB H.2.1 H.2.2.1 H.2.2.2.1 H.2.2.2.2) (hI : IxS σ z' H S K P f s o) (hK : BkC σ E z z' b) (hGB : GB9 (-45) (bkG b)) (hy : ∀ b' σ', ixD o H S K P f s b = .inl b' → BkC σ' E z z' b' → FrIx z' σ σ' → Q (.inl none) σ') (hn : ∀ e σ', ixD o H S K P f s b = .inr e → TxF σ' e → FrIx z' σ σ' → Q (.inr (exN 0)) σ') : Setter_index σ Q := by
  have s8 := hS.2.2.2.2.2.2
  have hz' : z' = 49 ∨ z' = 163 := hK.1.2.1.2.1.2.2.2.1
  have im : isMarks z' = true := by rcases hz' with rfl | rfl <;> decide
  obtain ⟨q1, q2, q3, q4, q5⟩ := hGB
  have q1 : 0 ≤ b.1.1.1 ∧ b.1.1.1 ≤ 60000 := q1
  have q3' : b.2.1.1.length ≤ 1500 := q3
  have q5 : 45 * (b.2.1.2.length : Int) ≤ 3 * b.1.1.1 + 75 * b.2.1.1.length + (-45) := q5
  have lf : 45 * ((flS b (S.getD 8 0)).length : Int) ≤ 3 * b.1.1.1 + 75 * b.2.1.1.length + 90 := by
    unfold flS
    rw [List.length_append]
    split
    · rw [List.length_replicate]
      omega
    · rw [List.length_nil]
      omega
  have lF : (bkG b).2.2.length ≤ 8000 := by
    show b.2.1.2.length ≤ 8000
    omega
  have b3 := hB.2.2.1
  have os := orD_s (K := K) K.length
  have ol := orD_l (K := K) K.length
  have bl := hB.1
  refine Setter_index.i ?_
  rw [hI.1]
  refine tB.i im (Marks_order.c hz' hI.2.1.1 (by omega) hB.2.2.2.1 hB.1 ?_)
  have f1 : FrIx z' σ (wX σ 208 (natZ (orD K K.length))) := ⟨fun q a _ _ => wX_ne (fun e => a (by rw [e]; decide)), rfl, fun _ _ _ _ _ _ => rfl⟩
  have hI1 := hI.fr hz' f1
  show (((mX (wX σ 208 (natZ (orD K K.length))) 208).length : Int) ≤ 0 → _) ∧ (0 < ((mX (wX σ 208 (natZ (orD K K.length))) 208).length : Int) → _)
  rw [wX_self, natZ_l]
  generalize hσ1 : wX σ 208 (natZ (orD K K.length)) = σ1 at f1 hI1
  have h208 : mX σ1 208 = natZ (orD K K.length) := by rw [← hσ1, wX_self]
  have K1 : BkC σ1 E z z' b := by
    obtain ⟨k1, k2, k3, k4, k5, k6⟩ := hK
    have x : ∀ q, q ≠ 208 → mX σ1 q = mX σ q := fun q h => by rw [← hσ1, wX_ne h]
    have v : mV σ1 = mV σ := by rw [← hσ1]; rfl
    refine ⟨RdC.g3 (w := (b.1.1.1, b.1.1.2.1)) k1 (fun q a c d => x q (by omega)) f1.2.1 (fun y k _ => by rw [v]) (by rw [v]; exact k1.1.1) (by rw [v]; exact k1.1.2), k2.fr (fun q hq => x q (by omega)) (fun k _ => by rw [v]), (x _ (by decide)).trans k3, (x _ (by decide)).trans k4, (x _ (by decide)).trans k5, by rw [v]; exact k6⟩
  refine ⟨fun h => ?_, fun h => ?_⟩
  · have k0 := orD_0.mp (show (orD K K.length).length = 0 by omega)
    refine Setter_index_37.i (Setter_index_39.i ?_)
    rw [h208, natZ_l]
    exact ⟨by decide, fun _ => hy b σ1 (by unfold ixD; rw [if_pos k0]) K1 f1, fun h9 => absurd h9 (by omega)⟩
  · have k0 : ¬ K.length = 0 := fun e => by
      have := orD_0.mpr e
      omega
    refine told_c (k := 8) (by decide) (hI1.2.2.2.2.1 8 (by decide)) ?_
    refine Galley_beginBlock.c K1.2.1 K1.2.2.2.2.2 s8 lF (fun σ2 g2 d2 x2 c2 v2 => ?_)
    have f2 : FrIx z' σ1 σ2 := ⟨fun q a _ _ => x2 q (fun e => a (by rw [e]; decide)), c2, fun y k _ _ a _ => v2 y k a⟩
    show Setter_index_37 σ2 Q
    refine Setter_index_37.i ?_
    have eR : ∀ r, ixD o H S K P f s b = r ↔ (match gAll o true (ixA H (S.getD 0 0) K P f s (orD K K.length)) ((b.1.1.1, b.1.1.2.1), b.2.1.1, flS b (S.getD 8 0)) with
      | .inr e => (Sum.inr e : BK9 ⊕ (Int × Int × Int))
      | .inl G1 => .inl (blG b G1)) = r := fun r => by
      unfold ixD
      rw [if_neg k0]
    have key := idx_39 (Q := Q) (O := orD K K.length) (c9 := 90) (o := o) (f := f) (s := s) (H := H) (S := S) (K := K) (P := P) hz' hS ho hB hf hs hb (fun x hx => (os.2.1 x hx).1) (by omega) (by decide) (orD K K.length) [] σ2 ((b.1.1.1, b.1.1.2.1), b.2.1.1, flS b (S.getD 8 0)) rfl ((x2 _ (by decide)).trans h208) (hI1.fr hz' f2) g2 ⟨q1, q2, q3, q4, lf⟩ (fun G1 σ3 w1 w2 w3 w4 => ?_) (fun e σ3 w1 w2 w3 => ?_)
    · exact key
    · exact hy (blG b G1) σ3 ((eR _).mpr (by rw [w1])) (hK.ix ((f1.tr f2).tr w3) w2 (w4.trans d2)) ((f1.tr f2).tr w3)
    · exact hn e σ3 ((eR _).mpr (by rw [w1])) w2 ((f1.tr f2).tr w3)
end
