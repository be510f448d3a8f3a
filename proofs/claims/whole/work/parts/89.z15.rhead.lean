/-! HEADINGS: the reference sets them; the lines -/
def TtR (σ : MS) (nw : Nat) (Ti : List (List Int)) : Prop := mV σ 246 74 = ((70000 * nw + suM Ti : Nat) : Int) ∧ ∀ i, i < Ti.length → mV σ 287 (60 * nw + i) = ((70000 * nw + suM (Ti.take i) : Nat) : Int) ∧ mV σ 288 (60 * nw + i) = ((Ti.getD i []).length : Int) ∧ holA σ 286 (70000 * nw + suM (Ti.take i)) (Ti.getD i [])
def HdR (σ : MS) (nw : Nat) (F : List Int) (g : HG9) : Prop := mV σ 292 nw = (g.1.length : Int) ∧ TtR σ nw g.1 ∧ (∀ i, i < g.1.length → mV σ 289 (60 * nw + i) = g.2.1.getD i 0) ∧ MkL σ 291 F g.2.2
def hdSS : List Nat := [291, 299, 300]
/-- titles lie in two banks; only the round's own changes -/
def hdS1 : List Nat := [286, 287, 288, 289, 292]
def hdW (z : Nat) : Nat := if z = 286 then 70000 else if z = 292 then 1 else 60
def AlH (nw z k : Nat) : Prop := AlB nw z k ∨ z ∈ hdSS ∨ (z = 246 ∧ (k = 74 ∨ k = 84)) ∨ (z ∈ hdS1 ∧ k / hdW z = nw)
def FrHh (nw : Nat) (σ σ' : MS) : Prop := FrA (AlH nw) σ σ'
section
variable {σ σ0 : MS} {Q : MQ9} {nw n0 m0 l0 k0 : Nat} {H : HY9} {S F L : List Int} {o hg : Int} {bg : Bool} {s1 : TS} {Ls : List GL9} {E : TE}
theorem sbl_nb {c : Int} (h : ¬ c % 128 = 32) : sbl c = false := decide_eq_false (by omega)
theorem hr_501 {k : Nat} (h99 : mV σ0 246 99 = ((n0 + k : Nat) : Int)) (hkn : n0 + k ≤ 1500) (hq : ∀ σ', FrZ [314] [] σ0 σ' → (∀ i, i < n0 → mV σ' 314 i = mV σ0 314 i) → (∀ i, i < k → mV σ' 314 (n0 + i) = 0) → R_heading_501 (n0 : Int) ((n0 + k : Nat) : Int) σ' Q) : ∀ (n j : Nat) (σ : MS), j + n = k → FrZ [314] [] σ0 σ → (∀ i, i < n0 → mV σ 314 i = mV σ0 314 i) → (∀ i, i < j → mV σ 314 (n0 + i) = 0) → R_heading_501 (n0 : Int) ((n0 + j : Nat) : Int) σ Q := by
  intro n
  induction n with
  | zero =>
    intro j σ hj hf ho hz
    rw [show j = k by omega] at hz ⊢
    exact hq σ hf ho hz
  | succ n ih =>
    intro j σ hj hf ho hz
    have e := (hf.f (k := 99) (by simp) (by decide)).trans h99
    refine R_heading_501.i ⟨by unfold Rg; omega, fun h => absurd h (by omega), fun _ => ⟨by omega, by omega, ?_⟩⟩
    rw [Int.toNat_natCast, show ((n0 + j : Nat) : Int) + 1 = ((n0 + (j + 1) : Nat) : Int) by omega]
    refine ih (j + 1) _ (by omega) (hf.tr (FrZ.wz (by decide))) (fun i hi => ?_) (fun i hi => ?_)
    · rw [wV_ne (Or.inr (by omega))]
      exact ho i hi
    · by_cases e9 : i = j
      · rw [e9, wV_self]
        decide
      · rw [wV_ne (Or.inr (by omega))]
        exact hz i (by omega)
/-- the row L is set from line n0 on: points, lines, flags, marks, where it lies -/
theorem hr_D {hp : Nat} (hn0 : Ls.length = n0) (hn60 : hp < 60) (hnw : nw ≤ 1) (h59 : mV σ 246 59 = (nw : Int)) (hok : okK L) (hL6 : L.length ≤ 65000) (hfs : ∀ c r, L = c :: r → ¬ c % 128 = 32) (hLne : L ≠ []) (hG0 : hoG σ 254 255 0 L) (h16 : mV σ 246 16 = (L.length : Int)) (h84 : mV σ 246 84 + 1 = hg) (hh : 0 ≤ hg ∧ hg ≤ 100) (hS : StB S) (hSv : ∀ k, k < 13 → mV σ 275 k = S.getD k 0) (hHy : HyR σ H.2.1 H.2.2.1 H.2.2.2.1 H.2.2.2.2) (hb : HyB H.2.1 H.2.2.1 H.2.2.2.1 H.2.2.2.2) (h161 : mV σ 246 161 = 0) (ho : mV σ 246 29 = o) {w : Int × Int} (hRx : RxG σ (w, Ls, F)) (hGB : GB9 90 (w, Ls, F ++ List.replicate (spB bg false (S.getD 8 0) 1).toNat (-2))) (hWt : WtR σ m0 l0 k0 L s1.2.2) (hm0 : m0 ≤ 60) (hb1 : s1.2.2.2.1.2.2.length ≤ 60) (hb2 : s1.2.2.2.2.1.2.length ≤ 100) (hb3 : s1.2.2.2.2.2.1.2.1 = []) (hEl : ElR σ F) (hbg : mV σ 246 113 = bZ bg) {U : List Int} (hU : U = pkL L) {X : List (Nat × Nat × Bool)} (hX : X = hgX H (S.getD 0 0) hg U) (hy : ∀ G1 σ', gAll o true (prN [] hg 0 (S.getD 0 0) U 9999 X) (w, Ls, F ++ List.replicate (spB bg false (S.getD 8 0) 1).toNat (-2)) = .inl G1 → RxG σ' G1 → ElR σ' G1.2.2 → mV σ' 246 113 = 1 → FrZ (291 :: TcS) TcK σ σ' → ((∀ j, j < l0 → mV σ' 284 j = mV σ 284 j) ∧ (∀ j, j < k0 → mV σ' 297 j = mV σ 297 j) ∧ (∀ z j, z = 317 ∨ z = 318 → j < n0 → mV σ' z j = mV σ z j) ∧ (∀ z j, z = 303 ∨ z = 304 → mV σ' z j = mV σ z j)) → ((∀ j, l0 ≤ j → j < s1.2.2.2.1.2.2.length → mV σ' 284 j = ((n0 + lnO (gV9 U (s1.2.2.2.1.2.2.getD j 0)) X : Nat) : Int)) ∧ (∀ j, k0 ≤ j → j < s1.2.2.2.2.1.2.length → mV σ' 297 j = ((n0 + lnO (gV9 U (s1.2.2.2.2.1.2.getD j 0)) X : Nat) : Int)) ∧ NlR σ' n0 m0 X.length []) → (mV σ' 291 hp = (n0 : Int) ∧ ∀ j, j ≠ hp → mV σ' 291 j = mV σ 291 j) → Q (.inl none) σ') (hf : ∀ e σ', gAll o true (prN [] hg 0 (S.getD 0 0) U 9999 X) (w, Ls, F ++ List.replicate (spB bg false (S.getD 8 0) 1).toNat (-2)) = .inr e → TxR σ' e → FrZ (291 :: TcS) TcK σ σ' → Q (.inl none) σ') : R_points 0 (mV σ 246 16) 0 σ (kV (thQ Q) fun σ1 => 0 ≤ (((60 * nw + hp : Nat) : Int) - (60 * (mV σ1 246 59))) ∧ (((60 * nw + hp : Nat) : Int) - (60 * (mV σ1 246 59))) < 60 ∧ R_filled 0 (mV σ1 246 16) 0 0 ((mV σ1 246 84) + 1) 0 (wV σ1 291 ((((60 * nw + hp : Nat) : Int) - (60 * (mV σ1 246 59))).toNat) (mV σ1 246 99)) (kI (thQ Q) fun r2 σ2 => (((mV σ2 246 28) = 0 → R_heading_501 (mV σ1 246 99) (mV σ1 246 99) σ2 Q) ∧ (¬ (mV σ2 246 28) = 0 → Q (.inl none) σ2)))) := by
  have s0 := hS.1
  have s8 := hS.2.2.2.2.2.2
  have pX : 1 ≤ U.length := by
    rw [hU]
    cases hl : L with
    | nil => exact absurd hl hLne
    | cons c r => exact pkL_pos (sbl_nb (hfs c r hl))
  have eX : liX (false, H.2) U (rmO (S.getD 0 0) (([] : List Int).length : Int)).toNat (rmO (S.getD 0 0) hg).toNat false = X := by
    unfold liX
    rw [if_neg (fun h => absurd h.1 (by decide)), hX]
    rfl
  have hXn : ¬ X = [] := fun h => by
    rw [← eX] at h
    have := liX_n.mp h
    rw [this] at pX
    exact absurd pX (by decide)
  have hX1 : 1 ≤ X.length := by
    cases hc : X with
    | nil => exact absurd hc hXn
    | cons x r => rw [List.length_cons]; omega
  have hne : X.isEmpty = false := by
    cases hc : X with
    | nil => exact absurd hc hXn
    | cons x r => rfl
  have epN : prN [] hg 0 (S.getD 0 0) U 9999 X = prB [] hg 0 (S.getD 0 0) U 9999 X.length 0 X := by
    unfold prN
    rw [hne]
    rfl
  have gb0 : GB9 0 (w, Ls, []) := ⟨hGB.1, hGB.2.1, hGB.2.2.1, hGB.2.2.2.1, by
    show 45 * ((0 : Nat) : Int) ≤ 3 * w.1 + 75 * (Ls.length : Int) + 0
    have : 0 ≤ w.1 := hGB.1.1
    omega⟩
  rw [h16]
  have rp := R_points.p (H := (false, H.2)) (u := 0) (L := L) (σ := σ) (Q := kV (thQ Q) fun σ1 => 0 ≤ (((60 * nw + hp : Nat) : Int) - (60 * (mV σ1 246 59))) ∧ (((60 * nw + hp : Nat) : Int) - (60 * (mV σ1 246 59))) < 60 ∧ R_filled 0 (mV σ1 246 16) 0 0 ((mV σ1 246 84) + 1) 0 (wV σ1 291 ((((60 * nw + hp : Nat) : Int) - (60 * (mV σ1 246 59))).toNat) (mV σ1 246 99)) (kI (thQ Q) fun r2 σ2 => (((mV σ2 246 28) = 0 → R_heading_501 (mV σ1 246 99) (mV σ1 246 99) σ2 Q) ∧ (¬ (mV σ2 246 28) = 0 → Q (.inl none) σ2)))) hok (by omega) hb hHy hG0 (fun σ2 p2 pt2 => ?_)
  · rw [Nat.zero_add] at rp
    exact rp
  have a2 : ∀ j, mV σ2 246 j = mV σ 246 j := fun j => p2.1.f (by simp) (by decide)
  have z2 : ∀ y j, y ≠ 256 → y ≠ 348 → y ≠ 246 → mV σ2 y j = mV σ y j := fun y j a b c => p2.1.z (by simp only [List.mem_cons, List.not_mem_nil, or_false]; omega) c
  have e99 : mV σ2 246 99 = (n0 : Int) := by
    rw [a2, hRx.2.2.2.1]
    show (Ls.length : Int) = _
    rw [hn0]
  show 0 ≤ (((60 * nw + hp : Nat) : Int) - (60 * (mV σ2 246 59))) ∧ _
  rw [a2 59, h59, a2 16, h16, a2 84, h84, e99, show (((60 * nw + hp : Nat) : Int) - (60 * (nw : Int))) = (hp : Int) by omega, Int.toNat_natCast]
  refine ⟨by omega, by omega, ?_⟩
  have f3 : FrZ [256, 291, 348] [] σ (wV σ2 291 hp (n0 : Int)) := (p2.1.mo (by decide) (by simp)).tr (FrZ.wz (by decide))
  have z3 : ∀ y j, y ≠ 256 → y ≠ 348 → y ≠ 291 → y ≠ 246 → mV (wV σ2 291 hp (n0 : Int)) y j = mV σ y j := fun y j a b c d => (wV_ne (Or.inl c)).trans (z2 y j a b d)
  have a3 : ∀ j, mV (wV σ2 291 hp (n0 : Int)) 246 j = mV σ 246 j := fun j => (wV_ne (Or.inl (by decide))).trans (a2 j)
  have h291 : mV (wV σ2 291 hp (n0 : Int)) 291 hp = (n0 : Int) ∧ ∀ j, j ≠ hp → mV (wV σ2 291 hp (n0 : Int)) 291 j = mV σ 291 j := ⟨wV_self, fun j hj => (wV_ne (Or.inr hj)).trans (z2 291 j (by decide) (by decide) (by decide))⟩
  have pt3 : ∀ j, j < L.length → mV (wV σ2 291 hp (n0 : Int)) 256 (0 + j) = ptD (false, H.2) L j := fun j hj => (wV_ne (Or.inl (by decide))).trans (pt2 j hj)
  generalize wV σ2 291 hp (n0 : Int) = σ3 at f3 z3 a3 h291 pt3
  have rw3 := R_filled.w (H := (false, H.2)) (u := 0) (L := L) (σ := σ3) (P := []) (hg := hg) (J := 0) (W := S.getD 0 0) (c := 0) (o := o) (G := (w, Ls, [])) (fw := false) (best := false) (Q := kI (thQ Q) fun r2 σ2 => (((mV σ2 246 28) = 0 → R_heading_501 (n0 : Int) (n0 : Int) σ2 Q) ∧ (¬ (mV σ2 246 28) = 0 → Q (.inl none) σ2))) (by omega) hok (by omega) (by omega) (hG0.cg (fun k _ _ => ⟨z3 _ _ (by decide) (by decide) (by decide) (by decide), z3 _ _ (by decide) (by decide) (by decide) (by decide)⟩)) pt3 ⟨[], (a3 _).trans h161, by decide, fun i hi => absurd hi (Nat.not_lt_zero _), Nat.le_refl _, rfl, fun x hx => absurd hx List.not_mem_nil⟩ (by decide) hh ((z3 _ _ (by decide) (by decide) (by decide) (by decide)).trans (hSv 0 (by decide))) s0 (by decide) ((a3 _).trans ho) (Int.le_refl 0) (hRx.z f3 (by decide) (by simp)) gb0 (fun G' σ4 q1 q2 q3 q4 => ?_) (fun e σ4 x hx q1 q2 q3 => ?_)
  · rw [Nat.zero_add] at rw3
    exact rw3
  · rw [← hU, eX] at q1 q4
    have q3 : FrFw Ls.length σ3 σ4 := q3
    have q4 : LbI σ4 Ls.length 0 L X := q4
    have gl := gAll_l q1
    have gl1 : G'.2.1 = Ls ++ (prA [] hg 0 (S.getD 0 0) U 0 X).map (fun x => (x.1, o, x.2)) := gl.1
    have f4 : FrZ (291 :: TcS) TcK σ σ4 := (f3.mo (by decide) (by simp)).tr (q3.1.mo (by decide) (by decide))
    have a4 : ∀ j, j ∉ [28, 32, 33, 98, 99, 160, 146, 147, 148, 163] → mV σ4 246 j = mV σ 246 j := fun j hj => (q3.1.f hj (by decide)).trans (a3 j)
    have z4 : ∀ y j, y ∉ (256 :: 348 :: 291 :: 340 :: 341 :: 338 :: 339 :: MkS) → y ≠ 246 → mV σ4 y j = mV σ y j := fun y j hy h6 => (q3.1.z (fun h => hy (List.mem_cons_of_mem _ (List.mem_cons_of_mem _ (List.mem_cons_of_mem _ h)))) h6).trans (z3 y j (fun e => hy (by rw [e]; decide)) (fun e => hy (by rw [e]; decide)) (fun e => hy (by rw [e]; decide)) h6)
    have l1 : G'.2.1.length = n0 + X.length := by
      rw [gl1, List.length_append, List.length_map, prA_l, hn0]
    have lA : ((prA [] hg 0 (S.getD 0 0) U 0 X).map (fun x => ((x.1, o, x.2) : GL9))).length = X.length := by rw [List.length_map, prA_l]
    have lB : ((prB [] hg 0 (S.getD 0 0) U 9999 X.length 0 X).map (fun x => ((x.1, o, x.2) : GL9))).length = X.length := by rw [List.length_map, prB_l]
    have g1n : gAll o true (prN [] hg 0 (S.getD 0 0) U 9999 X) (w, Ls, F ++ List.replicate (spB bg false (S.getD 8 0) 1).toNat (-2)) = .inl (G'.1, Ls ++ (prB [] hg 0 (S.getD 0 0) U 9999 X.length 0 X).map (fun x => (x.1, o, x.2)), F ++ List.replicate (spB bg false (S.getD 8 0) 1).toNat (-2) ++ seqZ n0 X.length) := by
      rw [epN, gAll_w]
      have hw := gl.2.2
      have hw : gWk ((prA [] hg 0 (S.getD 0 0) U 0 X).map (·.1)) w Ls.length = .inl G'.1 := hw
      show gAw o true (prB [] hg 0 (S.getD 0 0) U 9999 X.length 0 X) _ (gWk ((prB [] hg 0 (S.getD 0 0) U 9999 X.length 0 X).map (·.1)) w Ls.length) = _
      rw [prAB, hw, ← hn0]
      show Sum.inl (G'.1, Ls ++ _, _ ++ seqZ Ls.length (prB [] hg 0 (S.getD 0 0) U 9999 X.length 0 X).length) = _
      rw [prB_l]
    have gb1 := txG_b prN_ne hGB g1n
    have l15 : (Ls ++ (prB [] hg 0 (S.getD 0 0) U 9999 X.length 0 X).map (fun x => ((x.1, o, x.2) : GL9))).length ≤ 1500 := gb1.2.2.1
    have lF1 : 45 * ((F ++ List.replicate (spB bg false (S.getD 8 0) 1).toNat (-2 : Int) ++ seqZ n0 X.length).length : Int) ≤ 3 * G'.1.1 + 75 * ((Ls ++ (prB [] hg 0 (S.getD 0 0) U 9999 X.length 0 X).map (fun x => ((x.1, o, x.2) : GL9))).length : Int) + 0 := gb1.2.2.2.2
    have w60 : G'.1.1 ≤ 60000 := gb1.1.2
    rw [List.length_append, List.length_map, prB_l, hn0] at l15
    rw [List.length_append, List.length_append, seqZ_l, List.length_append, List.length_map, prB_l, hn0] at lF1
    have e994 : mV σ4 246 99 = ((n0 + X.length : Nat) : Int) := by
      rw [q2.2.2.2.1, l1]
    show (mV σ4 246 28 = 0 → _) ∧ (¬ mV σ4 246 28 = 0 → _)
    refine ⟨fun _ => ?_, fun h => absurd q2.1 h⟩
    have key := hr_501 (Q := Q) (σ0 := σ4) (n0 := n0) (k := X.length) e994 (by omega) (fun σ5 f5 u1 u2 => ?_) X.length 0 σ4 (by omega) FrZ.rf (fun _ _ => rfl) (fun i hi => absurd hi (Nat.not_lt_zero _))
    · rw [Nat.add_zero] at key
      exact key
    have s5 : ∀ j, mV σ5 246 j = mV σ4 246 j := fun j => f5.f (by simp) (by decide)
    have t5 : ∀ y j, y ≠ 314 → y ≠ 246 → mV σ5 y j = mV σ4 y j := fun y j a c => f5.z (by rw [List.mem_singleton]; exact a) c
    have rx5 : RxG σ5 (G'.1, Ls ++ (prB [] hg 0 (S.getD 0 0) U 9999 X.length 0 X).map (fun x => ((x.1, o, x.2) : GL9)), F ++ List.replicate (spB bg false (S.getD 8 0) 1).toNat (-2) ++ seqZ n0 X.length) := by
      have li4 := q2.2.2.2
      rw [gl1] at li4
      refine ⟨(s5 _).trans q2.1, (s5 _).trans q2.2.1, (s5 _).trans q2.2.2.1, li4.fl (by rw [lA, lB]) (fun i hi => ?_) f5 (fun i hi => u1 i (by omega)) (fun i hi => ?_)⟩
      · rw [lA] at hi
        have pa := prAB_at (P := []) (hg := hg) (J := 0) (W := S.getD 0 0) (U := U) (hold := 9999) (many := X.length) X 0 i hi
        rw [map_g9 (by rw [prA_l]; exact hi), map_g9 (by rw [prB_l]; exact hi)]
        refine ⟨pa.1, rfl, ?_⟩
        show decide (2 ≤ ((prA [] hg 0 (S.getD 0 0) U 0 X).getD i ([], 0)).2) = decide (2 ≤ ((prB [] hg 0 (S.getD 0 0) U 9999 X.length 0 X).getD i ([], 0)).2)
        rw [pa.2.1, pa.2.2]
        cases (X.getD i (0, 0, false)).2.2 <;> cases hoF 9999 X.length (0 + i) <;> rfl
      · rw [lA] at hi
        have pa := prAB_at (P := []) (hg := hg) (J := 0) (W := S.getD 0 0) (U := U) (hold := 9999) (many := X.length) X 0 i hi
        rw [map_g9 (by rw [prB_l]; exact hi), hn0, u2 i hi]
        show (0 : Int) = bZ (decide (((prB [] hg 0 (S.getD 0 0) U 9999 X.length 0 X).getD i ([], 0)).2 % 2 = 0))
        have hh9 : hoF 9999 X.length (0 + i) = true := decide_eq_true (Or.inr rfl)
        rw [pa.2.2, hh9]
        cases (X.getD i (0, 0, false)).2.2 <;> rfl
    have e995 : mV σ5 246 99 = ((n0 + X.length : Nat) : Int) := (s5 _).trans e994
    have f05 : FrZ (291 :: TcS) TcK σ σ5 := f4.tr (f5.mo (by decide) (by simp))
    refine R_heading_501.i ⟨by unfold Rg; omega, fun _ => ?_, fun h => absurd h (by omega)⟩
    rw [s5 16, a4 16 (by decide), h16]
    obtain ⟨Wt, x1, x2, x3⟩ := hWt
    refine R_carries.p (m := s1.2.2) (m0 := m0) (l0 := l0) (k0 := k0) (X := X) hok (by omega) (hG0.cg (fun k _ _ => ⟨(t5 _ _ (by decide) (by decide)).trans (z4 _ _ (by decide) (by decide)), (t5 _ _ (by decide) (by decide)).trans (z4 _ _ (by decide) (by decide))⟩)) hX1 (by omega) e995 (fun i hi => ?_) ⟨Wt, ((s5 _).trans (a4 _ (by decide))).trans x1, fun i hi => ?_, x3⟩ (Or.inr ?_) hb1 hb2 (by rw [hb3]; decide) (by omega) (fun i j _ hj => by rw [hb3] at hj; exact absurd hj (Nat.not_lt_zero _)) (fun σ6 hc => ?_)
    · rw [hn0] at q4
      obtain ⟨⟨c, c1, c2, c3, c4, c5⟩, c6, c7⟩ := q4 i hi
      exact ⟨⟨c, c1, c2, c3, (t5 _ _ (by decide) (by decide)).trans c4, c5⟩, (t5 _ _ (by decide) (by decide)).trans c6, (t5 _ _ (by decide) (by decide)).trans c7⟩
    · rw [t5 305 _ (by decide) (by decide), t5 306 _ (by decide) (by decide), t5 307 _ (by decide) (by decide), z4 305 _ (by decide) (by decide), z4 306 _ (by decide) (by decide), z4 307 _ (by decide) (by decide)]
      exact x2 i hi
    · cases hl : L with
      | nil => exact absurd hl hLne
      | cons c r =>
        have e : foN (c :: r) = 0 := if_neg (hfs c r hl)
        rw [e]
        exact Nat.succ_pos _
    · obtain ⟨⟨c1, c2, c3, c4⟩, c5, c6, c7⟩ := hc
      rw [hb3] at c7
      have s6 : ∀ j, mV σ6 246 j = mV σ5 246 j := fun j => c1.f (by simp) (by decide)
      show R_lies (n0 : Int) 0 1 σ6 _
      refine (R_lies.p (n0 := n0) (k := X.length) (F := F) (bg := bg) (cl := false) (g := S.getD 8 0) (least := 1) ((s6 _).trans e995) (by omega) hX1 (by omega) ((c1.z (by decide) (by decide)).trans ((t5 _ _ (by decide) (by decide)).trans ((z4 _ _ (by decide) (by decide)).trans (hSv 8 (by decide))))) s8 (by decide) ((s6 _).trans ((s5 _).trans ((a4 _ (by decide)).trans hbg))) ⟨(s6 _).trans ((s5 _).trans ((a4 _ (by decide)).trans hEl.1)), fun i hi => ?_⟩ (fun σ7 f7 v7 el7 => ?_) : R_lies (n0 : Int) (bZ false) 1 σ6 _)
      · rw [c1.z (z := 320) (by decide) (by decide), c1.z (z := 321) (by decide) (by decide), t5 320 _ (by decide) (by decide), t5 321 _ (by decide) (by decide), z4 320 _ (by decide) (by decide), z4 321 _ (by decide) (by decide)]
        exact hEl.2 i hi
      · have w7 : ∀ y j, y ≠ 320 → y ≠ 321 → y ≠ 246 → mV σ7 y j = mV σ6 y j := fun y j a c d => f7.z (by simp only [List.mem_cons, List.not_mem_nil, or_false]; omega) d
        refine hy _ σ7 g1n ((rx5.z c1 (by decide) (by simp)).z f7 (by decide) (by decide)) el7 v7 ((f05.tr (c1.mo (by decide) (by simp))).tr (f7.mo (by decide) (by decide))) ⟨fun j hj => ?_, fun j hj => ?_, fun z j hz hj => ?_, fun z j hz => ?_⟩ ⟨fun j a c => ?_, fun j a c => ?_, fun i hi => ?_⟩ ⟨?_, fun j hj => ?_⟩
        · rw [w7 _ _ (by decide) (by decide) (by decide), c2 j hj, t5 _ _ (by decide) (by decide), z4 _ _ (by decide) (by decide)]
        · rw [w7 _ _ (by decide) (by decide) (by decide), c3 j hj, t5 _ _ (by decide) (by decide), z4 _ _ (by decide) (by decide)]
        · rw [w7 _ _ (by omega) (by omega) (by omega), c4 z j hz hj, t5 _ _ (by omega) (by omega), q3.2 z j (by omega) (by omega), z3 z j (by omega) (by omega) (by omega) (by omega)]
        · rw [w7 _ _ (by omega) (by omega) (by omega), c1.z (by simp only [List.mem_cons, List.not_mem_nil, or_false]; omega) (by omega), t5 _ _ (by omega) (by omega), z4 z j (by
            unfold MkS
            simp only [List.mem_cons, List.not_mem_nil, or_false]
            omega) (by omega)]
        · rw [w7 _ _ (by decide) (by decide) (by decide)]
          rw [← hU] at c5
          exact c5 j a c
        · rw [w7 _ _ (by decide) (by decide) (by decide)]
          rw [← hU] at c6
          exact c6 j a c
        · rw [w7 _ _ (by decide) (by decide) (by decide), w7 _ _ (by decide) (by decide) (by decide)]
          exact c7 i hi
        · rw [w7 _ _ (by decide) (by decide) (by decide), c1.z (by decide) (by decide), t5 _ _ (by decide) (by decide), q3.1.z (by decide) (by decide)]
          exact h291.1
        · rw [w7 _ _ (by decide) (by decide) (by decide), c1.z (by decide) (by decide), t5 _ _ (by decide) (by decide), q3.1.z (by decide) (by decide)]
          exact h291.2 j hj
  · rw [← hU, eX] at q1
    have q3 : FrFw Ls.length σ3 σ4 := q3
    have hk := gAll_k q1
    have ya : gAll o true (prN [] hg 0 (S.getD 0 0) U 9999 X) (w, Ls, F ++ List.replicate (spB bg false (S.getD 8 0) 1).toNat (-2)) = .inr e := by
      rw [epN, gAll_w]
      rw [gAll_w] at q1
      have q1 : gAw o false _ _ (gWk ((prA [] hg 0 (S.getD 0 0) U 0 X).map (·.1)) w Ls.length) = _ := q1
      show gAw o true _ _ (gWk ((prB [] hg 0 (S.getD 0 0) U 9999 X.length 0 X).map (·.1)) w Ls.length) = _
      rw [prAB]
      cases hw : gWk ((prA [] hg 0 (S.getD 0 0) U 0 X).map (·.1)) w Ls.length with
      | inl w =>
        rw [hw] at q1
        cases q1
      | inr e2 =>
        rw [hw] at q1
        exact congrArg Sum.inr (Sum.inr.inj q1)
    show (mV σ4 246 28 = 0 → _) ∧ (¬ mV σ4 246 28 = 0 → _)
    exact ⟨fun h => absurd (q2.1.symm.trans h) (by omega), fun _ => hf e σ4 ya q2 ((f3.mo (by decide) (by simp)).tr (q3.1.mo (by decide) (by decide)))⟩
end
