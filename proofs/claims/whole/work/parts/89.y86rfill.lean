/-! ROWS ARE FILLED, way 0: the reference; several lines -/
/-- the lines' codes, with a flag where a hyphen is put -/
def prA (P : List Int) (hg J W : Int) (U : List Int) : Nat → List (Nat × Nat × Bool) → List (List Int × Int)
  | _, [] => []
  | i, x :: r => (prL P hg J W r.isEmpty U i x, 2 * bZ x.2.2) :: prA P hg J W U (i + 1) r
/-- the work of several lines -/
def gWk : List (List Int) → Int × Int → Nat → (Int × Int) ⊕ (Int × Int × Int)
  | [], w, _ => .inl w
  | C :: r, w, n => if 1500 ≤ n then .inr (9, w.1, w.2) else if 60000 < w.1 + (20 + (C.length : Int)) ∨ 400000 < w.2 + (20 + (C.length : Int)) then .inr (8, w.1, w.2) else gWk r (w.1 + (20 + (C.length : Int)), w.2 + (20 + (C.length : Int))) (n + 1)
def seqZ (n : Nat) : Nat → List Int
  | 0 => []
  | m + 1 => (n : Int) :: seqZ (n + 1) m
def gAw (o : Int) (fw : Bool) (X : List (List Int × Int)) (G : GS9) : (Int × Int) ⊕ (Int × Int × Int) → GR9
  | .inl w => .inl (w, G.2.1 ++ X.map (fun x => (x.1, o, x.2)), if fw = true then G.2.2 ++ seqZ G.2.1.length X.length else G.2.2)
  | .inr e => .inr e
theorem gAll_w {o : Int} {fw : Bool} : ∀ (X : List (List Int × Int)) (G : GS9), gAll o fw X G = gAw o fw X G (gWk (X.map (·.1)) G.1 G.2.1.length)
  | [], G => by
    show Sum.inl G = Sum.inl (G.1, G.2.1 ++ [], if fw = true then G.2.2 ++ [] else G.2.2)
    rw [List.append_nil, List.append_nil]
    cases fw <;> rfl
  | x :: r, G => by
    show gBd (gFin o x.1 x.2 fw G) (gAll o fw r) = gAw o fw (x :: r) G (if 1500 ≤ G.2.1.length then .inr (9, G.1.1, G.1.2) else if 60000 < G.1.1 + (20 + (x.1.length : Int)) ∨ 400000 < G.1.2 + (20 + (x.1.length : Int)) then .inr (8, G.1.1, G.1.2) else gWk (r.map (·.1)) (G.1.1 + (20 + (x.1.length : Int)), G.1.2 + (20 + (x.1.length : Int))) (G.2.1.length + 1))
    unfold gFin
    by_cases h1 : 1500 ≤ G.2.1.length
    · rw [if_pos h1, if_pos h1]
      rfl
    rw [if_neg h1, if_neg h1]
    by_cases h2 : 60000 < G.1.1 + (20 + (x.1.length : Int)) ∨ 400000 < G.1.2 + (20 + (x.1.length : Int))
    · rw [gSp_n h2, if_pos h2]
      rfl
    rw [gSp_y h2, if_neg h2]
    show gAll o fw r ((G.1.1 + (20 + (x.1.length : Int)), G.1.2 + (20 + (x.1.length : Int))), G.2.1 ++ [(x.1, o, x.2)], if fw = true then G.2.2 ++ [(G.2.1.length : Int)] else G.2.2) = _
    rw [gAll_w r, List.length_append]
    show gAw o fw r _ (gWk (r.map (·.1)) (G.1.1 + (20 + (x.1.length : Int)), G.1.2 + (20 + (x.1.length : Int))) (G.2.1.length + 1)) = _
    cases gWk (r.map (·.1)) (G.1.1 + (20 + (x.1.length : Int)), G.1.2 + (20 + (x.1.length : Int))) (G.2.1.length + 1) with
    | inr e => rfl
    | inl w =>
      show Sum.inl (w, (G.2.1 ++ [(x.1, o, x.2)]) ++ r.map (fun x => (x.1, o, x.2)), if fw = true then (if fw = true then G.2.2 ++ [(G.2.1.length : Int)] else G.2.2) ++ seqZ (G.2.1 ++ [(x.1, o, x.2)]).length r.length else (if fw = true then G.2.2 ++ [(G.2.1.length : Int)] else G.2.2)) = Sum.inl (w, G.2.1 ++ (x.1, o, x.2) :: r.map (fun x => (x.1, o, x.2)), if fw = true then G.2.2 ++ (G.2.1.length : Int) :: seqZ (G.2.1.length + 1) r.length else G.2.2)
      rw [List.append_assoc, List.length_append]
      cases fw
      · rfl
      · show Sum.inl (w, _, (G.2.2 ++ [(G.2.1.length : Int)]) ++ seqZ (G.2.1.length + 1) r.length) = _
        rw [List.append_assoc]
        rfl
theorem GB9.mo {c d : Int} {G : GS9} (h : GB9 c G) (hd : c ≤ d) : GB9 d G := ⟨h.1, h.2.1, h.2.2.1, h.2.2.2.1, by have := h.2.2.2.2; omega⟩
theorem gAll_b {o c : Int} {fw : Bool} (hc : c ≤ 0) : ∀ (X : List (List Int × Int)) {G G' : GS9}, GB9 c G → gAll o fw X G = .inl G' → GB9 c G'
  | [], G, G', hB, h => by
    have e : G = G' := Sum.inl.inj h
    rw [← e]
    exact hB
  | x :: r, G, G', hB, h => by
    have h : gBd (gFin o x.1 x.2 fw G) (gAll o fw r) = .inl G' := h
    cases e : gFin o x.1 x.2 fw G with
    | inr q =>
      rw [e] at h
      exact absurd h (by simp [gBd])
    | inl G1 =>
      rw [e] at h
      exact gAll_b hc r ((gFin_b hB e).1.mo (by omega)) h
def FrFi (n : Nat) (σ σ' : MS) : Prop := FrZ (338 :: 339 :: MkS) [28, 32, 33, 98, 99, 160, 146, 147, 148] σ σ' ∧ ∀ z k, z = 315 ∨ z = 316 ∨ z = 317 ∨ z = 318 → k < n → mV σ' z k = mV σ z k
theorem FrFi.rf {n : Nat} {σ : MS} : FrFi n σ σ := ⟨FrZ.rf, fun _ _ _ _ => rfl⟩
theorem FrFi.tr {n m : Nat} {σ σ1 σ2 : MS} (h : FrFi n σ σ1) (hnm : n ≤ m) (h' : FrFi m σ1 σ2) : FrFi n σ σ2 := ⟨h.1.tr h'.1, fun z k a b => (h'.2 z k a (by omega)).trans (h.2 z k a b)⟩
theorem FrFi.l {n : Nat} {σ σ' : MS} (h : FrLa n σ σ') : FrFi n σ σ' := ⟨h.1.mo (fun x hx => hx) (fun x hx => by
  simp only [List.mem_cons, List.not_mem_nil, or_false] at hx ⊢
  omega), h.2⟩
theorem FrFi.f {n : Nat} {σ σ' : MS} (h : FrZ [] [146, 147, 148] σ σ') : FrFi n σ σ' := ⟨h.mo (fun x hx => absurd hx (by simp)) (fun x hx => by
  simp only [List.mem_cons, List.not_mem_nil, or_false] at hx ⊢
  omega), fun z k hz _ => h.z (by simp) (by omega)⟩
/-- behind which sign each line ends; no notes yet -/
def LbI (σ : MS) (n0 u : Nat) (L : List Int) (X : List (Nat × Nat × Bool)) : Prop := ∀ i, i < X.length → (∃ b, 1 ≤ b ∧ b ≤ L.length ∧ sbl (L.getD (b - 1) 0) = false ∧ mV σ 316 (n0 + i) = ((u + b : Nat) : Int) ∧ gP L b = (X.getD i (0, 0, false)).2.1) ∧ mV σ 317 (n0 + i) = 0 ∧ mV σ 318 (n0 + i) = 0
theorem RxG.f {σ σ' : MS} {G : GS9} (h : RxG σ G) (f : FrZ [] [146, 147, 148] σ σ') : RxG σ' G := ⟨(f.f (by decide) (by decide)).trans h.1, (f.f (by decide) (by decide)).trans h.2.1, (f.f (by decide) (by decide)).trans h.2.2.1, h.2.2.2.cg (f.f (by decide) (by decide)) (f.f (by decide) (by decide)) (fun z k hz _ => f.z (by simp) (by omega)) (fun k _ => ⟨f.z (by simp) (by decide), f.z (by simp) (by decide)⟩)⟩
theorem AhR.cg {σ σ' : MS} {P : List Int} (h : AhR σ P) (e1 : mV σ' 246 161 = mV σ 246 161) (e2 : ∀ k, mV σ' 350 k = mV σ 350 k) : AhR σ' P := by
  obtain ⟨A, a1, a2, a3, a4, a5, a6⟩ := h
  exact ⟨A, e1.trans a1, a2, fun i hi => (e2 i).trans (a3 i hi), a4, a5, a6⟩
section
variable {σ σ0 : MS} {Q : MQ9} {c o : Int} {u en : Nat} {L P : List Int} {hg J W : Int} {H : HY9}
theorem fiP_fit {U : List Int} {a R : Nat} (hR : 1 ≤ R) : ((fiS H U a R - a : Nat) : Int) + bZ (fiP H U a R) ≤ R := by
  have h1 := fi_b (H := H) (U := U) (a := a) hR
  cases e : fiP H U a R
  · show ((fiS H U a R - a : Nat) : Int) + 0 ≤ R
    omega
  · unfold fiP at e
    rw [Bool.and_eq_true] at e
    have h2 := okZ_i.mp e.2
    have h3 := of_decide_eq_true e.1
    show ((fiS H U a R - a : Nat) : Int) + 1 ≤ R
    rw [h3] at h2
    by_cases h5 : fiS H U a R = U.length
    · have := pt_e (H := H) (U := U) (k := fiS H U a R) (by omega)
      omega
    · by_cases h6 : U.getD (fiS H U a R) 0 = 32
      · have := pt_b (H := H) (U := U) (k := fiS H U a R) (by rw [h6]; decide)
        omega
      · omega
/-- rows of lines that stop beyond the row: none -/
theorem fiL_n {U : List Int} {R1 R2 n a : Nat} (h : U.length ≤ a) : fiL H U R1 R2 n a = [] := by
  cases n with
  | zero => rfl
  | succ n =>
    show (if U.length ≤ a then _ else _) = _
    rw [if_pos h]
theorem fiL_s {U : List Int} {R1 R2 n a : Nat} (h : a < U.length) : fiL H U R1 R2 (n + 1) a = (a, fiS H U a (if a = 0 then R1 else R2), fiP H U a (if a = 0 then R1 else R2)) :: fiL H U R1 R2 n (nxA U (fiS H U a (if a = 0 then R1 else R2))) := by
  show (if U.length ≤ a then _ else _) = _
  rw [if_neg (by omega)]
theorem fir_84 {had l10 : Int} {S : Nat → Nat} {B : Nat → Bool} {X : Nat → Nat → List (Nat × Nat × Bool)} {I : Nat → Prop} (hX0 : ∀ n a, (pkL L).length ≤ a → X n a = []) (hX1 : ∀ n a, a < (pkL L).length → X (n + 1) a = (a, S a, B a) :: X n (nxA (pkL L) (S a))) (hfit : ∀ n a, (n = 0 ↔ a = 0) → a < (pkL L).length → I a → ((S a - a : Nat) : Int) + bZ (B a) ≤ rmO W (prW P hg n)) (hI : ∀ a, a < (pkL L).length → I a → nxA (pkL L) (S a) < (pkL L).length → I (nxA (pkL L) (S a))) (hok : okK L) (hu : u + L.length ≤ 139000) (hE : EnD L en) (hG0 : hoG σ0 254 255 u L) (hP0 : AhR σ0 P) (hP6 : P.length ≤ 64) (hh : 0 ≤ hg ∧ hg ≤ 100) (hW0 : mV σ0 275 0 = W) (hW : 12 ≤ W ∧ W ≤ 80) (hJ : 0 ≤ J ∧ J ≤ 3) (ho : mV σ0 246 29 = o) (hc : c ≤ 0) {fw : Bool} (hhad : 0 ≤ had ∧ had ≤ 1500) (hstep : ∀ (k n n0 : Nat) (σ : MS) (Q : MQ9), k < en → sbl (L.getD k 0) = false → n ≤ 70000 → (n = 0 ↔ gP L k = 0) → I (gP L k) → FrFi n0 σ0 σ → (∀ b nx σ1, FrZ [] [146, 147, 148] σ σ1 → mV σ1 246 146 = ((u + b : Nat) : Int) → mV σ1 246 147 = ((u + nx : Nat) : Int) → mV σ1 246 148 = bZ (B (gP L k)) → FiR L en k b nx (S (gP L k)) → R_filled_239 (P.length : Int) hg J ((u + en : Nat) : Int) had l10 (n : Int) (prW P hg n) (rmO W (prW P hg n)) ((u + k : Nat) : Int) σ1 Q) → R_filled_138 (P.length : Int) hg J ((u + en : Nat) : Int) had l10 ((u + k : Nat) : Int) (n : Int) (prW P hg n) (rmO W (prW P hg n)) σ Q) : ∀ (fuel k n : Nat) (σ : MS) (G : GS9) (n0 : Nat) (Q : MQ9), k ≤ en → (k = en ∨ sbl (L.getD k 0) = false) → (pkL L).length ≤ gP L k + fuel → n + fuel ≤ 70000 → (n = 0 ↔ gP L k = 0) → (gP L k < (pkL L).length → I (gP L k)) → n0 ≤ G.2.1.length → FrFi n0 σ0 σ → RxG σ G → GB9 c G → (∀ G' σ', gAll o fw (prA P hg J W (pkL L) n (X fuel (gP L k))) G = .inl G' → RxG σ' G' → FrFi G.2.1.length σ σ' → LbI σ' G.2.1.length u L (X fuel (gP L k)) → Q (.inl (some ((G'.2.1.length : Int) - had))) σ') → (∀ e σ' (x : Int), Rg x → gAll o fw (prA P hg J W (pkL L) n (X fuel (gP L k))) G = .inr e → TxR σ' e → FrFi G.2.1.length σ σ' → Q (.inl (some x)) σ') → R_filled_84 (P.length : Int) hg J ((u + en : Nat) : Int) had l10 ((u + k : Nat) : Int) (n : Int) σ Q := by
  have hl := hE.1
  have hlen := hE.len
  intro fuel
  induction fuel with
  | zero =>
    intro k n σ G n0 Q hk hkb hfu hnf hnk hIk hn0 hf hG hB hy hno
    have hke : k = en := by
      by_cases h : k = en
      · exact h
      · have := (gP_at (L := L) (k := k) (by omega) (hkb.resolve_left h)).2
        omega
    have e9 := hG.2.2.2.1
    have b3 := hB.2.2.1
    refine R_filled_84.i ⟨by unfold Rg; omega, fun _ => R_filled_287.i ⟨by rw [e9]; unfold Rg; omega, ?_⟩, fun h9 => absurd h9 (by omega)⟩
    rw [e9]
    rw [hX0 _ _ (by rw [hke]; omega)] at hy
    exact hy G σ rfl hG FrFi.rf (fun i hi => absurd hi (by
      show ¬ i < 0
      omega))
  | succ fuel ih =>
    intro k n σ G n0 Q hk hkb hfu hnf hnk hIk hn0 hf hG hB hy hno
    have e9 := hG.2.2.2.1
    have b3 := hB.2.2.1
    by_cases hke : k = en
    · refine R_filled_84.i ⟨by unfold Rg; omega, fun _ => R_filled_287.i ⟨by rw [e9]; unfold Rg; omega, ?_⟩, fun h9 => absurd h9 (by omega)⟩
      rw [e9]
      rw [hX0 _ _ (by rw [hke]; omega)] at hy
      exact hy G σ rfl hG FrFi.rf (fun i hi => absurd hi (by
        show ¬ i < 0
        omega))
    have hks : sbl (L.getD k 0) = false := hkb.resolve_left hke
    have hgk := (gP_at (L := L) (k := k) (by omega) hks).2
    have e28 := hG.1
    have hWs : mV σ 275 0 = W := (hf.1.z (by decide) (by decide)).trans hW0
    have hGs : hoG σ 254 255 u L := hG0.cg (fun k _ _ => ⟨hf.1.z (by decide) (by decide), hf.1.z (by decide) (by decide)⟩)
    have hPs : AhR σ P := hP0.cg (hf.1.f (by decide) (by decide)) (fun k => hf.1.z (by decide) (by decide))
    have hos : mV σ 246 29 = o := (hf.1.f (by decide) (by decide)).trans ho
    rw [hX1 _ _ hgk] at hy hno
    have rb : 4 ≤ rmO W (prW P hg n) ∧ rmO W (prW P hg n) ≤ 80 := by
      unfold rmO prW
      split <;> omega
    have s110 : ∀ s0 : Int, s0 = prW P hg n → R_filled_110 (P.length : Int) hg J ((u + en : Nat) : Int) had l10 ((u + k : Nat) : Int) (n : Int) s0 σ Q := fun s0 hs0 => by
      rw [hs0]
      have s138 : R_filled_138 (P.length : Int) hg J ((u + en : Nat) : Int) had l10 ((u + k : Nat) : Int) (n : Int) (prW P hg n) (rmO W (prW P hg n)) σ Q := by
        refine hstep k n n0 σ Q (by omega) hks (by omega) hnk (hIk hgk) hf (fun b nx σ1 f1 v6 v7 v8 hfi => ?_)
        obtain ⟨⟨i1, i2, i3⟩, i4, i5, i6, i7, i8⟩ := hfi
        have fit := hfit n (gP L k) hnk hgk (hIk hgk)
        have hmono := gP_mono (L := L) (j := b) (k := nx) i2 (by omega)
        have hnx : nx = en ∨ nx < en := by omega
        have lsv : (X fuel (nxA (pkL L) (S (gP L k)))).isEmpty = decide (en ≤ nx) := by
          rw [← i5]
          by_cases h : nx = en
          · rw [hX0 _ _ (by rw [h]; omega), decide_eq_true (by omega)]
            rfl
          · have h2 := (gP_at (L := L) (k := nx) (by omega) (i7.resolve_left h)).2
            have m1 := gP_mono (L := L) (j := k + 1) (k := nx) (by omega) (by omega)
            have m2 := (gP_n (L := L) (k := k) (by omega) hks).1
            rw [decide_eq_false (by omega)]
            cases fuel with
            | zero => omega
            | succ f =>
              rw [hX1 _ _ h2]
              rfl
        have hsb := i4
        rw [← i4] at fit hy hno
        have e146 : mV σ1 246 146 = ((u + b : Nat) : Int) := v6
        have s270 : ∀ s7 : Int, s7 = bZ (decide (en ≤ nx)) → R_filled_270 (P.length : Int) hg J ((u + en : Nat) : Int) had l10 (n : Int) ((u + k : Nat) : Int) ((u + b : Nat) : Int) (bZ (B (gP L k))) (n : Int) (prW P hg n) (rmO W (prW P hg n)) s7 σ1 Q := fun s7 hs7 => by
          rw [hs7]
          refine R_filled_270.i ?_
          refine R_laid.p (fw := fw) hok hu (hGs.cg (fun k _ _ => ⟨f1.z (by simp) (by decide), f1.z (by simp) (by decide)⟩)) (by omega) (by omega) i1 hks i6 (hPs.cg (f1.f (by decide) (by simp)) (fun k => f1.z (by simp) (by decide))) hP6 hh hW hJ fit (hG.f f1) hB ((f1.f (by decide) (by simp)).trans hos) (fun G1 σ2 q1 q2 q3 q4 => ?_) (fun e σ2 q1 q2 q9 q3 => ?_)
          · show R_filled_84 (P.length : Int) hg J ((u + en : Nat) : Int) had l10 (mV σ2 246 147) ((n : Int) + 1) σ2 Q
            have f12 : FrFi G.2.1.length σ σ2 := (FrFi.f f1).tr (Nat.le_refl _) (FrFi.l q3)
            have e7 : mV σ2 246 147 = ((u + nx : Nat) : Int) := (q3.1.f (by decide) (by decide)).trans v7
            have gb := gFin_b hB q1
            have l1 : G1.2.1.length = G.2.1.length + 1 := by
              rw [gb.2.1]
              exact List.length_append ..
            rw [e7, show (n : Int) + 1 = ((n + 1 : Nat) : Int) by omega]
            refine ih nx (n + 1) σ2 G1 n0 Q i3 i7 (by
              have := gP_mono (L := L) (j := k + 1) (k := nx) (by omega) (by omega)
              have h2 := (gP_n (L := L) (k := k) (by omega) hks).1
              omega) (by omega) ⟨fun h => absurd h (by omega), fun h => by
              have := gP_mono (L := L) (j := k + 1) (k := nx) (by omega) (by omega)
              have h2 := (gP_n (L := L) (k := k) (by omega) hks).1
              omega⟩ (fun h => by
              rw [i5] at h ⊢
              exact hI _ hgk (hIk hgk) h) (by omega) (hf.tr hn0 f12) q2 (gb.1.mo (by omega)) (fun G2 σ3 w1 w2 w3 w4 => ?_) (fun e σ3 x hx w1 w2 w3 => ?_)
            · refine hy G2 σ3 ?_ w2 (f12.tr (by omega) w3) ?_
              · show gBd (gFin o (prL P hg J W _ (pkL L) n (gP L k, gP L b, B (gP L k))) (2 * bZ (B (gP L k))) fw G) _ = _
                rw [i4, lsv, ← i4, q1]
                rw [i5, ← i4] at w1
                exact w1
              · intro i hi
                have hi : i < _ + 1 := hi
                rw [show nxA (pkL L) (gP L b) = gP L nx by rw [i4]; exact i5.symm] at hi ⊢
                cases i with
                | zero =>
                  refine ⟨⟨b, by omega, by omega, i6, ?_, rfl⟩, ?_, ?_⟩
                  · rw [Nat.add_zero, w3.2 _ _ (by decide) (by omega)]
                    exact q4.2.1
                  · rw [Nat.add_zero, w3.2 _ _ (by decide) (by omega)]
                    exact q4.2.2.1
                  · rw [Nat.add_zero, w3.2 _ _ (by decide) (by omega)]
                    exact q4.2.2.2
                | succ i =>
                  have := w4 i (by omega)
                  rw [l1, show G.2.1.length + 1 + i = G.2.1.length + (i + 1) by omega] at this
                  exact this
            · refine hno e σ3 x hx ?_ w2 (f12.tr (by omega) w3)
              show gBd (gFin o (prL P hg J W _ (pkL L) n (gP L k, gP L b, B (gP L k))) (2 * bZ (B (gP L k))) fw G) _ = _
              rw [i4, lsv, ← i4, q1]
              rw [i5, ← i4] at w1
              exact w1
          · show R_filled_84 (P.length : Int) hg J ((u + en : Nat) : Int) had l10 (mV σ2 246 147) ((n : Int) + 1) σ2 Q
            have f12 : FrFi G.2.1.length σ σ2 := (FrFi.f f1).tr (Nat.le_refl _) (FrFi.l q3)
            have e7 : mV σ2 246 147 = ((u + nx : Nat) : Int) := (q3.1.f (by decide) (by decide)).trans v7
            have rr : gAll o fw (prA P hg J W (pkL L) n ((gP L k, gP L b, B (gP L k)) :: X fuel (nxA (pkL L) (gP L b)))) G = .inr e := by
              show gBd (gFin o (prL P hg J W _ (pkL L) n (gP L k, gP L b, B (gP L k))) (2 * bZ (B (gP L k))) fw G) _ = _
              rw [i4, lsv, ← i4, q1]
              rfl
            have ek : ¬ e.1 = 0 := by
              unfold gFin at q1
              by_cases h15 : 1500 ≤ G.2.1.length
              · rw [if_pos h15] at q1
                rw [← Sum.inr.inj q1]
                show ¬ (9 : Int) = 0
                decide
              rw [if_neg h15] at q1
              by_cases h8 : 60000 < G.1.1 + (20 + ((prL P hg J W (decide (en ≤ nx)) (pkL L) n (gP L k, gP L b, B (gP L k))).length : Int)) ∨ 400000 < G.1.2 + (20 + ((prL P hg J W (decide (en ≤ nx)) (pkL L) n (gP L k, gP L b, B (gP L k))).length : Int))
              · rw [gSp_n h8] at q1
                rw [← Sum.inr.inj q1]
                show ¬ (8 : Int) = 0
                decide
              · rw [gSp_y h8] at q1
                exact absurd q1 (by simp [gBd])
            have i99 : Rg (mV σ2 246 99 - had) := by
              rw [q9]
              unfold Rg
              omega
            have fin : R_filled_287 had σ2 Q := R_filled_287.i ⟨i99, hno e σ2 _ i99 rr q2 f12⟩
            rw [e7]
            exact R_filled_84.i ⟨by unfold Rg; omega, fun _ => fin, fun _ => ⟨fun _ => fin, fun h => absurd (q2.1.symm.trans h) ek⟩⟩
        refine R_filled_239.i ⟨by unfold Rg; omega, ?_, ?_⟩
        · rw [v6, v7, v8]
          exact fun h => s270 0 (by rw [decide_eq_false (by omega)]; rfl)
        · rw [v6, v7, v8]
          exact fun h => s270 1 (by rw [decide_eq_true (by omega)]; rfl)
      refine R_filled_110.i ⟨by decide, by decide, ?_⟩
      rw [hWs]
      have hr : rmO W (prW P hg n) = max 4 (W - prW P hg n) := rfl
      have pw : 0 ≤ prW P hg n ∧ prW P hg n ≤ 100 := by
        unfold prW
        split <;> omega
      refine ⟨by unfold Rg; omega, fun h9 => ⟨by decide, by decide, ?_⟩, fun h9 => ?_⟩
      · rw [show W - prW P hg n = rmO W (prW P hg n) by omega]
        exact s138
      · rw [show (4 : Int) = rmO W (prW P hg n) by omega]
        exact s138
    refine R_filled_84.i ⟨by unfold Rg; omega, fun h9 => absurd h9 (by omega), fun _ => ⟨fun h9 => absurd e28 h9, fun _ => ⟨by unfold Rg; omega, fun h9 => s110 _ ?_, fun h9 => s110 _ ?_⟩⟩⟩
    · unfold prW
      rw [if_neg (by omega)]
    · unfold prW
      rw [if_pos (by omega)]
theorem fil_11 (hok : okK L) (hu : u + L.length ≤ 139000) (hG : hoG σ 254 255 u L) {l3 l4 l5 l6 : Int} {bg : Nat} (hbg : bg ≤ L.length) (hb0 : ∀ j, j < bg → sbl (L.getD j 0) = true) (hbs : bg = L.length ∨ sbl (L.getD bg 0) = false) (hq : ∀ en, EnD L en → (bg < L.length → bg < en) → (bg = L.length → en = 0) → R_filled_37 l3 l4 l5 l6 ((u + bg : Nat) : Int) ((u + max bg en : Nat) : Int) σ Q) : ∀ (n e : Nat), e = bg + n → e ≤ L.length → (∀ j, e ≤ j → j < L.length → sbl (L.getD j 0) = true) → R_filled_11 l3 l4 l5 l6 ((u + bg : Nat) : Int) ((u + e : Nat) : Int) σ Q := by
  intro n
  induction n with
  | zero =>
    intro e he hel hbl
    have hbL : bg = L.length := by
      rcases hbs with h | h
      · exact h
      · by_cases h2 : bg = L.length
        · exact h2
        · rw [hbl bg (by omega) (by omega)] at h
          exact absurd h (by decide)
    have := hq 0 ⟨by omega, Or.inl rfl, fun j _ h => hb0 j (by omega)⟩ (by omega) (fun _ => rfl)
    rw [show max bg 0 = e by omega] at this
    exact R_filled_11.i ⟨by unfold Rg; omega, fun _ => this, fun h9 => absurd h9 (by omega)⟩
  | succ n ih =>
    intro e he hel hbl
    have okc := hok.gd (i := e - 1) (by omega)
    refine R_filled_11.i ⟨by unfold Rg; omega, fun h9 => absurd h9 (by omega), fun _ => ?_⟩
    rw [show ((u + e : Nat) : Int) - 1 = ((u + (e - 1) : Nat) : Int) by omega]
    refine R_at.g hG hu (by omega) ⟨fun h9 => ?_, fun h9 => ?_⟩
    · have hs : sbl (L.getD (e - 1) 0) = false := by
        rw [← Bool.not_eq_true]
        exact fun h => h9 ((rd_32 okc).mpr h)
      have := hq e ⟨hel, Or.inr hs, hbl⟩ (by omega) (by omega)
      rw [show max bg e = e by omega] at this
      exact this
    · rw [show ((u + e : Nat) : Int) + (-1) = ((u + (e - 1) : Nat) : Int) by omega]
      refine ih (e - 1) (by omega) (by omega) (fun j x y => ?_)
      by_cases h : j = e - 1
      · rw [h]
        exact (rd_32 okc).mp h9
      · exact hbl j (by omega) y
theorem fil_75z {G : GS9} {fw : Bool} (hok : okK L) (hL6 : L.length ≤ 69000) (hu : u + L.length ≤ 139000) (hG0 : hoG σ 254 255 u L) (hpt0 : ∀ j, j < L.length → mV σ 256 (u + j) = ptD H L j) (hP0 : AhR σ P) (hP6 : P.length ≤ 64) (hh : 0 ≤ hg ∧ hg ≤ 100) (hW0 : mV σ 275 0 = W) (hW : 12 ≤ W ∧ W ≤ 80) (hJ : 0 ≤ J ∧ J ≤ 3) (ho : mV σ 246 29 = o) (hc : c ≤ 0) (hG : RxG σ G) (hB : GB9 c G) {bg : Nat} (hE : EnD L en) (hbl : bg ≤ L.length) (h0 : ∀ j, j < bg → sbl (L.getD j 0) = true) (hs : bg = L.length ∨ sbl (L.getD bg 0) = false) (h1 : bg < L.length → bg < en) (h2 : bg = L.length → en = 0) (hy : ∀ G' σ', gAll o fw (prA P hg J W (pkL L) 0 (fiL H (pkL L) (rmO W (P.length : Int)).toNat (rmO W hg).toNat (pkL L).length 0)) G = .inl G' → RxG σ' G' → FrFi G.2.1.length σ σ' → LbI σ' G.2.1.length u L (fiL H (pkL L) (rmO W (P.length : Int)).toNat (rmO W hg).toNat (pkL L).length 0) → Q (.inl (some ((G'.2.1.length : Int) - (G.2.1.length : Int)))) σ') (hno : ∀ e σ' (x : Int), Rg x → gAll o fw (prA P hg J W (pkL L) 0 (fiL H (pkL L) (rmO W (P.length : Int)).toNat (rmO W hg).toNat (pkL L).length 0)) G = .inr e → TxR σ' e → FrFi G.2.1.length σ σ' → Q (.inl (some x)) σ') : R_filled_75 (P.length : Int) hg J ((u + bg : Nat) : Int) ((u + max bg en : Nat) : Int) (G.2.1.length : Int) 0 σ Q := by
  have e9 := hG.2.2.2.1
  have b3 := hB.2.2.1
  have hlen := hE.len
  have gz := (gP_z (L := L) (n := bg) hbl h0).1
  have gpl : (pkL L).length ≤ L.length := by
    rw [hlen]
    exact Nat.le_trans (gP_le hE.1) hE.1
  refine R_filled_75.i ?_
  by_cases hbL : bg = L.length
  · have hen := h2 hbL
    rw [show max bg en = bg by omega]
    have hU : (pkL L).length = 0 := by
      rw [hlen, hen]
      rfl
    rw [fiL_n (by omega)] at hy
    refine R_filled_84.i ⟨by unfold Rg; omega, fun _ => R_filled_287.i ⟨by rw [e9]; unfold Rg; omega, ?_⟩, fun h9 => absurd h9 (by omega)⟩
    rw [e9]
    exact hy G σ rfl hG FrFi.rf (fun i hi => absurd hi (by
      show ¬ i < 0
      omega))
  · have hben := h1 (by omega)
    rw [show max bg en = en by omega]
    have hRn : ∀ (n a : Nat), (n = 0 ↔ a = 0) → (if a = 0 then (rmO W (P.length : Int)).toNat else (rmO W hg).toNat) = (rmO W (prW P hg n)).toNat := fun n a hna => by
      unfold prW
      by_cases h : n = 0
      · rw [if_pos h, if_pos (hna.mp h)]
      · rw [if_neg h, if_neg (fun h9 => h (hna.mpr h9))]
    have rb : ∀ n, 4 ≤ rmO W (prW P hg n) ∧ rmO W (prW P hg n) ≤ 80 := fun n => by
      unfold rmO prW
      split <;> omega
    have := fir_84 (fw := fw) (c := c) (had := (G.2.1.length : Int)) (l10 := 0) (X := fiL H (pkL L) (rmO W (P.length : Int)).toNat (rmO W hg).toNat) (I := fun _ => True) (S := fun a => fiS H (pkL L) a (if a = 0 then (rmO W (P.length : Int)).toNat else (rmO W hg).toNat)) (B := fun a => fiP H (pkL L) a (if a = 0 then (rmO W (P.length : Int)).toNat else (rmO W hg).toNat)) (fun n a h => fiL_n h) (fun n a h => fiL_s h) (fun n a hna ha _ => by
      show ((fiS H (pkL L) a (if a = 0 then (rmO W (P.length : Int)).toNat else (rmO W hg).toNat) - a : Nat) : Int) + bZ (fiP H (pkL L) a (if a = 0 then (rmO W (P.length : Int)).toNat else (rmO W hg).toNat)) ≤ _
      rw [hRn n a hna]
      have := fiP_fit (H := H) (U := pkL L) (a := a) (R := (rmO W (prW P hg n)).toNat) (by have := rb n; omega)
      have := rb n
      omega) (fun _ _ _ _ => trivial) hok hu hE hG0 hP0 hP6 hh hW0 hW hJ ho hc (by omega) (fun k n n0 σ1 Q1 hk hks hn7 hnk _ hf hq1 => by
      have r9 := rb n
      have hz : rmO W (prW P hg n) = (((rmO W (prW P hg n)).toNat : Nat) : Int) := by omega
      refine R_filled_138.i ⟨fun _ => ?_, fun h9 => absurd rfl h9⟩
      rw [hz]
      refine R_fills.p (H := H) hok hu hE hk hks (by omega) (hG0.cg (fun k _ _ => ⟨hf.1.z (by decide) (by decide), hf.1.z (by decide) (by decide)⟩)) (fun j hj hjs => (hf.1.z (by decide) (by decide)).trans ((hpt0 j (by have := hE.1; omega)).trans (pt_pk (by have := hE.1; omega) hjs).symm)) (fun b nx σ2 f2 v6 v7 v8 hfi => ?_)
      have := hq1 b nx σ2 f2 v6 v7
      rw [hRn n _ hnk] at this
      rw [← hz]
      exact this v8 hfi) (pkL L).length bg 0 σ G G.2.1.length Q (by omega) (Or.inr (hs.resolve_left hbL)) (by omega) (by omega) ⟨fun _ => gz, fun _ => rfl⟩ (fun _ => trivial) (Nat.le_refl _) FrFi.rf hG hB
    rw [gz] at this
    exact this hy hno
/-- a row is filled by way 0 -/
theorem R_filled.p {way : Int} {G : GS9} {fw : Bool} (hway : Rg way ∧ ¬ way = 1) (hok : okK L) (hL6 : L.length ≤ 69000) (hu : u + L.length ≤ 139000) (hG0 : hoG σ 254 255 u L) (hpt0 : ∀ j, j < L.length → mV σ 256 (u + j) = ptD H L j) (hP0 : AhR σ P) (hP6 : P.length ≤ 64) (hh : 0 ≤ hg ∧ hg ≤ 100) (hW0 : mV σ 275 0 = W) (hW : 12 ≤ W ∧ W ≤ 80) (hJ : 0 ≤ J ∧ J ≤ 3) (ho : mV σ 246 29 = o) (hc : c ≤ 0) (hG : RxG σ G) (hB : GB9 c G) (hy : ∀ G' σ', gAll o fw (prA P hg J W (pkL L) 0 (fiL H (pkL L) (rmO W (P.length : Int)).toNat (rmO W hg).toNat (pkL L).length 0)) G = .inl G' → RxG σ' G' → FrFi G.2.1.length σ σ' → LbI σ' G.2.1.length u L (fiL H (pkL L) (rmO W (P.length : Int)).toNat (rmO W hg).toNat (pkL L).length 0) → Q (.inl (some ((G'.2.1.length : Int) - (G.2.1.length : Int)))) σ') (hno : ∀ e σ' (x : Int), Rg x → gAll o fw (prA P hg J W (pkL L) 0 (fiL H (pkL L) (rmO W (P.length : Int)).toNat (rmO W hg).toNat (pkL L).length 0)) G = .inr e → TxR σ' e → FrFi G.2.1.length σ σ' → Q (.inl (some x)) σ') : R_filled (u : Int) ((u + L.length : Nat) : Int) way (P.length : Int) hg J σ Q := by
  have e9 := hG.2.2.2.1
  have key := R_behindBlanks.p (Q := kI (thQ Q) fun r1 σ1 => R_filled_11 way (P.length : Int) hg J r1 ((u + L.length : Nat) : Int) σ1 Q) (k := 0) hok hu hG0 (Nat.le_refl _) (Nat.zero_le _) (fun bg _ hbl h0 hs => by
    show R_filled_11 way (P.length : Int) hg J ((u + bg : Nat) : Int) ((u + L.length : Nat) : Int) σ Q
    refine fil_11 hok hu hG0 hbl (fun j hj => h0 j (Nat.zero_le _) hj) hs (fun en hE h1 h2 => ?_) (L.length - bg) L.length (by omega) (Nat.le_refl _) (fun j x y => by omega)
    refine R_filled_37.i ⟨hway.1, fun _ => R_filled_74.i ?_, fun h9 => absurd h9 hway.2⟩
    rw [e9]
    exact fil_75z hok hL6 hu hG0 hpt0 hP0 hP6 hh hW0 hW hJ ho hc hG hB hE hbl (fun j hj => h0 j (Nat.zero_le _) hj) hs h1 h2 hy hno)
  rw [Nat.add_zero] at key
  exact R_filled.i key
end
