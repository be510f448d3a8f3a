/-! RAW LINES: the document, the class -/
def rwC (T : List Int) (W : Int) (i : Nat) : List Int := sgT T (((mlL T).getD i (0, 0)).1 + 1) (min ((mlL T).getD i (0, 0)).2 (((mlL T).getD i (0, 0)).1 + 1 + W.toNat))
def rwL (T : List Int) (W : Int) : Nat → Nat → List (List Int × Int)
  | 0, _ => []
  | n + 1, i => (rwC T W i, 0) :: rwL T W n (i + 1)
section
variable {σ σ0 : MS} {Q : MQ9} {T : List Int} {W o c9 : Int}
theorem rwC_l {i : Nat} (hi : i < (mlL T).length) (hW : 12 ≤ W ∧ W ≤ 80) : (rwC T W i).length ≤ 80 := by
  have p := (ml_p (T := T) (i := i) hi).1
  unfold rwC
  rw [sgT_l (by have := p.2.1; omega)]
  omega
theorem raw_18 {nx : Nat} (hT4 : T.length ≤ 4000) (hnx : nx ≤ (mlL T).length) (hW : 12 ≤ W ∧ W ≤ 80) (ho : Rg o) (hne : ∀ i, i < nx → kdL T i = 4 → ((mlL T).getD i (0, 0)).1 + 1 ≤ ((mlL T).getD i (0, 0)).2) (hc : c9 ≤ 1000) : ∀ (n i : Nat) (σ : MS) (G : GS9), i + n = nx → (∀ j, i ≤ j → j < nx → kdL T j = 4) → mX σ 3 = T → LnM σ T (mlL T) → mV σ 24 0 = W → mV σ 127 16 = o → GaC σ G [] → GB9 c9 G → (∀ G' σ', gAll o true (rwL T W n i) G = .inl G' → GaC σ' G' [] → FrGa σ σ' → Q (.inl none) σ') → (∀ e σ', gAll o true (rwL T W n i) G = .inr e → TxF σ' e → FrGa σ σ' → Q (.inr (exN 0)) σ') → Setter_raw_18 (nx : Int) (i : Int) σ Q := by
  have ml := mlF_l (T := T) T.length 0
  have hl : (mlL T).length ≤ 4000 := Nat.le_trans ml hT4
  intro n
  induction n with
  | zero =>
    intro i σ G hi hk hT hL hWv hov hG hB hy hn
    exact Setter_raw_18.i ⟨by unfold Rg; omega, by unfold Rg; omega, fun _ => hy G σ rfl hG FrGa.rf, fun h => absurd h (by omega)⟩
  | succ n ih =>
    intro i σ G hi hk hT hL hWv hov hG hB hy hn
    have hil : i < (mlL T).length := by omega
    have p := (ml_p (T := T) (i := i) hil).1
    have p2 := p.2.1
    have hn1 := hne i (by omega) (hk i (Nat.le_refl _) (by omega))
    have r1 : rgt (mX σ 200) (i : Int) = (((mlL T).getD i (0, 0)).1 : Int) := mlA_at hil _ hL.1
    have r2 : rgt (mX σ 202) (i : Int) = (((mlL T).getD i (0, 0)).2 : Int) := mlA_at hil _ hL.2.1
    have ln : LnC σ 3 0 T := ⟨by decide, by omega, fun t ht => by
      rw [hT, show ((0 : Nat) : Int) + (t : Int) = (t : Int) by omega]
      exact rgt_n ht⟩
    have pe := ln.pour (p := ((mlL T).getD i (0, 0)).1 + 1) (b := min ((mlL T).getD i (0, 0)).2 (((mlL T).getD i (0, 0)).1 + 1 + W.toNat)) (by omega) (by omega)
    rw [Nat.zero_add] at pe
    have rl := rwC_l (T := T) (W := W) hil hW
    have gl := hG.len
    have b4 := hB.2.2.2.1
    have b1 := hB.1
    refine Setter_raw_18.i ⟨by unfold Rg; omega, by unfold Rg; omega, fun h => absurd h (by omega), fun _ => ⟨by unfold Rg; omega, by unfold Rg; omega, told_c (k := 0) (by decide) hWv ?_⟩⟩
    show Rg (((rgt (mX σ 200) (i : Int)) + 1) + W) ∧ _
    rw [r1, r2, hov, show ((min (((mlL T).getD i (0, 0)).2 : Int) (((((mlL T).getD i (0, 0)).1 : Int) + 1) + W)) - ((((mlL T).getD i (0, 0)).1 : Int) + 1)).toNat = min ((mlL T).getD i (0, 0)).2 (((mlL T).getD i (0, 0)).1 + 1 + W.toNat) - (((mlL T).getD i (0, 0)).1 + 1) by omega, show (((mlL T).getD i (0, 0)).1 : Int) + 1 = ((((mlL T).getD i (0, 0)).1 + 1 : Nat) : Int) by omega, pe]
    have hG1 := hG.put (D := rwC T W i)
    rw [List.nil_append] at hG1
    have e0 : ∀ r, gAll o true (rwL T W (n + 1) i) G = r ↔ gBd (gFin o (rwC T W i) 0 true G) (gAll o true (rwL T W n (i + 1))) = r := fun r => Iff.rfl
    have f1 : FrGa σ (wX σ 130 (mX σ 130 ++ rwC T W i)) := FrGa.x (by decide)
    refine ⟨by unfold Rg; omega, by unfold Rg; omega, ?_, Galley_finish.c (fw := true) (d9 := c9) hG1 hB (by omega) hc ho (by decide) (fun G' σ' q1 q2 q3 q4 => ?_) (fun e σ' q1 q2 q3 => ?_)⟩
    · rw [gl, List.length_nil]
      omega
    · show Setter_raw_18 (nx : Int) ((i : Int) + 1) σ' Q
      have f2 := f1.tr q4
      rw [show (i : Int) + 1 = ((i + 1 : Nat) : Int) by omega]
      exact ih (i + 1) σ' G' (by omega) (fun j a c => hk j (by omega) c) ((f2.1 3 (by decide) (by decide) (by decide) (by decide) (by decide)).trans hT) ⟨(f2.1 200 (by decide) (by decide) (by decide) (by decide) (by decide)).trans hL.1, (f2.1 202 (by decide) (by decide) (by decide) (by decide) (by decide)).trans hL.2.1, (f2.1 204 (by decide) (by decide) (by decide) (by decide) (by decide)).trans hL.2.2⟩ ((f2.2.2 _ _ (by decide)).trans hWv) ((f2.2.2 _ _ (by decide)).trans hov) q2 (q3.mo (by omega)) (fun G2 σ2 w1 w2 w3 => hy G2 σ2 ((e0 _).mpr (by rw [q1]; exact w1)) w2 (f2.tr w3)) (fun e σ2 w1 w2 w3 => hn e σ2 ((e0 _).mpr (by rw [q1]; exact w1)) w2 (f2.tr w3))
    · exact hn e σ' ((e0 _).mpr (by rw [q1]; rfl)) q2 (f1.tr q3)
end
