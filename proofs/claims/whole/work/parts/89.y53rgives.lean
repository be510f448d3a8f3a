/-! THE REFERENCE WORKS TEXTS: what calls give -/
section
variable {σ σ0 σ1 σ2 : MS} {Q : MQ9} {g kt u c D Dm Dd nw n0 l0 k0 x0 j : Nat} {a : Bool} {E : TE} {O T : List Int} {X : RY9} {s s1 s2 : TS} {f w : List (List Int)} {call : Int} {A L P K : List Int} {x y p k : Int} {m m' : TM}
theorem RxS.wu {v : Int} (h : RxS X g kt c D a E O σ s) : RxS X g kt c D a E O (wU σ v) s := h
theorem UOk.wu {v : Int} {r : TR} (h : UOk Q X g kt c D a E O σ r) : UOk Q X g kt c D a E O (wU σ v) r := h.fr ⟨rfl, rfl, fun _ _ _ => rfl⟩
theorem RxE.wu {v : Int} (h : RxE σ E nw) : RxE (wU σ v) E nw := h
theorem mul_b {x y : Int} (hx : -9999 ≤ x ∧ x ≤ 9999) (hy : -9999 ≤ y ∧ y ≤ 9999) : -999999999 ≤ x * y ∧ x * y ≤ 999999999 := by
  have h1 := Int.natAbs_mul x y
  have h2 : x.natAbs * y.natAbs ≤ 9999 * 9999 := Nat.mul_le_mul (by omega) (by omega)
  omega
theorem R_gives.r (hk : 0 ≤ k ∧ k < 21) (hk15 : ¬ k = 15) (hE : EI E) (hRE : RxE σ E X.1) (hj : j ≤ 31) (hA : ∀ i, i < w.length → ArG σ (10 * j + i) kt (w.getD i [])) (hw : okM9 w) (hl : w.length = (anD.getD k.toNat 0).toNat) (hno : noM E a k = false) (hg : a = false → 0 < E.2.2.2 → g = 0) (hS : RxS X g kt c D a E O σ s) (hi1 : TI p 1 s) (hp : ((g + kt : Nat) : Int) ≤ p) (hq : UOk Q X g kt c D a E O σ (gvD E k w s)) : R_gives (Dd + 1) k (j : Int) call σ Q := by
  have hi : TI p 0 s := hi1.mo (Int.le_refl _) (by decide)
  have hB := hi.bd hp
  have hkt : kt ≤ 60100 := by
    have := hB.2.2
    have := hB.1
    omega
  have hy := hi.1.2.2.1
  have t0 : 10 * (j : Int) = ((10 * j + 0 : Nat) : Int) := by omega
  have t1 : 10 * (j : Int) + 1 = ((10 * j + 1 : Nat) : Int) := by omega
  have ok0 := hw.at 0
  have ok1 := hw.at 1
  have kR : Rg k := by unfold Rg; omega
  have f5 : ∀ {v : Int}, UOk Q X g kt c D a E O σ (tFl 5 s) → Q (.inl none) (wV (wU σ v) 246 28 5) := fun {v} h => POk.ns (by decide) hS.1 hS.2.1 hB (h.q hS)
  refine R_gives.i ⟨kR, fun d => ?_, fun d => ?_, fun d => ?_, fun d => ?_, fun d => ?_, fun d => ?_, fun d => ?_, fun d => ?_, fun d => ?_, fun d => ?_, fun d => ?_, fun d => ?_, fun d => ?_, fun d => ?_, fun d => ?_, fun d => ?_, fun d => absurd d hk15, fun d => ?_, fun d => ?_, fun d => ?_, trivial⟩
  · have hk9 : k = 19 ∨ k = 20 := by omega
    have hl1 : w.length = 1 := by rcases hk9 with rfl | rfl <;> exact hl
    have eq : gvD E k w s = gvR E k w s := by rcases hk9 with rfl | rfl <;> rfl
    rw [eq] at hq
    unfold gvR at hq
    have a0 := hA 0 (by omega)
    rw [t0]
    refine R_isKey.r (by omega) a0 hkt ok0 hS.1 (fun e => ⟨fun h9 => absurd h9 (by decide), fun _ => ⟨kR, fun h8 => R_gives_606.i ?_, fun h8 => R_gives_606.i ?_⟩⟩) (fun e => ⟨fun _ => ?_, fun h9 => absurd rfl h9⟩)
    · rw [if_pos e] at hq
      exact R_refers.r (k := k) hE hRE (by omega) (by rw [decide_eq_false (by omega)]; rfl) a0 ok0 e hS hi1 hp hq
    · rw [if_pos e] at hq
      exact R_refers.r (k := k) hE hRE (by omega) (by rw [decide_eq_true (by omega)]; rfl) a0 ok0 e hS hi1 hp hq
    · rw [if_neg (by rw [e]; decide)] at hq
      exact hS.fl (by decide) hB hq
  · subst d
    obtain ⟨u, e1, e2, e3, hG⟩ := hA 0 (by rw [hl]; decide)
    rw [t0]
    exact R_cases.r (by decide) (by omega) hG ok0 (by omega) e1 e2 hS.1 hS.2.1 hB (hq.q hS)
  · subst d
    obtain ⟨u, e1, e2, e3, hG⟩ := hA 0 (by rw [hl]; decide)
    rw [t0]
    exact R_cases.r (by decide) (by omega) hG ok0 (by omega) e1 e2 hS.1 hS.2.1 hB (hq.q hS)
  · subst d
    obtain ⟨u, e1, e2, e3, hG⟩ := hA 0 (by rw [hl]; decide)
    rw [t0]
    exact R_cases.r (by decide) (by omega) hG ok0 (by omega) e1 e2 hS.1 hS.2.1 hB (hq.q hS)
  · subst d
    have eq : gvD E 3 w s = if nuOk (w.getD 0 []) (-9999) 9999 = true then tPs (rcL 3 (nuX (w.getD 0 [])) (-1) (w.getD 1 [])) s else tFl 5 s := rfl
    rw [eq] at hq
    have a0 := hA 0 (by rw [hl]; decide)
    obtain ⟨u, e1, e2, e3, hG⟩ := hA 1 (by rw [hl]; decide)
    rw [t0]
    refine R_isNumber.r (by omega) a0 hkt ok0 (by decide) (by decide) hS.1 (fun e => ⟨fun h9 => absurd h9 (by decide), fun _ => ?_⟩) (fun e v => ⟨fun _ => ?_, fun h9 => absurd rfl h9⟩)
    · rw [if_pos e] at hq
      rw [show ((10 * j + 0 : Nat) : Int) + 1 = ((10 * j + 1 : Nat) : Int) by omega]
      exact R_rotated.r (nuOk_b e) (by omega) hG ok1 (by omega) e1 e2 hS.1.wu hS.2.1.wu hB (hq.q hS).wu
    · rw [if_neg (by rw [e]; decide)] at hq
      exact f5 hq
  · subst d
    have eq : gvD E 4 w s = tPs (w.getD 0 []).reverse s := rfl
    rw [eq] at hq
    obtain ⟨u, e1, e2, e3, hG⟩ := hA 0 (by rw [hl]; decide)
    rw [t0, Int.toNat_natCast, e2]
    exact ⟨by omega, by omega, R_gives_154.r (by omega) hG (by omega) e1 hS.1 hS.2.1 hB (hq.q hS)⟩
  · subst d
    have eq : gvD E 5 w s = if nuOk (w.getD 0 []) 0 50 = true then tPs (List.replicate (nuX (w.getD 0 [])).toNat (w.getD 1 [])).flatten s else tFl 5 s := rfl
    rw [eq] at hq
    have a0 := hA 0 (by rw [hl]; decide)
    obtain ⟨u, e1, e2, e3, hG⟩ := hA 1 (by rw [hl]; decide)
    rw [t0]
    refine R_isNumber.r (by omega) a0 hkt ok0 (by decide) (by decide) hS.1 (fun e => ⟨fun _ => ?_, fun h9 => absurd h9 (by decide)⟩) (fun e v => ⟨fun h9 => absurd rfl h9, fun _ => ?_⟩)
    · rw [if_pos e] at hq
      have b := nuOk_b e
      rw [show ((10 * j + 0 : Nat) : Int) + 1 = ((10 * j + 1 : Nat) : Int) by omega]
      show R_gives_221 (Dd + 1) ((10 * j + 1 : Nat) : Int) (nuX (w.getD 0 [])) _ Q
      rw [show nuX (w.getD 0 []) = (((nuX (w.getD 0 [])).toNat : Nat) : Int) by omega]
      exact R_gives_221.r (by omega) (by omega) _ _ s (by omega) hG e1 e2 hS.1.wu hS.2.1.wu hB (by rw [show (((nuX (w.getD 0 [])).toNat : Nat) : Int) = nuX (w.getD 0 []) by omega]; exact (hq.q hS).wu)
    · rw [if_neg (by rw [e]; decide)] at hq
      exact f5 hq
  · subst d
    have eq : gvD E 6 w s = if nuOk (w.getD 0 []) 0 9999 = true then (if nuOk (w.getD 1 []) 0 9999 = true then tPs (((w.getD 2 []).drop (nuX (w.getD 0 [])).toNat).take (nuX (w.getD 1 [])).toNat) s else tFl 5 s) else tFl 5 s := rfl
    rw [eq] at hq
    rw [t0]
    exact R_part.r (by omega) (hA 0 (by rw [hl]; decide)) (hA 1 (by rw [hl]; decide)) (hA 2 (by rw [hl]; decide)) hkt hw hS.1 hS.2.1 hB (hq.q hS)
  · subst d
    have eq : gvD E 7 w s = if nuOk (w.getD 0 []) (-9999) 9999 = true then tPs (nwD (nuX (w.getD 0 [])) (-1) false (w.getD 1 [])) s else tFl 5 s := rfl
    rw [eq] at hq
    have a0 := hA 0 (by rw [hl]; decide)
    have a1 := hA 1 (by rw [hl]; decide)
    rw [t0]
    refine R_isNumber.r (by omega) a0 hkt ok0 (by decide) (by decide) hS.1 (fun e => ⟨fun h9 => absurd h9 (by decide), fun _ => ?_⟩) (fun e v => ⟨fun _ => ?_, fun h9 => absurd rfl h9⟩)
    · rw [if_pos e] at hq
      rw [show ((10 * j + 0 : Nat) : Int) + 1 = ((10 * j + 1 : Nat) : Int) by omega]
      exact R_word.r (nuOk_b e) (by omega) a1.wu hkt ok1 hS.1.wu hS.2.1.wu hB (hq.q hS).wu
    · rw [if_neg (by rw [e]; decide)] at hq
      exact f5 hq
  · subst d
    have eq : gvD E 8 w s = tPn (wrN ((w.getD 0 []).length : Int) 1) s := rfl
    rw [eq] at hq
    obtain ⟨u, e1, e2, e3, hG⟩ := hA 0 (by rw [hl]; decide)
    rw [t0, Int.toNat_natCast, e1, e2, show ((u + (w.getD 0 []).length : Nat) : Int) - (u : Int) = ((w.getD 0 []).length : Int) by omega]
    exact ⟨by omega, by omega, by omega, by omega, by unfold Rg; omega, R_told.r (by omega) (by decide) (fun h => absurd h (by decide)) hS.1 hS.2.1 hB hy (hq.q hS)⟩
  · subst d
    have eq : gvD E 9 w s = tPn (wrN (plD (w.getD 0 []) (w.getD 1 [])) 1) s := rfl
    rw [eq] at hq
    have a0 := hA 0 (by rw [hl]; decide)
    have a1 := hA 1 (by rw [hl]; decide)
    obtain ⟨u, e1, e2, e3, hG⟩ := hA 1 (by rw [hl]; decide)
    rw [t1, t0]
    refine R_placeOf.r (by omega) (by omega) a0 a1 hkt ok0 ok1 ?_
    have b := plN_b (L := w.getD 0 []) (M := w.getD 1 []) ((w.getD 1 []).length + 1 - (w.getD 0 []).length) 0
    have b2 : -1 ≤ plD (w.getD 0 []) (w.getD 1 []) ∧ plD (w.getD 0 []) (w.getD 1 []) ≤ 70000 := by
      unfold plD
      omega
    exact R_told.r (by omega) (by decide) (fun h => absurd h (by decide)) hS.1 hS.2.1 hB hy (hq.q hS)
  · subst d
    have eq : gvD E 10 w s = if nuOk (w.getD 0 []) (-9999) 9999 = true ∧ nuOk (w.getD 1 []) (-9999) 9999 = true then tPn (wrN (nuX (w.getD 0 []) + nuX (w.getD 1 [])) 1) s else tFl 5 s := rfl
    rw [eq] at hq
    have a0 := hA 0 (by rw [hl]; decide)
    have a1 := hA 1 (by rw [hl]; decide)
    rw [t1, t0]
    refine R_isNumber.r (by omega) a0 hkt ok0 (by decide) (by decide) hS.1 (fun e => ⟨fun _ => ?_, fun h9 => absurd h9 (by decide)⟩) (fun e v => ⟨fun h9 => absurd rfl h9, fun _ => ?_⟩)
    · refine R_isNumber.r (by omega) a1.wu hkt ok1 (by decide) (by decide) hS.1.wu (fun e' => ⟨fun h9 => absurd h9 (by decide), fun _ => ⟨by decide, fun h9 => absurd rfl h9, fun _ => R_gives_402.i ?_⟩⟩) (fun e' v => ⟨fun _ => ?_, fun h9 => absurd rfl h9⟩)
      · rw [if_pos ⟨e, e'⟩] at hq
        have b := nuOk_b e
        have b' := nuOk_b e'
        exact R_told.r (n := nuX (w.getD 0 []) + nuX (w.getD 1 [])) (by omega) (by decide) (fun h => absurd h (by decide)) hS.1.wu.wu hS.2.1.wu.wu hB hy (hq.q hS).wu.wu
      · rw [if_neg (by rw [e']; simp)] at hq
        exact f5 hq
    · rw [if_neg (by rw [e]; simp)] at hq
      exact f5 hq
  · subst d
    have eq : gvD E 11 w s = if nuOk (w.getD 0 []) (-9999) 9999 = true ∧ nuOk (w.getD 1 []) (-9999) 9999 = true then tPn (wrN (nuX (w.getD 0 []) * nuX (w.getD 1 [])) 1) s else tFl 5 s := rfl
    rw [eq] at hq
    have a0 := hA 0 (by rw [hl]; decide)
    have a1 := hA 1 (by rw [hl]; decide)
    rw [t1, t0]
    refine R_isNumber.r (by omega) a0 hkt ok0 (by decide) (by decide) hS.1 (fun e => ⟨fun _ => ?_, fun h9 => absurd h9 (by decide)⟩) (fun e v => ⟨fun h9 => absurd rfl h9, fun _ => ?_⟩)
    · refine R_isNumber.r (by omega) a1.wu hkt ok1 (by decide) (by decide) hS.1.wu (fun e' => ⟨fun h9 => absurd h9 (by decide), fun _ => ⟨by decide, fun _ => R_gives_402.i ?_, fun h9 => absurd h9 (by decide)⟩⟩) (fun e' v => ⟨fun _ => ?_, fun h9 => absurd rfl h9⟩)
      · rw [if_pos ⟨e, e'⟩] at hq
        exact R_told.r (n := nuX (w.getD 0 []) * nuX (w.getD 1 [])) (mul_b (nuOk_b e) (nuOk_b e')) (by decide) (fun h => absurd h (by decide)) hS.1.wu.wu hS.2.1.wu.wu hB hy (hq.q hS).wu.wu
      · rw [if_neg (by rw [e']; simp)] at hq
        exact f5 hq
    · rw [if_neg (by rw [e]; simp)] at hq
      exact f5 hq
  · subst d
    have eq : gvD E 12 w s = if nuOk (w.getD 0 []) (-9999) 9999 = true ∧ nuOk (w.getD 1 []) 1 5 = true then tPn (wrN (nuX (w.getD 0 [])) (nuX (w.getD 1 []))) s else tFl 5 s := rfl
    rw [eq] at hq
    have a0 := hA 0 (by rw [hl]; decide)
    have a1 := hA 1 (by rw [hl]; decide)
    rw [t1, t0]
    refine R_isNumber.r (by omega) a0 hkt ok0 (by decide) (by decide) hS.1 (fun e => ⟨fun _ => ?_, fun h9 => absurd h9 (by decide)⟩) (fun e v => ⟨fun h9 => absurd rfl h9, fun _ => ?_⟩)
    · refine R_isNumber.r (by omega) a1.wu hkt ok1 (by decide) (by decide) hS.1.wu (fun e' => ⟨fun h9 => absurd h9 (by decide), fun _ => ?_⟩) (fun e' v => ⟨fun _ => ?_, fun h9 => absurd rfl h9⟩)
      · rw [if_pos ⟨e, e'⟩] at hq
        have b := nuOk_b e
        exact R_told.r (n := nuX (w.getD 0 [])) (sys := nuX (w.getD 1 [])) (by omega) (nuOk_b e') (fun _ => by omega) hS.1.wu.wu hS.2.1.wu.wu hB hy (hq.q hS).wu.wu
      · rw [if_neg (by rw [e']; simp)] at hq
        exact f5 hq
    · rw [if_neg (by rw [e]; simp)] at hq
      exact f5 hq
  · subst d
    have eq : gvD E 13 w s = gv3 13 w s := rfl
    rw [eq] at hq
    unfold gv3 at hq
    have a0 := hA 0 (by rw [hl]; decide)
    have a1 := hA 1 (by rw [hl]; decide)
    rw [t1, t0]
    refine R_isKey.r (by omega) a0 hkt ok0 hS.1 (fun e => ⟨fun h9 => absurd h9 (by decide), fun _ => ?_⟩) (fun e => ⟨fun _ => ?_, fun h9 => absurd rfl h9⟩)
    · refine R_isNumber.r (by omega) a1 hkt ok1 (by decide) (by decide) hS.1 (fun e' => ⟨fun h9 => absurd h9 (by decide), fun _ => ⟨by decide, fun h9 => absurd rfl h9, fun _ => R_gives_490.i ?_⟩⟩) (fun e' v => ⟨fun _ => ?_, fun h9 => absurd rfl h9⟩)
      · rw [if_pos ⟨e, e'⟩] at hq
        exact R_counts.r (k := 13) (sys := nuX (w.getD 1 [])) (by omega) (by decide) (nuOk_b e') a0.wu ok0 e hS.wu hi hp hq.wu
      · rw [if_neg (by rw [e']; simp)] at hq
        exact f5 hq
    · rw [if_neg (by rw [e]; simp)] at hq
      exact hS.fl (by decide) hB hq
  · subst d
    have eq : gvD E 14 w s = gv3 14 w s := rfl
    rw [eq] at hq
    unfold gv3 at hq
    have a0 := hA 0 (by rw [hl]; decide)
    have a1 := hA 1 (by rw [hl]; decide)
    rw [t1, t0]
    refine R_isKey.r (by omega) a0 hkt ok0 hS.1 (fun e => ⟨fun h9 => absurd h9 (by decide), fun _ => ?_⟩) (fun e => ⟨fun _ => ?_, fun h9 => absurd rfl h9⟩)
    · refine R_isNumber.r (by omega) a1 hkt ok1 (by decide) (by decide) hS.1 (fun e' => ⟨fun h9 => absurd h9 (by decide), fun _ => ⟨by decide, fun _ => R_gives_490.i ?_, fun h9 => absurd h9 (by decide)⟩⟩) (fun e' v => ⟨fun _ => ?_, fun h9 => absurd rfl h9⟩)
      · rw [if_pos ⟨e, e'⟩] at hq
        exact R_counts.r (k := 14) (sys := nuX (w.getD 1 [])) (by omega) (by decide) (nuOk_b e') a0.wu ok0 e hS.wu hi hp hq.wu
      · rw [if_neg (by rw [e']; simp)] at hq
        exact f5 hq
    · rw [if_neg (by rw [e]; simp)] at hq
      exact hS.fl (by decide) hB hq
  · subst d
    have hn : a = false ∧ 2 ≤ E.2.2.2 := by
      unfold noM at hno
      revert hno
      cases a
      · simp
      · simp
    obtain ⟨rfl, hn⟩ := hn
    have g0 := hg rfl (by omega)
    subst g0
    have eq : gvD E 16 w s = gvN w s := rfl
    rw [eq] at hq
    unfold gvN at hq
    rw [t0]
    exact R_note.r (by omega) (by omega) (hA 0 (by rw [hl]; decide)) hS hi (by omega) hq
  · subst d
    have hn : a = false ∧ 1 ≤ E.2.2.2 := by
      unfold noM at hno
      revert hno
      cases a
      · simp
      · simp
    obtain ⟨rfl, hn⟩ := hn
    have g0 := hg rfl (by omega)
    subst g0
    have eq : gvD E 17 w s = gvL E w s := rfl
    rw [eq] at hq
    unfold gvL at hq
    have a0 := hA 0 (by rw [hl]; decide)
    rw [t0]
    refine R_isKey.r (by omega) a0 hkt ok0 hS.1 (fun e => ⟨fun h9 => absurd h9 (by decide), fun _ => ?_⟩) (fun e => ⟨fun _ => ?_, fun h9 => absurd rfl h9⟩)
    · rw [if_pos e] at hq
      exact R_label.r (by omega) hE hRE (by omega) a0 ok0 e hS hi (by omega) hq
    · rw [if_neg (by rw [e]; decide)] at hq
      exact hS.fl (by decide) hB hq
  · subst d
    have hn : a = false ∧ 1 ≤ E.2.2.2 := by
      unfold noM at hno
      revert hno
      cases a
      · simp
      · simp
    obtain ⟨rfl, hn⟩ := hn
    have g0 := hg rfl (by omega)
    subst g0
    have eq : gvD E 18 w s = gvI w s := rfl
    rw [eq] at hq
    unfold gvI at hq
    rw [t0]
    exact R_index.r (by omega) hRE (by omega) (hA 0 (by rw [hl]; decide)) ok0 hS hi (by omega) hq
end
