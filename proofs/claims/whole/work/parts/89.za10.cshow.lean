/-! A PROOF, the class: a page's head, all pages, tallies -/
section
variable {σ σ0 σ1 : MS} {Q : MQ9} {F : List Int} {Ls L : List GL9} {A : List Int} {sp : List (Int × Int)} {room : Int} {S : List Int} {g : HG9} {z c e : Nat}
/-- which heading stands in the head -/
theorem psh_22 {W : Int} (hz : z = 49 ∨ z = 163) (hgB : HdB g) (ht : shR σ (z + 13) g.1) (hlv : mX σ (z + 18) = g.2.1) (hps : mX σ (z + 22) = g.2.2) (he : e ≤ 7000) (hq : Proof_showHead_22 212 z (e : Int) W (hdK g.2.1 g.2.2 (e : Int) g.1.length) (g.1.length : Int) σ Q) : ∀ (n i : Nat), i + n = g.1.length → Proof_showHead_22 212 z (e : Int) W (hdK g.2.1 g.2.2 (e : Int) i) (i : Int) σ Q := by
  have im : isMarks z = true := by rcases hz with rfl | rfl <;> decide
  have ish : isShelf (z + 13) = true := by rcases hz with rfl | rfl <;> decide
  have i16 : isRow (z + 13 + 3) = true := by rcases hz with rfl | rfl <;> decide
  have i18 : isRow (z + 18) = true := by rcases hz with rfl | rfl <;> decide
  have i22 : isRow (z + 22) = true := by rcases hz with rfl | rfl <;> decide
  have l60 := hgB.1
  have lr : (mX σ (z + 13 + 3)).length = g.1.length := by rw [ht.2, enS_len]
  intro n
  induction n with
  | zero =>
    intro i hi
    have ei : i = g.1.length := by omega
    rw [ei]
    exact hq
  | succ n ih =>
    intro i hi
    have ri : Rg (i : Int) := by unfold Rg; omega
    have lt : i < g.1.length := by omega
    have nx : ∀ t : Int, t = hdK g.2.1 g.2.2 (e : Int) (i + 1) → Proof_showHead_64 212 z (e : Int) W t (i : Int) σ Q := fun t h9 => by
      refine Proof_showHead_64.i ?_
      rw [h9, show (i : Int) + 1 = ((i + 1 : Nat) : Int) by omega]
      exact ih (i + 1) (by omega)
    refine Proof_showHead_22.i (tB.i im (tB.i ish (Shelf_rows.i (tB.i ish (tB.i i16 ?_)))))
    show Rg (i : Int) ∧ (((mX σ (z + 13 + 3)).length : Int) ≤ (i : Int) → _) ∧ ((i : Int) < ((mX σ (z + 13 + 3)).length : Int) → _)
    rw [lr]
    refine ⟨ri, fun h => absurd h (by omega), fun _ => tB.i im (tB.i i18 (tB.i i18 ⟨ri, ?_⟩))⟩
    show (¬ rgt (mX σ (z + 18)) (i : Int) = 1 → _) ∧ (rgt (mX σ (z + 18)) (i : Int) = 1 → _)
    rw [hlv, rgt_n (by rw [hgB.2.1]; exact lt)]
    refine ⟨fun h => nx _ ?_, fun h => tB.i im (tB.i i22 (tB.i i22 ⟨ri, ?_⟩))⟩
    · show _ = if g.2.1.getD i 0 = 1 ∧ g.2.2.getD i 0 ≤ (e : Int) then (i : Int) else hdK g.2.1 g.2.2 (e : Int) i
      rw [if_neg (fun x => h x.1)]
    · show Rg (e : Int) ∧ ((e : Int) < rgt (mX σ (z + 22)) (i : Int) → _) ∧ (rgt (mX σ (z + 22)) (i : Int) ≤ (e : Int) → _)
      rw [hps, rgt_n (by rw [hgB.2.2]; exact lt)]
      refine ⟨by unfold Rg; omega, fun h9 => nx _ ?_, fun h9 => nx _ ?_⟩
      · show _ = if g.2.1.getD i 0 = 1 ∧ g.2.2.getD i 0 ≤ (e : Int) then (i : Int) else hdK g.2.1 g.2.2 (e : Int) i
        rw [if_neg (fun x => by omega)]
      · show _ = if g.2.1.getD i 0 = 1 ∧ g.2.2.getD i 0 ≤ (e : Int) then (i : Int) else hdK g.2.1 g.2.2 (e : Int) i
        rw [if_pos ⟨h, h9⟩]
/-- blanks, the number, an empty line -/
theorem psh_153 {T lb : List Int} {W : Int} (hW : 12 ≤ W ∧ W ≤ 80) (hT : T.length ≤ 80) (hlb : lb.length ≤ 40) (h226 : mX σ 226 = lb) (hl : L.length + 2 ≤ 6000) (hs : suM (L.map (·.1)) + 300 ≤ 90000) (hp : PoC σ L T) (h8 : mV σ 228 8 = puN L) (f0 : FrSw σ0 σ) (e0 : mX σ 220 = mX σ0 220) (hq : ∀ σ', SwC σ' (L ++ [(T ++ List.replicate (W - (lb.length : Int) - (T.length : Int)).toNat 32 ++ lb, 0, 0), ([], 0, 0)]) → FrSw σ0 σ' → mX σ' 220 = mX σ0 220 → Q (.inl none) σ') : Proof_showHead_153 212 W ((suM (L.map (·.1)) : Nat) : Int) σ Q := by
  have l14 : (mX σ 214).length = suM (L.map (·.1)) + T.length := by rw [hp.1, List.length_append, flt_l]
  have c14 : capOf 214 = 131072 := by decide
  refine Proof_showHead_153.i (tB.i (by decide) (tB.i (by decide) (tB.i (by decide) (tB.i (by decide) (tB.i (by decide) (tB.i (by decide) (tB.i (by decide) (tB.i (by decide) (tB.i (by decide) ?_)))))))))
  show Rg (W - ((mX σ 226).length : Int) - (((mX σ 214).length : Int) - ((suM (L.map (·.1)) : Nat) : Int))) ∧ (mX σ 214).length + (W - ((mX σ 226).length : Int) - (((mX σ 214).length : Int) - ((suM (L.map (·.1)) : Nat) : Int))).toNat ≤ capOf 214 ∧ Proof_showHead_189 212 (wX σ 214 (mX σ 214 ++ List.replicate (W - ((mX σ 226).length : Int) - (((mX σ 214).length : Int) - ((suM (L.map (·.1)) : Nat) : Int))).toNat 32)) Q
  rw [h226, l14, show W - (lb.length : Int) - (((suM (L.map (·.1)) + T.length : Nat) : Int) - ((suM (L.map (·.1)) : Nat) : Int)) = W - (lb.length : Int) - (T.length : Int) by omega]
  refine ⟨by unfold Rg; omega, by omega, ?_⟩
  generalize hσ1 : wX σ 214 (mX σ 214 ++ List.replicate (W - (lb.length : Int) - (T.length : Int)).toNat 32) = σ1
  have x1 : mX σ1 214 = (L.map (·.1)).flatten ++ (T ++ List.replicate (W - (lb.length : Int) - (T.length : Int)).toNat 32) := by
    rw [← hσ1, wX_self, hp.1, List.append_assoc]
  have x226 : mX σ1 226 = lb := by
    rw [← hσ1]
    exact (wX_ne (by decide)).trans h226
  have l1 : (mX σ1 214).length ≤ suM (L.map (·.1)) + 200 := by
    rw [x1, List.length_append, flt_l, List.length_append, List.length_replicate]
    omega
  refine Proof_showHead_189.i (tB.i (by decide) (tB.i (by decide) (tB.i (by decide) (tB.i (by decide) (tB.i (by decide) (tB.i (by decide) (tB.i (by decide) (tB.i (by decide) (tB.i (by decide) ?_)))))))))
  show (mX σ1 214).length + (((mX σ1 226).length : Int) - 0).toNat ≤ capOf 214 ∧ Proof_showHead_211 212 (wX σ1 214 (mX σ1 214 ++ pourM (rgt (mX σ1 226)) (((mX σ1 226).length : Int) - 0).toNat 0)) Q
  rw [pour_all, x226]
  refine ⟨by omega, Proof_showHead_211.i (tB.i (by decide) ?_)⟩
  have pC : PoC (wX σ1 214 (mX σ1 214 ++ lb)) L (T ++ List.replicate (W - (lb.length : Int) - (T.length : Int)).toNat 32 ++ lb) := by
    have n1 : ∀ q, q ≠ 214 → mX (wX σ1 214 (mX σ1 214 ++ lb)) q = mX σ q := fun q h => (wX_ne h).trans (by rw [← hσ1]; exact wX_ne h)
    refine ⟨?_, (n1 _ (by decide)).trans hp.2.1, (n1 _ (by decide)).trans hp.2.2.1, (n1 _ (by decide)).trans hp.2.2.2⟩
    rw [wX_self, x1]
    simp only [List.append_assoc]
  have lC : (T ++ List.replicate (W - (lb.length : Int) - (T.length : Int)).toNat 32 ++ lb).length ≤ 250 := by
    rw [List.length_append, List.length_append, List.length_replicate]
    omega
  have g1 : FrSw σ0 (wX σ1 214 (mX σ1 214 ++ lb)) := by
    refine f0.tr ⟨fun q a => ?_, by rw [← hσ1]; rfl, fun y k _ => by rw [← hσ1]; rfl⟩
    have h : q ≠ 214 := fun e => a (by rw [e]; decide)
    exact (wX_ne h).trans (by rw [← hσ1]; exact wX_ne h)
  refine Proof_closeLine.c (fl := 0) (by decide) (by omega) (by omega) pC (fun σ2 p2 f2 => Proof_showHead_216.i (tB.i (by decide) ?_))
  have e8 : mV σ2 228 8 = puN L := (congrFun (congrFun (congrArg Prod.fst f2.2) 228) 8).trans (by rw [← hσ1]; exact h8)
  have s2 : SwC σ2 (L ++ [(T ++ List.replicate (W - (lb.length : Int) - (T.length : Int)).toNat 32 ++ lb, 0, 0)]) := ⟨p2, by
    rw [e8, puN_a]
    show _ = _ + (0 + 0)
    omega⟩
  have e20 : mX σ2 220 = mX σ0 220 := (f2.1 _ (by decide)).trans ((wX_ne (by decide)).trans (by rw [← hσ1]; exact (wX_ne (by decide)).trans e0))
  refine Proof_closeLine.c (C := []) (fl := 0) (by decide) (by rw [List.length_append]; show _ + 1 ≤ _; omega) (by rw [mp_sn, suM_s9]; show suM (L.map (·.1)) + (T ++ List.replicate (W - (lb.length : Int) - (T.length : Int)).toNat 32 ++ lb).length + 0 ≤ 131000; omega) s2.1 (fun σ3 p3 f3 => Proof_showHead_221.i (hq σ3 ⟨?_, ?_⟩ ((g1.tr f2.sw).tr f3.sw) ((f3.1 _ (by decide)).trans e20)))
  · rw [List.append_assoc] at p3
    exact p3
  · have e9 : mV σ3 228 8 = mV σ2 228 8 := congrFun (congrFun (congrArg Prod.fst f3.2) 228) 8
    rw [e9, e8, puN_a]
    show _ = _ + (0 + (0 + 0))
    omega
/-- a page's head -/
theorem Proof_showHead.h9 (hz : z = 49 ∨ z = 163) (hS : StB S) (hS11 : 0 ≤ S.getD 11 0 ∧ S.getD 11 0 ≤ 999) (hS12 : 1 ≤ S.getD 12 0 ∧ S.getD 12 0 ≤ 5) (h14 : mV σ z 14 = S.getD 11 0) (h15 : mV σ z 15 = S.getD 12 0) (hgB : HdB g) (hgs : suM g.1 ≤ 65000) (ht : shR σ (z + 13) g.1) (hlv : mX σ (z + 18) = g.2.1) (hps : mX σ (z + 22) = g.2.2) (hc : c ≤ 100) (he : e ≤ 7000) (hl : L.length + 2 ≤ 6000) (hs : suM (L.map (·.1)) ≤ 70000) (h : SwC σ L) (hq : ∀ σ', SwC σ' (L ++ [(hdD S g c e, 0, 0), ([], 0, 0)]) → FrSw σ σ' → mX σ' 220 = mX σ 220 → Q (.inl none) σ') : Proof_showHead 212 z (c : Int) (e : Int) (S.getD 0 0) σ Q := by
  have im : isMarks z = true := by rcases hz with rfl | rfl <;> decide
  have ish : isShelf (z + 13) = true := by rcases hz with rfl | rfl <;> decide
  have i14 : isRow (z + 13 + 1) = true := by rcases hz with rfl | rfl <;> decide
  have i16 : isRow (z + 13 + 3) = true := by rcases hz with rfl | rfl <;> decide
  have ine : neB (z + 13 + 1) 214 = true := by rcases hz with rfl | rfl <;> decide
  have hW := hS.1
  have wl := wrN_len (n := S.getD 11 0 + (c : Int)) (sys := S.getD 12 0)
  have wl : (hdB S c).length ≤ 20 := by
    unfold hdB
    omega
  have l60 := hgB.1
  refine Proof_showHead.i (tB.i (by decide) (tB.i (by decide) (tB.i (by decide) (Proof_showHead_7.i (tB.i (by decide) (tB.i im (Marks_putLabel.i (tB.i im (tB.i im (tB.i (by decide) ?_)))))))))) 
  show Row_putNumber 226 (mV (wX σ 226 []) z 14 + (c : Int)) (mV (wX σ 226 []) z 15) (wX σ 226 []) _
  rw [show mV (wX σ 226 []) z 14 = S.getD 11 0 from h14, show mV (wX σ 226 []) z 15 = S.getD 12 0 from h15]
  refine Row_putNumber.s (by decide) (by omega) hS12 (fun _ => by omega) (by rw [wX_self]; decide) ?_
  rw [wX_self]
  show Proof_showHead_16 212 z (e : Int) (S.getD 0 0) (wX (wX σ 226 []) 226 ([] ++ hdB S c)) _
  generalize hσ1 : wX (wX σ 226 []) 226 ([] ++ hdB S c) = σ1
  have x226 : mX σ1 226 = hdB S c := by rw [← hσ1, wX_self]; rfl
  have n1 : ∀ q, q ≠ 226 → mX σ1 q = mX σ q := fun q h9 => by rw [← hσ1]; exact (wX_ne h9).trans (wX_ne h9)
  have f1 : FrSw σ σ1 := ⟨fun q a => n1 q (fun e9 => a (by rw [e9]; decide)), by rw [← hσ1]; rfl, fun y k _ => by rw [← hσ1]; rfl⟩
  have p1 : PoC σ1 L [] := ⟨(n1 _ (by decide)).trans h.1.1, (n1 _ (by decide)).trans h.1.2.1, (n1 _ (by decide)).trans h.1.2.2.1, (n1 _ (by decide)).trans h.1.2.2.2⟩
  have e8 : mV σ1 228 8 = puN L := by rw [← hσ1]; exact h.2
  have ht1 : shR σ1 (z + 13) g.1 := ⟨(n1 _ (by omega)).trans ht.1, (n1 _ (by omega)).trans ht.2⟩
  have hlv1 : mX σ1 (z + 18) = g.2.1 := (n1 _ (by omega)).trans hlv
  have hps1 : mX σ1 (z + 22) = g.2.2 := (n1 _ (by omega)).trans hps
  have e20 : mX σ1 220 = mX σ 220 := n1 _ (by decide)
  have l14 : (mX σ1 214).length = suM (L.map (·.1)) := by rw [p1.1, List.append_nil, flt_l]
  have lr : (mX σ1 (z + 13 + 3)).length = g.1.length := by rw [ht1.2, enS_len]
  have c14 : capOf 214 = 131072 := by decide
  clear hσ1
  refine Proof_showHead_16.i (psh_22 hz hgB ht1 hlv1 hps1 he ?_ g.1.length 0 (Nat.zero_add _))
  refine Proof_showHead_22.i (tB.i im (tB.i ish (Shelf_rows.i (tB.i ish (tB.i i16 ?_)))))
  show Rg (g.1.length : Int) ∧ (((mX σ1 (z + 13 + 3)).length : Int) ≤ (g.1.length : Int) → _) ∧ ((g.1.length : Int) < ((mX σ1 (z + 13 + 3)).length : Int) → _)
  rw [lr]
  have hk := hdK_b (lv := g.2.1) (ps := g.2.2) (fr := (e : Int)) (n := g.1.length)
  refine ⟨by unfold Rg; omega, fun _ => tB.i (by decide) (tB.i (by decide) (tB.i (by decide) ⟨by unfold Rg; omega, fun h9 => ?_, fun h9 => ?_⟩)), fun h9 => absurd h9 (by omega)⟩
  · -- no heading
    have eT : hdT g (e : Int) (hdM S c) = [] := if_pos h9
    have eD : hdD S g c e = [] ++ List.replicate (S.getD 0 0 - ((hdB S c).length : Int) - (([] : List Int).length : Int)).toNat 32 ++ hdB S c := by
      unfold hdD
      rw [eT]
    rw [eD] at hq
    show Proof_showHead_153 212 (S.getD 0 0) ((mX σ1 214).length : Int) σ1 Q
    rw [l14]
    exact psh_153 (σ0 := σ) (T := []) hW (by decide) (by omega) x226 hl (by omega) p1 e8 f1 e20 hq
  · obtain ⟨k, hkk⟩ : ∃ k : Nat, hdK g.2.1 g.2.2 (e : Int) g.1.length = (k : Int) := ⟨(hdK g.2.1 g.2.2 (e : Int) g.1.length).toNat, by omega⟩
    have hkl : k < g.1.length := by omega
    have eT : hdT g (e : Int) (hdM S c) = (g.1.getD k []).take (hdM S c) := by
      unfold hdT
      rw [if_neg h9, hkk, Int.toNat_natCast]
    have eD : hdD S g c e = (g.1.getD k []).take (hdM S c) ++ List.replicate (S.getD 0 0 - ((hdB S c).length : Int) - (((g.1.getD k []).take (hdM S c)).length : Int)).toNat 32 ++ hdB S c := by
      unfold hdD
      rw [eT]
    rw [eD] at hq
    have eM : hdM S c = (S.getD 0 0 - 1 - ((hdB S c).length : Int)).toNat := rfl
    obtain ⟨q1, q2, q3⟩ := shR.at (k := k) ht1 hkl i14 (by omega)
    have rk : Rg (hdK g.2.1 g.2.2 (e : Int) g.1.length) := by rw [hkk]; unfold Rg; omega
    have lt := suM_at9 (K := g.1) (i := k) hkl
    refine tB.i (by decide) (tB.i (by decide) ?_)
    show Rg (S.getD 0 0 - 1 - ((mX σ1 226).length : Int)) ∧ tB (isMarks z) (tB (isShelf (z + 13)) (tB (isShelf (z + 13)) (Rg (hdK g.2.1 g.2.2 (e : Int) g.1.length) ∧ _)))
    rw [x226]
    refine ⟨by unfold Rg; omega, tB.i im (tB.i ish (tB.i ish ⟨rk, tB.i (by decide) (tB.i (by decide) (tB.i im (tB.i ish (tB.i im (tB.i ish (tB.i ish ⟨rk, ?_⟩))))))⟩))⟩
    show Rg (sfrM (mX σ1 (z + 13 + 3)) (hdK g.2.1 g.2.2 (e : Int) g.1.length) + max 0 (S.getD 0 0 - 1 - ((hdB S c).length : Int))) ∧ tB (isRow 214) (tB (isRow 214) (tB (isRow (z + 13 + 1)) (tB (neB (z + 13 + 1) 214) ((mX σ1 214).length + (min (stoM (mX σ1 (z + 13 + 3)) (hdK g.2.1 g.2.2 (e : Int) g.1.length)) (sfrM (mX σ1 (z + 13 + 3)) (hdK g.2.1 g.2.2 (e : Int) g.1.length) + max 0 (S.getD 0 0 - 1 - ((hdB S c).length : Int))) - sfrM (mX σ1 (z + 13 + 3)) (hdK g.2.1 g.2.2 (e : Int) g.1.length)).toNat ≤ capOf 214 ∧ Proof_showHead_153 212 (S.getD 0 0) ((mX σ1 214).length : Int) (wX σ1 214 (mX σ1 214 ++ pourM (rgt (mX σ1 (z + 13 + 1))) (min (stoM (mX σ1 (z + 13 + 3)) (hdK g.2.1 g.2.2 (e : Int) g.1.length)) (sfrM (mX σ1 (z + 13 + 3)) (hdK g.2.1 g.2.2 (e : Int) g.1.length) + max 0 (S.getD 0 0 - 1 - ((hdB S c).length : Int))) - sfrM (mX σ1 (z + 13 + 3)) (hdK g.2.1 g.2.2 (e : Int) g.1.length)).toNat (sfrM (mX σ1 (z + 13 + 3)) (hdK g.2.1 g.2.2 (e : Int) g.1.length)))) Q))))
    rw [hkk, q1, q2, l14]
    have em : (min ((suM (g.1.take k) + (g.1.getD k []).length : Nat) : Int) (((suM (g.1.take k) : Nat) : Int) + max 0 (S.getD 0 0 - 1 - ((hdB S c).length : Int))) - ((suM (g.1.take k) : Nat) : Int)).toNat = min (hdM S c) (g.1.getD k []).length := by
      rw [eM]
      omega
    rw [em]
    have po := q3.pour (p := 0) (b := min (hdM S c) (g.1.getD k []).length) (Nat.zero_le _) (Nat.min_le_right _ _)
    have po9 : pourM (rgt (mX σ1 (z + 13 + 1))) (min (hdM S c) (g.1.getD k []).length) ((suM (g.1.take k) : Nat) : Int) = sgT (g.1.getD k []) 0 (min (hdM S c) (g.1.getD k []).length) := po
    have po : pourM (rgt (mX σ1 (z + 13 + 1))) (min (hdM S c) (g.1.getD k []).length) ((suM (g.1.take k) : Nat) : Int) = (g.1.getD k []).take (hdM S c) := by
      rw [po9]
      unfold sgT
      rw [List.drop_zero, Nat.sub_zero]
      by_cases cc : hdM S c ≤ (g.1.getD k []).length
      · rw [Nat.min_eq_left cc]
      · rw [Nat.min_eq_right (by omega), List.take_length, List.take_of_length_le (by omega)]
    rw [po]
    have lT : ((g.1.getD k []).take (hdM S c)).length ≤ 80 := by
      rw [List.length_take, eM]
      omega
    refine ⟨by unfold Rg; omega, tB.i (by decide) (tB.i (by decide) (tB.i i14 (tB.i ine ⟨by omega, ?_⟩)))⟩
    have n2 : ∀ q, q ≠ 214 → mX (wX σ1 214 (mX σ1 214 ++ (g.1.getD k []).take (hdM S c))) q = mX σ1 q := fun q h9 => wX_ne h9
    refine psh_153 (σ0 := σ) (T := (g.1.getD k []).take (hdM S c)) hW lT (by omega) ((n2 _ (by decide)).trans x226) hl (by omega) ⟨?_, (n2 _ (by decide)).trans p1.2.1, (n2 _ (by decide)).trans p1.2.2.1, (n2 _ (by decide)).trans p1.2.2.2⟩ e8 (f1.tr ⟨fun q a => n2 q (fun e9 => a (by rw [e9]; decide)), rfl, fun _ _ _ => rfl⟩) ((n2 _ (by decide)).trans e20) hq
    rw [wX_self, p1.1, List.append_nil]
end
