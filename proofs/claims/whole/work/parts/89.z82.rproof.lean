/-! PROOFS: the reference copies lines and counts notes -/
theorem cy_st {x : Int} : cyB x = stY x := by
  unfold cyB stY
  omega
section
variable {σ : MS} {Q : MQ9} {L : List GL9} {room : Int} {F : List Int} {Ls : List GL9} {A : List Int} {sp : List (Int × Int)} {i : Nat}
/-- a galley's line is copied -/
theorem R_proofCopy.p {l t : Nat} {x : GL9} (hl5 : l < 1501) (hLi : LiA σ l t x) (ht : t + x.1.length ≤ 70000) (ho : Rg x.2.1) (h : PfR σ L) (hl : L.length < 6100) (hs : suM (L.map (·.1)) + x.1.length ≤ 80000) (hq : ∀ σ', PfR σ' (L ++ [x]) → FrPf σ σ' → Q (.inl none) σ') : R_proofCopy (l : Int) σ Q := by
  obtain ⟨c1, c2, c3, c4, c5, c6⟩ := hLi
  obtain ⟨C, o, fl⟩ := x
  have c2 : mV σ 311 l = (C.length : Int) := c2
  have c3 : mV σ 312 l = o := c3
  have c4 : mV σ 313 l = bZ (decide (2 ≤ fl)) := c4
  have ht : t + C.length ≤ 70000 := ht
  have hs : suM (L.map (·.1)) + C.length ≤ 80000 := hs
  refine R_proofCopy.i ⟨by omega, by omega, by omega, by omega, ?_⟩
  rw [Int.toNat_natCast, c3, c4]
  refine R_proofLine.p rfl h hl (by omega) ho (fun σ1 p1 f1 => ?_)
  have go : ∀ (n k : Nat) (σ2 : MS), k + n = C.length → PfR σ2 (L ++ [(C.take k, o, fl)]) → FrPf σ σ2 → R_proofCopy_18 (l : Int) (k : Int) σ2 Q := by
    intro n
    induction n with
    | zero =>
      intro k σ2 hk p2 f2
      have e : k = C.length := by omega
      have e311 : mV σ2 311 l = (C.length : Int) := (f2.z (by decide) (by decide)).trans c2
      refine R_proofCopy_18.i ⟨by omega, by omega, by unfold Rg; omega, fun _ => hq σ2 (by rw [e, List.take_length] at p2; exact p2) f2, fun h9 => ?_⟩
      rw [Int.toNat_natCast, e311] at h9
      omega
    | succ n ih =>
      intro k σ2 hk p2 f2
      have e311 : mV σ2 311 l = (C.length : Int) := (f2.z (by decide) (by decide)).trans c2
      have e310 : mV σ2 310 l = (t : Int) := (f2.z (by decide) (by decide)).trans c1
      refine R_proofCopy_18.i ⟨by omega, by omega, by unfold Rg; omega, fun h9 => ?_, fun _ => ?_⟩
      · rw [Int.toNat_natCast, e311] at h9
        omega
      · rw [Int.toNat_natCast, e310, show ((t : Int) + (k : Int)).toNat = t + k by omega]
        have g := c6 k (by show k < C.length; omega)
        have e308 : mV σ2 308 (t + k) = C.getD k 0 % 128 := (f2.z (by decide) (by decide)).trans g.1
        have e309 : mV σ2 309 (t + k) = stY (C.getD k 0) := ((f2.z (by decide) (by decide)).trans g.2).trans cy_st
        refine ⟨by omega, by omega, by omega, by omega, by omega, by omega, by omega, by omega, ?_⟩
        rw [e308, e309]
        refine R_proofSign.p (x := C.getD k 0) (C := C.take k) (L := L) (o := o) (fl := fl) ⟨rfl, rfl⟩ (by omega) (by unfold stY; omega) p2 hl (by rw [List.length_take]; omega) (fun σ3 p3 f3 => ?_)
        rw [show (k : Int) + 1 = ((k + 1 : Nat) : Int) by omega]
        exact ih (k + 1) σ3 (by omega) (by rw [take_sn (by omega)]; exact p3) (f2.tr f3)
  have := go C.length 0 σ1 (by omega) (by rw [List.take_zero]; exact p1) f1
  exact this
/-- notes ahead of a place, counted -/
theorem nB_f : ∀ {A : List Int} {x : Int}, srt9 A → (A.filter (fun p => decide (p < x))).length = nB A x
  | [], x, _ => rfl
  | p :: r, x, h => by
    have hr : srt9 r := fun i j hij hj => h (i + 1) (j + 1) (by omega) (by show j + 1 < r.length + 1; omega)
    have ih := nB_f (A := r) (x := x) hr
    show ((p :: r).filter _).length = if p < x then nB r x + 1 else 0
    by_cases c : p < x
    · rw [List.filter_cons_of_pos (by exact decide_eq_true c), if_pos c, List.length_cons, ih]
    · rw [List.filter_cons_of_neg (by rw [decide_eq_false c]; decide), if_neg c, List.length_eq_zero_iff, List.filter_eq_nil_iff]
      intro y hy
      obtain ⟨j, hj, e⟩ := gdi_mem hy
      have := h 0 (j + 1) (by omega) (by show j + 1 < r.length + 1; omega)
      have e0 : (p :: r).getD 0 0 = p := rfl
      have e1 : (p :: r).getD (j + 1) 0 = r.getD j 0 := rfl
      rw [e0, e1, e] at this
      rw [decide_eq_false (by omega)]
      decide
theorem fq_c (hB : PgB room F Ls A sp) (hi : i < F.length) (h0 : 0 ≤ F.getD i 0) : cnL (fqs F A) (F.getD i 0).toNat = nB A (i : Int) ∧ cnU (fqs F A) (F.getD i 0).toNat = nB A ((i : Int) + 1) := by
  have mk := hB.2.2.2.2.1
  have so := hB.2.2.2.2.2.1
  have mo := hB.2.2.2.1.2
  have key : ∀ a ∈ A, (F.getD a.toNat 0).toNat < (F.getD i 0).toNat ↔ a < (i : Int) := fun a ha => by
    obtain ⟨m1, m2, m3⟩ := mk a ha
    rcases Nat.lt_trichotomy a.toNat i with h | h | h
    · have := mo a.toNat i h hi m3 h0
      omega
    · rw [h]
      omega
    · have := mo i a.toNat h (by omega) h0 m3
      omega
  have key2 : ∀ a ∈ A, (F.getD a.toNat 0).toNat ≤ (F.getD i 0).toNat ↔ a < (i : Int) + 1 := fun a ha => by
    obtain ⟨m1, m2, m3⟩ := mk a ha
    rcases Nat.lt_trichotomy a.toNat i with h | h | h
    · have := mo a.toNat i h hi m3 h0
      omega
    · rw [h]
      omega
    · have := mo i a.toNat h (by omega) h0 m3
      omega
  unfold cnL cnU fqs
  rw [List.filter_map, List.filter_map, List.length_map, List.length_map]
  refine ⟨?_, ?_⟩
  · rw [← nB_f so]
    congr 1
    exact List.filter_congr (fun a ha => by
      show decide ((F.getD a.toNat 0).toNat < (F.getD i 0).toNat) = decide (a < (i : Int))
      by_cases c : a < (i : Int)
      · rw [decide_eq_true c, decide_eq_true ((key a ha).mpr c)]
      · rw [decide_eq_false c, decide_eq_false (fun h => c ((key a ha).mp h))])
  · rw [← nB_f so]
    congr 1
    exact List.filter_congr (fun a ha => by
      show decide ((F.getD a.toNat 0).toNat ≤ (F.getD i 0).toNat) = decide (a < (i : Int) + 1)
      by_cases c : a < (i : Int) + 1
      · rw [decide_eq_true c, decide_eq_true ((key2 a ha).mpr c)]
      · rw [decide_eq_false c, decide_eq_false (fun h => c ((key2 a ha).mp h))])
/-- which notes a line has -/
theorem nl_at (hB : PgB room F Ls A sp) (hN : NnR σ F A sp) (hi : i < F.length) (h0 : 0 ≤ F.getD i 0) : (nB A (i : Int) = nB A ((i : Int) + 1) → mV σ 317 (F.getD i 0).toNat = 0 ∧ mV σ 318 (F.getD i 0).toNat = 0) ∧ (¬ nB A (i : Int) = nB A ((i : Int) + 1) → mV σ 317 (F.getD i 0).toNat = (nB A (i : Int) : Int) ∧ mV σ 318 (F.getD i 0).toNat = (nB A ((i : Int) + 1) : Int)) := by
  obtain ⟨e1, e2⟩ := fq_c hB hi h0
  have := hN.2.2 i hi h0
  unfold nlA at this
  rw [e1, e2] at this
  exact this
theorem R_noteLines.p (hB : PgB room F Ls A sp) (hN : NnR σ F A sp) (hi : i < F.length) (h0 : 0 ≤ F.getD i 0) (hq : Q (.inl (some (pS sp (nB A ((i : Int) + 1)) - pS sp (nB A (i : Int))))) σ) : R_noteLines (F.getD i 0) σ Q := by
  have la := hB.2.2.2.2.2.2.2.2
  have ls := hB.2.2.2.2.2.2.2.1
  have l5 := hB.2.2.1
  have fb := F_b hB hi
  have nl := nB_l (A := A) (x := (i : Int) + 1)
  have nm := nB_mo (A := A) (x := (i : Int)) (y := (i : Int) + 1) (by omega)
  have b1 := pS_b hB (k := nB A (i : Int)) (by omega)
  obtain ⟨n1, n2⟩ := nl_at hB hN hi h0
  refine R_noteLines.i ⟨by omega, by omega, ?_⟩
  by_cases c : nB A (i : Int) = nB A ((i : Int) + 1)
  · obtain ⟨z1, z2⟩ := n1 c
    rw [z1]
    rw [c, Int.sub_self] at hq
    exact R_noteLines_9.i ⟨by omega, by omega, by decide, fun _ => ⟨by decide, hq⟩, fun h => by rw [z2] at h; omega⟩
  · obtain ⟨z1, z2⟩ := n2 c
    rw [z1]
    have go : ∀ (n k : Nat), k + n = nB A ((i : Int) + 1) → nB A (i : Int) ≤ k → R_noteLines_9 (F.getD i 0) (pS sp k - pS sp (nB A (i : Int))) (k : Int) σ Q := by
      intro n
      induction n with
      | zero =>
        intro k hk hk2
        have e : k = nB A ((i : Int) + 1) := by omega
        have b2 := pS_b hB (k := k) (by omega)
        have b3 := pS_mo (sp := sp) hB.2.2.2.2.2.2.1 (k := nB A (i : Int)) (n := k) hk2 (by omega)
        refine R_noteLines_9.i ⟨by omega, by omega, by unfold Rg; omega, fun _ => ⟨by unfold Rg; omega, by rw [e]; exact hq⟩, fun h => by rw [z2] at h; omega⟩
      | succ n ih =>
        intro k hk hk2
        refine R_noteLines_9.i ⟨by omega, by omega, by unfold Rg; omega, fun h => by rw [z2] at h; omega, fun _ => ⟨by omega, by omega, by omega, by omega, ?_⟩⟩
        rw [Int.toNat_natCast, (hN.1 k (by omega)).1, (hN.1 k (by omega)).2, show (k : Int) + 1 = ((k + 1 : Nat) : Int) by omega]
        have := ih (k + 1) (by omega) (by omega)
        rw [pS_s (by omega)] at this
        rw [show pS sp k - pS sp (nB A (i : Int)) + ((sp.getD k (0, 0)).2 - (sp.getD k (0, 0)).1) = pS sp k + ((sp.getD k (0, 0)).2 - (sp.getD k (0, 0)).1) - pS sp (nB A (i : Int)) by omega]
        exact this
    have := go (nB A ((i : Int) + 1) - nB A (i : Int)) (nB A (i : Int)) (by omega) (Nat.le_refl _)
    rw [Int.sub_self] at this
    exact this
end
