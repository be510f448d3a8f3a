/-! PROOFS: the reference writes lines -/
def PfR (σ : MS) (L : List GL9) : Prop := mV σ 246 124 = (L.length : Int) ∧ mV σ 246 125 = ((suM (L.map (·.1)) : Nat) : Int) ∧ (∀ l, l < L.length → mV σ 324 l = ((suM ((L.map (·.1)).take l) : Nat) : Int) ∧ mV σ 325 l = ((L.getD l ([], 0, 0)).1.length : Int) ∧ mV σ 326 l = (L.getD l ([], 0, 0)).2.1 ∧ mV σ 327 l = bZ (decide (2 ≤ (L.getD l ([], 0, 0)).2.2))) ∧ ∀ i, i < suM (L.map (·.1)) → mV σ 322 i = (L.map (·.1)).flatten.getD i 0 % 128 ∧ mV σ 323 i = stY ((L.map (·.1)).flatten.getD i 0)
def PfS : List Nat := [322, 323, 324, 325, 326, 327]
def FrPf (σ σ' : MS) : Prop := FrZ PfS [124, 125] σ σ'
theorem flt_l : ∀ {X : List (List Int)}, X.flatten.length = suM X
  | [] => rfl
  | a :: r => by
    rw [List.flatten_cons, List.length_append, flt_l (X := r)]
    rfl
section
variable {σ : MS} {Q : MQ9} {L : List GL9}
theorem gl_l {x : GL9} {l : Nat} (h : l < L.length) : (L ++ [x]).getD l ([], 0, 0) = L.getD l ([], 0, 0) := by
  unfold List.getD
  rw [List.getElem?_append_left h]
theorem gl_r {x : GL9} : (L ++ [x]).getD L.length ([], 0, 0) = x := by
  unfold List.getD
  rw [List.getElem?_append_right (Nat.le_refl _), Nat.sub_self]
  rfl
theorem mp_sn {x : GL9} : (L ++ [x]).map (·.1) = L.map (·.1) ++ [x.1] := by
  rw [List.map_append]
  rfl
theorem suM_s9 : ∀ {X : List (List Int)} {w : List Int}, suM (X ++ [w]) = suM X + w.length
  | [], w => by
    show w.length + 0 = 0 + w.length
    omega
  | a :: r, w => by
    have := suM_s9 (X := r) (w := w)
    show a.length + suM (r ++ [w]) = a.length + suM r + w.length
    omega
theorem fl_sn {X : List (List Int)} {w : List Int} : (X ++ [w]).flatten = X.flatten ++ w := by
  rw [List.flatten_append]
  show X.flatten ++ (w ++ []) = _
  rw [List.append_nil]
/-- a line begins -/
theorem R_proofLine.p {o : Int} {pt : Bool} {fl : Int} (hfl : decide (2 ≤ fl) = pt) (h : PfR σ L) (hl : L.length < 6100) (hs : suM (L.map (·.1)) ≤ 80000) (ho : Rg o) (hq : ∀ σ', PfR σ' (L ++ [([], o, fl)]) → FrPf σ σ' → Q (.inl none) σ') : R_proofLine o (bZ pt) σ Q := by
  obtain ⟨h1, h2, h3, h4⟩ := h
  refine R_proofLine.i ?_
  rw [h1, h2, Int.toNat_natCast]
  refine ⟨by omega, by omega, by omega, by omega, by omega, by omega, ho, by omega, by omega, by unfold Rg; omega, hq _ ?_ ?_⟩
  · have v : ∀ y k, y ∉ [246, 324, 325, 326, 327] → mV (wV (wV (wV (wV (wV σ 324 L.length ((suM (L.map (·.1)) : Nat) : Int)) 325 L.length 0) 326 L.length o) 327 L.length (bZ pt % 2)) 246 124 ((L.length : Int) + 1)) y k = mV σ y k := fun y k n => by
      simp only [List.mem_cons, List.not_mem_nil, or_false, not_or] at n
      rw [wV_ne (by omega), wV_ne (by omega), wV_ne (by omega), wV_ne (by omega), wV_ne (by omega)]
    have em : (L ++ [(([], o, fl) : GL9)]).map (·.1) = L.map (·.1) ++ [[]] := mp_sn
    have es : suM (L.map (·.1) ++ [[]]) = suM (L.map (·.1)) := by
      rw [suM_s9]
      rfl
    have ef : (L.map (·.1) ++ [([] : List Int)]).flatten = (L.map (·.1)).flatten := by
      rw [fl_sn, List.append_nil]
    refine ⟨?_, ?_, fun l hl9 => ?_, fun i hi => ?_⟩
    · rw [wV_self, List.length_append]
      show (L.length : Int) + 1 = ((L.length + 1 : Nat) : Int)
      omega
    · rw [em, es, wV_ne (Or.inr (by decide)), wV_ne (Or.inl (by decide)), wV_ne (Or.inl (by decide)), wV_ne (Or.inl (by decide)), wV_ne (Or.inl (by decide))]
      exact h2
    · rw [List.length_append] at hl9
      have hl9 : l < L.length + 1 := hl9
      by_cases e : l = L.length
      · rw [e, gl_r, em, List.take_left' (List.length_map ..)]
        refine ⟨?_, ?_, ?_, ?_⟩
        · rw [wV_ne (Or.inl (by decide)), wV_ne (Or.inl (by decide)), wV_ne (Or.inl (by decide)), wV_ne (Or.inl (by decide)), wV_self]
        · rw [wV_ne (Or.inl (by decide)), wV_ne (Or.inl (by decide)), wV_ne (Or.inl (by decide)), wV_self]
          rfl
        · rw [wV_ne (Or.inl (by decide)), wV_ne (Or.inl (by decide)), wV_self]
        · rw [wV_ne (Or.inl (by decide)), wV_self]
          show bZ pt % 2 = bZ (decide (2 ≤ fl))
          rw [hfl]
          cases pt <;> rfl
      · rw [gl_l (by omega), em, List.take_append_of_le_length (by rw [List.length_map]; omega)]
        obtain ⟨a1, a2, a3, a4⟩ := h3 l (by omega)
        refine ⟨?_, ?_, ?_, ?_⟩
        · rw [wV_ne (Or.inl (by decide)), wV_ne (Or.inl (by decide)), wV_ne (Or.inl (by decide)), wV_ne (Or.inl (by decide)), wV_ne (Or.inr e)]
          exact a1
        · rw [wV_ne (Or.inl (by decide)), wV_ne (Or.inl (by decide)), wV_ne (Or.inl (by decide)), wV_ne (Or.inr e), wV_ne (Or.inl (by decide))]
          exact a2
        · rw [wV_ne (Or.inl (by decide)), wV_ne (Or.inl (by decide)), wV_ne (Or.inr e), wV_ne (Or.inl (by decide)), wV_ne (Or.inl (by decide))]
          exact a3
        · rw [wV_ne (Or.inl (by decide)), wV_ne (Or.inr e), wV_ne (Or.inl (by decide)), wV_ne (Or.inl (by decide)), wV_ne (Or.inl (by decide))]
          exact a4
    · rw [em, es] at hi
      rw [em, ef, v 322 i (by decide), v 323 i (by decide)]
      exact h4 i hi
  · exact ((((FrZ.wz (by decide)).tr (FrZ.wz (by decide))).tr (FrZ.wz (by decide))).tr (FrZ.wz (by decide))).tr (FrZ.wf (by decide))
/-- a sign -/
theorem R_proofSign.p {o fl c y x : Int} {C : List Int} (hx : x % 128 = c ∧ stY x = y) (hc : 0 ≤ c ∧ c ≤ 127) (hy : 0 ≤ y ∧ y ≤ 3) (h : PfR σ (L ++ [(C, o, fl)])) (hl : L.length < 6100) (hs : suM (L.map (·.1)) + C.length < 80000) (hq : ∀ σ', PfR σ' (L ++ [(C ++ [x], o, fl)]) → FrPf σ σ' → Q (.inl none) σ') : R_proofSign c y σ Q := by
  obtain ⟨h1, h2, h3, h4⟩ := h
  have em : (L ++ [((C, o, fl) : GL9)]).map (·.1) = L.map (·.1) ++ [C] := mp_sn
  have em' : (L ++ [((C ++ [x], o, fl) : GL9)]).map (·.1) = L.map (·.1) ++ [C ++ [x]] := mp_sn
  have es : suM (L.map (·.1) ++ [C]) = suM (L.map (·.1)) + C.length := suM_s9
  have es' : suM (L.map (·.1) ++ [C ++ [x]]) = suM (L.map (·.1)) + C.length + 1 := by
    rw [suM_s9, List.length_append]
    rfl
  rw [em, es] at h2 h4
  rw [List.length_append] at h1
  have h1 : mV σ 246 124 = ((L.length + 1 : Nat) : Int) := h1
  obtain ⟨a1, a2, a3, a4⟩ := h3 L.length (by rw [List.length_append]; show L.length < L.length + 1; omega)
  rw [gl_r] at a2 a3 a4
  have a2 : mV σ 325 L.length = (C.length : Int) := a2
  have ec : b8 (b8 c) = c := by rw [b8_id (x := c) (by omega), b8_id (x := c) (by omega)]
  have ey : b8 (b8 y) = y := by rw [b8_id (x := y) (by omega), b8_id (x := y) (by omega)]
  refine R_proofSign.i ?_
  rw [h1, h2, show ((L.length + 1 : Nat) : Int) - 1 = (L.length : Int) by omega, Int.toNat_natCast, Int.toNat_natCast, a2, ec, ey]
  refine ⟨by omega, by omega, by omega, by omega, by unfold Rg; omega, by omega, by omega, by omega, by omega, by unfold Rg; omega, hq _ ⟨?_, ?_, fun l hl9 => ?_, fun i hi => ?_⟩ ?_⟩
  · rw [wV_ne (Or.inl (by decide)), wV_ne (Or.inr (by decide)), wV_ne (Or.inl (by decide)), wV_ne (Or.inl (by decide)), h1, List.length_append]
    rfl
  · rw [em', es', wV_ne (Or.inl (by decide)), wV_self]
    omega
  · rw [List.length_append] at hl9
    have hl9 : l < L.length + 1 := hl9
    obtain ⟨q1, q2, q3, q4⟩ := h3 l (by rw [List.length_append]; exact hl9)
    rw [em] at q1
    rw [em']
    have et : (L.map (·.1) ++ [C ++ [x]]).take l = (L.map (·.1) ++ [C]).take l := by
      rw [List.take_append_of_le_length (by rw [List.length_map]; omega), List.take_append_of_le_length (by rw [List.length_map]; omega)]
    rw [et]
    by_cases e : l = L.length
    · rw [e] at q1 q2 q3 q4 ⊢
      rw [gl_r] at q2 q3 q4 ⊢
      refine ⟨?_, ?_, ?_, ?_⟩
      · rw [wV_ne (Or.inl (by decide)), wV_ne (Or.inl (by decide)), wV_ne (Or.inl (by decide)), wV_ne (Or.inl (by decide))]
        exact q1
      · rw [wV_self]
        show (C.length : Int) + 1 = ((C ++ [x]).length : Int)
        rw [List.length_append]
        rfl
      · rw [wV_ne (Or.inl (by decide)), wV_ne (Or.inl (by decide)), wV_ne (Or.inl (by decide)), wV_ne (Or.inl (by decide))]
        exact q3
      · rw [wV_ne (Or.inl (by decide)), wV_ne (Or.inl (by decide)), wV_ne (Or.inl (by decide)), wV_ne (Or.inl (by decide))]
        exact q4
    · rw [gl_l (by omega)] at q2 q3 q4 ⊢
      refine ⟨?_, ?_, ?_, ?_⟩
      · rw [wV_ne (Or.inl (by decide)), wV_ne (Or.inl (by decide)), wV_ne (Or.inl (by decide)), wV_ne (Or.inl (by decide))]
        exact q1
      · rw [wV_ne (Or.inr e), wV_ne (Or.inl (by decide)), wV_ne (Or.inl (by decide)), wV_ne (Or.inl (by decide))]
        exact q2
      · rw [wV_ne (Or.inl (by decide)), wV_ne (Or.inl (by decide)), wV_ne (Or.inl (by decide)), wV_ne (Or.inl (by decide))]
        exact q3
      · rw [wV_ne (Or.inl (by decide)), wV_ne (Or.inl (by decide)), wV_ne (Or.inl (by decide)), wV_ne (Or.inl (by decide))]
        exact q4
  · rw [em', es'] at hi
    have ef : (L.map (·.1) ++ [C ++ [x]]).flatten = (L.map (·.1) ++ [C]).flatten ++ [x] := by
      rw [fl_sn, fl_sn, List.append_assoc]
    have ll : (L.map (·.1) ++ [C]).flatten.length = suM (L.map (·.1)) + C.length := by
      rw [flt_l, es]
    rw [em', ef]
    by_cases e : i = suM (L.map (·.1)) + C.length
    · have eg : ((L.map (·.1) ++ [C]).flatten ++ [x]).getD i 0 = x := by
        rw [e, ← ll]
        unfold List.getD
        rw [List.getElem?_append_right (Nat.le_refl _), Nat.sub_self]
        rfl
      rw [eg, hx.1, hx.2, e]
      refine ⟨?_, ?_⟩
      · rw [wV_ne (Or.inl (by decide)), wV_ne (Or.inl (by decide)), wV_ne (Or.inl (by decide)), wV_self]
      · rw [wV_ne (Or.inl (by decide)), wV_ne (Or.inl (by decide)), wV_self]
    · have eg : ((L.map (·.1) ++ [C]).flatten ++ [x]).getD i 0 = (L.map (·.1) ++ [C]).flatten.getD i 0 := getD_l (by omega)
      rw [eg]
      obtain ⟨q1, q2⟩ := h4 i (by omega)
      refine ⟨?_, ?_⟩
      · rw [wV_ne (Or.inl (by decide)), wV_ne (Or.inl (by decide)), wV_ne (Or.inl (by decide)), wV_ne (Or.inr e)]
        exact q1
      · rw [wV_ne (Or.inl (by decide)), wV_ne (Or.inl (by decide)), wV_ne (Or.inr e), wV_ne (Or.inl (by decide))]
        exact q2
  · exact (((FrZ.wz (by decide)).tr (FrZ.wz (by decide))).tr (FrZ.wf (by decide))).tr (FrZ.wz (by decide))
end
