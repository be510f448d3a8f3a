/-! CHANGED -/
section
variable {σ σ' : MS} {P : List Nat} {L K : List (List Int)} {O : List Int}
theorem sh_at {l : Nat} (hl : l < L.length) : stoM (enS 0 L) (l : Int) = ((suM (L.take l) + (L.getD l []).length : Nat) : Int) ∧ sfrM (enS 0 L) (l : Int) = ((suM (L.take l) : Nat) : Int) ∧ suM (L.take l) + (L.getD l []).length ≤ suM L := by
  have ht : (L.take l).length = l := by rw [List.length_take]; omega
  refine ⟨?_, ?_, ?_⟩
  · have := sto_at (p := L.take l) (r := L.getD l []) (rs := L.drop (l + 1))
    rw [← take_at hl, ht] at this
    exact this
  · have := sfr_at (p := L.take l) (rs := L.getD l [] :: L.drop (l + 1))
    rw [← take_at hl, ht] at this
    exact this
  · have : suM L = suM (L.take l ++ L.getD l [] :: L.drop (l + 1)) := by rw [← take_at hl]
    rw [this, suM_app]
    show _ ≤ _ + (_ + _)
    omega
theorem fl_at {l i : Nat} (hl : l < L.length) (hi : i < (L.getD l []).length) : L.flatten.getD (suM (L.take l) + i) 0 = (L.getD l []).getD i 0 := by
  have := flat_at (p := L.take l) (r := L.getD l []) (rs := L.drop (l + 1)) hi
  rw [← take_at hl] at this
  exact this
theorem Proof_lengthOf.g {Q : MQ9} {z : Nat} (hz : isProof z = true) (hs : isShelf (z + 1) = true) (h : shR σ (z + 1) L) (hb : suM L ≤ 80000) (hl6 : L.length ≤ 6100) {l : Nat} (hl : l < L.length) (hq : Q (.inl (some (((L.getD l []).length : Nat) : Int))) σ) : Proof_lengthOf z (l : Int) σ Q := by
  obtain ⟨e1, e2, e3⟩ := sh_at hl
  have f1 : stoM (mX σ (z + 1 + 3)) (l : Int) - sfrM (mX σ (z + 1 + 3)) (l : Int) = (((L.getD l []).length : Nat) : Int) := by
    rw [h.2, e1, e2]
    omega
  refine Proof_lengthOf.i (tB.i hz (tB.i hs (tB.i hs ⟨by unfold Rg; omega, tB.i hz (tB.i hs (tB.i hs ⟨by unfold Rg; omega, ?_⟩))⟩)))
  rw [f1]
  exact ⟨by unfold Rg; omega, hq⟩
theorem hsh_7 {A : List Int} : hsh A = (ms7 A).foldl (fun h x => wr (wr (h * 31) + x)) 0 := by
  unfold hsh ms7
  rw [List.foldl_map]
theorem hsh_c {A B : List Int} (h : ms7 A = ms7 B) : hsh A = hsh B := by rw [hsh_7, hsh_7, h]
theorem hsh_at {l : Nat} (hl : l < L.length) : rgt (L.map hsh) (l : Int) = hsh (L.getD l []) := by
  rw [rgt_n (by rw [List.length_map]; exact hl), List.getD_eq_getElem?_getD, List.getElem?_map, List.getD_eq_getElem?_getD, List.getElem?_eq_getElem hl]
  rfl
theorem Proof_sameLine.s {Q : MQ9} (h : PgR σ P L O) (k : KpR σ K) {i j : Nat} (hi : i < L.length) (hj : j < K.length) (hq : Q (.inl (some (bZ (smL L K i j)))) σ) : Proof_sameLine 212 (i : Int) 229 (j : Int) σ Q := by
  obtain ⟨q1, q0⟩ := bZ_q (P := fun r => Q (.inl (some r)) σ) hq
  obtain ⟨k1, k2, -, k4, k5, -, -⟩ := k
  have c1 := h.2.2.1
  have c2 := h.2.2.2.1
  have s1 : shR σ (212 + 1) L := h.1.2.1
  have s2 : shR σ (229 + 1) K := k1
  obtain ⟨e1, e2, e3⟩ := sh_at hi
  obtain ⟨f1, f2, f3⟩ := sh_at hj
  have x1 : rgt (mX σ (212 + 10)) (i : Int) = hsh (L.getD i []) := by rw [show mX σ (212 + 10) = L.map hsh from h.1.2.2.2.2]; exact hsh_at hi
  have x2 : rgt (mX σ (229 + 10)) (j : Int) = hsh (K.getD j []) := by rw [show mX σ (229 + 10) = K.map hsh from k2]; exact hsh_at hj
  refine Proof_sameLine.i (tB.i rfl (tB.i rfl (tB.i rfl ⟨by unfold Rg; omega, tB.i rfl (tB.i rfl (tB.i rfl ⟨by unfold Rg; omega, ?_⟩))⟩)))
  rw [x1, x2]
  refine ⟨fun a => q0 (decide_eq_false (fun e => a (hsh_c e))), fun a => tB.i rfl (Proof_lengthOf.g rfl rfl s1 c2 c1 hi (tB.i rfl (Proof_lengthOf.g rfl rfl s2 k5 k4 hj ⟨fun b => q0 (decide_eq_false (fun e => b ?_)), fun b => ?_⟩)))⟩
  · have := congrArg List.length e
    rw [ms7_len, ms7_len] at this
    rw [this]
  · refine tB.i rfl (tB.i rfl (tB.i rfl (tB.i rfl (tB.i rfl ⟨by unfold Rg; omega, tB.i rfl (tB.i rfl (tB.i rfl (tB.i rfl (tB.i rfl ⟨by unfold Rg; omega, tB.i rfl (tB.i rfl (tB.i rfl ⟨by unfold Rg; omega, tB.i rfl (tB.i rfl (tB.i rfl ?_))⟩))⟩))))⟩))))
    have y1 : mX σ (212 + 1 + 3) = enS 0 L := s1.2
    have y2 : mX σ (229 + 1 + 3) = enS 0 K := s2.2
    have y3 : mX σ (212 + 1 + 1) = L.flatten := s1.1
    have y4 : mX σ (229 + 1 + 1) = K.flatten := s2.1
    rw [y1, y2, y3, y4, e2, f1, f2]
    have hlen : (L.getD i []).length = (K.getD j []).length := by omega
    have key : stdM (fun x => rgt L.flatten (((suM (L.take i) : Nat) : Int) + x - ((suM (K.take j) : Nat) : Int))) (rgt K.flatten) (((suM (K.take j) + (K.getD j []).length : Nat) : Int) - ((suM (K.take j) : Nat) : Int)).toNat ((suM (K.take j) : Nat) : Int) = true ↔ ms7 (L.getD i []) = ms7 (K.getD j []) := by
      rw [stdM_i, show (((suM (K.take j) + (K.getD j []).length : Nat) : Int) - ((suM (K.take j) : Nat) : Int)).toNat = (K.getD j []).length by omega]
      have one : ∀ t : Nat, t < (K.getD j []).length → rgt L.flatten (((suM (L.take i) : Nat) : Int) + (((suM (K.take j) : Nat) : Int) + (t : Int)) - ((suM (K.take j) : Nat) : Int)) = (L.getD i []).getD t 0 ∧ rgt K.flatten (((suM (K.take j) : Nat) : Int) + (t : Int)) = (K.getD j []).getD t 0 := fun t ht => by
        rw [rgt_a (L := L.flatten) (i := suM (L.take i) + t) (by omega) (by rw [flat_len]; omega), rgt_a (L := K.flatten) (i := suM (K.take j) + t) (by omega) (by rw [flat_len]; omega)]
        exact ⟨fl_at hi (by omega), fl_at hj ht⟩
      constructor
      · intro hh
        refine list_ext (by rw [ms7_len, ms7_len, hlen]) (fun t ht => ?_)
        rw [ms7_len] at ht
        have := hh t (by omega)
        rw [(one t (by omega)).1, (one t (by omega)).2] at this
        rw [ms7_at ht, ms7_at (by omega)]
        exact this
      · intro hh t ht
        rw [(one t ht).1, (one t ht).2, ← ms7_at (L := L.getD i []) (by omega), ← ms7_at (L := K.getD j []) ht, hh]
    refine ⟨by unfold Rg; omega, fun c => q0 (decide_eq_false (fun e => ?_)), fun c => q1 (decide_eq_true (key.mp (Classical.byContradiction (fun hc => c (if_neg hc)))))⟩
    rw [if_pos (key.mpr e)] at c
    exact absurd c (by decide)
theorem rows_s {Q : MQ9} {z : Nat} (hz : isShelf z = true) (h3 : isRow (z + 3) = true) {n : Nat} (hn : (mX σ (z + 3)).length = n) (hq : Q (.inl (some (n : Int))) σ) : Shelf_rows z σ Q := Shelf_rows.i (tB.i hz (tB.i h3 (by rw [hn]; exact hq)))
/-- the first line that differs -/
def fcD (L K : List (List Int)) : Nat := fsN (fun i => !smL L K i i) (min L.length K.length) 0
theorem Proof_firstChange.s {Q : MQ9} (h : PgR σ P L O) (k : KpR σ K) (hq : Q (.inl (some (if fcD L K = L.length ∧ fcD L K = K.length then -1 else ((fcD L K : Nat) : Int)))) σ) : Proof_firstChange 212 229 σ Q := by
  have c1 := h.2.2.1
  have k4 := k.2.2.2.1
  have n1 : (mX σ (212 + 1 + 3)).length = L.length := by rw [show mX σ (212 + 1 + 3) = enS 0 L from h.1.2.1.2, enS_len]
  have n2 : (mX σ (229 + 1 + 3)).length = K.length := by rw [show mX σ (229 + 1 + 3) = enS 0 K from k.1.2, enS_len]
  refine Proof_firstChange.i (tB.i rfl (tB.i rfl (rows_s rfl rfl n1 (tB.i rfl (tB.i rfl (rows_s rfl rfl n2 ?_))))))
  show Proof_firstChange_20 212 229 (min (L.length : Int) (K.length : Int)) 0 σ Q
  rw [show min (L.length : Int) (K.length : Int) = ((min L.length K.length : Nat) : Int) by omega]
  have go : ∀ (m i : Nat), i + m = min L.length K.length → fsN (fun i => !smL L K i i) m i = fcD L K → Proof_firstChange_20 212 229 ((min L.length K.length : Nat) : Int) (i : Int) σ Q := by
    intro m
    induction m with
    | zero =>
      intro i hi he
      have hf : fcD L K = min L.length K.length := by rw [← he]; show i = _; omega
      refine Proof_firstChange_20.i ⟨by unfold Rg; omega, fun _ => tB.i rfl (tB.i rfl (rows_s rfl rfl n1 (tB.i rfl (tB.i rfl (rows_s rfl rfl n2 ⟨fun a => ?_, fun a => ?_⟩))))), fun h9 => absurd h9 (by omega)⟩
      · rw [if_neg (by omega), hf] at hq; exact hq
      · rw [if_pos (by omega)] at hq; exact hq
    | succ m ih =>
      intro i hi he
      refine Proof_firstChange_20.i ⟨by unfold Rg; omega, fun h9 => absurd h9 (by omega), fun _ => tB.i rfl (Proof_sameLine.s h k (by omega) (by omega) ⟨fun a => ?_, fun a => ⟨by unfold Rg; omega, ?_⟩⟩)⟩
      · refine ih (i + 1) (by omega) ?_
        rw [← he]
        show _ = if (!smL L K i i) = true then i else _
        rw [bZ_ne a]
        rfl
      · have hf : fcD L K = i := by
          rw [← he]
          show (if (!smL L K i i) = true then i else _) = i
          rw [bZ_z a]
          rfl
        rw [hf, if_neg (by omega)] at hq
        exact hq
  exact go (min L.length K.length) 0 (by omega) rfl
/-! the class's count of common lines -/
theorem ofF_c {f g : Nat → Int} {n : Nat} (h : ∀ i, i < n → f i = g i) : ofF f n = ofF g n := list_ext (by rw [ofF_len, ofF_len]) (fun j hj => by
  rw [ofF_len] at hj
  rw [ofF_get hj, ofF_get hj, h j hj])
theorem ofF_alt {f : Nat → Int} {n j : Nat} {v : Int} (hj : j < n) : ralt (ofF f n) (j : Int) v = ofF (fun t => if t = j then v else f t) n := by
  unfold ralt
  rw [if_pos ⟨by omega, by rw [ofF_len]; omega⟩]
  refine list_ext (by rw [List.length_set, ofF_len, ofF_len]) (fun t ht => ?_)
  rw [List.length_set, ofF_len] at ht
  rw [ofF_get ht, List.getD_eq_getElem?_getD, List.getElem?_set]
  by_cases e : j = t
  · subst e
    rw [if_pos (by omega), if_pos rfl, if_pos (by rw [ofF_len]; omega)]
    rfl
  · rw [if_neg (by omega), if_neg (fun h => e h.symm), ← List.getD_eq_getElem?_getD, ofF_get ht]
theorem ofF_rgt {f : Nat → Int} {n j : Nat} (hj : j < n) : rgt (ofF f n) (j : Int) = f j := by
  rw [rgt_n (by rw [ofF_len]; exact hj), ofF_get hj]
theorem PgR.r224 {M : List Int} (h : PgR σ P L O) : PgR (wX σ 224 M) P L O := h.cg (fun q hq => wX_ne (by revert q; decide)) (fun _ _ _ => rfl) (fun _ _ => rfl)
theorem KpR.r224 {M : List Int} (k : KpR σ K) : KpR (wX σ 224 M) K := k.cg (fun q hq => wX_ne (by revert q; decide)) (fun _ _ _ => rfl) rfl
theorem Proof_common.s {Q : MQ9} (h : PgR σ P L O) (k : KpR σ K) (hq : ∀ M, Q (.inl (some ((lcN (smL L K) L.length K.length : Nat) : Int))) (wX σ 224 M)) : Proof_common 212 229 σ Q := by
  have c1 := h.2.2.1
  have k4 := k.2.2.2.1
  have n1 : (mX σ (212 + 1 + 3)).length = L.length := by rw [show mX σ (212 + 1 + 3) = enS 0 L from h.1.2.1.2, enS_len]
  have n2 : (mX σ (229 + 1 + 3)).length = K.length := by rw [show mX σ (229 + 1 + 3) = enS 0 K from k.1.2, enS_len]
  have h96 : ∀ a b : Nat, a + b ≤ L.length → a + b ≤ K.length → (∀ i, i < a → smL L K i i = true) → (∀ i, i < b → smL L K (L.length - 1 - i) (K.length - 1 - i) = true) → Proof_common_96 212 229 (L.length : Int) (K.length : Int) (a : Int) (b : Int) σ Q := by
    intro a b ha hb hp hs
    have el : lcN (smL L K) L.length K.length = a + b + lcN (fun p k => smL L K (a + p) (a + k)) (L.length - a - b) (K.length - a - b) := by
      have e1 := lcN_suf (f := smL L K) (p := L.length - b) (k := K.length - b) b (fun i hi => by
        have := hs (b - 1 - i) (by omega)
        rw [show L.length - 1 - (b - 1 - i) = L.length - b + i by omega, show K.length - 1 - (b - 1 - i) = K.length - b + i by omega] at this
        exact this)
      rw [show L.length - b + b = L.length by omega, show K.length - b + b = K.length by omega] at e1
      have e2 := lcN_pre (f := smL L K) hp (L.length - a - b) (K.length - a - b)
      rw [show a + (L.length - a - b) = L.length - b by omega, show a + (K.length - a - b) = K.length - b by omega] at e2
      rw [e1, e2]
      omega
    generalize eg : (fun p k => smL L K (a + p) (a + k)) = g at el
    generalize ew : K.length - a - b = w at el
    have h124 : ∀ (m r : Nat), r + m = L.length - a - b → Proof_common_124 212 229 (L.length : Int) (a : Int) (b : Int) ((a + r : Nat) : Int) (wX σ 224 (ofF (fun t => ((lcN g r t : Nat) : Int)) (w + 1))) Q := by
      intro m
      induction m with
      | zero =>
        intro r hr
        have hrow : mX (wX σ 224 (ofF (fun t => ((lcN g r t : Nat) : Int)) (w + 1))) (212 + 12) = ofF (fun t => ((lcN g r t : Nat) : Int)) (w + 1) := wX_self
        have hb := lcN_le (f := g) r w
        refine Proof_common_124.i ⟨by unfold Rg; omega, by unfold Rg; omega, fun _ => tB.i rfl (tB.i rfl (tB.i rfl (tB.i rfl (tB.i rfl ?_)))), fun h9 => absurd h9 (by omega)⟩
        rw [hrow, ofF_len, show ((w + 1 : Nat) : Int) - 1 = (w : Int) by omega, ofF_rgt (by omega)]
        refine ⟨by unfold Rg; omega, by unfold Rg; omega, ?_⟩
        have e9 : (a : Int) + (b : Int) + ((lcN g r w : Nat) : Int) = ((lcN (smL L K) L.length K.length : Nat) : Int) := by rw [el, show L.length - a - b = r by omega]; omega
        rw [e9]
        exact hq _
      | succ m ih =>
        intro r hr
        refine Proof_common_124.i ⟨by unfold Rg; omega, by unfold Rg; omega, fun h9 => absurd h9 (by omega), fun _ => ?_⟩
        have inner : ∀ (m2 j : Nat), j + m2 = w → Proof_common_139 212 229 (L.length : Int) (a : Int) (b : Int) ((a + r : Nat) : Int) ((lcN g r j : Nat) : Int) ((j + 1 : Nat) : Int) (wX σ 224 (ofF (fun t => if t ≤ j then ((lcN g (r + 1) t : Nat) : Int) else ((lcN g r t : Nat) : Int)) (w + 1))) Q := by
          intro m2
          induction m2 with
          | zero =>
            intro j hj
            have hrow : mX (wX σ 224 (ofF (fun t => if t ≤ j then ((lcN g (r + 1) t : Nat) : Int) else ((lcN g r t : Nat) : Int)) (w + 1))) (212 + 12) = ofF (fun t => if t ≤ j then ((lcN g (r + 1) t : Nat) : Int) else ((lcN g r t : Nat) : Int)) (w + 1) := wX_self
            refine Proof_common_139.i (tB.i rfl (tB.i rfl ⟨by unfold Rg; omega, fun _ => ?_, fun h9 => absurd h9 (by rw [hrow, ofF_len]; omega)⟩))
            have := ih (r + 1) (by omega)
            rw [ofF_c (g := fun t => ((lcN g (r + 1) t : Nat) : Int)) (fun t ht => if_pos (by omega))]
            rw [show ((a + (r + 1) : Nat) : Int) = ((a + r : Nat) : Int) + 1 by omega] at this
            exact this
          | succ m2 ih2 =>
            intro j hj
            generalize eF : (fun t => if t ≤ j then ((lcN g (r + 1) t : Nat) : Int) else ((lcN g r t : Nat) : Int)) = F
            have F1 : F (j + 1) = ((lcN g r (j + 1) : Nat) : Int) := by rw [← eF]; exact if_neg (by omega)
            have F0 : F j = ((lcN g (r + 1) j : Nat) : Int) := by rw [← eF]; exact if_pos (by omega)
            have hrow : mX (wX σ 224 (ofF F (w + 1))) (212 + 12) = ofF F (w + 1) := wX_self
            have b1 := lcN_le (f := g) r (j + 1)
            have b2 := lcN_le (f := g) (r + 1) j
            have b3 := lcN_le (f := g) r j
            have last : ∀ v : Int, v = ((lcN g (r + 1) (j + 1) : Nat) : Int) → Proof_common_212 212 229 (L.length : Int) (a : Int) (b : Int) ((a + r : Nat) : Int) ((j + 1 : Nat) : Int) ((lcN g r (j + 1) : Nat) : Int) (212 + 12) ((j + 1 : Nat) : Int) v (wX σ 224 (ofF F (w + 1))) Q := by
              intro v hv
              have b4 := lcN_le (f := g) (r + 1) (j + 1)
              refine Proof_common_212.i (tB.i rfl (tB.i rfl ⟨by unfold Rg; omega, by unfold Rg; omega, ?_⟩))
              rw [hrow, ofF_alt (by omega)]
              have e2 := ih2 (j + 1) (by omega)
              have e3 : ofF (fun t => if t = j + 1 then v else F t) (w + 1) = ofF (fun t => if t ≤ j + 1 then ((lcN g (r + 1) t : Nat) : Int) else ((lcN g r t : Nat) : Int)) (w + 1) := ofF_c (fun t ht => by
                rw [← eF]
                dsimp only
                by_cases h1 : t = j + 1
                · rw [if_pos h1, if_pos (by omega), hv, h1]
                · rw [if_neg h1]
                  by_cases h2 : t ≤ j
                  · rw [if_pos h2, if_pos (by omega)]
                  · rw [if_neg h2, if_neg (by omega)])
              rw [e3]
              show Proof_common_139 212 229 _ _ _ _ _ _ (wX (wX σ 224 (ofF F (w + 1))) 224 _) Q
              rw [wX_wX]
              exact e2
            refine Proof_common_139.i (tB.i rfl (tB.i rfl ⟨by unfold Rg; omega, fun h9 => absurd h9 (by rw [hrow, ofF_len]; omega), fun _ => tB.i rfl (tB.i rfl (tB.i rfl ⟨by unfold Rg; omega, tB.i rfl ?_⟩))⟩))
            rw [show (a : Int) + ((j + 1 : Nat) : Int) - 1 = ((a + j : Nat) : Int) by omega]
            refine Proof_sameLine.s h.r224 k.r224 (by omega) (by omega) (tB.i rfl ⟨fun c => tB.i rfl (tB.i rfl (tB.i rfl ⟨by unfold Rg; omega, ?_⟩)), fun c => ?_⟩)
            · rw [hrow, ofF_rgt (by omega), show ((j + 1 : Nat) : Int) - 1 = (j : Int) by omega, ofF_rgt (by omega), F1, F0]
              refine last _ ?_
              rw [lcN_s, if_neg (by rw [← eg]; show ¬ smL L K (a + r) (a + j) = true; rw [bZ_z c]; decide)]
              omega
            · rw [hrow, ofF_rgt (by omega), F1]
              refine last _ ?_
              rw [lcN_s, if_pos (by rw [← eg]; exact bZ_ne c)]
              rfl
        have := inner w 0 (by omega)
        rw [lcN_0] at this
        rw [ofF_c (g := fun t => ((lcN g r t : Nat) : Int)) (fun t ht => by
          by_cases h0 : t ≤ 0
          · have : t = 0 := by omega
            subst this
            rw [if_pos (by omega), lcN_0, lcN_0]
          · rw [if_neg h0])] at this
        exact this
    have r0 := h124 (L.length - a - b) 0 (by omega)
    refine Proof_common_96.i (tB.i rfl (tB.i rfl (tB.i rfl (tB.i rfl (tB.i rfl (tB.i rfl ⟨by unfold Rg; omega, ?_, ?_⟩))))))
    · show ([] : List Int).length + _ ≤ 8192
      rw [List.length_nil]
      omega
    · have e0 : ((K.length : Int) - (a : Int) - (b : Int) + 1).toNat = w + 1 := by omega
      rw [e0]
      have e1 : mX (wX σ (212 + 12) ([] : List Int)) (212 + 12) ++ List.replicate (w + 1) (0 : Int) = ofF (fun t => ((lcN g 0 t : Nat) : Int)) (w + 1) := by
        rw [show mX (wX σ (212 + 12) ([] : List Int)) (212 + 12) = [] from wX_self, List.nil_append]
        refine list_ext (by rw [List.length_replicate, ofF_len]) (fun t ht => ?_)
        rw [List.length_replicate] at ht
        rw [ofF_get ht, List.getD_eq_getElem?_getD, List.getElem?_replicate, if_pos ht]
        rfl
      rw [e1]
      show Proof_common_124 212 229 _ _ _ _ (wX (wX σ 224 []) 224 _) Q
      rw [wX_wX]
      exact r0
  have h52 : ∀ a : Nat, a ≤ L.length → a ≤ K.length → (∀ i, i < a → smL L K i i = true) → Proof_common_49 212 229 (L.length : Int) (K.length : Int) (a : Int) σ Q := by
    intro a ha hb hp
    refine Proof_common_49.i ?_
    have go : ∀ (m b : Nat), a + b + m = L.length → a + b ≤ K.length → (∀ i, i < b → smL L K (L.length - 1 - i) (K.length - 1 - i) = true) → Proof_common_52 212 229 (L.length : Int) (K.length : Int) (a : Int) (b : Int) σ Q := by
      intro m
      induction m with
      | zero =>
        intro b h1 h2 hs
        exact Proof_common_52.i ⟨by unfold Rg; omega, by unfold Rg; omega, fun _ => h96 a b (by omega) h2 hp hs, fun h9 => absurd h9 (by omega)⟩
      | succ m ih =>
        intro b h1 h2 hs
        refine Proof_common_52.i ⟨by unfold Rg; omega, by unfold Rg; omega, fun h9 => absurd h9 (by omega), fun _ => ⟨by unfold Rg; omega, by unfold Rg; omega, fun _ => h96 a b (by omega) h2 hp hs, fun hlt => tB.i rfl ?_⟩⟩
        rw [show (L.length : Int) - 1 - (b : Int) = ((L.length - 1 - b : Nat) : Int) by omega, show (K.length : Int) - 1 - (b : Int) = ((K.length - 1 - b : Nat) : Int) by omega]
        refine Proof_sameLine.s h k (by omega) (by omega) ⟨fun c => h96 a b (by omega) h2 hp hs, fun c => ih (b + 1) (by omega) (by omega) (fun i hi => ?_)⟩
        by_cases e : i = b
        · subst e; exact bZ_ne c
        · exact hs i (by omega)
    exact go (L.length - a) 0 (by omega) (by omega) (fun i hi => absurd hi (Nat.not_lt_zero i))
  refine Proof_common.i (tB.i rfl (tB.i rfl (rows_s rfl rfl n1 (tB.i rfl (tB.i rfl (rows_s rfl rfl n2 ?_))))))
  have go : ∀ (m a : Nat), a + m = L.length → a ≤ K.length → (∀ i, i < a → smL L K i i = true) → Proof_common_19 212 229 (L.length : Int) (K.length : Int) (a : Int) σ Q := by
    intro m
    induction m with
    | zero =>
      intro a h1 h2 hp
      exact Proof_common_19.i ⟨by unfold Rg; omega, fun _ => h52 a (by omega) h2 hp, fun h9 => absurd h9 (by omega)⟩
    | succ m ih =>
      intro a h1 h2 hp
      refine Proof_common_19.i ⟨by unfold Rg; omega, fun h9 => absurd h9 (by omega), fun _ => ⟨by unfold Rg; omega, fun _ => h52 a (by omega) h2 hp, fun hlt => tB.i rfl (Proof_sameLine.s h k (by omega) (by omega) ⟨fun c => h52 a (by omega) h2 hp, fun c => ih (a + 1) (by omega) (by omega) (fun i hi => ?_)⟩)⟩⟩
      by_cases e : i = a
      · subst e; exact bZ_ne c
      · exact hp i (by omega)
  exact go L.length 0 (by omega) (by omega) (fun i hi => absurd hi (Nat.not_lt_zero i))
end
