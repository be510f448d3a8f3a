/-! TEXTS, THE CLASS: index, note, refer -/
section
variable {σ0 σ σ' : MS} {Q : MQ9} {E : TE} {a : Bool} {f : List (List Int)} {fr : Int} {A : List Int} {k : Nat} {R : List Int × Bool} {S H : List Int} {z z' : Nat} {n : Int} {s s' : TS}
theorem Texts_index.c {b : Int} {w : List (List Int)} (h : TxC σ E false f fr A k R S H z z' n s) (hi : TI (w.getD 0 []).length 0 s) (hal : 0 < E.2.2.2) (hb : 0 ≤ b ∧ b ≤ 1000) (h0 : arA H A b (w.getD 0 [])) (hq : TOk Q (gvI w s) (fun s' σ' => TxD σ E false f fr A k R S H z z' n s' σ') (FrT σ)) : Texts_index b σ Q := by
  have hi0 : TI 0 0 s := hi.mo (by omega) (Int.le_refl _)
  have hH : mX σ 93 = H := h.2.2.1.1.2.2.2.2.2
  have l1 := h.q.len hi0
  obtain ⟨z1, z2, hz, hz', hzz⟩ := h.2.2.1.2.1
  have hzz := hzz hal
  have h13 : mV σ 86 13 ≠ 0 := by
    rw [show mV σ 86 13 = E.2.2.2 from h.2.2.1.1.2.1]
    omega
  obtain ⟨⟨k1, k2, k3, k4, k5, k6, k7, k8, k9, k10, k11, k12, k13⟩, -, ⟨p1, p2, p3, p4, p5, p6, p7, p8⟩, ⟨x1, x2, x3, x4, x5, x6, x7, x8⟩⟩ := marks_ok hz
  obtain ⟨hLb, ⟨ky, ka⟩, hNo, hUn, hLt⟩ := h.2.2.1.2.2.2.1.2 hal
  obtain ⟨t1, t2, t3⟩ := hi.2.2.2.1
  have hsum := hi.2.2.2.2.2.2
  have h60 := hi.1.1.2
  obtain ⟨u, u1, u2, u3⟩ := id h0
  have l2 := u3.1
  have hpk := pkL_len (L := w.getD 0 [])
  have e25 : mX σ (z + 24 + 1) = s.2.2.2.2.1.1.flatten := ky.1
  refine Texts_index.i ?_
  rw [z1]
  refine tB.i k1 (tB.i k9 (tB.i k10 (tB.i k1 (tB.i k9 ⟨by unfold Rg; omega, by unfold Rg; omega, tB.i k10 ?_⟩))))
  refine Row_pack.c k10 cap100.2.2.2.2 (by omega) (Or.inl rfl) (L := w.getD 0 []) (u := u) (by rw [hH]; exact u1) (by rw [hH]; exact u2) (by omega) (fun t ht => by rw [show (u : Int) + (t : Int) = ((u + t : Nat) : Int) by omega, h.q.rd (by omega)]; exact u3.2 t ht) (by rw [e25, flat_len, p6]; omega) ?_
  rw [bnd_127]
  generalize e1 : wX σ (z + 24 + 1) (mX σ (z + 24 + 1) ++ ms7 (pkL (w.getD 0 []))) = σ1
  have y1 : mX σ1 (z + 24 + 1) = mX σ (z + 24 + 1) ++ ms7 (pkL (w.getD 0 [])) := by rw [← e1]; exact wX_self
  have f1 : FrT σ σ1 := by rw [← e1]; exact FrT.xm h13 hz z1 x6 (by omega) (by omega)
  have o1 : ∀ q, q ≠ z + 24 + 1 → mX σ1 q = mX σ q := fun q hq9 => by rw [← e1]; exact wX_ne hq9
  have v1 : σ1.2 = σ.2 := by rw [← e1]; rfl
  have b1 : mB σ1 2 = z := by rw [show mB σ1 = mB σ from congrArg (fun x => x.2.1) v1]; exact z1
  have w0 : mV σ1 22 0 = s.1.1 := by rw [show mV σ1 = mV σ from congrArg Prod.fst v1]; exact h.1.1
  have w1 : mV σ1 22 1 = s.1.2.1 := by rw [show mV σ1 = mV σ from congrArg Prod.fst v1]; exact h.1.2.1
  have fail : ∀ {m : Int} {Q' : MQ9}, (0 ≤ m ∧ m ≤ 20) → gvI w s = tFl m s → (∀ σ', Q (.inr (exN 0)) σ' → Q' (.inr (exN 0)) σ') → Purse_fail m σ1 Q' := fun hm e hQ => Purse_fail.s (s := s) hm w0 w1 (fun σ' q1 q2 => hQ σ' (hq.2 _ σ' e q1 (f1.tr (FrT.k2 q2))))
  show tB (isMarks (mB σ1 2)) _
  rw [b1]
  refine tB.i k1 (tB.i k9 (tB.i k10 ?_))
  rw [y1, List.length_append, ms7_len]
  refine ⟨fun c => Texts_index_76.i ?_, fun c => fail (by decide) ?_ (fun _ h9 => h9)⟩
  · have ne : ¬ pkL (w.getD 0 []) = [] := fun e => c (by rw [e, List.length_nil]; rfl)
    rw [b1]
    have n3 : (mX σ1 (z + 24 + 3)).length = s.2.2.2.2.1.1.length := by rw [o1 _ (by omega), ky.2, enS_len]
    refine tB.i k1 (tB.i k9 (rows_s k9 k11 n3 ⟨fun d => Texts_index_100.i ?_, fun d => fail (by decide) (by unfold gvI; rw [if_neg ne, if_pos (by omega)]) (fun _ h9 => h9)⟩))
    have eg : gvI w s = .inl (sKy s (s.2.2.2.2.1.1 ++ [ms7 (pkL (w.getD 0 []))]) (s.2.2.2.2.1.2 ++ [lsP (pkL s.2.1)])) := by
      unfold gvI
      rw [if_neg ne, if_neg (by omega)]
    rw [b1]
    refine tB.i k1 (tB.i k9 ?_)
    have y1' : mX σ1 (z + 24 + 1) = (s.2.2.2.2.1.1 ++ [ms7 (pkL (w.getD 0 []))]).flatten := by rw [y1, flat_sn, e25]
    have y3 : mX σ1 (z + 24 + 3) = enS 0 s.2.2.2.2.1.1 := by rw [o1 _ (by omega)]; exact ky.2
    refine Shelf_close.i (tB.i k9 (tB.i k9 (tB.i k10 (tB.i k11 (tB.i k11 ⟨by rw [y3, enS_len, p7]; omega, ?_⟩)))))
    rw [shR.close y1' y3]
    generalize e2 : wX σ1 (z + 24 + 3) (enS 0 (s.2.2.2.2.1.1 ++ [ms7 (pkL (w.getD 0 []))])) = σ2
    have o2 : ∀ q, q ≠ z + 24 + 1 → q ≠ z + 24 + 3 → mX σ2 q = mX σ q := fun q h1 h2 => by rw [← e2, wX_ne h2]; exact o1 q h1
    have v2 : σ2.2 = σ.2 := by rw [← e2]; exact v1
    have f2 : FrT σ σ2 := by rw [← e2]; exact f1.tr (FrT.xm (by rw [show mV σ1 = mV σ from congrArg Prod.fst v1]; exact h13) hz b1 x7 (by omega) (by omega))
    have b2 : mB σ2 2 = z := by rw [show mB σ2 = mB σ from congrArg (fun x => x.2.1) v2]; exact z1
    have sh2 : shR σ2 (z + 24) (s.2.2.2.2.1.1 ++ [ms7 (pkL (w.getD 0 []))]) := ⟨by rw [← e2, wX_ne (by omega)]; exact y1', by rw [← e2]; exact wX_self⟩
    show tB (isMarks (mB σ2 2)) _
    rw [b2]
    have x87 : mX σ2 87 = pkL s.2.1 := by
      rw [o2 _ (by omega) (by omega), h.2.1.1.1, (h.2.1.2.2.2.2 rfl).1]
      rfl
    have pl := pkL_len (L := s.2.1)
    refine tB.i k1 (Texts_lastSolid.c (by rw [x87]; omega) ?_)
    rw [x87]
    have la2 : mX σ2 (z + 29) = s.2.2.2.2.1.2 := by rw [o2 _ (by omega) (by omega)]; exact ka
    show tB (isRow (z + 29)) (tB (isRow (z + 29)) ((mX σ2 (z + 29)).length < capOf (z + 29) ∧ Q (.inl none) (wX σ2 (z + 29) (mX σ2 (z + 29) ++ [lsP (pkL s.2.1)]))))
    refine tB.i k12 (tB.i k12 ?_)
    rw [la2]
    refine ⟨by rw [p8]; omega, hq.1 _ _ eg ⟨f2.tr (FrT.xm (by rw [show mV σ2 = mV σ from congrArg Prod.fst v2]; exact h13) hz b2 x8 (by omega) (by omega)), R, ?_, fun h9 => Bool.noConfusion h9⟩⟩
    refine TxC.mk (s := s) h (fun q h1 h2 h3 h4 => by rw [wX_ne (by omega)]; exact o2 q (by omega) (by omega)) (fun y i _ => by show mV σ2 y i = _; rw [show mV σ2 = mV σ from congrArg Prod.fst v2]) (congrArg Prod.snd v2) hzz rfl rfl rfl ?_
    have oo : ∀ q, q ≠ z + 24 + 1 → q ≠ z + 24 + 3 → q ≠ z + 29 → mX (wX σ2 (z + 29) (s.2.2.2.2.1.2 ++ [lsP (pkL s.2.1)])) q = mX σ q := fun q h1 h2 h3 => by rw [wX_ne h3]; exact o2 q h1 h2
    refine KM.of ⟨⟨hLb.1.cg (oo _ (by omega) (by omega) (by omega)) (oo _ (by omega) (by omega) (by omega)), hLb.2.1.cg (oo _ (by omega) (by omega) (by omega)) (oo _ (by omega) (by omega) (by omega)), by rw [oo _ (by omega) (by omega) (by omega)]; exact hLb.2.2⟩, ⟨sh2.cg (wX_ne (by omega)) (wX_ne (by omega)), wX_self⟩, ⟨?_, hNo.2.1.cg (oo _ (by omega) (by omega) (by omega)) (oo _ (by omega) (by omega) (by omega)), by rw [oo _ (by omega) (by omega) (by omega)]; exact hNo.2.2⟩, ?_, by rw [oo _ (by omega) (by omega) (by omega)]; exact hLt⟩
    · show mV σ2 z 12 = _
      rw [show mV σ2 = mV σ from congrArg Prod.fst v2]; exact hNo.1
    · show mV σ2 z 13 = _
      rw [show mV σ2 = mV σ from congrArg Prod.fst v2]; exact hUn
  · have e : pkL (w.getD 0 []) = [] := List.eq_nil_of_length_eq_zero (by omega)
    unfold gvI
    rw [if_pos e]
theorem pkM_sn {W : List (List Int)} {w : List Int} : (W ++ [w]).map pkL = W.map pkL ++ [pkL w] := by
  rw [List.map_append]
  rfl
theorem suM_pk : ∀ {W : List (List Int)}, suM (W.map pkL) ≤ suM W
  | [] => Nat.le_refl _
  | w :: W => by
    have a := pkL_len (L := w)
    have b := suM_pk (W := W)
    show (pkL w).length + suM (W.map pkL) ≤ w.length + suM W
    omega
theorem cap105 : capOf 105 = 65536 ∧ capOf 107 = 64 ∧ isRow 105 = true ∧ isRow 107 = true ∧ isShelf 104 = true := by decide +kernel
theorem ps_same : ∀ {L : List Int} {s t : TS}, t.1 = s.1 → (∀ t', tPs L t = .inl t' → tPs L s = .inl (sOu (sWk s (s.1.1 + L.length) (s.1.2.1 + L.length)) (s.2.1 ++ L))) ∧ (∀ e, tPs L t = .inr e → tPs L s = .inr e)
  | [], s, t, h => by
    refine ⟨fun t' e => ?_, fun e h9 => by cases h9⟩
    show Sum.inl s = Sum.inl ((s.1.1 + ((0 : Nat) : Int), s.1.2.1 + ((0 : Nat) : Int), s.1.2.2), s.2.1 ++ [], s.2.2)
    rw [List.append_nil, show s.1.1 + ((0 : Nat) : Int) = s.1.1 by omega, show s.1.2.1 + ((0 : Nat) : Int) = s.1.2.1 by omega]
  | c :: r, s, t, h => by
    have one : (∃ t1, tPt c t = .inl t1) ↔ (∃ s1, tPt c s = .inl s1) := by
      unfold tPt tSp
      rw [h]
      by_cases hc : 60000 < s.1.1 + 1 ∨ 400000 < s.1.2.1 + 1
      · rw [if_pos hc, if_pos hc]
        constructor
        · rintro ⟨_, h9⟩
          cases h9
        · rintro ⟨_, h9⟩
          cases h9
      · rw [if_neg hc, if_neg hc]
        exact ⟨fun _ => ⟨_, rfl⟩, fun _ => ⟨_, rfl⟩⟩
    constructor
    · intro t' e
      obtain ⟨t1, h1, h2⟩ := bd_i e
      obtain ⟨s1, h3⟩ := one.mp ⟨t1, h1⟩
      obtain ⟨e1, -, -⟩ := pt_i h1
      obtain ⟨e2, -, -⟩ := pt_i h3
      have := (ps_same (L := r) (s := s1) (t := t1) (by rw [e1, e2]; show ((t.1.1 + 1, t.1.2.1 + 1, t.1.2.2) : Int × Int × Int) = (s.1.1 + 1, s.1.2.1 + 1, s.1.2.2); rw [h])).1 t' h2
      show tBd (tPt c s) (tPs r) = _
      rw [h3]
      show tPs r s1 = _
      rw [this, e2]
      show Sum.inl ((s.1.1 + 1 + (r.length : Int), s.1.2.1 + 1 + (r.length : Int), s.1.2.2), s.2.1 ++ [c] ++ r, s.2.2) = Sum.inl ((s.1.1 + ((c :: r).length : Int), s.1.2.1 + ((c :: r).length : Int), s.1.2.2), s.2.1 ++ c :: r, s.2.2)
      rw [List.append_assoc, List.length_cons, show s.1.1 + 1 + (r.length : Int) = s.1.1 + ((r.length + 1 : Nat) : Int) by omega, show s.1.2.1 + 1 + (r.length : Int) = s.1.2.1 + ((r.length + 1 : Nat) : Int) by omega]
      rfl
    · intro e he
      have he2 : tBd (tPt c t) (tPs r) = .inr e := he
      show tBd (tPt c s) (tPs r) = .inr e
      cases h1 : tPt c t with
      | inl t1 =>
        obtain ⟨s1, h3⟩ := one.mp ⟨t1, h1⟩
        obtain ⟨e1, -, -⟩ := pt_i h1
        obtain ⟨e2, -, -⟩ := pt_i h3
        rw [h1] at he2
        rw [h3]
        exact (ps_same (L := r) (s := s1) (t := t1) (by rw [e1, e2]; show ((t.1.1 + 1, t.1.2.1 + 1, t.1.2.2) : Int × Int × Int) = (s.1.1 + 1, s.1.2.1 + 1, s.1.2.2); rw [h])).2 e he2
      | inr e' =>
        rw [h1] at he2
        cases h3 : tPt c s with
        | inl s1 =>
          obtain ⟨t1, h4⟩ := one.mpr ⟨s1, h3⟩
          rw [h1] at h4
          cases h4
        | inr e2 =>
          have : e2 = e' := by
            unfold tPt tSp at h1 h3
            rw [h] at h1
            by_cases hc : 60000 < s.1.1 + 1 ∨ 400000 < s.1.2.1 + 1
            · rw [if_pos hc] at h1 h3
              have a1 : (8, t.1.1, t.1.2.1) = e' := Sum.inr.inj h1
              have a2 : (8, s.1.1, s.1.2.1) = e2 := Sum.inr.inj h3
              rw [← a1, ← a2, h]
            · rw [if_neg hc] at h3
              cases h3
          rw [this]
          exact he2
theorem Texts_scrN {M : List Int} {t : TS} (e1 : t.1 = s.1) (e2 : t.2.1 = s.2.1) (h : TxC σ E a f fr A k R S H z z' n s) (hi : TI 0 0 t) (hl : M.length ≤ 64) (hb : smB M) (ok : ∀ s4 σ4, tPn M s = .inl s4 → FrT σ σ4 → ∀ R4, TxC σ4 E a f fr A k R4 S H z z' n s4 → Q (.inl none) σ4) (no : ∀ e σ', tPn M s = .inr e → TxF σ' e → FrT σ σ' → Q (.inr (exN 0)) σ') : Texts_putScratch (wX σ 95 M) Q := by
  have hC : TxC (wX σ 95 M) E a f fr A k R S H z z' n s := by
    obtain ⟨w, ⟨⟨r1, r2, r3⟩, g1, g2, g3, g4⟩, hk, hn⟩ := h
    have e89 : mX (wX σ 95 M) 89 = mX σ 89 := wX_ne (by decide)
    exact ⟨w, ⟨⟨(wX_ne (by decide)).trans r1, r2, r3⟩, by rw [e89]; exact g1, by rw [e89]; exact g2, by rw [e89]; exact g3, by rw [e89]; exact g4⟩, hk.x95, hn⟩
  have ht : TxQ (wX σ 95 M) a A k R t (wX σ 95 M) := by
    obtain ⟨⟨w1, w2, w3⟩, ⟨⟨r1, r2, r3⟩, g1, g2, g3, g4⟩, hk, hn⟩ := hC
    exact ⟨⟨by rw [e1]; exact w1, by rw [e1]; exact w2, by rw [e1]; exact w3⟩, K2.rf, R, ⟨⟨r1, r2, r3⟩, by rw [e1]; exact g1, g2, by rw [e2]; exact g3, by rw [e2]; exact g4⟩, fun _ => rfl⟩
  have y : t.1.2.2 = s.1.2.2 := by rw [e1]
  refine Texts_putScratch.c (σ0 := wX σ 95 M) hC.2.2.2 wX_self hl hb ht hi ⟨fun t4 σ4 he q4 => ?_, fun e σ4 he q1 q2 => no e σ4 ?_ q1 ((FrT.x (by decide)).tr (FrT.k2 q2))⟩
  · have he2 : tPs (M.map (cdS t.1.2.2)) t = .inl t4 := he
    have h4 := (ps_same (L := M.map (cdS t.1.2.2)) (s := s) (t := t) e1).1 t4 he2
    have i4 := ps_i he2
    have e9 : tPn M s = .inl (sOu (sWk s (s.1.1 + (M.map (cdS t.1.2.2)).length) (s.1.2.1 + (M.map (cdS t.1.2.2)).length)) (s.2.1 ++ M.map (cdS t.1.2.2))) := by
      unfold tPn
      rw [← y]
      exact h4
    obtain ⟨⟨w1, w2, w3⟩, k2, R', ⟨⟨r1, r2, r3⟩, g1, g2, g3, g4⟩, hR⟩ := q4
    rw [i4] at w1 w2 w3 g1 g3 g4
    obtain ⟨R4, c4, -⟩ := TxC.put (s := s) (s' := sOu (sWk s (s.1.1 + (M.map (cdS t.1.2.2)).length) (s.1.2.1 + (M.map (cdS t.1.2.2)).length)) (s.2.1 ++ M.map (cdS t.1.2.2))) hC.2.2.1 hC.2.2.2 ⟨_, rfl⟩ (σ := σ4) (A := A) (k := k) (R := R') ⟨⟨by rw [w1]; show t.1.1 + _ = s.1.1 + _; rw [e1], by rw [w2]; show t.1.2.1 + _ = s.1.2.1 + _; rw [e1], by rw [w3]; show t.1.2.2 = s.1.2.2; rw [e1]⟩, k2, R', ⟨⟨r1, r2, r3⟩, by rw [show (sOu (sWk s (s.1.1 + (M.map (cdS t.1.2.2)).length) (s.1.2.1 + (M.map (cdS t.1.2.2)).length)) (s.2.1 ++ M.map (cdS t.1.2.2))).1.1 = t.1.1 + (M.map (cdS t.1.2.2)).length by rw [e1]; rfl]; exact g1, g2, by rw [show (sOu (sWk s (s.1.1 + (M.map (cdS t.1.2.2)).length) (s.1.2.1 + (M.map (cdS t.1.2.2)).length)) (s.2.1 ++ M.map (cdS t.1.2.2))).2.1 = t.2.1 ++ M.map (cdS t.1.2.2) by rw [e2]; rfl]; exact g3, by rw [show (sOu (sWk s (s.1.1 + (M.map (cdS t.1.2.2)).length) (s.1.2.1 + (M.map (cdS t.1.2.2)).length)) (s.2.1 ++ M.map (cdS t.1.2.2))).2.1 = t.2.1 ++ M.map (cdS t.1.2.2) by rw [e2]; rfl]; exact g4⟩, fun _ => rfl⟩
    exact ok _ σ4 e9 ((FrT.x (by decide)).tr (FrT.k2 k2)) R4 c4
  · have he2 : tPs (M.map (cdS t.1.2.2)) t = .inr e := he
    unfold tPn
    rw [← y]
    exact (ps_same (L := M.map (cdS t.1.2.2)) (s := s) (t := t) e1).2 e he2
theorem Texts_note.c {b : Int} {w : List (List Int)} (h : TxC σ E false f fr A k R S H z z' n s) (hi : TI (w.getD 0 []).length 0 s) (hal : 0 < E.2.2.2) (hb : 0 ≤ b ∧ b ≤ 1000) (h0 : arA H A b (w.getD 0 [])) (hq : TOk Q (gvN w s) (fun s' σ' => TxD σ E false f fr A k R S H z z' n s' σ') (FrT σ)) : Texts_note b σ Q := by
  have hi0 : TI 0 0 s := hi.mo (by omega) (Int.le_refl _)
  have hH : mX σ 93 = H := h.2.2.1.1.2.2.2.2.2
  have l1 := h.q.len hi0
  obtain ⟨z1, z2, hz, hz', hzz⟩ := h.2.2.1.2.1
  have hzz := hzz hal
  have h13 : mV σ 86 13 ≠ 0 := by
    rw [show mV σ 86 13 = E.2.2.2 from h.2.2.1.1.2.1]
    omega
  obtain ⟨⟨k1, -⟩, -⟩ := marks_ok hz
  obtain ⟨hLb, hKy, ⟨nn, nt, nc⟩, hUn, hLt⟩ := h.2.2.1.2.2.2.1.2 hal
  obtain ⟨t1, t2, t3, t4⟩ := hi.2.2.2.2.1
  have hsum := hi.2.2.2.2.2.2
  have h60 := hi.1.1.2
  obtain ⟨c1, c2, c3, c4, c5⟩ := cap105
  obtain ⟨u, u1, u2, u3⟩ := id h0
  have l2 := u3.1
  have hok : okK (w.getD 0 []) := u3.ok h.q.ok
  have hsp := suM_pk (W := s.2.2.2.2.2.1.1)
  refine Texts_note.i ?_
  rw [z1, nn]
  refine tB.i k1 ⟨fun c => Texts_note_21.i ?_, fun c => h.q.fail (by decide) (fun σ' q1 q2 => hq.2 _ σ' (by unfold gvN; rw [if_pos c]; rfl) q1 (FrT.k2 q2))⟩
  have eg : gvN w s = tBd (tPn (91 :: (wrN (s.2.2.2.2.2.1.2.2 + 1) 1 ++ [93])) (sNo s (s.2.2.2.2.2.1.1 ++ [w.getD 0 []]) s.2.2.2.2.2.1.2.1 (s.2.2.2.2.2.1.2.2 + 1))) (fun s1 => .inl (sNo s1 s1.2.2.2.2.2.1.1 (s1.2.2.2.2.2.1.2.1 ++ [((pkL s1.2.1).length : Int) - 1]) s1.2.2.2.2.2.1.2.2)) := by
    unfold gvN
    rw [if_neg (by omega)]
  rw [eg] at hq
  rw [z1, nn]
  refine tB.i k1 (tB.i k1 ⟨by unfold Rg; omega, by unfold Rg; omega, by unfold Rg; omega, ?_⟩)
  generalize e1 : wV σ z 12 (s.2.2.2.2.2.1.2.2 + 1) = σ1
  have o1 : ∀ q, mX σ1 q = mX σ q := fun q => by rw [← e1]; rfl
  have v1 : ∀ y i, ¬ (y = z ∧ i = 12) → mV σ1 y i = mV σ y i := fun y i hy => by rw [← e1]; exact wV_ne (by omega)
  have m12 : mV σ1 z 12 = s.2.2.2.2.2.1.2.2 + 1 := by rw [← e1]; exact wV_self
  have f1 : FrT σ σ1 := by rw [← e1]; exact FrT.vz hz (Or.inl ⟨rfl, h13⟩)
  have B1 : σ1.2.2 = σ.2.2 := by rw [← e1]; rfl
  have x105 : mX σ1 105 = (s.2.2.2.2.2.1.1.map pkL).flatten := by rw [o1]; exact nt.1
  refine Row_pack.c c3 cap100.2.2.2.2 (by decide) (Or.inr rfl) (L := w.getD 0 []) (u := u) (by rw [hH]; exact u1) (by rw [hH]; exact u2) (by omega) (fun t ht => by rw [o1, show (u : Int) + (t : Int) = ((u + t : Nat) : Int) by omega, h.q.rd (by omega)]; exact u3.2 t ht) (by rw [x105, flat_len, c1]; omega) ?_
  rw [bnd_1023 (pkL_ok hok)]
  generalize e2 : wX σ1 105 (mX σ1 105 ++ pkL (w.getD 0 [])) = σ2
  have y1 : mX σ2 (104 + 1) = (s.2.2.2.2.2.1.1.map pkL ++ [pkL (w.getD 0 [])]).flatten := by rw [← e2, flat_sn, ← x105]; exact wX_self
  have y3 : mX σ2 (104 + 3) = enS 0 (s.2.2.2.2.2.1.1.map pkL) := by rw [← e2]; exact (wX_ne (by decide)).trans ((o1 107).trans nt.2)
  refine Shelf_close.i (tB.i c5 (tB.i c5 (tB.i c3 (tB.i c4 (tB.i c4 ⟨?_, ?_⟩)))))
  · rw [y3, enS_len, List.length_map]
    show _ < capOf 107
    rw [c2]
    omega
  · rw [shR.close y1 y3]
    generalize e3 : wX σ2 (104 + 3) (enS 0 (s.2.2.2.2.2.1.1.map pkL ++ [pkL (w.getD 0 [])])) = σ3
    have o3 : ∀ q, q ≠ 105 → q ≠ 107 → mX σ3 q = mX σ q := fun q h1 h2 => by rw [← e3, wX_ne h2, ← e2, wX_ne h1]; exact o1 q
    have v3 : ∀ y i, ¬ (y = z ∧ i = 12) → mV σ3 y i = mV σ y i := fun y i hy => by rw [← e3, ← e2]; exact v1 y i hy
    have q12 : mV σ3 z 12 = s.2.2.2.2.2.1.2.2 + 1 := by rw [← e3, ← e2]; exact m12
    have B3 : σ3.2.2 = σ.2.2 := by rw [← e3, ← e2]; exact B1
    have f3 : FrT σ σ3 := by rw [← e3, ← e2]; exact f1.tr ((FrT.x (by decide)).tr (FrT.x (by decide)))
    have b3 : mB σ3 2 = z := by rw [show mB σ3 = mB σ from congrArg Prod.fst B3]; exact z1
    have sh3 : shR σ3 104 ((s.2.2.2.2.2.1.1 ++ [w.getD 0 []]).map pkL) := by rw [pkM_sn]; exact ⟨by rw [← e3, wX_ne (by decide)]; exact y1, by rw [← e3]; exact wX_self⟩
    have hC3 : TxC σ3 E false f fr A k R S H z z' n (sNo s (s.2.2.2.2.2.1.1 ++ [w.getD 0 []]) s.2.2.2.2.2.1.2.1 (s.2.2.2.2.2.1.2.2 + 1)) := by
      refine TxC.mk (s := s) h (fun q h1 h2 _ _ => o3 q h1 h2) (fun y i hy => v3 y i (by omega)) B3 hzz rfl rfl rfl ?_
      exact KM.of ⟨⟨hLb.1.cg (o3 _ (by omega) (by omega)) (o3 _ (by omega) (by omega)), hLb.2.1.cg (o3 _ (by omega) (by omega)) (o3 _ (by omega) (by omega)), by rw [o3 _ (by omega) (by omega)]; exact hLb.2.2⟩, ⟨hKy.1.cg (o3 _ (by omega) (by omega)) (o3 _ (by omega) (by omega)), by rw [o3 _ (by omega) (by omega)]; exact hKy.2⟩, ⟨q12, sh3, by rw [o3 109 (by decide) (by decide)]; exact nc⟩, by rw [v3 _ _ (by omega)]; exact hUn, by rw [o3 _ (by omega) (by omega)]; exact hLt⟩
    show ([] : List Int).length < 64 ∧ tB (isMarks (mB σ3 2)) (Row_putNumber 95 (mV σ3 (mB σ3 2) 12) 1 (wX (wX σ3 95 []) 95 ([] ++ [91])) _)
    rw [b3, q12]
    refine ⟨by decide, tB.i k1 ?_⟩
    rw [wX_wX, List.nil_append]
    have hwl := wrN_len (n := s.2.2.2.2.2.1.2.2 + 1) (sys := 1)
    refine Row_putNumber.s cap95.2 (by omega) (by decide) (fun h9 => absurd h9 (by decide)) (by rw [wX_self, List.length_singleton, cap95.1]; omega) ?_
    show (mX (wX (wX σ3 95 [91]) 95 (mX (wX σ3 95 [91]) 95 ++ wrN (s.2.2.2.2.2.1.2.2 + 1) 1)) 95).length < 64 ∧ Texts_putScratch (wX (wX (wX σ3 95 [91]) 95 (mX (wX σ3 95 [91]) 95 ++ wrN (s.2.2.2.2.2.1.2.2 + 1) 1)) 95 (mX (wX (wX σ3 95 [91]) 95 (mX (wX σ3 95 [91]) 95 ++ wrN (s.2.2.2.2.2.1.2.2 + 1) 1)) 95 ++ [93])) _
    rw [wX_self, wX_wX, wX_self, wX_wX]
    have e93 : [91] ++ wrN (s.2.2.2.2.2.1.2.2 + 1) 1 ++ [93] = 91 :: (wrN (s.2.2.2.2.2.1.2.2 + 1) 1 ++ [93]) := rfl
    rw [e93]
    refine ⟨by rw [List.length_append, List.length_singleton]; omega, ?_⟩
    have hi3 : TI 0 0 (sNo s (s.2.2.2.2.2.1.1 ++ [w.getD 0 []]) (s.2.2.2.2.2.1.2.1 ++ [0]) (s.2.2.2.2.2.1.2.2 + 1)) := by
      obtain ⟨ia, ib, ic, id, -, ig, ih⟩ := hi
      refine ⟨ia, ib, ic, id, ⟨?_, ?_, ?_, fun x hx => ?_⟩, ig, ?_⟩
      · show (s.2.2.2.2.2.1.2.1 ++ [0]).length = (s.2.2.2.2.2.1.1 ++ [w.getD 0 []]).length
        rw [List.length_append, List.length_append, t1]
        rfl
      · show ((s.2.2.2.2.2.1.1 ++ [w.getD 0 []]).length : Int) ≤ s.2.2.2.2.2.1.2.2 + 1
        rw [List.length_append, List.length_singleton]
        omega
      · show s.2.2.2.2.2.1.2.2 + 1 ≤ 60
        omega
      · rcases List.mem_append.mp hx with hx | hx
        · exact t4 x hx
        · rw [List.mem_singleton.mp hx]; exact hok
      · show (suM s.2.2.2.2.1.1 : Int) + suM (s.2.2.2.2.2.1.1 ++ [w.getD 0 []]) + s.2.1.length + 0 ≤ s.1.1 + 100
        rw [suM_sn]
        omega
    have sm9 : smB (91 :: (wrN (s.2.2.2.2.2.1.2.2 + 1) 1 ++ [93])) := (smB.one (x := 91) (by decide)).app (wrN_s.app (smB.one (by decide)))
    have l9 : (91 :: (wrN (s.2.2.2.2.2.1.2.2 + 1) 1 ++ [93])).length ≤ 64 := by rw [List.length_cons, List.length_append, List.length_singleton]; omega
    refine Texts_scrN (s := sNo s (s.2.2.2.2.2.1.1 ++ [w.getD 0 []]) s.2.2.2.2.2.1.2.1 (s.2.2.2.2.2.1.2.2 + 1)) (t := sNo s (s.2.2.2.2.2.1.1 ++ [w.getD 0 []]) (s.2.2.2.2.2.1.2.1 ++ [0]) (s.2.2.2.2.2.1.2.2 + 1)) rfl rfl hC3 hi3 l9 sm9 (fun s4 σ4 e4 f4 R4 c4 => ?_) (fun e σ4 he q1 q2 => hq.no he q1 (f3.tr q2))
    have hs4 := ps_i e4
    have hcar : s4.2.2.2.2.2.1.2.1 = s.2.2.2.2.2.1.2.1 := by rw [hs4]; rfl
    have hk4 := c4.2.2.1.2.2.2.1.2 hal
    have x87 : mX σ4 87 = pkL s4.2.1 := by rw [c4.2.1.1.1, (c4.2.1.2.2.2.2 rfl).1]; rfl
    have x109 : mX σ4 109 = s4.2.2.2.2.2.1.2.1 := hk4.2.2.1.2.2
    have o4 := c4.2.1.1.2.2
    have lr : (mX σ4 87).length ≤ 60200 := by rw [c4.2.1.1.1]; exact o4
    show Rg (((mX σ4 87).length : Int) - 1) ∧ (mX σ4 109).length < 64 ∧ Q (.inl none) (wX σ4 109 (mX σ4 109 ++ [((mX σ4 87).length : Int) - 1]))
    refine ⟨by unfold Rg; omega, by rw [x109, hcar]; omega, ?_⟩
    rw [x109, x87]
    refine (hq.bd e4).1 _ _ rfl ⟨f3.tr (f4.tr (FrT.x (by decide))), R4, ?_, fun h9 => Bool.noConfusion h9⟩
    obtain ⟨hLb4, hKy4, ⟨nn4, nt4, nc4⟩, hUn4, hLt4⟩ := hk4
    refine TxC.mk (s := s4) c4 (fun q _ _ h3 _ => wX_ne h3) (fun y i _ => rfl) rfl hzz rfl rfl rfl ?_
    exact KM.of ⟨⟨hLb4.1.cg (wX_ne (by omega)) (wX_ne (by omega)), hLb4.2.1.cg (wX_ne (by omega)) (wX_ne (by omega)), by rw [wX_ne (by omega)]; exact hLb4.2.2⟩, ⟨hKy4.1.cg (wX_ne (by omega)) (wX_ne (by omega)), by rw [wX_ne (by omega)]; exact hKy4.2⟩, ⟨nn4, nt4.cg (wX_ne (by decide)) (wX_ne (by decide)), wX_self⟩, hUn4, by rw [wX_ne (by omega)]; exact hLt4⟩
end
