/-! TEXTS, THE CLASS: marks -/
theorem marks_ok {z : Nat} (hz : z = 49 ∨ z = 163) : (isMarks z = true ∧ isShelf (z + 1) = true ∧ isRow (z + 1 + 1) = true ∧ isRow (z + 1 + 3) = true ∧ isShelf (z + 6) = true ∧ isRow (z + 6 + 1) = true ∧ isRow (z + 6 + 3) = true ∧ isRow (z + 11) = true ∧ isShelf (z + 24) = true ∧ isRow (z + 24 + 1) = true ∧ isRow (z + 24 + 3) = true ∧ isRow (z + 29) = true ∧ isRow (z + 35) = true) ∧ (neB 89 (z + 1 + 1) = true ∧ neB (z + 35) (z + 6 + 1) = true ∧ neB (z + 6 + 1) 95 = true) ∧ (capOf (z + 1 + 1) = 1024 ∧ capOf (z + 1 + 3) = 64 ∧ capOf (z + 6 + 1) = 2048 ∧ capOf (z + 6 + 3) = 64 ∧ capOf (z + 11) = 64 ∧ capOf (z + 24 + 1) = 65536 ∧ capOf (z + 24 + 3) = 128 ∧ capOf (z + 29) = 128) ∧ (z + 1 + 1 ∈ TXX ∧ z + 1 + 3 ∈ TXX ∧ z + 6 + 1 ∈ TXX ∧ z + 6 + 3 ∈ TXX ∧ z + 11 ∈ TXX ∧ z + 24 + 1 ∈ TXX ∧ z + 24 + 3 ∈ TXX ∧ z + 29 ∈ TXX) := by
  rcases hz with rfl | rfl <;> decide +kernel
theorem lsP_sn {c : Int} : ∀ L : List Int, lsP (L ++ [c]) = if c % 128 = 32 then lsP L else (L.length : Int)
  | [] => by
    show (if (-1 : Int) = -1 then (if c % 128 = 32 then (-1 : Int) else 0) else -1 + 1) = _
    rw [if_pos rfl]
    rfl
  | x :: r => by
    have ih := lsP_sn (c := c) r
    show (if lsP (r ++ [c]) = -1 then (if x % 128 = 32 then (-1 : Int) else 0) else lsP (r ++ [c]) + 1) = if c % 128 = 32 then (if lsP r = -1 then (if x % 128 = 32 then (-1 : Int) else 0) else lsP r + 1) else ((x :: r).length : Int)
    by_cases h : c % 128 = 32
    · rw [if_pos h] at ih ⊢
      rw [ih]
    · rw [if_neg h] at ih ⊢
      rw [ih, if_neg (by omega), List.length_cons]
      rfl
theorem lsP_b : ∀ L : List Int, -1 ≤ lsP L ∧ lsP L < L.length
  | [] => ⟨Int.le_refl _, by decide⟩
  | x :: r => by
    have ih := lsP_b r
    unfold lsP
    rw [List.length_cons]
    split
    · split <;> omega
    · omega
theorem snoc_of {L : List Int} (h : 0 < L.length) : ∃ q c, L = q ++ [c] := by
  have hL : L ≠ [] := fun e => by rw [e] at h; exact absurd h (Nat.lt_irrefl _)
  exact ⟨L.dropLast, L.getLast hL, (List.dropLast_concat_getLast hL).symm⟩
section
variable {σ0 σ σ' : MS} {Q : MQ9} {E : TE} {a : Bool} {f : List (List Int)} {fr : Int} {A : List Int} {k : Nat} {R : List Int × Bool} {S H : List Int} {z z' : Nat} {n : Int} {s s' : TS}
theorem ls_10 (hl : (mX σ 87).length ≤ 70000) : ∀ (m : Nat) (p r : List Int), p.length = m → mX σ 87 = p ++ r → Q (.inl (some (lsP p))) σ → Texts_lastSolid_10 ((m : Int) - 1) σ Q := by
  intro m
  induction m with
  | zero =>
    intro p r hp he hq
    have : p = [] := List.eq_nil_of_length_eq_zero hp
    subst this
    exact Texts_lastSolid_10.i ⟨by decide, fun _ => ⟨by decide, hq⟩, fun h9 => absurd h9 (by decide)⟩
  | succ m ih =>
    intro p r hp he hq
    obtain ⟨q, c, rfl⟩ := snoc_of (L := p) (by omega)
    rw [List.length_append, List.length_singleton] at hp
    have hq9 : q.length = m := by omega
    have hlen : (mX σ 87).length = q.length + 1 + r.length := by rw [he, List.length_append, List.length_append, List.length_singleton]
    have hx : rgt (mX σ 87) (m : Int) = c := by
      have he2 : mX σ 87 = q ++ c :: r := by rw [he, List.append_assoc]; rfl
      rw [← hq9]
      exact rgt_at he2
    rw [show ((m + 1 : Nat) : Int) - 1 = (m : Int) by omega]
    rw [lsP_sn] at hq
    refine Texts_lastSolid_10.i ⟨by unfold Rg; omega, fun h9 => absurd h9 (by omega), fun _ => ⟨by unfold Rg; omega, ?_⟩⟩
    rw [hx]
    refine ⟨fun d => ⟨by unfold Rg; omega, ?_⟩, fun d => ?_⟩
    · rw [if_neg d, hq9] at hq
      exact hq
    · rw [if_pos d] at hq
      have := ih q (c :: r) hq9 (by rw [he, List.append_assoc]; rfl) hq
      rw [show (m : Int) + -1 = (m : Int) - 1 by omega]
      exact this
theorem Texts_lastSolid.c (hl : (mX σ 87).length ≤ 70000) (hq : Q (.inl (some (lsP (mX σ 87)))) σ) : Texts_lastSolid σ Q := Texts_lastSolid.i (ls_10 hl _ (mX σ 87) [] rfl (List.append_nil _).symm hq)
/-- packing, as the class does it -/
theorem pack_12 {q y : Nat} (hq1 : isRow q = true) (hy1 : isRow y = true) (hyq : y ≠ q) {b : Int} (hb : b = 127 ∨ b = 1023) {B : List Int} {e9 : Nat} (he9 : e9 ≤ 200000) : ∀ (r : List Int) (i : Nat) (P : List Int × Bool), e9 = i + r.length → (∀ t : Nat, t < r.length → rgt (mX σ y) ((i : Int) + t) = r.getD t 0) → B.length + P.1.length + (if P.2 = true then 1 else 0) + r.length ≤ capOf q → Q (.inl none) (wX σ q (B ++ ((r.foldl pkF P).1).map (fun x => bnd x b))) → Row_pack_12 q y (e9 : Int) b (B.length : Int) (bZ P.2) (i : Int) (wX σ q (B ++ P.1.map (fun x => bnd x b))) Q
  | [], i, P, he, hr, hc, hq => by
    rw [List.length_nil] at he
    exact Row_pack_12.i ⟨by unfold Rg; omega, by unfold Rg; omega, fun _ => hq, fun h9 => absurd h9 (by omega)⟩
  | c :: r, i, P, he, hr, hc, hq => by
    rw [List.length_cons] at he hc
    have e32 : bnd 32 b = 32 := by
      rcases hb with rfl | rfl <;> decide
    have hx : rgt (mX (wX σ q (B ++ P.1.map (fun x => bnd x b))) y) (i : Int) = c := by
      rw [wX_ne hyq]
      have := hr 0 (by rw [List.length_cons]; omega)
      rw [show (i : Int) + ((0 : Nat) : Int) = (i : Int) by omega] at this
      exact this
    have hr2 : ∀ t : Nat, t < r.length → rgt (mX σ y) (((i + 1 : Nat) : Int) + t) = r.getD t 0 := fun t ht => by
      have := hr (t + 1) (by rw [List.length_cons]; omega)
      rw [show ((i + 1 : Nat) : Int) + (t : Int) = (i : Int) + ((t + 1 : Nat) : Int) by omega]
      exact this
    have eP : ∀ L : List Int, mX (wX σ q L) q = L := fun L => wX_self
    have nx : ∀ P' : List Int × Bool, P' = pkF P c → Row_pack_83 q y (e9 : Int) b (B.length : Int) (i : Int) (bZ P'.2) (wX σ q (B ++ P'.1.map (fun x => bnd x b))) Q := by
      intro P' hP'
      refine Row_pack_83.i (pack_12 hq1 hy1 hyq hb he9 r (i + 1) P' (by omega) hr2 ?_ ?_)
      · have h1 : P'.1.length + (if P'.2 = true then 1 else 0) ≤ P.1.length + (if P.2 = true then 1 else 0) + 1 := by
          have := pk_len [c] P
          rw [List.foldl_cons, List.foldl_nil, List.length_singleton, ← hP'] at this
          exact this
        omega
      · rw [hP']; exact hq
    refine Row_pack_12.i ⟨by unfold Rg; omega, by unfold Rg; omega, fun h9 => absurd h9 (by omega), fun _ => tB.i hy1 (tB.i hy1 ⟨by unfold Rg; omega, ?_⟩)⟩
    rw [hx]
    refine ⟨fun d => ?_, fun d => ?_⟩
    · have hs : sbl c = false := decide_eq_false d
      have last : ∀ L : List Int, (L ++ [c], false) = pkF P c → L.length + 1 ≤ P.1.length + (if P.2 = true then 1 else 0) + 1 → Row_pack_69 q y (e9 : Int) b (B.length : Int) (i : Int) c 0 (wX σ q (B ++ L.map (fun x => bnd x b))) Q := by
        intro L hL hlen
        refine Row_pack_69.i ⟨fun h9 => absurd rfl h9, fun _ => tB.i hq1 (tB.i hq1 ⟨?_, ?_⟩)⟩
        · rw [eP, List.length_append, List.length_map]; omega
        · rw [eP, wX_wX]
          have := nx _ hL
          rw [List.map_append, ← List.append_assoc] at this
          exact this
      refine Row_pack_42.i ⟨fun g => ?_, fun g => ⟨fun h9 => absurd rfl h9, fun _ => tB.i hq1 ?_⟩⟩
      · refine last P.1 ?_ (by omega)
        unfold pkF
        rw [hs, if_neg (by decide), bZ_z g, if_neg (fun h9 => Bool.noConfusion h9.1)]
      · rw [eP, List.length_append, List.length_map]
        refine ⟨fun l => last P.1 ?_ (by omega), fun l => tB.i hq1 (tB.i hq1 ⟨?_, ?_⟩)⟩
        · unfold pkF
          rw [hs, if_neg (by decide), if_neg (by omega)]
        · omega
        · have h32 : B ++ P.1.map (fun x => bnd x b) ++ [32] = B ++ (P.1 ++ [32]).map (fun x => bnd x b) := by
            rw [List.map_append, List.append_assoc]
            show _ = B ++ (_ ++ [bnd 32 b])
            rw [e32]
          rw [wX_wX, h32]
          refine last (P.1 ++ [32]) ?_ ?_
          · unfold pkF
            rw [hs, if_neg (by decide), if_pos ⟨bZ_ne g, by omega⟩]
          · rw [bZ_ne g, if_pos rfl, List.length_append, List.length_singleton]
            omega
    · have hs : sbl c = true := decide_eq_true d
      have h83 := nx (P.1, true) (by unfold pkF; rw [if_pos hs])
      have h69 : Row_pack_69 q y (e9 : Int) b (B.length : Int) (i : Int) c 1 (wX σ q (B ++ P.1.map (fun x => bnd x b))) Q := Row_pack_69.i ⟨fun _ => h83, fun h9 => absurd h9 (by decide)⟩
      exact Row_pack_42.i ⟨fun _ => h69, fun _ => ⟨fun _ => h69, fun h9 => absurd h9 (by decide)⟩⟩
theorem Row_pack.c {q y : Nat} (hq1 : isRow q = true) (hy1 : isRow y = true) (hyq : y ≠ q) {b : Int} (hb : b = 127 ∨ b = 1023) {L : List Int} {u : Nat} {x1 x2 : Int} (h1 : x1 = (u : Int)) (h2 : x2 = ((u + L.length : Nat) : Int)) (hu : u + L.length ≤ 200000) (hr : ∀ t : Nat, t < L.length → rgt (mX σ y) ((u : Int) + t) = L.getD t 0) (hc : (mX σ q).length + L.length ≤ capOf q) (hq : Q (.inl none) (wX σ q (mX σ q ++ (pkL L).map (fun x => bnd x b)))) : Row_pack q y x1 x2 b σ Q := by
  subst h1 h2
  refine Row_pack.i (tB.i hq1 ?_)
  have := pack_12 (σ := σ) (Q := Q) hq1 hy1 hyq hb (B := mX σ q) (e9 := u + L.length) hu L u ([], false) rfl hr (by
    show (mX σ q).length + 0 + 0 + L.length ≤ capOf q
    omega) hq
  rw [List.map_nil, List.append_nil, wX_id] at this
  exact this
theorem bnd_1023 {L : List Int} (h : okK L) : L.map (fun x => bnd x 1023) = L := by
  induction L with
  | nil => rfl
  | cons c r ih =>
    have hc := h c List.mem_cons_self
    rw [List.map_cons, ih (fun x hx => h x (List.mem_cons_of_mem _ hx))]
    have : bnd c 1023 = c := by
      show c % 1024 = c
      unfold okC at hc
      omega
    rw [this]
theorem bnd_127 {L : List Int} : L.map (fun x => bnd x 127) = ms7 L := rfl
theorem pkF_ok {P : List Int × Bool} {c : Int} (hP : okK P.1) (hc : okC c) : okK (pkF P c).1 := by
  unfold pkF
  split
  · exact hP
  · refine okK.app ?_ (okK.one hc)
    split
    · exact hP.app (okK.one (by unfold okC; decide))
    · exact hP
theorem pk_ok : ∀ {L : List Int} {P : List Int × Bool}, okK L → okK P.1 → okK (L.foldl pkF P).1
  | [], P, _, hP => hP
  | c :: r, P, h, hP => pk_ok (L := r) (P := pkF P c) (fun x hx => h x (List.mem_cons_of_mem _ hx)) (pkF_ok hP (h c List.mem_cons_self))
theorem pkL_ok {L : List Int} (h : okK L) : okK (pkL L) := pk_ok h okK.nil
theorem seA.ok {u : Nat} {L : List Int} (hL : seA A u L) (hA : okK A) : okK L := fun x hx => by
  obtain ⟨t, ht, rfl⟩ := List.getElem_of_mem hx
  have := hL.2 t ht
  rw [List.getD_eq_getElem?_getD (l := L), List.getElem?_eq_getElem ht] at this
  rw [show L[t] = A.getD (u + t) 0 from this.symm]
  exact hA.getD (by have := hL.1; omega)
/-- marks change -/
theorem TxC.mk {s1 : TS} (h : TxC σ E a f fr A k R S H z z' n s) (hX : ∀ q, q ≠ 105 → q ≠ 107 → q ≠ 109 → (q < z + 2 ∨ z + 35 < q) → mX σ' q = mX σ q) (hV : ∀ y i, ¬ (y = z ∧ (i = 12 ∨ i = 13)) → mV σ' y i = mV σ y i) (hB : σ'.2.2 = σ.2.2) (hzz : z ≠ z') (e1 : s1.1 = s.1) (e2 : s1.2.1 = s.2.1) (e3 : s1.2.2.1 = s.2.2.1) (hM : KM σ' z E s1) : TxC σ' E a f fr A k R S H z z' n s1 := by
  obtain ⟨⟨w1, w2, w3⟩, ⟨⟨r1, r2, r3⟩, g1, g2, g3, g4⟩, ⟨⟨a1, a2, a3, a4, a5, a6⟩, b, c, d, e, g⟩, hn⟩ := h
  have hz := b.2.2.1
  have hz' := b.2.2.2.1
  have x : ∀ q, q ≠ 105 → q ≠ 107 → q ≠ 109 → (q < z + 2 ∨ z + 35 < q) → mX σ' q = mX σ q := hX
  have v : ∀ y i, y ≠ z → mV σ' y i = mV σ y i := fun y i hy => hV y i (fun e => hy e.1)
  have e89 : mX σ' 89 = mX σ 89 := x 89 (by decide) (by decide) (by decide) (by omega)
  refine ⟨⟨by rw [v _ _ (by omega), e1]; exact w1, by rw [v _ _ (by omega), e1]; exact w2, by rw [v _ _ (by omega), e1]; exact w3⟩, ⟨⟨by rw [x 87 (by decide) (by decide) (by decide) (by omega)]; exact r1, by rw [v _ _ (by omega)]; exact r2, r3⟩, by rw [e89, e1]; exact g1, by rw [e89]; exact g2, by rw [e89, e2]; exact g3, by rw [e89, e2]; exact g4⟩, ⟨⟨by rw [v _ _ (by omega)]; exact a1, by rw [v _ _ (by omega)]; exact a2, by rw [v _ _ (by omega)]; exact a3, by rw [v _ _ (by omega)]; exact a4, by rw [x 91 (by decide) (by decide) (by decide) (by omega)]; exact a5, by rw [x 93 (by decide) (by decide) (by decide) (by omega)]; exact a6⟩, b.b hB, ?_, hM, ?_, g.cg (fun q h1 h2 => x q (by omega) (by omega) (by omega) (by omega))⟩, ⟨fun y => by rw [v _ _ (by omega)]; exact hn.1 y, fun y => by rw [v _ _ (by omega)]; exact hn.2 y⟩⟩
  · obtain ⟨⟨C, c1, c2⟩, c3⟩ := c
    exact ⟨⟨C, c1.cg (x 98 (by decide) (by decide) (by decide) (by omega)) (x 100 (by decide) (by decide) (by decide) (by omega)), by rw [e3]; exact c2⟩, by rw [x 102 (by decide) (by decide) (by decide) (by omega), e3]; exact c3⟩
  · exact e.cg hz' (fun q h1 h2 => x q (by omega) (by omega) (by omega) (by omega)) (v _ _ (by omega)) (v _ _ (by omega))
theorem Texts_label.c {b : Int} {w : List (List Int)} (hE : EI E) (h : TxC σ E false f fr A k R S H z z' n s) (hi : TI 0 0 s) (hal : 0 < E.2.2.2) (hb : 0 ≤ b ∧ b ≤ 1000) (h0 : arA H A b (w.getD 0 [])) (hq : TOk Q (gvL E w s) (fun s' σ' => TxD σ E false f fr A k R S H z z' n s' σ') (FrT σ)) : Texts_label b σ Q := by
  have hH : mX σ 93 = H := h.2.2.1.1.2.2.2.2.2
  have l1 := h.q.len hi
  obtain ⟨z1, z2, hz, hz', hzz⟩ := h.2.2.1.2.1
  have hzz := hzz hal
  have h13 : mV σ 86 13 ≠ 0 := by
    rw [show mV σ 86 13 = E.2.2.2 from h.2.2.1.1.2.1]
    omega
  obtain ⟨⟨k1, k2, k3, k4, k5, k6, k7, k8, k9, k10, k11, k12, k13⟩, ⟨m1, m2, -⟩, ⟨p1, p2, p3, p4, p5, p6, p7, p8⟩, ⟨x1, x2, x3, x4, x5, x6, x7, x8⟩⟩ := marks_ok hz
  obtain ⟨⟨lb, rf, la⟩, hKy, hNo, hUn, hLt⟩ := h.2.2.1.2.2.2.1.2 hal
  obtain ⟨t1, t2, t3, t4, t5⟩ := hi.2.2.1
  have fl : ∀ {m : Int}, gvL E w s = tFl m s → ∀ σ', TxF σ' (m, s.1.1, s.1.2.1) → K2 σ σ' → Q (.inr (exN 0)) σ' := fun e σ' p1 p2 => hq.2 _ σ' e p1 (FrT.k2 p2)
  have s12 := suM_b (n := 12) (W := s.2.2.2.1.1) (fun x hx => (t4 x hx).1)
  have s32 := suM_b (n := 32) (W := s.2.2.2.1.2.1) (fun x hx => (t5 x hx).1)
  obtain ⟨u, u1, u2, u3⟩ := id h0
  have l2 := u3.1
  refine Texts_label.i (Texts_needKey.c h.q hi hH (by omega) h0 (fun hy => ⟨by unfold Rg; omega, by unfold Rg; omega, ?_⟩) (fun hno => fl (by unfold gvL; rw [hno, if_neg (by decide)])))
  have kl := keyD_i hy
  rw [z1]
  refine tB.i k1 (tB.i k2 ?_)
  rw [hH, u1, u2]
  refine Shelf_seek.s (R := s.2.2.2.1.1) k2 k3 k4 cap100.2.2.2.2 lb (by omega) (by omega) (U := w.getD 0 []) (by omega) (by omega) (by omega) (fun t ht => by rw [show (u : Int) + (t : Int) = ((u + t : Nat) : Int) by omega, h.q.rd (by omega)]; exact u3.2 t ht) ?_
  have em : s.2.2.2.1.1.map ms7 = s.2.2.2.1.1 := by
    have : s.2.2.2.1.1.map ms7 = s.2.2.2.1.1.map id := List.map_congr_left (fun x hx => ms7_id (t4 x hx).2)
    rw [this, List.map_id]
  rw [em]
  have n3 : (mX σ (z + 1 + 3)).length = s.2.2.2.1.1.length := by rw [lb.2, enS_len]
  refine ⟨fun c => Texts_label_54.i ?_, fun c => h.q.fail (by decide) (fl (by unfold gvL; rw [if_pos hy, if_neg c]))⟩
  rw [z1]
  refine tB.i k1 (tB.i k2 (rows_s k2 k4 n3 ⟨fun d => ?_, fun d => h.q.fail (by decide) (fl (by unfold gvL; rw [if_pos hy, if_pos c, if_pos (by omega)]))⟩))
  have eg : gvL E w s = .inl (sLb s (s.2.2.2.1.1 ++ [ms7 (w.getD 0 [])]) (s.2.2.2.1.2.1 ++ [E.2.2.1]) (s.2.2.2.1.2.2 ++ [lsP (pkL s.2.1)])) := by
    unfold gvL
    rw [if_pos hy, if_pos c, if_neg (by omega)]
  refine Texts_label_78.i ?_
  rw [z1]
  refine tB.i k1 (tB.i k2 (tB.i k3 (tB.i k3 (tB.i m1 ?_))))
  rw [show (((u + (w.getD 0 []).length : Nat) : Int) - (u : Int)).toNat = (w.getD 0 []).length by omega, h.q.pour7 u3]
  refine ⟨by rw [lb.1, flat_len, p1]; omega, tB.i k1 (tB.i k2 ?_)⟩
  generalize e1 : wX σ (z + 1 + 1) (mX σ (z + 1 + 1) ++ ms7 (w.getD 0 [])) = σ1
  have y1 : mX σ1 (z + 1 + 1) = (s.2.2.2.1.1 ++ [ms7 (w.getD 0 [])]).flatten := by rw [← e1, flat_sn, ← lb.1]; exact wX_self
  have y3 : mX σ1 (z + 1 + 3) = enS 0 s.2.2.2.1.1 := by rw [← e1]; exact (wX_ne (by omega)).trans lb.2
  have f1 : FrT σ σ1 := by rw [← e1]; exact FrT.xm h13 hz z1 x1 (by omega) (by omega)
  have o1 : ∀ q, q ≠ z + 1 + 1 → mX σ1 q = mX σ q := fun q hq9 => by rw [← e1]; exact wX_ne hq9
  have v1 : σ1.2 = σ.2 := by rw [← e1]; rfl
  refine Shelf_close.i (tB.i k2 (tB.i k2 (tB.i k3 (tB.i k4 (tB.i k4 ⟨by rw [y3, enS_len, p2]; omega, ?_⟩)))))
  rw [shR.close y1 y3]
  generalize e2 : wX σ1 (z + 1 + 3) (enS 0 (s.2.2.2.1.1 ++ [ms7 (w.getD 0 [])])) = σ2
  have f2 : FrT σ σ2 := by rw [← e2]; exact f1.tr (FrT.xm (by rw [show mV σ1 = mV σ from congrArg Prod.fst v1]; exact h13) hz (by rw [show mB σ1 = mB σ from congrArg (fun x => x.2.1) v1]; exact z1) x2 (by omega) (by omega))
  have o2 : ∀ q, q ≠ z + 1 + 1 → q ≠ z + 1 + 3 → mX σ2 q = mX σ q := fun q h1 h2 => by rw [← e2, wX_ne h2]; exact o1 q h1
  have v2 : σ2.2 = σ.2 := by rw [← e2]; exact v1
  have b2 : mB σ2 2 = z := by rw [show mB σ2 = mB σ from congrArg (fun x => x.2.1) v2]; exact z1
  have sh2 : shR σ2 (z + 1) (s.2.2.2.1.1 ++ [ms7 (w.getD 0 [])]) := ⟨by rw [← e2, wX_ne (by omega)]; exact y1, by rw [← e2]; exact wX_self⟩
  show tB (isMarks (mB σ2 2)) _
  rw [b2]
  have lt : mX σ2 (z + 35) = E.2.2.1 := by rw [o2 _ (by omega) (by omega)]; exact hLt
  have r1 : mX σ2 (z + 6 + 1) = s.2.2.2.1.2.1.flatten := by rw [o2 _ (by omega) (by omega)]; exact rf.1
  have r3 : mX σ2 (z + 6 + 3) = enS 0 s.2.2.2.1.2.1 := by rw [o2 _ (by omega) (by omega)]; exact rf.2
  have hlt := hE.2.2.1.1
  refine tB.i k1 (tB.i k5 (tB.i k1 (tB.i k1 (tB.i k13 (tB.i k6 (tB.i k6 (tB.i k13 (tB.i m2 ?_))))))))
  rw [lt, pour_all, show (((E.2.2.1.length : Int) - 0)).toNat = E.2.2.1.length by omega]
  refine ⟨by rw [r1, flat_len, p3]; omega, tB.i k1 (tB.i k5 ?_)⟩
  generalize e3 : wX σ2 (z + 6 + 1) (mX σ2 (z + 6 + 1) ++ E.2.2.1) = σ3
  have q1 : mX σ3 (z + 6 + 1) = (s.2.2.2.1.2.1 ++ [E.2.2.1]).flatten := by rw [← e3, flat_sn, ← r1]; exact wX_self
  have q3 : mX σ3 (z + 6 + 3) = enS 0 s.2.2.2.1.2.1 := by rw [← e3]; exact (wX_ne (by omega)).trans r3
  refine Shelf_close.i (tB.i k5 (tB.i k5 (tB.i k6 (tB.i k7 (tB.i k7 ⟨by rw [q3, enS_len, p4]; omega, ?_⟩)))))
  rw [shR.close q1 q3]
  generalize e4 : wX σ3 (z + 6 + 3) (enS 0 (s.2.2.2.1.2.1 ++ [E.2.2.1])) = σ4
  have o4 : ∀ q, q ≠ z + 1 + 1 → q ≠ z + 1 + 3 → q ≠ z + 6 + 1 → q ≠ z + 6 + 3 → mX σ4 q = mX σ q := fun q h1 h2 h3 h4 => by rw [← e4, wX_ne h4, ← e3, wX_ne h3]; exact o2 q h1 h2
  have v4 : σ4.2 = σ.2 := by rw [← e4, ← e3]; exact v2
  have f4 : FrT σ σ4 := by rw [← e4, ← e3]; exact f2.tr ((FrT.xm (by rw [show mV σ2 = mV σ from congrArg Prod.fst v2]; exact h13) hz b2 x3 (by omega) (by omega)).tr (FrT.xm (by show ¬ mV σ2 86 13 = 0; rw [show mV σ2 = mV σ from congrArg Prod.fst v2]; exact h13) hz b2 x4 (by omega) (by omega)))
  have b4 : mB σ4 2 = z := by rw [show mB σ4 = mB σ from congrArg (fun x => x.2.1) v4]; exact z1
  have sh4 : shR σ4 (z + 1) (s.2.2.2.1.1 ++ [ms7 (w.getD 0 [])]) := sh2.cg (by rw [← e4, wX_ne (by omega), ← e3, wX_ne (by omega)]) (by rw [← e4, wX_ne (by omega), ← e3, wX_ne (by omega)])
  have sr4 : shR σ4 (z + 6) (s.2.2.2.1.2.1 ++ [E.2.2.1]) := ⟨by rw [← e4, wX_ne (by omega)]; exact q1, by rw [← e4]; exact wX_self⟩
  show tB (isMarks (mB σ4 2)) _
  rw [b4]
  have x87 : mX σ4 87 = pkL s.2.1 := by
    rw [o4 _ (by omega) (by omega) (by omega) (by omega), h.2.1.1.1, (h.2.1.2.2.2.2 rfl).1]
    rfl
  have ob := hi.2.2.2.2.2.2
  have pl := pkL_len (L := s.2.1)
  have hb1 := hi.1.1.2
  refine tB.i k1 (Texts_lastSolid.c (by rw [x87]; omega) ?_)
  rw [x87]
  have la4 : mX σ4 (z + 11) = s.2.2.2.1.2.2 := by rw [o4 _ (by omega) (by omega) (by omega) (by omega)]; exact la
  show tB (isRow (z + 11)) (tB (isRow (z + 11)) ((mX σ4 (z + 11)).length < capOf (z + 11) ∧ Q (.inl none) (wX σ4 (z + 11) (mX σ4 (z + 11) ++ [lsP (pkL s.2.1)]))))
  refine tB.i k8 (tB.i k8 ?_)
  rw [la4]
  refine ⟨by rw [p5]; omega, hq.1 _ _ eg ⟨f4.tr (FrT.xm (by rw [show mV σ4 = mV σ from congrArg Prod.fst v4]; exact h13) hz b4 x5 (by omega) (by omega)), R, ?_, fun h9 => Bool.noConfusion h9⟩⟩
  refine TxC.mk (s := s) h (fun q h1 h2 h3 h4 => by rw [wX_ne (by omega)]; exact o4 q (by omega) (by omega) (by omega) (by omega)) (fun y i _ => by show mV σ4 y i = _; rw [show mV σ4 = mV σ from congrArg Prod.fst v4]) (congrArg Prod.snd v4) hzz rfl rfl rfl ?_
  refine KM.of ⟨⟨sh4.cg (wX_ne (by omega)) (wX_ne (by omega)), sr4.cg (wX_ne (by omega)) (wX_ne (by omega)), wX_self⟩, ⟨hKy.1.cg (by rw [wX_ne (by omega)]; exact o4 _ (by omega) (by omega) (by omega) (by omega)) (by rw [wX_ne (by omega)]; exact o4 _ (by omega) (by omega) (by omega) (by omega)), by rw [wX_ne (by omega), o4 _ (by omega) (by omega) (by omega) (by omega)]; exact hKy.2⟩, ⟨?_, hNo.2.1.cg (by rw [wX_ne (by omega)]; exact o4 _ (by omega) (by omega) (by omega) (by omega)) (by rw [wX_ne (by omega)]; exact o4 _ (by omega) (by omega) (by omega) (by omega)), by rw [wX_ne (by omega), o4 _ (by omega) (by omega) (by omega) (by omega)]; exact hNo.2.2⟩, ?_, by rw [wX_ne (by omega), o4 _ (by omega) (by omega) (by omega) (by omega)]; exact hLt⟩
  · show mV σ4 z 12 = _
    rw [show mV σ4 = mV σ from congrArg Prod.fst v4]; exact hNo.1
  · show mV σ4 z 13 = _
    rw [show mV σ4 = mV σ from congrArg Prod.fst v4]; exact hUn
end
