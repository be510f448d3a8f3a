/-! TEXTS, THE CLASS: reckoning, counters -/
theorem cap95 : capOf 95 = 64 ∧ isRow 95 = true := by decide +kernel
theorem suM_b {n : Nat} : ∀ {W : List (List Int)}, (∀ w ∈ W, w.length ≤ n) → suM W ≤ n * W.length
  | [], _ => Nat.zero_le _
  | w :: W, h => by
    have a := h w List.mem_cons_self
    have b := suM_b (W := W) (fun x hx => h x (List.mem_cons_of_mem _ hx))
    show w.length + suM W ≤ n * (W.length + 1)
    rw [Nat.mul_add]
    omega
theorem suM_ms7 : ∀ {W : List (List Int)}, suM (W.map ms7) = suM W
  | [] => rfl
  | w :: W => by
    show (ms7 w).length + suM (W.map ms7) = w.length + suM W
    rw [ms7_len, suM_ms7]
/-- a row more on a shelf -/
theorem shR.close {σ : MS} {q : Nat} {W : List (List Int)} {w : List Int} (h1 : mX σ (q + 1) = (W ++ [w]).flatten) (h3 : mX σ (q + 3) = enS 0 W) : mX σ (q + 3) ++ [((mX σ (q + 1)).length : Int)] = enS 0 (W ++ [w]) := by
  rw [h1, h3, enS_sn, flat_len, suM_sn, Nat.zero_add]
theorem flat_sn {W : List (List Int)} {w : List Int} : (W ++ [w]).flatten = W.flatten ++ w := by
  rw [List.flatten_append]
  simp
section
variable {σ0 σ σ' : MS} {Q : MQ9} {E : TE} {a : Bool} {f : List (List Int)} {fr : Int} {A : List Int} {k : Nat} {R : List Int × Bool} {S H : List Int} {z z' : Nat} {n : Int} {s s' : TS}
theorem TOk.fz9 {r : TR} (hf : FrT σ σ') (hq : TOk Q r (fun s' σ1 => TxD σ E a f fr A k R S H z z' n s' σ1) (FrT σ)) : TOk Q r (fun s' σ1 => TxD σ' E a f fr A k R S H z z' n s' σ1) (FrT σ') := ⟨fun s1 σ1 e h1 => hq.1 s1 σ1 e ⟨hf.tr h1.1, h1.2⟩, fun e σ1 he h1 h2 => hq.2 e σ1 he h1 (hf.tr h2)⟩
/-- what stands in scratch is put -/
theorem Texts_scr {M : List Int} (h : TxC σ E a f fr A k R S H z z' n s) (hi : TI 0 0 s) (hl : M.length ≤ 64) (hb : smB M) (hq : TOk Q (tPn M s) (fun s' σ' => TxD σ E a f fr A k R S H z z' n s' σ') (FrT σ)) : Texts_putScratch (wX σ 95 M) Q := by
  have hC : TxC (wX σ 95 M) E a f fr A k R S H z z' n s := by
    obtain ⟨w, ⟨⟨r1, r2, r3⟩, g1, g2, g3, g4⟩, hk, hn⟩ := h
    have e89 : mX (wX σ 95 M) 89 = mX σ 89 := wX_ne (by decide)
    exact ⟨w, ⟨⟨(wX_ne (by decide)).trans r1, r2, r3⟩, by rw [e89]; exact g1, by rw [e89]; exact g2, by rw [e89]; exact g3, by rw [e89]; exact g4⟩, hk.x95, hn⟩
  exact Texts_putScratch.c (σ0 := wX σ 95 M) hC.2.2.2 wX_self hl hb hC.q hi ((hq.fz9 (FrT.x (by decide))).put hC (fun s' e => PuR.ps e))
theorem Texts_num95 {v sys : Int} (h : TxC σ E a f fr A k R S H z z' n s) (hi : TI 0 0 s) (hv : -999999999 ≤ v ∧ v ≤ 999999999) (hs : 1 ≤ sys ∧ sys ≤ 5) (h4 : sys = 4 → v ≤ 99999) (hq : TOk Q (tPn (wrN v sys) s) (fun s' σ' => TxD σ E a f fr A k R S H z z' n s' σ') (FrT σ)) : Row_putNumber 95 v sys (wX σ 95 []) (kV (thQ Q) fun σ1 => Texts_putScratch σ1 (kV (thQ Q) fun σ2 => Q (.inl none) σ2)) := by
  refine Row_putNumber.s cap95.2 hv hs h4 (by rw [wX_self, List.length_nil, cap95.1]; omega) ?_
  show Texts_putScratch (wX (wX σ 95 []) 95 (mX (wX σ 95 []) 95 ++ wrN v sys)) _
  rw [wX_self, wX_wX, List.nil_append]
  have hl := wrN_len (n := v) (sys := sys)
  exact Texts_scr h hi (by omega) wrN_s ⟨fun s1 σ1 e h1 => hq.1 s1 σ1 e h1, fun e σ1 he h1 h2 => hq.2 e σ1 he h1 h2⟩
/-- two parts of the arena are alike -/
theorem TxQ.std (h : TxQ σ0 a A k R s σ) {x y : Nat} {L M : List Int} (hL : seA A x L) (hM : seA A y M) (hl : L.length = M.length) {c : Nat} (hc : c = M.length) : stdM (fun i => rgt (mX σ 89) ((x : Int) + i - (y : Int))) (rgt (mX σ 89)) c (y : Int) = true ↔ ms7 L = ms7 M := by
  subst hc
  rw [stdM_i]
  have l1 := hL.1
  have l2 := hM.1
  have one : ∀ t : Nat, t < M.length → rgt (mX σ 89) ((x : Int) + ((y : Int) + (t : Int)) - (y : Int)) = L.getD t 0 ∧ rgt (mX σ 89) ((y : Int) + (t : Int)) = M.getD t 0 := fun t ht => by
    rw [show (x : Int) + ((y : Int) + (t : Int)) - (y : Int) = ((x + t : Nat) : Int) by omega, show (y : Int) + (t : Int) = ((y + t : Nat) : Int) by omega, h.rd (by omega), h.rd (by omega)]
    exact ⟨hL.2 t (by omega), hM.2 t ht⟩
  constructor
  · intro hh
    refine list_ext (by rw [ms7_len, ms7_len, hl]) (fun t ht => ?_)
    rw [ms7_len] at ht
    have := hh t (by omega)
    rw [(one t (by omega)).1, (one t (by omega)).2] at this
    rw [ms7_at ht, ms7_at (by omega)]
    exact this
  · intro hh t ht
    rw [(one t ht).1, (one t ht).2, ← ms7_at (L := L) (by omega), ← ms7_at (L := M) ht, hh]
theorem TxQ.pour (h : TxQ σ0 a A k R s σ) {u : Nat} {L : List Int} (hL : seA A u L) {g : Int → Int} (hg : ∀ i : Int, g i = rgt (mX σ 89) i) : pourM g L.length (u : Int) = L := by
  induction L generalizing u with
  | nil => rfl
  | cons c r ih =>
    obtain ⟨h1, h2⟩ := hL.hd
    show g (u : Int) :: pourM g r.length ((u : Int) + 1) = c :: r
    rw [hg, h.rd h1, h2]
    have := ih hL.tl
    rw [show ((u : Int) + 1) = ((u + 1 : Nat) : Int) by omega, this]
theorem TxQ.pour7 (h : TxQ σ0 a A k R s σ) {u : Nat} {L : List Int} (hL : seA A u L) : pourM (fun i => rgt (mX σ 89) i % 128) L.length (u : Int) = ms7 L := by
  induction L generalizing u with
  | nil => rfl
  | cons c r ih =>
    obtain ⟨h1, h2⟩ := hL.hd
    show rgt (mX σ 89) (u : Int) % 128 :: pourM (fun i => rgt (mX σ 89) i % 128) r.length ((u : Int) + 1) = c % 128 :: ms7 r
    rw [h.rd h1, h2]
    have := ih hL.tl
    rw [show ((u : Int) + 1) = ((u + 1 : Nat) : Int) by omega, this]
theorem pl_46 (h : TxQ σ0 a A k R s σ) (hi : TI 0 0 s) (hH : mX σ0 93 = H) {b : Int} {x y : Nat} {L M : List Int} (hb : 0 ≤ b ∧ b ≤ 1000) (h1 : rgt H b = (x : Int)) (h2 : rgt H (b + 1) = ((x + L.length : Nat) : Int)) (hL : seA A x L) (hM : seA A y M) : ∀ (m p : Nat), m = M.length + 1 - L.length - p → p ≤ M.length + 1 → Q (.inl (some (plN L M m p))) σ → Texts_placeOf_46 b (L.length : Int) (y : Int) ((y + M.length : Nat) : Int) ((y + p : Nat) : Int) σ Q := by
  have x93 : mX σ 93 = H := by rw [h.2.1.1 93 (by decide) (by decide)]; exact hH
  have l1 := h.len hi
  have l2 := hL.1
  have l3 := hM.1
  intro m
  induction m with
  | zero =>
    intro p hm hp hq
    exact Texts_placeOf_46.i ⟨by unfold Rg; omega, fun _ => hq, fun h9 => absurd h9 (by omega)⟩
  | succ m ih =>
    intro p hm hp hq
    unfold plN at hq
    have hpart := hM.part (p := p) (m := L.length) (by omega)
    have hlen : ((M.drop p).take L.length).length = L.length := by rw [List.length_take, List.length_drop]; omega
    refine Texts_placeOf_46.i ⟨by unfold Rg; omega, fun h9 => absurd h9 (by omega), fun _ => ⟨by unfold Rg; omega, by unfold Rg; omega, by unfold Rg; omega, ?_⟩⟩
    rw [x93, h1, h2]
    have key := h.std hpart hL hlen (c := (((x + L.length : Nat) : Int) - (x : Int)).toNat) (by omega)
    refine ⟨by unfold Rg; omega, fun c => ?_, fun c => ⟨by unfold Rg; omega, ?_⟩⟩
    · have hn : ¬ ms7 ((M.drop p).take L.length) = ms7 L := fun e => by rw [if_pos (key.mpr e)] at c; exact absurd c (by decide)
      rw [if_neg hn] at hq
      exact ih (p + 1) (by omega) (by omega) hq
    · have hy : ms7 ((M.drop p).take L.length) = ms7 L := key.mp (Classical.byContradiction (fun hc => c (if_neg hc)))
      rw [if_pos hy] at hq
      rw [show ((y + p : Nat) : Int) - (y : Int) = (p : Int) by omega]
      exact hq
theorem plN_b {L M : List Int} : ∀ (m p : Nat), plN L M m p = -1 ∨ ((p : Int) ≤ plN L M m p ∧ plN L M m p ≤ p + m)
  | 0, p => Or.inl rfl
  | m + 1, p => by
    unfold plN
    split
    · exact Or.inr (by omega)
    · rcases plN_b (L := L) (M := M) m (p + 1) with h | h
      · exact Or.inl h
      · exact Or.inr (by omega)
theorem Texts_sameArguments.c {b : Int} {L M : List Int} (h : TxQ σ0 a A k R s σ) (hi : TI 0 0 s) (hH : mX σ0 93 = H) (hb : 0 ≤ b ∧ b ≤ 1000) (h0 : arA H A b L) (h1 : arA H A (b + 2) M) (hq : Q (.inl (some (bZ (decide (ms7 L = ms7 M))))) σ) : Texts_sameArguments b σ Q := by
  obtain ⟨q1, q0⟩ := bZ_q (P := fun r => Q (.inl (some r)) σ) hq
  obtain ⟨x, x1, x2, x3⟩ := h0
  obtain ⟨y, y1, y2, y3⟩ := h1
  have x93 : mX σ 93 = H := by rw [h.2.1.1 93 (by decide) (by decide)]; exact hH
  have l1 := h.len hi
  have l2 := x3.1
  have l3 := y3.1
  refine Texts_sameArguments.i ⟨by unfold Rg; omega, by unfold Rg; omega, by unfold Rg; omega, by unfold Rg; omega, ?_⟩
  rw [x93, x1, x2, y1, show b + 3 = b + 2 + 1 by omega, y2]
  refine ⟨by unfold Rg; omega, by unfold Rg; omega, fun c => q0 (decide_eq_false (fun e => c ?_)), fun c => ⟨by unfold Rg; omega, ?_⟩⟩
  · have := congrArg List.length e
    rw [ms7_len, ms7_len] at this
    omega
  · have key := h.std y3 x3 (by omega) (c := (((x + L.length : Nat) : Int) - (x : Int)).toNat) (by omega)
    refine ⟨fun d => q0 (decide_eq_false (fun e => ?_)), fun d => q1 (decide_eq_true (key.mp (Classical.byContradiction (fun hc => d (if_neg hc)))).symm)⟩
    rw [if_pos (key.mpr e.symm)] at d
    exact absurd d (by decide)
theorem Texts_reckon.c {kd b : Int} {w : List (List Int)} (h : TxC σ E a f fr A k R S H z z' n s) (hi : TI 0 0 s) (hk : 8 ≤ kd ∧ kd ≤ 12) (hb : 0 ≤ b ∧ b ≤ 1000) (h0 : arA H A b (w.getD 0 [])) (h1 : ¬ kd = 8 → arA H A (b + 2) (w.getD 1 [])) (hq : TOk Q (gv2 kd w s) (fun s' σ' => TxD σ E a f fr A k R S H z z' n s' σ') (FrT σ)) : Texts_reckon kd b σ Q := by
  have hH : mX σ 93 = H := h.2.2.1.1.2.2.2.2.2
  have l1 := h.q.len hi
  have r149 : ∀ v sys : Int, (-999999999 ≤ v ∧ v ≤ 999999999) → (1 ≤ sys ∧ sys ≤ 5) → (sys = 4 → v ≤ 99999) → gv2 kd w s = tPn (wrN v sys) s → Texts_reckon_149 v sys σ Q := by
    intro v sys hv hs h4 e
    rw [e] at hq
    exact Texts_reckon_149.i (Texts_num95 h hi hv hs h4 hq)
  have n0 : ∀ (l m : Int) (Q' : MQ9), (-9999 ≤ l ∧ l ≤ 9999) → (-9999 ≤ m ∧ m ≤ 9999) → (nuOk (w.getD 0 []) l m = true → Q' (.inl (some (nuX (w.getD 0 [])))) σ) → (nuOk (w.getD 0 []) l m = false → ∀ σ', TxF σ' (5, s.1.1, s.1.2.1) → K2 σ σ' → Q' (.inr (exN 0)) σ') → Texts_number b l m σ Q' := fun l m Q' p1 p2 hy hno => Texts_number.c p1 p2 h.q hi hH (by omega) h0 hy hno
  have n1 : ¬ kd = 8 → ∀ (l m : Int) (Q' : MQ9), (-9999 ≤ l ∧ l ≤ 9999) → (-9999 ≤ m ∧ m ≤ 9999) → (nuOk (w.getD 1 []) l m = true → Q' (.inl (some (nuX (w.getD 1 [])))) σ) → (nuOk (w.getD 1 []) l m = false → ∀ σ', TxF σ' (5, s.1.1, s.1.2.1) → K2 σ σ' → Q' (.inr (exN 0)) σ') → Texts_number (b + 2) l m σ Q' := fun h8 l m Q' p1 p2 hy hno => Texts_number.c p1 p2 h.q hi hH (by omega) (h1 h8) hy hno
  have fl : gv2 kd w s = tFl 5 s → ∀ σ', TxF σ' (5, s.1.1, s.1.2.1) → K2 σ σ' → Q (.inr (exN 0)) σ' := fun e σ' p1 p2 => hq.2 _ σ' e p1 (FrT.k2 p2)
  refine Texts_reckon.i ⟨by unfold Rg; omega, fun c => ?_, fun c => ?_, fun c => ?_, fun c => ?_, fun c => ?_, trivial⟩
  · have e : ∀ p : Prop, (p ↔ (nuOk (w.getD 0 []) (-9999) 9999 = true ∧ nuOk (w.getD 1 []) 1 5 = true)) → (p → gv2 kd w s = tPn (wrN (nuX (w.getD 0 [])) (nuX (w.getD 1 []))) s) ∧ (¬ p → gv2 kd w s = tFl 5 s) := fun p hp => by
      unfold gv2
      rw [if_neg (by omega), if_neg (by omega), if_neg (by omega)]
      exact ⟨fun x => if_pos (hp.mp x), fun x => if_neg (fun y => x (hp.mpr y))⟩
    obtain ⟨e1, e2⟩ := e _ Iff.rfl
    refine n0 _ _ _ (by decide) (by decide) (fun hy => n1 (by omega) _ _ _ (by decide) (by decide) (fun hy2 => ?_) (fun hno => fl (e2 (fun x => by rw [hno] at x; exact Bool.noConfusion x.2)))) (fun hno => fl (e2 (fun x => by rw [hno] at x; exact Bool.noConfusion x.1)))
    have b1 := nuX_b hy
    have b2 := nuX_b hy2
    exact r149 _ _ (by omega) b2 (fun _ => by omega) (e1 ⟨hy, hy2⟩)
  · obtain ⟨x, x1, x2, x3⟩ := h0
    have l2 := x3.1
    refine ⟨by unfold Rg; omega, by unfold Rg; omega, ?_⟩
    rw [hH, x1, x2]
    refine r149 _ 1 (by omega) (by decide) (fun h9 => absurd h9 (by decide)) ?_
    unfold gv2
    rw [if_pos c, show ((x + (w.getD 0 []).length : Nat) : Int) - (x : Int) = ((w.getD 0 []).length : Int) by omega]
  · obtain ⟨x, x1, x2, x3⟩ := h0
    obtain ⟨y, y1, y2, y3⟩ := h1 (by omega)
    have l2 := x3.1
    have l3 := y3.1
    refine Texts_placeOf.i ⟨by unfold Rg; omega, by unfold Rg; omega, by unfold Rg; omega, by unfold Rg; omega, ?_⟩
    rw [hH, x1, x2, y1, show b + 3 = b + 2 + 1 by omega, y2, show ((x + (w.getD 0 []).length : Nat) : Int) - (x : Int) = ((w.getD 0 []).length : Int) by omega]
    have hp := plN_b (L := w.getD 0 []) (M := w.getD 1 []) ((w.getD 1 []).length + 1 - (w.getD 0 []).length) 0
    refine pl_46 h.q hi hH hb x1 x2 x3 y3 _ 0 (Nat.sub_zero _).symm (by omega) ?_
    refine r149 _ 1 (by omega) (by decide) (fun h9 => absurd h9 (by decide)) ?_
    unfold gv2 plD
    rw [if_neg (by omega), if_pos c]
  · have e : ∀ p : Prop, (p ↔ (nuOk (w.getD 0 []) (-9999) 9999 = true ∧ nuOk (w.getD 1 []) (-9999) 9999 = true)) → (p → gv2 kd w s = tPn (wrN (nuX (w.getD 0 []) + nuX (w.getD 1 [])) 1) s) ∧ (¬ p → gv2 kd w s = tFl 5 s) := fun p hp => by
      unfold gv2
      rw [if_neg (by omega), if_neg (by omega), if_pos (Or.inl c), if_pos c]
      exact ⟨fun x => if_pos (hp.mp x), fun x => if_neg (fun y => x (hp.mpr y))⟩
    obtain ⟨e1, e2⟩ := e _ Iff.rfl
    refine n0 _ _ _ (by decide) (by decide) (fun hy => n1 (by omega) _ _ _ (by decide) (by decide) (fun hy2 => ?_) (fun hno => fl (e2 (fun x => by rw [hno] at x; exact Bool.noConfusion x.2)))) (fun hno => fl (e2 (fun x => by rw [hno] at x; exact Bool.noConfusion x.1)))
    have b1 := nuX_b hy
    have b2 := nuX_b hy2
    exact r149 _ _ (by omega) (by decide) (fun h9 => absurd h9 (by decide)) (e1 ⟨hy, hy2⟩)
  · have e : ∀ p : Prop, (p ↔ (nuOk (w.getD 0 []) (-9999) 9999 = true ∧ nuOk (w.getD 1 []) (-9999) 9999 = true)) → (p → gv2 kd w s = tPn (wrN (nuX (w.getD 0 []) * nuX (w.getD 1 [])) 1) s) ∧ (¬ p → gv2 kd w s = tFl 5 s) := fun p hp => by
      unfold gv2
      rw [if_neg (by omega), if_neg (by omega), if_pos (Or.inr c), if_neg (show ¬ kd = 10 by omega)]
      exact ⟨fun x => if_pos (hp.mp x), fun x => if_neg (fun y => x (hp.mpr y))⟩
    obtain ⟨e1, e2⟩ := e _ Iff.rfl
    refine n0 _ _ _ (by decide) (by decide) (fun hy => n1 (by omega) _ _ _ (by decide) (by decide) (fun hy2 => ?_) (fun hno => fl (e2 (fun x => by rw [hno] at x; exact Bool.noConfusion x.2)))) (fun hno => fl (e2 (fun x => by rw [hno] at x; exact Bool.noConfusion x.1)))
    have b1 := nuX_b hy
    have b2 := nuX_b hy2
    have hm : -99980001 ≤ nuX (w.getD 0 []) * nuX (w.getD 1 []) ∧ nuX (w.getD 0 []) * nuX (w.getD 1 []) ≤ 99980001 := by
      have a1 : (nuX (w.getD 0 []) * nuX (w.getD 1 [])).natAbs = (nuX (w.getD 0 [])).natAbs * (nuX (w.getD 1 [])).natAbs := Int.natAbs_mul _ _
      have a2 : (nuX (w.getD 0 [])).natAbs * (nuX (w.getD 1 [])).natAbs ≤ 9999 * 9999 := Nat.mul_le_mul (by omega) (by omega)
      omega
    exact r149 _ _ (by omega) (by decide) (fun h9 => absurd h9 (by decide)) (e1 ⟨hy, hy2⟩)
/-! counters -/
theorem TxC.ctr {N : List (List Int)} {V : List Int} (h : TxC σ E a f fr A k R S H z z' n s) (hX : ∀ q, q ≠ 98 → q ≠ 100 → q ≠ 102 → mX σ' q = mX σ q) (hV : σ'.2 = σ.2) (hC : KC σ' (sCn s N V)) : TxC σ' E a f fr A k R S H z z' n (sCn s N V) := by
  have eV : mV σ' = mV σ := congrArg Prod.fst hV
  have eB : σ'.2.2 = σ.2.2 := congrArg Prod.snd hV
  obtain ⟨⟨w1, w2, w3⟩, ⟨⟨r1, r2, r3⟩, g1, g2, g3, g4⟩, ⟨⟨a1, a2, a3, a4, a5, a6⟩, b, c, d, e, g⟩, hn⟩ := h
  have hz := b.2.2.1
  have hz' := b.2.2.2.1
  have e89 : mX σ' 89 = mX σ 89 := hX 89 (by decide) (by decide) (by decide)
  refine ⟨⟨by rw [eV]; exact w1, by rw [eV]; exact w2, by rw [eV]; exact w3⟩, ⟨⟨by rw [hX 87 (by decide) (by decide) (by decide)]; exact r1, by rw [eV]; exact r2, r3⟩, by rw [e89]; exact g1, by rw [e89]; exact g2, by rw [e89]; exact g3, by rw [e89]; exact g4⟩, ⟨⟨by rw [eV]; exact a1, by rw [eV]; exact a2, by rw [eV]; exact a3, by rw [eV]; exact a4, by rw [hX 91 (by decide) (by decide) (by decide)]; exact a5, by rw [hX 93 (by decide) (by decide) (by decide)]; exact a6⟩, b.b eB, hC, ?_, ?_, g.cg (fun q h1 h2 => hX q (by omega) (by omega) (by omega))⟩, ⟨fun x => by rw [eV]; exact hn.1 x, fun x => by rw [eV]; exact hn.2 x⟩⟩
  · exact KM.cg (s := s) hz d (fun q hq => hX q (by omega) (by omega) (by omega)) (by rw [eV]) (by rw [eV])
  · exact e.cg hz' (fun q h1 h2 => hX q (by omega) (by omega) (by omega)) (by rw [eV]) (by rw [eV])
theorem FrT.ctr (hX : ∀ q, q ≠ 98 → q ≠ 100 → q ≠ 102 → mX σ' q = mX σ q) (hV : σ'.2 = σ.2) : FrT σ σ' := ⟨fun q hq => hX q (fun e => hq (by rw [e]; decide)) (fun e => hq (by rw [e]; decide)) (fun e => hq (by rw [e]; decide)), congrArg Prod.snd hV, fun z k _ _ _ => by rw [show mV σ' = mV σ from congrArg Prod.fst hV], ⟨by rw [show mV σ' = mV σ from congrArg Prod.fst hV], fun z' _ e3 q a b => hX q (by omega) (by omega) (by omega)⟩, by rw [show mV σ' = mV σ from congrArg Prod.fst hV]; exact Int.le_refl _, fun z _ => by rw [show mV σ' = mV σ from congrArg Prod.fst hV]; exact ⟨Int.le_refl _, Or.inl (Int.le_refl _), fun _ => rfl⟩⟩
theorem cap100 : capOf 100 = 32 ∧ isRow 98 = true ∧ isRow 100 = true ∧ isShelf 97 = true ∧ isRow 89 = true := by decide +kernel
theorem sN_ti {N : List (List Int)} {V : List Int} (hi : TI 0 1 s) (h1 : V.length = N.length) (h2 : N.length ≤ 20) (h3 : smW 12 N) (h4 : ∀ x ∈ V, 0 ≤ x ∧ x ≤ s.1.1) : TI 0 0 (sCn s N V) := by
  obtain ⟨a, b, c, d, e, ⟨f1, f2, f3⟩, g⟩ := hi
  exact ⟨a, ⟨h1, h2, h3, fun x hx => by have := h4 x hx; show 0 ≤ x ∧ x + 0 ≤ s.1.1; omega⟩, c, d, e, ⟨f1, by show s.2.2.2.2.2.2 + 0 ≤ s.1.2.1; omega, by show (0 : Int) ≤ s.1.1; omega⟩, g⟩
theorem Texts_tellCounter.c {kd b : Int} {w : List (List Int)} (h : TxC σ E a f fr A k R S H z z' n s) (hi : TI 0 1 s) (hk : kd = 13 ∨ kd = 14) (hb : 0 ≤ b ∧ b ≤ 1000) (h0 : arA H A b (w.getD 0 [])) (h1 : arA H A (b + 2) (w.getD 1 [])) (hq : TOk Q (gv3 kd w s) (fun s' σ' => TxD σ E a f fr A k R S H z z' n s' σ') (FrT σ)) : Texts_tellCounter kd b σ Q := by
  have hi0 : TI 0 0 s := hi.mo (Int.le_refl _) (by decide)
  have hH : mX σ 93 = H := h.2.2.1.1.2.2.2.2.2
  have l1 := h.q.len hi0
  obtain ⟨c1, c2, c3, c4, c5⟩ := cap100
  have gk : ∀ p : Prop, (p ↔ (keyD (w.getD 0 []) = true ∧ nuOk (w.getD 1 []) 1 5 = true)) → ¬ p → gv3 kd w s = tFl 5 s := fun p hp np => by
    unfold gv3
    rw [if_neg (fun x => np (hp.mpr x))]
  have fl : ∀ {m : Int}, gv3 kd w s = tFl m s → ∀ σ', TxF σ' (m, s.1.1, s.1.2.1) → K2 σ σ' → Q (.inr (exN 0)) σ' := fun e σ' p1 p2 => hq.2 _ σ' e p1 (FrT.k2 p2)
  refine Texts_tellCounter.i (Texts_needKey.c h.q hi0 hH (by omega) h0 (fun hy => Texts_number.c (by decide) (by decide) h.q hi0 hH (by omega) h1 (fun hy2 => ⟨by unfold Rg; omega, by unfold Rg; omega, ?_⟩) (fun hno => fl (gk _ Iff.rfl (fun x => by rw [hno] at x; exact Bool.noConfusion x.2)))) (fun hno => fl (gk _ Iff.rfl (fun x => by rw [hno] at x; exact Bool.noConfusion x.1))))
  have b2 := nuX_b hy2
  have k1 := keyD_i hy
  obtain ⟨u, u1, u2, u3⟩ := h0
  have l2 := u3.1
  obtain ⟨⟨C, hC, hCn⟩, hVv⟩ := h.2.2.1.2.2.1
  obtain ⟨t1, t2, t3, t4⟩ := hi.2.1
  have sC : suM C ≤ 240 := by
    have := suM_b (n := 12) (W := s.2.2.1.1) (fun x hx => (t3 x hx).1)
    rw [← hCn, suM_ms7, List.length_map] at this
    have e : C.length = s.2.2.1.1.length := by rw [← hCn, List.length_map]
    omega
  have lC : C.length = s.2.2.1.1.length := by rw [← hCn, List.length_map]
  have eg : gv3 kd w s = (if ixW s.2.2.1.1 0 (ms7 (w.getD 0 [])) = -1 then
      (if kd = 13 then (if 20 ≤ s.2.2.1.1.length then tFl 9 s else tPn (wrN 1 (nuX (w.getD 1 []))) (sCn s (s.2.2.1.1 ++ [ms7 (w.getD 0 [])]) (s.2.2.1.2 ++ [1])))
      else tPn (wrN 0 (nuX (w.getD 1 []))) s)
    else if kd = 13 then tPn (wrN (s.2.2.1.2.getD (ixW s.2.2.1.1 0 (ms7 (w.getD 0 []))).toNat 0 + 1) (nuX (w.getD 1 []))) (sCn s s.2.2.1.1 (s.2.2.1.2.set (ixW s.2.2.1.1 0 (ms7 (w.getD 0 []))).toNat (s.2.2.1.2.getD (ixW s.2.2.1.1 0 (ms7 (w.getD 0 []))).toNat 0 + 1)))
    else tPn (wrN (s.2.2.1.2.getD (ixW s.2.2.1.1 0 (ms7 (w.getD 0 []))).toNat 0) (nuX (w.getD 1 []))) s) := by
    unfold gv3
    rw [if_pos ⟨hy, hy2⟩]
  rw [hH, u1, u2]
  refine Shelf_seek.s (R := C) c4 c2 c3 c5 hC (by omega) (by omega) (U := w.getD 0 []) (by omega) (by omega) (by omega) (fun t ht => by rw [show (u : Int) + (t : Int) = ((u + t : Nat) : Int) by omega, h.q.rd (by omega)]; exact u3.2 t ht) ?_
  rw [hCn]
  have ib := ixW_b s.2.2.1.1 0 (ms7 (w.getD 0 []))
  generalize ix : ixW s.2.2.1.1 0 (ms7 (w.getD 0 [])) = m at *
  have h161 : ∀ (σ1 : MS) (s1 : TS) (v : Int), TxC σ1 E a f fr A k R S H z z' n s1 → TI 0 0 s1 → FrT σ σ1 → gv3 kd w s = tPn (wrN v (nuX (w.getD 1 []))) s1 → (0 ≤ v ∧ v ≤ 60000) → ∀ l4 : Int, (l4 = -1 → v = 0) → (¬ l4 = -1 → rgt (mX σ1 102) l4 = v) → Texts_tellCounter_161 (nuX (w.getD 1 [])) l4 σ1 Q := by
    intro σ1 s1 v hc1 hi1 hf1 e1 hv l4 p1 p2
    rw [e1] at hq
    have := Texts_num95 hc1 hi1 (v := v) (sys := nuX (w.getD 1 [])) (by omega) b2 (fun _ => by omega) (hq.fz9 hf1)
    refine Texts_tellCounter_161.i ⟨fun c => Texts_tellCounter_191.i ?_, fun c => Texts_tellCounter_191.i ?_⟩
    · rw [p2 c]; exact this
    · rw [p1 c] at this; exact this
  refine ⟨fun c => Texts_tellCounter_135.i ⟨by unfold Rg; omega, fun d => ?_, fun d => ?_⟩, fun c => ⟨by unfold Rg; omega, fun d => Texts_tellCounter_135.i ⟨by unfold Rg; omega, fun _ => ?_, fun h9 => absurd h9 d⟩, fun d => ?_⟩⟩
  · rw [if_neg c, if_neg d] at eg
    have hm := ib.resolve_left c
    have hmem : 0 ≤ s.2.2.1.2.getD m.toNat 0 ∧ s.2.2.1.2.getD m.toNat 0 ≤ 60000 := by
      rw [List.getD_eq_getElem?_getD, List.getElem?_eq_getElem (by omega)]
      have := t4 _ (List.getElem_mem (l := s.2.2.1.2) (n := m.toNat) (by omega))
      have := hi.1.1.2
      show 0 ≤ s.2.2.1.2[m.toNat] ∧ s.2.2.1.2[m.toNat] ≤ 60000
      omega
    exact h161 σ s _ h hi0 FrT.rf eg hmem m (fun h9 => absurd h9 c) (fun _ => by rw [hVv, rgt_a (i := m.toNat) (by omega) (by omega)])
  · rw [if_neg c, if_pos d] at eg
    have hm := ib.resolve_left c
    have e102 : rgt (mX σ 102) m = s.2.2.1.2.getD m.toNat 0 := by rw [hVv, rgt_a (i := m.toNat) (by omega) (by omega)]
    have hmem : 0 ≤ s.2.2.1.2.getD m.toNat 0 ∧ s.2.2.1.2.getD m.toNat 0 + 1 ≤ s.1.1 := by
      rw [List.getD_eq_getElem?_getD, List.getElem?_eq_getElem (by omega)]
      have := t4 _ (List.getElem_mem (l := s.2.2.1.2) (n := m.toNat) (by omega))
      show 0 ≤ s.2.2.1.2[m.toNat] ∧ s.2.2.1.2[m.toNat] + 1 ≤ s.1.1
      omega
    have h60 := hi.1.1.2
    rw [e102]
    have er : ralt (mX σ 102) m (s.2.2.1.2.getD m.toNat 0 + 1) = s.2.2.1.2.set m.toNat (s.2.2.1.2.getD m.toNat 0 + 1) := by
      rw [hVv]
      unfold ralt
      rw [if_pos (by omega)]
    refine ⟨by unfold Rg; omega, ?_⟩
    rw [er]
    have hcN : TxC (wX σ 102 (s.2.2.1.2.set m.toNat (s.2.2.1.2.getD m.toNat 0 + 1))) E a f fr A k R S H z z' n (sCn s s.2.2.1.1 (s.2.2.1.2.set m.toNat (s.2.2.1.2.getD m.toNat 0 + 1))) := h.ctr (fun q _ _ h3 => wX_ne h3) rfl ⟨⟨C, hC.cg (wX_ne (by decide)) (wX_ne (by decide)), hCn⟩, wX_self⟩
    refine h161 _ _ _ hcN (sN_ti hi (by rw [List.length_set]; exact t1) t2 t3 (fun x hx => ?_)) (FrT.x (by decide)) eg (by omega) m (fun h9 => absurd h9 c) (fun _ => ?_)
    · rcases mem_set hx with rfl | hx
      · omega
      · have := t4 x hx; omega
    · rw [wX_self, rgt_a (i := m.toNat) (by omega) (by rw [List.length_set]; omega), List.getD_eq_getElem?_getD, List.getElem?_set_self (by omega)]
      rfl
  · rw [if_pos c, if_neg d] at eg
    exact h161 σ s 0 h hi0 FrT.rf eg (by decide) m (fun _ => rfl) (fun h9 => absurd c h9)
  · rw [if_pos c, if_pos d] at eg
    have n3 : (mX σ (97 + 3)).length = C.length := by rw [show mX σ (97 + 3) = enS 0 C from hC.2, enS_len]
    refine rows_s c4 c3 n3 ⟨fun e => ?_, fun e => h.q.fail (by decide) (fl ?_)⟩
    · rw [if_neg (by omega)] at eg
      refine Texts_tellCounter_79.i (rows_s c4 c3 n3 ⟨by unfold Rg; omega, by unfold Rg; omega, ?_⟩)
      rw [hH, u1, u2, show (((u + (w.getD 0 []).length : Nat) : Int) - (u : Int)).toNat = (w.getD 0 []).length by omega, h.q.pour u3 (fun i => rfl)]
      have x98 : mX σ 98 = C.flatten := hC.1
      refine ⟨by rw [x98, flat_len]; omega, ?_⟩
      generalize e1 : wX σ 98 (mX σ 98 ++ w.getD 0 []) = σ1
      have y98 : mX σ1 (97 + 1) = (C ++ [w.getD 0 []]).flatten := by rw [← e1, flat_sn, ← x98]; exact wX_self
      have y100 : mX σ1 (97 + 3) = enS 0 C := by rw [← e1]; exact (wX_ne (by decide)).trans hC.2
      refine Shelf_close.i (tB.i c4 (tB.i c4 (tB.i c2 (tB.i c3 (tB.i c3 ⟨?_, ?_⟩)))))
      · rw [y100, enS_len]
        show C.length < capOf 100
        rw [c1]
        omega
      · rw [shR.close y98 y100]
        have y102 : mX (wX σ1 (97 + 3) (enS 0 (C ++ [w.getD 0 []]))) 102 = s.2.2.1.2 := by rw [wX_ne (by decide), ← e1]; exact (wX_ne (by decide)).trans hVv
        refine ⟨by show (mX (wX σ1 (97 + 3) (enS 0 (C ++ [w.getD 0 []]))) 102).length < 32; rw [y102]; omega, ?_⟩
        show Texts_tellCounter_135 kd (nuX (w.getD 1 [])) (C.length : Int) (wX (wX σ1 (97 + 3) (enS 0 (C ++ [w.getD 0 []]))) 102 (mX (wX σ1 (97 + 3) (enS 0 (C ++ [w.getD 0 []]))) 102 ++ [0])) Q
        rw [y102]
        generalize e2 : wX (wX σ1 (97 + 3) (enS 0 (C ++ [w.getD 0 []]))) 102 (s.2.2.1.2 ++ [0]) = σ2
        have z102 : mX σ2 102 = s.2.2.1.2 ++ [0] := by rw [← e2]; exact wX_self
        have gl : rgt (mX σ2 102) (C.length : Int) = 0 := by
          rw [z102, rgt_n (by rw [List.length_append, List.length_singleton]; omega), show C.length = s.2.2.1.2.length by omega]
          exact getD_s
        have er : ralt (mX σ2 102) (C.length : Int) (0 + 1) = s.2.2.1.2 ++ [1] := by
          rw [z102]
          unfold ralt
          rw [if_pos (by rw [List.length_append, List.length_singleton]; omega), show ((C.length : Nat) : Int).toNat = s.2.2.1.2.length by omega, List.set_append_right _ _ (Nat.le_refl _), Nat.sub_self]
          rfl
        refine Texts_tellCounter_135.i ⟨by unfold Rg; omega, fun h9 => absurd d h9, fun _ => ?_⟩
        rw [gl, er]
        refine ⟨by decide, ?_⟩
        have hX : ∀ q, q ≠ 98 → q ≠ 100 → q ≠ 102 → mX (wX σ2 102 (s.2.2.1.2 ++ [1])) q = mX σ q := fun q p1 p2 p3 => by
          rw [wX_ne p3, ← e2, wX_ne p3, wX_ne p2, ← e1, wX_ne p1]
        have hV : (wX σ2 102 (s.2.2.1.2 ++ [1])).2 = σ.2 := by rw [← e2, ← e1]; rfl
        have hcN : TxC (wX σ2 102 (s.2.2.1.2 ++ [1])) E a f fr A k R S H z z' n (sCn s (s.2.2.1.1 ++ [ms7 (w.getD 0 [])]) (s.2.2.1.2 ++ [1])) := h.ctr hX hV ⟨⟨C ++ [w.getD 0 []], ⟨?_, ?_⟩, by rw [List.map_append, hCn]; rfl⟩, wX_self⟩
        · have h60 : (1 : Int) ≤ s.1.1 := by
            have := hi.2.2.2.2.2.1.2.2
            exact this
          refine h161 _ _ 1 hcN (sN_ti hi (by rw [List.length_append, List.length_append, t1]; rfl) (by rw [List.length_append, List.length_singleton]; omega) (t3.app ⟨by rw [ms7_len]; exact k1.2, ms7_sm⟩) (fun x hx => ?_)) (FrT.ctr hX hV) eg (by decide) _ (fun h9 => absurd h9 (by omega)) (fun _ => ?_)
          · rcases List.mem_append.mp hx with hx | hx
            · have := t4 x hx; omega
            · rw [List.mem_singleton.mp hx]
              exact ⟨by decide, h60⟩
          · rw [wX_self, rgt_n (by rw [List.length_append, List.length_singleton]; omega), show C.length = s.2.2.1.2.length by omega]
            exact getD_s
        · rw [wX_ne (by decide), ← e2, wX_ne (by decide), wX_ne (by decide)]; exact y98
        · rw [wX_ne (by decide), ← e2, wX_ne (by decide)]; exact wX_self
    · rw [if_pos (by omega)] at eg
      exact eg
end
