/-! TABLES: their rows; the class -/
def tbR (E : TE) (M : List Int) : List (Nat × Nat) → TS → (List (List (List Int)) × TS) ⊕ (Int × Int × Int)
  | [], s => .inl ([], s)
  | l :: r, s => if 8 < (tcL M l.1 l.2).length then .inr (9, s.1.1, s.1.2.1) else match tcW E M (tcL M l.1 l.2) s with
    | .inr e => .inr e
    | .inl w => match tbR E M r w.2 with
      | .inr e => .inr e
      | .inl v => .inl (w.1 :: v.1, v.2)
def al60 : List Int := [60, 60, 60, 60, 60, 60, 60, 60]
/-- (rows, alignments) -/
def tbA (E : TE) (M : List Int) : List (Nat × Nat) → TS → ((List (List (List Int)) × List Int) × TS) ⊕ (Int × Int × Int)
  | [], s => .inl (([], al60), s)
  | l :: r, s => if 8 < (tcL M l.1 l.2).length then .inr (9, s.1.1, s.1.2.1) else if tcA M (tcL M l.1 l.2) = true then (match tbR E M r s with
      | .inr e => .inr e
      | .inl v => .inl ((v.1, tcV M (tcL M l.1 l.2)), v.2)) else (match tbR E M (l :: r) s with
      | .inr e => .inr e
      | .inl v => .inl ((v.1, al60), v.2))
theorem tbA_c {E : TE} {M : List Int} {l : Nat × Nat} {r : List (Nat × Nat)} {s : TS} : tbA E M (l :: r) s = if 8 < (tcL M l.1 l.2).length then .inr (9, s.1.1, s.1.2.1) else if tcA M (tcL M l.1 l.2) = true then (match tbR E M r s with
      | .inr e => .inr e
      | .inl v => .inl ((v.1, tcV M (tcL M l.1 l.2)), v.2)) else (match tbR E M (l :: r) s with
      | .inr e => .inr e
      | .inl v => .inl ((v.1, al60), v.2)) := rfl
def tbJ (R : List (List (List Int))) (r : (List (List (List Int)) × TS) ⊕ (Int × Int × Int)) : (List (List (List Int)) × TS) ⊕ (Int × Int × Int) := match r with
  | .inr e => .inr e
  | .inl v => .inl (R ++ v.1, v.2)
def tbQ (R : List (List (List Int))) : List Int := ofF (fun k => tbD k R) 8
theorem tcW_l {E : TE} {M : List Int} : ∀ {X : List (Nat × Nat)} {s : TS} {w : List (List Int) × TS}, tcW E M X s = .inl w → w.1.length = X.length
  | [], s, w, h => by
    cases h
    rfl
  | p :: r, s, w, h => by
    unfold tcW at h
    cases h1 : tSp 15 s with
    | inr e => simp only [h1] at h; cases h
    | inl s0 =>
      simp only [h1] at h
      cases h2 : wkD 30 (eZ E) false [] (sgT M p.1 p.2) (tx0 s0) with
      | inr e => simp only [h2] at h; cases h
      | inl s1 =>
        simp only [h2] at h
        cases h3 : tcW E M r (tx0 s1) with
        | inr e => simp only [h3] at h; cases h
        | inl v =>
          simp only [h3] at h
          cases h
          show v.1.length + 1 = r.length + 1
          rw [tcW_l h3]
section
variable {σ σ0 : MS} {Q : MQ9} {E : TE} {z z' : Nat} {M : List Int} {at9 nx : Nat} {t0 : Int}
theorem TaC.cr {R : List (List (List Int))} {p : List (List Int)} {σ1 : MS} (h : TaC σ R p) (x6 : mX σ1 156 = reC 0 (R ++ [p])) (x : ∀ q, q ≠ 156 → mX σ1 q = mX σ q) (v : mV σ1 = mV σ) : TaC σ1 (R ++ [p]) [] := by
  have ef : (R ++ [p]).flatten ++ [] = R.flatten ++ p := by
    rw [List.append_nil, List.flatten_append]
    show R.flatten ++ (p ++ []) = _
    rw [List.append_nil]
  refine ⟨?_, x6, fun k hk => ?_, ?_⟩
  · rw [ef]
    exact ⟨(x _ (by decide)).trans h.1.1, (x _ (by decide)).trans h.1.2⟩
  · rw [v, h.2.2.1 k hk, tbD_sn (R := R ++ [p]), if_neg (show ¬ k < ([] : List (List Int)).length from Nat.not_lt_zero _)]
  · rw [v, h.2.2.2, tbC_sn (R := R ++ [p])]
    show _ = ((max (tbC (R ++ [p])) 0 : Nat) : Int)
    rw [Nat.max_zero]
/-- one line of a table, or those behind the first -/
theorem wt_row {k9 : Nat} {R : List (List (List Int))} {s : TS} (hM4 : M.length ≤ 4000) (hMb : smB M) (hE : EI E) (ht0 : 0 ≤ t0) {a e : Nat} (hae : a + 1 ≤ e) (he : e ≤ M.length) (hRl : R.length < 4000) (h3 : mX σ 3 = M) (h158 : mX σ 158 = spQ (tcL M a e)) (h8 : (tcL M a e).length ≤ 8) (hR : RdC σ E z z' s) (hT : TaC σ R []) (hTI : TI (tbP R.flatten + t0) 0 (tx0 s)) (hy : ∀ w σ', tcW E M (tcL M a e) s = .inl w → RdC σ' E z z' w.2 → TaC σ' (R ++ [w.1]) [] → TI (tbP (R ++ [w.1]).flatten + t0) 0 (tx0 w.2) → FrTb σ σ' → Setter_workTable_9 (at9 : Int) (nx : Int) ((k9 + 1 : Nat) : Int) σ' Q) (hn : ∀ e1 σ', tcW E M (tcL M a e) s = .inr e1 → TxF σ' e1 → FrTb σ σ' → Q (.inr (exN 0)) σ') : Setter_workTable_63 (at9 : Int) (nx : Int) (k9 : Int) σ Q := by
  have key := wt_66 (Q := Q) (σ0 := σ) (at9 := (at9 : Int)) (nx := (nx : Int)) (k9 := (k9 : Int)) (R := R) (z := z) (z' := z') (s0 := s) hM4 hMb hE h8 (tcL_b hae he) he ht0 (by omega) (fun w σ1 w1 r1 t1 i1 f1 => ?_) hn (tcL M a e) [] [] s σ rfl rfl h3 h158 hR hT (by rw [List.append_nil]; exact hTI) FrTb.rf (by
    cases tcW E M (tcL M a e) s <;> rfl)
  · exact Setter_workTable_63.i key
  · have l4 : (mX σ1 154).length = R.flatten.length + w.1.length := by
      rw [t1.1.2, enS_len, List.length_map, List.length_append]
    have ef : (R ++ [w.1]).flatten = R.flatten ++ w.1 := by
      rw [List.flatten_append]
      show R.flatten ++ (w.1 ++ []) = _
      rw [List.append_nil]
    refine Tables_closeRow.i (Shelf_rows.i (tB.i (by decide) (tB.i (by decide) ?_)))
    show (mX σ1 156).length < 4096 ∧ Setter_workTable_163 (at9 : Int) (nx : Int) (k9 : Int) (wX σ1 156 (mX σ1 156 ++ [(((mX σ1 (151 + 3)).length : Nat) : Int)])) Q
    rw [show (mX σ1 (151 + 3)).length = R.flatten.length + w.1.length from l4, t1.2.1, reC_l]
    refine ⟨by omega, Setter_workTable_163.i ?_⟩
    have e6 : reC 0 R ++ [((R.flatten.length + w.1.length : Nat) : Int)] = reC 0 (R ++ [w.1]) := by
      rw [reC_sn, Nat.zero_add]
    rw [e6, show (k9 : Int) + 1 = ((k9 + 1 : Nat) : Int) by omega]
    exact hy w _ w1 (RdC.g (w := (w.2.1.1, w.2.1.2.1)) r1 (fun q hq => wX_ne (by omega)) rfl (fun _ _ _ => rfl) r1.1.1 r1.1.2) (t1.cr wX_self (fun q hq => wX_ne hq) rfl) (by rw [ef]; exact i1) (f1.tr ⟨fun q _ _ _ a _ => wX_ne a, rfl, fun _ _ _ _ _ _ _ => rfl⟩)
theorem lin_b {j : Nat} (hj : j < (mlL M).length) : ((mlL M).getD j (0, 0)).1 ≤ ((mlL M).getD j (0, 0)).2 ∧ ((mlL M).getD j (0, 0)).2 ≤ M.length := by
  have p := (ml_p (T := M) hj).1
  exact ⟨by have := p.1; omega, by have := p.2.1; omega⟩
theorem wtk_9 (hM4 : M.length ≤ 4000) (hMb : smB M) (hE : EI E) (ht0 : 0 ≤ t0) (hnx : nx ≤ (mlL M).length) (hsol : ∀ j, at9 ≤ j → j < nx → ((mlL M).getD j (0, 0)).1 + 1 ≤ ((mlL M).getD j (0, 0)).2) {ls : List (Nat × Nat)} (hls : ls = ((mlL M).drop at9).take (nx - at9)) (hat : at9 ≤ nx) : ∀ (r q : List (Nat × Nat)) (R : List (List (List Int))) (s : TS) (σ : MS), ls = q ++ r → 1 ≤ q.length → R.length ≤ q.length → mX σ 3 = M → LnM σ M (mlL M) → RdC σ E z z' s → TaC σ R [] → TI (tbP R.flatten + t0) 0 (tx0 s) → FrTb σ0 σ → (∀ v σ', tbR E M r s = .inl v → RdC σ' E z z' v.2 → TaC σ' (R ++ v.1) [] → TI (tbP (R ++ v.1).flatten + t0) 0 (tx0 v.2) → FrTb σ0 σ' → Setter_workTable_9 (at9 : Int) (nx : Int) (nx : Int) σ' Q) → (∀ e σ', tbR E M r s = .inr e → TxF σ' e → FrTb σ0 σ' → Q (.inr (exN 0)) σ') → Setter_workTable_9 (at9 : Int) (nx : Int) ((at9 + q.length : Nat) : Int) σ Q := by
  have ll : ls.length = nx - at9 := by
    rw [hls, List.length_take, List.length_drop]
    omega
  have ml4 : (mlL M).length ≤ 4000 := Nat.le_trans (mlF_l (T := M) M.length 0) hM4
  intro r
  induction r with
  | nil =>
    intro q R s σ hq hq1 hRq h3 hL hR hT hTI hf hy hn
    rw [List.append_nil] at hq
    have := hy ([], s) σ rfl hR (by rw [List.append_nil]; exact hT) (by rw [List.append_nil]; exact hTI) hf
    rw [show at9 + q.length = nx by rw [← hq, ll]; omega]
    exact this
  | cons l r ih =>
    intro q R s σ hq hq1 hRq h3 hL hR hT hTI hf hy hn
    have hl2 : nx - at9 = q.length + (r.length + 1) := by rw [← ll, hq, List.length_append, List.length_cons]
    have hj : at9 + q.length < (mlL M).length := by omega
    have el : (mlL M).getD (at9 + q.length) (0, 0) = l := by
      have e1 : ls.getD q.length (0, 0) = l := by
        rw [hq]
        unfold List.getD
        rw [List.getElem?_append_right (Nat.le_refl _), Nat.sub_self]
        rfl
      rw [hls] at e1
      unfold List.getD at e1 ⊢
      rw [List.getElem?_take_of_lt (by omega), List.getElem?_drop] at e1
      exact e1
    have hb := lin_b hj
    have hs := hsol (at9 + q.length) (by omega) (by omega)
    rw [el] at hb hs
    have hx0 : rgt (mX σ 200) ((at9 + q.length : Nat) : Int) = ((l.1 : Nat) : Int) := by
      have := mlA_at hj (fun x => ((x.1 : Nat) : Int)) hL.1
      rw [el] at this
      exact this
    have hx1 : rgt (mX σ 202) ((at9 + q.length : Nat) : Int) = ((l.2 : Nat) : Int) := by
      have := mlA_at hj (fun x => ((x.2 : Nat) : Int)) hL.2.1
      rw [el] at this
      exact this
    refine Setter_workTable_9.i ⟨by unfold Rg; omega, by unfold Rg; omega, fun h => absurd h (by omega), fun _ => ⟨by unfold Rg; omega, by unfold Rg; omega, ?_⟩⟩
    rw [hx0, hx1]
    refine Tables_part.c (w := (s.1.1, s.1.2.1)) h3 hM4 hs hb.2 hR.1 (fun h8 => ?_) (fun h8 hx => hn _ _ (by
      unfold tbR
      rw [if_pos (by omega)]) hx (hf.tr ⟨fun q' _ _ _ _ a => wX_ne a, rfl, fun y k a _ _ _ _ => wV_ne (Or.inl a)⟩))
    show Rg _ ∧ Rg _ ∧ (¬ ((at9 + q.length : Nat) : Int) = (at9 : Int) → Setter_workTable_63 (at9 : Int) (nx : Int) ((at9 + q.length : Nat) : Int) (wX σ 158 (spQ (tcL M l.1 l.2))) Q) ∧ _
    refine ⟨by unfold Rg; omega, by unfold Rg; omega, fun _ => ?_, fun h => absurd h (by omega)⟩
    have f1 : FrTb σ (wX σ 158 (spQ (tcL M l.1 l.2))) := ⟨fun q' _ _ _ _ a => wX_ne a, rfl, fun _ _ _ _ _ _ _ => rfl⟩
    have e8 : ¬ 8 < (tcL M l.1 l.2).length := by omega
    refine wt_row (k9 := at9 + q.length) hM4 hMb hE ht0 hs hb.2 (by omega) ((wX_ne (by decide)).trans h3) wX_self h8 (RdC.g (w := (s.1.1, s.1.2.1)) hR (fun q' hq' => wX_ne (by omega)) rfl (fun _ _ _ => rfl) hR.1.1 hR.1.2) (hT.cg (fun q' hq' => wX_ne (by omega)) (fun _ _ _ => rfl)) hTI (fun w σ1 w1 r1 t1 i1 g1 => ?_) (fun e1 σ1 w1 q1 g1 => hn e1 σ1 (by
      unfold tbR
      rw [if_neg e8, w1]) q1 ((hf.tr f1).tr g1))
    have x1 : ∀ q', q' = 3 ∨ q' = 200 ∨ q' = 202 ∨ q' = 204 → mX σ1 q' = mX σ q' := fun q' h => by
      have m : q' ∉ TXY := by
        unfold TXY
        simp only [List.mem_cons, List.not_mem_nil, or_false]
        omega
      exact (g1.1 q' m (by omega) (by omega) (by omega) (by omega)).trans (wX_ne (by omega))
    have := ih (q ++ [l]) (R ++ [w.1]) w.2 σ1 (by rw [List.append_assoc]; exact hq) (by rw [List.length_append]; omega) (by rw [List.length_append, List.length_append]; show _ + 1 ≤ _ + 1; omega) ((x1 3 (by omega)).trans h3) ⟨(x1 _ (by omega)).trans hL.1, (x1 _ (by omega)).trans hL.2.1, (x1 _ (by omega)).trans hL.2.2⟩ r1 t1 i1 ((hf.tr f1).tr g1) (fun v σ2 v1 r2 t2 i2 g2 => hy (w.1 :: v.1, v.2) σ2 (by
      unfold tbR
      rw [if_neg e8, w1]
      show (match tbR E M r w.2 with
        | .inr e => (.inr e : (List (List (List Int)) × TS) ⊕ (Int × Int × Int))
        | .inl v => .inl (w.1 :: v.1, v.2)) = _
      rw [v1]) r2 (by rw [List.append_assoc] at t2; exact t2) (by rw [List.append_assoc] at i2; exact i2) g2) (fun e1 σ2 v1 q2 g2 => hn e1 σ2 (by
      unfold tbR
      rw [if_neg e8, w1]
      show (match tbR E M r w.2 with
        | .inr e => (.inr e : (List (List (List Int)) × TS) ⊕ (Int × Int × Int))
        | .inl v => .inl (w.1 :: v.1, v.2)) = _
      rw [v1]) q2 g2)
    rw [List.length_append] at this
    exact this
/-- what a table's cells may change -/
def FrTw (σ σ' : MS) : Prop := (∀ q, q ∉ TXY → q ≠ 152 → q ≠ 154 → q ≠ 156 → q ≠ 158 → mX σ' q = mX σ q) ∧ σ'.2.2 = σ.2.2 ∧ ∀ y k, y ≠ 22 → y ≠ 86 → ¬ ((y = 49 ∨ y = 163) ∧ k = 13) → y ≠ 160 → y ≠ 161 → ¬ (y = 150 ∧ k = 9) → mV σ' y k = mV σ y k
def FrTo (σ σ' : MS) : Prop := (∀ q, q ≠ 152 → q ≠ 154 → q ≠ 156 → mX σ' q = mX σ q) ∧ σ'.2.2 = σ.2.2 ∧ ∀ y k, y ≠ 160 → y ≠ 161 → ¬ (y = 150 ∧ k = 9) → mV σ' y k = mV σ y k
theorem FrTw.o {σ1 : MS} (h : FrTo σ σ1) : FrTw σ σ1 := ⟨fun q _ a b c _ => h.1 q a b c, h.2.1, fun y k _ _ _ a b c => h.2.2 y k a b c⟩
theorem Tables_open.c (hq : ∀ σ', TaC σ' [] [] → hol σ' 160 al60 → FrTo σ σ' → Q (.inl none) σ') : Tables_open σ Q := by
  have key : ∀ (n j : Nat) (σ1 : MS), j + n = 8 → (mX σ1 152 = [] ∧ mX σ1 154 = [] ∧ mX σ1 156 = []) → mV σ1 150 9 = 0 → (∀ k, k < j → mV σ1 160 k = 60 ∧ mV σ1 161 k = 1) → FrTo σ σ1 → Tables_open_21 (j : Int) σ1 Q := by
    intro n
    induction n with
    | zero =>
      intro j σ1 hj hx h9 hk hf
      have ej : j = 8 := by omega
      rw [ej] at hk
      refine Tables_open_21.i ⟨by unfold Rg; omega, fun _ => hq σ1 ⟨⟨hx.1, hx.2.1⟩, hx.2.2, fun k hk9 => (hk k hk9).2, h9⟩ (fun k hk9 => ?_) hf, fun h => absurd h (by omega)⟩
      have hk8 : k < 8 := hk9
      rw [(hk k hk8).1]
      have : ∀ k, k < 8 → (60 : Int) = al60.getD k 0 := by decide
      exact this k hk8
    | succ n ih =>
      intro j σ1 hj hx h9 hk hf
      refine Tables_open_21.i ⟨by unfold Rg; omega, fun h => absurd h (by omega), fun _ => ⟨by omega, by omega, by omega, by omega, ?_⟩⟩
      rw [Int.toNat_natCast, show (j : Int) + 1 = ((j + 1 : Nat) : Int) by omega]
      refine ih (j + 1) _ (by omega) hx ((wV_ne (Or.inl (by decide))).trans ((wV_ne (Or.inl (by decide))).trans h9)) (fun k hk9 => ?_) ⟨hf.1, hf.2.1, fun y k d e f => (wV_ne (Or.inl e)).trans ((wV_ne (Or.inl d)).trans (hf.2.2 y k d e f))⟩
      by_cases e : k = j
      · rw [e, wV_ne (Or.inl (by decide)), wV_self, wV_self]
        exact ⟨rfl, rfl⟩
      · rw [wV_ne (Or.inl (by decide)), wV_ne (Or.inr e), wV_ne (Or.inr e), wV_ne (Or.inl (by decide))]
        exact hk k (by omega)
  refine Tables_open.i (Shelf_clear.i (tB.i (by decide) (tB.i (by decide) (tB.i (by decide) (tB.i (by decide) (tB.i (by decide) (tB.i (by decide) ?_)))))))
  refine key 8 0 _ (by omega) ⟨?_, ?_, ?_⟩ wV_self (fun k hk => absurd hk (Nat.not_lt_zero _)) ⟨fun q a b c => ?_, rfl, fun y k _ _ f => wV_ne (by omega)⟩
  · show mX (wX (wX (wX σ (151 + 1) []) (151 + 3) []) 156 []) 152 = []
    rw [wX_ne (by decide), wX_ne (by decide), wX_self]
  · show mX (wX (wX (wX σ (151 + 1) []) (151 + 3) []) 156 []) 154 = []
    rw [wX_ne (by decide), wX_self]
  · exact (wX_self : mX (wX (wX (wX σ (151 + 1) []) (151 + 3) []) 156 []) 156 = [])
  · show mX (wX (wX (wX σ (151 + 1) []) (151 + 3) []) 156 []) q = _
    rw [wX_ne c, wX_ne b, wX_ne a]
end
