/-! TABLES: what is known of cells and rows -/
def TbK (s v : TS) : Prop := s.1.1 ≤ v.1.1 ∧ v.2.2.2.1 = s.2.2.2.1 ∧ v.2.2.2.2.1 = s.2.2.2.2.1 ∧ v.2.2.2.2.2.1.2.2 = s.2.2.2.2.2.1.2.2
theorem TbK.tr {s v w : TS} (h : TbK s v) (h' : TbK v w) : TbK s w := ⟨Int.le_trans h.1 h'.1, h'.2.1.trans h.2.1, h'.2.2.1.trans h.2.2.1, h'.2.2.2.trans h.2.2.2⟩
theorem TbK.rf {s : TS} : TbK s s := ⟨Int.le_refl _, rfl, rfl, rfl⟩
section
variable {E : TE} {M : List Int} {t0 : Int}
theorem tbP_0 {C : List (List Int)} : 0 ≤ tbP C := by
  unfold tbP
  omega
theorem tcW_p (hE : EI E) (hMb : smB M) (ht0 : 0 ≤ t0) : ∀ {X : List (Nat × Nat)} {C : List (List Int)} {s : TS} {w : List (List Int) × TS}, TI (tbP C + t0) 0 (tx0 s) → tcW E M X s = .inl w → TI (tbP (C ++ w.1) + t0) 0 (tx0 w.2) ∧ (∀ u ∈ w.1, okK u) ∧ TbK s w.2
  | [], C, s, w, hTI, h => by
    cases h
    exact ⟨by rw [List.append_nil]; exact hTI, fun u hu => absurd hu List.not_mem_nil, TbK.rf⟩
  | p :: r, C, s, w, hTI, h => by
    unfold tcW at h
    cases h1 : tSp 15 s with
    | inr e => simp only [h1] at h; cases h
    | inl s0 =>
      simp only [h1] at h
      obtain ⟨g1, g2, g3⟩ := sp_i h1
      have ti9 : TI (tbP C + t0 + 15) 0 (tx0 s0) := by
        have e2 : tSp 15 (tx0 s) = .inl (tx0 s0) := by
          unfold tSp
          rw [if_neg (by
            show ¬ (60000 < s.1.1 + 15 ∨ 400000 < s.1.2.1 + 15)
            omega), g1]
          rfl
        exact (hTI.sp (by decide) e2).mo (Int.le_refl _) (by decide)
      cases h2 : wkD 30 (eZ E) false [] (sgT M p.1 p.2) (tx0 s0) with
      | inr e => simp only [h2] at h; cases h
      | inl s1 =>
        simp only [h2] at h
        cases h3 : tcW E M r (tx0 s1) with
        | inr e => simp only [h3] at h; cases h
        | inl v =>
          simp only [h3] at h
          cases h
          have p0 := tbP_0 (C := C)
          have ti1 := wkD_ti hE.ez (by omega) (Int.le_refl 0) ti9 (fun w hw => absurd hw List.not_mem_nil) hMb.sg h2
          have zm := zm_wk (E := eZ E) (show (0 : Int) < 1 by decide) s1 h2
          have wge : s0.1.1 ≤ s1.1.1 := (plc_wk s1 h2).1
          have t7 : ((suM s1.2.2.2.2.1.1 : Nat) : Int) + ((suM s1.2.2.2.2.2.1.1 : Nat) : Int) + (s1.2.1.length : Int) + (tbP C + t0 + 15) ≤ s1.1.1 + 100 := ti1.2.2.2.2.2.2
          have ok1 : okK s1.2.1 := ti1.1.2.2.2
          have tiN : TI (tbP (C ++ [s1.2.1]) + t0) 0 (tx0 (tx0 s1)) := by
            obtain ⟨a1, a2, a3, a4, a5, a6, a7⟩ := ti1
            refine ⟨⟨a1.1, a1.2.1, (show (0 : Int) ≤ 0 ∧ (0 : Int) ≤ 3 by decide), okK.nil⟩, a2, a3, a4, ?_, a6, ?_⟩
            · have : ((([] : List (List Int)).length : Nat) : Int) ≤ s1.2.2.2.2.2.1.2.2 := by
                have := a5.2.1
                show (0 : Int) ≤ _
                omega
              exact ⟨rfl, this, a5.2.2.1, fun w hw => absurd hw List.not_mem_nil⟩
            · show ((suM s1.2.2.2.2.1.1 : Nat) : Int) + ((suM ([] : List (List Int)) : Nat) : Int) + (([] : List Int).length : Int) + (tbP (C ++ [s1.2.1]) + t0) ≤ s1.1.1 + 100
              rw [tbP_sn]
              have e1 : suM ([] : List (List Int)) = 0 := rfl
              have e2 : ([] : List Int).length = 0 := rfl
              rw [e1, e2]
              omega
          have zn3 : s1.2.2.2.2.2.1.2.2 = s0.2.2.2.2.2.1.2.2 := by
            rw [zm.2.2]
            rfl
          have k01 : TbK s (tx0 s1) := by
            refine ⟨?_, ?_, ?_, ?_⟩
            · show s.1.1 ≤ s1.1.1
              rw [g1] at wge
              have wge : s.1.1 + 15 ≤ s1.1.1 := wge
              omega
            · show s1.2.2.2.1 = s.2.2.2.1
              rw [zm.1, g1]
              rfl
            · show s1.2.2.2.2.1 = s.2.2.2.2.1
              rw [zm.2.1, g1]
              rfl
            · show s1.2.2.2.2.2.1.2.2 = s.2.2.2.2.2.1.2.2
              rw [zn3, g1]
              rfl
          obtain ⟨i1, i2, i3⟩ := tcW_p hE hMb ht0 tiN h3
          refine ⟨?_, fun u hu => ?_, k01.tr i3⟩
          · rw [List.append_assoc] at i1
            exact i1
          · rcases List.mem_cons.mp hu with e | hu
            · rw [e]
              exact ok1
            · exact i2 u hu
theorem tbR_p (hE : EI E) (hMb : smB M) (ht0 : 0 ≤ t0) : ∀ {r : List (Nat × Nat)} {C : List (List Int)} {s : TS} {v : List (List (List Int)) × TS}, TI (tbP C + t0) 0 (tx0 s) → tbR E M r s = .inl v → TI (tbP (C ++ v.1.flatten) + t0) 0 (tx0 v.2) ∧ (∀ u ∈ v.1.flatten, okK u) ∧ TbK s v.2 ∧ v.1.length ≤ r.length
  | [], C, s, v, hTI, h => by
    cases h
    exact ⟨by rw [show ([] : List (List (List Int))).flatten = [] from rfl, List.append_nil]; exact hTI, fun u hu => absurd hu List.not_mem_nil, TbK.rf, Nat.le_refl _⟩
  | l :: r, C, s, v, hTI, h => by
    unfold tbR at h
    by_cases h8 : 8 < (tcL M l.1 l.2).length
    · rw [if_pos h8] at h
      cases h
    · rw [if_neg h8] at h
      cases h1 : tcW E M (tcL M l.1 l.2) s with
      | inr e => simp only [h1] at h; cases h
      | inl w =>
        simp only [h1] at h
        cases h2 : tbR E M r w.2 with
        | inr e => simp only [h2] at h; cases h
        | inl u =>
          simp only [h2] at h
          cases h
          obtain ⟨i1, i2, i3⟩ := tcW_p hE hMb ht0 hTI h1
          obtain ⟨j1, j2, j3, j4⟩ := tbR_p hE hMb ht0 i1 h2
          refine ⟨?_, fun x hx => ?_, i3.tr j3, ?_⟩
          · rw [List.append_assoc] at j1
            exact j1
          · have hx : x ∈ w.1 ++ u.1.flatten := hx
            rcases List.mem_append.mp hx with hx | hx
            · exact i2 x hx
            · exact j2 x hx
          · show u.1.length + 1 ≤ r.length + 1
            omega
theorem tbA_p (hE : EI E) (hMb : smB M) (ht0 : 0 ≤ t0) {ls : List (Nat × Nat)} {s : TS} {q : (List (List (List Int)) × List Int) × TS} (hTI : TI t0 0 (tx0 s)) (h : tbA E M ls s = .inl q) : TI (tbP q.1.1.flatten + t0) 0 (tx0 q.2) ∧ (∀ u ∈ q.1.1.flatten, okK u) ∧ TbK s q.2 ∧ q.1.1.length ≤ ls.length ∧ ∀ row ∈ q.1.1, row.length ≤ 8 := by
  have t00 : TI (tbP [] + t0) 0 (tx0 s) := by
    rw [show tbP [] + t0 = t0 by
      show (0 : Int) + 15 * 0 + t0 = t0
      omega]
    exact hTI
  cases ls with
  | nil =>
    cases h
    exact ⟨t00, fun u hu => absurd hu List.not_mem_nil, TbK.rf, Nat.le_refl _, fun row hr => absurd hr List.not_mem_nil⟩
  | cons l r =>
    rw [tbA_c] at h
    by_cases h8 : 8 < (tcL M l.1 l.2).length
    · rw [if_pos h8] at h
      cases h
    · rw [if_neg h8] at h
      by_cases hA : tcA M (tcL M l.1 l.2) = true
      · rw [if_pos hA] at h
        cases h1 : tbR E M r s with
        | inr e => simp only [h1] at h; cases h
        | inl v =>
          simp only [h1] at h
          cases h
          obtain ⟨j1, j2, j3, j4⟩ := tbR_p hE hMb ht0 t00 h1
          exact ⟨j1, j2, j3, by show v.1.length ≤ r.length + 1; omega, tbR_8 h1⟩
      · rw [if_neg hA] at h
        cases h1 : tbR E M (l :: r) s with
        | inr e => simp only [h1] at h; cases h
        | inl v =>
          simp only [h1] at h
          cases h
          obtain ⟨j1, j2, j3, j4⟩ := tbR_p hE hMb ht0 t00 h1
          exact ⟨j1, j2, j3, j4, tbR_8 h1⟩
theorem tbA_8 {ls : List (Nat × Nat)} {s : TS} {q : (List (List (List Int)) × List Int) × TS} (h : tbA E M ls s = .inl q) : q.1.2.length = 8 := by
  cases ls with
  | nil =>
    cases h
    rfl
  | cons l r =>
    rw [tbA_c] at h
    by_cases h8 : 8 < (tcL M l.1 l.2).length
    · rw [if_pos h8] at h
      cases h
    · rw [if_neg h8] at h
      by_cases hA : tcA M (tcL M l.1 l.2) = true
      · rw [if_pos hA] at h
        cases h1 : tbR E M r s with
        | inr e => simp only [h1] at h; cases h
        | inl v =>
          simp only [h1] at h
          cases h
          exact ofF_len
      · rw [if_neg hA] at h
        cases h1 : tbR E M (l :: r) s with
        | inr e => simp only [h1] at h; cases h
        | inl v =>
          simp only [h1] at h
          cases h
          rfl
theorem tbC_row {R : List (List (List Int))} : ∀ row ∈ R, row.length ≤ tbC R := by
  have mono : ∀ (R : List (List (List Int))) (m : Nat), m ≤ R.foldl (fun m row => max m row.length) m := by
    intro R
    induction R with
    | nil => intro m; exact Nat.le_refl _
    | cons r t ih =>
      intro m
      have := ih (max m r.length)
      show m ≤ t.foldl _ (max m r.length)
      omega
  have key : ∀ (R : List (List (List Int))) (m : Nat), ∀ row ∈ R, row.length ≤ R.foldl (fun m row => max m row.length) m := by
    intro R
    induction R with
    | nil => intro m row hr; exact absurd hr List.not_mem_nil
    | cons r t ih =>
      intro m row hr
      show row.length ≤ t.foldl _ (max m r.length)
      rcases List.mem_cons.mp hr with e | hr
      · have := mono t (max m r.length)
        rw [e]
        omega
      · exact ih (max m r.length) row hr
  exact key R 0
end
/-- a table -/
def tbF (o : Int) (E : TE) (H : HY9) (S M : List Int) (at9 nx : Nat) (b : BK9) : BK9 ⊕ (Int × Int × Int) := match tbA E M (tbL M at9 nx) b.1 with
  | .inr e => .inr e
  | .inl q => if tbC q.1.1 = 0 then .inl (q.2, b.2) else match gAll o true (tbO H (nwD9 (S.getD 0 0) (tbC q.1.1) (tbQ q.1.1)) q.1.2 (tbC q.1.1) true q.1.1) ((q.2.1.1, q.2.1.2.1), b.2.1.1, flS b (S.getD 8 0)) with
    | .inr e => .inr e
    | .inl G1 => .inl (blG (q.2, b.2) G1)
def TtX : List Nat := [112, 114, 116, 118, 130, 132, 134, 136, 138, 152, 154, 156, 158]
def FrTt (σ σ' : MS) : Prop := (∀ q, q ∉ TXY → q ∉ TtX → mX σ' q = mX σ q) ∧ σ'.2.2 = σ.2.2 ∧ ∀ y k, y ≠ 22 → y ≠ 86 → y ≠ 126 → y ≠ 160 → y ≠ 161 → y ≠ 162 → ¬ ((y = 49 ∨ y = 163) ∧ k = 13) → ¬ (y = 150 ∧ k = 9) → ¬ (y = 111 ∧ (k = 9 ∨ k = 10 ∨ k = 11 ∨ k = 12)) → ¬ (y = 128 ∧ k = 10) → mV σ' y k = mV σ y k
section
variable {σ σ0 : MS} {H : HY9} {S M : List Int} {o : Int} {E : TE} {z z' : Nat} {b : BK9} {at9 nx : Nat} {t0 : Int}
theorem FrTt.w {σ1 : MS} (h : FrTw σ σ1) : FrTt σ σ1 := ⟨fun q a c => by
  unfold TtX at c
  simp only [List.mem_cons, List.not_mem_nil, or_false, not_or] at c
  exact h.1 q a (by omega) (by omega) (by omega) (by omega), h.2.1, fun y k a1 a2 _ a4 a5 _ a7 a8 _ _ => h.2.2 y k a1 a2 a7 a4 a5 a8⟩
/-- the class sets a table -/
theorem tab_c {th : String → MS → Prop} {N : MS → Prop} (hM : mX σ 3 = M) (hM4 : M.length ≤ 4000) (hMb : smB M) (hL : LnM σ M (mlL M)) (hat : at9 < nx) (hnx : nx ≤ (mlL M).length) (hsol : ∀ j, at9 ≤ j → j < nx → ((mlL M).getD j (0, 0)).1 + 1 ≤ ((mlL M).getD j (0, 0)).2) (hB : TbB E H S [] 0 o b) (ht0 : 0 ≤ t0) (hTI : TI t0 0 (tx0 b.1)) (hSv : ∀ k, k < 13 → mV σ 24 k = S.getD k 0) (hHy : HyC σ H.2.1 H.2.2.1 H.2.2.2.1 H.2.2.2.2) (hK : BkC σ E z z' b) (h16 : mV σ 127 16 = o) (hy : ∀ b' σ', tbF o E H S M at9 nx b = .inl b' → BkC σ' E z z' b' → FrTt σ σ' → N σ') (hn : ∀ e σ', tbF o E H S M at9 nx b = .inr e → TxF σ' e → FrTt σ σ' → th (exN 0) σ') : Setter_workTable (at9 : Int) (nx : Int) σ (kV th fun σ5 => ((mV σ5 150 9 ≤ 0 → N σ5) ∧ (0 < mV σ5 150 9 → Rules_told 8 σ5 (kI th fun r6 σ6 => Galley_beginBlock r6 σ6 (kV th fun σ7 => Tables_print (mV σ7 127 16) σ7 (kV th fun σ8 => N σ8)))))) := by
  obtain ⟨hE, hE2, hS, hb, hP6, hh, ho, hTI0, hPl, hGB, hAl⟩ := hB
  obtain ⟨hR, hGa, h140, h142, h144, hbg⟩ := hK
  have s8 := hS.2.2.2.2.2.2
  have ml4 : (mlL M).length ≤ 4000 := Nat.le_trans (mlF_l (T := M) M.length 0) hM4
  have eF : ∀ q, tbA E M (tbL M at9 nx) b.1 = .inl q → ∀ r, (tbF o E H S M at9 nx b = r ↔ (if tbC q.1.1 = 0 then (.inl (q.2, b.2) : BK9 ⊕ (Int × Int × Int)) else match gAll o true (tbO H (nwD9 (S.getD 0 0) (tbC q.1.1) (tbQ q.1.1)) q.1.2 (tbC q.1.1) true q.1.1) ((q.2.1.1, q.2.1.2.1), b.2.1.1, flS b (S.getD 8 0)) with
    | .inr e => .inr e
    | .inl G1 => .inl (blG (q.2, b.2) G1)) = r) := fun q hq r => by
    unfold tbF
    rw [hq]
  refine Setter_workTable.c (t0 := t0) hM hM4 hMb hL hE hat hnx hsol hR ht0 hTI (hSv 0 (by decide)) hS.1 (fun R A v σ1 w1 r1 t1 i1 c8 f1 => ?_) (fun e σ1 w1 q1 f1 => hn e σ1 (by unfold tbF; rw [w1]) q1 (FrTt.w f1))
  obtain ⟨p1, p2, p3, p4, p5⟩ := tbA_p hE hMb ht0 hTI w1
  have ft1 := FrTt.w f1
  have x1 : ∀ q, q ∉ TXY → q ∉ TtX → mX σ1 q = mX σ q := ft1.1
  have wge : b.1.1.1 ≤ v.1.1 := p3.1
  have g1 : GaC σ1 ((v.1.1, v.1.2.1), b.2.1) [] := by
    have k : ∀ q, q = 130 ∨ q = 132 ∨ q = 134 ∨ q = 136 ∨ q = 138 → mX σ1 q = mX σ q := fun q hq => f1.1 q (by rcases hq with rfl | rfl | rfl | rfl | rfl <;> decide) (by omega) (by omega) (by omega) (by omega)
    exact ⟨(k _ (by decide)).trans hGa.1, (k _ (by decide)).trans hGa.2.1, (k _ (by decide)).trans hGa.2.2.1, (k _ (by decide)).trans hGa.2.2.2.1, (k _ (by decide)).trans hGa.2.2.2.2.1, r1.1.1, r1.1.2⟩
  have bg1 : mV σ1 128 10 = bZ b.2.2.2 := (f1.2.2 _ _ (by decide) (by decide) (by decide) (by decide) (by decide) (by decide)).trans hbg
  have k1 : BkC σ1 E z z' (v, b.2) := ⟨r1, g1, (x1 140 (by decide) (by decide)).trans h140, (x1 142 (by decide) (by decide)).trans h142, (x1 144 (by decide) (by decide)).trans h144, bg1⟩
  show (mV σ1 150 9 ≤ 0 → N σ1) ∧ (0 < mV σ1 150 9 → Rules_told 8 σ1 _)
  rw [t1.2.2.2.1]
  refine ⟨fun h => hy (v, b.2) σ1 ((eF _ w1 _).mpr (if_pos (by show tbC R = 0; omega))) k1 ft1, fun h => ?_⟩
  have hc1 : 1 ≤ tbC R := by omega
  have hc0 : ¬ tbC R = 0 := by omega
  refine told_c (k := 8) (by decide) ((f1.2.2 _ _ (by decide) (by decide) (by decide) (by decide) (by decide) (by decide)).trans (hSv 8 (by decide))) ?_
  show Galley_beginBlock (S.getD 8 0) σ1 _
  obtain ⟨q1, q2, q3, q4, q5⟩ := hGB
  have q4 : ((suM (b.2.1.1.map (·.1)) : Nat) : Int) + 20 * b.2.1.1.length ≤ b.1.1.1 := q4
  have q5 : 45 * (b.2.1.2.length : Int) ≤ 3 * b.1.1.1 + 75 * b.2.1.1.length + (-45) := q5
  have q3' : b.2.1.1.length ≤ 1500 := q3
  have t11 : 0 ≤ v.1.1 ∧ v.1.1 ≤ 60000 := p1.1.1
  have t12 : 0 ≤ v.1.2.1 ∧ v.1.2.1 ≤ 400000 := p1.1.2.1
  have w60 : b.1.1.1 ≤ 60000 := q1.2
  refine Galley_beginBlock.c g1 bg1 s8 (by show b.2.1.2.length ≤ 8000; omega) (fun σ2 g2 d2 x2 c2 v2 => ?_)
  have g2 : GaC σ2 ((v.1.1, v.1.2.1), b.2.1.1, flS b (S.getD 8 0)) [] := g2
  have gb2 : GB9 90 ((v.1.1, v.1.2.1), b.2.1.1, flS b (S.getD 8 0)) := by
    refine ⟨t11, t12, q3, ?_, ?_⟩
    · show ((suM (b.2.1.1.map (·.1)) : Nat) : Int) + 20 * b.2.1.1.length ≤ v.1.1
      omega
    · show 45 * ((flS b (S.getD 8 0)).length : Int) ≤ 3 * v.1.1 + 75 * b.2.1.1.length + 90
      unfold flS
      rw [List.length_append]
      split
      · rw [List.length_replicate]
        omega
      · rw [List.length_nil]
        omega
  have t7 : ((suM v.2.2.2.2.1.1 : Nat) : Int) + ((suM ([] : List (List Int)) : Nat) : Int) + (([] : List Int).length : Int) + (tbP R.flatten + t0) ≤ v.1.1 + 100 := p1.2.2.2.2.2.2
  have eP : tbP R.flatten = ((suM R.flatten : Nat) : Int) + 15 * (R.flatten.length : Int) := rfl
  have e1 : suM ([] : List (List Int)) = 0 := rfl
  have e2 : ([] : List Int).length = 0 := rfl
  rw [e1, e2] at t7
  have lls : (tbL M at9 nx).length ≤ 4000 := by
    unfold tbL
    rw [List.length_take, List.length_drop]
    omega
  have p4 : R.length ≤ (tbL M at9 nx).length := p4
  have nb := nwD_b (wide := S.getD 0 0) (c := tbC R) (W := tbQ R) hS.1 c8 ofF_len (fun k hk => by
    unfold tbQ
    rw [ofF_get hk]
    exact tbD_1)
  have v21 : ∀ y k, ¬ (y = 128 ∧ k = 10) → mV σ2 y k = mV σ1 y k := v2
  have x21 : ∀ q, q ≠ 138 → mX σ2 q = mX σ1 q := x2
  have ft2 : FrTt σ σ2 := ⟨fun q a c => (x21 q (fun e => c (by rw [e]; decide))).trans (ft1.1 q a c), c2.trans ft1.2.1, fun y k a1 a2 a3 a4 a5 a6 a7 a8 a9 a10 => (v21 y k a10).trans (ft1.2.2 y k a1 a2 a3 a4 a5 a6 a7 a8 a9 a10)⟩
  have o2 : mV σ2 127 16 = o := (ft2.2.2 _ _ (by decide) (by decide) (by decide) (by decide) (by decide) (by decide) (by decide) (by decide) (by decide) (by decide)).trans h16
  show Tables_print (mV σ2 127 16) σ2 _
  rw [o2]
  have hA2 : ∀ k, k < tbC R → mV σ2 160 k = A.getD k 0 := fun k hk => (v21 _ _ (by omega)).trans (t1.2.2.2.2 k (by
    have : A.length = 8 := tbA_8 w1
    omega))
  have key := Tables_print.nn (σ0 := σ2) (Q := kV th fun σ8 => N σ8) (H := H) (W := nwD9 (S.getD 0 0) (tbC R) (tbQ R)) (A := A) (c := tbC R) (o := o) (R := R) ⟨hc1, c8⟩ (by omega) tbC_row (by omega) (by omega) p2 ho ⟨(x21 _ (by decide)).trans t1.1.1, (x21 _ (by decide)).trans t1.1.2⟩ ((x21 _ (by decide)).trans t1.2.1) ((v21 _ _ (by decide)).trans t1.2.2.2.1) (fun k hk => ⟨(v21 _ _ (by omega)).trans (t1.2.2.1 k (by rw [nb.1]; omega)), nb.2 k hk⟩) hA2 hb ⟨hHy.1.cg (ft2.1 _ (by decide) (by decide)) (ft2.1 _ (by decide) (by decide)), hHy.2.1.cg (ft2.1 _ (by decide) (by decide)) (ft2.1 _ (by decide) (by decide)), (ft2.2.2 _ _ (by decide) (by decide) (by decide) (by decide) (by decide) (by decide) (by decide) (by decide) (by decide) (by decide)).trans hHy.2.2.1, (ft2.2.2 _ _ (by decide) (by decide) (by decide) (by decide) (by decide) (by decide) (by decide) (by decide) (by decide) (by decide)).trans hHy.2.2.2⟩ R [] ((v.1.1, v.1.2.1), b.2.1.1, flS b (S.getD 8 0)) σ2 rfl ⟨fun _ _ => rfl, rfl, fun _ _ _ _ _ _ => rfl⟩ g2 gb2 (fun G' σ3 q1 q2 q3 q4 => ?_) (fun e σ3 q1 q2 q4 => ?_)
  · exact Tables_print.i key
  · have f3 : FrTt σ σ3 := ⟨fun q a c => (q4.1 q (fun e => c (by
      unfold TtX
      simp only [List.mem_cons, List.not_mem_nil, or_false] at e ⊢
      omega))).trans (ft2.1 q a c), q4.2.1.trans ft2.2.1, fun y k a1 a2 a3 a4 a5 a6 a7 a8 a9 a10 => (q4.2.2 y k a1 a3 a6 a9).trans (ft2.2.2 y k a1 a2 a3 a4 a5 a6 a7 a8 a9 a10)⟩
    have x3 : ∀ q, q ∉ TXY → q ∉ TtX → mX σ3 q = mX σ q := f3.1
    refine hy (blG (v, b.2) G') σ3 ((eF _ w1 _).mpr ?_) ⟨?_, q2, (x3 140 (by decide) (by decide)).trans h140, (x3 142 (by decide) (by decide)).trans h142, (x3 144 (by decide) (by decide)).trans h144, ?_⟩ f3
    · show (if tbC R = 0 then (.inl (v, b.2) : BK9 ⊕ (Int × Int × Int)) else match gAll o true (tbO H (nwD9 (S.getD 0 0) (tbC R) (tbQ R)) A (tbC R) true R) ((v.1.1, v.1.2.1), b.2.1.1, flS b (S.getD 8 0)) with
        | .inr e => .inr e
        | .inl G1 => .inl (blG (v, b.2) G1)) = _
      rw [if_neg hc0]
      have q1 : gAll o true (tbO H (nwD9 (S.getD 0 0) (tbC R) (tbQ R)) A (tbC R) true R) ((v.1.1, v.1.2.1), b.2.1.1, flS b (S.getD 8 0)) = .inl G' := q1
      rw [q1]
    · have hz := r1.2.1.2.1.2.2.1
      refine RdC.g (w := (G'.1.1, G'.1.2)) r1 (fun q hq => (q4.1 q (by
        simp only [List.mem_cons, List.not_mem_nil, or_false]
        omega)).trans (x21 q (by omega))) (q4.2.1.trans c2) (fun y k hy => (q4.2.2 y k (by omega) (by omega) (by omega) (by omega)).trans (v21 y k (by omega))) q2.2.2.2.2.2.1 q2.2.2.2.2.2.2
    · exact (q4.2.2 _ _ (by decide) (by decide) (by decide) (by decide)).trans d2
  · refine hn e σ3 ((eF _ w1 _).mpr ?_) q2 ⟨fun q a c => (q4.1 q (fun e => c (by
      unfold TtX
      simp only [List.mem_cons, List.not_mem_nil, or_false] at e ⊢
      omega))).trans (ft2.1 q a c), q4.2.1.trans ft2.2.1, fun y k a1 a2 a3 a4 a5 a6 a7 a8 a9 a10 => (q4.2.2 y k a1 a3 a6 a9).trans (ft2.2.2 y k a1 a2 a3 a4 a5 a6 a7 a8 a9 a10)⟩
    show (if tbC R = 0 then (.inl (v, b.2) : BK9 ⊕ (Int × Int × Int)) else match gAll o true (tbO H (nwD9 (S.getD 0 0) (tbC R) (tbQ R)) A (tbC R) true R) ((v.1.1, v.1.2.1), b.2.1.1, flS b (S.getD 8 0)) with
      | .inr e => .inr e
      | .inl G1 => .inl (blG (v, b.2) G1)) = _
    rw [if_neg hc0]
    have q1 : gAll o true (tbO H (nwD9 (S.getD 0 0) (tbC R) (tbQ R)) A (tbC R) true R) ((v.1.1, v.1.2.1), b.2.1.1, flS b (S.getD 8 0)) = .inr e := q1
    rw [q1]
end
