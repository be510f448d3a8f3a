/-! TABLES: the class works one, the whole -/
def TaN (σ : MS) (wide : Int) (R : List (List (List Int))) (A : List Int) : Prop := shR σ 151 (R.flatten.map pkL) ∧ mX σ 156 = reC 0 R ∧ hol σ 161 (nwD9 wide (tbC R) (tbQ R)) ∧ mV σ 150 9 = (tbC R : Int) ∧ hol σ 160 A
def tbL (M : List Int) (at9 nx : Nat) : List (Nat × Nat) := ((mlL M).drop at9).take (nx - at9)
theorem tbR_8 {E : TE} {M : List Int} : ∀ {r : List (Nat × Nat)} {s : TS} {v : List (List (List Int)) × TS}, tbR E M r s = .inl v → ∀ row ∈ v.1, row.length ≤ 8
  | [], s, v, h => by
    cases h
    intro row hr
    exact absurd hr List.not_mem_nil
  | l :: r, s, v, h => by
    unfold tbR at h
    by_cases h8 : 8 < (tcL M l.1 l.2).length
    · rw [if_pos h8] at h
      cases h
    · rw [if_neg h8] at h
      cases h1 : tcW E M (tcL M l.1 l.2) s with
      | inr e => simp only [h1] at h; cases h
      | inl w =>
        simp only [h1] at h
        cases h2 : tbR E M r w.2 with
        | inr e => simp only [h2] at h; cases h
        | inl u =>
          simp only [h2] at h
          cases h
          intro row hr
          rcases List.mem_cons.mp hr with e | hr
          · rw [e, tcW_l h1]
            omega
          · exact tbR_8 h2 row hr
theorem tbC_8 {R : List (List (List Int))} (h : ∀ row ∈ R, row.length ≤ 8) : tbC R ≤ 8 := by
  have key : ∀ (R : List (List (List Int))) (m : Nat), m ≤ 8 → (∀ row ∈ R, row.length ≤ 8) → R.foldl (fun m row => max m row.length) m ≤ 8 := by
    intro R
    induction R with
    | nil => intro m h _; exact h
    | cons r t ih =>
      intro m h hr
      have := hr r List.mem_cons_self
      exact ih (max m r.length) (by omega) (fun row h9 => hr row (List.mem_cons_of_mem _ h9))
  exact key R 0 (by omega) h
theorem tbD_b {k : Nat} {R : List (List (List Int))} {m : Nat} (h : ∀ row ∈ R, ∀ c ∈ row, c.length ≤ m) : tbD k R ≤ max 1 (m : Int) := by
  have key : ∀ (R : List (List (List Int))) (x : Int), x ≤ max 1 (m : Int) → (∀ row ∈ R, ∀ c ∈ row, c.length ≤ m) → R.foldl (fun m row => if k < row.length then max m ((pkL (row.getD k [])).length : Int) else m) x ≤ max 1 (m : Int) := by
    intro R
    induction R with
    | nil => intro x h _; exact h
    | cons r t ih =>
      intro x hx hr
      refine ih _ ?_ (fun row h9 => hr row (List.mem_cons_of_mem _ h9))
      show (if k < r.length then max x ((pkL (r.getD k [])).length : Int) else x) ≤ max 1 (m : Int)
      by_cases hk : k < r.length
      · rw [if_pos hk]
        have hm : r.getD k [] ∈ r := by
          unfold List.getD
          rw [List.getElem?_eq_getElem hk, Option.getD_some]
          exact List.getElem_mem _
        have h1 := hr r List.mem_cons_self _ hm
        have h2 := pkL_q (L := r.getD k [])
        omega
      · rw [if_neg hk]
        exact hx
  exact key R 1 (by omega) h
theorem suM_mem {C : List (List Int)} {c : List Int} (h : c ∈ C) : c.length ≤ suM C := by
  obtain ⟨i, hi, e⟩ := List.mem_iff_getElem.mp h
  have := suM_le (W := C) i
  unfold List.getD at this
  rw [List.getElem?_eq_getElem hi, Option.getD_some, e] at this
  exact this
section
variable {σ σ0 : MS} {Q : MQ9} {E : TE} {z z' : Nat} {M : List Int} {at9 nx : Nat} {t0 wide : Int} {s : TS}
theorem FrTw.b {σ1 σ2 : MS} (h : FrTw σ σ1) (h' : FrTb σ1 σ2) : FrTw σ σ2 := ⟨fun q a b c d e => (h'.1 q a b c d e).trans (h.1 q a b c d e), h'.2.1.trans h.2.1, fun y k a b c d e f => (h'.2.2 y k a b c e f).trans (h.2.2 y k a b c d e f)⟩
theorem Setter_workTable.c (hM : mX σ 3 = M) (hM4 : M.length ≤ 4000) (hMb : smB M) (hL : LnM σ M (mlL M)) (hE : EI E) (hat : at9 < nx) (hnx : nx ≤ (mlL M).length) (hsol : ∀ j, at9 ≤ j → j < nx → ((mlL M).getD j (0, 0)).1 + 1 ≤ ((mlL M).getD j (0, 0)).2) (hR : RdC σ E z z' s) (ht0 : 0 ≤ t0) (hTI : TI t0 0 (tx0 s)) (hw0 : mV σ 24 0 = wide) (hw : 12 ≤ wide ∧ wide ≤ 80) (hy : ∀ R A v σ', tbA E M (tbL M at9 nx) s = .inl ((R, A), v) → RdC σ' E z z' v → TaN σ' wide R A → TI (tbP R.flatten + t0) 0 (tx0 v) → tbC R ≤ 8 → FrTw σ σ' → Q (.inl none) σ') (hn : ∀ e σ', tbA E M (tbL M at9 nx) s = .inr e → TxF σ' e → FrTw σ σ' → Q (.inr (exN 0)) σ') : Setter_workTable (at9 : Int) (nx : Int) σ Q := by
  have ml4 : (mlL M).length ≤ 4000 := Nat.le_trans (mlF_l (T := M) M.length 0) hM4
  obtain ⟨l, r, hls⟩ : ∃ l r, tbL M at9 nx = l :: r := by
    cases h : tbL M at9 nx with
    | nil =>
      have := congrArg List.length h
      unfold tbL at this
      rw [List.length_take, List.length_drop] at this
      have : min (nx - at9) ((mlL M).length - at9) = 0 := this
      omega
    | cons l r => exact ⟨l, r, rfl⟩
  have el : (mlL M).getD at9 (0, 0) = l := by
    have e1 : (tbL M at9 nx).getD 0 (0, 0) = l := by
      rw [hls]
      rfl
    unfold tbL at e1
    unfold List.getD at e1 ⊢
    rw [List.getElem?_take_of_lt (by omega), List.getElem?_drop, Nat.add_zero] at e1
    exact e1
  have hb := lin_b (M := M) (j := at9) (by omega)
  have hs := hsol at9 (Nat.le_refl _) hat
  rw [el] at hb hs
  have hx0 : ∀ σ1 : MS, mX σ1 200 = mX σ 200 → rgt (mX σ1 200) (at9 : Int) = ((l.1 : Nat) : Int) := fun σ1 e => by
    have := mlA_at (i := at9) (by omega) (fun x : Nat × Nat => ((x.1 : Nat) : Int)) (e.trans hL.1)
    rw [el] at this
    exact this
  have hx1 : ∀ σ1 : MS, mX σ1 202 = mX σ 202 → rgt (mX σ1 202) (at9 : Int) = ((l.2 : Nat) : Int) := fun σ1 e => by
    have := mlA_at (i := at9) (by omega) (fun x : Nat × Nat => ((x.2 : Nat) : Int)) (e.trans hL.2.1)
    rw [el] at this
    exact this
  rw [hls] at hy hn
  refine Setter_workTable.i (Tables_open.c (fun σ1 t1 a1 f1 => ?_))
  have r1 : RdC σ1 E z z' s := RdC.g (w := (s.1.1, s.1.2.1)) hR (fun q hq => f1.1 q (by omega) (by omega) (by omega)) f1.2.1 (fun y k hy => f1.2.2 y k (by omega) (by omega) (by omega)) ((f1.2.2 _ _ (by decide) (by decide) (by decide)).trans hR.1.1) ((f1.2.2 _ _ (by decide) (by decide) (by decide)).trans hR.1.2)
  have fin : ∀ (R : List (List (List Int))) (A : List Int) (v : TS) (σ2 : MS), tbA E M (l :: r) s = .inl ((R, A), v) → (∀ row ∈ R, row.length ≤ 8) → RdC σ2 E z z' v → TaC σ2 R [] → hol σ2 160 A → TI (tbP R.flatten + t0) 0 (tx0 v) → FrTw σ σ2 → Setter_workTable_9 (at9 : Int) (nx : Int) (nx : Int) σ2 Q := fun R A v σ2 w2 h8 r2 t2 a2 i2 f2 => by
    have c8 := tbC_8 h8
    have e24 : mV σ2 24 0 = wide := (f2.2.2 _ _ (by decide) (by decide) (by decide) (by decide) (by decide) (by decide)).trans hw0
    refine Setter_workTable_9.i ⟨by unfold Rg; omega, by unfold Rg; omega, fun _ => ?_, fun h => absurd h (by omega)⟩
    refine told_c (k := 0) (by decide) e24 ?_
    show Tables_narrow wide σ2 _
    have t7 : ((suM v.2.2.2.2.1.1 : Nat) : Int) + ((suM ([] : List (List Int)) : Nat) : Int) + (([] : List Int).length : Int) + (tbP R.flatten + t0) ≤ v.1.1 + 100 := i2.2.2.2.2.2.2
    have t11 : 0 ≤ v.1.1 ∧ v.1.1 ≤ 60000 := i2.1.1
    have eP : tbP R.flatten = ((suM R.flatten : Nat) : Int) + 15 * (R.flatten.length : Int) := rfl
    have e1 : suM ([] : List (List Int)) = 0 := rfl
    have e2 : ([] : List Int).length = 0 := rfl
    rw [e1, e2] at t7
    have wd : ∀ k, k < 8 → (tbQ R).getD k 0 = tbD k R := fun k hk => by
      unfold tbQ
      exact ofF_get hk
    have c0 : tbC (R ++ [[]]) = tbC R := by
      rw [tbC_sn]
      exact Nat.max_zero _
    refine Tables_narrow.nn (c := tbC R) (W := tbQ R) (by omega) c8 (by rw [t2.2.2.2, c0]) (fun k hk => ?_) ofF_len (fun k hk => ?_) (fun σ3 f3 n3 => ?_)
    · have hk : k < 8 := by
        unfold tbQ at hk
        rw [ofF_len] at hk
        exact hk
      rw [wd k hk, t2.2.2.1 k hk, tbD_sn, if_neg (show ¬ k < ([] : List (List Int)).length from Nat.not_lt_zero _)]
    · rw [wd k hk]
      have h1 := tbD_1 (k := k) (R := R)
      have h2 := tbD_b (k := k) (R := R) (m := suM R.flatten) (fun row hr c hc => suM_mem (List.mem_flatten.mpr ⟨row, hr, hc⟩))
      omega
    · have v3 : ∀ y k, y ≠ 161 → mV σ3 y k = mV σ2 y k := f3.2.2
      have x3 : ∀ q, mX σ3 q = mX σ2 q := fun q => by rw [f3.1]
      refine hy R A v σ3 w2 (RdC.g (w := (v.1.1, v.1.2.1)) r2 (fun q _ => x3 q) f3.2.1 (fun y k hy => v3 y k (by omega)) ((v3 _ _ (by decide)).trans r2.1.1) ((v3 _ _ (by decide)).trans r2.1.2)) ⟨⟨?_, ?_⟩, (x3 _).trans t2.2.1, n3, (v3 _ _ (by decide)).trans (by rw [t2.2.2.2, c0]), fun k hk => (v3 _ _ (by decide)).trans (a2 k hk)⟩ i2 c8 ⟨fun q a b c d e => (x3 q).trans (f2.1 q a b c d e), f3.2.1.trans f2.2.1, fun y k a b c d e f => (v3 y k e).trans (f2.2.2 y k a b c d e f)⟩
      · have := t2.1.1
        rw [List.append_nil] at this
        exact (x3 _).trans this
      · have := t2.1.2
        rw [List.append_nil] at this
        exact (x3 _).trans this
  have w1 : (∀ k, mX σ1 k = mX σ k ∨ k = 152 ∨ k = 154 ∨ k = 156) := fun k => by
    by_cases h : k = 152 ∨ k = 154 ∨ k = 156
    · exact Or.inr h
    · exact Or.inl (f1.1 k (by omega) (by omega) (by omega))
  have h31 : mX σ1 3 = M := (f1.1 3 (by decide) (by decide) (by decide)).trans hM
  have hL1 : LnM σ1 M (mlL M) := ⟨(f1.1 _ (by decide) (by decide) (by decide)).trans hL.1, (f1.1 _ (by decide) (by decide) (by decide)).trans hL.2.1, (f1.1 _ (by decide) (by decide) (by decide)).trans hL.2.2⟩
  refine Setter_workTable_9.i ⟨by unfold Rg; omega, by unfold Rg; omega, fun h => absurd h (by omega), fun _ => ⟨by unfold Rg; omega, by unfold Rg; omega, ?_⟩⟩
  rw [hx0 σ1 (f1.1 _ (by decide) (by decide) (by decide)), hx1 σ1 (f1.1 _ (by decide) (by decide) (by decide))]
  refine Tables_part.c (w := (s.1.1, s.1.2.1)) h31 hM4 hs hb.2 r1.1 (fun h8 => ?_) (fun h8 hx => hn _ _ (by
    rw [tbA_c]
    rw [if_pos (by omega)]) hx ((FrTw.o f1).b ⟨fun q' _ _ _ _ a => wX_ne a, rfl, fun y k a _ _ _ _ => wV_ne (Or.inl a)⟩))
  have e8 : ¬ 8 < (tcL M l.1 l.2).length := by omega
  have f2 : FrTb σ1 (wX σ1 158 (spQ (tcL M l.1 l.2))) := ⟨fun q' _ _ _ _ a => wX_ne a, rfl, fun _ _ _ _ _ _ _ => rfl⟩
  have x2 : ∀ q, q ≠ 158 → mX (wX σ1 158 (spQ (tcL M l.1 l.2))) q = mX σ1 q := fun q h => wX_ne h
  have y158 : mX (wX σ1 158 (spQ (tcL M l.1 l.2))) 158 = spQ (tcL M l.1 l.2) := wX_self
  have v2 : mV (wX σ1 158 (spQ (tcL M l.1 l.2))) = mV σ1 := rfl
  have s2 : (wX σ1 158 (spQ (tcL M l.1 l.2))).2.2 = σ1.2.2 := rfl
  show Rg (at9 : Int) ∧ Rg (at9 : Int) ∧ (¬ (at9 : Int) = (at9 : Int) → _) ∧ ((at9 : Int) = (at9 : Int) → Tables_takeAlignment 3 (wX σ1 158 (spQ (tcL M l.1 l.2))) _)
  generalize wX σ1 158 (spQ (tcL M l.1 l.2)) = σ2 at f2 x2 y158 v2 s2
  have r2 : RdC σ2 E z z' s := RdC.g (w := (s.1.1, s.1.2.1)) r1 (fun q hq => x2 q (by omega)) s2 (fun y k _ => by rw [v2]) (by rw [v2]; exact r1.1.1) (by rw [v2]; exact r1.1.2)
  have t2 : TaC σ2 [] [] := t1.cg (fun q h => x2 q (by omega)) (fun y k _ => by rw [v2])
  have h32 : mX σ2 3 = M := (x2 3 (by decide)).trans h31
  have hL2 : LnM σ2 M (mlL M) := ⟨(x2 _ (by decide)).trans hL1.1, (x2 _ (by decide)).trans hL1.2.1, (x2 _ (by decide)).trans hL1.2.2⟩
  have hls9 : tbL M at9 nx = [l] ++ r := hls
  have tb0 : tbP ([] : List (List (List Int))).flatten + t0 = t0 := by
    show (0 : Int) + 15 * 0 + t0 = t0
    omega
  refine ⟨by unfold Rg; omega, by unfold Rg; omega, fun h => absurd rfl h, fun _ => Tables_takeAlignment.c h32 hM4 hb.2 y158 h8 (tcL_b hs hb.2) (fun hA σ3 x3 s3 v3 a3 => ?_) (fun hA => ?_)⟩
  · show ((1 : Int) = 0 → _) ∧ (¬ (1 : Int) = 0 → _)
    refine ⟨fun h => absurd h (by decide), fun _ => Setter_workTable_163.i ?_⟩
    have f3 : FrTw σ σ3 := ⟨fun q a b c d e => (by rw [x3]; exact (f2.1 q a b c d e).trans ((FrTw.o f1).1 q a b c d e)), s3.trans (s2.trans f1.2.1), fun y k a b c d e f => (v3 y k d).trans ((f2.2.2 y k a b c e f).trans ((FrTw.o f1).2.2 y k a b c d e f))⟩
    have y3 : ∀ q, mX σ3 q = mX σ2 q := fun q => by rw [x3]
    have al : hol σ3 160 (tcV M (tcL M l.1 l.2)) := fun k hk => by
      have hk : k < 8 := by
        unfold tcV at hk
        rw [ofF_len] at hk
        exact hk
      unfold tcV
      rw [ofF_get hk, a3 k hk]
      split
      · rfl
      · rw [v2, a1 k hk]
        have : ∀ k, k < 8 → al60.getD k 0 = (60 : Int) := by decide
        exact this k hk
    have r3 : RdC σ3 E z z' s := RdC.g (w := (s.1.1, s.1.2.1)) r2 (fun q _ => y3 q) s3 (fun y k hy => v3 y k (by omega)) ((v3 _ _ (by decide)).trans r2.1.1) ((v3 _ _ (by decide)).trans r2.1.2)
    have t3 : TaC σ3 [] [] := t2.cg (fun q _ => y3 q) (fun y k hy => v3 y k (by omega))
    have eA : ∀ v, tbR E M r s = .inl v → tbA E M (l :: r) s = .inl ((v.1, tcV M (tcL M l.1 l.2)), v.2) := fun v hv => by
      rw [tbA_c]
      rw [if_neg e8, if_pos hA, hv]
    have key := wtk_9 (Q := Q) (σ0 := σ3) (at9 := at9) (nx := nx) (E := E) (z := z) (z' := z') (t0 := t0) hM4 hMb hE ht0 hnx hsol rfl (by omega) r [l] [] s σ3 hls9 (Nat.le_refl _) (Nat.zero_le _) ((y3 3).trans h32) ⟨(y3 _).trans hL2.1, (y3 _).trans hL2.2.1, (y3 _).trans hL2.2.2⟩ r3 t3 (by rw [tb0]; exact hTI) FrTb.rf (fun v σ4 v1 r4 t4 i4 f4 => fin v.1 _ v.2 σ4 (eA v v1) (tbR_8 v1) r4 t4 (fun k hk => (f4.2.2 160 k (by decide) (by decide) (by omega) (by decide) (by omega)).trans (al k hk)) i4 (f3.b f4)) (fun e σ4 v1 q4 f4 => hn e σ4 (by
      rw [tbA_c]
      rw [if_neg e8, if_pos hA, v1]) q4 (f3.b f4))
    exact key
  · show ((0 : Int) = 0 → _) ∧ (¬ (0 : Int) = 0 → _)
    refine ⟨fun _ => ?_, fun h => absurd rfl h⟩
    have hA9 : ¬ tcA M (tcL M l.1 l.2) = true := by rw [hA]; decide
    have f3 : FrTw σ σ2 := (FrTw.o f1).b f2
    refine wt_row (k9 := at9) (R := []) hM4 hMb hE ht0 hs hb.2 (by decide) h32 y158 h8 r2 t2 (by rw [tb0]; exact hTI) (fun w σ3 w3 r3 t3 i3 g3 => ?_) (fun e1 σ3 w3 q3 g3 => hn e1 σ3 (by
      rw [tbA_c]
      rw [if_neg e8, if_neg hA9]
      unfold tbR
      rw [if_neg e8, w3]) q3 (f3.b g3))
    have x3 : ∀ q', q' = 3 ∨ q' = 200 ∨ q' = 202 ∨ q' = 204 → mX σ3 q' = mX σ2 q' := fun q' h => g3.1 q' (by
      unfold TXY
      simp only [List.mem_cons, List.not_mem_nil, or_false]
      omega) (by omega) (by omega) (by omega) (by omega)
    have eR : ∀ x, tbR E M r w.2 = x → tbR E M (l :: r) s = (match x with
        | .inr e => (.inr e : (List (List (List Int)) × TS) ⊕ (Int × Int × Int))
        | .inl v => .inl (w.1 :: v.1, v.2)) := fun x hx => by
      unfold tbR
      rw [if_neg e8, w3]
      show (match tbR E M r w.2 with
        | .inr e => (.inr e : (List (List (List Int)) × TS) ⊕ (Int × Int × Int))
        | .inl v => .inl (w.1 :: v.1, v.2)) = _
      rw [hx]
    have eA : ∀ x, tbR E M (l :: r) s = x → tbA E M (l :: r) s = (match x with
        | .inr e => .inr e
        | .inl v => .inl ((v.1, al60), v.2)) := fun x hx => by
      rw [← hx]
      rw [tbA_c]
      rw [if_neg e8, if_neg hA9]
      rfl
    have key := wtk_9 (Q := Q) (σ0 := σ2) (at9 := at9) (nx := nx) (E := E) (z := z) (z' := z') (t0 := t0) hM4 hMb hE ht0 hnx hsol rfl (by omega) r [l] [w.1] w.2 σ3 hls9 (Nat.le_refl _) (Nat.le_refl _) ((x3 3 (by omega)).trans h32) ⟨(x3 _ (by omega)).trans hL2.1, (x3 _ (by omega)).trans hL2.2.1, (x3 _ (by omega)).trans hL2.2.2⟩ r3 t3 i3 g3 (fun v σ4 v1 r4 t4 i4 f4 => fin (w.1 :: v.1) _ v.2 σ4 (eA _ (eR _ v1)) (tbR_8 (eR _ v1)) r4 t4 (fun k hk => (f4.2.2 160 k (by decide) (by decide) (by omega) (by decide) (by omega)).trans (by rw [v2]; exact a1 k hk)) i4 (f3.b f4)) (fun e σ4 v1 q4 f4 => hn e σ4 (eA _ (eR _ v1)) q4 (f3.b f4))
    exact key
end
