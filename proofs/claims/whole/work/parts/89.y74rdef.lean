/-! DIRECTIVES: macros told, the reference -/
theorem ixW_at : ∀ (ws : List (List Int)) (k : Int) (U : List Int) (i : Nat), ixW ws k U = k + (i : Int) → ¬ ixW ws k U = -1 → 0 ≤ k → i < ws.length ∧ ws.getD i [] = U
  | [], k, U, i, h, hn, hk => absurd rfl hn
  | w :: ws, k, U, i, h, hn, hk => by
    have hb := ixW_b ws (k + 1) U
    by_cases e : w = U
    · have e1 : ixW (w :: ws) k U = k := by
        unfold ixW
        rw [if_pos e]
      rw [e1] at h
      have hi : i = 0 := by omega
      subst hi
      exact ⟨by rw [List.length_cons]; omega, e⟩
    · have e1 : ixW (w :: ws) k U = ixW ws (k + 1) U := by
        conv => lhs; unfold ixW
        rw [if_neg e]
      rw [e1] at h hn
      cases i with
      | zero => omega
      | succ i =>
        have := ixW_at ws (k + 1) U i (by omega) hn (by omega)
        exact ⟨by rw [List.length_cons]; omega, this.2⟩
section
variable {σ σ' : MS} {Q : MQ9} {x0 : Nat} {T : List Int} {s : TS} {E : TE}
theorem rd_7 {l1 l3 : Int} (hT : LnR σ x0 T) (hTb : smB T) : ∀ (m p : Nat), p + m = T.length → R_defines_32 l1 ((x0 + T.length : Nat) : Int) l3 ((x0 + neD T p : Nat) : Int) σ Q → R_defines_7 l1 ((x0 + T.length : Nat) : Int) l3 ((x0 + p : Nat) : Int) σ Q := by
  have l0 := hT.1
  intro m
  induction m with
  | zero =>
    intro p hp hq
    rw [neD_z (by omega)] at hq
    exact R_defines_7.i ⟨by unfold Rg; omega, by unfold Rg; omega, fun _ => hq, fun h9 => absurd h9 (by omega)⟩
  | succ m ih =>
    intro p hp hq
    have hlt : p < T.length := by omega
    have hcb := hTb.gd hlt
    have hx := hT.2 p hlt
    rw [neD_s hlt] at hq
    refine R_defines_7.i ⟨by unfold Rg; omega, by unfold Rg; omega, fun h9 => absurd h9 (by omega), fun _ => ⟨by omega, by omega, ?_⟩⟩
    rw [Int.toNat_natCast, hx]
    refine R_isLetter.s (by unfold Rg; omega) ⟨fun h9 => ?_, fun h9 => ?_⟩
    · rw [bZ_z h9, if_neg (by decide)] at hq
      exact hq
    · rw [bZ_ne h9, if_pos rfl] at hq
      rw [show ((x0 + p : Nat) : Int) + 1 = ((x0 + (p + 1) : Nat) : Int) by omega]
      exact ih (p + 1) (by omega) hq
/-- macro m's name, arity and body are told -/
theorem rd_175 {a e m : Nat} {n : List Int} (hT : LnR σ x0 T) (hTb : smB T) (hn : n = sgT T a e) (hae : a ≤ e) (hn12 : n.length ≤ 12) (he : e + 1 < T.length) (hm : m < 40) (hq : ∀ σ', FrZ [264, 265, 266, 267, 268] [] σ σ' → (∀ k, k < 12 * m ∨ 12 * m + n.length ≤ k → mV σ' 264 k = mV σ 264 k) → (∀ y k, 265 ≤ y → y ≤ 268 → k ≠ m → mV σ' y k = mV σ y k) → holA σ' 264 (12 * m) n → mV σ' 265 m = (n.length : Int) → mV σ' 266 m = T.getD (e + 1) 0 - 48 → mV σ' 267 m = ((x0 + min (e + 3) T.length : Nat) : Int) → mV σ' 268 m = ((x0 + T.length : Nat) : Int) → Q (.inl (some 1)) σ') : R_defines_175 ((x0 + T.length : Nat) : Int) ((x0 + a : Nat) : Int) ((x0 + e : Nat) : Int) (m : Int) σ Q := by
  have l0 := hT.1
  have ln : n.length = e - a := by rw [hn, sg_len hae (by omega)]
  have nb : smB n := by rw [hn]; exact hTb.sg
  have hd := hTb.gd he
  refine R_defines_175.i ⟨by omega, by omega, by unfold Rg; omega, ?_⟩
  rw [Int.toNat_natCast, show ((x0 + e : Nat) : Int) - ((x0 + a : Nat) : Int) = (n.length : Int) by omega]
  refine loopF (P := fun i τ => R_defines_189 ((x0 + T.length : Nat) : Int) ((x0 + a : Nat) : Int) ((x0 + e : Nat) : Int) (m : Int) i τ Q) (z := 264) (a := 12 * m) (n := n.length) (f := fun i => n.getD i 0) (fun i hi hs => ?_) ?_
  · refine R_defines_189.i ⟨by unfold Rg; omega, by unfold Rg; omega, fun h9 => absurd h9 (by omega), fun _ => ⟨by omega, by omega, by omega, by omega, ?_⟩⟩
    rw [show (((x0 + a : Nat) : Int) + (i : Int)).toNat = x0 + (a + i) by omega, wF_ne (Or.inl (by decide)), wV_ne (Or.inl (by decide)), hT.2 (a + i) (by omega), show (12 * (m : Int) + (i : Int)).toNat = 12 * m + i by omega]
    have e9 : T.getD (a + i) 0 = n.getD i 0 := by rw [hn, sg_at (by omega) (by omega)]
    rw [e9, nb.at hi]
    exact hs
  · rw [ofF_list]
    generalize hσ1 : wF (wV σ 265 m (n.length : Int)) 264 (12 * m) n = σ1
    have g1 : ∀ y k, y ≠ 264 → y ≠ 265 → mV σ1 y k = mV σ y k := fun y k a b => by rw [← hσ1, wF_ne (Or.inl a), wV_ne (Or.inl b)]
    have hx : mV σ1 252 (x0 + (e + 1)) = T.getD (e + 1) 0 := (g1 _ _ (by decide) (by decide)).trans (hT.2 (e + 1) he)
    have fin : ∀ v : Nat, v = x0 + min (e + 3) T.length → R_defines_267 ((x0 + T.length : Nat) : Int) (m : Int) (m : Int) (v : Int) (wV σ1 266 m (T.getD (e + 1) 0 - 48)) Q := fun v hv => by
      subst hv
      refine R_defines_267.i ⟨by omega, by omega, by unfold Rg; omega, by omega, by omega, by unfold Rg; omega, ?_⟩
      rw [Int.toNat_natCast]
      refine hq _ ?_ (fun k hk => ?_) (fun y k y1 y2 hk => ?_) (fun i hi => ?_) ?_ ?_ ?_ ?_
      · rw [← hσ1]
        exact ((((FrZ.wz (by decide)).tr (FrZ.wF (by decide))).tr (FrZ.wz (by decide))).tr (FrZ.wz (by decide))).tr (FrZ.wz (by decide))
      · rw [wV_ne (Or.inl (by decide)), wV_ne (Or.inl (by decide)), wV_ne (Or.inl (by decide)), ← hσ1, wF_ne (Or.inr hk), wV_ne (Or.inl (by decide))]
      · rw [wV_ne (Or.inr hk), wV_ne (Or.inr hk), wV_ne (Or.inr hk), ← hσ1, wF_ne (Or.inl (by omega)), wV_ne (Or.inr hk)]
      · rw [wV_ne (Or.inl (by decide)), wV_ne (Or.inl (by decide)), wV_ne (Or.inl (by decide)), ← hσ1, wF_at hi]
      · rw [wV_ne (Or.inl (by decide)), wV_ne (Or.inl (by decide)), wV_ne (Or.inl (by decide)), ← hσ1, wF_ne (Or.inl (by decide)), wV_self]
      · rw [wV_ne (Or.inl (by decide)), wV_ne (Or.inl (by decide)), wV_self]
      · rw [wV_ne (Or.inl (by decide)), wV_self]
      · exact wV_self
    refine R_defines_189.i ⟨by unfold Rg; omega, by unfold Rg; omega, fun _ => ⟨by omega, by omega, by omega, by omega, ?_⟩, fun h9 => absurd h9 (by omega)⟩
    rw [show (((x0 + e : Nat) : Int) + 1).toNat = x0 + (e + 1) by omega, hx, Int.toNat_natCast]
    refine ⟨by unfold Rg; omega, by unfold Rg; omega, by unfold Rg; omega, fun h9 => ?_, fun h9 => ?_⟩
    · exact fin (x0 + T.length) (by omega)
    · have := fin (x0 + (e + 3)) (by omega)
      rw [show ((x0 + (e + 3) : Nat) : Int) = ((x0 + e : Nat) : Int) + 3 by omega] at this
      exact this
theorem ma_up {m a e : Nat} {M : TMc} {R : (List (List Int) × List (List Int) × List Int × Int × Int) × List Int × Int} (hTb : smB T) (h10 : ∀ x ∈ T, x ≠ 10) (hx0 : x0 + T.length ≤ 4000) (hae : a ≤ e) (he : e + 1 < T.length) (hl : M.1.length ≤ 40) (hm : m < M.1.length) (h46 : mV σ' 246 46 = (M.1.length : Int)) (hT : LnR σ x0 T) (hnm : M.1.getD m [] = sgT T a e) (hn12 : (sgT T a e).length ≤ 12) (hcl : ∀ w ∈ M.1, ixW (wdT 1) 0 w = -1) (har : M.2.1.getD m 0 = T.getD (e + 1) 0 - 48) (hbo : M.2.2.getD m [] = T.drop (e + 3)) (hold : ∀ i, i < M.1.length → i ≠ m → mV σ 265 i = ((M.1.getD i []).length : Int) ∧ (M.1.getD i []).length ≤ 12 ∧ holA σ 264 (12 * i) (M.1.getD i []) ∧ mV σ 266 i = M.2.1.getD i 0 ∧ ∃ x : Nat, mV σ 267 i = (x : Int) ∧ mV σ 268 i = ((x + (M.2.2.getD i []).length : Nat) : Int) ∧ SgR σ x (M.2.2.getD i []) ∧ x + (M.2.2.getD i []).length ≤ 4000) (f : FrZ [264, 265, 266, 267, 268] [46] σ σ') (f1 : ∀ k, k < 12 * m ∨ 12 * m + (sgT T a e).length ≤ k → mV σ' 264 k = mV σ 264 k) (f2 : ∀ y k, 265 ≤ y → y ≤ 268 → k ≠ m → mV σ' y k = mV σ y k) (f3 : holA σ' 264 (12 * m) (sgT T a e)) (f4 : mV σ' 265 m = ((sgT T a e).length : Int)) (f5 : mV σ' 266 m = T.getD (e + 1) 0 - 48) (f6 : mV σ' 267 m = ((x0 + min (e + 3) T.length : Nat) : Int)) (f7 : mV σ' 268 m = ((x0 + T.length : Nat) : Int)) : MaR σ' (M, R) := by
  refine ⟨⟨h46, hl, fun i hi => ?_⟩, hcl, fun i hi => ?_⟩
  · by_cases ei : i = m
    · rw [ei]
      show _ = ((M.1.getD m []).length : Int) ∧ (M.1.getD m []).length ≤ 12 ∧ holA σ' 264 (12 * m) (M.1.getD m [])
      rw [hnm]
      exact ⟨f4, hn12, f3⟩
    · obtain ⟨o1, o2, o3, -⟩ := hold i hi ei
      exact ⟨(f2 265 i (by decide) (by decide) ei).trans o1, o2, fun k hk => by
        have o2 : (M.1.getD i []).length ≤ 12 := o2
        have hk : k < (M.1.getD i []).length := hk
        rw [f1 _ (by omega)]
        exact o3 k hk⟩
  · by_cases ei : i = m
    · rw [ei]
      show _ = M.2.1.getD m 0 ∧ ∃ x : Nat, _ ∧ _ = ((x + (M.2.2.getD m []).length : Nat) : Int) ∧ SgR σ' x (M.2.2.getD m []) ∧ x + (M.2.2.getD m []).length ≤ 4000
      rw [har, hbo]
      have lb : (T.drop (e + 3)).length = T.length - (e + 3) := List.length_drop ..
      refine ⟨f5, x0 + min (e + 3) T.length, f6, ?_, ⟨by omega, fun t ht => ?_⟩, by omega⟩
      · rw [f7]
        omega
      · rw [lb] at ht
        have e1 : (T.drop (e + 3)).getD t 0 = T.getD (e + 3 + t) 0 := by
          rw [List.getD_eq_getElem?_getD, List.getElem?_drop, ← List.getD_eq_getElem?_getD]
        have hx := hT.2 (e + 3 + t) (by omega)
        rw [show x0 + min (e + 3) T.length + t = x0 + (e + 3 + t) by omega, f.z (by decide) (by decide), hx, e1, if_neg (h10 _ ?_)]
        rw [List.getD_eq_getElem?_getD, List.getElem?_eq_getElem (show e + 3 + t < T.length by omega)]
        exact List.getElem_mem _
    · obtain ⟨-, -, -, o4, x, o5, o6, o7, o8⟩ := hold i hi ei
      exact ⟨(f2 266 i (by decide) (by decide) ei).trans o4, x, (f2 267 i (by decide) (by decide) ei).trans o5, (f2 268 i (by decide) (by decide) ei).trans o6, o7.cg (fun k => f.z (by decide) (by decide)), o8⟩
theorem MI.df {M : TMc} {p : Nat} (hM : MI M) (hTb : smB T) (hT4 : T.length ≤ 4000) (hg : dfG T p = true) (hf : dfF M T p = false) (hp : p ≤ T.length) : MI (dfM M T p) := by
  obtain ⟨m1, m2, m3, m4, m5, m6⟩ := hM
  obtain ⟨b1, b2⟩ := neD_b (T := T) hp
  unfold dfG at hg
  rw [Bool.and_eq_true, Bool.and_eq_true, decide_eq_true_iff] at hg
  obtain ⟨⟨g1, g2, g3, g4, g5⟩, g6, g7⟩ := hg
  have dd := sDi_i.mp g6
  have hbd : (T.drop (neD T p + 3)).length ≤ 4000 ∧ smB (T.drop (neD T p + 3)) := ⟨by rw [List.length_drop]; omega, fun x hx => hTb x (List.mem_of_mem_drop hx)⟩
  unfold dfF at hf
  rw [decide_eq_false_iff_not] at hf
  unfold dfM
  by_cases h : ixW M.1 0 (sgT T p (neD T p)) = -1
  · rw [if_pos h]
    refine ⟨?_, ?_, ?_, m4.app ⟨by rw [sg_len b1 b2]; omega, hTb.sg⟩, fun x hx => ?_, m6.app hbd⟩
    · show (M.2.1 ++ _).length = (M.1 ++ _).length
      rw [List.length_append, List.length_append, m1]
      rfl
    · show (M.2.2 ++ _).length = (M.1 ++ _).length
      rw [List.length_append, List.length_append, m2]
      rfl
    · show (M.1 ++ _).length ≤ 40
      rw [List.length_append, List.length_singleton]
      omega
    · rcases List.mem_append.mp hx with hx | hx
      · exact m5 x hx
      · rw [List.mem_singleton.mp hx]
        omega
  · rw [if_neg h]
    refine ⟨?_, ?_, m3, m4, fun x hx => ?_, fun w hw => ?_⟩
    · show (M.2.1.set _ _).length = _
      rw [List.length_set]
      exact m1
    · show (M.2.2.set _ _).length = _
      rw [List.length_set]
      exact m2
    · rcases List.mem_or_eq_of_mem_set hx with hx | hx
      · exact m5 x hx
      · rw [hx]
        omega
    · rcases List.mem_or_eq_of_mem_set hw with hw | hw
      · exact m6 w hw
      · rw [hw]
        exact hbd
theorem R_defines.p {p : Nat} {k : Int} (hk : k + 1 = ((x0 + p : Nat) : Int)) (hk0 : 0 ≤ k) (hT : LnR σ x0 T) (hTb : smB T) (h10 : ∀ x ∈ T, x ≠ 10) (hx0 : x0 + T.length ≤ 4000) (hp : p ≤ T.length) (hM : MI E.1) (hE : MaR σ E) (hW : RxW σ s) (h0 : dfG T p = false → Q (.inl (some 0)) σ) (h9 : dfG T p = true → dfF E.1 T p = true → Q (.inl (some 1)) (wV σ 246 28 9)) (h1 : dfG T p = true → dfF E.1 T p = false → ∀ σ', MaR σ' (dfM E.1 T p, E.2) → FrZ [264, 265, 266, 267, 268] [46] σ σ' → Q (.inl (some 1)) σ') : R_defines k ((x0 + T.length : Nat) : Int) σ Q := by
  have l0 := hT.1
  obtain ⟨b1, b2⟩ := neD_b (T := T) hp
  have lU := sg_len b1 b2
  have hU := hT.2.sg b1 b2
  refine R_defines.i ?_
  rw [hk]
  refine rd_7 hT hTb (T.length - p) p (by omega) ?_
  have e0 : dfG T p = (decide (p + 1 ≤ neD T p ∧ neD T p ≤ p + 12 ∧ ixW (wdT 1) 0 (sgT T p (neD T p)) = -1 ∧ neD T p + 1 < T.length ∧ T.getD (neD T p) 0 = 32) && (sDi (T.getD (neD T p + 1) 0) && decide (neD T p + 2 = T.length ∨ T.getD (neD T p + 2) 0 = 32))) := rfl
  have no : ¬ (p + 1 ≤ neD T p ∧ neD T p ≤ p + 12 ∧ ixW (wdT 1) 0 (sgT T p (neD T p)) = -1 ∧ neD T p + 1 < T.length ∧ T.getD (neD T p) 0 = 32) → Q (.inl (some 0)) σ := fun h => h0 (by rw [e0, decide_eq_false h, Bool.false_and])
  have yes : dfG T p = true → R_defines_128 ((x0 + T.length : Nat) : Int) ((x0 + p : Nat) : Int) ((x0 + neD T p : Nat) : Int) σ Q := fun hg => by
    have hg2 := hg
    unfold dfG at hg2
    rw [Bool.and_eq_true, decide_eq_true_iff] at hg2
    obtain ⟨⟨g1, g2, g3, g4, g5⟩, g6⟩ := hg2
    obtain ⟨m1, m2, m3, m4, m5, m6⟩ := hM
    obtain ⟨⟨a1, a2, a3⟩, a4, a5⟩ := hE
    have ib := ixW_b E.1.1 0 (sgT T p (neD T p))
    refine R_defines_128.i (R_macroOf.s (N := E.1.1) ⟨a1, a2, a3⟩ (U := sgT T p (neD T p)) (by omega) (by omega) hU ⟨fun h8 => ?_, fun h8 => ⟨fun h7 => ⟨by rw [a1]; unfold Rg; omega, ?_⟩, fun h7 => ?_⟩⟩)
    · obtain ⟨m, hm⟩ : ∃ m : Nat, ixW E.1.1 0 (sgT T p (neD T p)) = (m : Int) := ⟨(ixW E.1.1 0 (sgT T p (neD T p))).toNat, by omega⟩
      have hn : ¬ ixW E.1.1 0 (sgT T p (neD T p)) = -1 := by omega
      obtain ⟨i1, i2⟩ := ixW_at E.1.1 0 _ m (by omega) hn (by decide)
      have ff : dfF E.1 T p = false := by
        unfold dfF
        exact decide_eq_false (by omega)
      rw [hm]
      refine rd_175 (n := sgT T p (neD T p)) hT hTb rfl b1 (by omega) g4 (by omega) (fun σ' f f1 f2 f3 f4 f5 f6 f7 => ?_)
      refine h1 hg ff σ' ?_ (f.mo (fun _ h => h) (fun _ h => absurd h List.not_mem_nil))
      have e : dfM E.1 T p = (E.1.1, E.1.2.1.set m (T.getD (neD T p + 1) 0 - 48), E.1.2.2.set m (T.drop (neD T p + 3))) := by
        unfold dfM
        rw [if_neg hn, hm]
        rfl
      rw [e]
      refine ma_up (m := m) hTb h10 hx0 b1 g4 m3 i1 ((f.f (by decide) (by decide)).trans a1) hT i2 (by omega) a4 ?_ ?_ (fun i hi ei => ?_) (f.mo (fun _ h => h) (fun _ h => absurd h List.not_mem_nil)) f1 f2 f3 f4 f5 f6 f7
      · show (E.1.2.1.set m _).getD m 0 = _
        rw [set_at (by omega), if_pos rfl]
      · show (E.1.2.2.set m _).getD m [] = _
        rw [set_at (by omega), if_pos rfl]
      · obtain ⟨q1, q2⟩ := a5 i hi
        show _ ∧ _ ∧ _ ∧ mV σ 266 i = (E.1.2.1.set m _).getD i 0 ∧ ∃ x : Nat, mV σ 267 i = (x : Int) ∧ mV σ 268 i = ((x + ((E.1.2.2.set m (T.drop (neD T p + 3))).getD i []).length : Nat) : Int) ∧ SgR σ x ((E.1.2.2.set m (T.drop (neD T p + 3))).getD i []) ∧ x + ((E.1.2.2.set m (T.drop (neD T p + 3))).getD i []).length ≤ 4000
        rw [set_at (by omega), if_neg ei, set_at (by omega), if_neg ei]
        exact ⟨(a3 i hi).1, (a3 i hi).2.1, (a3 i hi).2.2, q1, q2⟩
    · have hn : ixW E.1.1 0 (sgT T p (neD T p)) = -1 := by omega
      have hl : E.1.1.length < 40 := by rw [a1] at h7; omega
      have ff : dfF E.1 T p = false := by
        unfold dfF
        exact decide_eq_false (by omega)
      rw [a1]
      have f0 : FrZ [264, 265, 266, 267, 268] [46] σ (wV σ 246 46 ((E.1.1.length : Int) + 1)) := FrZ.wf (by decide)
      have hT1 : LnR (wV σ 246 46 ((E.1.1.length : Int) + 1)) x0 T := ⟨l0, fun i hi => by rw [f0.z (by decide) (by decide)]; exact hT.2 i hi⟩
      refine rd_175 (n := sgT T p (neD T p)) hT1 hTb rfl b1 (by omega) g4 (by omega) (fun σ' f f1 f2 f3 f4 f5 f6 f7 => ?_)
      have fz := f0.tr (f.mo (fun _ h => h) (fun _ h => absurd h List.not_mem_nil))
      refine h1 hg ff σ' ?_ fz
      have e : dfM E.1 T p = (E.1.1 ++ [sgT T p (neD T p)], E.1.2.1 ++ [T.getD (neD T p + 1) 0 - 48], E.1.2.2 ++ [T.drop (neD T p + 3)]) := by
        unfold dfM
        rw [if_pos hn]
      rw [e]
      have ln : (E.1.1 ++ [sgT T p (neD T p)]).length = E.1.1.length + 1 := by rw [List.length_append, List.length_singleton]
      refine ma_up (m := E.1.1.length) (σ := σ) hTb h10 hx0 b1 g4 (by show (E.1.1 ++ _).length ≤ 40; omega) (by show _ < (E.1.1 ++ _).length; omega) ?_ hT ?_ (by omega) (fun w hw => ?_) ?_ ?_ (fun i hi ei => ?_) fz (fun k hk => ?_) (fun y k y1 y2 hk => ?_) f3 f4 f5 f6 f7
      · rw [f.f (by decide) (by decide), wV_self]
        show (E.1.1.length : Int) + 1 = ((E.1.1 ++ [sgT T p (neD T p)]).length : Int)
        omega
      · show (E.1.1 ++ [_]).getD E.1.1.length [] = _
        rw [app_at, if_neg (Nat.lt_irrefl _), if_pos rfl]
      · rcases List.mem_append.mp hw with hw | hw
        · exact a4 w hw
        · rw [List.mem_singleton.mp hw]
          exact g3
      · show (E.1.2.1 ++ [_]).getD E.1.1.length 0 = _
        rw [app_at, if_neg (by omega), if_pos (by omega)]
      · show (E.1.2.2 ++ [_]).getD E.1.1.length [] = _
        rw [app_at, if_neg (by omega), if_pos (by omega)]
      · have hi : i < (E.1.1 ++ [sgT T p (neD T p)]).length := hi
        have hi2 : i < E.1.1.length := by omega
        obtain ⟨q1, q2⟩ := a5 i hi2
        show _ = (((E.1.1 ++ [sgT T p (neD T p)]).getD i []).length : Int) ∧ ((E.1.1 ++ [sgT T p (neD T p)]).getD i []).length ≤ 12 ∧ holA σ 264 (12 * i) ((E.1.1 ++ [sgT T p (neD T p)]).getD i []) ∧ mV σ 266 i = (E.1.2.1 ++ [_]).getD i 0 ∧ ∃ x : Nat, mV σ 267 i = (x : Int) ∧ mV σ 268 i = ((x + ((E.1.2.2 ++ [T.drop (neD T p + 3)]).getD i []).length : Nat) : Int) ∧ SgR σ x ((E.1.2.2 ++ [T.drop (neD T p + 3)]).getD i []) ∧ x + ((E.1.2.2 ++ [T.drop (neD T p + 3)]).getD i []).length ≤ 4000
        rw [app_at, if_pos hi2, app_at, if_pos (by omega), app_at, if_pos (by omega)]
        exact ⟨(a3 i hi2).1, (a3 i hi2).2.1, (a3 i hi2).2.2, q1, q2⟩
      · rw [f1 k hk, wV_ne (Or.inl (by decide))]
      · rw [f2 y k y1 y2 hk, wV_ne (Or.inl (by omega))]
    · have ff : dfF E.1 T p = true := by
        unfold dfF
        rw [a1] at h7
        exact decide_eq_true (by omega)
      exact R_fail.r (by decide) hW (h9 hg ff)
  refine R_defines_32.i ⟨by unfold Rg; omega, by unfold Rg; omega, fun h8 => absurd h8 (by omega), fun _ => ⟨by unfold Rg; omega, fun h8 => no (by omega), fun h8 => ⟨by unfold Rg; omega, fun h7 => no (by omega), fun h7 => ?_⟩⟩⟩
  refine R_wordOf.s (j := 1) (by decide) (by decide) (U := sgT T p (neD T p)) (by omega) (by omega) hU ?_
  have wb := ixW_b (wdT 1) 0 (sgT T p (neD T p))
  refine ⟨fun h6 => ⟨by unfold Rg; omega, by unfold Rg; omega, fun h5 => no (by omega), fun h5 => ⟨by omega, by omega, ?_⟩⟩, fun h6 => no (by omega)⟩
  have hlt : neD T p + 1 < T.length := by omega
  rw [Int.toNat_natCast, hT.2 (neD T p) (by omega)]
  refine ⟨fun h4 => no (fun h => h4 h.2.2.2.2), fun h4 => ⟨by omega, by omega, ?_⟩⟩
  have hcb := hTb.gd hlt
  have e1 : dfG T p = (sDi (T.getD (neD T p + 1) 0) && decide (neD T p + 2 = T.length ∨ T.getD (neD T p + 2) 0 = 32)) := by rw [e0, decide_eq_true ⟨by omega, by omega, by omega, hlt, h4⟩, Bool.true_and]
  rw [show (((x0 + neD T p : Nat) : Int) + 1).toNat = x0 + (neD T p + 1) by omega, hT.2 (neD T p + 1) hlt]
  refine R_isDigit.s (by unfold Rg; omega) ⟨fun h3 => h0 (by rw [e1, bZ_z h3, Bool.false_and]), fun h3 => ⟨by unfold Rg; omega, by unfold Rg; omega, fun h2 => yes (by rw [e1, bZ_ne h3, Bool.true_and]; exact decide_eq_true (Or.inl (by omega))), fun h2 => ⟨by omega, by omega, ?_⟩⟩⟩
  rw [show (((x0 + neD T p : Nat) : Int) + 2).toNat = x0 + (neD T p + 2) by omega, hT.2 (neD T p + 2) (by omega)]
  exact ⟨fun h => yes (by rw [e1, bZ_ne h3, Bool.true_and]; exact decide_eq_true (Or.inr h)), fun h => h0 (by rw [e1, bZ_ne h3, Bool.true_and]; exact decide_eq_false (by omega))⟩
/-- behind the word that tells it -/
theorem R_defines.e {k : Int} (hk : k = ((x0 + T.length : Nat) : Int)) (hl : x0 + T.length ≤ 8100) (h0 : Q (.inl (some 0)) σ) : R_defines k ((x0 + T.length : Nat) : Int) σ Q := by
  subst hk
  exact R_defines.i (R_defines_7.i ⟨by unfold Rg; omega, by unfold Rg; omega, fun _ => R_defines_32.i ⟨by unfold Rg; omega, by unfold Rg; omega, fun _ => h0, fun h9 => absurd h9 (by omega)⟩, fun h9 => absurd h9 (by omega)⟩)
end
