/-! ITEMS: the class begins one -/
def FrIt (z : Nat) (σ σ' : MS) : Prop := (∀ q, q ∉ [112, 114, 116, 118, 206] → q ≠ z + 35 → mX σ' q = mX σ q) ∧ σ'.2.2 = σ.2.2 ∧ ∀ y k, ¬ (y = 111 ∧ (k = 9 ∨ k = 10 ∨ k = 11 ∨ k = 12)) → y ≠ 126 → y ≠ 211 → mV σ' y k = mV σ y k
/-- the latest number behind an item -/
def itE (E : TE) (cn : List Int) (d : Nat) (jo co : Bool) : TE := if co = true then (E.1, E.2.1, wrN ((itN cn d jo co).getD d 0) (itS d), E.2.2.2) else E
theorem itN_l {cn : List Int} {d : Nat} {jo co : Bool} : (itN cn d jo co).length = 3 := by
  unfold itN
  split
  · rw [List.length_set]
    exact ofF_len
  · exact ofF_len
theorem itC_b {cn : List Int} {d : Nat} {jo : Bool} {m : Int} (hm : 0 ≤ m) (h : ∀ k, k < 3 → 0 ≤ cn.getD k 0 ∧ cn.getD k 0 ≤ m) : ∀ k, k < 3 → 0 ≤ (itC cn d jo).getD k 0 ∧ (itC cn d jo).getD k 0 ≤ m := fun k hk => by
  unfold itC
  rw [ofF_get hk]
  split
  · exact h k hk
  · exact ⟨Int.le_refl _, hm⟩
theorem itC_b9 {cn : List Int} {d : Nat} {jo : Bool} {m : Int} (hm : 0 ≤ m) (h : jo = true → ∀ k, k < 3 → 0 ≤ cn.getD k 0 ∧ cn.getD k 0 ≤ m) : ∀ k, k < 3 → 0 ≤ (itC cn d jo).getD k 0 ∧ (itC cn d jo).getD k 0 ≤ m := fun k hk => by
  unfold itC
  rw [ofF_get hk]
  split
  · rename_i hj
    exact h hj.1 k hk
  · exact ⟨Int.le_refl _, hm⟩
theorem set_gd {L : List Int} {k d : Nat} {x : Int} (h : k < L.length) : (L.set d x).getD k 0 = if k = d then x else L.getD k 0 := by
  unfold List.getD
  rw [List.getElem?_set]
  by_cases e : k = d
  · rw [if_pos e.symm, if_pos e, if_pos (by omega)]
    rfl
  · rw [if_neg (fun h9 => e h9.symm), if_neg e]
theorem itN_b {cn : List Int} {d : Nat} {jo co : Bool} {m : Int} (hm : 0 ≤ m) (h : ∀ k, k < 3 → 0 ≤ cn.getD k 0 ∧ cn.getD k 0 ≤ m) : ∀ k, k < 3 → 0 ≤ (itN cn d jo co).getD k 0 ∧ (itN cn d jo co).getD k 0 ≤ m + 1 := fun k hk => by
  have b := itC_b (d := d) (jo := jo) hm h
  unfold itN
  split
  · rw [set_gd (by rw [show (itC cn d jo).length = 3 from ofF_len]; exact hk)]
    have := b k hk
    split
    · rename_i e
      rw [e] at this
      omega
    · omega
  · have := b k hk
    omega
theorem itM_l {cn : List Int} {d : Nat} {jo co : Bool} : (itM cn d jo co).length ≤ 21 := by
  unfold itM
  split
  · rw [List.length_append]
    have := wrN_len (n := (itN cn d jo co).getD d 0) (sys := itS d)
    show _ + 1 ≤ 21
    omega
  · show 1 ≤ 21
    omega
section
variable {σ σ0 : MS} {Q : MQ9} {z z' : Nat} {E : TE}
theorem FrIt.x {σ1 : MS} (h : FrIt z σ σ1) {q : Nat} (h1 : q ∉ [112, 114, 116, 118, 206]) (h2 : q ≠ z + 35) : mX σ1 q = mX σ q := h.1 q h1 h2
theorem ite_265 {at9 nx d : Nat} {M C P Lt : List Int} (hM : mX σ0 3 = M) (hM4 : M.length ≤ 4000) (hL : LnM σ0 M (mlL M)) (h1 : at9 < nx) (h2 : nx ≤ (mlL M).length) (hsk : ((mlL M).getD at9 (0, 0)).1 + (2 * d + 2) ≤ ((mlL M).getD at9 (0, 0)).2) (hz : z = 49 ∨ z = 163) (f : FrIt z σ0 σ) (hP : mX σ 118 = P) (hP6 : P.length < 64) (he : mX σ 112 = [] ∧ mX σ 114 = [] ∧ mX σ 116 = []) (hC : hol σ 211 C) (hLt : mX σ (z + 35) = Lt) (hq : ∀ σ', FrIt z σ0 σ' → mX σ' 206 = tpT (sgT M (((mlL M).getD at9 (0, 0)).1 + (2 * d + 2)) ((mlL M).getD (nx - 1) (0, 0)).2) → mX σ' 118 = P ++ [32] → mV σ' 111 9 = ((P ++ [32]).length : Int) → (mX σ' 112 = [] ∧ mX σ' 114 = [] ∧ mX σ' 116 = []) → hol σ' 211 C → mX σ' (z + 35) = Lt → Q (.inl none) σ') : Setter_beginItem_265 (at9 : Int) (nx : Int) (d : Int) σ Q := by
  have x : ∀ q, q = 3 ∨ q = 200 ∨ q = 202 ∨ q = 204 → mX σ q = mX σ0 q := fun q hq => f.x (by
    simp only [List.mem_cons, List.not_mem_nil, or_false]
    omega) (by omega)
  refine Setter_beginItem_265.i ⟨by rw [hP]; exact hP6, ?_⟩
  rw [hP]
  have xk : ∀ q, q ≠ 118 → mX (wV (wX σ 118 (P ++ [32])) 111 9 ((P ++ [32]).length : Int)) q = mX σ q := fun q h => by
    show mX (wX σ 118 (P ++ [32])) q = mX σ q
    exact wX_ne h
  have key := Setter_gather.c (σ := wV (wX σ 118 (P ++ [32])) 111 9 ((P ++ [32]).length : Int)) (Q := kV (thQ Q) fun σ1 => Q (.inl none) σ1) (T := M) (at9 := at9) (nx := nx) (sk := 2 * d + 2) ((xk 3 (by decide)).trans ((x 3 (by omega)).trans hM)) hM4 ⟨(xk _ (by decide)).trans ((x _ (by omega)).trans hL.1), (xk _ (by decide)).trans ((x _ (by omega)).trans hL.2.1), (xk _ (by decide)).trans ((x _ (by omega)).trans hL.2.2)⟩ h1 h2 hsk
  rw [show ((2 * d + 2 : Nat) : Int) = 2 * (d : Int) + 2 by omega] at key
  refine key (hq _ ⟨fun q a c => ?_, f.2.1, fun y k a b c => ?_⟩ wX_self ?_ ?_ ⟨?_, ?_, ?_⟩ (fun i hi => ?_) ?_)
  · simp only [List.mem_cons, List.not_mem_nil, or_false, not_or] at a
    rw [wX_ne (by omega), xk q (by omega)]
    exact f.1 q (by
      simp only [List.mem_cons, List.not_mem_nil, or_false]
      omega) c
  · show mV (wV (wX σ 118 (P ++ [32])) 111 9 _) y k = _
    rw [wV_ne (by omega)]
    exact f.2.2 y k a b c
  · rw [wX_ne (by decide)]
    show mX (wX σ 118 (P ++ [32])) 118 = _
    exact wX_self
  · show mV (wV (wX σ 118 (P ++ [32])) 111 9 _) 111 9 = _
    rw [wV_self]
  · rw [wX_ne (by decide)]
    exact (xk _ (by decide)).trans he.1
  · rw [wX_ne (by decide)]
    exact (xk _ (by decide)).trans he.2.1
  · rw [wX_ne (by decide)]
    exact (xk _ (by decide)).trans he.2.2
  · show mV (wV (wX σ 118 (P ++ [32])) 111 9 _) 211 i = _
    rw [wV_ne (Or.inl (by decide))]
    exact hC i hi
  · rw [wX_ne (by omega)]
    exact (xk _ (by omega)).trans hLt
theorem Setter_beginItem.c {at9 nx : Nat} {M cn : List Int} {jo : Bool} (hM : mX σ 3 = M) (hM4 : M.length ≤ 4000) (hL : LnM σ M (mlL M)) (h1 : at9 < nx) (h2 : nx ≤ (mlL M).length) (hit : itL (sgT M ((mlL M).getD at9 (0, 0)).1 ((mlL M).getD at9 (0, 0)).2) = true) (hcn : cn.length = 3) (hc : hol σ 211 cn) (hcb : jo = true → ∀ k, k < 3 → 0 ≤ cn.getD k 0 ∧ cn.getD k 0 ≤ 90000) (hz : z = 49 ∨ z = 163) (hB : mB σ 0 = z) (hLt : mX σ (z + 35) = E.2.2.1) (hq : ∀ σ' d co, d = itQ (sgT M ((mlL M).getD at9 (0, 0)).1 ((mlL M).getD at9 (0, 0)).2) → co = itH (sgT M ((mlL M).getD at9 (0, 0)).1 ((mlL M).getD at9 (0, 0)).2) → FrIt z σ σ' → mX σ' 206 = tpT (sgT M (((mlL M).getD at9 (0, 0)).1 + (2 * d + 2)) ((mlL M).getD (nx - 1) (0, 0)).2) → mX σ' 118 = itP cn d jo co → mV σ' 111 9 = ((itP cn d jo co).length : Int) → (mX σ' 112 = [] ∧ mX σ' 114 = [] ∧ mX σ' 116 = []) → hol σ' 211 (itN cn d jo co) → mX σ' (z + 35) = (itE E cn d jo co).2.2.1 → Q (.inl none) σ') : Setter_beginItem (at9 : Int) (nx : Int) (bZ jo) σ Q := by
  have hat : at9 < (mlL M).length := by omega
  have mlp := (ml_p (T := M) hat).1
  have hx0 : rgt (mX σ 200) (at9 : Int) = ((((mlL M).getD at9 (0, 0)).1 : Nat) : Int) := mlA_at hat _ hL.1
  generalize hst : ((mlL M).getD at9 (0, 0)).1 = st at *
  generalize hsp : ((mlL M).getD at9 (0, 0)).2 = sp at *
  have hsp1 : st ≤ sp ∧ sp ≤ M.length := ⟨by have := mlp.1; omega, by have := mlp.2.1; omega⟩
  generalize hU : sgT M st sp = U at *
  have lU : U.length = sp - st := by rw [← hU, sgT_l hsp1.2]
  have lnc : ∀ σ1, mX σ1 3 = M → LnC σ1 3 st U := fun σ1 e => by
    have := (LnC.w (q := 3) (by decide) e (by omega)).sg hsp1.1 hsp1.2
    rw [hU, Nat.zero_add] at this
    exact this
  have hi := of_decide_eq_true hit
  have ml4 : (mlL M).length ≤ 4000 := Nat.le_trans (mlF_l (T := M) M.length 0) hM4
  have q2 : itQ U ≤ 2 := by
    unfold itQ
    omega
  have qe : 2 * itQ U = rnW 32 U := by
    unfold itQ
    omega
  refine Setter_beginItem.i ⟨by unfold Rg; omega, ?_⟩
  rw [hx0]
  refine ite_13 (lnc σ hM) hit (ite_44 q2 hcn hc (fun σ1 f1 c1 => ?_))
  refine Setter_beginItem_58.i ⟨by unfold Rg; omega, fun _ => Filler_openPlain.c (fun σ2 f2 k2 w2 e2 v2 => ?_), fun h => absurd h (by decide)⟩
  have x1 : ∀ q, mX σ1 q = mX σ q := fun q => by rw [f1.1]
  have x2 : ∀ q, q ∉ [112, 114, 116, 118] → mX σ2 q = mX σ q := fun q a => by
    by_cases h9 : q ∈ [130, 132, 134, 136, 138, 142, 144]
    · exact (k2 q h9).trans (x1 q)
    · simp only [List.mem_cons, List.not_mem_nil, or_false, not_or] at h9 a
      exact (f2.1 q (by
        simp only [List.mem_cons, List.not_mem_nil, or_false]
        omega)).trans (x1 q)
  have eB : mB σ2 = mB σ := (congrArg Prod.fst f2.2.1).trans (congrArg Prod.fst f1.2.1)
  have c2 : hol σ2 211 (itC cn (itQ U) jo) := fun i hi => (f2.2.2 211 i (by decide) (by decide) (by omega)).trans (c1 i hi)
  have cl : (itC cn (itQ U) jo).length = 3 := ofF_len
  have fr2 : FrIt z σ σ2 := ⟨fun q a c => x2 q (fun e => a (by
    simp only [List.mem_cons, List.not_mem_nil, or_false] at e ⊢
    omega)), f2.2.1.trans f1.2.1, fun y k a b c => by
    by_cases h22 : y = 22
    · rw [h22]
      exact (w2 k).trans (f1.2.2 22 k (by decide))
    · exact (f2.2.2 y k h22 b a).trans (f1.2.2 y k c)⟩
  show Rg (2 * (itQ U : Int)) ∧ _
  refine ⟨by unfold Rg; omega, by rw [e2.2.2.2]; show 0 + _ ≤ 64; omega, by unfold Rg; omega, ?_⟩
  rw [show (st : Int) + 2 * (itQ U : Int) = ((st + rnW 32 U : Nat) : Int) by omega, (lnc σ2 ((x2 3 (by decide)).trans hM)).at (by omega), e2.2.2.2, List.nil_append, show (2 * (itQ U : Int)).toNat = 2 * itQ U by omega]
  have skp : st + (2 * itQ U + 2) ≤ sp := by omega
  have hst2 : ((mlL M).getD at9 (0, 0)).1 + (2 * itQ U + 2) ≤ ((mlL M).getD at9 (0, 0)).2 := by
    rw [hst, hsp]
    exact skp
  refine ⟨fun hn => ?_, fun hy => ?_⟩
  · have hco : itH U = false := decide_eq_false hn
    have fin : ∀ m : Int, [m] = itM cn (itQ U) jo (itH U) → Setter_beginItem_262 (at9 : Int) (nx : Int) (itQ U : Int) m (wX σ2 118 (List.replicate (2 * itQ U) 32)) Q := fun m hm => by
      refine Setter_beginItem_262.i ⟨by rw [wX_self, List.length_replicate]; omega, ?_⟩
      rw [wX_self]
      refine ite_265 (σ0 := σ) (z := z) (C := itN cn (itQ U) jo (itH U)) (P := List.replicate (2 * itQ U) 32 ++ [m]) (Lt := E.2.2.1) hM hM4 hL h1 h2 hst2 hz ⟨fun q a c => ?_, fr2.2.1, fr2.2.2⟩ wX_self (by rw [List.length_append, List.length_replicate]; show _ + 1 < 64; omega) ⟨?_, ?_, ?_⟩ (fun i hi => ?_) ?_ (fun σ3 q1 q2 q3 q4 q5 q6 q7 => hq σ3 (itQ U) (itH U) rfl rfl q1 (by rw [← hst]; exact q2) ?_ ?_ q5 q6 ?_)
      · have a2 := a
        simp only [List.mem_cons, List.not_mem_nil, or_false, not_or] at a2
        rw [wX_ne (by omega), wX_ne (by omega)]
        exact fr2.1 q a c
      · rw [wX_ne (by decide), wX_ne (by decide)]
        exact e2.1
      · rw [wX_ne (by decide), wX_ne (by decide)]
        exact e2.2.1
      · rw [wX_ne (by decide), wX_ne (by decide)]
        exact e2.2.2.1
      · unfold itN at hi ⊢
        rw [hco, if_neg (by decide)] at hi ⊢
        exact c2 i hi
      · rw [wX_ne (by omega), wX_ne (by omega)]
        exact (x2 _ (by
          simp only [List.mem_cons, List.not_mem_nil, or_false]
          omega)).trans hLt
      · rw [q3]
        unfold itP
        rw [← hm]
      · rw [q4]
        unfold itP
        rw [← hm]
      · rw [q7]
        unfold itE
        rw [hco, if_neg (by decide)]
    have em : itM cn (itQ U) jo (itH U) = [if itQ U = 0 then 45 else if itQ U = 1 then 42 else 43] := by
      unfold itM
      rw [hco, if_neg (by decide)]
    refine ⟨by unfold Rg; omega, fun h9 => ⟨by unfold Rg; omega, fun h8 => fin 43 ?_, fun h8 => fin 42 ?_⟩, fun h9 => fin 45 ?_⟩
    · rw [em, if_neg (by omega), if_neg (by omega)]
    · rw [em, if_neg (by omega), if_pos (by omega)]
    · rw [em, if_pos (by omega)]
  · have hco : itH U = true := decide_eq_true hy
    have cv : mV σ2 211 (itQ U) = (itC cn (itQ U) jo).getD (itQ U) 0 := c2 _ (by omega)
    have cb := itC_b9 (d := itQ U) (jo := jo) (m := 90000) (by decide) hcb (itQ U) (by omega)
    have en : (itN cn (itQ U) jo (itH U)).getD (itQ U) 0 = (itC cn (itQ U) jo).getD (itQ U) 0 + 1 := by
      unfold itN
      rw [hco, if_pos rfl, set_gd (by omega), if_pos rfl]
    refine ⟨by omega, by omega, by omega, by omega, ?_, ?_⟩
    · rw [Int.toNat_natCast, cv]
      unfold Rg
      omega
    rw [eB, hB, Int.toNat_natCast, wV_self, cv]
    have mk : isMarks z = true := by
      rcases hz with rfl | rfl <;> decide
    have rw35 : isRow (z + 35) = true := by
      rcases hz with rfl | rfl <;> decide
    refine tB.i mk (tB.i rw35 (tB.i rw35 (tB.i mk ⟨by omega, by omega, ?_⟩)))
    generalize hn9 : (itC cn (itQ U) jo).getD (itQ U) 0 + 1 = nn at *
    have fin : ∀ sys : Int, sys = itS (itQ U) → Setter_beginItem_175 (at9 : Int) (nx : Int) (itQ U : Int) (z + 35) nn sys (wX (wV (wX σ2 118 (List.replicate (2 * itQ U) 32)) 211 (itQ U) nn) (z + 35) []) Q := fun sys hs => by
      have wl := wrN_len (n := nn) (sys := sys)
      have fin2 : ∀ m : Int, wrN nn sys ++ [m] = itM cn (itQ U) jo (itH U) → Setter_beginItem_226 (at9 : Int) (nx : Int) (itQ U : Int) m (wX (wX (wX (wV (wX σ2 118 (List.replicate (2 * itQ U) 32)) 211 (itQ U) nn) (z + 35) []) (z + 35) (wrN nn sys)) 118 (List.replicate (2 * itQ U) 32 ++ wrN nn sys)) Q := fun m hm => by
        refine Setter_beginItem_226.i ⟨by rw [wX_self, List.length_append, List.length_replicate]; omega, ?_⟩
        rw [wX_self]
        refine ite_265 (σ0 := σ) (z := z) (C := itN cn (itQ U) jo (itH U)) (P := List.replicate (2 * itQ U) 32 ++ wrN nn sys ++ [m]) (Lt := wrN nn sys) hM hM4 hL h1 h2 hst2 hz ⟨fun q a c => ?_, fr2.2.1, fun y k a b c => ?_⟩ wX_self (by rw [List.length_append, List.length_append, List.length_replicate]; show _ + 1 < 64; omega) ⟨?_, ?_, ?_⟩ (fun i hi => ?_) ?_ (fun σ3 q1 q2 q3 q4 q5 q6 q7 => hq σ3 (itQ U) (itH U) rfl rfl q1 (by rw [← hst]; exact q2) ?_ ?_ q5 q6 ?_)
        · have a2 := a
          simp only [List.mem_cons, List.not_mem_nil, or_false, not_or] at a2
          rw [wX_ne (by omega), wX_ne (by omega), wX_ne c, wX_ne c]
          show mX (wX σ2 118 (List.replicate (2 * itQ U) 32)) q = _
          rw [wX_ne (by omega)]
          exact fr2.1 q a c
        · show mV (wV (wX σ2 118 (List.replicate (2 * itQ U) 32)) 211 (itQ U) nn) y k = _
          rw [wV_ne (Or.inl c)]
          exact fr2.2.2 y k a b c
        · rw [wX_ne (by decide), wX_ne (by decide), wX_ne (by omega), wX_ne (by omega)]
          show mX (wX σ2 118 (List.replicate (2 * itQ U) 32)) 112 = []
          rw [wX_ne (by decide)]
          exact e2.1
        · rw [wX_ne (by decide), wX_ne (by decide), wX_ne (by omega), wX_ne (by omega)]
          show mX (wX σ2 118 (List.replicate (2 * itQ U) 32)) 114 = []
          rw [wX_ne (by decide)]
          exact e2.2.1
        · rw [wX_ne (by decide), wX_ne (by decide), wX_ne (by omega), wX_ne (by omega)]
          show mX (wX σ2 118 (List.replicate (2 * itQ U) 32)) 116 = []
          rw [wX_ne (by decide)]
          exact e2.2.2.1
        · show mV (wV (wX σ2 118 (List.replicate (2 * itQ U) 32)) 211 (itQ U) nn) 211 i = _
          rw [itN_l] at hi
          unfold itN
          rw [hco, if_pos rfl, set_gd (by omega), hn9]
          by_cases e : i = itQ U
          · rw [e, wV_self, if_pos rfl]
          · rw [wV_ne (Or.inr e), if_neg e]
            exact c2 i (by omega)
        · rw [wX_ne (by omega), wX_ne (by omega)]
          exact wX_self
        · rw [q3]
          unfold itP
          rw [← hm, List.append_assoc (List.replicate (2 * itQ U) 32) (wrN nn sys) [m]]
        · rw [q4]
          unfold itP
          rw [← hm, List.append_assoc (List.replicate (2 * itQ U) 32) (wrN nn sys) [m]]
        · rw [q7]
          unfold itE
          rw [hco, if_pos rfl]
          show wrN nn sys = wrN ((itN cn (itQ U) jo true).getD (itQ U) 0) (itS (itQ U))
          rw [← hco, en, hs]
      have em : itM cn (itQ U) jo (itH U) = wrN nn sys ++ [if itQ U = 1 then 41 else 46] := by
        unfold itM
        rw [en, hs, if_pos hco]
      have sb : 1 ≤ sys ∧ sys ≤ 5 := by
        rw [hs]
        unfold itS
        split
        · decide
        · split <;> decide
      refine Setter_beginItem_175.i (tB.i rw35 (Row_putNumber.s rw35 (by omega) sb (fun _ => by omega) (by
        rw [wX_self]
        rcases hz with rfl | rfl
        · exact Nat.lt_of_lt_of_le (show 0 + 22 < 64 by decide) (by decide)
        · exact Nat.lt_of_lt_of_le (show 0 + 22 < 64 by decide) (by decide)) ?_))
      rw [wX_self, List.nil_append]
      have eB5 : mB (wX (wX (wV (wX σ2 118 (List.replicate (2 * itQ U) 32)) 211 (itQ U) nn) (z + 35) []) (z + 35) (wrN nn sys)) 0 = z := by
        show mB σ2 0 = z
        rw [eB]
        exact hB
      show tB (isMarks (mB (wX (wX (wV (wX σ2 118 (List.replicate (2 * itQ U) 32)) 211 (itQ U) nn) (z + 35) []) (z + 35) (wrN nn sys)) 0)) _
      rw [eB5]
      have ne : neB (z + 35) 118 = true := by
        rcases hz with rfl | rfl <;> decide
      refine tB.i mk (tB.i mk (tB.i rw35 (tB.i rw35 (tB.i ne ?_))))
      rw [wX_self, pour_all]
      have e118 : mX (wX (wX (wV (wX σ2 118 (List.replicate (2 * itQ U) 32)) 211 (itQ U) nn) (z + 35) []) (z + 35) (wrN nn sys)) 118 = List.replicate (2 * itQ U) 32 := by
        rw [wX_ne (by omega), wX_ne (by omega)]
        exact (wX_self : mX (wX σ2 118 (List.replicate (2 * itQ U) 32)) 118 = _)
      rw [e118]
      refine ⟨by rw [List.length_replicate]; omega, by unfold Rg; omega, fun h9 => fin2 46 ?_, fun h9 => fin2 41 ?_⟩
      · rw [em, if_neg (by omega)]
      · rw [em, if_pos (by omega)]
    refine ⟨by unfold Rg; omega, fun h9 => ⟨by unfold Rg; omega, fun h8 => fin 2 ?_, fun h8 => fin 4 ?_⟩, fun h9 => fin 1 ?_⟩
    · unfold itS
      rw [if_neg (by omega), if_neg (by omega)]
    · unfold itS
      rw [if_neg (by omega), if_pos (by omega)]
    · unfold itS
      rw [if_pos (by omega)]
end
