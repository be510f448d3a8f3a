/-! HEADINGS: the document; the class numbers them -/
def hgN (nu : List Int) (l : Nat) : List Int := ofF (fun k => if k < l then nu.getD k 0 else if k = l then nu.getD k 0 + 1 else 0) 4
def hgJ (nu : List Int) : Nat → List Int
  | 0 => []
  | k + 1 => hgJ nu k ++ (if 1 ≤ k then [46] else []) ++ wrN (nu.getD (k + 1) 0) 1
/-- a packed sign in bold -/
def boC (c : Int) : Int := if c = 32 then 32 else if c / 128 % 2 = 0 then c + 128 else c
/-- (titles, levels, places in the flow) -/
abbrev HG9 : Type := List (List Int) × List Int × List Int
theorem wr_two : ∀ n : Nat, n < 64 → (wrN (n : Int) 1).length ≤ 2 := by decide +kernel
theorem bor_bo {c : Int} (h : 0 ≤ c ∧ c < 1024) (hc : ¬ c = 32) : bor c 128 = boC c := by
  have key : ∀ a, a < 1024 → ¬ ((a : Nat) : Int) = 32 → bor ((a : Nat) : Int) 128 = boC ((a : Nat) : Int) := by decide +kernel
  have := key c.toNat (by omega)
  rw [show ((c.toNat : Nat) : Int) = c by omega] at this
  exact this hc
theorem hgN_b {nu : List Int} {l : Nat} {m : Int} (hm : 0 ≤ m) (h : ∀ k, k < 4 → 0 ≤ nu.getD k 0 ∧ nu.getD k 0 ≤ m) : ∀ k, k < 4 → 0 ≤ (hgN nu l).getD k 0 ∧ (hgN nu l).getD k 0 ≤ m + 1 := fun k hk => by
  unfold hgN
  rw [ofF_get hk]
  have := h k hk
  split
  · omega
  · split <;> omega
theorem hgJ_l {nu : List Int} (h : ∀ k, k < 4 → 0 ≤ nu.getD k 0 ∧ nu.getD k 0 ≤ 60) : ∀ l, l ≤ 3 → (hgJ nu l).length ≤ 3 * l
  | 0, _ => Nat.le_refl _
  | k + 1, hk => by
    have ih := hgJ_l h k (by omega)
    have b := h (k + 1) (by omega)
    have w := wr_two (nu.getD (k + 1) 0).toNat (by omega)
    rw [show (((nu.getD (k + 1) 0).toNat : Nat) : Int) = nu.getD (k + 1) 0 by omega] at w
    show (hgJ nu k ++ (if 1 ≤ k then [46] else []) ++ wrN (nu.getD (k + 1) 0) 1).length ≤ _
    rw [List.length_append, List.length_append]
    split
    · show _ + 1 + _ ≤ _
      omega
    · show _ + 0 + _ ≤ _
      omega
theorem hgJ_s {nu : List Int} : ∀ l, smB (hgJ nu l)
  | 0 => smB.nil
  | k + 1 => by
    refine ((hgJ_s k).app ?_).app wrN_s
    split
    · exact smB.one (by decide)
    · exact smB.nil
section
variable {σ σ0 : MS} {Q : MQ9} {z z' : Nat} {E : TE}
def FrHa (z : Nat) (σ σ' : MS) : Prop := (∀ q, q ≠ z + 35 → mX σ' q = mX σ q) ∧ σ'.2.2 = σ.2.2 ∧ ∀ y k, y ≠ 210 → mV σ' y k = mV σ y k
theorem cap35 (hz : z = 49 ∨ z = 163) : 64 ≤ capOf (z + 35) := by
  rcases hz with rfl | rfl <;> decide
theorem hea_97 {l1 : Int} {nu : List Int} {l : Nat} (hl : l ≤ 3) (hz : z = 49 ∨ z = 163) (hB : mB σ0 0 = z) (hn : hol σ0 210 nu) (hnl : nu.length = 4) (hnb : ∀ k, k < 4 → 0 ≤ nu.getD k 0 ∧ nu.getD k 0 ≤ 60) (hq : Setter_heading_97 l1 (l : Int) ((l + 1 : Nat) : Int) (wX σ0 (z + 35) (hgJ nu l)) Q) : ∀ (n j : Nat), j + n = l → Setter_heading_97 l1 (l : Int) ((j + 1 : Nat) : Int) (wX σ0 (z + 35) (hgJ nu j)) Q := by
  have mk : isMarks z = true := by
    rcases hz with rfl | rfl <;> decide
  have rw35 : isRow (z + 35) = true := by
    rcases hz with rfl | rfl <;> decide
  have cp := cap35 hz
  intro n
  induction n with
  | zero =>
    intro j hj
    have e : j = l := by omega
    rw [e]
    exact hq
  | succ n ih =>
    intro j hj
    have jl := hgJ_l hnb j (by omega)
    have next : ∀ m : Nat, (List.replicate m (46 : Int) = if 1 ≤ j then [46] else []) → m ≤ 1 → Setter_heading_121 l1 (l : Int) ((j + 1 : Nat) : Int) (z + 35) 46 (m : Int) (wX σ0 (z + 35) (hgJ nu j)) Q := fun m hm hm1 => by
      refine Setter_heading_121.i (tB.i rw35 (tB.i rw35 ⟨by rw [wX_self]; omega, ?_⟩))
      rw [wX_self, wX_wX, Int.toNat_natCast, hm]
      refine Setter_heading_124.i ?_
      show tB (isMarks (mB σ0 0)) (_ ∧ _ ∧ tB (isRow (mB σ0 0 + 35)) (Row_putNumber (mB σ0 0 + 35) (mV σ0 210 ((j + 1 : Nat) : Int).toNat) 1 _ _))
      rw [hB, Int.toNat_natCast, hn (j + 1) (by omega)]
      have b := hnb (j + 1) (by omega)
      have el : (hgJ nu j ++ (if 1 ≤ j then [46] else [])).length ≤ 10 := by
        rw [← hm, List.length_append, List.length_replicate]
        omega
      refine tB.i mk ⟨by omega, by omega, tB.i rw35 (Row_putNumber.s rw35 (by omega) (by decide) (fun h => absurd h (by decide)) (by rw [wX_self]; omega) ?_)⟩
      rw [wX_self, wX_wX]
      refine Setter_heading_141.i ?_
      rw [show ((j + 1 : Nat) : Int) + 1 = ((j + 1 + 1 : Nat) : Int) by omega]
      exact ih (j + 1) (by omega)
    refine Setter_heading_97.i ⟨by unfold Rg; omega, fun h => absurd h (by omega), fun _ => ?_⟩
    show tB (isMarks (mB σ0 0)) (_ ∧ (_ → Setter_heading_121 _ _ _ (mB σ0 0 + 35) _ _ _ _) ∧ (_ → Setter_heading_121 _ _ _ (mB σ0 0 + 35) _ _ _ _))
    rw [hB]
    refine tB.i mk ⟨by unfold Rg; omega, fun h => next 0 ?_ (by omega), fun h => next 1 ?_ (by omega)⟩
    · rw [if_neg (by omega)]
      rfl
    · rw [if_pos (by omega)]
      rfl
theorem hea_67 {l1 l2 : Int} {l : Nat} (hq : ∀ σ', mX σ' = mX σ0 → σ'.2.2 = σ0.2.2 → (∀ y k, y ≠ 210 → mV σ' y k = mV σ0 y k) → (∀ k, k < 4 → mV σ' 210 k = if k < l then mV σ0 210 k else 0) → Setter_heading_67 l1 l2 4 σ' Q) : ∀ (n j : Nat) (σ : MS), j + n = 4 → l ≤ j → (mX σ = mX σ0 ∧ σ.2.2 = σ0.2.2 ∧ ∀ y k, y ≠ 210 → mV σ y k = mV σ0 y k) → (∀ k, k < 4 → mV σ 210 k = if k < l then mV σ0 210 k else if k < j then 0 else mV σ0 210 k) → Setter_heading_67 l1 l2 (j : Int) σ Q := by
  intro n
  induction n with
  | zero =>
    intro j σ hj hsj hf hc
    have e : j = 4 := by omega
    rw [e] at hc ⊢
    exact hq σ hf.1 hf.2.1 hf.2.2 (fun k hk => by
      rw [hc k hk]
      by_cases h : k < l
      · rw [if_pos h, if_pos h]
      · rw [if_neg h, if_neg h, if_pos hk])
  | succ n ih =>
    intro j σ hj hsj hf hc
    refine Setter_heading_67.i ⟨by unfold Rg; omega, fun h => absurd h (by omega), fun _ => ⟨by omega, by omega, ?_⟩⟩
    rw [Int.toNat_natCast, show (j : Int) + 1 = ((j + 1 : Nat) : Int) by omega]
    refine ih (j + 1) _ (by omega) (by omega) ⟨hf.1, hf.2.1, fun y k h => (wV_ne (Or.inl h)).trans (hf.2.2 y k h)⟩ (fun k hk => ?_)
    by_cases e : k = j
    · rw [e, wV_self, if_neg (by omega), if_pos (by omega)]
    · rw [wV_ne (Or.inr e), hc k hk]
      by_cases h : k < l
      · rw [if_pos h, if_pos h]
      · rw [if_neg h, if_neg h]
        by_cases h2 : k < j
        · rw [if_pos h2, if_pos (by omega)]
        · rw [if_neg h2, if_neg (by omega)]
/-- the number is told; then the text begins -/
theorem hea_A {at9 : Nat} {M nu : List Int} {Ti : List (List Int)} {l : Nat} {w : Int × Int} (hM : mX σ 3 = M) (hM4 : M.length ≤ 4000) (hL : LnM σ M (mlL M)) (hat : at9 < (mlL M).length) (hl : lvL (sgT M ((mlL M).getD at9 (0, 0)).1 ((mlL M).getD at9 (0, 0)).2) = (l : Int)) (hl3 : 1 ≤ l ∧ l ≤ 3) (hz : z = 49 ∨ z = 163) (hB : mB σ 0 = z) (hTi : shR σ (z + 13) Ti) (hn : hol σ 210 nu) (hnl : nu.length = 4) (hnb : ∀ k, k < 4 → 0 ≤ nu.getD k 0 ∧ nu.getD k 0 ≤ (Ti.length : Int)) (hw : mV σ 22 0 = w.1 ∧ mV σ 22 1 = w.2) (hq : Ti.length < 60 → ∀ σ', FrHa z σ σ' → mX σ' (z + 35) = hgJ (hgN nu l) l → hol σ' 210 (hgN nu l) → Setter_heading_97 (at9 : Int) (l : Int) ((l + 1 : Nat) : Int) σ' Q) (hf : 60 ≤ Ti.length → TxF (wV σ 22 2 9) (9, w.1, w.2) → Q (.inr (exN 0)) (wV σ 22 2 9)) : Setter_heading (at9 : Int) σ Q := by
  have mk : isMarks z = true ∧ isShelf (z + 13) = true ∧ isRow (z + 16) = true ∧ isRow (z + 35) = true := by
    rcases hz with rfl | rfl <;> decide
  refine Setter_heading.i ?_
  rw [hB]
  refine tB.i mk.1 (tB.i mk.2.1 (Shelf_rows.i (tB.i mk.2.1 (tB.i mk.2.2.1 ?_))))
  show ((((mX σ (z + 13 + 3)).length : Nat) : Int) < 60 → _) ∧ (60 ≤ (((mX σ (z + 13 + 3)).length : Nat) : Int) → _)
  rw [show (mX σ (z + 13 + 3)).length = Ti.length by rw [hTi.2, enS_len]]
  refine ⟨fun h60 => ?_, fun h60 => Purse_fail.g (by decide) hw.1 hw.2 (fun hx => hf (by omega) hx)⟩
  have h6 : Ti.length < 60 := by omega
  have hx0 : rgt (mX σ 200) (at9 : Int) = ((((mlL M).getD at9 (0, 0)).1 : Nat) : Int) := mlA_at hat _ hL.1
  have hx1 : rgt (mX σ 202) (at9 : Int) = ((((mlL M).getD at9 (0, 0)).2 : Nat) : Int) := mlA_at hat _ hL.2.1
  have mlp := (ml_p (T := M) hat).1
  generalize hst : ((mlL M).getD at9 (0, 0)).1 = st at *
  generalize hsp : ((mlL M).getD at9 (0, 0)).2 = sp at *
  have hsp1 : st ≤ sp ∧ sp ≤ M.length := ⟨by have := mlp.1; omega, by have := mlp.2.1; omega⟩
  have lU : (sgT M st sp).length = sp - st := sgT_l hsp1.2
  have lnc : LnC σ 3 st (sgT M st sp) := by
    have := (LnC.w (q := 3) (by decide) hM (by omega)).sg hsp1.1 hsp1.2
    rw [Nat.zero_add] at this
    exact this
  have ml4 : (mlL M).length ≤ 4000 := Nat.le_trans (mlF_l (T := M) M.length 0) hM4
  refine Setter_heading_24.i ⟨by unfold Rg; omega, by unfold Rg; omega, ?_⟩
  rw [hx0, hx1, show ((sp : Nat) : Int) = ((st + (sgT M st sp).length : Nat) : Int) by omega]
  refine Setter_levelOf.c lnc ?_
  show 0 ≤ (max 1 (min 3 (lvL (sgT M st sp)))) ∧ _
  rw [hl, show max 1 (min 3 (l : Int)) = (l : Int) by omega, Int.toNat_natCast, hn l (by omega)]
  have bl := hnb l (by omega)
  refine ⟨by omega, by omega, by omega, by omega, by unfold Rg; omega, ?_⟩
  rw [show (l : Int) + 1 = ((l + 1 : Nat) : Int) by omega]
  refine hea_67 (σ0 := wV σ 210 l (nu.getD l 0 + 1)) (l := l + 1) (fun σ1 x1 s1 v1 c1 => ?_) (4 - (l + 1)) (l + 1) _ (by omega) (Nat.le_refl _) ⟨rfl, rfl, fun _ _ _ => rfl⟩ (fun k hk => ?_)
  · have eB : mB σ1 0 = z := by
      rw [show mB σ1 = mB σ from congrArg Prod.fst s1]
      exact hB
    refine Setter_heading_67.i ⟨by decide, fun _ => ?_, fun h => absurd h (by decide)⟩
    rw [eB]
    refine tB.i mk.1 (tB.i mk.2.2.2 (tB.i mk.2.2.2 (Setter_heading_95.i ?_)))
    have nn : hol σ1 210 (hgN nu l) := fun k hk => by
      have hk : k < 4 := by
        unfold hgN at hk
        rw [ofF_len] at hk
        exact hk
      unfold hgN
      rw [ofF_get hk, c1 k hk]
      by_cases h1 : k < l
      · rw [if_pos (by omega), if_pos h1, wV_ne (Or.inr (by omega))]
        exact hn k (by omega)
      · rw [if_neg h1]
        by_cases h2 : k = l
        · rw [if_pos (by omega), if_pos h2, h2, wV_self]
        · rw [if_neg (by omega), if_neg h2]
    have nb := hgN_b (l := l) (m := (Ti.length : Int)) (by omega) hnb
    have := hea_97 (σ0 := σ1) (Q := Q) (l1 := (at9 : Int)) (nu := hgN nu l) hl3.2 hz eB nn ofF_len (fun k hk => by have := nb k hk; omega) (hq h6 (wX σ1 (z + 35) (hgJ (hgN nu l) l)) ⟨fun q hq => (wX_ne hq).trans (by rw [x1]; rfl), s1, fun y k h => (v1 y k h).trans (wV_ne (Or.inl h))⟩ wX_self (fun k hk => nn k hk)) l 0 (by omega)
    exact this
  · by_cases h : k < l + 1
    · rw [if_pos h]
    · rw [if_neg h, if_neg h]
end
