/-! LINES OF THE MANUSCRIPT: the class -/
def mlA (X : List (Nat × Nat)) : List Int := X.map (fun x => (x.1 : Int))
def mlB (X : List (Nat × Nat)) : List Int := X.map (fun x => (x.2 : Int))
def mlK (T : List Int) (X : List (Nat × Nat)) : List Int := X.map (fun x => kiL (sgT T x.1 x.2))
def LnM (σ : MS) (T : List Int) (X : List (Nat × Nat)) : Prop := mX σ 200 = mlA X ∧ mX σ 202 = mlB X ∧ mX σ 204 = mlK T X
def FrOp (σ σ' : MS) : Prop := (∀ q, q ≠ 200 → q ≠ 202 → q ≠ 204 → mX σ' q = mX σ q) ∧ σ'.2.2 = σ.2.2 ∧ mV σ' = mV σ
section
variable {σ σ0 : MS} {Q : MQ9} {T : List Int}
theorem FrOp.rf : FrOp σ σ := ⟨fun _ _ _ _ => rfl, rfl, rfl⟩
theorem FrOp.tr {σ1 σ2 : MS} (h : FrOp σ σ1) (h' : FrOp σ1 σ2) : FrOp σ σ2 := ⟨fun q a b c => (h'.1 q a b c).trans (h.1 q a b c), h'.2.1.trans h.2.1, h'.2.2.trans h.2.2⟩
theorem FrOp.x {q : Nat} {L : List Int} (h : q = 200 ∨ q = 202 ∨ q = 204) : FrOp σ (wX σ q L) := ⟨fun q' a b c => wX_ne (by rcases h with rfl | rfl | rfl <;> assumption), rfl, rfl⟩
/-- a line is put -/
theorem ope_83 {k e : Nat} {l2 : Int} {Y : List (Nat × Nat)} (hT : mX σ 3 = T) (hT4 : T.length ≤ 4000) (hke : k ≤ e) (he : e ≤ T.length) (hY : Y.length < 4000) (hL : LnM σ T Y) (hq : ∀ σ', FrOp σ σ' → LnM σ' T (Y ++ [(k, e)]) → Setter_open_120 (l2 + 1) l2 σ' Q) : Setter_open_83 (k : Int) l2 (e : Int) σ Q := by
  obtain ⟨h1, h2, h3⟩ := hL
  have n1 : (mX σ 200).length = Y.length := by rw [h1]; exact List.length_map ..
  have n2 : (mX σ 202).length = Y.length := by rw [h2]; exact List.length_map ..
  have n3 : (mX σ 204).length = Y.length := by rw [h3]; exact List.length_map ..
  have f1 : FrOp σ (wX (wX σ 200 (mX σ 200 ++ [(k : Int)])) 202 (mX σ 202 ++ [(e : Int)])) := (FrOp.x (by decide)).tr (FrOp.x (by decide))
  have ln : LnC (wX (wX σ 200 (mX σ 200 ++ [(k : Int)])) 202 (mX σ 202 ++ [(e : Int)])) 3 0 T := ⟨by decide, by omega, fun t ht => by
    rw [f1.1 3 (by decide) (by decide) (by decide), hT, show ((0 : Nat) : Int) + (t : Int) = (t : Int) by omega]
    exact rgt_n ht⟩
  have ls := ln.sg hke he
  rw [Nat.zero_add] at ls
  have ll := sgT_l (U := T) (a := k) he
  have kk := Setter_kindOf.c (Q := kI (thQ Q) fun r1 σ1 => (mX σ1 204).length < 4096 ∧ Setter_open_120 (l2 + 1) l2 (wX σ1 204 (mX σ1 204 ++ [r1])) Q) ls (by
    show (mX (wX (wX σ 200 (mX σ 200 ++ [(k : Int)])) 202 (mX σ 202 ++ [(e : Int)])) 204).length < 4096 ∧ Setter_open_120 (l2 + 1) l2 (wX (wX (wX σ 200 (mX σ 200 ++ [(k : Int)])) 202 (mX σ 202 ++ [(e : Int)])) 204 (mX (wX (wX σ 200 (mX σ 200 ++ [(k : Int)])) 202 (mX σ 202 ++ [(e : Int)])) 204 ++ [kiL (sgT T k e)])) Q
    have e4 : mX (wX (wX σ 200 (mX σ 200 ++ [(k : Int)])) 202 (mX σ 202 ++ [(e : Int)])) 204 = mX σ 204 := by rw [wX_ne (by decide), wX_ne (by decide)]
    rw [e4]
    refine ⟨by omega, hq _ (f1.tr (FrOp.x (by decide))) ⟨?_, ?_, ?_⟩⟩
    · rw [wX_ne (by decide), wX_ne (by decide), wX_self, h1]
      unfold mlA
      rw [List.map_append]
      rfl
    · rw [wX_ne (by decide), wX_self, h2]
      unfold mlB
      rw [List.map_append]
      rfl
    · rw [wX_self, h3]
      unfold mlK
      rw [List.map_append]
      rfl)
  rw [show ((k + (sgT T k e).length : Nat) : Int) = (e : Int) by rw [ll]; omega] at kk
  exact Setter_open_83.i ⟨by unfold Rg; omega, by omega, by unfold Rg; omega, by omega, kk⟩
theorem ope_in {k : Nat} {Y : List (Nat × Nat)} (hT : mX σ 3 = T) (hT4 : T.length ≤ 4000) (hk : k < T.length) (hY : Y.length < 4000) (hL : LnM σ T Y) (hq : ∀ σ', FrOp σ σ' → LnM σ' T (Y ++ [(k, k + nlN (T.drop k))]) → Setter_open_25 ((min (k + nlN (T.drop k) + 1) T.length : Nat) : Int) ((min (k + nlN (T.drop k) + 1) T.length : Nat) : Int) σ' Q) : ∀ (n i : Nat), i + n = k + nlN (T.drop k) → k ≤ i → i < T.length → Setter_open_25 (k : Int) (i : Int) σ Q := by
  obtain ⟨p1, p2, p3, p4, p5⟩ := MlP.mk hk
  intro n
  induction n with
  | zero =>
    intro i hi hki hil
    have e : i = k + nlN (T.drop k) := by omega
    refine Setter_open_25.i ⟨by unfold Rg; omega, fun h9 => absurd h9 (by rw [hT]; omega), fun _ => ⟨by unfold Rg; omega, ?_⟩⟩
    rw [hT, rgt_n hil]
    have h10 : T.getD i 0 = 10 := by
      rw [e]
      exact p5 (by omega)
    refine ⟨fun h => absurd h10 h, fun _ => Setter_open_54.i ⟨fun _ => Setter_open_72.i ⟨fun h => absurd h (by decide), fun _ => ?_⟩, fun h => absurd h (by decide)⟩⟩
    refine ope_83 hT hT4 hki (by omega) hY hL (fun σ' f l => Setter_open_120.i ?_)
    have := hq σ' f (by rw [← e]; exact l)
    rw [← e, show min (i + 1) T.length = i + 1 by omega] at this
    rw [show (i : Int) + 1 = ((i + 1 : Nat) : Int) by omega]
    exact this
  | succ n ih =>
    intro i hi hki hil
    refine Setter_open_25.i ⟨by unfold Rg; omega, fun h9 => absurd h9 (by rw [hT]; omega), fun _ => ⟨by unfold Rg; omega, ?_⟩⟩
    rw [hT, rgt_n hil]
    refine ⟨fun _ => Setter_open_54.i ⟨fun h => absurd rfl h, fun _ => ⟨by unfold Rg; omega, ?_, ?_⟩⟩, fun h => absurd h (p4 i hki (by omega))⟩
    · rw [hT]
      refine fun h => Setter_open_120.i ?_
      rw [show (i : Int) + 1 = ((i + 1 : Nat) : Int) by omega]
      exact ih (i + 1) (by omega) (by omega) (by omega)
    · rw [hT]
      refine fun h => Setter_open_72.i ⟨fun _ => ?_, fun h => absurd rfl h⟩
      have e : i + 1 = k + nlN (T.drop k) := by omega
      rw [show (i : Int) + 1 = ((i + 1 : Nat) : Int) by omega]
      refine ope_83 hT hT4 (by omega) (by omega) hY hL (fun σ' f l => Setter_open_120.i ?_)
      have := hq σ' f (by rw [← e]; exact l)
      rw [← e, show min (i + 1 + 1) T.length = i + 1 by omega] at this
      rw [show (i : Int) + 1 = ((i + 1 : Nat) : Int) by omega]
      exact this
/-- the manuscript's lines and their kinds -/
theorem ope_25 (hT : mX σ0 3 = T) (hT4 : T.length ≤ 4000) (hq : ∀ σ' l, FrOp σ0 σ' → LnM σ' T (mlL T) → Setter_open_25 l (T.length : Int) σ' Q) : ∀ (n k : Nat) (σ : MS) (Y : List (Nat × Nat)), T.length ≤ k + n → Y.length + n ≤ 4000 → k ≤ T.length → FrOp σ0 σ → LnM σ T Y → Y ++ mlF T n k = mlL T → Setter_open_25 (k : Int) (k : Int) σ Q := by
  intro n
  induction n with
  | zero =>
    intro k σ Y hk hY hkl hf hL he
    have he : Y = mlL T := by
      rw [← he]
      exact (List.append_nil _).symm
    rw [he] at hL
    have := hq σ (k : Int) hf hL
    rw [show (k : Int) = (T.length : Int) by omega] at this ⊢
    exact this
  | succ n ih =>
    intro k σ Y hk hY hkl hf hL he
    have hT1 : mX σ 3 = T := (hf.1 3 (by decide) (by decide) (by decide)).trans hT
    by_cases hke : k = T.length
    · have e : mlF T (n + 1) k = [] := if_pos (by omega)
      rw [e, List.append_nil] at he
      rw [he] at hL
      have := hq σ (k : Int) hf hL
      rw [show (k : Int) = (T.length : Int) by omega] at this ⊢
      exact this
    · have e : mlF T (n + 1) k = (k, k + nlN (T.drop k)) :: mlF T n (k + nlN (T.drop k) + 1) := if_neg (by omega)
      rw [e] at he
      have pm := MlP.mk (T := T) (k := k) (by omega)
      refine ope_in hT1 hT4 (by omega) (by omega) hL (fun σ' f l => ?_) (nlN (T.drop k)) k rfl (Nat.le_refl _) (by omega)
      refine ih _ σ' (Y ++ [(k, k + nlN (T.drop k))]) (by omega) (by rw [List.length_append]; show Y.length + 1 + n ≤ 4000; omega) (by omega) (hf.tr f) l ?_
      rw [List.append_assoc]
      by_cases h9 : k + nlN (T.drop k) + 1 ≤ T.length
      · rw [show min (k + nlN (T.drop k) + 1) T.length = k + nlN (T.drop k) + 1 by omega]
        exact he
      · have e1 : mlF T n (k + nlN (T.drop k) + 1) = [] := by
          cases n with
          | zero => rfl
          | succ n => exact if_pos (by omega)
        have e2 : mlF T n (min (k + nlN (T.drop k) + 1) T.length) = [] := by
          cases n with
          | zero => rfl
          | succ n => exact if_pos (by omega)
        rw [e2]
        rw [e1] at he
        exact he
end
