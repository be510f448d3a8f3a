/-! LINES OF THE MANUSCRIPT: the document, the reference -/
def nlN : List Int → Nat
  | [] => 0
  | c :: r => if c = 10 then 0 else nlN r + 1
def mlF (T : List Int) : Nat → Nat → List (Nat × Nat)
  | 0, _ => []
  | n + 1, k => if T.length ≤ k then [] else (k, k + nlN (T.drop k)) :: mlF T n (k + nlN (T.drop k) + 1)
def mlL (T : List Int) : List (Nat × Nat) := mlF T T.length 0
theorem nlN_p : ∀ (r : List Int), nlN r ≤ r.length ∧ (∀ j, j < nlN r → ¬ r.getD j 0 = 10) ∧ (nlN r < r.length → r.getD (nlN r) 0 = 10)
  | [] => ⟨Nat.le_refl _, fun j h => absurd h (Nat.not_lt_zero _), fun h => absurd h (Nat.not_lt_zero _)⟩
  | c :: r => by
    have ih := nlN_p r
    by_cases h : c = 10
    · have e : nlN (c :: r) = 0 := if_pos h
      rw [e]
      exact ⟨Nat.zero_le _, fun j hj => absurd hj (Nat.not_lt_zero _), fun _ => h⟩
    · have e : nlN (c :: r) = nlN r + 1 := if_neg h
      rw [e, List.length_cons]
      refine ⟨by omega, fun j hj => ?_, fun hl => ih.2.2 (by omega)⟩
      cases j with
      | zero => exact h
      | succ j => exact ih.2.1 j (by omega)
/-- a line from s to e -/
def MlP (T : List Int) (s e : Nat) : Prop := s ≤ e ∧ e ≤ T.length ∧ s < T.length ∧ (∀ j, s ≤ j → j < e → ¬ T.getD j 0 = 10) ∧ (e < T.length → T.getD e 0 = 10)
theorem MlP.mk {T : List Int} {k : Nat} (h : k < T.length) : MlP T k (k + nlN (T.drop k)) := by
  have p := nlN_p (T.drop k)
  rw [List.length_drop] at p
  have g : ∀ j, (T.drop k).getD j 0 = T.getD (k + j) 0 := fun j => by
    unfold List.getD
    rw [List.getElem?_drop]
  refine ⟨by omega, by omega, h, fun j a b => ?_, fun hl => ?_⟩
  · have := p.2.1 (j - k) (by omega)
    rw [g, show k + (j - k) = j by omega] at this
    exact this
  · have := p.2.2 (by omega)
    rw [g] at this
    exact this
theorem mlF_p {T : List Int} : ∀ (n k : Nat), T.length ≤ k + n → ∀ i, i < (mlF T n k).length → MlP T ((mlF T n k).getD i (0, 0)).1 ((mlF T n k).getD i (0, 0)).2 ∧ (i + 1 < (mlF T n k).length → ((mlF T n k).getD (i + 1) (0, 0)).1 = ((mlF T n k).getD i (0, 0)).2 + 1) ∧ (i + 1 = (mlF T n k).length → T.length ≤ ((mlF T n k).getD i (0, 0)).2 + 1) ∧ (i = 0 → ((mlF T n k).getD i (0, 0)).1 = k)
  | 0, k, _, i, hi => absurd hi (Nat.not_lt_zero _)
  | n + 1, k, h, i, hi => by
    by_cases hk : T.length ≤ k
    · have e : mlF T (n + 1) k = [] := if_pos hk
      rw [e] at hi
      exact absurd hi (Nat.not_lt_zero _)
    · have e : mlF T (n + 1) k = (k, k + nlN (T.drop k)) :: mlF T n (k + nlN (T.drop k) + 1) := if_neg hk
      rw [e] at hi ⊢
      have ih := mlF_p (T := T) n (k + nlN (T.drop k) + 1) (by omega)
      have hm := MlP.mk (T := T) (k := k) (by omega)
      cases i with
      | zero =>
        refine ⟨hm, fun h1 => ?_, fun h1 => ?_, fun _ => rfl⟩
        · rw [List.length_cons] at h1
          exact (ih 0 (by omega)).2.2.2 rfl
        · rw [List.length_cons] at h1
          show T.length ≤ k + nlN (T.drop k) + 1
          by_cases h2 : T.length ≤ k + nlN (T.drop k) + 1
          · exact h2
          · cases n with
            | zero => omega
            | succ n =>
              have e2 : mlF T (n + 1) (k + nlN (T.drop k) + 1) = (k + nlN (T.drop k) + 1, k + nlN (T.drop k) + 1 + nlN (T.drop (k + nlN (T.drop k) + 1))) :: mlF T n (k + nlN (T.drop k) + 1 + nlN (T.drop (k + nlN (T.drop k) + 1)) + 1) := if_neg h2
              rw [e2, List.length_cons] at h1
              omega
      | succ i =>
        rw [List.length_cons] at hi
        have := ih i (by omega)
        refine ⟨this.1, fun h1 => this.2.1 (by rw [List.length_cons] at h1; omega), fun h1 => this.2.2.1 (by rw [List.length_cons] at h1; omega), fun h9 => by omega⟩
theorem mlF_l {T : List Int} : ∀ (n k : Nat), (mlF T n k).length ≤ n
  | 0, _ => Nat.le_refl _
  | n + 1, k => by
    by_cases hk : T.length ≤ k
    · have e : mlF T (n + 1) k = [] := if_pos hk
      rw [e]
      exact Nat.zero_le _
    · have e : mlF T (n + 1) k = (k, k + nlN (T.drop k)) :: mlF T n (k + nlN (T.drop k) + 1) := if_neg hk
      rw [e, List.length_cons]
      exact Nat.succ_le_succ (mlF_l n _)
section
variable {σ σ0 : MS} {Q : MQ9} {T : List Int}
/-- the lines are known -/
def LaS (σ : MS) (X : List (Nat × Nat)) : Prop := mV σ 246 12 = (X.length : Int) ∧ ∀ i, i < X.length → mV σ 253 i = ((X.getD i (0, 0)).1 : Int)
theorem spl_35 (h10 : mV σ 246 10 = (T.length : Int)) (hT4 : T.length ≤ 4000) (hT : hol σ 252 T) {k : Nat} (hk : k < T.length) (hq : R_splits_60 ((k + nlN (T.drop k) : Nat) : Int) σ Q) : ∀ (n j : Nat), j + n = k + nlN (T.drop k) → k ≤ j → R_splits_35 (j : Int) σ Q := by
  obtain ⟨p1, p2, p3, p4, p5⟩ := MlP.mk hk
  intro n
  induction n with
  | zero =>
    intro j hj hkj
    have e : j = k + nlN (T.drop k) := by omega
    rw [e]
    refine R_splits_35.i ⟨by unfold Rg; omega, fun _ => hq, fun h9 => ⟨by omega, by omega, ?_⟩⟩
    rw [Int.toNat_natCast, hT _ (by omega), p5 (by omega)]
    exact ⟨fun _ => hq, fun h => absurd rfl h⟩
  | succ n ih =>
    intro j hj hkj
    refine R_splits_35.i ⟨by unfold Rg; omega, fun h9 => absurd h9 (by omega), fun h9 => ⟨by omega, by omega, ?_⟩⟩
    rw [Int.toNat_natCast, hT _ (by omega)]
    refine ⟨fun h => absurd h (p4 j hkj (by omega)), fun _ => ?_⟩
    rw [show (j : Int) + 1 = ((j + 1 : Nat) : Int) by omega]
    exact ih (j + 1) (by omega) (by omega)
theorem R_splits.p (h10 : mV σ0 246 10 = (T.length : Int)) (hT4 : T.length ≤ 4000) (hT : hol σ0 252 T) (hq : ∀ σ', FrZ [253] [12] σ0 σ' → LaS σ' (mlL T) → Q (.inl none) σ') : R_splits σ0 Q := by
  have key : ∀ (n k : Nat) (σ : MS) (Y : List (Nat × Nat)), T.length ≤ k + n → Y.length + n ≤ 4000 → FrZ [253] [12] σ0 σ → LaS σ Y → Y ++ mlF T n k = mlL T → k ≤ T.length + 1 → R_splits_7 (k : Int) σ Q := by
    intro n
    induction n with
    | zero =>
      intro k σ Y hk hY hf hL he hk1
      have e10 := (hf.f (k := 10) (by decide) (by decide)).trans h10
      have e12 := hL.1
      have he : Y = mlL T := by
        rw [← he]
        exact (List.append_nil _).symm
      refine R_splits_7.i ⟨by unfold Rg; omega, fun _ => ?_, fun h9 => absurd h9 (by omega)⟩
      rw [e12, Int.toNat_natCast]
      refine ⟨by omega, by omega, by unfold Rg; omega, hq _ (hf.tr (FrZ.wz (by decide))) ?_⟩
      rw [← he]
      exact ⟨(wV_ne (Or.inl (by decide))).trans e12, fun i hi => (wV_ne (Or.inr (by omega))).trans (hL.2 i hi)⟩
    | succ n ih =>
      intro k σ Y hk hY hf hL he hk1
      have e10 := (hf.f (k := 10) (by decide) (by decide)).trans h10
      have e12 := hL.1
      refine R_splits_7.i ⟨by unfold Rg; omega, fun h9 => ?_, fun h9 => ?_⟩
      · have hY : Y = mlL T := by
          rw [← he]
          have e : mlF T (n + 1) k = [] := if_pos (by omega)
          rw [e, List.append_nil]
        rw [e12, Int.toNat_natCast]
        refine ⟨by omega, by omega, by unfold Rg; omega, hq _ (hf.tr (FrZ.wz (by decide))) ?_⟩
        rw [← hY]
        exact ⟨(wV_ne (Or.inl (by decide))).trans e12, fun i hi => (wV_ne (Or.inr (by omega))).trans (hL.2 i hi)⟩
      · have hkl : k < T.length := by omega
        have e : mlF T (n + 1) k = (k, k + nlN (T.drop k)) :: mlF T n (k + nlN (T.drop k) + 1) := if_neg (by omega)
        rw [e] at he
        have pm := MlP.mk hkl
        rw [e12, Int.toNat_natCast]
        refine ⟨by omega, by omega, by unfold Rg; omega, by unfold Rg; omega, ?_⟩
        have f1 : FrZ [253] [12] σ (wV (wV σ 253 Y.length (k : Int)) 246 12 ((Y.length : Int) + 1)) := (FrZ.wz (by decide)).tr (FrZ.wf (by decide))
        refine spl_35 ((f1.f (by decide) (by decide)).trans e10) hT4 (fun i hi => (f1.z (by decide) (by decide)).trans ((hf.z (by decide) (by decide)).trans (hT i hi))) hkl (R_splits_60.i ?_) (nlN (T.drop k)) k rfl (Nat.le_refl _)
        rw [show ((k + nlN (T.drop k) : Nat) : Int) + 1 = ((k + nlN (T.drop k) + 1 : Nat) : Int) by omega]
        refine ih _ _ (Y ++ [(k, k + nlN (T.drop k))]) (by omega) (by rw [List.length_append]; show Y.length + 1 + n ≤ 4000; omega) (hf.tr f1) ⟨?_, fun i hi => ?_⟩ (by rw [List.append_assoc]; exact he) (by have := pm.2.1; omega)
        · rw [wV_self, List.length_append]
          rfl
        · rw [List.length_append] at hi
          have hi : i < Y.length + 1 := hi
          by_cases h8 : i < Y.length
          · have eg : (Y ++ [(k, k + nlN (T.drop k))]).getD i (0, 0) = Y.getD i (0, 0) := by
              unfold List.getD
              rw [List.getElem?_append_left h8]
            rw [eg, wV_ne (Or.inl (by decide)), wV_ne (Or.inr (by omega))]
            exact hL.2 i h8
          · have ei : i = Y.length := by omega
            have eg : (Y ++ [(k, k + nlN (T.drop k))]).getD i (0, 0) = (k, k + nlN (T.drop k)) := by
              unfold List.getD
              rw [List.getElem?_append_right (by omega), ei, Nat.sub_self]
              rfl
            rw [eg, ei, wV_ne (Or.inl (by decide)), wV_self]
  have f0 : FrZ [253] [12] σ0 (wV σ0 246 12 0) := FrZ.wf (by decide)
  exact R_splits.i (key T.length 0 _ [] (by omega) (by show 0 + _ ≤ _; omega) f0 ⟨wV_self, fun i hi => absurd hi (Nat.not_lt_zero _)⟩ rfl (by omega))
theorem R_lineEnd.p {i : Nat} (h10 : mV σ 246 10 = (T.length : Int)) (hT4 : T.length ≤ 4000) (hT : hol σ 252 T) (hL : LaS σ (mlL T)) (hi : i < (mlL T).length) (hq : Q (.inl (some (((mlL T).getD i (0, 0)).2 : Int))) σ) : R_lineEnd (i : Int) σ Q := by
  have p := mlF_p (T := T) T.length 0 (by omega) i hi
  obtain ⟨⟨p1, p2, p3, p4, p5⟩, p6, p7, -⟩ := p
  have ml := mlF_l (T := T) T.length 0
  have hl : (mlL T).length ≤ 4000 := Nat.le_trans ml hT4
  have e12 := hL.1
  have e253 := hL.2 i hi
  have p6 : i + 1 < (mlL T).length → ((mlL T).getD (i + 1) (0, 0)).1 = ((mlL T).getD i (0, 0)).2 + 1 := p6
  have p7 : i + 1 = (mlL T).length → T.length ≤ ((mlL T).getD i (0, 0)).2 + 1 := p7
  have p1 : ((mlL T).getD i (0, 0)).1 ≤ ((mlL T).getD i (0, 0)).2 := p1
  have p2 : ((mlL T).getD i (0, 0)).2 ≤ T.length := p2
  have p3 : ((mlL T).getD i (0, 0)).1 < T.length := p3
  have p4 : ∀ j, ((mlL T).getD i (0, 0)).1 ≤ j → j < ((mlL T).getD i (0, 0)).2 → ¬ T.getD j 0 = 10 := p4
  have p5 : ((mlL T).getD i (0, 0)).2 < T.length → T.getD ((mlL T).getD i (0, 0)).2 0 = 10 := p5
  refine R_lineEnd.i ⟨by unfold Rg; omega, fun h9 => ?_, fun h9 => ⟨by omega, by omega, ?_⟩⟩
  · rw [h10]
    refine R_lineEnd_27.i ⟨by omega, by omega, by unfold Rg; omega, ?_, ?_⟩
    · rw [Int.toNat_natCast, e253]
      exact fun h => absurd h (by omega)
    · rw [Int.toNat_natCast, e253, h10]
      refine fun _ => ⟨by unfold Rg; omega, fun h => absurd rfl h, fun _ => ⟨by omega, by omega, ?_⟩⟩
      rw [show ((T.length : Int) - 1).toNat = T.length - 1 by omega, hT _ (by omega)]
      by_cases he : ((mlL T).getD i (0, 0)).2 = T.length
      · rw [he] at hq
        exact ⟨fun _ => ⟨by unfold Rg; omega, hq⟩, fun h => absurd h (p4 _ (by omega) (by omega))⟩
      · have h2 : ((mlL T).getD i (0, 0)).2 = T.length - 1 := by
          have := p7 (by omega)
          omega
        have h5 := p5 (by omega)
        rw [h2] at h5
        rw [h2, show ((T.length - 1 : Nat) : Int) = (T.length : Int) - 1 by omega] at hq
        exact ⟨fun h => absurd h5 h, fun _ => ⟨by unfold Rg; omega, hq⟩⟩
  · have e2 := hL.2 (i + 1) (by omega)
    have n1 := p6 (by omega)
    have pn := (mlF_p (T := T) T.length 0 (by omega) (i + 1) (show i + 1 < (mlL T).length by omega)).1.2.2.1
    have pn : ((mlL T).getD (i + 1) (0, 0)).1 < T.length := pn
    rw [show ((i : Int) + 1).toNat = i + 1 by omega, e2, n1, show (((((mlL T).getD i (0, 0)).2 + 1 : Nat) : Int)) - 1 = (((mlL T).getD i (0, 0)).2 : Int) by omega]
    refine R_lineEnd_27.i ⟨by omega, by omega, by unfold Rg; omega, fun _ => ⟨by unfold Rg; omega, hq⟩, fun _ => ⟨by unfold Rg; omega, fun _ => ⟨by unfold Rg; omega, hq⟩, ?_⟩⟩
    rw [h10]
    exact fun h => absurd h (by omega)
end
