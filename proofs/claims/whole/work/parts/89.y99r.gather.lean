/-! THE TEXT OF A BLOCK: the class gathers it; in the source it stands as it is -/
theorem sgT_ap {T : List Int} {a b c : Nat} (hab : a ≤ b) (hbc : b ≤ c) (hc : c ≤ T.length) : sgT T a c = sgT T a b ++ sgT T b c := by
  unfold sgT
  have h1 : T.drop b = (T.drop a).drop (b - a) := by rw [List.drop_drop, show a + (b - a) = b by omega]
  rw [h1, show c - a = (b - a) + (c - b) by omega, List.take_add]
theorem tpT_n {U : List Int} (h : ∀ x ∈ U, ¬ x = 10) : tpT U = U := by
  unfold tpT
  refine (List.map_congr_left (fun x hx => if_neg (h x hx))).trans (List.map_id' U)
theorem tpT_ap {A B : List Int} : tpT (A ++ B) = tpT A ++ tpT B := List.map_append ..
theorem sgT_no {T : List Int} {s e a : Nat} (h : MlP T s e) (ha : s ≤ a) : ∀ x ∈ sgT T a e, ¬ x = 10 := fun x hx => by
  obtain ⟨i, hi, e1⟩ := List.mem_iff_getElem.mp hx
  have hl := sgT_l (U := T) (a := a) h.2.1
  have := h.2.2.2.1 (a + i) (by omega) (by omega)
  intro h10
  apply this
  have e2 : (sgT T a e).getD i 0 = T.getD (a + i) 0 := by
    unfold sgT
    exact sgT_at (by omega)
  rw [← e2]
  unfold List.getD
  rw [List.getElem?_eq_getElem hi, Option.getD_some, e1]
  exact h10
section
variable {σ : MS} {Q : MQ9} {T : List Int}
theorem ml_p {i : Nat} (hi : i < (mlL T).length) : MlP T ((mlL T).getD i (0, 0)).1 ((mlL T).getD i (0, 0)).2 ∧ (i + 1 < (mlL T).length → ((mlL T).getD (i + 1) (0, 0)).1 = ((mlL T).getD i (0, 0)).2 + 1) := by
  have := mlF_p (T := T) T.length 0 (by omega) i hi
  exact ⟨this.1, this.2.1⟩
/-- where a block's text ends rises -/
theorem ml_mo {i : Nat} : ∀ {j : Nat}, i ≤ j → j < (mlL T).length → ((mlL T).getD i (0, 0)).2 ≤ ((mlL T).getD j (0, 0)).2
  | 0, h, _ => by rw [show i = 0 by omega]; exact Nat.le_refl _
  | j + 1, h, hj => by
    by_cases e : i = j + 1
    · rw [e]
      exact Nat.le_refl _
    · have ih := ml_mo (i := i) (j := j) (by omega) (by omega)
      have n1 := (ml_p (T := T) (i := j) (by omega)).2 hj
      have p1 := (ml_p (T := T) (i := j + 1) hj).1.1
      omega
/-- one more line of a text -/
theorem ml_next {a i : Nat} (hi : i + 1 < (mlL T).length) (ha : a ≤ ((mlL T).getD i (0, 0)).2) : tpT (sgT T a ((mlL T).getD i (0, 0)).2) ++ [32] ++ sgT T ((mlL T).getD (i + 1) (0, 0)).1 ((mlL T).getD (i + 1) (0, 0)).2 = tpT (sgT T a ((mlL T).getD (i + 1) (0, 0)).2) := by
  obtain ⟨p1, n1⟩ := ml_p (T := T) (i := i) (by omega)
  have n1 := n1 hi
  have p2 := (ml_p (T := T) (i := i + 1) hi).1
  have e10 : T.getD ((mlL T).getD i (0, 0)).2 0 = 10 := p1.2.2.2.2 (by have := p2.2.2.1; omega)
  rw [sgT_ap (b := ((mlL T).getD i (0, 0)).2) (c := ((mlL T).getD (i + 1) (0, 0)).2) ha (by have := p2.1; omega) p2.2.1, tpT_ap, List.append_assoc]
  congr 1
  rw [sgT_c (U := T) (k := ((mlL T).getD i (0, 0)).2) (by have := p2.1; omega) p2.2.1, e10, ← n1]
  show [32] ++ _ = (if (10 : Int) = 10 then 32 else 10) :: tpT _
  rw [if_pos rfl, tpT_n (sgT_no p2 (Nat.le_refl _))]
  rfl
theorem mlA_at {X : List (Nat × Nat)} {i : Nat} (hi : i < X.length) {Z : List Int} (f : Nat × Nat → Int) (hZ : Z = X.map f) : rgt Z (i : Int) = f (X.getD i (0, 0)) := by
  rw [hZ, rgt_n (by rw [List.length_map]; exact hi)]
  unfold List.getD
  rw [List.getElem?_map, List.getElem?_eq_getElem hi]
  rfl
theorem Setter_gather.c {at9 nx sk : Nat} (hT : mX σ 3 = T) (hT4 : T.length ≤ 4000) (hL : LnM σ T (mlL T)) (h1 : at9 < nx) (h2 : nx ≤ (mlL T).length) (hsk : ((mlL T).getD at9 (0, 0)).1 + sk ≤ ((mlL T).getD at9 (0, 0)).2) (hq : Q (.inl none) (wX σ 206 (tpT (sgT T (((mlL T).getD at9 (0, 0)).1 + sk) ((mlL T).getD (nx - 1) (0, 0)).2)))) : Setter_gather (at9 : Int) (nx : Int) (sk : Int) σ Q := by
  have ml := mlF_l (T := T) T.length 0
  have hl : (mlL T).length ≤ 4000 := Nat.le_trans ml hT4
  have ln : ∀ Z : List Int, LnC (wX σ 206 Z) 3 0 T := fun Z => ⟨by decide, by omega, fun t ht => by
    rw [wX_ne (by decide), hT, show ((0 : Nat) : Int) + (t : Int) = (t : Int) by omega]
    exact rgt_n ht⟩
  have line : ∀ (k a : Nat) (Z : List Int) (s3 : Int), at9 ≤ k → k < nx → a ≤ ((mlL T).getD k (0, 0)).2 → (a : Int) = (((mlL T).getD k (0, 0)).1 : Int) + s3 → Z.length ≤ 8000 → Setter_gather_10 (at9 : Int) (nx : Int) (sk : Int) ((k : Int) + 1) (wX σ 206 (Z ++ sgT T a ((mlL T).getD k (0, 0)).2)) Q → Setter_gather_59 (at9 : Int) (nx : Int) (sk : Int) (k : Int) (((mlL T).getD k (0, 0)).1 : Int) s3 (wX σ 206 Z) Q := fun k a Z s3 ha hk hae hs3 hZ hc => by
    have p := (ml_p (T := T) (i := k) (by omega)).1
    have p2 := p.2.1
    have r2 : rgt (mX (wX σ 206 Z) 202) (k : Int) = (((mlL T).getD k (0, 0)).2 : Int) := by
      rw [wX_ne (by decide)]
      exact mlA_at (by omega) _ hL.2.1
    have pe := (ln Z).pour hae p2
    rw [Nat.zero_add] at pe
    refine Setter_gather_59.i ⟨by unfold Rg; omega, by unfold Rg; omega, ?_⟩
    rw [r2, ← hs3, wX_self, show ((((mlL T).getD k (0, 0)).2 : Int) - (a : Int)).toNat = ((mlL T).getD k (0, 0)).2 - a by omega, pe, wX_wX]
    exact ⟨by omega, hc⟩
  have r1 : ∀ (Z : List Int) (k : Nat), k < (mlL T).length → rgt (mX (wX σ 206 Z) 200) (k : Int) = (((mlL T).getD k (0, 0)).1 : Int) := fun Z k hk => by
    rw [wX_ne (by decide)]
    exact mlA_at hk _ hL.1
  have key : ∀ (n k : Nat), k + n + 1 = nx → at9 ≤ k → Setter_gather_10 (at9 : Int) (nx : Int) (sk : Int) ((k : Int) + 1) (wX σ 206 (tpT (sgT T (((mlL T).getD at9 (0, 0)).1 + sk) ((mlL T).getD k (0, 0)).2))) Q := by
    intro n
    induction n with
    | zero =>
      intro k hk ha
      rw [show nx - 1 = k by omega] at hq
      exact Setter_gather_10.i ⟨by unfold Rg; omega, by unfold Rg; omega, fun _ => hq, fun h => absurd h (by omega)⟩
    | succ n ih =>
      intro k hk ha
      have mo := ml_mo (T := T) ha (by omega)
      have p := (ml_p (T := T) (i := k + 1) (by omega)).1
      have pk := (ml_p (T := T) (i := k) (by omega)).1
      have lt : (tpT (sgT T (((mlL T).getD at9 (0, 0)).1 + sk) ((mlL T).getD k (0, 0)).2)).length ≤ 4000 := by
        rw [tpT_len, sgT_l pk.2.1]
        have := pk.2.1
        omega
      refine Setter_gather_10.i ⟨by unfold Rg; omega, by unfold Rg; omega, fun h => absurd h (by omega), fun _ => ⟨by unfold Rg; omega, by unfold Rg; omega, fun h => absurd h (by omega), fun _ => ?_⟩⟩
      rw [wX_self, wX_wX]
      refine ⟨by omega, ?_⟩
      rw [show (k : Int) + 1 = ((k + 1 : Nat) : Int) by omega]
      refine Setter_gather_31.i ⟨by unfold Rg; omega, by unfold Rg; omega, by unfold Rg; omega, ?_, fun h => absurd h (by omega)⟩
      rw [r1 _ _ (by omega)]
      refine fun _ => line (k + 1) ((mlL T).getD (k + 1) (0, 0)).1 _ 0 (by omega) (by omega) p.1 (by omega) (by rw [List.length_append]; show _ + 1 ≤ _; omega) ?_
      rw [ml_next (by omega) (by omega)]
      exact ih (k + 1) (by omega) (by omega)
  have p0 := (ml_p (T := T) (i := at9) (by omega)).1
  refine Setter_gather.i (Setter_gather_10.i ⟨by unfold Rg; omega, by unfold Rg; omega, fun h => absurd h (by omega), fun _ => ⟨by unfold Rg; omega, by unfold Rg; omega, fun _ => ?_, fun h => absurd h (by omega)⟩⟩)
  refine Setter_gather_31.i ⟨by unfold Rg; omega, by unfold Rg; omega, by unfold Rg; omega, fun h => absurd rfl h, ?_⟩
  rw [r1 _ _ (by omega)]
  refine fun _ => line at9 (((mlL T).getD at9 (0, 0)).1 + sk) [] (sk : Int) (Nat.le_refl _) h1 hsk (by omega) (Nat.zero_le _) ?_
  have k9 := key (nx - 1 - at9) at9 (by omega) (Nat.le_refl _)
  rw [tpT_n (sgT_no p0 (by omega))] at k9
  exact k9
/-- in the source -/
theorem SgR.src {a e : Nat} (hT : hol σ 252 T) (hT4 : T.length ≤ 4000) (hae : a ≤ e) (he : e ≤ T.length) : SgR σ a (tpT (sgT T a e)) := by
  have l := sgT_l (U := T) (a := a) he
  refine ⟨by rw [tpT_len, l]; omega, fun t ht => ?_⟩
  rw [tpT_len, l] at ht
  have e2 : (sgT T a e).getD t 0 = T.getD (a + t) 0 := by
    unfold sgT
    exact sgT_at (by omega)
  rw [hT (a + t) (by omega), tpT_at (by omega), e2]
end
