/-! TABLES: how rows are printed; the class prints a line of parts -/
def tpA (al left : Int) : Int := if al = 62 then left else if al = 94 then left / 2 else 0
def tpK (W al : Int) (T : List Int) : List Int := List.replicate (tpA al (max 0 (W - T.length))).toNat 32 ++ T ++ List.replicate (max 0 (W - T.length) - tpA al (max 0 (W - T.length))).toNat 32
def tpI (U : List Int) (X : List (Nat × Nat × Bool)) (i : Nat) : List Int := if i < X.length then sgT U (X.getD i (0, 0, false)).1 (X.getD i (0, 0, false)).2.1 else []
def tpJ (m : List Int) (f : Nat → List Int) : Nat → List Int
  | 0 => []
  | k + 1 => tpJ m f k ++ (if 1 ≤ k then m else []) ++ f k
def trB (L : List Int) : List Int := (L.reverse.dropWhile (fun c => decide (c % 128 = 32))).reverse
theorem trB_nil : trB [] = [] := rfl
theorem trB_sn {L : List Int} {c : Int} : trB (L ++ [c]) = if c % 128 = 32 then trB L else L ++ [c] := by
  unfold trB
  rw [List.reverse_append]
  show ((c :: L.reverse).dropWhile _).reverse = _
  rw [List.dropWhile_cons]
  by_cases h : c % 128 = 32
  · rw [if_pos h, decide_eq_true h, if_pos rfl]
  · rw [if_neg h, decide_eq_false h, if_neg (by decide), List.reverse_cons, List.reverse_reverse]
theorem trB_l : ∀ (n : Nat) (L : List Int), L.length = n → (trB L).length ≤ L.length
  | 0, L, h => by
    rw [List.eq_nil_of_length_eq_zero h]
    exact Nat.le_refl _
  | n + 1, L, h => by
    rcases List.eq_nil_or_concat L with e | ⟨M, c, e⟩
    · rw [e]
      exact Nat.le_refl _
    · rw [e, List.concat_eq_append] at h ⊢
      rw [List.length_append] at h
      have h : M.length + 1 = n + 1 := h
      rw [trB_sn]
      split
      · have := trB_l n M (by omega)
        rw [List.length_append]
        show _ ≤ _ + 1
        omega
      · exact Nat.le_refl _
theorem tpA_b {al left : Int} (h : 0 ≤ left) : 0 ≤ tpA al left ∧ tpA al left ≤ left := by
  unfold tpA
  split
  · omega
  · split <;> omega
theorem tpK_l {W al : Int} {T : List Int} {m : Nat} (hW : 1 ≤ W ∧ W ≤ m) (hT : T.length ≤ m) : (tpK W al T).length ≤ m := by
  have b := tpA_b (al := al) (left := max 0 (W - T.length)) (by omega)
  unfold tpK
  rw [List.length_append, List.length_append, List.length_replicate, List.length_replicate]
  omega
section
variable {σ σ0 : MS} {Q : MQ9} {D : List Int}
theorem prp_227 : ∀ (n : Nat) (L : List Int), L.length = n → D.length + L.length ≤ 131000 → Q (.inl none) (wX σ0 130 (D ++ trB L)) → Tables_printParts_227 (D.length : Int) (wX σ0 130 (D ++ L)) Q := by
  intro n
  induction n with
  | zero =>
    intro L hL hb hq
    rw [List.eq_nil_of_length_eq_zero hL] at hq ⊢
    rw [trB_nil] at hq
    refine Tables_printParts_227.i ?_
    rw [wX_self, List.append_nil]
    rw [List.append_nil] at hq
    exact ⟨fun _ => hq, fun h => absurd h (by omega)⟩
  | succ n ih =>
    intro L hL hb hq
    obtain ⟨M, c, e⟩ : ∃ M c, L = M ++ [c] := by
      rcases List.eq_nil_or_concat L with h | ⟨M, c, h⟩
      · rw [h] at hL
        cases hL
      · exact ⟨M, c, by rw [h, List.concat_eq_append]⟩
    have hM : M.length = n := by
      rw [e, List.length_append] at hL
      have hL : M.length + 1 = n + 1 := hL
      omega
    have ll : (D ++ L).length = D.length + M.length + 1 := by
      rw [e, ← List.append_assoc, List.length_append, List.length_append]
      rfl
    have e1 : ((D ++ L).length : Int) - 1 = ((D ++ M).length : Int) := by
      rw [ll, List.length_append]
      omega
    have e2 : D ++ L = (D ++ M) ++ c :: [] := by rw [e, List.append_assoc]
    refine Tables_printParts_227.i ?_
    rw [wX_self, e1]
    refine ⟨fun h => absurd h (by rw [ll]; omega), fun _ => ⟨by rw [List.length_append]; unfold Rg; omega, ?_⟩⟩
    rw [rgt_at e2, wX_wX]
    rw [e, trB_sn] at hq
    refine ⟨fun h => ?_, fun h => ⟨by rw [List.length_append]; unfold Rg; omega, ?_⟩⟩
    · rw [if_neg h, ← e] at hq
      exact hq
    · rw [if_pos h] at hq
      have e3 : rcut (D ++ L) ((D ++ M).length : Int) = D ++ M := by
        rw [e2]
        exact rcut_ap
      rw [e3]
      exact ih M hM (by omega) hq
/-- the class prints the parts i of all columns -/
theorem Tables_printParts.nn {off x0 : Nat → Nat} {U : Nat → List Int} {X : Nat → List (Nat × Nat × Bool)} {W A : List Int} {c i m : Nat} (hD : mX σ 130 = D) (hDl : D.length ≤ 100000) (hc : c ≤ 8) (h9 : mV σ 150 9 = (c : Int)) (hoff : ∀ k, k ≤ c → mV σ 162 k = (off k : Int) ∧ off k ≤ 70000) (hoX : ∀ k, k < c → off (k + 1) = off k + (X k).length) (hi : i ≤ 70000) (h112 : ∀ k j, k < c → j < (X k).length → rgt (mX σ 112) ((off k + j : Nat) : Int) = ((x0 k + ((X k).getD j (0, 0, false)).1 : Nat) : Int) ∧ rgt (mX σ 114) ((off k + j : Nat) : Int) = ((x0 k + ((X k).getD j (0, 0, false)).2.1 : Nat) : Int)) (hU : ∀ k, k < c → 0 < (X k).length → LnC σ 152 (x0 k) (U k)) (hXb : ∀ k j, k < c → j < (X k).length → ((X k).getD j (0, 0, false)).1 ≤ ((X k).getD j (0, 0, false)).2.1 ∧ ((X k).getD j (0, 0, false)).2.1 ≤ (U k).length ∧ ((X k).getD j (0, 0, false)).2.1 - ((X k).getD j (0, 0, false)).1 ≤ m) (hW : ∀ k, k < c → mV σ 161 k = W.getD k 0 ∧ 1 ≤ W.getD k 0 ∧ W.getD k 0 ≤ m) (hA : ∀ k, k < c → mV σ 160 k = A.getD k 0) (hm : m ≤ 1000) (hq : Q (.inl none) (wX σ 130 (D ++ trB (tpJ [32, 124, 32] (fun k => tpK (W.getD k 0) (A.getD k 0) (tpI (U k) (X k) i)) c)))) : Tables_printParts (i : Int) σ Q := by
  have tl : ∀ k, k < c → (tpI (U k) (X k) i).length ≤ m := fun k hk => by
    unfold tpI
    split
    · rename_i h
      have := hXb k i hk h
      rw [sgT_l this.2.1]
      omega
    · exact Nat.zero_le _
  have jl : ∀ k, k ≤ c → (tpJ [32, 124, 32] (fun k => tpK (W.getD k 0) (A.getD k 0) (tpI (U k) (X k) i)) k).length ≤ (m + 3) * k := by
    intro k
    induction k with
    | zero => intro _; exact Nat.zero_le _
    | succ k ih =>
      intro hk
      have h1 := ih (by omega)
      have h2 := tpK_l (al := A.getD k 0) (hW k (by omega)).2 (tl k (by omega))
      show (tpJ _ _ k ++ (if 1 ≤ k then [32, 124, 32] else []) ++ tpK (W.getD k 0) (A.getD k 0) (tpI (U k) (X k) i)).length ≤ (m + 3) * (k + 1)
      rw [List.length_append, List.length_append, Nat.mul_succ]
      split
      · show _ + 3 + _ ≤ _
        omega
      · show _ + 0 + _ ≤ _
        omega
  have bd : ∀ k, k ≤ c → (m + 3) * k ≤ 9000 := fun k hk => by
    have : (m + 3) * k ≤ (m + 3) * 8 := Nat.mul_le_mul_left _ (by omega)
    omega
  have key : ∀ (n k : Nat), k + n = c → Tables_printParts_19 (i : Int) (D.length : Int) (k : Int) (wX σ 130 (D ++ tpJ [32, 124, 32] (fun k => tpK (W.getD k 0) (A.getD k 0) (tpI (U k) (X k) i)) k)) Q := by
    intro n
    induction n with
    | zero =>
      intro k hk
      rw [show k = c by omega]
      have := jl c (Nat.le_refl _)
      have := bd c (Nat.le_refl _)
      exact Tables_printParts_19.i ⟨by unfold Rg; omega, fun _ => prp_227 _ _ rfl (by omega) hq, fun h => by
        have h : (c : Int) < mV σ 150 9 := h
        omega⟩
    | succ n ih =>
      intro k hk
      have hkc : k < c := by omega
      have o1 := hoff k (by omega)
      have o2 := hoff (k + 1) (by omega)
      have ox := hoX k hkc
      have wk := hW k hkc
      have ak := hA k hkc
      have l1 := jl k (by omega)
      have l2 := bd (k + 1) (by omega)
      rw [Nat.mul_succ] at l2
      have tlk := tl k hkc
      generalize hC : tpJ [32, 124, 32] (fun k => tpK (W.getD k 0) (A.getD k 0) (tpI (U k) (X k) i)) k = C at l1
      generalize hσ1 : wX σ 130 (D ++ C) = σ1
      have v1 : mV σ1 = mV σ := by rw [← hσ1]; rfl
      have x1 : ∀ q, q ≠ 130 → mX σ1 q = mX σ q := fun q h => by rw [← hσ1]; exact wX_ne h
      have y1 : mX σ1 130 = D ++ C := by rw [← hσ1]; exact wX_self
      have nxt : ∀ (a b : Int) (T : List Int), T = tpI (U k) (X k) i → (b - a = (T.length : Int)) → pourM (rgt (mX σ 152)) (b - a).toNat a = T → Rg a ∧ Rg b → Tables_printParts_104 (i : Int) (D.length : Int) (k : Int) a b σ1 Q := fun a b T hT hab hp hr => by
        have T1 : T.length ≤ m := by rw [hT]; exact tlk
        have lb := tpA_b (al := A.getD k 0) (left := max 0 (W.getD k 0 - (T.length : Int))) (by omega)
        have s187 : ∀ E9 : List Int, E9 = C ++ (if 1 ≤ k then [32, 124, 32] else []) → Tables_printParts_187 (i : Int) (D.length : Int) (k : Int) a b (max 0 (W.getD k 0 - (T.length : Int))) (tpA (A.getD k 0) (max 0 (W.getD k 0 - (T.length : Int)))) (wX σ 130 (D ++ E9)) Q := fun E9 hE => by
          have le : E9.length ≤ C.length + 3 := by
            rw [hE, List.length_append]
            split
            · exact Nat.le_refl _
            · exact Nat.le_add_right _ _
          refine Tables_printParts_187.i ?_
          rw [wX_self, wX_ne (by decide), hp, wX_wX, wX_wX, wX_wX]
          refine ⟨by rw [List.length_append]; omega, by rw [List.length_append, List.length_append, List.length_replicate]; omega, by unfold Rg; omega, by rw [List.length_append, List.length_append, List.length_append, List.length_replicate]; omega, ?_⟩
          have e9 : D ++ E9 ++ List.replicate (tpA (A.getD k 0) (max 0 (W.getD k 0 - (T.length : Int)))).toNat 32 ++ T ++ List.replicate (max 0 (W.getD k 0 - (T.length : Int)) - tpA (A.getD k 0) (max 0 (W.getD k 0 - (T.length : Int)))).toNat 32 = D ++ tpJ [32, 124, 32] (fun k => tpK (W.getD k 0) (A.getD k 0) (tpI (U k) (X k) i)) (k + 1) := by
            show _ = D ++ (tpJ [32, 124, 32] (fun k => tpK (W.getD k 0) (A.getD k 0) (tpI (U k) (X k) i)) k ++ (if 1 ≤ k then [32, 124, 32] else []) ++ tpK (W.getD k 0) (A.getD k 0) (tpI (U k) (X k) i))
            rw [hC, ← hE, ← hT]
            unfold tpK
            rw [List.append_assoc D E9, List.append_assoc D, List.append_assoc D, List.append_assoc E9, List.append_assoc E9]
          rw [e9, show (k : Int) + 1 = ((k + 1 : Nat) : Int) by omega]
          exact ih (k + 1) (by omega)
        have s162 : Tables_printParts_162 (i : Int) (D.length : Int) (k : Int) a b (max 0 (W.getD k 0 - (T.length : Int))) (tpA (A.getD k 0) (max 0 (W.getD k 0 - (T.length : Int)))) σ1 Q := by
          refine Tables_printParts_162.i ⟨by unfold Rg; omega, fun h => ?_, fun h => ?_⟩
          · rw [← hσ1]
            exact s187 C (by rw [if_neg (by omega), List.append_nil])
          · rw [y1]
            refine ⟨by rw [List.length_append]; omega, by rw [List.length_append, List.length_append]; show _ + 1 < _; omega, by rw [List.length_append, List.length_append, List.length_append]; show _ + 1 + 1 < _; omega, ?_⟩
            rw [wX_wX, wX_wX, ← hσ1, wX_wX, List.append_assoc (D ++ C), List.append_assoc (D ++ C), List.append_assoc D C]
            exact s187 (C ++ ([32] ++ ([124] ++ [32]))) (by rw [if_pos (by omega)]; rfl)
        refine Tables_printParts_104.i ?_
        rw [Int.toNat_natCast, v1, wk.1, ak, hab]
        refine ⟨by omega, by omega, by unfold Rg; omega, by omega, by omega, fun h1 => ⟨by omega, by omega, fun h2 => ?_, fun h2 => ⟨by decide, ?_⟩⟩, fun h1 => ?_⟩
        · have e : tpA (A.getD k 0) (max 0 (W.getD k 0 - (T.length : Int))) = 0 := by
            unfold tpA
            rw [if_neg h1, if_neg h2]
          rw [e] at s162
          exact s162
        · have e : tpA (A.getD k 0) (max 0 (W.getD k 0 - (T.length : Int))) = Int.tdiv (max 0 (W.getD k 0 - (T.length : Int))) 2 := by
            unfold tpA
            rw [if_neg h1, if_pos h2, Int.tdiv_eq_ediv_of_nonneg (by omega)]
          rw [e] at s162
          exact s162
        · have e : tpA (A.getD k 0) (max 0 (W.getD k 0 - (T.length : Int))) = max 0 (W.getD k 0 - (T.length : Int)) := by
            unfold tpA
            rw [if_pos h1]
          rw [e] at s162
          exact s162
      refine Tables_printParts_19.i ⟨by unfold Rg; omega, fun h => absurd h (by rw [v1]; omega), fun _ => ⟨by omega, by omega, by omega, by omega, ?_⟩⟩
      rw [v1, show ((k : Int) + 1).toNat = k + 1 by omega, Int.toNat_natCast, o1.1, o2.1]
      refine ⟨by unfold Rg; omega, fun h => Tables_printParts_58.i ⟨fun _ => Tables_printParts_81.i ⟨fun _ => nxt 0 0 [] ?_ rfl rfl ⟨by decide, by decide⟩, fun h9 => absurd rfl h9⟩, fun h9 => absurd rfl h9⟩, fun h => ?_⟩
      · unfold tpI
        rw [if_neg (by omega)]
      · have hix : i < (X k).length := by omega
        have g := h112 k i hkc hix
        have xb := hXb k i hkc hix
        have lnc := hU k hkc (by omega)
        have l0 := lnc.2.1
        have eo : (off k : Int) + (i : Int) = ((off k + i : Nat) : Int) := by omega
        have eT : tpI (U k) (X k) i = sgT (U k) ((X k).getD i (0, 0, false)).1 ((X k).getD i (0, 0, false)).2.1 := by
          unfold tpI
          rw [if_pos hix]
        refine Tables_printParts_58.i ⟨fun h9 => absurd h9 (by decide), fun _ => ⟨by unfold Rg; omega, ?_⟩⟩
        refine Tables_printParts_81.i ⟨fun h9 => absurd h9 (by decide), fun _ => ⟨by unfold Rg; omega, ?_⟩⟩
        rw [x1 112 (by decide), x1 114 (by decide), eo, g.1, g.2]
        refine nxt _ _ _ rfl ?_ ?_ ⟨by unfold Rg; omega, by unfold Rg; omega⟩
        · rw [eT, sgT_l xb.2.1]
          omega
        · rw [eT, show (((x0 k + ((X k).getD i (0, 0, false)).2.1 : Nat) : Int) - ((x0 k + ((X k).getD i (0, 0, false)).1 : Nat) : Int)).toNat = ((X k).getD i (0, 0, false)).2.1 - ((X k).getD i (0, 0, false)).1 by omega]
          exact lnc.pour xb.1 xb.2.1
  refine Tables_printParts.i ?_
  rw [hD]
  have := key c 0 (by omega)
  rw [show tpJ [32, 124, 32] (fun k => tpK (W.getD k 0) (A.getD k 0) (tpI (U k) (X k) i)) 0 = [] from rfl, List.append_nil, ← hD, wX_id] at this
  rw [hD] at this
  exact this
end
