/-! TABLES: points of all cells, the reference -/
/-- cells with their points -/
def CpR (σ : MS) (H : HY9) (C : List (List Int)) (n : Nat) : Prop := ∀ j, j < C.length → ∃ a b, TmP (C.getD j []) a b ∧ mV σ 342 j = ((suM (C.take j) + a : Nat) : Int) ∧ mV σ 343 j = ((suM (C.take j) + b : Nat) : Int) ∧ hoG σ 254 255 (suM (C.take j)) (C.getD j []) ∧ (j < n → ∀ t, t < b - a → mV σ 256 (suM (C.take j) + a + t) = ptD H (sgT (C.getD j []) a b) t)
theorem suM_tk2 {C : List (List Int)} {i j : Nat} (h : i < j) (hj : j ≤ C.length) : suM (C.take i) + (C.getD i []).length ≤ suM (C.take j) := by
  have s := suM_tk (W := C.take j) (i := i) (by rw [List.length_take]; omega)
  have e : (C.take j).getD i [] = C.getD i [] := by
    unfold List.getD
    rw [List.getElem?_take_of_lt h]
  rw [List.take_take, Nat.min_eq_left (by omega), e] at s
  exact s
section
variable {σ σ0 : MS} {Q : MQ9} {H : HY9} {C : List (List Int)}
theorem trr_311 {l4 l5 : Int} (hok : ∀ u ∈ C, okK u) (hsu : suM C ≤ 65000) (hCl : C.length ≤ 4100) (hb : HyB H.2.1 H.2.2.1 H.2.2.2.1 H.2.2.2.2) (hHy : HyR σ0 H.2.1 H.2.2.1 H.2.2.2.1 H.2.2.2.2) (hq : ∀ σ', FrZ [256, 348] [] σ0 σ' → CpR σ' (false, H.2) C C.length → R_table_351 l4 l5 (mV σ' 246 99) 0 σ' Q) : ∀ (n j : Nat) (σ : MS), j + n = C.length → FrZ [256, 348] [] σ0 σ → CpR σ (false, H.2) C j → R_table_311 (C.length : Int) l4 l5 (j : Int) σ Q := by
  intro n
  induction n with
  | zero =>
    intro j σ hj hf hC
    rw [show j = C.length by omega] at hC ⊢
    exact R_table_311.i ⟨by unfold Rg; omega, by unfold Rg; omega, fun _ => hq σ hf hC, fun h => absurd h (by omega)⟩
  | succ n ih =>
    intro j σ hj hf hC
    obtain ⟨a, b, q1, q2, q3, q4, -⟩ := hC j (by omega)
    have sm := suM_tk (W := C) (i := j) (by omega)
    have q11 := q1.1
    have q12 := q1.2.1
    have hm : C.getD j [] ∈ C := by
      unfold List.getD
      rw [List.getElem?_eq_getElem (by omega), Option.getD_some]
      exact List.getElem_mem _
    have lS : (sgT (C.getD j []) a b).length = b - a := sgT_l q12
    have okS : okK (sgT (C.getD j []) a b) := fun x hx => hok _ hm x (List.mem_of_mem_drop (List.mem_of_mem_take hx))
    have hG : hoG σ 254 255 (suM (C.take j) + a) (sgT (C.getD j []) a b) := fun i hi => by
      have e := q4 (a + i) (by omega)
      have e2 : (sgT (C.getD j []) a b).getD i 0 = (C.getD j []).getD (a + i) 0 := by
        unfold sgT
        exact sgT_at (by omega)
      rw [e2, Nat.add_assoc]
      exact e
    refine R_table_311.i ⟨by unfold Rg; omega, by unfold Rg; omega, fun h => absurd h (by omega), fun _ => ⟨by omega, by omega, by omega, by omega, ?_⟩⟩
    rw [Int.toNat_natCast, q2, q3]
    have rp := R_points.p (σ := σ) (H := (false, H.2)) (u := suM (C.take j) + a) (L := sgT (C.getD j []) a b) (Q := kV (thQ Q) fun σ1 => R_table_311 (C.length : Int) l4 l5 ((j : Int) + 1) σ1 Q) okS (by omega) hb (hHy.z hf (by decide)) hG (fun σ1 p1 v1 => ?_)
    · rw [show ((suM (C.take j) + a + (sgT (C.getD j []) a b).length : Nat) : Int) = ((suM (C.take j) + b : Nat) : Int) by omega] at rp
      exact rp
    · show R_table_311 (C.length : Int) l4 l5 ((j : Int) + 1) σ1 Q
      rw [show (j : Int) + 1 = ((j + 1 : Nat) : Int) by omega]
      have z1 : ∀ y k, y ≠ 256 → y ≠ 348 → y ≠ 246 → mV σ1 y k = mV σ y k := fun y k h1 h2 h3 => p1.1.z (by simp only [List.mem_cons, List.not_mem_nil, or_false]; omega) h3
      refine ih (j + 1) σ1 (by omega) (hf.tr p1.1) (fun i hi => ?_)
      obtain ⟨a', b', t1, t2, t3, t4, t5⟩ := hC i hi
      refine ⟨a', b', t1, (z1 _ _ (by decide) (by decide) (by decide)).trans t2, (z1 _ _ (by decide) (by decide) (by decide)).trans t3, fun k hk => ⟨(z1 _ _ (by decide) (by decide) (by decide)).trans (t4 k hk).1, (z1 _ _ (by decide) (by decide) (by decide)).trans (t4 k hk).2⟩, fun hij t ht => ?_⟩
      by_cases e : i = j
      · subst e
        have ea : a' = a := by
          have := t2.symm.trans q2
          omega
        have eb : b' = b := by
          have := t3.symm.trans q3
          omega
        subst ea eb
        exact v1 t (by omega)
      · have lt : i < j := by omega
        have sm2 := suM_tk2 (C := C) lt (by omega)
        have t12 := t1.2.1
        rw [p1.2 _ (Or.inl (by omega))]
        exact t5 lt t ht
end
