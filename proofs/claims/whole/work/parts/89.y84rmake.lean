/-! LINES ARE MADE: the reference -/
def LiA (σ : MS) (i t : Nat) (l : GL9) : Prop := mV σ 310 i = (t : Int) ∧ mV σ 311 i = (l.1.length : Int) ∧ mV σ 312 i = l.2.1 ∧ mV σ 313 i = bZ (decide (2 ≤ l.2.2)) ∧ mV σ 314 i = bZ (decide (l.2.2 % 2 = 0)) ∧ hoL σ 308 309 t l.1
def LiR (σ : MS) (Ls : List GL9) : Prop := mV σ 246 99 = (Ls.length : Int) ∧ mV σ 246 98 = ((suM (Ls.map (·.1)) : Nat) : Int) ∧ ∀ i, i < Ls.length → LiA σ i (suM ((Ls.map (·.1)).take i)) (Ls.getD i ([], 0, 0))
/-- the galley of the reference; no fault -/
def RxG (σ : MS) (G : GS9) : Prop := mV σ 246 28 = 0 ∧ mV σ 246 32 = G.1.1 ∧ mV σ 246 33 = G.1.2 ∧ LiR σ G.2.1
def TxR (σ : MS) (e : Int × Int × Int) : Prop := mV σ 246 28 = e.1 ∧ mV σ 246 32 = e.2.1 ∧ mV σ 246 33 = e.2.2
def MkS : List Nat := [308, 309, 310, 311, 312, 313, 314, 315, 316, 317, 318]
def FrMk (n : Nat) (σ σ' : MS) : Prop := FrZ MkS [28, 32, 33, 98, 99] σ σ' ∧ ∀ z k, z = 315 ∨ z = 316 ∨ z = 317 ∨ z = 318 → k < n → mV σ' z k = mV σ z k
theorem FrMk.rf {n : Nat} {σ : MS} : FrMk n σ σ := ⟨FrZ.rf, fun _ _ _ _ => rfl⟩
theorem FrMk.tr {n m : Nat} {σ σ1 σ2 : MS} (h : FrMk n σ σ1) (hnm : n ≤ m) (h' : FrMk m σ1 σ2) : FrMk n σ σ2 := ⟨h.1.tr h'.1, fun z k a b => (h'.2 z k a (by omega)).trans (h.2 z k a b)⟩
theorem suM_tq {R : List (List Int)} {i : Nat} (hi : i < R.length) : suM (R.take i) + (R.getD i []).length ≤ suM R := by
  have h1 : R = R.take i ++ R.drop i := (List.take_append_drop i R).symm
  have h2 : R.drop i = R.getD i [] :: R.drop (i + 1) := by
    rw [List.drop_eq_getElem_cons hi]
    unfold List.getD
    rw [List.getElem?_eq_getElem hi]
    rfl
  have h3 : suM R = suM (R.take i) + suM (R.drop i) := by
    rw [← suM_app, ← h1]
  rw [h3, h2]
  show _ ≤ _ + ((R.getD i []).length + suM (R.drop (i + 1)))
  omega
theorem map_gd {Ls : List GL9} {i : Nat} : (Ls.map (·.1)).getD i [] = (Ls.getD i ([], 0, 0)).1 := by
  unfold List.getD
  rw [List.getElem?_map]
  cases Ls[i]? <;> rfl
theorem sngd {Ls : List GL9} {x : GL9} {i : Nat} (hi : i < Ls.length + 1) : (Ls ++ [x]).getD i ([], 0, 0) = if i < Ls.length then Ls.getD i ([], 0, 0) else x := by
  unfold List.getD
  by_cases h : i < Ls.length
  · rw [if_pos h, List.getElem?_append_left h]
  · rw [if_neg h, List.getElem?_append_right (by omega), show i - Ls.length = 0 by omega]
    rfl
theorem LiA.cg {σ σ' : MS} {i t : Nat} {l : GL9} (h : LiA σ i t l) (hz : ∀ z, z = 310 ∨ z = 311 ∨ z = 312 ∨ z = 313 ∨ z = 314 → mV σ' z i = mV σ z i) (hy : ∀ k, t ≤ k → k < t + l.1.length → mV σ' 308 k = mV σ 308 k ∧ mV σ' 309 k = mV σ 309 k) : LiA σ' i t l := ⟨(hz _ (by decide)).trans h.1, (hz _ (by decide)).trans h.2.1, (hz _ (by decide)).trans h.2.2.1, (hz _ (by decide)).trans h.2.2.2.1, (hz _ (by decide)).trans h.2.2.2.2.1, h.2.2.2.2.2.cg hy⟩
theorem LiR.cg {σ σ' : MS} {Ls : List GL9} (h : LiR σ Ls) (e1 : mV σ' 246 99 = mV σ 246 99) (e2 : mV σ' 246 98 = mV σ 246 98) (hz : ∀ z k, z = 310 ∨ z = 311 ∨ z = 312 ∨ z = 313 ∨ z = 314 → k < Ls.length → mV σ' z k = mV σ z k) (hy : ∀ k, k < suM (Ls.map (·.1)) → mV σ' 308 k = mV σ 308 k ∧ mV σ' 309 k = mV σ 309 k) : LiR σ' Ls := ⟨e1.trans h.1, e2.trans h.2.1, fun i hi => (h.2.2 i hi).cg (fun z hz1 => hz z i hz1 hi) (fun k _ hk => hy k (by
  have := suM_tq (R := Ls.map (·.1)) (i := i) (by rw [List.length_map]; exact hi)
  rw [map_gd] at this
  omega))⟩
theorem LiR.sn {σ : MS} {Ls : List GL9} {x : GL9} (h : LiR σ Ls) {σ' : MS} (e1 : mV σ' 246 99 = (Ls.length : Int) + 1) (e2 : mV σ' 246 98 = ((suM (Ls.map (·.1)) + x.1.length : Nat) : Int)) (hz : ∀ z k, z = 310 ∨ z = 311 ∨ z = 312 ∨ z = 313 ∨ z = 314 → k < Ls.length → mV σ' z k = mV σ z k) (hy : ∀ k, k < suM (Ls.map (·.1)) → mV σ' 308 k = mV σ 308 k ∧ mV σ' 309 k = mV σ 309 k) (hx : LiA σ' Ls.length (suM (Ls.map (·.1))) x) : LiR σ' (Ls ++ [x]) := by
  refine ⟨?_, ?_, fun i hi => ?_⟩
  · rw [e1, List.length_append]
    rfl
  · rw [e2, List.map_append, suM_app]
    rfl
  · rw [List.length_append] at hi
    have hi : i < Ls.length + 1 := hi
    rw [sngd hi, List.map_append, List.take_append_of_le_length (by rw [List.length_map]; omega)]
    by_cases h1 : i < Ls.length
    · rw [if_pos h1]
      refine (h.2.2 i h1).cg (fun z hz1 => hz z i hz1 h1) (fun k _ hk => hy k ?_)
      have := suM_tq (R := Ls.map (·.1)) (i := i) (by rw [List.length_map]; exact h1)
      rw [map_gd] at this
      omega
    · have e : i = Ls.length := by omega
      rw [if_neg h1, e, show (Ls.map (·.1)).take Ls.length = Ls.map (·.1) from List.take_of_length_le (by rw [List.length_map]; omega)]
      exact hx
section
variable {σ σ0 : MS} {Q : MQ9} {G : GS9} {c o : Int} {C : List Int}
/-- a line becomes one of those made -/
theorem R_makes.p {l1 l2 : Int} {pt fw : Bool} (r1 : Rg l1) (r2 : Rg l2) (hG : RxG σ G) (hB : GB9 c G) (hC : LbR σ C) (hl : C.length ≤ 400) (ho : mV σ 246 29 = o) (hy : ∀ G' σ', gFin o C (2 * bZ pt) fw G = .inl G' → RxG σ' G' → FrMk G.2.1.length σ σ' → (mV σ' 315 G.2.1.length = l1 ∧ mV σ' 316 G.2.1.length = l2 ∧ mV σ' 317 G.2.1.length = 0 ∧ mV σ' 318 G.2.1.length = 0) → Q (.inl (some 1)) σ') (hn : ∀ e σ', gFin o C (2 * bZ pt) fw G = .inr e → TxR σ' e → mV σ' 246 99 = (G.2.1.length : Int) → FrMk G.2.1.length σ σ' → Q (.inl (some 0)) σ') : R_makes l1 l2 (bZ pt) σ Q := by
  obtain ⟨g0, g1, g2, g3⟩ := hG
  obtain ⟨b1, b2, b3, b4, b5⟩ := hB
  have n0 := g3.1
  have t0 := g3.2.1
  have fl : ∀ k : Int, TxR (wV σ 246 28 k) (k, G.1.1, G.1.2) := fun k => ⟨wV_self, (wV_ne (Or.inr (by decide))).trans g1, (wV_ne (Or.inr (by decide))).trans g2⟩
  have f9 : ∀ k : Int, mV (wV σ 246 28 k) 246 99 = (G.2.1.length : Int) := fun k => (wV_ne (Or.inr (by decide))).trans n0
  have ff : ∀ k : Int, FrMk G.2.1.length σ (wV σ 246 28 k) := fun k => ⟨FrZ.wf (by decide), fun z k' hz _ => wV_ne (Or.inl (by omega))⟩
  have key : ¬ (60000 < G.1.1 + (20 + (C.length : Int)) ∨ 400000 < G.1.2 + (20 + (C.length : Int))) → ¬ 1500 ≤ G.2.1.length → ∀ (m k : Nat) (σ1 : MS), k + m = C.length → FrZ [308, 309] [98] (wV (wV (wV (wV (wV (wV (wV (wV (wV (wV (wV σ 246 32 (G.1.1 + (20 + (C.length : Int)))) 246 33 (G.1.2 + (20 + (C.length : Int)))) 310 G.2.1.length ((suM (G.2.1.map (·.1)) : Nat) : Int)) 311 G.2.1.length (C.length : Int)) 312 G.2.1.length o) 313 G.2.1.length (bZ pt)) 314 G.2.1.length 1) 315 G.2.1.length l1) 316 G.2.1.length l2) 317 G.2.1.length 0) 318 G.2.1.length 0) σ1 → mV σ1 246 98 = ((suM (G.2.1.map (·.1)) + k : Nat) : Int) → hoL σ1 308 309 (suM (G.2.1.map (·.1))) (C.take k) → (∀ j, j < suM (G.2.1.map (·.1)) → mV σ1 308 j = mV σ 308 j ∧ mV σ1 309 j = mV σ 309 j) → R_makes_136 (k : Int) σ1 Q := by
    intro h8 h15 m
    induction m with
    | zero =>
      intro k σ1 hk hf h98 hh hold
      have e0 : mV σ1 246 160 = (C.length : Int) := by
        rw [hf.f (by decide) (by decide)]
        show mV σ 246 160 = _
        exact hC.1
      have e9 : mV σ1 246 99 = (G.2.1.length : Int) := by
        rw [hf.f (by decide) (by decide)]
        show mV σ 246 99 = _
        exact n0
      have hk2 : k = C.length := by omega
      rw [hk2] at h98 hh
      rw [List.take_length] at hh
      refine R_makes_136.i ⟨by unfold Rg; omega, fun _ => ?_, fun h9 => absurd h9 (by omega)⟩
      rw [e9]
      refine ⟨by unfold Rg; omega, ?_⟩
      have rd : ∀ z j, z ∉ [308, 309] → z ≠ 246 → mV (wV σ1 246 99 ((G.2.1.length : Int) + 1)) z j = mV (wV (wV (wV (wV (wV (wV (wV (wV (wV (wV (wV σ 246 32 (G.1.1 + (20 + (C.length : Int)))) 246 33 (G.1.2 + (20 + (C.length : Int)))) 310 G.2.1.length ((suM (G.2.1.map (·.1)) : Nat) : Int)) 311 G.2.1.length (C.length : Int)) 312 G.2.1.length o) 313 G.2.1.length (bZ pt)) 314 G.2.1.length 1) 315 G.2.1.length l1) 316 G.2.1.length l2) 317 G.2.1.length 0) 318 G.2.1.length 0) z j := fun z j h1 h2 => by
        rw [wV_ne (Or.inl h2), hf.z h1 h2]
      have fr : FrMk G.2.1.length σ (wV σ1 246 99 ((G.2.1.length : Int) + 1)) := by
        refine ⟨⟨hf.1, hf.2.1, fun z j hz hk => ?_⟩, fun z j hz hj => ?_⟩
        · have hz2 : z ∉ [308, 309] := fun h => hz (by
            simp only [List.mem_cons, List.not_mem_nil, or_false] at h
            unfold MkS
            simp only [List.mem_cons, List.not_mem_nil, or_false]
            omega)
          unfold MkS at hz
          simp only [List.mem_cons, List.not_mem_nil, or_false] at hz hk
          rw [wV_ne (by omega), hf.2.2 z j hz2 (by
            simp only [List.mem_cons, List.not_mem_nil, or_false]
            omega), wV_ne (by omega), wV_ne (by omega), wV_ne (by omega), wV_ne (by omega), wV_ne (by omega), wV_ne (by omega), wV_ne (by omega), wV_ne (by omega), wV_ne (by omega), wV_ne (by omega), wV_ne (by omega)]
        · rw [rd z j (by simp only [List.mem_cons, List.not_mem_nil, or_false]; omega) (by omega), wV_ne (by omega), wV_ne (by omega), wV_ne (by omega), wV_ne (by omega), wV_ne (by omega), wV_ne (by omega), wV_ne (by omega), wV_ne (by omega), wV_ne (by omega), wV_ne (by omega), wV_ne (by omega)]
      have fy : gFin o C (2 * bZ pt) fw G = .inl ((G.1.1 + (20 + (C.length : Int)), G.1.2 + (20 + (C.length : Int))), G.2.1 ++ [(C, o, 2 * bZ pt)], if fw = true then G.2.2 ++ [(G.2.1.length : Int)] else G.2.2) := by
        unfold gFin
        rw [if_neg h15, gSp_y h8]
        rfl
      refine hy _ _ fy ⟨?_, ?_, ?_, ?_⟩ fr ⟨?_, ?_, ?_, ?_⟩
      · rw [wV_ne (Or.inr (by decide)), hf.f (by decide) (by decide)]
        exact g0
      · rw [wV_ne (Or.inr (by decide)), hf.f (by decide) (by decide)]
        show mV (wV (wV σ 246 32 (G.1.1 + (20 + (C.length : Int)))) 246 33 (G.1.2 + (20 + (C.length : Int)))) 246 32 = _
        rw [wV_ne (Or.inr (by decide)), wV_self]
      · rw [wV_ne (Or.inr (by decide)), hf.f (by decide) (by decide)]
        show mV (wV (wV σ 246 32 (G.1.1 + (20 + (C.length : Int)))) 246 33 (G.1.2 + (20 + (C.length : Int)))) 246 33 = _
        rw [wV_self]
      · refine g3.sn wV_self ?_ (fun z j hz hj => ?_) (fun j hj => ?_) ⟨?_, ?_, ?_, ?_, ?_, ?_⟩
        · rw [wV_ne (Or.inr (by decide))]
          exact h98
        · rw [rd z j (by simp only [List.mem_cons, List.not_mem_nil, or_false]; omega) (by omega), wV_ne (by omega), wV_ne (by omega), wV_ne (by omega), wV_ne (by omega), wV_ne (by omega), wV_ne (by omega), wV_ne (by omega), wV_ne (by omega), wV_ne (by omega), wV_ne (by omega), wV_ne (by omega)]
        · rw [wV_ne (Or.inl (by decide)), wV_ne (Or.inl (by decide))]
          exact hold j hj
        · rw [rd _ _ (by decide) (by decide), wV_ne (by omega), wV_ne (by omega), wV_ne (by omega), wV_ne (by omega), wV_ne (by omega), wV_ne (by omega), wV_ne (by omega), wV_ne (by omega), wV_self]
        · rw [rd _ _ (by decide) (by decide), wV_ne (by omega), wV_ne (by omega), wV_ne (by omega), wV_ne (by omega), wV_ne (by omega), wV_ne (by omega), wV_ne (by omega), wV_self]
        · rw [rd _ _ (by decide) (by decide), wV_ne (by omega), wV_ne (by omega), wV_ne (by omega), wV_ne (by omega), wV_ne (by omega), wV_ne (by omega), wV_self]
        · rw [rd _ _ (by decide) (by decide), wV_ne (by omega), wV_ne (by omega), wV_ne (by omega), wV_ne (by omega), wV_ne (by omega), wV_self]
          cases pt <;> rfl
        · rw [rd _ _ (by decide) (by decide), wV_ne (by omega), wV_ne (by omega), wV_ne (by omega), wV_ne (by omega), wV_self]
          cases pt <;> rfl
        · exact hh.cg (fun j _ _ => ⟨wV_ne (Or.inl (by decide)), wV_ne (Or.inl (by decide))⟩)
      · rw [rd _ _ (by decide) (by decide), wV_ne (by omega), wV_ne (by omega), wV_ne (by omega), wV_self]
      · rw [rd _ _ (by decide) (by decide), wV_ne (by omega), wV_ne (by omega), wV_self]
      · rw [rd _ _ (by decide) (by decide), wV_ne (by omega), wV_self]
      · rw [rd _ _ (by decide) (by decide), wV_self]
    | succ m ih =>
      intro k σ1 hk hf h98 hh hold
      have e0 : mV σ1 246 160 = (C.length : Int) := by
        rw [hf.f (by decide) (by decide)]
        show mV σ 246 160 = _
        exact hC.1
      have hc := hC.2 k (by omega)
      rw [Nat.zero_add] at hc
      have v8 : mV σ1 338 k = C.getD k 0 % 128 := by
        rw [hf.z (by decide) (by decide)]
        show mV σ 338 k = _
        exact hc.1
      have v9 : mV σ1 339 k = cyB (C.getD k 0) := by
        rw [hf.z (by decide) (by decide)]
        show mV σ 339 k = _
        exact hc.2
      refine R_makes_136.i ⟨by unfold Rg; omega, fun h9 => absurd h9 (by omega), fun _ => ⟨by omega, by omega, by omega, by omega, by omega, by omega, by omega, by omega, by unfold Rg; omega, ?_⟩⟩
      rw [h98, Int.toNat_natCast, Int.toNat_natCast, v8, v9, b8_id (by omega), cyB_1]
      refine ih (k + 1) _ (by omega) (hf.tr (((FrZ.wz (by decide)).tr (FrZ.wz (by decide))).tr (FrZ.wf (by decide)))) ?_ (fun i hi => ?_) (fun j hj => ?_)
      · rw [wV_self]
        omega
      · have hi2 : i < k + 1 := by
          have := List.length_take (i := k + 1) (l := C)
          omega
        have tk : (C.take (k + 1)).getD i 0 = C.getD i 0 := by
          unfold List.getD
          rw [List.getElem?_take, if_pos hi2]
        rw [tk]
        by_cases e : i = k
        · rw [e, wV_ne (Or.inl (by decide)), wV_ne (Or.inl (by decide)), wV_self, wV_ne (Or.inl (by decide)), wV_self]
          exact ⟨rfl, rfl⟩
        · have := hh i (by
            rw [List.length_take]
            omega)
          have tk2 : (C.take k).getD i 0 = C.getD i 0 := by
            unfold List.getD
            rw [List.getElem?_take, if_pos (by omega)]
          rw [tk2] at this
          rw [wV_ne (Or.inl (by decide)), wV_ne (Or.inl (by decide)), wV_ne (Or.inr (by omega)), wV_ne (Or.inl (by decide)), wV_ne (Or.inr (by omega)), wV_ne (Or.inl (by decide))]
          exact this
      · rw [wV_ne (Or.inl (by decide)), wV_ne (Or.inl (by decide)), wV_ne (Or.inr (by omega)), wV_ne (Or.inl (by decide)), wV_ne (Or.inr (by omega)), wV_ne (Or.inl (by decide))]
        exact hold j hj
  refine R_makes.i ⟨fun h9 => ?_, fun h9 => R_fail.i ⟨fun h8 => absurd g0 h8, fun _ => ⟨by decide, hn _ _ ?_ (fl 9) (f9 9) (ff 9)⟩⟩⟩
  · have h15 : ¬ 1500 ≤ G.2.1.length := by omega
    have no : (60000 < G.1.1 + (20 + (C.length : Int)) ∨ 400000 < G.1.2 + (20 + (C.length : Int))) → gFin o C (2 * bZ pt) fw G = .inr (8, G.1.1, G.1.2) := fun h => by
      unfold gFin
      rw [if_neg h15, gSp_n h]
      rfl
    have e0 := hC.1
    rw [e0]
    refine R_spend.i ⟨by rw [g1]; unfold Rg; omega, fun h8 => R_spend_24.i (R_fail.i ⟨fun h7 => absurd g0 h7, fun _ => ⟨by decide, ?_⟩⟩), fun h8 => ⟨by rw [g2]; unfold Rg; omega, fun h7 => ⟨by rw [g1]; unfold Rg; omega, by rw [g2]; unfold Rg; omega, ?_⟩, fun h7 => R_spend_24.i (R_fail.i ⟨fun h6 => absurd g0 h6, fun _ => ⟨by decide, ?_⟩⟩)⟩⟩
    · show (¬ (0 : Int) = 0 → _) ∧ ((0 : Int) = 0 → _)
      exact ⟨fun h => absurd rfl h, fun _ => hn _ _ (no (by omega)) (fl 8) (f9 8) (ff 8)⟩
    · rw [g1, g2]
      show (¬ (1 : Int) = 0 → _) ∧ ((1 : Int) = 0 → _)
      refine ⟨fun _ => ?_, fun h => absurd h (by decide)⟩
      have e99 : mV (wV (wV σ 246 32 (G.1.1 + (20 + (C.length : Int)))) 246 33 (G.1.2 + (20 + (C.length : Int)))) 246 99 = (G.2.1.length : Int) := n0
      have e98 : mV (wV (wV σ 246 32 (G.1.1 + (20 + (C.length : Int)))) 246 33 (G.1.2 + (20 + (C.length : Int)))) 246 98 = ((suM (G.2.1.map (·.1)) : Nat) : Int) := t0
      have e29 : mV (wV (wV σ 246 32 (G.1.1 + (20 + (C.length : Int)))) 246 33 (G.1.2 + (20 + (C.length : Int)))) 246 29 = o := ho
      have e160 : mV (wV (wV σ 246 32 (G.1.1 + (20 + (C.length : Int)))) 246 33 (G.1.2 + (20 + (C.length : Int)))) 246 160 = (C.length : Int) := e0
      rw [e99, e98, e29, e160, Int.toNat_natCast]
      refine ⟨by omega, by omega, by omega, by omega, by omega, by omega, by omega, by omega, by omega, by omega, by omega, by omega, r1, by omega, by omega, r2, by omega, by omega, by omega, by omega, ?_⟩
      rw [show bZ pt % 2 = bZ pt by cases pt <;> rfl, show (1 : Int) % 2 = 1 from rfl]
      refine key (by omega) h15 C.length 0 _ (by omega) FrZ.rf ?_ (fun i hi => absurd hi (by simp)) (fun j hj => ⟨rfl, rfl⟩)
      exact t0
    · show (¬ (0 : Int) = 0 → _) ∧ ((0 : Int) = 0 → _)
      exact ⟨fun h => absurd rfl h, fun _ => hn _ _ (no (by omega)) (fl 8) (f9 8) (ff 8)⟩
  · unfold gFin
    rw [if_pos (by omega)]
end
