/-! POINTS OF ROWS: the reference -/
def dP (L : List Int) (j : Nat) : Int := if j = 0 ∨ L.length ≤ j ∨ sbl (L.getD j 0) = true then 0 else if L.getD (j - 1) 0 % 128 = 45 ∧ 2 ≤ j ∧ sbl (L.getD (j - 2) 0) = false then 1 else 0
theorem pt_d {H : HY9} {L : List Int} {j : Nat} (h : ¬ (H.1 = true ∧ ltC (L.getD (j - 1) 0) = true ∧ ltC (L.getD j 0) = true ∧ hyW H L j = true)) : ptD H L j = dP L j := by
  unfold ptD dP
  rw [if_neg h]
theorem lt_i {c : Int} (h : ltC c = true) : sbl c = false ∧ ¬ c % 128 = 45 := by
  have := sLe_i.mp h
  unfold sbl
  refine ⟨decide_eq_false (by omega), by omega⟩
theorem pt_h {H : HY9} {L : List Int} {j : Nat} (h1 : 1 ≤ j) (hj : j < L.length) (h : H.1 = true ∧ ltC (L.getD (j - 1) 0) = true ∧ ltC (L.getD j 0) = true ∧ hyW H L j = true) : ptD H L j = 2 := by
  unfold ptD
  rw [if_neg (by
    rw [(lt_i h.2.2.1).1]
    rintro (h9 | h9 | h9)
    · omega
    · omega
    · exact absurd h9 (by decide)), if_neg (fun h9 => (lt_i h.2.1).2 h9.1), if_pos h]
theorem rd_lt {c : Int} (h : okC c) : sLe (rdG c) = ltC c := by
  unfold rdG ltC
  split
  · rename_i h9
    rw [h.2.2 h9]
    decide
  · rfl
theorem rd_45 {c : Int} (h : okC c) : rdG c = 45 ↔ c % 128 = 45 := by
  unfold rdG
  split
  · rename_i h9
    have := h.2.2 h9
    omega
  · exact Iff.rfl
theorem rd_32 {c : Int} (h : okC c) : rdG c = 32 ↔ sbl c = true := by
  rw [sbl_rd h, decide_eq_true_iff]
section
variable {σ σ0 : MS} {Q : MQ9} {u : Nat} {L : List Int} {H : HY9}
theorem R_at.g {i : Nat} (hG : hoG σ 254 255 u L) (hu : u + L.length ≤ 139000) (hi : i < L.length) (hq : Q (.inl (some (rdG (L.getD i 0)))) σ) : R_at ((u + i : Nat) : Int) σ Q := by
  refine R_at.i ⟨by omega, by omega, ?_⟩
  rw [Int.toNat_natCast, hG.at hi]
  exact hq
/-- points told; nothing else has changed -/
def PoF (σ0 σ : MS) (u : Nat) (L : List Int) : Prop := FrZ [256, 348] [] σ0 σ ∧ ∀ j, j < u ∨ u + L.length ≤ j → mV σ 256 j = mV σ0 256 j
theorem PoF.g (h : PoF σ0 σ u L) (hG : hoG σ0 254 255 u L) : hoG σ 254 255 u L := hG.cg (fun k _ _ => ⟨h.1.z (by decide) (by decide), h.1.z (by decide) (by decide)⟩)
theorem PoF.w {k : Nat} {x : Int} (h : PoF σ0 σ u L) (hk : k < L.length) : PoF σ0 (wV σ 256 (u + k) x) u L := ⟨h.1.tr (FrZ.wz (by decide)), fun j hj => by rw [wV_ne (Or.inr (by omega))]; exact h.2 j hj⟩
theorem po_122 (hok : okK L) (hu : u + L.length ≤ 139000) (hb : HyB H.2.1 H.2.2.1 H.2.2.2.1 H.2.2.2.2) (hR : HyR σ0 H.2.1 H.2.2.1 H.2.2.2.1 H.2.2.2.2) (hG : hoG σ0 254 255 u L) {k e : Nat} (hke : k < e) (he : e ≤ L.length) (hk0 : k = 0 ∨ sbl (L.getD (k - 1) 0) = true) (he0 : e = L.length ∨ sbl (L.getD e 0) = true) (hq : ∀ σ, PoF σ0 σ u L → (∀ j, j < e → mV σ 256 (u + j) = ptD H L j) → (∀ j, e ≤ j → j < L.length → mV σ 256 (u + j) = 0) → R_points_26 ((u + L.length : Nat) : Int) (bZ H.1) ((u + e : Nat) : Int) σ Q) : ∀ (m q : Nat) (σ : MS), e + 1 ≤ q + m → k ≤ q → (q = k ∨ ltC (L.getD (q - 1) 0) = false) → PoF σ0 σ u L → (∀ j, j < q → j < e → mV σ 256 (u + j) = ptD H L j) → (∀ j, q ≤ j → j < e → mV σ 256 (u + j) = dP L j) → (∀ j, e ≤ j → j < L.length → mV σ 256 (u + j) = 0) → q ≤ e + 1 → R_points_122 ((u + L.length : Nat) : Int) (bZ H.1) ((u + e : Nat) : Int) ((u + q : Nat) : Int) σ Q := by
  have hbz : Rg (bZ H.1) := by cases H.1 <;> decide
  have nlt : ∀ c, sbl c = true → ltC c = false := fun c h => by
    rw [← Bool.not_eq_true]
    intro h9
    rw [(lt_i h9).1] at h
    exact absurd h (by decide)
  intro m
  induction m with
  | zero =>
    intro q σ hm hkq hq0 hf h1 h2 h3 hqe
    exact R_points_122.i ⟨by unfold Rg; omega, by unfold Rg; omega, fun _ => R_points_201.i (hq σ hf (fun j hj => h1 j (by omega) hj) h3), fun h9 => absurd h9 (by omega)⟩
  | succ m ih =>
    intro q σ hm hkq hq0 hf h1 h2 h3 hqe
    refine R_points_122.i ⟨by unfold Rg; omega, by unfold Rg; omega, fun h9 => R_points_201.i (hq σ hf (fun j hj => h1 j (by omega) hj) h3), fun h9 => ⟨hbz, fun h8 => R_points_201.i (hq σ hf (fun j hj => ?_) h3), fun h8 => ?_⟩⟩
    · by_cases hjq : j < q
      · exact h1 j hjq hj
      · rw [h2 j (by omega) hj, pt_d (fun h => by rw [bZ_z h8] at h; exact absurd h.1 (by decide))]
    · have hy := bZ_ne h8
      have hqe2 : q < e := by omega
      have walk : ∀ (n w : Nat), w + n = e → q ≤ w → (∀ j, q ≤ j → j < w → ltC (L.getD j 0) = true) → R_points_137 ((u + L.length : Nat) : Int) (bZ H.1) ((u + e : Nat) : Int) ((u + q : Nat) : Int) ((u + w : Nat) : Int) σ Q := by
        have fin : ∀ w, w ≤ e → q ≤ w → (∀ j, q ≤ j → j < w → ltC (L.getD j 0) = true) → (w = e ∨ ltC (L.getD w 0) = false) → R_points_162 ((u + L.length : Nat) : Int) (bZ H.1) ((u + e : Nat) : Int) ((u + q : Nat) : Int) ((u + w : Nat) : Int) σ Q := fun w hwe hqw hl hend => by
          have wnl : w < L.length → ltC (L.getD w 0) = false := fun hw9 => by
            rcases hend with h | h
            · rcases he0 with h7 | h7
              · omega
              · rw [h]
                exact nlt _ h7
            · exact h
          have q1 : q = 0 ∨ ltC (L.getD (q - 1) 0) = false := by
            rcases hq0 with h | h
            · rcases hk0 with h7 | h7
              · exact Or.inl (by omega)
              · rw [h]
                exact Or.inr (nlt _ h7)
            · exact Or.inr h
          have run : (lrU L q).length = w - q := by
            have := (lr_run (U := L) (w - q) q (fun j x y => ⟨by omega, hl j x (by omega)⟩)).1
            rw [show q + (w - q) = w by omega, lr_e (a := w) (by
              by_cases h7 : L.length ≤ w
              · exact Or.inl h7
              · exact Or.inr (wnl (by omega))), List.length_nil] at this
            omega
          have rn : ∀ j, q ≤ j → j ≤ w → rnN L j = q := fun j x y => rnN_u j q x (fun i x2 y2 => hl i x2 (by omega)) q1
          have nx : ∀ σ', PoF σ0 σ' u L → (∀ j, j < w + 1 → j < e → mV σ' 256 (u + j) = ptD H L j) → (∀ j, w + 1 ≤ j → j < e → mV σ' 256 (u + j) = dP L j) → (∀ j, e ≤ j → j < L.length → mV σ' 256 (u + j) = 0) → R_points_192 ((u + L.length : Nat) : Int) (bZ H.1) ((u + e : Nat) : Int) ((u + w : Nat) : Int) σ' Q := fun σ' a1 a2 a3 a4 => by
            refine R_points_192.i ?_
            rw [show ((u + w : Nat) : Int) + 1 = ((u + (w + 1) : Nat) : Int) by omega]
            refine ih (w + 1) σ' (by omega) (by omega) ?_ a1 a2 a3 a4 (by omega)
            by_cases h7 : w < L.length
            · exact Or.inr (by rw [Nat.add_sub_cancel]; exact wnl h7)
            · refine Or.inr ?_
              rw [Nat.add_sub_cancel, List.getD_eq_getElem?_getD, List.getElem?_eq_none (by omega)]
              decide
          have ptw : ∀ j, q ≤ j → j ≤ w → j < e → (j = q ∨ j = w) → ptD H L j = dP L j := fun j x y x2 y2 => by
            by_cases hj0 : j = 0
            · rw [hj0]
              unfold ptD dP
              rw [if_pos (Or.inl rfl), if_pos (Or.inl rfl)]
            · refine pt_d (fun h => ?_)
              rcases y2 with h7 | h7
              · rw [h7, q1.resolve_left (by omega)] at h
                exact absurd h.2.1 (by decide)
              · rw [h7, wnl (by omega)] at h
                exact absurd h.2.2.1 (by decide)
          have hW : ∀ j, q ≤ j → j ≤ w → hyW H L j = (decide (w - q ≤ 40) && hyK H.2.1 H.2.2.1 H.2.2.2.1 H.2.2.2.2 (lrU L q) (j - q)) := fun j x y => by
            unfold hyW
            rw [rn j x y, run]
          refine R_points_162.i ⟨by unfold Rg; omega, by unfold Rg; omega, fun h7 => ?_, fun h7 => ⟨by decide, by decide, by decide, by decide, ?_⟩⟩
          · refine nx σ hf (fun j x y => ?_) (fun j x y => h2 j (by omega) y) h3
            by_cases hj : j = q
            · rw [ptw j (by omega) (by omega) y (Or.inl hj)]
              exact h2 j (by omega) y
            · exact h1 j (by omega) y
          · rw [show ((u + w : Nat) : Int) - ((u + q : Nat) : Int) = ((lrU L q).length : Int) by omega]
            have hR' := hR.z hf.1 (by decide)
            rw [hR'.2.2.1, hR'.2.2.2]
            by_cases h40 : w - q ≤ 40
            · have hLt : LtR σ (u + q) (lrU L q) := by
                refine ⟨by omega, fun i hi => ?_⟩
                have hin := lr_in (U := L) (a := q) (j := q + i) (by omega) (by omega)
                rw [Nat.add_assoc, (hf.g hG).at hin.1, (lr_run (U := L) (lrU L q).length q (fun j x y => lr_in x y)).2 i hi]
                have okc := hok.gd hin.1
                unfold rdG
                rw [if_neg (fun h9 => by
                  have h8 := okc.2.2 h9
                  have h7 := hin.2
                  unfold ltC at h7
                  rw [h8] at h7
                  exact absurd h7 (by decide))]
              refine R_letters.p hb (by omega) (by omega) hR' hLt (fun σ' hp => ?_)
              obtain ⟨p1, p2, p3⟩ := hp
              have out : ∀ j, j ≤ q ∨ w ≤ j → mV σ' 256 (u + j) = mV σ 256 (u + j) := fun j hj => p3 (u + j) (by omega)
              refine nx σ' ⟨hf.1.tr p1, fun j hj => ?_⟩ (fun j x y => ?_) (fun j x y => ?_) (fun j x y => ?_)
              · rw [p3 j (by omega)]
                exact hf.2 j hj
              · by_cases hj : j < q
                · rw [out j (by omega)]
                  exact h1 j hj y
                · by_cases hj2 : j = q ∨ j = w
                  · rw [out j (by omega), ptw j (by omega) (by omega) y hj2]
                    exact h2 j (by omega) y
                  · have hk := p2 (j - q) (by omega) (by omega)
                    rw [show u + q + (j - q) = u + j by omega] at hk
                    have hWj := hW j (by omega) (by omega)
                    rw [decide_eq_true h40, Bool.true_and] at hWj
                    rw [hk, ← hWj]
                    cases hv : hyW H L j with
                    | true =>
                      rw [if_pos rfl, pt_h (by omega) (by omega) ⟨hy, hl _ (by omega) (by omega), hl _ (by omega) (by omega), hv⟩]
                    | false =>
                      rw [if_neg (by decide), pt_d (fun h => by rw [hv] at h; exact absurd h.2.2.2 (by decide))]
                      exact h2 j (by omega) y
              · rw [out j (by omega)]
                exact h2 j (by omega) y
              · rw [out j (by omega)]
                exact h3 j x y
            · refine R_letters.i ⟨by unfold Rg; omega, fun h9 => absurd h9 (by omega), fun _ => ?_⟩
              refine nx σ hf (fun j x y => ?_) (fun j x y => h2 j (by omega) y) h3
              by_cases hj : j < q
              · exact h1 j hj y
              · have hWj := hW j (by omega) (by omega)
                rw [decide_eq_false h40, Bool.false_and] at hWj
                rw [pt_d (fun h => by rw [hWj] at h; exact absurd h.2.2.2 (by decide))]
                exact h2 j (by omega) y
        intro n
        induction n with
        | zero =>
          intro w hw hqw hl
          exact R_points_137.i ⟨by unfold Rg; omega, by unfold Rg; omega, fun _ => fin w (by omega) hqw hl (Or.inl (by omega)), fun h7 => absurd h7 (by omega)⟩
        | succ n ihn =>
          intro w hw hqw hl
          have hlt : w < L.length := by omega
          have okc := hok.gd hlt
          refine R_points_137.i ⟨by unfold Rg; omega, by unfold Rg; omega, fun h7 => absurd h7 (by omega), fun _ => R_at.g (hf.g hG) hu hlt (R_isLetter.s rdG_r ?_)⟩
          rw [rd_lt okc]
          refine ⟨fun h7 => fin w (by omega) hqw hl (Or.inr (bZ_z h7)), fun h7 => ?_⟩
          show R_points_137 ((u + L.length : Nat) : Int) (bZ H.1) ((u + e : Nat) : Int) ((u + q : Nat) : Int) (((u + w : Nat) : Int) + 1) σ Q
          rw [show ((u + w : Nat) : Int) + 1 = ((u + (w + 1) : Nat) : Int) by omega]
          exact ihn (w + 1) (by omega) (by omega) (fun j x y => by
            by_cases hj : j = w
            · rw [hj]
              exact bZ_ne h7
            · exact hl j x (by omega))
      exact walk (e - q) q (by omega) (Nat.le_refl _) (fun j x y => by omega)
/-- dashes of the word k .. e -/
theorem po_82 (hok : okK L) (hu : u + L.length ≤ 139000) (hG : hoG σ0 254 255 u L) {k e : Nat} (hke : k < e) (he : e ≤ L.length) (hk0 : k = 0 ∨ sbl (L.getD (k - 1) 0) = true) (hnb : ∀ j, k ≤ j → j < e → sbl (L.getD j 0) = false) {b : Int} (hq : ∀ σ, PoF σ0 σ u L → (∀ j, j < k → mV σ 256 (u + j) = ptD H L j) → (∀ j, k ≤ j → j < e → mV σ 256 (u + j) = dP L j) → (∀ j, e ≤ j → j < L.length → mV σ 256 (u + j) = 0) → R_points_122 ((u + L.length : Nat) : Int) b ((u + e : Nat) : Int) ((u + k : Nat) : Int) σ Q) : ∀ (m q : Nat) (σ : MS), e ≤ q + m → k + 1 ≤ q → q ≤ e → PoF σ0 σ u L → (∀ j, j < k → mV σ 256 (u + j) = ptD H L j) → (∀ j, k ≤ j → j ≤ q → j < e → mV σ 256 (u + j) = dP L j) → (∀ j, k ≤ j → q < j → j < L.length → mV σ 256 (u + j) = 0) → (∀ j, e ≤ j → j < L.length → mV σ 256 (u + j) = 0) → R_points_82 ((u + L.length : Nat) : Int) b ((u + k : Nat) : Int) ((u + e : Nat) : Int) ((u + q : Nat) : Int) σ Q := by
  intro m
  induction m with
  | zero =>
    intro q σ hm hkq hqe hf h1 h2 h3 h4
    exact R_points_82.i ⟨by unfold Rg; omega, by unfold Rg; omega, fun _ => hq σ hf h1 (fun j x y => h2 j x (by omega) y) h4, fun h9 => absurd h9 (by omega)⟩
  | succ m ih =>
    intro q σ hm hkq hqe hf h1 h2 h3 h4
    refine R_points_82.i ⟨by unfold Rg; omega, by unfold Rg; omega, fun h9 => hq σ hf h1 (fun j x y => h2 j x (by omega) y) h4, fun h9 => ?_⟩
    have hlt : q < L.length := by omega
    have okc := hok.gd hlt
    have hd : dP L (q + 1) = if L.getD q 0 % 128 = 45 then 1 else 0 := by
      unfold dP
      rw [if_neg (by
        rw [hnb (q + 1) (by omega) (by omega)]
        rintro (h8 | h8 | h8)
        · omega
        · omega
        · exact absurd h8 (by decide)), Nat.add_sub_cancel, show q + 1 - 2 = q - 1 by omega, hnb (q - 1) (by omega) (by omega)]
      by_cases h8 : L.getD q 0 % 128 = 45
      · rw [if_pos h8, if_pos ⟨h8, by omega, rfl⟩]
      · rw [if_neg h8, if_neg (fun h => h8 h.1)]
    have nx : ∀ σ', PoF σ0 σ' u L → (∀ j, j < L.length → j ≠ q + 1 → mV σ' 256 (u + j) = mV σ 256 (u + j)) → mV σ' 256 (u + (q + 1)) = dP L (q + 1) → R_points_112 ((u + L.length : Nat) : Int) b ((u + k : Nat) : Int) ((u + e : Nat) : Int) ((u + q : Nat) : Int) σ' Q := fun σ' f a1 a2 => by
      refine R_points_112.i ?_
      rw [show ((u + q : Nat) : Int) + 1 = ((u + (q + 1) : Nat) : Int) by omega]
      refine ih (q + 1) σ' (by omega) (by omega) (by omega) f (fun j x => ?_) (fun j x y z => ?_) (fun j x y z => ?_) (fun j x y => ?_)
      · rw [a1 j (by omega) (by omega)]
        exact h1 j x
      · by_cases hj : j = q + 1
        · rw [hj]
          exact a2
        · rw [a1 j (by omega) hj]
          exact h2 j x (by omega) z
      · rw [a1 j z (by omega)]
        exact h3 j x (by omega) z
      · rw [a1 j y (by omega)]
        exact h4 j x y
    refine R_at.g (hf.g hG) hu hlt ⟨fun h8 => nx σ hf (fun _ _ _ => rfl) ?_, fun h8 => ⟨by omega, by omega, ?_⟩⟩
    · rw [hd, if_neg (fun h => h8 ((rd_45 okc).mpr h))]
      exact h3 (q + 1) (by omega) (by omega) (by omega)
    · rw [show (((u + q : Nat) : Int) + 1).toNat = u + (q + 1) by omega]
      refine nx _ (hf.w (by omega)) (fun j x y => wV_ne (Or.inr (by omega))) ?_
      rw [wV_self, hd, if_pos ((rd_45 okc).mp h8)]
      decide
theorem dP_k {k : Nat} (hk0 : k = 0 ∨ sbl (L.getD (k - 1) 0) = true) : dP L k = 0 := by
  unfold dP
  split
  · rfl
  · rw [if_neg (fun h => ?_)]
    rcases hk0 with h9 | h9
    · omega
    · unfold sbl at h9
      have := of_decide_eq_true h9
      omega
theorem dP_k1 {k : Nat} (hk0 : k = 0 ∨ sbl (L.getD (k - 1) 0) = true) : dP L (k + 1) = 0 := by
  unfold dP
  split
  · rfl
  · rw [if_neg (fun h => ?_)]
    rcases hk0 with h9 | h9
    · omega
    · rw [show k + 1 - 2 = k - 1 by omega, h9] at h
      exact absurd h.2.2 (by decide)
theorem po_26 (hok : okK L) (hu : u + L.length ≤ 139000) (hb : HyB H.2.1 H.2.2.1 H.2.2.2.1 H.2.2.2.2) (hR : HyR σ0 H.2.1 H.2.2.1 H.2.2.2.1 H.2.2.2.2) (hG : hoG σ0 254 255 u L) (hq : ∀ σ, PoF σ0 σ u L → (∀ j, j < L.length → mV σ 256 (u + j) = ptD H L j) → Q (.inl none) σ) : ∀ (m k : Nat) (σ : MS), L.length ≤ k + m → k ≤ L.length → (k = 0 ∨ sbl (L.getD (k - 1) 0) = true ∨ k = L.length ∨ sbl (L.getD k 0) = true) → PoF σ0 σ u L → (∀ j, j < k → mV σ 256 (u + j) = ptD H L j) → (∀ j, k ≤ j → j < L.length → mV σ 256 (u + j) = 0) → R_points_26 ((u + L.length : Nat) : Int) (bZ H.1) ((u + k : Nat) : Int) σ Q := by
  intro m
  induction m with
  | zero =>
    intro k σ hm hkl hk0 hf h1 h2
    exact R_points_26.i ⟨by unfold Rg; omega, by unfold Rg; omega, fun _ => hq σ hf (fun j hj => h1 j (by omega)), fun h9 => absurd h9 (by omega)⟩
  | succ m ih =>
    intro k σ hm hkl hk0 hf h1 h2
    refine R_points_26.i ⟨by unfold Rg; omega, by unfold Rg; omega, fun h9 => hq σ hf (fun j hj => h1 j (by omega)), fun h9 => ?_⟩
    have hlt : k < L.length := by omega
    have okc := hok.gd hlt
    refine R_at.g (hf.g hG) hu hlt ⟨fun h8 => ?_, fun h8 => ?_⟩
    · have nb : sbl (L.getD k 0) = false := by
        rw [← Bool.not_eq_true]
        exact fun h => h8 ((rd_32 okc).mpr h)
      have hk1 : k = 0 ∨ sbl (L.getD (k - 1) 0) = true := by
        rcases hk0 with h | h | h | h
        · exact Or.inl h
        · exact Or.inr h
        · omega
        · rw [nb] at h
          exact absurd h (by decide)
      have fin : ∀ e, k < e → e ≤ L.length → (∀ j, k ≤ j → j < e → sbl (L.getD j 0) = false) → (e = L.length ∨ sbl (L.getD e 0) = true) → R_points_76 ((u + L.length : Nat) : Int) (bZ H.1) ((u + k : Nat) : Int) ((u + e : Nat) : Int) σ Q := fun e hke hel hnb he0 => by
        refine R_points_76.i ?_
        rw [show ((u + k : Nat) : Int) + 1 = ((u + (k + 1) : Nat) : Int) by omega]
        refine po_82 (σ0 := σ0) (H := H) hok hu hG hke hel hk1 hnb (fun σ' f a1 a2 a3 => ?_) e (k + 1) σ (by omega) (Nat.le_refl _) hke hf h1 (fun j x y z => ?_) (fun j x y z => h2 j x z) (fun j x y => h2 j (by omega) y)
        · refine po_122 hok hu hb hR hG hke hel hk1 he0 (fun σ2 f2 b1 b2 => ?_) (e + 1) k σ' (by omega) (Nat.le_refl _) (Or.inl rfl) f (fun j x y => a1 j x) (fun j x y => a2 j x y) a3 (by omega)
          exact ih e σ2 (by omega) hel (by
            rcases he0 with h | h
            · exact Or.inr (Or.inr (Or.inl h))
            · exact Or.inr (Or.inr (Or.inr h))) f2 b1 b2
        · rw [h2 j x (by omega)]
          by_cases hj : j = k
          · rw [hj, dP_k hk1]
          · rw [show j = k + 1 by omega, dP_k1 hk1]
      have walk : ∀ (n e : Nat), e + n = L.length → k ≤ e → (∀ j, k ≤ j → j < e → sbl (L.getD j 0) = false) → R_points_53 ((u + L.length : Nat) : Int) (bZ H.1) ((u + k : Nat) : Int) ((u + e : Nat) : Int) σ Q := by
        intro n
        induction n with
        | zero =>
          intro e he hke hnb
          exact R_points_53.i ⟨by unfold Rg; omega, by unfold Rg; omega, fun _ => fin e (by omega) (by omega) hnb (Or.inl (by omega)), fun h7 => absurd h7 (by omega)⟩
        | succ n ihn =>
          intro e he hke hnb
          have hel : e < L.length := by omega
          have oke := hok.gd hel
          refine R_points_53.i ⟨by unfold Rg; omega, by unfold Rg; omega, fun h7 => absurd h7 (by omega), fun _ => R_at.g (hf.g hG) hu hel ⟨fun h7 => ?_, fun h7 => ?_⟩⟩
          · have hse := (rd_32 oke).mp h7
            refine fin e ?_ (by omega) hnb (Or.inr hse)
            by_cases hke2 : k = e
            · rw [← hke2, nb] at hse
              exact absurd hse (by decide)
            · omega
          · rw [show ((u + e : Nat) : Int) + 1 = ((u + (e + 1) : Nat) : Int) by omega]
            refine ihn (e + 1) (by omega) (by omega) (fun j x y => ?_)
            by_cases hj : j = e
            · rw [hj, ← Bool.not_eq_true]
              exact fun h => h7 ((rd_32 oke).mpr h)
            · exact hnb j x (by omega)
      exact walk (L.length - k) k (by omega) (Nat.le_refl _) (fun j x y => by omega)
    · have hs := (rd_32 okc).mp h8
      rw [show ((u + k : Nat) : Int) + 1 = ((u + (k + 1) : Nat) : Int) by omega]
      refine ih (k + 1) σ (by omega) (by omega) (Or.inr (Or.inl (by rw [Nat.add_sub_cancel]; exact hs))) hf (fun j x => ?_) (fun j x y => h2 j (by omega) y)
      by_cases hj : j = k
      · rw [hj, pt_b hs]
        exact h2 k (Nat.le_refl _) hlt
      · exact h1 j (by omega)
/-- the points of a row -/
theorem R_points.p (hok : okK L) (hu : u + L.length ≤ 139000) (hb : HyB H.2.1 H.2.2.1 H.2.2.2.1 H.2.2.2.2) (hR : HyR σ H.2.1 H.2.2.1 H.2.2.2.1 H.2.2.2.2) (hG : hoG σ 254 255 u L) (hq : ∀ σ', PoF σ σ' u L → (∀ j, j < L.length → mV σ' 256 (u + j) = ptD H L j) → Q (.inl none) σ') : R_points (u : Int) ((u + L.length : Nat) : Int) (bZ H.1) σ Q := by
  refine R_points.i ?_
  have key : ∀ (m k : Nat) (σ' : MS), k + m = L.length → PoF σ σ' u L → (∀ j, j < k → mV σ' 256 (u + j) = 0) → R_points_3 (u : Int) ((u + L.length : Nat) : Int) (bZ H.1) ((u + k : Nat) : Int) σ' Q := by
    intro m
    induction m with
    | zero =>
      intro k σ' hk hf h0
      refine R_points_3.i ⟨by unfold Rg; omega, by unfold Rg; omega, fun _ => ?_, fun h9 => absurd h9 (by omega)⟩
      exact po_26 hok hu hb hR hG hq L.length 0 σ' (by omega) (Nat.zero_le _) (Or.inl rfl) hf (fun j hj => absurd hj (Nat.not_lt_zero _)) (fun j _ hj => h0 j (by omega))
    | succ m ih =>
      intro k σ' hk hf h0
      refine R_points_3.i ⟨by unfold Rg; omega, by unfold Rg; omega, fun h9 => absurd h9 (by omega), fun _ => ⟨by omega, by omega, ?_⟩⟩
      rw [Int.toNat_natCast, show ((u + k : Nat) : Int) + 1 = ((u + (k + 1) : Nat) : Int) by omega]
      refine ih (k + 1) _ (by omega) (hf.w (by omega)) (fun j hj => ?_)
      by_cases e : j = k
      · rw [e, wV_self]
        decide
      · rw [wV_ne (Or.inr (by omega))]
        exact h0 j (by omega)
  exact key L.length 0 σ (by omega) ⟨FrZ.rf, fun _ _ => rfl⟩ (fun j hj => absurd hj (Nat.not_lt_zero _))
end
