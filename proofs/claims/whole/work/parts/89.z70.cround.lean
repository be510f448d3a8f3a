/-! A ROUND: the class, all blocks -/
theorem ki_b {U : List Int} : 0 ≤ kiL U ∧ kiL U ≤ 6 := by
  unfold kiL
  split
  · decide
  · split
    · decide
    · split
      · decide
      · split
        · decide
        · split
          · split <;> decide
          · split <;> decide
theorem bnE_0 {M : List Int} {i : Nat} (h : kdL M i = 0) : bnE M i = i + 1 := bnN_e (fun h9 => by
  rcases of_decide_eq_true h9.2 with h6 | h6
  · omega
  · omega)
section
variable {σ σ0 : MS} {Q : MQ9} {z z' c i : Nat} {M : List Int} {B : BF9} {jo : Bool} {d : RD9} {E : TE} {b : BK9}
theorem CdC.f (h : CdC σ M B z z' jo c d) : CdC σ M B z z' false c d := by
  obtain ⟨a1, a2, a3, a4, ⟨a5, cn, c1, c2, c3, -⟩, a6⟩ := h
  exact ⟨a1, a2, a3, a4, ⟨a5, cn, c1, c2, c3, fun e => absurd e (by decide)⟩, a6⟩
/-- a block begins: its line, its work -/
theorem CdC.sp {o : Int} (h : CdC σ M B z z' jo c d) : CdC (wV (wV (wV σ 127 16 o) 22 0 (d.1.1.1.1 + 15)) 22 1 (d.1.1.1.2.1 + 15)) M B z z' jo c (b15 d.1, d.2) := by
  obtain ⟨a1, k1, ⟨a3, a3', a3''⟩, r1, ⟨n1, cn, c1, c2, c3, c4⟩, bb, t1, i1⟩ := h
  have v : ∀ y k, y ≠ 22 → y ≠ 127 → mV (wV (wV (wV σ 127 16 o) 22 0 (d.1.1.1.1 + 15)) 22 1 (d.1.1.1.2.1 + 15)) y k = mV σ y k := fun y k a b => by
    rw [wV_ne (Or.inl a), wV_ne (Or.inl a), wV_ne (Or.inl b)]
  have w0 : mV (wV (wV (wV σ 127 16 o) 22 0 (d.1.1.1.1 + 15)) 22 1 (d.1.1.1.2.1 + 15)) 22 0 = d.1.1.1.1 + 15 := by
    rw [wV_ne (Or.inr (by decide)), wV_self]
  have w1 : mV (wV (wV (wV σ 127 16 o) 22 0 (d.1.1.1.1 + 15)) 22 1 (d.1.1.1.2.1 + 15)) 22 1 = d.1.1.1.2.1 + 15 := wV_self
  obtain ⟨k1, k2, k3, k4, k5, k6⟩ := k1
  have hx : mX (wV (wV (wV σ 127 16 o) 22 0 (d.1.1.1.1 + 15)) 22 1 (d.1.1.1.2.1 + 15)) = mX σ := rfl
  refine ⟨a1, ⟨RdC.g3 (w := (d.1.1.1.1 + 15, d.1.1.1.2.1 + 15)) k1 (fun q _ _ _ => rfl) rfl (fun y k a => v y k (by omega) (by omega)) w0 w1, ?_, k3, k4, k5, (v _ _ (by decide) (by decide)).trans k6⟩, ⟨a3, a3', a3''⟩, r1.cg (Nat.le_refl _) (fun _ _ _ _ => rfl) (fun k => v 24 k (by decide) (by decide)), ⟨fun k hk => (v _ _ (by decide) (by decide)).trans (n1 k hk), cn, c1, fun k hk => (v _ _ (by decide) (by decide)).trans (c2 k hk), c3, c4⟩, bb, t1, i1⟩
  obtain ⟨g1, g2, g3, g4, g5, -, -⟩ := k2
  exact ⟨g1, g2, g3, g4, g5, w0, w1⟩
theorem crn_31 (hM4 : M.length ≤ 4000) (hMb : smB M) (hB : BfI B) : ∀ (n i : Nat) (jo : Bool) (ln : Int) (d : RD9) (c : Nat) (σ : MS), (mlL M).length ≤ i + n → i ≤ (mlL M).length → RDI d i → CdC σ M B z z' jo c d → (c ≤ 4001 ∧ (i < (mlL M).length → c ≤ ((mlL M).getD i (0, 0)).1)) → mV σ 127 16 = ln → FrRC σ0 σ → (∀ d' ln' c' σ', rnD B M n i jo ln d = .inl (d', ln') → CdC σ' M B z z' false c' d' → c' ≤ 4001 → mV σ' 127 16 = ln' → FrRC σ0 σ' → Setter_closeRound σ' (kV (thQ Q) fun σ1 => Q (.inl none) σ1)) → (∀ x c' σ', rnD B M n i jo ln d = .inr x → TxF σ' x.2.2 → RuC σ' x.2.1 c' → c' ≤ 4001 → mV σ' 127 16 = x.1 → FrRC σ0 σ' → Q (.inr (exN 0)) σ') → Setter_round_31 (bZ jo) (i : Int) σ Q := by
  have ml4 : (mlL M).length ≤ 4000 := Nat.le_trans (mlF_l (T := M) M.length 0) hM4
  intro n
  induction n with
  | zero =>
    intro i jo ln d c σ hn hi h hC hc h16 hf hy hno
    have l4 : (mX σ 204).length = (mlL M).length := by
      rw [hC.1.2.2.2]
      exact List.length_map ..
    refine Setter_round_31.i ?_
    rw [l4]
    exact ⟨fun _ => hy d ln c σ rfl hC.f hc.1 h16 hf, fun h9 => absurd h9 (by omega)⟩
  | succ n ih =>
    intro i jo ln d c σ hn hi h hC hc h16 hf hy hno
    have l4 : (mX σ 204).length = (mlL M).length := by
      rw [hC.1.2.2.2]
      exact List.length_map ..
    refine Setter_round_31.i ?_
    rw [l4]
    by_cases he : (mlL M).length ≤ i
    · refine ⟨fun _ => hy d ln c σ ?_ hC.f hc.1 h16 hf, fun h9 => absurd h9 (by omega)⟩
      unfold rnD
      rw [if_pos he]
    · have hil : i < (mlL M).length := by omega
      have bn := bnE_l hil
      have eK : rgt (mX σ 204) (i : Int) = kdL M i := by
        rw [hC.1.2.2.2, rgt_n (by unfold mlK; rw [List.length_map]; exact hil)]
        unfold mlK kdL List.getD
        rw [List.getElem?_map, List.getElem?_eq_getElem hil]
        rfl
      rw [eK]
      have kb : 0 ≤ kdL M i ∧ kdL M i ≤ 6 := ki_b
      have cn : ∀ j, i + 1 ≤ j → (j < (mlL M).length → c + (lnU M i).length + 1 ≤ ((mlL M).getD j (0, 0)).1) ∧ (j < (mlL M).length → c ≤ ((mlL M).getD j (0, 0)).1) := fun j hj => by
        obtain ⟨lu, le1, le2⟩ := lnU_l hil
        have hci := hc.2 hil
        refine ⟨fun h9 => ?_, fun h9 => ?_⟩
        · have p := (ml_p (T := M) hil).2 (by omega)
          have m := ml_mo9 (M := M) (i := i + 1) (j := j) hj h9
          omega
        · have m := ml_mo9 (M := M) (i := i) (j := j) (by omega) h9
          omega
      have cl : c + (lnU M i).length + 1 ≤ 4001 := by
        obtain ⟨lu, le1, le2⟩ := lnU_l hil
        have hci := hc.2 hil
        omega
      refine ⟨fun h9 => absurd h9 (by omega), fun _ => Setter_blockEnd.c hC.1.1 hM4 hC.1.2 hil ?_⟩
      show Rg ((i : Int) + 1) ∧ _
      rw [show max ((i : Int) + 1) (bnE M i : Int) = (bnE M i : Int) by omega]
      -- the next block
      have nxt : ∀ (jo' : Bool) (ln' : Int) (d' : RD9) (c' : Nat) (σ' : MS), jo' = decide (kdL M i = 5) → (∀ r, rnD B M (n + 1) i jo ln d = r ↔ rnD B M n (bnE M i) jo' ln' d' = r) → RDI d' (bnE M i) → CdC σ' M B z z' jo' c' d' → (c' ≤ 4001 ∧ (bnE M i < (mlL M).length → c' ≤ ((mlL M).getD (bnE M i) (0, 0)).1)) → mV σ' 127 16 = ln' → FrRC σ0 σ' → Setter_round_341 (bnE M i : Int) (kdL M i) σ' Q := fun jo' ln' d' c' σ' hj hr h' hC' hc' h16' hf' => by
        have := ih (bnE M i) jo' ln' d' c' σ' (by omega) bn.2 h' hC' hc' h16' hf' (fun d2 l2 c2 σ2 a1 => hy d2 l2 c2 σ2 ((hr _).mpr a1)) (fun x c2 σ2 a1 => hno x c2 σ2 ((hr _).mpr a1))
        rw [hj] at this
        refine Setter_round_341.i ⟨fun h9 => Setter_round_352.i ?_, fun h9 => Setter_round_352.i ?_⟩
        · rw [decide_eq_false h9] at this
          exact this
        · rw [decide_eq_true h9] at this
          exact this
      refine ⟨by unfold Rg; omega, fun h0 => ?_, fun h0 => ⟨by unfold Rg; omega, ?_⟩⟩
      · have e0 := bnE_0 h0
        have hr : ∀ r, rnD B M (n + 1) i jo ln d = r ↔ rnD B M n (bnE M i) false ln d = r := fun r => by
          rw [e0]
          conv => lhs; lhs; unfold rnD
          rw [if_neg he, if_pos h0]
        refine Setter_round_90.i ⟨fun _ => nxt false ln d c σ (by rw [h0]; rfl) hr (h.mo (by omega)) hC.f ⟨hc.1, fun h9 => (cn _ (by omega)).2 h9⟩ h16 hf, fun h9 => absurd (h0.symm.trans h9) (by decide), fun h9 => absurd (h0.symm.trans h9) (by decide), fun h9 => absurd (h0.symm.trans h9) (by decide), fun h9 => absurd (h0.symm.trans h9) (by decide), fun h9 => absurd (h0.symm.trans h9) (by decide), fun h9 => absurd (h0.symm.trans h9) (by decide), trivial⟩
      · have f1 : FrRC σ (wV σ 127 16 ((i : Int) + 1)) := ⟨fun _ _ => rfl, rfl, fun y k a => wV_ne (by omega)⟩
        have ti := h.1.1
        refine Purse_spend.g (n := 15) (h := d.1.1.1.1) (e := d.1.1.1.2.1) (by decide) ((wV_ne (Or.inl (by decide))).trans hC.2.1.1.1.1) ((wV_ne (Or.inl (by decide))).trans hC.2.1.1.1.2) ti.1.1 ti.1.2.1 (fun h15 => ?_) (fun h15 tx => ?_)
        · have hr : ∀ r, rnD B M (n + 1) i jo ln d = r ↔ (match blD B M i jo (b15 d.1, d.2) with
            | .inr x => (.inr ((i : Int) + 1, x) : (RD9 × Int) ⊕ (Int × RF9))
            | .inl d' => rnD B M n (bnE M i) (decide (kdL M i = 5)) ((i : Int) + 1) d') = r := fun r => by
            conv => lhs; lhs; unfold rnD
            rw [if_neg he, if_neg h0, if_neg h15]
            rfl
          have hC2 := hC.sp (o := (i : Int) + 1)
          have h162 : mV (wV (wV (wV σ 127 16 ((i : Int) + 1)) 22 0 (d.1.1.1.1 + 15)) 22 1 (d.1.1.1.2.1 + 15)) 127 16 = (i : Int) + 1 := by
            rw [wV_ne (Or.inl (by decide)), wV_ne (Or.inl (by decide)), wV_self]
          have f2 : FrRC σ0 (wV (wV (wV σ 127 16 ((i : Int) + 1)) 22 0 (d.1.1.1.1 + 15)) 22 1 (d.1.1.1.2.1 + 15)) := (hf.tr f1).tr ⟨fun _ _ => rfl, rfl, fun y k a => by
            rw [wV_ne (Or.inl (by omega)), wV_ne (Or.inl (by omega))]⟩
          show Setter_round_90 (bZ jo) (bnE M i : Int) (i : Int) (kdL M i) (wV (wV (wV σ 127 16 ((i : Int) + 1)) 22 0 (d.1.1.1.1 + 15)) 22 1 (d.1.1.1.2.1 + 15)) Q
          generalize wV (wV (wV σ 127 16 ((i : Int) + 1)) 22 0 (d.1.1.1.1 + 15)) 22 1 (d.1.1.1.2.1 + 15) = σ2 at hC2 h162 f2
          -- how a block's outcome goes on
          have yes : ∀ (jo' : Bool) (c' : Nat) (d' : RD9) (σ' : MS), jo' = decide (kdL M i = 5) → blD B M i jo (b15 d.1, d.2) = .inl d' → CdC σ' M B z z' jo' c' d' → (c' ≤ 4001 ∧ (bnE M i < (mlL M).length → c' ≤ ((mlL M).getD (bnE M i) (0, 0)).1)) → FrRC σ2 σ' → mV σ' 127 16 = (i : Int) + 1 → Setter_round_341 (bnE M i : Int) (kdL M i) σ' Q := fun jo' c' d' σ' hj e1 e2 e3 e4 e5 => nxt jo' ((i : Int) + 1) d' c' σ' hj (fun r => by rw [hr r, e1, hj]) (blD_i hB hMb hM4 hil h h15 e1) e2 e3 e5 (f2.tr e4)
          have bad : ∀ (c' : Nat) (x : RF9) (σ' : MS), blD B M i jo (b15 d.1, d.2) = .inr x → TxF σ' x.2 → RuC σ' x.1 c' → c' ≤ 4001 → FrRC σ2 σ' → mV σ' 127 16 = (i : Int) + 1 → Q (.inr (exN 0)) σ' := fun c' x σ' e1 e2 e3 e4 e5 e6 => hno ((i : Int) + 1, x) c' σ' ((hr _).mpr (by rw [e1])) e2 e3 e4 e6 (f2.tr e5)
          have cc : c ≤ 4001 ∧ (bnE M i < (mlL M).length → c ≤ ((mlL M).getD (bnE M i) (0, 0)).1) := ⟨hc.1, fun h9 => (cn _ (by omega)).2 h9⟩
          refine Setter_round_90.i ⟨fun h9 => absurd h9 (by omega), fun k => ?_, fun k => ?_, fun k => ?_, fun k => ?_, fun k => ?_, fun k => ?_, trivial⟩
          · have eb : blD B M i jo (b15 d.1, d.2) = dirD B M i (b15 d.1, d.2) := if_pos k
            exact blc_1 (N := fun σ' => Setter_round_341 (bnE M i : Int) (kdL M i) σ' Q) hil hM4 hMb hB (hc.2 hil) h h15 hC2 h162 (fun d' σ' a1 a2 a3 a4 => yes false _ d' σ' (by rw [k]; rfl) (eb.trans a1) a2 ⟨cl, fun h9 => (cn _ (by omega)).1 h9⟩ a3 a4) (fun x σ' a1 a2 a3 a4 a5 => bad _ x σ' (eb.trans a1) a2 a3 cl a4 a5)
          · have eb : blD B M i jo (b15 d.1, d.2) = heaD B M i (b15 d.1, d.2) := by
              unfold blD
              rw [if_neg (by omega), if_pos k]
            exact blc_2 (N := fun σ' => Setter_round_341 (bnE M i : Int) (kdL M i) σ' Q) hil k hM4 hMb hB h h15 hC2 h162 (fun d' σ' a1 a2 a3 a4 => yes false c d' σ' (by rw [k]; rfl) (eb.trans a1) a2 cc a3 a4) (fun x σ' a1 a2 a3 a4 a5 => bad c x σ' (eb.trans a1) a2 a3 hc.1 a4 a5)
          · have eb : blD B M i jo (b15 d.1, d.2) = upB (b15 d.1, d.2) (tbF ((i : Int) + 1) (rdE B d.2.2.1 d.2.2.2.2.2) (rdH d.2.2.1) d.2.2.1.1 M i (bnE M i) (b15 d.1)) := by
              unfold blD
              rw [if_neg (by omega), if_neg (by omega), if_pos k]
            exact blc_3 (N := fun σ' => Setter_round_341 (bnE M i : Int) (kdL M i) σ' Q) hil k hM4 hMb hB h h15 hC2 h162 (fun d' σ' a1 a2 a3 a4 => yes false c d' σ' (by rw [k]; rfl) (eb.trans a1) a2 cc a3 a4) (fun x σ' a1 a2 a3 a4 a5 => bad c x σ' (eb.trans a1) a2 a3 hc.1 a4 a5)
          · have eb : blD B M i jo (b15 d.1, d.2) = upB (b15 d.1, d.2) (rwD ((i : Int) + 1) d.2.2.1.1 M i (bnE M i) (b15 d.1)) := by
              unfold blD
              rw [if_neg (by omega), if_neg (by omega), if_neg (by omega), if_pos k]
            exact blc_4 (N := fun σ' => Setter_round_341 (bnE M i : Int) (kdL M i) σ' Q) hil k hM4 h h15 hC2 h162 (fun d' σ' a1 a2 a3 a4 => yes false c d' σ' (by rw [k]; rfl) (eb.trans a1) a2 cc a3 a4) (fun x σ' a1 a2 a3 a4 a5 => bad c x σ' (eb.trans a1) a2 a3 hc.1 a4 a5)
          · have eb : blD B M i jo (b15 d.1, d.2) = itmD B M i jo (b15 d.1, d.2) := by
              unfold blD
              rw [if_neg (by omega), if_neg (by omega), if_neg (by omega), if_neg (by omega), if_pos k]
            exact blc_5 (N := fun σ' => Setter_round_341 (bnE M i : Int) (kdL M i) σ' Q) (F := fun sp σ' => Setter_round_302 (bnE M i : Int) (kdL M i) sp σ' Q) (fun sp σ' h9 => Setter_round_302.i h9) hil k hM4 hMb hB h h15 hC2 h162 (fun d' σ' a1 a2 a3 a4 => yes true c d' σ' (by rw [k]; rfl) (eb.trans a1) a2 cc a3 a4) (fun x σ' a1 a2 a3 a4 a5 => bad c x σ' (eb.trans a1) a2 a3 hc.1 a4 a5)
          · have eb : blD B M i jo (b15 d.1, d.2) = parD B M i (b15 d.1, d.2) := by
              unfold blD
              rw [if_neg (by omega), if_neg (by omega), if_neg (by omega), if_neg (by omega), if_neg (by omega)]
            exact blc_6 (N := fun σ' => Setter_round_341 (bnE M i : Int) (kdL M i) σ' Q) hil hM4 hMb hB h h15 hC2 h162 (fun d' σ' a1 a2 a3 a4 => yes false c d' σ' (by rw [k]; rfl) (eb.trans a1) a2 cc a3 a4) (fun x σ' a1 a2 a3 a4 a5 => bad c x σ' (eb.trans a1) a2 a3 hc.1 a4 a5)
        · refine hno ((i : Int) + 1, d.2.2.1, (8, d.1.1.1.1, d.1.1.1.2.1)) c _ ?_ tx ?_ hc.1 ?_ ?_
          · conv => lhs; unfold rnD
            rw [if_neg he, if_neg h0, if_pos h15]
          · exact hC.2.2.2.1.cg (Nat.le_refl _) (fun _ _ _ _ => rfl) (fun k => by rw [wV_ne (Or.inl (by decide)), wV_ne (Or.inl (by decide))])
          · rw [wV_ne (Or.inl (by decide)), wV_self]
          · exact (hf.tr f1).tr ⟨fun _ _ => rfl, rfl, fun y k a => wV_ne (Or.inl (by omega))⟩
end
