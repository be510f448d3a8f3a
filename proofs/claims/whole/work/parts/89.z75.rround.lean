/-! A ROUND: the reference, all blocks -/
def AlG9 (nw z k : Nat) : Prop := AlD9 nw z k ∨ (z = 246 ∧ (k = 29 ∨ k = 30))
/-- what a round's blocks leave -/
def FrG9 (nw : Nat) (σ σ' : MS) : Prop := FrA (AlG9 nw) σ σ'
section
variable {σ σ0 σ1 : MS} {Q : MQ9} {nw i : Nat} {M : List Int} {B : BF9} {jo : Bool} {d : RD9} {E : TE} {b : BK9}
theorem FrG9.tr {σ2 : MS} (h : FrG9 nw σ σ1) (h' : FrG9 nw σ1 σ2) : FrG9 nw σ σ2 := FrA.tr h h'
theorem FrG9.dd (h : FrD9 nw σ σ1) : FrG9 nw σ σ1 := FrA.mo h (fun _ _ a => Or.inl a)
theorem FrG9.z {S9 K9 : List Nat} (h : FrZ S9 K9 σ σ1) (hs : S9 = []) (hk : ∀ x ∈ K9, x ∈ [29, 30, 28, 32, 33]) : FrG9 nw σ σ1 := ⟨h.1, h.2.1, fun z k n => h.2.2 z k (by rw [hs]; exact List.not_mem_nil) (by
  by_cases h6 : z = 246
  · refine Or.inr (fun e => n ?_)
    have a := hk k e
    have q : k ∈ RDK ∨ (k = 29 ∨ k = 30) := by
      simp only [List.mem_cons, List.not_mem_nil, or_false] at a
      rcases a with rfl | rfl | rfl | rfl | rfl
      · exact Or.inr (Or.inl rfl)
      · exact Or.inr (Or.inr rfl)
      · exact Or.inl (by decide)
      · exact Or.inl (by decide)
      · exact Or.inl (by decide)
    rcases q with q | q
    · exact Or.inl (Or.inr (Or.inr ⟨h6, q⟩))
    · exact Or.inr ⟨h6, q⟩
  · exact Or.inl h6)⟩
theorem D9.k (f : FrD9 nw σ σ1) {k : Nat} (h : k = 29 ∨ k = 30) : mV σ1 246 k = mV σ 246 k := f.2.2 246 k (fun a => by
  rcases a with a | a | ⟨-, a⟩
  · exact noR9 (noP9 (fun _ => by rcases h with rfl | rfl <;> decide) (by decide) (fun e => absurd e (by decide))) (fun _ => by omega) (by decide) (fun e => absurd e (by decide)) a
  · exact absurd a (by decide)
  · rcases h with rfl | rfl <;> exact absurd a (by decide))
/-- work spent ahead of a block -/
theorem BkR.w9 {s : TS} (h : BkR σ E nw b) (f : FrZ [] [29, 30, 32, 33] σ σ1) (hs : s.2 = b.1.2) (w32 : mV σ1 246 32 = s.1.1) (w33 : mV σ1 246 33 = s.1.2.1) (hev : b.1.1.2.1 ≤ s.1.2.1) : BkR σ1 E nw (s, b.2) := by
  obtain ⟨r1, r2, ⟨m1, m2, m3, m4, m5⟩, r4, ⟨r5, r6⟩, ⟨r7, r8⟩, r9⟩ := h
  have z : ∀ y j, y ≠ 246 → mV σ1 y j = mV σ y j := fun y j c => f.z List.not_mem_nil c
  have k : ∀ j, j ∉ [29, 30, 32, 33] → mV σ1 246 j = mV σ 246 j := fun j a => f.f a (by decide)
  have w33' : mV σ 246 33 = b.1.1.2.1 := r1.2.2.1
  have um : s.2.2 = b.1.2.2 := by rw [hs]
  refine ⟨⟨(k _ (by decide)).trans r1.1, w32, w33, LiR.cg r1.2.2.2 (k _ (by decide)) (k _ (by decide)) (fun y j a _ => z y j (by omega)) (fun j _ => ⟨z _ _ (by decide), z _ _ (by decide)⟩)⟩, r2.k f (by decide) (by decide), ?_, ?_, ⟨⟨(k _ (by decide)).trans r5.1, fun i hi => ?_⟩, (k _ (by decide)).trans r6⟩, ⟨?_, ?_⟩, ?_⟩
  · show TmR σ1 nw s.2.2
    rw [um]
    exact ⟨m1.z f (by decide) (by decide), m2.z f (by decide), m3.z f (by decide) (by decide), (k _ (by decide)).trans m4, (k _ (by decide)).trans m5⟩
  · unfold UnB at r4 ⊢
    rw [k 85 (by decide), w33]
    omega
  · rw [z 320 _ (by decide), z 321 _ (by decide)]
    exact r5.2 i hi
  · show MkL σ1 284 b.2.1.2 s.2.2.2.1.2.2
    rw [um]
    exact r7.cg (fun j => z _ _ (by decide))
  · show MkL σ1 297 b.2.1.2 s.2.2.2.2.1.2
    rw [um]
    exact r8.cg (fun j => z _ _ (by decide))
  · refine ⟨fun k hk1 => ?_, r9.2.1, fun i hi h0 => ?_⟩
    · rw [z 303 _ (by decide), z 304 _ (by decide)]
      exact r9.1 k hk1
    · unfold nlA
      rw [z 317 _ (by decide), z 318 _ (by decide)]
      exact r9.2.2 i hi h0
theorem CdR.sp (h : CdR σ M B nw jo d) (f : FrZ [] [29, 30, 32, 33] σ σ1) (w32 : mV σ1 246 32 = d.1.1.1.1 + 15) (w33 : mV σ1 246 33 = d.1.1.1.2.1 + 15) : CdR σ1 M B nw jo (b15 d.1, d.2) := by
  obtain ⟨h1, h2, h3, h4, ⟨h5, cn, cl, ch, cb, ce⟩, h6⟩ := h
  exact ⟨h1.z f (by decide) (by decide), h2.w9 (s := (b15 d.1).1) f rfl w32 w33 (by show d.1.1.1.2.1 ≤ d.1.1.1.2.1 + 15; omega), h3.z9 f (by decide) (by decide), h4.z f (by decide) (by decide), ⟨fun k hk => (f.z List.not_mem_nil (by decide)).trans (h5 k hk), cn, cl, fun k hk => (f.z List.not_mem_nil (by decide)).trans (ch k hk), cb, ce⟩, h6.z9 f (by decide) (by decide)⟩
theorem CdR.j0 (h : CdR σ M B nw jo d) : CdR σ M B nw false d := by
  obtain ⟨h1, h2, h3, h4, ⟨h5, cn, cl, ch, cb, -⟩, h6⟩ := h
  exact ⟨h1, h2, h3, h4, ⟨h5, cn, cl, ch, cb, fun e => absurd e (by decide)⟩, h6⟩
theorem bnE_12 (hk : kdL M i = 1 ∨ kdL M i = 2) : bnE M i = i + 1 := bnN_e (fun h => by
  rcases of_decide_eq_true h.2 with h9 | h9
  · omega
  · omega)
theorem ki_r {U : List Int} : 0 ≤ kiL U ∧ kiL U ≤ 6 := by
  unfold kiL
  split
  · decide
  · split
    · decide
    · split
      · decide
      · split
        · decide
        · split
          · split <;> decide
          · split <;> decide
theorem src_at (h : ScR σ M) (hi : i < (mlL M).length) {j : Nat} (hj : j < (lnU M i).length) : mV σ 252 (((mlL M).getD i (0, 0)).1 + j) = (lnU M i).getD j 0 := by
  obtain ⟨lu, le1, le2⟩ := lnU_l hi
  rw [h.2.2.1 _ (by omega)]
  unfold lnU
  exact (sgT_at (by omega)).symm
/-- the block of line i, the reference -/
theorem R_block.p (hi : i < (mlL M).length) (hk0 : ¬ kdL M i = 0) (hMb : smB M) (hB : BfI B) (h : RDI d i) (h15 : ¬ (60000 < d.1.1.1.1 + 15 ∨ 400000 < d.1.1.1.2.1 + 15)) (hC : CdR σ M B nw jo (b15 d.1, d.2)) (h29 : mV σ 246 29 = (i : Int) + 1) (hq : RyR Q σ M B nw (decide (kdL M i = 5)) (blD B M i jo (b15 d.1, d.2))) : R_block (kdL M i) (i : Int) ((bnE M i : Int) - (i : Int)) (bZ jo) σ Q := by
  have bn := bnE_l hi
  have hS := hC.1
  have M4 := hS.2.1
  have ml4 : (mlL M).length ≤ 4000 := Nat.le_trans (mlF_l (T := M) M.length 0) M4
  have kr := ki_r (U := sgT M ((mlL M).getD i (0, 0)).1 ((mlL M).getD i (0, 0)).2)
  have kr : 0 ≤ kdL M i ∧ kdL M i ≤ 6 := kr
  obtain ⟨lu, le1, le2⟩ := lnU_l hi
  have e253 : mV σ 253 (i : Int).toNat = (((mlL M).getD i (0, 0)).1 : Int) := by
    rw [Int.toNat_natCast]
    exact hS.2.2.2.2 i hi
  refine R_block.i ⟨by omega, by omega, ?_⟩
  rw [e253, show ((i : Int) + ((bnE M i : Int) - (i : Int))) - 1 = ((bnE M i - 1 : Nat) : Int) by omega]
  refine R_lineEnd.p hS.1 M4 hS.2.2.1 hS.2.2.2 (by omega) ?_
  refine ⟨by unfold Rg; omega, fun k => ?_, fun k => ?_, fun k => ?_, fun k => ?_, fun k => ?_, fun k => ?_, trivial⟩
  · have eb : blD B M i jo (b15 d.1, d.2) = parD B M i (b15 d.1, d.2) := by
      unfold blD
      rw [if_neg (by omega), if_neg (by omega), if_neg (by omega), if_neg (by omega), if_neg (by omega)]
    rw [eb, decide_eq_false (by omega)] at hq
    exact blr_6 hi hMb hB h h15 hC h29 hq
  · have eb : blD B M i jo (b15 d.1, d.2) = dirD B M i (b15 d.1, d.2) := if_pos k
    rw [eb, decide_eq_false (by omega)] at hq
    rw [bnE_12 (Or.inl k), show i + 1 - 1 = i from rfl]
    exact blr_1 hi k hMb hB h h15 hC h29 hq
  · have eb : blD B M i jo (b15 d.1, d.2) = heaD B M i (b15 d.1, d.2) := by
      unfold blD
      rw [if_neg (by omega), if_pos k]
    rw [eb, decide_eq_false (by omega)] at hq
    rw [bnE_12 (Or.inr k), show i + 1 - 1 = i from rfl]
    have lv := lv_b (ki_2 k)
    have lv3 : lvL (lnU M i) = (rnW 61 (lnU M i) : Int) := lv.2.2.1
    have lv4 : rnW 61 (lnU M i) < (lnU M i).length := lv.2.2.2.1
    have key := blr_2 (Q := kV (thQ Q) fun σ1 => Q (.inl none) σ1) hi k hMb hB h h15 hC h29 hq
    have go : ∀ (n j : Nat), j + n = rnW 61 (lnU M i) → R_block_88 (((mlL M).getD i (0, 0)).1 : Int) (((mlL M).getD i (0, 0)).2 : Int) (j : Int) σ Q := by
      intro n
      induction n with
      | zero =>
        intro j hj
        have e : j = rnW 61 (lnU M i) := by omega
        rw [e]
        refine R_block_88.i ⟨by omega, by omega, ?_⟩
        rw [show ((((mlL M).getD i (0, 0)).1 : Int) + (rnW 61 (lnU M i) : Int)).toNat = ((mlL M).getD i (0, 0)).1 + rnW 61 (lnU M i) by omega, src_at hS hi lv4]
        refine ⟨fun _ => ?_, fun h9 => absurd h9 (rnW_out lv4)⟩
        rw [show (((mlL M).getD i (0, 0)).1 : Int) + (rnW 61 (lnU M i) : Int) + 1 = ((((mlL M).getD i (0, 0)).1 + ((lvL (lnU M i)).toNat + 1) : Nat) : Int) by omega, ← lv3]
        exact key
      | succ n ih =>
        intro j hj
        refine R_block_88.i ⟨by omega, by omega, ?_⟩
        rw [show ((((mlL M).getD i (0, 0)).1 : Int) + (j : Int)).toNat = ((mlL M).getD i (0, 0)).1 + j by omega, src_at hS hi (by omega), rnW_in (by omega : j < rnW 61 (lnU M i))]
        refine ⟨fun h9 => absurd rfl h9, fun _ => ?_⟩
        rw [show (j : Int) + 1 = ((j + 1 : Nat) : Int) by omega]
        exact ih (j + 1) (by omega)
    exact go (rnW 61 (lnU M i)) 0 (by omega)
  · have eb : blD B M i jo (b15 d.1, d.2) = upB (b15 d.1, d.2) (tbF ((i : Int) + 1) (rdE B d.2.2.1 d.2.2.2.2.2) (rdH d.2.2.1) d.2.2.1.1 M i (bnE M i) (b15 d.1)) := by
      unfold blD
      rw [if_neg (by omega), if_neg (by omega), if_pos k]
    rw [eb, decide_eq_false (by omega)] at hq
    exact blr_3 hi k hMb hB h h15 hC h29 hq
  · have eb : blD B M i jo (b15 d.1, d.2) = upB (b15 d.1, d.2) (rwD ((i : Int) + 1) d.2.2.1.1 M i (bnE M i) (b15 d.1)) := by
      unfold blD
      rw [if_neg (by omega), if_neg (by omega), if_neg (by omega), if_pos k]
    rw [eb, decide_eq_false (by omega)] at hq
    exact blr_4 hi k hMb hB h h15 hC h29 hq
  · have eb : blD B M i jo (b15 d.1, d.2) = itmD B M i jo (b15 d.1, d.2) := by
      unfold blD
      rw [if_neg (by omega), if_neg (by omega), if_neg (by omega), if_neg (by omega), if_pos k]
    rw [eb, decide_eq_true k] at hq
    have hit := of_decide_eq_true (ki_5 (U := sgT M ((mlL M).getD i (0, 0)).1 ((mlL M).getD i (0, 0)).2) k)
    have hit : rnW 32 (lnU M i) % 2 = 0 ∧ rnW 32 (lnU M i) ≤ 4 ∧ ((lnU M i).getD (rnW 32 (lnU M i)) 0 = 45 ∨ (lnU M i).getD (rnW 32 (lnU M i)) 0 = 35) ∧ rnW 32 (lnU M i) + 1 < (lnU M i).length ∧ (lnU M i).getD (rnW 32 (lnU M i) + 1) 0 = 32 := hit
    have eq : 2 * itQ (lnU M i) = rnW 32 (lnU M i) := by
      unfold itQ
      omega
    have key := blr_5 (Q := kV (thQ Q) fun σ1 => Q (.inl none) σ1) hi k hMb hB h h15 hC h29 hq
    have lv4 : rnW 32 (lnU M i) < (lnU M i).length := by omega
    have go : ∀ (n j : Nat), j + n = rnW 32 (lnU M i) → R_block_131 (bZ jo) (((mlL M).getD i (0, 0)).1 : Int) (((mlL M).getD (bnE M i - 1) (0, 0)).2 : Int) ((((mlL M).getD i (0, 0)).1 + j : Nat) : Int) σ Q := by
      intro n
      induction n with
      | zero =>
        intro j hj
        have e : j = rnW 32 (lnU M i) := by omega
        rw [e]
        refine R_block_131.i ⟨by omega, by omega, ?_⟩
        rw [Int.toNat_natCast, src_at hS hi lv4]
        refine ⟨fun _ => ⟨by omega, by omega, fun h35 => ?_, fun h35 => ?_⟩, fun h9 => absurd h9 (rnW_out lv4)⟩
        · have hh : itH (lnU M i) = false := decide_eq_false h35
          rw [hh] at key
          refine R_block_172.i ?_
          rw [show ((((mlL M).getD i (0, 0)).1 + rnW 32 (lnU M i) : Nat) : Int) - (((mlL M).getD i (0, 0)).1 : Int) = 2 * (itQ (lnU M i) : Int) by omega, show ((((mlL M).getD i (0, 0)).1 + rnW 32 (lnU M i) : Nat) : Int) + 2 = ((((mlL M).getD i (0, 0)).1 + (2 * itQ (lnU M i) + 2) : Nat) : Int) by omega]
          exact key
        · have hh : itH (lnU M i) = true := decide_eq_true h35
          rw [hh] at key
          refine R_block_172.i ?_
          rw [show ((((mlL M).getD i (0, 0)).1 + rnW 32 (lnU M i) : Nat) : Int) - (((mlL M).getD i (0, 0)).1 : Int) = 2 * (itQ (lnU M i) : Int) by omega, show ((((mlL M).getD i (0, 0)).1 + rnW 32 (lnU M i) : Nat) : Int) + 2 = ((((mlL M).getD i (0, 0)).1 + (2 * itQ (lnU M i) + 2) : Nat) : Int) by omega]
          exact key
      | succ n ih =>
        intro j hj
        refine R_block_131.i ⟨by omega, by omega, ?_⟩
        rw [Int.toNat_natCast, src_at hS hi (by omega), rnW_in (by omega : j < rnW 32 (lnU M i))]
        refine ⟨fun h9 => absurd rfl h9, fun _ => ?_⟩
        rw [show ((((mlL M).getD i (0, 0)).1 + j : Nat) : Int) + 1 = ((((mlL M).getD i (0, 0)).1 + (j + 1) : Nat) : Int) by omega]
        exact ih (j + 1) (by omega)
    have := go (rnW 32 (lnU M i)) 0 (by omega)
    rw [show ((((mlL M).getD i (0, 0)).1 + 0 : Nat) : Int) = (((mlL M).getD i (0, 0)).1 : Int) by omega] at this
    exact this
/-- all blocks, the reference -/
theorem rrn_157 (hMb : smB M) (hB : BfI B) : ∀ (n i : Nat) (jo : Bool) (ln l2 : Int) (d : RD9) (σ : MS), (mlL M).length ≤ i + n → i ≤ (mlL M).length → RDI d i → CdR σ M B nw jo d → mV σ 246 30 = ln → ((jo = true ∧ l2 = (i : Int)) ∨ (jo = false ∧ -1 ≤ l2 ∧ l2 < (i : Int))) → (∀ x σ', rnD B M n i jo ln d = .inl x → CdR σ' M B nw false x.1 → mV σ' 246 30 = x.2 → FrG9 nw σ σ' → Q (.inl none) σ') → (∀ l x σ', rnD B M n i jo ln d = .inr (l, x) → ¬ x.2.1 = 0 → TxR σ' x.2 → UnB σ' → RuR σ' x.1 → mV σ' 246 29 = l → FrG9 nw σ σ' → Q (.inl none) σ') → R_round_157 (i : Int) l2 σ Q := by
  intro n
  induction n with
  | zero =>
    intro i jo ln l2 d σ hn hi h hC h30 hl hy hno
    have hS := hC.1
    have ml4 : (mlL M).length ≤ 4000 := Nat.le_trans (mlF_l (T := M) M.length 0) hS.2.1
    have e12 : mV σ 246 12 = ((mlL M).length : Int) := hS.2.2.2.1
    exact R_round_157.i ⟨by unfold Rg; omega, fun _ => hy (d, ln) σ rfl hC.j0 h30 FrA.rf, fun h9 => absurd h9 (by omega)⟩
  | succ n ih =>
    intro i jo ln l2 d σ hn hi h hC h30 hl hy hno
    have hS := hC.1
    have ml4 : (mlL M).length ≤ 4000 := Nat.le_trans (mlF_l (T := M) M.length 0) hS.2.1
    have e12 : mV σ 246 12 = ((mlL M).length : Int) := hS.2.2.2.1
    have e28 : mV σ 246 28 = 0 := hC.2.1.1.1
    refine R_round_157.i ⟨by unfold Rg; omega, fun h9 => hy (d, ln) σ ?_ hC.j0 h30 FrA.rf, fun h9 => ⟨fun h8 => absurd e28 h8, fun _ => ?_⟩⟩
    · unfold rnD
      rw [if_pos (by omega)]
    · have hil : i < (mlL M).length := by omega
      have he : ¬ (mlL M).length ≤ i := by omega
      have bn := bnE_l hil
      refine R_kindOf.l hS hil ?_
      refine ⟨fun h0 => ?_, fun h0 => ?_⟩
      · refine ⟨by unfold Rg; omega, ?_⟩
        generalize hσ2 : wV (wV σ 246 29 ((i : Int) + 1)) 246 30 ((i : Int) + 1) = σ2
        have f2 : FrZ [] [29, 30, 32, 33] σ σ2 := by
          rw [← hσ2]
          exact (FrZ.wf (by decide)).tr (FrZ.wf (by decide))
        have v29 : mV σ2 246 29 = (i : Int) + 1 := by
          rw [← hσ2, wV_ne (Or.inr (by decide)), wV_self]
        have v30 : mV σ2 246 30 = (i : Int) + 1 := by
          rw [← hσ2, wV_self]
        have fk : ∀ k, k ≠ 29 → k ≠ 30 → mV σ2 246 k = mV σ 246 k := fun k a c => by
          rw [← hσ2, wV_ne (Or.inr (by omega)), wV_ne (Or.inr (by omega))]
        have hS2 : ScR σ2 M := hS.z f2 (by decide) (by decide)
        have g2 : FrG9 nw σ σ2 := by
          rw [← hσ2]
          exact FrG9.z (S9 := []) (K9 := [29, 30]) ((FrZ.wf (by decide)).tr (FrZ.wf (by decide))) rfl (by decide)
        have go : R_round_305 (i : Int) l2 (kdL M i) ((bnE M i : Int) - (i : Int)) σ2 Q := by
          refine R_round_305.i ?_
          have ti := h.1.1
          have hW : RxW σ2 (sZz d.1.1 (mV σ2 246 18) (tx0 d.1.1).2) := ⟨(fk _ (by decide) (by decide)).trans e28, (fk _ (by decide) (by decide)).trans hC.2.1.1.2.1, (fk _ (by decide) (by decide)).trans hC.2.1.1.2.2.1, rfl⟩
          have hBd : BdR 0 0 (sZz d.1.1 (mV σ2 246 18) (tx0 d.1.1).2) := ⟨ti.1.1, ti.1.2.1, by
            have := ti.1.1.1
            have : 0 ≤ d.1.1.1.1 := this
            show ((0 + 0 + 0 : Nat) : Int) ≤ d.1.1.1.1 + 100
            omega⟩
          by_cases h15 : 60000 < d.1.1.1.1 + 15 ∨ 400000 < d.1.1.1.2.1 + 15
          · have ef : tSp 15 (sZz d.1.1 (mV σ2 246 18) (tx0 d.1.1).2) = tFl 8 (sZz d.1.1 (mV σ2 246 18) (tx0 d.1.1).2) := if_pos h15
            refine R_spend.r (n := 15) (by decide) hW hBd (fun s1 e => by rw [ef] at e; cases e) (fun _ => ?_)
            refine ⟨fun h9 => absurd rfl h9, fun _ => ?_⟩
            have f3 : FrZ [] [28, 29, 30, 32, 33] σ (wV σ2 246 28 8) := (f2.mo (by decide) (by decide)).tr (FrZ.wf (by decide))
            refine hno ((i : Int) + 1) (d.2.2.1, (8, d.1.1.1.1, d.1.1.1.2.1)) _ ?_ (show ¬ (8 : Int) = 0 by decide) ⟨wV_self, ?_, ?_⟩ ?_ (hC.2.2.2.1.z f3 (by decide) (by decide)) ?_ (FrG9.z f3 rfl (by decide))
            · conv => lhs; unfold rnD
              rw [if_neg he, if_neg h0, if_pos h15]
            · rw [wV_ne (Or.inr (by decide))]
              exact hW.2.1
            · rw [wV_ne (Or.inr (by decide))]
              exact hW.2.2.1
            · have u := hC.2.1.2.2.2.1
              unfold UnB at u ⊢
              rw [wV_ne (Or.inr (by decide)), wV_ne (Or.inr (by decide)), fk _ (by decide) (by decide), fk _ (by decide) (by decide)]
              exact u
            · rw [wV_ne (Or.inr (by decide))]
              exact v29
          · have ef : tSp 15 (sZz d.1.1 (mV σ2 246 18) (tx0 d.1.1).2) = .inl (sWk (sZz d.1.1 (mV σ2 246 18) (tx0 d.1.1).2) (d.1.1.1.1 + 15) (d.1.1.1.2.1 + 15)) := if_neg h15
            refine R_spend.r (n := 15) (by decide) hW hBd (fun s1 e => ?_) (fun e => by rw [ef] at e; cases e)
            refine ⟨fun _ => ?_, fun h9 => absurd h9 (by decide)⟩
            show Rg l2 ∧ _
            have hr : ∀ r, rnD B M (n + 1) i jo ln d = r ↔ (match blD B M i jo (b15 d.1, d.2) with
              | .inr x => (.inr ((i : Int) + 1, x) : (RD9 × Int) ⊕ (Int × RF9))
              | .inl d' => rnD B M n (bnE M i) (decide (kdL M i = 5)) ((i : Int) + 1) d') = r := fun r => by
              conv => lhs; lhs; unfold rnD
              rw [if_neg he, if_neg h0, if_neg h15]
              rfl
            have f3 : FrZ [] [29, 30, 32, 33] σ (wV (wV σ2 246 32 (d.1.1.1.1 + 15)) 246 33 (d.1.1.1.2.1 + 15)) := (f2.tr (FrZ.wf (by decide))).tr (FrZ.wf (by decide))
            have g3 : FrG9 nw σ (wV (wV σ2 246 32 (d.1.1.1.1 + 15)) 246 33 (d.1.1.1.2.1 + 15)) := FrG9.z f3 rfl (by decide)
            have hC3 := hC.sp f3 (by rw [wV_ne (Or.inr (by decide)), wV_self]) wV_self
            have w29 : mV (wV (wV σ2 246 32 (d.1.1.1.1 + 15)) 246 33 (d.1.1.1.2.1 + 15)) 246 29 = (i : Int) + 1 := by
              rw [wV_ne (Or.inr (by decide)), wV_ne (Or.inr (by decide))]
              exact v29
            have w30 : mV (wV (wV σ2 246 32 (d.1.1.1.1 + 15)) 246 33 (d.1.1.1.2.1 + 15)) 246 30 = (i : Int) + 1 := by
              rw [wV_ne (Or.inr (by decide)), wV_ne (Or.inr (by decide))]
              exact v30
            have run : R_round_330 (i : Int) (kdL M i) ((bnE M i : Int) - (i : Int)) (kdL M i) (i : Int) ((bnE M i : Int) - (i : Int)) (bZ jo) (wV (wV σ2 246 32 (d.1.1.1.1 + 15)) 246 33 (d.1.1.1.2.1 + 15)) Q := by
              generalize wV (wV σ2 246 32 (d.1.1.1.1 + 15)) 246 33 (d.1.1.1.2.1 + 15) = σ3 at hC3 w29 w30 g3
              refine R_round_330.i (R_block.p hil h0 hMb hB h h15 hC3 w29 ⟨fun d' σ' e1 e2 e3 => ?_, fun x σ' e1 e2 e3 e4 e5 e6 => ?_⟩)
              · have ih' := fun l2' hl2 => ih (bnE M i) (decide (kdL M i = 5)) ((i : Int) + 1) l2' d' σ' (by omega) bn.2 (blD_i hB hMb hS.2.1 hil h h15 e1) e2 ((D9.k e3 (Or.inr rfl)).trans w30) hl2 (fun x σ4 q1 q2 q3 q4 => hy x σ4 ((hr _).mpr (by rw [e1]; exact q1)) q2 q3 ((g3.tr (FrG9.dd e3)).tr q4)) (fun l x σ4 q1 q2 q3 q4 q5 q6 q7 => hno l x σ4 ((hr _).mpr (by rw [e1]; exact q1)) q2 q3 q4 q5 q6 ((g3.tr (FrG9.dd e3)).tr q7))
                have en : (i : Int) + ((bnE M i : Int) - (i : Int)) = (bnE M i : Int) := by omega
                show (¬ kdL M i = 5 → R_round_348 _ _ σ' Q) ∧ (kdL M i = 5 → R_round_348 _ _ σ' Q)
                rw [en]
                refine ⟨fun h5 => R_round_348.i (ih' (-1) (Or.inr ⟨decide_eq_false h5, by omega, by omega⟩)), fun h5 => R_round_348.i (ih' _ (Or.inl ⟨decide_eq_true h5, rfl⟩))⟩
              · have fin : Q (.inl none) σ' := hno ((i : Int) + 1) x σ' ((hr _).mpr (by rw [e1])) e2 e3 e4 e5 ((D9.k e6 (Or.inl rfl)).trans w29) (g3.tr (FrG9.dd e6))
                have st : ∀ l2', R_round_348 ((i : Int) + ((bnE M i : Int) - (i : Int))) l2' σ' Q := fun l2' => R_round_348.i (R_round_157.i ⟨by unfold Rg; omega, fun _ => fin, fun _ => ⟨fun _ => fin, fun h9 => absurd (e3.1.symm.trans h9) e2⟩⟩)
                exact ⟨fun _ => st _, fun _ => st _⟩
            refine ⟨by unfold Rg; omega, by unfold Rg; omega, fun h9 => ?_, fun h9 => ?_⟩
            · have ej : jo = false := by
                rcases hl with e | e
                · exact absurd e.2 h9
                · exact e.1
              rw [ej] at run
              exact run
            · have ej : jo = true := by
                rcases hl with e | e
                · exact e.1
                · omega
              rw [ej] at run
              exact run
        have rb := rnd_blk hS2 hil go
        refine ⟨fun k => rb.1 (Or.inl k), fun k3 => ⟨fun k => rb.1 (Or.inr (Or.inl k)), fun k4 => ⟨fun k6 => rb.2 (by omega), fun k => rb.1 (Or.inr (Or.inr k))⟩⟩⟩
      · have e0 : rnD B M (n + 1) i jo ln d = rnD B M n (i + 1) false ln d := by
          conv => lhs; unfold rnD
          rw [if_neg he, if_pos h0]
        rw [e0] at hy hno
        have := ih (i + 1) false ln l2 d σ (by omega) (by omega) (h.mo (by omega)) hC.j0 h30 (Or.inr ⟨rfl, by
          rcases hl with e | e <;> omega⟩) hy hno
        rw [show ((i + 1 : Nat) : Int) = (i : Int) + 1 by omega] at this
        exact this
end
