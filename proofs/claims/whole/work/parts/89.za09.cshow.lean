/-! A PROOF, the class: notes at the foot, a page -/
theorem ntN_tk {sp : List (Int × Int)} {kL kU k s : Nat} (hk : kL ≤ k) (hU : kL ≤ kU) (hs : s ≤ (ntN sp kL (kU - kL)).length) (h : s ≤ (ntN sp kL (k - kL)).length ∨ kU ≤ k) : (ntN sp kL (k - kL)).take s = (ntN sp kL (kU - kL)).take s := by
  by_cases c : kU ≤ k
  · have q := ntN_a (sp := sp) (k := kL) (n := kU - kL) (m := k - kU)
    rw [show kU - kL + (k - kU) = k - kL by omega] at q
    rw [q, take_ge hs]
  · have h : s ≤ (ntN sp kL (k - kL)).length := by
      rcases h with h | h
      · exact h
      · exact absurd h c
    have q := ntN_a (sp := sp) (k := kL) (n := k - kL) (m := kU - k)
    rw [show k - kL + (kU - k) = kU - kL by omega] at q
    rw [q, take_ge h]
section
variable {σ σ0 σ1 σ2 : MS} {Q : MQ9} {F : List Int} {Ls L L1 : List GL9} {A C : List Int} {sp : List (Int × Int)} {o room : Int}
/-- lines of one note -/
theorem psn_79 {k s kL kU : Nat} (hB : PgB room F Ls A sp) (hT : suM (Ls.map (·.1)) ≤ 60000) (hO : ∀ x ∈ Ls, (0 ≤ x.2.1 ∧ x.2.1 ≤ 5000) ∧ (0 ≤ x.2.2 ∧ x.2.2 ≤ 3)) (hkL : kL ≤ k) (hU : kL ≤ kU) (hk : k < sp.length) (hsl : s ≤ (ntN sp kL (kU - kL)).length) (hl : L1.length + s ≤ 6000) (hsN : suM (L1.map (·.1)) + wtN Ls ((ntN sp kL (kU - kL)).take s) ≤ 70000) (hq : ∀ σ', GwC σ' F Ls A sp → SwC σ' (L1 ++ ((ntN sp kL (k + 1 - kL)).take s).map (lnG Ls)) → FrSw σ0 σ' → mX σ' 220 = mX σ0 220 → Proof_showNotes_114 212 ((s - (ntN sp kL (k + 1 - kL)).length : Nat) : Int) (k : Int) σ' Q) : ∀ (n d : Nat) (σ : MS), ((d + n : Nat) : Int) = (sp.getD k (0, 0)).2 - (sp.getD k (0, 0)).1 → GwC σ F Ls A sp → SwC σ (L1 ++ ((ntN sp kL (k - kL) ++ seqN (sp.getD k (0, 0)).1.toNat d).take s).map (lnG Ls)) → FrSw σ0 σ → mX σ 220 = mX σ0 220 → Proof_showNotes_79 212 ((s - (ntN sp kL (k - kL) ++ seqN (sp.getD k (0, 0)).1.toNat d).length : Nat) : Int) (k : Int) ((sp.getD k (0, 0)).1 + (d : Int)) σ Q := by
  have la := hB.2.2.2.2.2.2.2.2
  have ls := hB.2.2.2.2.2.2.2.1
  have l5 := hB.2.2.1
  have bk := hB.2.2.2.2.2.2.1 _ (gdp_mem (L := sp) (i := k) hk)
  have full : ∀ d : Nat, (d : Int) = (sp.getD k (0, 0)).2 - (sp.getD k (0, 0)).1 → ntN sp kL (k + 1 - kL) = ntN sp kL (k - kL) ++ seqN (sp.getD k (0, 0)).1.toNat d := fun d hd => by
    rw [show k + 1 - kL = (k - kL) + 1 by omega]
    show ntN sp kL (k - kL) ++ seqN _ _ = _
    rw [show kL + (k - kL) = k by omega, show ((sp.getD k (0, 0)).2 - (sp.getD k (0, 0)).1).toNat = d by omega]
  -- what follows in a note is not shown where enough lines are
  have more : ∀ d n : Nat, ((d + n : Nat) : Int) = (sp.getD k (0, 0)).2 - (sp.getD k (0, 0)).1 → s ≤ (ntN sp kL (k - kL) ++ seqN (sp.getD k (0, 0)).1.toNat d).length → (ntN sp kL (k - kL) ++ seqN (sp.getD k (0, 0)).1.toNat d).take s = (ntN sp kL (k + 1 - kL)).take s ∧ s - (ntN sp kL (k + 1 - kL)).length = 0 := fun d n hd hs => by
    have fu := full (d + n) hd
    have sq : ∀ m, ∃ Z, seqN (sp.getD k (0, 0)).1.toNat (d + m) = seqN (sp.getD k (0, 0)).1.toNat d ++ Z := fun m => by
      induction m with
      | zero => exact ⟨[], (List.append_nil _).symm⟩
      | succ m ih =>
        obtain ⟨Z, hZ⟩ := ih
        refine ⟨Z ++ [(sp.getD k (0, 0)).1.toNat + (d + m)], ?_⟩
        exact (congrArg (fun T => T ++ [(sp.getD k (0, 0)).1.toNat + (d + m)]) hZ).trans (List.append_assoc _ _ _)
    obtain ⟨Z, hZ⟩ := sq n
    rw [fu, hZ, ← List.append_assoc, take_ge hs]
    refine ⟨rfl, ?_⟩
    rw [List.length_append]
    omega
  intro n
  induction n with
  | zero =>
    intro d σ hd hG hS f0 e0
    have e144 : mX σ 144 = sp.map (·.2) := hG.1.2.2.2.2
    have fu := full d (by omega)
    refine Proof_showNotes_79.i ⟨by unfold Rg; omega, by unfold Rg; omega, fun _ => ?_, fun h => ?_⟩
    · rw [← fu] at hS ⊢
      exact hq σ hG hS f0 e0
    · rw [e144, sp_2 hk] at h
      omega
  | succ n ih =>
    intro d σ hd hG hS f0 e0
    have e144 : mX σ 144 = sp.map (·.2) := hG.1.2.2.2.2
    have s61 : s ≤ 6000 := by omega
    refine Proof_showNotes_79.i ⟨by unfold Rg; omega, by unfold Rg; omega, fun h => ?_, fun h => ⟨by unfold Rg; omega, fun h0 => ?_, fun h0 => tB.i (by decide) ?_⟩⟩
    · rw [e144, sp_2 hk] at h
      omega
    · obtain ⟨m1, m2⟩ := more d (n + 1) hd (by omega)
      have e9 : s - (ntN sp kL (k - kL) ++ seqN (sp.getD k (0, 0)).1.toNat d).length = s - (ntN sp kL (k + 1 - kL)).length := by omega
      rw [m1] at hS
      rw [e9]
      exact hq σ hG hS f0 e0
    · have hlt : (ntN sp kL (k - kL) ++ seqN (sp.getD k (0, 0)).1.toNat d).length < s := by omega
      have tk1 : (ntN sp kL (k - kL) ++ seqN (sp.getD k (0, 0)).1.toNat d).take s = ntN sp kL (k - kL) ++ seqN (sp.getD k (0, 0)).1.toNat d := List.take_of_length_le (by omega)
      have tk2 : (ntN sp kL (k - kL) ++ seqN (sp.getD k (0, 0)).1.toNat (d + 1)).take s = (ntN sp kL (k - kL) ++ seqN (sp.getD k (0, 0)).1.toNat d) ++ [(sp.getD k (0, 0)).1.toNat + d] := by
        have : ntN sp kL (k - kL) ++ seqN (sp.getD k (0, 0)).1.toNat (d + 1) = (ntN sp kL (k - kL) ++ seqN (sp.getD k (0, 0)).1.toNat d) ++ [(sp.getD k (0, 0)).1.toNat + d] := by
          show _ ++ (seqN _ d ++ [_]) = _
          rw [List.append_assoc]
        rw [this]
        exact List.take_of_length_le (by
          rw [List.length_append]
          show _ + 1 ≤ s
          omega)
      -- the lines shown so far weigh less than all of them
      have wle : wtN Ls (ntN sp kL (k - kL) ++ seqN (sp.getD k (0, 0)).1.toNat d) ≤ wtN Ls ((ntN sp kL (kU - kL)).take s) := by
        have pre : ∃ Z, (ntN sp kL (kU - kL)).take s = (ntN sp kL (k - kL) ++ seqN (sp.getD k (0, 0)).1.toNat d) ++ Z := by
          have kk : k < kU := by
            by_cases c : k < kU
            · exact c
            · exfalso
              have q := ntN_a (sp := sp) (k := kL) (n := kU - kL) (m := k - kU)
              rw [show kU - kL + (k - kU) = k - kL by omega] at q
              rw [q, List.length_append, List.length_append] at hlt
              omega
          have q := ntN_a (sp := sp) (k := kL) (n := k + 1 - kL) (m := kU - (k + 1))
          rw [show k + 1 - kL + (kU - (k + 1)) = kU - kL by omega] at q
          have fu := full (d + (n + 1)) (by omega)
          have sq : ∀ m, ∃ Z, seqN (sp.getD k (0, 0)).1.toNat (d + m) = seqN (sp.getD k (0, 0)).1.toNat d ++ Z := fun m => by
            induction m with
            | zero => exact ⟨[], (List.append_nil _).symm⟩
            | succ m ih =>
              obtain ⟨Z, hZ⟩ := ih
              refine ⟨Z ++ [(sp.getD k (0, 0)).1.toNat + (d + m)], ?_⟩
              exact (congrArg (fun T => T ++ [(sp.getD k (0, 0)).1.toNat + (d + m)]) hZ).trans (List.append_assoc _ _ _)
          obtain ⟨Z, hZ⟩ := sq (n + 1)
          rw [q, fu, hZ, ← List.append_assoc, List.append_assoc _ Z]
          refine ⟨(Z ++ ntN sp (kL + (k + 1 - kL)) (kU - (k + 1))).take (s - (ntN sp kL (k - kL) ++ seqN (sp.getD k (0, 0)).1.toNat d).length), ?_⟩
          rw [List.take_append, tk1]
        obtain ⟨Z, hZ⟩ := pre
        rw [hZ]
        have q9 := wtN_a (Ls := Ls) (T := ntN sp kL (k - kL) ++ seqN (sp.getD k (0, 0)).1.toNat d) (U := Z)
        omega
      have sL : suM ((L1 ++ ((ntN sp kL (k - kL) ++ seqN (sp.getD k (0, 0)).1.toNat d).take s).map (lnG Ls)).map (·.1)) ≤ 70000 := by
        rw [List.map_append, suM_app, tk1]
        show _ + wtN Ls (ntN sp kL (k - kL) ++ seqN (sp.getD k (0, 0)).1.toNat d) ≤ _
        omega
      have lL : (L1 ++ ((ntN sp kL (k - kL) ++ seqN (sp.getD k (0, 0)).1.toNat d).take s).map (lnG Ls)).length ≤ 6000 := by
        rw [List.length_append, List.length_map, List.length_take]
        omega
      rw [show (sp.getD k (0, 0)).1 + (d : Int) = (((sp.getD k (0, 0)).1.toNat + d : Nat) : Int) by omega]
      refine Proof_showMade.c hG hT l5 hO (by omega) lL sL hS (fun σ' p1 f1 e1 => ?_)
      have el : s - (ntN sp kL (k - kL) ++ seqN (sp.getD k (0, 0)).1.toNat (d + 1)).length + 1 = s - (ntN sp kL (k - kL) ++ seqN (sp.getD k (0, 0)).1.toNat d).length := by
        rw [List.length_append, List.length_append, seqN_l, seqN_l]
        rw [List.length_append, seqN_l] at hlt
        omega
      have key := ih (d + 1) σ' (by omega) (hG.fr f1) (by
        rw [tk2, List.map_append, ← List.append_assoc]
        rw [tk1] at p1
        exact p1) (f0.tr f1) (e1.trans e0)
      show Proof_showNotes_79 212 (((s - (ntN sp kL (k - kL) ++ seqN (sp.getD k (0, 0)).1.toNat d).length : Nat) : Int) + (-1)) (k : Int) ((((sp.getD k (0, 0)).1.toNat + d : Nat) : Int) + 1) σ' Q
      rw [show (((s - (ntN sp kL (k - kL) ++ seqN (sp.getD k (0, 0)).1.toNat d).length : Nat) : Int) + (-1)) = ((s - (ntN sp kL (k - kL) ++ seqN (sp.getD k (0, 0)).1.toNat (d + 1)).length : Nat) : Int) by omega, show (((sp.getD k (0, 0)).1.toNat + d : Nat) : Int) + 1 = (sp.getD k (0, 0)).1 + ((d + 1 : Nat) : Int) by omega]
      exact key
/-- all notes of a page -/
theorem psn_51 {s kL kU : Nat} (hB : PgB room F Ls A sp) (hT : suM (Ls.map (·.1)) ≤ 60000) (hO : ∀ x ∈ Ls, (0 ≤ x.2.1 ∧ x.2.1 ≤ 5000) ∧ (0 ≤ x.2.2 ∧ x.2.2 ≤ 3)) (hU : kL ≤ kU) (hUs : kU ≤ sp.length) (hsl : s ≤ (ntN sp kL (kU - kL)).length) (hl : L1.length + s ≤ 6000) (hsN : suM (L1.map (·.1)) + wtN Ls ((ntN sp kL (kU - kL)).take s) ≤ 70000) (hq : ∀ σ', SwC σ' (L1 ++ ((ntN sp kL (kU - kL)).take s).map (lnG Ls)) → FrSw σ0 σ' → mX σ' 220 = mX σ0 220 → Q (.inl none) σ') : ∀ (n k : Nat) (σ : MS), k + n = sp.length → kL ≤ k → GwC σ F Ls A sp → SwC σ (L1 ++ ((ntN sp kL (k - kL)).take s).map (lnG Ls)) → FrSw σ0 σ → mX σ 220 = mX σ0 220 → Proof_showNotes_51 212 ((s - (ntN sp kL (k - kL)).length : Nat) : Int) (k : Int) σ Q := by
  have la := hB.2.2.2.2.2.2.2.2
  have ls := hB.2.2.2.2.2.2.2.1
  intro n
  induction n with
  | zero =>
    intro k σ hk hkL hG hS f0 e0
    rw [ntN_tk hkL hU hsl (Or.inr (by omega))] at hS
    have e140 : mX σ 140 = A := hG.1.2.2.1
    refine Proof_showNotes_51.i ⟨by unfold Rg; omega, fun _ => hq σ hS f0 e0, fun _ => ⟨by unfold Rg; omega, fun _ => hq σ hS f0 e0, fun h => ?_⟩⟩
    rw [e140] at h
    omega
  | succ n ih =>
    intro k σ hk hkL hG hS f0 e0
    have e140 : mX σ 140 = A := hG.1.2.2.1
    have e142 : mX σ 142 = sp.map (·.1) := hG.1.2.2.2.1
    refine Proof_showNotes_51.i ⟨by unfold Rg; omega, fun h => ?_, fun h => ⟨by unfold Rg; omega, fun h => ?_, fun _ => ⟨by unfold Rg; omega, ?_⟩⟩⟩
    · rw [ntN_tk hkL hU hsl (Or.inl (by omega))] at hS
      exact hq σ hS f0 e0
    · rw [e140] at h
      omega
    · rw [e142, sp_1 (by omega)]
      have bk := hB.2.2.2.2.2.2.1 _ (gdp_mem (L := sp) (i := k) (by omega))
      have key := psn_79 (σ0 := σ0) (Q := Q) (k := k) (s := s) (kL := kL) (kU := kU) (L1 := L1) hB hT hO hkL hU (by omega) hsl hl hsN (fun σ' g1 p1 f1 e1 => ?_) ((sp.getD k (0, 0)).2 - (sp.getD k (0, 0)).1).toNat 0 σ (by omega) hG (by
        show SwC σ (L1 ++ ((ntN sp kL (k - kL) ++ []).take s).map (lnG Ls))
        rw [List.append_nil]
        exact hS) f0 e0
      · have e9 : ntN sp kL (k - kL) ++ seqN (sp.getD k (0, 0)).1.toNat 0 = ntN sp kL (k - kL) := List.append_nil _
        rw [e9] at key
        show Proof_showNotes_79 212 _ (k : Int) (sp.getD k (0, 0)).1 σ Q
        rw [show (sp.getD k (0, 0)).1 = (sp.getD k (0, 0)).1 + ((0 : Nat) : Int) by omega]
        exact key
      · refine Proof_showNotes_114.i ?_
        rw [show (k : Int) + 1 = ((k + 1 : Nat) : Int) by omega]
        exact ih (k + 1) σ' (by omega) (by omega) g1 p1 f1 e1
/-- empty lines ahead of the notes -/
theorem psn_4 {left foot : Int} {note : Int} (hf : 0 < foot ∧ foot ≤ 100000) (hlf : -100 ≤ left ∧ left ≤ 100) (hl : L.length + 200 ≤ 6200) (hs : suM (L.map (·.1)) ≤ 70000) (hlen : L.length + (left - min left foot).toNat ≤ 6000) (hq : ∀ σ', SwC σ' (L ++ List.replicate (left - min left foot).toNat ([], 0, 0)) → FrSw σ0 σ' → mX σ' 220 = mX σ0 220 → Proof_showNotes_4 212 note left foot (max left foot) σ' Q) : ∀ (n j : Nat) (σ : MS), j + n = (left - min left foot).toNat → SwC σ (L ++ List.replicate j ([], 0, 0)) → FrSw σ0 σ → mX σ 220 = mX σ0 220 → Proof_showNotes_4 212 note left foot (foot + (j : Int)) σ Q := by
  intro n
  induction n with
  | zero =>
    intro j σ hj hS f0 e0
    have ej : j = (left - min left foot).toNat := by omega
    rw [ej] at hS
    have key := hq σ hS f0 e0
    rw [show foot + (j : Int) = max left foot by omega]
    exact key
  | succ n ih =>
    intro j σ hj hS f0 e0
    refine Proof_showNotes_4.i ⟨by unfold Rg; omega, by unfold Rg; omega, fun h => absurd h (by omega), fun _ => tB.i (by decide) (pcl_0 ?_ ?_ hS (fun σ' p1 f1 e1 => ?_))⟩
    · rw [List.length_append, List.length_replicate]
      omega
    · rw [List.map_append, suM_app, suM_r0]
      omega
    · show Proof_showNotes_4 212 note left foot (foot + (j : Int) + 1) σ' Q
      rw [show foot + (j : Int) + 1 = foot + ((j + 1 : Nat) : Int) by omega]
      refine ih (j + 1) σ' (by omega) ?_ (f0.tr f1) (e1.trans e0)
      rw [rep_s, ← List.append_assoc]
      exact p1
/-- a page's text and notes -/
theorem Proof_showPage.c {e last pg : Nat} {P : List (Nat × Nat)} (hB : PgB room F Ls A sp) (hr : 3 ≤ room) (hT : suM (Ls.map (·.1)) ≤ 60000) (hO : ∀ x ∈ Ls, (0 ≤ x.2.1 ∧ x.2.1 ≤ 5000) ∧ (0 ≤ x.2.2 ∧ x.2.2 ≤ 3)) (hel : e ≤ last) (hlF : last < F.length) (hpg : pg < 200) (h146 : rgt (mX σ 146) (pg : Int) = (e : Int)) (h148 : rgt (mX σ 148) (pg : Int) = (last : Int)) (hPo : PgO room A sp e last) (hll : (L ++ bdS F Ls e (last + 1 - e) ++ ftG room Ls A sp e last).length ≤ 6000) (hss : suM ((L ++ bdS F Ls e (last + 1 - e) ++ ftG room Ls A sp e last).map (·.1)) ≤ 70000) (hG : GwC σ F Ls A sp) (hS : SwC σ L) (hq : ∀ σ', SwC σ' (L ++ bdS F Ls e (last + 1 - e) ++ ftG room Ls A sp e last) → FrSw σ σ' → mX σ' 220 = mX σ 220 → Q (.inl none) σ') : Proof_showPage 212 (pg : Int) room σ Q := by
  have lf := hB.2.1
  have la := hB.2.2.2.2.2.2.2.2
  have ls := hB.2.2.2.2.2.2.2.1
  have r6 := hB.1
  rw [List.length_append, List.length_append, bdS_l] at hll
  rw [List.map_append, List.map_append, suM_app, suM_app] at hss
  refine Proof_showPage.i ⟨by unfold Rg; omega, by unfold Rg; omega, ?_⟩
  rw [h146, h148]
  refine psp_24 (σ0 := σ) (L := L) hB hT hO hlF (by omega) (by omega) (fun σ1 g1 s1 f1 e1 => ?_) (last + 1 - e) e σ (by omega) (Nat.le_refl _) hG (by rw [Nat.sub_self]; show SwC σ (L ++ []); rw [List.append_nil]; exact hS) FrSw.rf rfl
  refine Galley_firstNote.c hB g1.1.2.2.1 (by omega) ?_
  have nbe := nB_mo (A := A) (x := (e : Int)) (y := (last : Int) + 1) (by omega)
  have nbl := nB_l (A := A) (x := (last : Int) + 1)
  have e0 : (0 : Int) = pS sp (nB A (e : Int)) - pS sp (nB A (e : Int)) := by omega
  show Proof_showPage_83 212 room (e : Int) (last : Int) 0 (nB A (e : Int) : Int) (nB A (e : Int) : Int) σ1 Q
  rw [e0]
  refine psp_83 hB g1 hel hlF ?_ (nB A ((last : Int) + 1) - nB A (e : Int)) (nB A (e : Int)) (by omega) (Nat.le_refl _)
  have nl := ntN_l (sp := sp) hB.2.2.2.2.2.2.1 (k := nB A (e : Int)) (m := nB A ((last : Int) + 1) - nB A (e : Int)) (by omega)
  rw [show nB A (e : Int) + (nB A ((last : Int) + 1) - nB A (e : Int)) = nB A ((last : Int) + 1) by omega] at nl
  have nl : ((ntN sp (nB A (e : Int)) (nB A ((last : Int) + 1) - nB A (e : Int))).length : Int) = ftP A sp e last := nl
  have f1500 : ftP A sp e last ≤ 90000 := by
    have := pS_b hB (k := nB A ((last : Int) + 1)) (by omega)
    have h2 := pS_b hB (k := nB A (e : Int)) (by omega)
    have : ftP A sp e last = pS sp (nB A ((last : Int) + 1)) - pS sp (nB A (e : Int)) := rfl
    omega
  by_cases c : 0 < ftP A sp e last
  · have eft : ftG room Ls A sp e last = List.replicate (lfP room e last - shP room A sp e last).toNat ([], 0, 0) ++ [(List.replicate 10 45, 0, 0)] ++ ((ntN sp (nB A (e : Int)) (nB A ((last : Int) + 1) - nB A (e : Int))).take (shP room A sp e last).toNat).map (lnG Ls) := if_pos c
    rw [eft] at hll hss hq
    have elf : lfP room e last = room - (((last : Int) - (e : Int)) + 1) - 1 := rfl
    have esh : shP room A sp e last = min (lfP room e last) (ftP A sp e last) := rfl
    have lfb : -100 ≤ lfP room e last ∧ lfP room e last ≤ 100 := by
      rcases hPo.2 with h9 | h9
      · have := of_decide_eq_true h9
        rw [if_pos c] at this
        omega
      · omega
    rw [List.length_append, List.length_append, List.length_replicate, List.length_map] at hll
    have hll : L.length + (last + 1 - e) + ((lfP room e last - shP room A sp e last).toNat + 1 + ((ntN sp (nB A (e : Int)) (nB A ((last : Int) + 1) - nB A (e : Int))).take (shP room A sp e last).toNat).length) ≤ 6000 := hll
    rw [List.map_append, List.map_append, suM_app, suM_app, suM_r0] at hss
    have hss : suM (L.map (·.1)) + suM ((bdS F Ls e (last + 1 - e)).map (·.1)) + (0 + 10 + wtN Ls ((ntN sp (nB A (e : Int)) (nB A ((last : Int) + 1) - nB A (e : Int))).take (shP room A sp e last).toNat)) ≤ 70000 := hss
    have shl : (shP room A sp e last).toNat ≤ (ntN sp (nB A (e : Int)) (nB A ((last : Int) + 1) - nB A (e : Int))).length := by omega
    rw [List.length_take, Nat.min_eq_left shl] at hll
    refine Proof_showPage_139.i ⟨by unfold Rg; omega, fun h => absurd h (by omega), fun _ => tB.i (by decide) (Proof_showNotes.i ?_)⟩
    show Proof_showNotes_4 212 (nB A (e : Int) : Int) (lfP room e last) (ftP A sp e last) (ftP A sp e last) σ1 _
    have first := psn_4 (σ0 := σ1) (L := L ++ bdS F Ls e (last + 1 - e)) (left := lfP room e last) (foot := ftP A sp e last) (note := (nB A (e : Int) : Int)) (Q := kV (thQ Q) fun σ1 => Q (.inl none) σ1) ⟨c, by omega⟩ lfb (by rw [List.length_append, bdS_l]; omega) (by rw [List.map_append, suM_app]; omega) (by rw [List.length_append, bdS_l, ← esh]; omega) (fun σ2 s2 f2 e2 => ?_) (lfP room e last - min (lfP room e last) (ftP A sp e last)).toNat 0 σ1 (Nat.zero_add _) (by show SwC σ1 (_ ++ []); rw [List.append_nil]; exact s1) FrSw.rf rfl
    · rw [show ftP A sp e last + ((0 : Nat) : Int) = ftP A sp e last by omega] at first
      exact first
    · rw [← esh] at s2
      have lS : (L ++ bdS F Ls e (last + 1 - e) ++ List.replicate (lfP room e last - shP room A sp e last).toNat ([], 0, 0)).length = L.length + (last + 1 - e) + (lfP room e last - shP room A sp e last).toNat := by
        rw [List.length_append, List.length_append, bdS_l, List.length_replicate]
      have wS : suM ((L ++ bdS F Ls e (last + 1 - e) ++ List.replicate (lfP room e last - shP room A sp e last).toNat (([], 0, 0) : GL9)).map (·.1)) = suM (L.map (·.1)) + suM ((bdS F Ls e (last + 1 - e)).map (·.1)) := by
        rw [List.map_append, List.map_append, suM_app, suM_app, suM_r0]
        omega
      have l14 : (mX σ2 214).length = suM ((L ++ bdS F Ls e (last + 1 - e) ++ List.replicate (lfP room e last - shP room A sp e last).toNat (([], 0, 0) : GL9)).map (·.1)) := by rw [s2.1.1, List.append_nil, flt_l]
      have c14 : capOf 214 = 131072 := by decide
      refine Proof_showNotes_4.i ⟨by unfold Rg; omega, by unfold Rg; omega, fun _ => tB.i (by decide) (tB.i (by decide) (tB.i (by decide) (tB.i (by decide) ⟨?_, tB.i (by decide) ?_⟩))), fun h => absurd h (by omega)⟩
      · show (mX σ2 214).length + 10 ≤ capOf 214
        omega
      · show Proof_closeLine 212 0 (wX σ2 214 (mX σ2 214 ++ List.replicate 10 45)) _
        have pC : PoC (wX σ2 214 (mX σ2 214 ++ List.replicate 10 45)) (L ++ bdS F Ls e (last + 1 - e) ++ List.replicate (lfP room e last - shP room A sp e last).toNat ([], 0, 0)) (List.replicate 10 45) := by
          refine ⟨?_, (wX_ne (by decide)).trans s2.1.2.1, (wX_ne (by decide)).trans s2.1.2.2.1, (wX_ne (by decide)).trans s2.1.2.2.2⟩
          rw [wX_self, s2.1.1, List.append_nil]
        refine Proof_closeLine.c (fl := 0) (by decide) (by rw [lS]; omega) (by rw [wS, List.length_replicate]; omega) pC (fun σ3 p3 f3 => ?_)
        have f23 : FrSw σ2 σ3 := FrSw.tr (σ1 := wX σ2 214 (mX σ2 214 ++ List.replicate 10 45)) ⟨fun q a => wX_ne (fun e => a (by rw [e]; decide)), rfl, fun _ _ _ => rfl⟩ f3.sw
        have e23 : mX σ3 220 = mX σ2 220 := (f3.1 _ (by decide)).trans (wX_ne (by decide))
        have s3 : SwC σ3 (L ++ bdS F Ls e (last + 1 - e) ++ List.replicate (lfP room e last - shP room A sp e last).toNat ([], 0, 0) ++ [(List.replicate 10 45, 0, 0)]) := by
          refine ⟨p3, ?_⟩
          have e9 : mV σ3 228 8 = mV σ2 228 8 := congrFun (congrFun (congrArg Prod.fst f3.2) 228) 8
          rw [e9, s2.2, puN_a (M := [(List.replicate 10 45, 0, 0)])]
          show _ = _ + (0 + 0)
          omega
        have gF : GwC σ3 F Ls A sp := (g1.fr f2).fr f23
        have done : ∀ σ', SwC σ' ((L ++ bdS F Ls e (last + 1 - e) ++ List.replicate (lfP room e last - shP room A sp e last).toNat ([], 0, 0) ++ [(List.replicate 10 45, 0, 0)]) ++ ((ntN sp (nB A (e : Int)) (nB A ((last : Int) + 1) - nB A (e : Int))).take (shP room A sp e last).toNat).map (lnG Ls)) → FrSw σ3 σ' → mX σ' 220 = mX σ3 220 → Q (.inl none) σ' := fun σ' p9 f9 e9 => by
          refine hq σ' ?_ (f1.tr (f2.tr (f23.tr f9))) (e9.trans (e23.trans (e2.trans e1)))
          simp only [List.append_assoc] at p9 ⊢
          exact p9
        show Rg (lfP room e last) ∧ Rg (ftP A sp e last) ∧ Proof_showNotes_51 212 (min (lfP room e last) (ftP A sp e last)) (nB A (e : Int) : Int) σ3 _
        refine ⟨by unfold Rg; omega, by unfold Rg; omega, ?_⟩
        rw [← esh]
        by_cases c0 : 0 < shP room A sp e last
        · have key := psn_51 (σ0 := σ3) (Q := kV (thQ Q) fun σ1 => Q (.inl none) σ1) (L1 := L ++ bdS F Ls e (last + 1 - e) ++ List.replicate (lfP room e last - shP room A sp e last).toNat ([], 0, 0) ++ [(List.replicate 10 45, 0, 0)]) (s := (shP room A sp e last).toNat) (kL := nB A (e : Int)) (kU := nB A ((last : Int) + 1)) hB hT hO nbe (by omega) shl (by rw [List.length_append, lS]; show _ + 1 + _ ≤ _; omega) (by rw [mp_sn, suM_s9, wS, List.length_replicate]; omega) done (sp.length - nB A (e : Int)) (nB A (e : Int)) σ3 (by omega) (Nat.le_refl _) gF (by
            rw [Nat.sub_self]
            show SwC σ3 (_ ++ (([] : List Nat).take _).map (lnG Ls))
            rw [List.take_nil, List.map_nil, List.append_nil]
            exact s3) FrSw.rf rfl
          rw [Nat.sub_self, show (ntN sp (nB A (e : Int)) 0).length = 0 from rfl, Nat.sub_zero, show (((shP room A sp e last).toNat : Nat) : Int) = shP room A sp e last by omega] at key
          exact key
        · refine Proof_showNotes_51.i ⟨by unfold Rg; omega, fun _ => ?_, fun h => absurd h c0⟩
          refine done σ3 ?_ FrSw.rf rfl
          rw [show (shP room A sp e last).toNat = 0 by omega, List.take_zero, List.map_nil, List.append_nil]
          exact s3
  · have eft : ftG room Ls A sp e last = [] := if_neg c
    rw [eft, List.append_nil] at hq
    exact Proof_showPage_139.i ⟨by unfold Rg; omega, fun _ => hq σ1 s1 f1 e1, fun h => absurd h c⟩
end
