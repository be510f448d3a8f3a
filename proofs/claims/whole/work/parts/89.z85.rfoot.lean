/-! PAGES: notes at a page's foot, the reference -/
def seqN (a : Nat) : Nat → List Nat
  | 0 => []
  | n + 1 => seqN a n ++ [a + n]
/-- line numbers of the notes from k on, m notes -/
def ntN (sp : List (Int × Int)) (k : Nat) : Nat → List Nat
  | 0 => []
  | m + 1 => ntN sp k m ++ seqN (sp.getD (k + m) (0, 0)).1.toNat ((sp.getD (k + m) (0, 0)).2 - (sp.getD (k + m) (0, 0)).1).toNat
def lnG (Ls : List GL9) (l : Nat) : GL9 := Ls.getD l ([], 0, 0)
def wtN (Ls : List GL9) (T : List Nat) : Nat := suM ((T.map (lnG Ls)).map (·.1))
section
variable {σ σ0 : MS} {Q : MQ9} {room : Int} {F : List Int} {Ls : List GL9} {A : List Int} {sp : List (Int × Int)} {e : Nat} {L1 : List GL9}
theorem seqN_l : ∀ {n a : Nat}, (seqN a n).length = n
  | 0, a => rfl
  | n + 1, a => by
    show (seqN a n ++ [a + n]).length = n + 1
    rw [List.length_append, seqN_l]
    rfl
theorem ntN_l {m0 : Nat} (hs : SpP m0 sp) {k : Nat} : ∀ {m : Nat}, k + m ≤ sp.length → ((ntN sp k m).length : Int) = pS sp (k + m) - pS sp k
  | 0, _ => by
    show ((0 : Nat) : Int) = pS sp k - pS sp k
    omega
  | m + 1, h => by
    have ih := ntN_l hs (k := k) (m := m) (by omega)
    have b := hs _ (gdp_mem (L := sp) (i := k + m) (by omega))
    show ((ntN sp k m ++ seqN _ _).length : Int) = pS sp (k + m + 1) - pS sp k
    rw [List.length_append, seqN_l, pS_s (by omega)]
    omega
theorem wtN_a {T U : List Nat} : wtN Ls (T ++ U) = wtN Ls T + wtN Ls U := by
  unfold wtN
  rw [List.map_append, List.map_append, suM_app]
theorem wtN_1 {i : Nat} : wtN Ls [i] = (lnG Ls i).1.length := Nat.add_zero _
theorem wtN_q {a : Nat} : ∀ {m d : Nat}, wtN Ls (seqN a d) ≤ wtN Ls (seqN a (d + m))
  | 0, d => Nat.le_refl _
  | m + 1, d => by
    have ih := wtN_q (a := a) (m := m) (d := d)
    show wtN Ls (seqN a d) ≤ wtN Ls (seqN a (d + m) ++ [a + (d + m)])
    rw [wtN_a]
    omega
theorem wtN_n {k : Nat} : ∀ {m d : Nat}, wtN Ls (ntN sp k d) ≤ wtN Ls (ntN sp k (d + m))
  | 0, d => Nat.le_refl _
  | m + 1, d => by
    have ih := wtN_n (k := k) (m := m) (d := d)
    show wtN Ls (ntN sp k d) ≤ wtN Ls (ntN sp k (d + m) ++ seqN _ _)
    rw [wtN_a]
    omega
theorem take_ge {T U : List Nat} {s : Nat} (h : s ≤ T.length) : (T ++ U).take s = T.take s := List.take_append_of_le_length h
/-- notes of one number -/
theorem rpg_260 {last q l k s kL kU : Nat} (hB : PgB room F Ls A sp) (hT : suM (Ls.map (·.1)) ≤ 70000) (ho : ∀ i, i < Ls.length → Rg (Ls.getD i ([], 0, 0)).2.1) (hkL : kL ≤ k) (hkU : k < kU) (hU : kU ≤ sp.length) (hs6 : s ≤ 60) (hl : L1.length + s ≤ 6100) (hsN : suM (L1.map (·.1)) + wtN Ls (ntN sp kL (kU - kL)) ≤ 80000) (hq : ∀ σ', GyR σ' F Ls A sp → PfR σ' (L1 ++ ((ntN sp kL (k + 1 - kL)).take s).map (lnG Ls)) → FrPf σ0 σ' → R_page_292 (last : Int) ((s - (ntN sp kL (k + 1 - kL)).length : Nat) : Int) (q : Int) (l : Int) (k : Int) σ' Q) : ∀ (n d : Nat) (σ : MS), ((d + n : Nat) : Int) = (sp.getD k (0, 0)).2 - (sp.getD k (0, 0)).1 → GyR σ F Ls A sp → PfR σ (L1 ++ ((ntN sp kL (k - kL) ++ seqN (sp.getD k (0, 0)).1.toNat d).take s).map (lnG Ls)) → FrPf σ0 σ → R_page_260 (last : Int) ((s - (ntN sp kL (k - kL) ++ seqN (sp.getD k (0, 0)).1.toNat d).length : Nat) : Int) (q : Int) (l : Int) (k : Int) ((sp.getD k (0, 0)).1 + (d : Int)) σ Q := by
  have la := hB.2.2.2.2.2.2.2.2
  have ls := hB.2.2.2.2.2.2.2.1
  have l5 := hB.2.2.1
  have bk := hB.2.2.2.2.2.2.1 _ (gdp_mem (L := sp) (i := k) (by omega))
  have full : ∀ d : Nat, (d : Int) = (sp.getD k (0, 0)).2 - (sp.getD k (0, 0)).1 → ntN sp kL (k + 1 - kL) = ntN sp kL (k - kL) ++ seqN (sp.getD k (0, 0)).1.toNat d := fun d hd => by
    rw [show k + 1 - kL = (k - kL) + 1 by omega]
    show ntN sp kL (k - kL) ++ seqN _ _ = _
    rw [show kL + (k - kL) = k by omega, show ((sp.getD k (0, 0)).2 - (sp.getD k (0, 0)).1).toNat = d by omega]
  intro n
  induction n with
  | zero =>
    intro d σ hd hg hp hf
    have e304 : mV σ 304 k = (sp.getD k (0, 0)).2 := (hg.2.2.1 k (by omega)).2
    have hd' : (d : Int) = (sp.getD k (0, 0)).2 - (sp.getD k (0, 0)).1 := by omega
    have := hq σ hg (by rw [full d hd']; exact hp) hf
    rw [full d hd'] at this
    exact R_page_260.i ⟨by omega, by omega, by unfold Rg; omega, fun _ => this, fun h => by rw [Int.toNat_natCast, e304] at h; omega⟩
  | succ n ih =>
    intro d σ hd hg hp hf
    have e304 : mV σ 304 k = (sp.getD k (0, 0)).2 := (hg.2.2.1 k (by omega)).2
    refine R_page_260.i ⟨by omega, by omega, by unfold Rg; omega, fun h => by rw [Int.toNat_natCast, e304] at h; omega, fun _ => ⟨by unfold Rg; omega, fun h6 => ?_, fun h6 => ?_⟩⟩
    · -- nothing more is shown
      have hle : s ≤ (ntN sp kL (k - kL) ++ seqN (sp.getD k (0, 0)).1.toNat d).length := by omega
      have ex : ∃ U, ntN sp kL (k + 1 - kL) = (ntN sp kL (k - kL) ++ seqN (sp.getD k (0, 0)).1.toNat d) ++ U := by
        rw [full (d + (n + 1)) hd]
        have sq : ∀ m : Nat, ∃ U, seqN (sp.getD k (0, 0)).1.toNat (d + m) = seqN (sp.getD k (0, 0)).1.toNat d ++ U := by
          intro m
          induction m with
          | zero => exact ⟨[], (List.append_nil _).symm⟩
          | succ m ihm =>
            obtain ⟨U, hU⟩ := ihm
            refine ⟨U ++ [(sp.getD k (0, 0)).1.toNat + (d + m)], ?_⟩
            have e9 : seqN (sp.getD k (0, 0)).1.toNat (d + (m + 1)) = seqN (sp.getD k (0, 0)).1.toNat (d + m) ++ [(sp.getD k (0, 0)).1.toNat + (d + m)] := rfl
            rw [e9, hU]
            exact List.append_assoc _ _ _
        obtain ⟨U, hU⟩ := sq (n + 1)
        exact ⟨U, by rw [hU, List.append_assoc]⟩
      obtain ⟨U, hU9⟩ := ex
      have := hq σ hg (by rw [hU9, take_ge hle]; exact hp) hf
      rw [hU9, List.length_append, show s - ((ntN sp kL (k - kL) ++ seqN (sp.getD k (0, 0)).1.toNat d).length + U.length) = s - (ntN sp kL (k - kL) ++ seqN (sp.getD k (0, 0)).1.toNat d).length by omega] at this
      exact this
    · have hlt : (ntN sp kL (k - kL) ++ seqN (sp.getD k (0, 0)).1.toNat d).length < s := by omega
      rw [List.take_of_length_le (by omega)] at hp
      have lp : (L1 ++ (ntN sp kL (k - kL) ++ seqN (sp.getD k (0, 0)).1.toNat d).map (lnG Ls)).length < 6100 := by
        rw [List.length_append, List.length_map]
        omega
      have ei : (sp.getD k (0, 0)).1 + (d : Int) = (((sp.getD k (0, 0)).1.toNat + d : Nat) : Int) := by omega
      rw [ei]
      have w1 : wtN Ls (ntN sp kL (k - kL) ++ seqN (sp.getD k (0, 0)).1.toNat d) + (lnG Ls ((sp.getD k (0, 0)).1.toNat + d)).1.length ≤ wtN Ls (ntN sp kL (kU - kL)) := by
        have a1 := wtN_n (Ls := Ls) (sp := sp) (k := kL) (m := kU - (k + 1)) (d := k + 1 - kL)
        rw [show k + 1 - kL + (kU - (k + 1)) = kU - kL by omega, full (d + (n + 1)) hd, wtN_a] at a1
        have a2 := wtN_q (Ls := Ls) (a := (sp.getD k (0, 0)).1.toNat) (m := n) (d := d + 1)
        rw [show d + 1 + n = d + (n + 1) by omega] at a2
        have a3 : wtN Ls (seqN (sp.getD k (0, 0)).1.toNat (d + 1)) = wtN Ls (seqN (sp.getD k (0, 0)).1.toNat d) + (lnG Ls ((sp.getD k (0, 0)).1.toNat + d)).1.length := by
          show wtN Ls (seqN _ d ++ [_]) = _
          rw [wtN_a, wtN_1]
        rw [wtN_a]
        omega
      have sl : suM ((L1 ++ (ntN sp kL (k - kL) ++ seqN (sp.getD k (0, 0)).1.toNat d).map (lnG Ls)).map (·.1)) = suM (L1.map (·.1)) + wtN Ls (ntN sp kL (k - kL) ++ seqN (sp.getD k (0, 0)).1.toNat d) := by
        rw [List.map_append, suM_app]
        rfl
      have il : (sp.getD k (0, 0)).1.toNat + d < Ls.length := by omega
      have tl := tot_l (Ls := Ls) il
      refine R_proofCopy.p (x := lnG Ls ((sp.getD k (0, 0)).1.toNat + d)) (by omega) (hg.1.2.2 _ il) (by show _ + (Ls.getD _ ([], 0, 0)).1.length ≤ 70000; omega) (ho _ il) hp lp (by rw [sl]; omega) (fun σ2 p2 f2 => ?_)
      have := ih (d + 1) σ2 (by omega) (hg.p (FrPp.pf f2)) (by
        have e1 : ntN sp kL (k - kL) ++ seqN (sp.getD k (0, 0)).1.toNat (d + 1) = (ntN sp kL (k - kL) ++ seqN (sp.getD k (0, 0)).1.toNat d) ++ [(sp.getD k (0, 0)).1.toNat + d] := by
          show _ ++ (seqN _ d ++ [_]) = _
          rw [List.append_assoc]
        rw [e1, List.take_of_length_le (by rw [List.length_append]; show _ + 1 ≤ s; omega), List.map_append, ← List.append_assoc]
        exact p2) (hf.tr f2)
      rw [show (((sp.getD k (0, 0)).1.toNat + d : Nat) : Int) + 1 = (sp.getD k (0, 0)).1 + ((d + 1 : Nat) : Int) by omega]
      have e2 : (((s - (ntN sp kL (k - kL) ++ seqN (sp.getD k (0, 0)).1.toNat d).length : Nat) : Int)) + -1 = ((s - (ntN sp kL (k - kL) ++ seqN (sp.getD k (0, 0)).1.toNat (d + 1)).length : Nat) : Int) := by
        have e3 : (ntN sp kL (k - kL) ++ seqN (sp.getD k (0, 0)).1.toNat (d + 1)).length = (ntN sp kL (k - kL) ++ seqN (sp.getD k (0, 0)).1.toNat d).length + 1 := by
          rw [List.length_append, List.length_append, seqN_l, seqN_l]
          omega
        rw [e3]
        omega
      show R_page_260 _ _ _ _ _ _ σ2 Q
      rw [e2]
      exact this
/-- notes of a line -/
theorem rpg_239 {last q s kL kU : Nat} (hB : PgB room F Ls A sp) (hT : suM (Ls.map (·.1)) ≤ 70000) (ho : ∀ i, i < Ls.length → Rg (Ls.getD i ([], 0, 0)).2.1) (hql : q < F.length) (h0 : 0 ≤ F.getD q 0) (hkL : kL ≤ nB A (q : Int)) (hkU : nB A ((q : Int) + 1) ≤ kU) (hU : kU ≤ sp.length) (hs6 : s ≤ 60) (hl : L1.length + s ≤ 6100) (hsN : suM (L1.map (·.1)) + wtN Ls (ntN sp kL (kU - kL)) ≤ 80000) (hg : GyR σ F Ls A sp) (hp : PfR σ (L1 ++ ((ntN sp kL (nB A (q : Int) - kL)).take s).map (lnG Ls))) (hf : FrPf σ0 σ) (hq : ∀ σ', GyR σ' F Ls A sp → PfR σ' (L1 ++ ((ntN sp kL (nB A ((q : Int) + 1) - kL)).take s).map (lnG Ls)) → FrPf σ0 σ' → R_page_298 (last : Int) ((s - (ntN sp kL (nB A ((q : Int) + 1) - kL)).length : Nat) : Int) (q : Int) σ' Q) : R_page_239 (last : Int) ((s - (ntN sp kL (nB A (q : Int) - kL)).length : Nat) : Int) (q : Int) (F.getD q 0) (mV σ 317 (F.getD q 0).toNat) σ Q := by
  have la := hB.2.2.2.2.2.2.2.2
  have ls := hB.2.2.2.2.2.2.2.1
  have l5 := hB.2.2.1
  have fb := F_b hB hql
  have nm := nB_mo (A := A) (x := (q : Int)) (y := (q : Int) + 1) (by omega)
  by_cases c : nB A (q : Int) = nB A ((q : Int) + 1)
  · obtain ⟨z1, z2⟩ := (nl_at hB hg.2.2 hql h0).1 c
    rw [← c] at hq
    rw [z1]
    exact R_page_239.i ⟨by omega, by omega, by decide, fun _ => hq σ hg hp hf, fun h => by rw [z2] at h; omega⟩
  · rw [((nl_at hB hg.2.2 hql h0).2 c).1]
    have go : ∀ (n k : Nat) (σ : MS), k + n = nB A ((q : Int) + 1) → nB A (q : Int) ≤ k → GyR σ F Ls A sp → PfR σ (L1 ++ ((ntN sp kL (k - kL)).take s).map (lnG Ls)) → FrPf σ0 σ → R_page_239 (last : Int) ((s - (ntN sp kL (k - kL)).length : Nat) : Int) (q : Int) (F.getD q 0) (k : Int) σ Q := by
      intro n
      induction n with
      | zero =>
        intro k σ hk hk2 hg hp hf
        have z2 := ((nl_at hB hg.2.2 hql h0).2 c).2
        have ek : k = nB A ((q : Int) + 1) := by omega
        have := hq σ hg (by rw [← ek]; exact hp) hf
        rw [← ek] at this
        exact R_page_239.i ⟨by omega, by omega, by unfold Rg; omega, fun _ => this, fun h => by rw [z2] at h; omega⟩
      | succ n ih =>
        intro k σ hk hk2 hg hp hf
        have z2 := ((nl_at hB hg.2.2 hql h0).2 c).2
        have e303 : mV σ 303 k = (sp.getD k (0, 0)).1 := (hg.2.2.1 k (by omega)).1
        have bk := hB.2.2.2.2.2.2.1 _ (gdp_mem (L := sp) (i := k) (by omega))
        refine R_page_239.i ⟨by omega, by omega, by unfold Rg; omega, fun h => by rw [z2] at h; omega, fun _ => ⟨by omega, by omega, ?_⟩⟩
        rw [Int.toNat_natCast, e303]
        have := rpg_260 (σ0 := σ0) (last := last) (q := q) (l := (F.getD q 0).toNat) (k := k) (s := s) (kL := kL) (kU := kU) (Q := Q) (L1 := L1) hB hT ho (by omega) (by omega) hU hs6 hl hsN (fun σ2 g2 p2 f2 => ?_) ((sp.getD k (0, 0)).2 - (sp.getD k (0, 0)).1).toNat 0 σ (by omega) hg (by rw [show seqN (sp.getD k (0, 0)).1.toNat 0 = [] from rfl, List.append_nil]; exact hp) hf
        · rw [show seqN (sp.getD k (0, 0)).1.toNat 0 = [] from rfl, List.append_nil, show (sp.getD k (0, 0)).1 + ((0 : Nat) : Int) = (sp.getD k (0, 0)).1 by omega, show (((F.getD q 0).toNat : Nat) : Int) = F.getD q 0 by omega] at this
          exact this
        · rw [show (((F.getD q 0).toNat : Nat) : Int) = F.getD q 0 by omega]
          refine R_page_292.i ?_
          rw [show (k : Int) + 1 = ((k + 1 : Nat) : Int) by omega]
          exact ih (k + 1) σ2 (by omega) (by omega) g2 p2 f2
    exact go (nB A ((q : Int) + 1) - nB A (q : Int)) (nB A (q : Int)) σ (by omega) (Nat.le_refl _) hg hp hf
/-- notes of a page -/
theorem rpg_202 {last s : Nat} (hB : PgB room F Ls A sp) (hT : suM (Ls.map (·.1)) ≤ 70000) (ho : ∀ i, i < Ls.length → Rg (Ls.getD i ([], 0, 0)).2.1) (hla : last < F.length) (hs6 : s ≤ 60) (hl : L1.length + s ≤ 6100) (hsN : suM (L1.map (·.1)) + wtN Ls (ntN sp (nB A (e : Int)) (nB A ((last : Int) + 1) - nB A (e : Int))) ≤ 80000) (hq : ∀ σ', GyR σ' F Ls A sp → PfR σ' (L1 ++ ((ntN sp (nB A (e : Int)) (nB A ((last : Int) + 1) - nB A (e : Int))).take s).map (lnG Ls)) → FrPf σ0 σ' → R_page_304 σ' Q) : ∀ (n q : Nat) (σ : MS), q + n = last + 1 → e ≤ q → GyR σ F Ls A sp → PfR σ (L1 ++ ((ntN sp (nB A (e : Int)) (nB A (q : Int) - nB A (e : Int))).take s).map (lnG Ls)) → FrPf σ0 σ → R_page_202 (last : Int) ((s - (ntN sp (nB A (e : Int)) (nB A (q : Int) - nB A (e : Int))).length : Nat) : Int) (q : Int) σ Q := by
  have la := hB.2.2.2.2.2.2.2.2
  have ls := hB.2.2.2.2.2.2.2.1
  have lf := hB.2.1
  have nl := nB_l (A := A) (x := (last : Int) + 1)
  intro n
  induction n with
  | zero =>
    intro q σ hn he hg hp hf
    have eq : q = last + 1 := by omega
    refine R_page_202.i ⟨by unfold Rg; omega, by unfold Rg; omega, fun _ => hq σ hg ?_ hf, fun h => absurd h (by omega)⟩
    rw [eq, show ((last + 1 : Nat) : Int) = (last : Int) + 1 by omega] at hp
    exact hp
  | succ n ih =>
    intro q σ hn he hg hp hf
    have hql : q < F.length := by omega
    obtain ⟨k1, k2⟩ := hg.2.1.2 q hql
    refine R_page_202.i ⟨by unfold Rg; omega, by unfold Rg; omega, fun h => absurd h (by omega), fun _ => ⟨by omega, by omega, ?_⟩⟩
    rw [Int.toNat_natCast, k1]
    by_cases f0 : 0 ≤ F.getD q 0
    · have ek : elK (F.getD q 0) = 0 := by
        unfold elK
        rw [if_pos f0]
      have fb := F_b hB hql
      have l5 := hB.2.2.1
      rw [ek, k2 f0]
      refine ⟨fun _ => ⟨by omega, by omega, by omega, by omega, ?_⟩, fun h => absurd rfl h⟩
      refine rpg_239 (σ0 := σ0) (kL := nB A (e : Int)) (kU := nB A ((last : Int) + 1)) hB hT ho hql f0 (nB_mo (by omega)) (nB_mo (by omega)) (by omega) hs6 hl hsN hg hp hf (fun σ2 g2 p2 f2 => R_page_298.i ?_)
      rw [show (q : Int) + 1 = ((q + 1 : Nat) : Int) by omega] at p2 ⊢
      exact ih (q + 1) σ2 (by omega) (by omega) g2 p2 f2
    · have ek : ¬ elK (F.getD q 0) = 0 := by
        unfold elK
        rw [if_neg f0]
        split <;> decide
      refine ⟨fun h => absurd h ek, fun _ => R_page_298.i ?_⟩
      have es := nB_sk (i := q) hB.2.2.2.2.1 (by omega)
      have := ih (q + 1) σ (by omega) (by omega) hg (by rw [show ((q + 1 : Nat) : Int) = (q : Int) + 1 by omega, es]; exact hp) hf
      rw [show ((q + 1 : Nat) : Int) = (q : Int) + 1 by omega, es] at this
      exact this
end
