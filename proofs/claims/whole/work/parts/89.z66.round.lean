/-! A ROUND: blocks keep its bounds -/
theorem ki_2 {U : List Int} (h : kiL U = 2) : ¬ lvL U = -1 := by
  unfold kiL at h
  intro e
  rw [e] at h
  simp only [if_true] at h
  split at h
  · exact absurd h (by decide)
  · split at h
    · exact absurd h (by decide)
    · split at h
      · exact absurd h (by decide)
      · split at h
        · exact absurd h (by decide)
        · split at h
          · exact absurd h (by decide)
          · split at h <;> exact absurd h (by decide)
theorem lv_b {U : List Int} (h : ¬ lvL U = -1) : 1 ≤ lvL U ∧ lvL U ≤ 3 ∧ lvL U = (rnW 61 U : Int) ∧ rnW 61 U < U.length ∧ U.getD (rnW 61 U) 0 = 32 := by
  unfold lvL at h ⊢
  split at h
  · rename_i c
    rw [if_pos c]
    exact ⟨by omega, by omega, rfl, c.2.2.1, c.2.2.2⟩
  · exact absurd rfl h
theorem smB.sg9 {M : List Int} {a e : Nat} (h : smB M) : smB (sgT M a e) := fun x hx => h x (List.mem_of_mem_drop (List.mem_of_mem_take hx))
theorem tpT_sm9 {L : List Int} (h : smB L) : smB (tpT L) := fun x hx => by
  unfold tpT at hx
  obtain ⟨y, hy, e⟩ := List.mem_map.mp hx
  have := h y hy
  split at e <;> omega
theorem sgT_ll {M : List Int} {a e : Nat} : (sgT M a e).length ≤ M.length := by
  unfold sgT
  rw [List.length_take, List.length_drop]
  omega
theorem itE_b {E : TE} {cn : List Int} {d : Nat} {jo co : Bool} (h : E.2.2.1.length ≤ 32 ∧ smB E.2.2.1) : (itE E cn d jo co).2.2.1.length ≤ 32 ∧ smB (itE E cn d jo co).2.2.1 := by
  unfold itE
  split
  · have := wrN_len (n := (itN cn d jo co).getD d 0) (sys := itS d)
    exact ⟨by show (wrN _ _).length ≤ 32; omega, wrN_s⟩
  · exact h
theorem EI.it {E : TE} {cn : List Int} {d : Nat} {jo co : Bool} (h : EI E) : EI (itE E cn d jo co) := by
  have b := itE_b (cn := cn) (d := d) (jo := jo) (co := co) h.2.2.1
  rw [itE_e]
  exact ⟨h.1, h.2.1, b, h.2.2.2⟩
section
variable {B : BF9} {M : List Int} {i : Nat} {jo : Bool} {d d' : RD9}
theorem bnE_l (hi : i < (mlL M).length) : i + 1 ≤ bnE M i ∧ bnE M i ≤ (mlL M).length := bnN_l _ _ (by omega)
theorem RDI.mo {j : Nat} (h : RDI d i) (hj : i ≤ j) : RDI d j := ⟨h.1, h.2.1, h.2.2.1, ⟨h.2.2.2.1.1, fun k hk => by
  have := h.2.2.2.1.2 k hk
  omega⟩, h.2.2.2.2⟩
theorem RDI.up {b : BK9} {r : BK9 ⊕ (Int × Int × Int)} {j : Nat} (h : RDI d i) (hj : i ≤ j) (hr : ∀ b, r = .inl b → RI9 b d.2.1) (e : upB d r = .inl d') : RDI d' j := by
  cases r with
  | inr x => cases e
  | inl b =>
    rw [← Sum.inl.inj e]
    have := h.mo hj
    exact ⟨hr b rfl, this.2⟩
theorem dirD_i (hMb : smB M) (hM4 : M.length ≤ 4000) (h : RDI d i) (hG : GB9 (-45) (bkG d.1)) (e : dirD B M i d = .inl d') : RDI d' i := by
  unfold dirD at e
  have hU : smB (lnU M i) := hMb.sg9
  have hUl : (lnU M i).length ≤ 4000 := Nat.le_trans sgT_ll hM4
  cases hx : drD (lnU M i) d.2.2.1 d.1.1 with
  | inr x =>
    simp only [hx] at e
    cases e
  | inl x =>
    simp only [hx] at e
    have u := drD_u.1 x hx
    have ru := (drD_ok hU hUl h.2.1).1 x hx
    have r1 : RI9 (x.2, d.1.2) d.2.1 := h.1.wk u
    have h1 : RDI ((x.2, d.1.2), d.2.1, x.1, d.2.2.2) i := ⟨r1, ru, h.2.2⟩
    have s8 := ru.st.2.2.2.2.2.2
    have g1 : GB9 (-45) (bkG (x.2, d.1.2)) := GB9.up (b := d.1) (s := x.2) hG (Int.le_refl _) ⟨u.2.2.1, u.2.2.2.2.1 hG.1.2⟩ ⟨by
      have := u.2.2.2.1
      have : 0 ≤ d.1.1.1.2.1 := hG.2.1.1
      omega, u.2.2.2.2.2 hG.2.1.2⟩
    unfold diD at e
    by_cases c1 : drT (lnU M i) = 1
    · rw [if_pos c1] at e
      exact h1.up (b := d.1) (Nat.le_refl _) (fun b hb => ctD_i s8 r1 g1 hb) e
    · rw [if_neg c1] at e
      by_cases c2 : drT (lnU M i) = 2
      · rw [if_pos c2] at e
        exact h1.up (b := d.1) (Nat.le_refl _) (fun b hb => ixD_i s8 r1 g1 hb) e
      · rw [if_neg c2] at e
        by_cases c3 : drT (lnU M i) = 3
        · rw [if_pos c3] at e
          rw [← Sum.inl.inj e]
          exact ⟨r1.cu g1, h1.2⟩
        · rw [if_neg c3] at e
          rw [← Sum.inl.inj e]
          exact h1
theorem heaD_i (hB : BfI B) (hMb : smB M) (hk : kdL M i = 2) (h : RDI d i) (hti : TI ((suM d.2.1.1 : Nat) + 110 : Int) 0 (tx0 d.1.1)) (hG : GB9 (-45) (bkG d.1)) (e : heaD B M i d = .inl d') : RDI d' i := by
  unfold heaD at e
  have lv := lv_b (ki_2 hk)
  have lv1 : 1 ≤ lvL (lnU M i) ∧ lvL (lnU M i) ≤ 3 := ⟨lv.1, lv.2.1⟩
  generalize hl : (lvL (lnU M i)).toNat = l at e
  have l3 : 1 ≤ l ∧ l ≤ 3 := by omega
  obtain ⟨r, ru, ⟨n4, nb⟩, hc, ⟨hlt, hls⟩⟩ := h
  have g60 : d.2.1.1.length ≤ 60 := r.2.2.2.2.2.2.1.1
  have s8 := ru.st.2.2.2.2.2.2
  cases hx : hgD ((i : Int) + 1) (rdE B d.2.2.1 d.2.2.2.2.2) (rdH d.2.2.1) d.2.2.1.1 (hgJ (hgN d.2.2.2.1 l) l) l (tpT (sgT M (((mlL M).getD i (0, 0)).1 + (l + 1)) ((mlL M).getD i (0, 0)).2)) d.1 d.2.1 with
  | inr x =>
    simp only [hx] at e
    cases e
  | inl x =>
    simp only [hx] at e
    have c60 : ¬ 60 ≤ d.2.1.1.length := fun c => by
      unfold hgD at hx
      rw [if_pos c] at hx
      cases hx
    have nb1 := hgN_b (l := l) (m := (d.2.1.1.length : Int)) (by omega) nb
    have nb6 : ∀ k, k < 4 → 0 ≤ (hgN d.2.2.2.1 l).getD k 0 ∧ (hgN d.2.2.2.1 l).getD k 0 ≤ 60 := fun k hk => by
      have := nb1 k hk
      omega
    have ll := hgJ_l nb6 l l3.2
    have ls := hgJ_s (nu := hgN d.2.2.2.1 l) l
    have hE := (ru.ei hB hlt hls).hg (Lt := hgJ (hgN d.2.2.2.1 l) l) (by omega) ls
    have r1 := hgD_i hE l3 (tpT_sm9 hMb.sg9) s8 (by omega) ls r hti hG (g' := x.2) (by rw [hx])
    rw [← Sum.inl.inj e]
    refine ⟨r1, ru, ⟨ofF_len, fun k hk => ?_⟩, hc, ⟨by show (hgJ _ _).length ≤ 32; omega, ls⟩⟩
    have := nb1 k hk
    have lg : x.2.1.length = d.2.1.1.length + 1 := by
      have hx2 := hx
      unfold hgD at hx2
      rw [if_neg c60] at hx2
      cases hw : wkD 30 (hgE (rdE B d.2.2.1 d.2.2.2.2.2) (hgJ (hgN d.2.2.2.1 l) l)) false [] (tpT (sgT M (((mlL M).getD i (0, 0)).1 + (l + 1)) ((mlL M).getD i (0, 0)).2)) (hgS (hgJ (hgN d.2.2.2.1 l) l) d.1.1) with
      | inr y =>
        simp only [hw] at hx2
        cases hx2
      | inl s1 =>
        simp only [hw] at hx2
        unfold hgP at hx2
        split at hx2
        · cases hx2
        · rw [← Sum.inl.inj hx2]
          exact List.length_append ..
    show 0 ≤ (hgN d.2.2.2.1 l).getD k 0 ∧ (hgN d.2.2.2.1 l).getD k 0 ≤ (x.2.1.length : Int)
    rw [lg]
    omega
theorem itmD_i (hB : BfI B) (hMb : smB M) (h : RDI d i) (hG : GB9 (-45) (bkG d.1)) (e : itmD B M i jo d = .inl d') : RDI d' (i + 1) := by
  unfold itmD at e
  obtain ⟨r, ru, hn, ⟨c3, cb⟩, ⟨hlt, hls⟩⟩ := h
  have s8 := ru.st.2.2.2.2.2.2
  have hE := (ru.ei hB hlt hls).it (cn := d.2.2.2.2.1) (d := itQ (lnU M i)) (jo := jo) (co := itH (lnU M i))
  have nb := itN_b (d := itQ (lnU M i)) (jo := jo) (co := itH (lnU M i)) (by omega : (0 : Int) ≤ (i : Int)) cb
  have eb := itE_b (E := rdE B d.2.2.1 d.2.2.2.2.2) (cn := d.2.2.2.2.1) (d := itQ (lnU M i)) (jo := jo) (co := itH (lnU M i)) ⟨hlt, hls⟩
  cases hx : txD ((i : Int) + 1) (itE (rdE B d.2.2.1 d.2.2.2.2.2) d.2.2.2.2.1 (itQ (lnU M i)) jo (itH (lnU M i))) (rdH d.2.2.1) d.2.2.1.1 (itP d.2.2.2.2.1 (itQ (lnU M i)) jo (itH (lnU M i))) ((itP d.2.2.2.2.1 (itQ (lnU M i)) jo (itH (lnU M i))).length : Int) (if jo = true then 0 else d.2.2.1.1.getD 8 0) true (tpT (sgT M (((mlL M).getD i (0, 0)).1 + (2 * itQ (lnU M i) + 2)) ((mlL M).getD (bnE M i - 1) (0, 0)).2)) d.1 with
  | inr x =>
    simp only [hx] at e
    cases e
  | inl b1 =>
    simp only [hx] at e
    have r1 := txD_i hE (tpT_sm9 hMb.sg9) (by split <;> omega) r hG hx
    rw [← Sum.inl.inj e]
    refine ⟨r1, ru, hn, ⟨itN_l, fun k hk => ?_⟩, eb⟩
    have := nb k hk
    show 0 ≤ (itN _ _ _ _).getD k 0 ∧ (itN _ _ _ _).getD k 0 ≤ ((i + 1 : Nat) : Int)
    omega
theorem blD_i (hB : BfI B) (hMb : smB M) (hM4 : M.length ≤ 4000) (hi : i < (mlL M).length) (h : RDI d i) (h15 : ¬ (60000 < d.1.1.1.1 + 15 ∨ 400000 < d.1.1.1.2.1 + 15)) (e : blD B M i jo (b15 d.1, d.2) = .inl d') : RDI d' (bnE M i) := by
  obtain ⟨r0, ti, gb⟩ := h.1.sp (by omega) (by omega)
  have h0 : RDI (b15 d.1, d.2) i := ⟨r0, h.2⟩
  have bn := bnE_l hi
  have s8 := h.2.1.st.2.2.2.2.2.2
  have hE := h.2.1.ei hB h.2.2.2.2.1 h.2.2.2.2.2
  unfold blD at e
  by_cases k1 : kdL M i = 1
  · rw [if_pos k1] at e
    exact (dirD_i hMb hM4 h0 gb e).mo (by omega)
  · rw [if_neg k1] at e
    by_cases k2 : kdL M i = 2
    · rw [if_pos k2] at e
      exact (heaD_i hB hMb k2 h0 ti gb e).mo (by omega)
    · rw [if_neg k2] at e
      by_cases k3 : kdL M i = 3
      · rw [if_pos k3] at e
        exact h0.up (b := d.1) (by omega) (fun b hb => tbF_i hE hMb s8 r0 gb hb) e
      · rw [if_neg k3] at e
        by_cases k4 : kdL M i = 4
        · rw [if_pos k4] at e
          exact h0.up (b := d.1) (by omega) (fun b hb => rwD_i s8 (by omega) r0 gb hb) e
        · rw [if_neg k4] at e
          by_cases k5 : kdL M i = 5
          · rw [if_pos k5] at e
            exact (itmD_i hB hMb h0 gb e).mo (by omega)
          · rw [if_neg k5] at e
            exact h0.up (b := d.1) (by omega) (fun b hb => txD_i hE (tpT_sm9 hMb.sg9) s8 r0 gb hb) e
theorem rnD_i (hB : BfI B) (hMb : smB M) (hM4 : M.length ≤ 4000) : ∀ {n i : Nat} {jo : Bool} {ln : Int} {d : RD9} {x : RD9 × Int}, i ≤ (mlL M).length → RDI d i → (0 ≤ ln ∧ ln ≤ (i : Int)) → rnD B M n i jo ln d = .inl x → RDI x.1 (mlL M).length ∧ (0 ≤ x.2 ∧ x.2 ≤ ((mlL M).length : Int))
  | 0, i, jo, ln, d, x, hi, h, hl, e => by
    rw [← Sum.inl.inj e]
    exact ⟨h.mo hi, by show 0 ≤ ln ∧ ln ≤ _; omega⟩
  | n + 1, i, jo, ln, d, x, hi, h, hl, e => by
    unfold rnD at e
    by_cases c1 : (mlL M).length ≤ i
    · rw [if_pos c1] at e
      rw [← Sum.inl.inj e]
      exact ⟨h.mo hi, by show 0 ≤ ln ∧ ln ≤ _; omega⟩
    · rw [if_neg c1] at e
      by_cases c2 : kdL M i = 0
      · rw [if_pos c2] at e
        exact rnD_i hB hMb hM4 (by omega) (h.mo (by omega)) (by omega) e
      · rw [if_neg c2] at e
        by_cases c3 : 60000 < d.1.1.1.1 + 15 ∨ 400000 < d.1.1.1.2.1 + 15
        · rw [if_pos c3] at e
          cases e
        · rw [if_neg c3] at e
          cases hx : blD B M i jo (b15 d.1, d.2) with
          | inr y =>
            simp only [hx] at e
            cases e
          | inl d1 =>
            simp only [hx] at e
            have bn := bnE_l (M := M) (i := i) (by omega)
            exact rnD_i hB hMb hM4 bn.2 (blD_i hB hMb hM4 (by omega) h c3 hx) (by omega) e
theorem rd0_i {w : Int × Int} (h1 : 0 ≤ w.1 ∧ w.1 ≤ 60000) (h2 : 0 ≤ w.2 ∧ w.2 ≤ 400000) : RDI (rd0 w) 0 := by
  have m0 : ∀ F : List Int, MkP F [] := fun F v hv => absurd hv List.not_mem_nil
  have z4 : ∀ k, k < 4 → 0 ≤ ([0, 0, 0, 0] : List Int).getD k 0 ∧ ([0, 0, 0, 0] : List Int).getD k 0 ≤ 0 := by decide
  have z3 : ∀ k, k < 3 → 0 ≤ ([0, 0, 0] : List Int).getD k 0 ∧ ([0, 0, 0] : List Int).getD k 0 ≤ 0 := by decide
  have zb : ∀ k, k < 13 → leD.getD k 0 ≤ AT1.getD k 0 ∧ AT1.getD k 0 ≤ moD.getD k 0 := by decide
  refine ⟨⟨?_, ?_, ⟨rfl, rfl⟩, ⟨fun i hi => absurd hi (Nat.not_lt_zero _), fun i j _ hj => absurd hj (Nat.not_lt_zero _)⟩, ⟨m0 _, m0 _, fun i j _ hj => absurd hj (Nat.not_lt_zero _)⟩, ⟨m0 _, fun i j _ hj => absurd hj (Nat.not_lt_zero _), fun x hx => absurd hx List.not_mem_nil⟩, ⟨Nat.zero_le _, rfl, rfl⟩, ⟨m0 _, fun t ht => absurd ht List.not_mem_nil, fun t ht => absurd ht List.not_mem_nil⟩⟩, ⟨⟨rfl, zb⟩, ⟨rfl, rfl, Nat.zero_le _, fun w hw => absurd hw List.not_mem_nil, fun w hw => absurd hw List.not_mem_nil, fun w hw => absurd hw List.not_mem_nil⟩, ⟨Nat.zero_le _, fun w hw => absurd hw List.not_mem_nil⟩, ⟨Nat.zero_le _, fun w hw => absurd hw List.not_mem_nil⟩⟩, ⟨rfl, z4⟩, ⟨rfl, z3⟩, ⟨Nat.zero_le _, fun x hx => absurd hx List.not_mem_nil⟩⟩
  · refine ⟨⟨h1, h2, (show (0 : Int) ≤ 0 ∧ (0 : Int) ≤ 3 by decide), okK.nil⟩, ⟨rfl, Nat.zero_le _, fun w hw => absurd hw List.not_mem_nil, fun x hx => absurd hx List.not_mem_nil⟩, ⟨rfl, rfl, Nat.zero_le _, fun w hw => absurd hw List.not_mem_nil, fun w hw => absurd hw List.not_mem_nil⟩, ⟨rfl, Nat.zero_le _, fun w hw => absurd hw List.not_mem_nil⟩, ⟨rfl, Int.le_refl _, (show (0 : Int) ≤ 60 by decide), fun w hw => absurd hw List.not_mem_nil⟩, ⟨Int.le_refl _, by show (0 : Int) + 0 ≤ w.2; omega, by show (0 : Int) ≤ w.1; omega⟩, ?_⟩
    show ((0 : Nat) : Int) + ((0 : Nat) : Int) + ((0 : Nat) : Int) + (((0 : Nat) : Int) + 100) ≤ w.1 + 100
    omega
  · exact ⟨h1, h2, Nat.zero_le _, by show ((0 : Nat) : Int) + 20 * ((0 : Nat) : Int) ≤ w.1; omega, by show 45 * ((0 : Nat) : Int) ≤ 3 * w.1 + 75 * ((0 : Nat) : Int) + 0; omega⟩
theorem rouD_i (hB : BfI B) (hMb : smB M) (hM4 : M.length ≤ 4000) {w : Int × Int} (h1 : 0 ≤ w.1) (h2 : 0 ≤ w.2) {x : RD9 × Int} (e : rouD B M w = .inl x) : RDI x.1 (mlL M).length ∧ (0 ≤ x.2 ∧ x.2 ≤ ((mlL M).length : Int)) := by
  unfold rouD at e
  by_cases c : 60000 < w.1 + ((mlL M).length : Int) ∨ 400000 < w.2 + ((mlL M).length : Int)
  · rw [if_pos c] at e
    cases e
  · rw [if_neg c] at e
    exact rnD_i hB hMb hM4 (Nat.zero_le _) (rd0_i (by show 0 ≤ w.1 + _ ∧ w.1 + _ ≤ _; omega) (by show 0 ≤ w.2 + _ ∧ w.2 + _ ≤ _; omega)) ⟨Int.le_refl _, Int.le_refl _⟩ e
end
