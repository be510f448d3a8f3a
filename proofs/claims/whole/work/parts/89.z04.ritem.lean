/-! ITEMS: the reference sets one; the end -/
def AlI (nw z k : Nat) : Prop := AlB nw z k ∨ z = 300 ∨ z = 349 ∨ (z = 246 ∧ k = 84)
def FrI (nw : Nat) (σ σ' : MS) : Prop := FrA (AlI nw) σ σ'
def itSS : List Nat := [300, 337, 349, 350]
def itKK : List Nat := 84 :: 143 :: bgK
theorem itM_s {cn : List Int} {d : Nat} {jo co : Bool} : smB (itM cn d jo co) := by
  unfold itM
  split
  · refine wrN_s.app (smB.one ?_)
    split <;> decide
  · refine smB.one ?_
    split
    · decide
    · split <;> decide
theorem itP_l {cn : List Int} {d : Nat} {jo co : Bool} : (itP cn d jo co).length = 2 * d + ((itM cn d jo co).length + 1) := by
  unfold itP
  rw [List.length_append, List.length_append, List.length_replicate]
  show _ + 1 = _
  omega
theorem itE_e {E : TE} {cn : List Int} {d : Nat} {jo co : Bool} : itE E cn d jo co = (E.1, E.2.1, (itE E cn d jo co).2.2.1, E.2.2.2) := by
  unfold itE
  cases co <;> rfl
section
variable {σ σ0 : MS} {Q : MQ9} {nw x0 d : Nat} {E : TE} {H : HY9} {S T cn : List Int} {o : Int} {b : BK9} {jo co : Bool}
theorem FrI.z {S9 K9 : List Nat} {σ1 : MS} (h : FrZ S9 K9 σ σ1) (hs : ∀ x ∈ S9, x ∈ 300 :: 349 :: BkS) (hk : ∀ x ∈ K9, x ∈ 84 :: BkK) : FrI nw σ σ1 := ⟨h.1, h.2.1, fun z k n => h.2.2 z k (fun e => n (by
  have := hs z e
  simp only [List.mem_cons] at this
  rcases this with h | h | h
  · exact Or.inr (Or.inl h)
  · exact Or.inr (Or.inr (Or.inl h))
  · exact Or.inl (Or.inr (Or.inl h))) ) (by
  by_cases h6 : z = 246
  · refine Or.inr (fun e => n ?_)
    have := hk k e
    rcases List.mem_cons.mp this with h | h
    · exact Or.inr (Or.inr (Or.inr ⟨h6, h⟩))
    · exact Or.inl (Or.inl ⟨h6, h⟩)
  · exact Or.inl h6)⟩
theorem FrI.bb {σ1 : MS} (h : FrB nw σ σ1) : FrI nw σ σ1 := FrA.mo h (fun z k a => Or.inl a)
theorem FrI.tr {σ1 σ2 : MS} (h : FrI nw σ σ1) (h' : FrI nw σ1 σ2) : FrI nw σ σ2 := FrA.tr h h'
theorem itr_236 (hd : d ≤ 2) (hT : SgR σ0 x0 T) (hTb : smB T) (hB : TbB (itE E cn d jo co) H S (itP cn d jo co) ((itP cn d jo co).length : Int) o b) (hR : BkR σ0 E nw b) (hfl : FlB b) (hsl : b.2.2.1.2.length = b.2.2.1.1.length) (hSv : ∀ k, k < 13 → mV σ0 275 k = S.getD k 0) (hH1 : H.1 = decide (S.getD 3 0 = 1)) (hHy : HyR σ0 H.2.1 H.2.2.1 H.2.2.2.1 H.2.2.2.2) (ho : mV σ0 246 29 = o) (f : FrZ itSS itKK σ0 σ) (be : mV σ 246 16 = 0 ∧ mV σ 246 17 = 70000 ∧ mV σ 246 18 = 0 ∧ mV σ 246 21 = 0 ∧ mV σ 246 22 = 0 ∧ mV σ 246 31 = 0 ∧ mV σ 246 94 = 0 ∧ mV σ 246 95 = 2) (hM : hol σ 350 (itM cn d jo co)) (h161 : mV σ 246 161 = ((itM cn d jo co).length : Int) + 1) (hl : mV σ 246 84 = ((itE E cn d jo co).2.2.1.length : Int) ∧ hol σ 300 (itE E cn d jo co).2.2.1) (hcn : hol σ 349 (itN cn d jo co)) (hy : ∀ b' σ', txD o (itE E cn d jo co) H S (itP cn d jo co) ((itP cn d jo co).length : Int) (if jo = true then 0 else S.getD 8 0) true T b = .inl b' → BkR σ' (itE E cn d jo co) nw b' → hol σ' 349 (itN cn d jo co) → FrI nw σ0 σ' → Q (.inl none) σ') (hn : ∀ e σ', txD o (itE E cn d jo co) H S (itP cn d jo co) ((itP cn d jo co).length : Int) (if jo = true then 0 else S.getD 8 0) true T b = .inr e → TxR σ' e → UnB σ' → FrI nw σ0 σ' → Q (.inl none) σ') : R_item_236 (2 * (d : Int)) (x0 : Int) ((x0 + T.length : Nat) : Int) (bZ jo) σ Q := by
  have ml := itM_l (cn := cn) (d := d) (jo := jo) (co := co)
  have pl := itP_l (cn := cn) (d := d) (jo := jo) (co := co)
  have ms := itM_s (cn := cn) (d := d) (jo := jo) (co := co)
  have epl : (2 * (d : Int)) + mV σ 246 161 = ((itP cn d jo co).length : Int) := by
    rw [h161, pl]
    omega
  refine R_item_236.i ⟨by omega, by omega, ?_⟩
  rw [epl, h161, show ((((itM cn d jo co).length : Int) + 1) - 1).toNat = (itM cn d jo co).length by omega, b8_id (by decide)]
  have f2 : FrZ itSS itKK σ0 (wV σ 350 (itM cn d jo co).length 32) := f.tr (FrZ.wz (by decide))
  have eE := itE_e (E := E) (cn := cn) (d := d) (jo := jo) (co := co)
  have vw6 : ∀ k, mV (wV σ 350 (itM cn d jo co).length 32) 246 k = mV σ 246 k := fun k => wV_ne (Or.inl (by decide))
  have bk2 : BkR (wV σ 350 (itM cn d jo co).length 32) (itE E cn d jo co) nw b := by
    rw [eE]
    exact hR.lt f2 (by decide) (by decide) ⟨(vw6 84).trans hl.1, hl.2.V (by decide)⟩
  have al : (itM cn d jo co ++ [32]).length = (itM cn d jo co).length + 1 := by
    rw [List.length_append]
    rfl
  refine R_text.p (σ := wV σ 350 (itM cn d jo co).length 32) (nw := nw) (P := itP cn d jo co) (sp := if jo = true then 0 else S.getD 8 0) (cl := jo) (item := true) (b := b) (hT.cg (fun k => f2.z (by decide) (by decide))) hTb hB bk2 hfl hsl ⟨(vw6 _).trans be.1, (vw6 _).trans be.2.1, (vw6 _).trans be.2.2.1, (vw6 _).trans be.2.2.2.1, (vw6 _).trans be.2.2.2.2.1, (vw6 _).trans be.2.2.2.2.2.1, (vw6 _).trans be.2.2.2.2.2.2.1, (vw6 _).trans be.2.2.2.2.2.2.2⟩ (fun k hk => (f2.z (by decide) (by decide)).trans (hSv k hk)) hH1 (hHy.k f2 (by decide) (by decide)) ⟨itM cn d jo co ++ [32], by rw [vw6, h161, al]; omega, by omega, hM.sn, by omega, ?_, fun x hx => ?_⟩ ((f2.f (by decide) (by decide)).trans ho) ⟨fun h => absurd h (by decide), fun _ => by rw [vw6, h161]; omega⟩ rfl (fun b' σ2 w1 w2 w3 => hy b' σ2 w1 w2 (fun i hi => ?_) ((FrI.z f2 (by decide) (by decide)).tr (FrI.bb w3))) (fun e σ2 w1 w2 w4 w3 => hn e σ2 w1 w2 w4 ((FrI.z f2 (by decide) (by decide)).tr (FrI.bb w3)))
  · rw [al, pl, show 2 * d + ((itM cn d jo co).length + 1) - ((itM cn d jo co).length + 1) = 2 * d by omega]
    unfold itP
    rw [List.append_assoc]
  · rcases List.mem_append.mp hx with h | h
    · exact ms x h
    · rw [List.mem_singleton.mp h]
      decide
  · rw [w3.2.2 349 i (by
      unfold AlB
      rintro (h | h | h)
      · exact absurd h.1 (by decide)
      · exact absurd h (by decide)
      · exact absurd h.1 (by decide)), wV_ne (Or.inl (by decide))]
    exact hcn i hi
theorem R_item.p (hd : d ≤ 2) (hcl : cn.length = 3) (hc : hol σ 349 cn) (hcb : jo = true → ∀ k, k < 3 → 0 ≤ cn.getD k 0 ∧ cn.getD k 0 ≤ 90000) (hT : SgR σ x0 T) (hTb : smB T) (hB : TbB (itE E cn d jo co) H S (itP cn d jo co) ((itP cn d jo co).length : Int) o b) (hE2 : E.2.2.2 = 2) (hR : BkR σ E nw b) (hfl : FlB b) (hsl : b.2.2.1.2.length = b.2.2.1.1.length) (hSv : ∀ k, k < 13 → mV σ 275 k = S.getD k 0) (hH1 : H.1 = decide (S.getD 3 0 = 1)) (hHy : HyR σ H.2.1 H.2.2.1 H.2.2.2.1 H.2.2.2.2) (ho : mV σ 246 29 = o) (hy : ∀ b' σ', txD o (itE E cn d jo co) H S (itP cn d jo co) ((itP cn d jo co).length : Int) (if jo = true then 0 else S.getD 8 0) true T b = .inl b' → BkR σ' (itE E cn d jo co) nw b' → hol σ' 349 (itN cn d jo co) → FrI nw σ σ' → Q (.inl none) σ') (hn : ∀ e σ', txD o (itE E cn d jo co) H S (itP cn d jo co) ((itP cn d jo co).length : Int) (if jo = true then 0 else S.getD 8 0) true T b = .inr e → TxR σ' e → UnB σ' → FrI nw σ σ' → Q (.inl none) σ') : R_item (2 * (d : Int)) (bZ co) (x0 : Int) ((x0 + T.length : Nat) : Int) (bZ jo) σ Q := by
  refine R_item.i (R_begins.p (by decide) (fun σ1 f1 be h161 => ?_))
  show Rg (2 * (d : Int)) ∧ _
  refine ⟨by unfold Rg; omega, by decide, by rcases bZ_01 (b := jo) with h | h <;> rw [h] <;> decide, ?_⟩
  have f1' : FrZ itSS itKK σ σ1 := f1.mo (fun x hx => absurd hx List.not_mem_nil) (fun x hx => List.mem_cons_of_mem _ (List.mem_cons_of_mem _ hx))
  rw [show Int.tdiv (2 * (d : Int)) 2 = (d : Int) by rw [Int.tdiv_eq_ediv_of_nonneg (by omega)]; omega]
  refine itr_cnt (σ := σ1) hd hcl (fun i hi => (f1.z (by simp) (by decide)).trans (hc i hi)) (fun σ2 f2 c2 => ?_)
  have f12 : FrZ itSS itKK σ σ2 := f1'.tr (f2.mo (by decide) (fun x hx => absurd hx List.not_mem_nil))
  have be2 : mV σ2 246 16 = 0 ∧ mV σ2 246 17 = 70000 ∧ mV σ2 246 18 = 0 ∧ mV σ2 246 21 = 0 ∧ mV σ2 246 22 = 0 ∧ mV σ2 246 31 = 0 ∧ mV σ2 246 94 = 0 ∧ mV σ2 246 95 = 2 := by
    have g : ∀ k, mV σ2 246 k = mV σ1 246 k := fun k => f2.f (by simp) (by decide)
    rw [g, g, g, g, g, g, g, g]
    exact be
  have cl : (itC cn d jo).length = 3 := ofF_len
  have cb := itC_b9 (d := d) (jo := jo) (m := 90000) (by decide) hcb d (by omega)
  refine R_item_44.i ⟨by decide, fun _ => ⟨by rcases bZ_01 (b := co) with h | h <;> rw [h] <;> decide, fun h => ?_, fun h => ?_⟩, fun h => absurd h (by decide)⟩
  · have hco := bZ_z h
    have em : itM cn d jo co = [if d = 0 then 45 else if d = 1 then 42 else 43] := by
      unfold itM
      rw [hco, if_neg (by decide)]
    have e2 : itE E cn d jo co = E := by
      unfold itE
      rw [hco, if_neg (by decide)]
    have lt := hR.2.1.2.2.2.2 (by rw [hE2]; decide)
    have fin : ∀ m : Int, (0 ≤ m ∧ m ≤ 127) → itM cn d jo co = [m] → R_item_229 (2 * (d : Int)) (x0 : Int) ((x0 + T.length : Nat) : Int) (bZ jo) 0 m σ2 Q := fun m hm e => by
      refine R_item_229.i ⟨by decide, by decide, ?_⟩
      rw [b8_id (x := m) (by omega), b8_id (by omega)]
      have f3 : FrZ itSS itKK σ (wV (wV σ2 350 (0 : Int).toNat m) 246 161 2) := (f12.tr (FrZ.wz (by decide))).tr (FrZ.wf (by decide))
      have v6 : ∀ k, k ≠ 161 → mV (wV (wV σ2 350 (0 : Int).toNat m) 246 161 2) 246 k = mV σ2 246 k := fun k hk => (wV_ne (Or.inr hk)).trans (wV_ne (Or.inl (by decide)))
      refine itr_236 (σ0 := σ) hd hT hTb hB hR hfl hsl hSv hH1 hHy ho f3 ?_ ?_ ?_ ⟨?_, ?_⟩ ?_ hy hn
      · rw [v6 _ (by decide), v6 _ (by decide), v6 _ (by decide), v6 _ (by decide), v6 _ (by decide), v6 _ (by decide), v6 _ (by decide), v6 _ (by decide)]
        exact be2
      · rw [e]
        intro i hi
        have hi : i < 1 := hi
        have e0 : i = 0 := by omega
        rw [e0, wV_ne (Or.inl (by decide))]
        exact wV_self
      · rw [e, wV_self]
        rfl
      · rw [v6 _ (by decide), f2.f (by simp) (by decide), f1.f (by decide) (by simp), e2]
        exact lt.1
      · rw [e2]
        exact fun i hi => ((wV_ne (Or.inl (by decide))).trans (wV_ne (Or.inl (by decide)))).trans (((f2.z (by decide) (by decide)).trans (f1.z (by simp) (by decide))).trans (lt.2 i hi))
      · intro i hi
        rw [wV_ne (Or.inl (by decide)), wV_ne (Or.inl (by decide))]
        unfold itN at hi ⊢
        rw [hco, if_neg (by decide)] at hi ⊢
        exact c2 i hi
    refine ⟨fun h9 => ⟨fun h8 => fin 43 (by decide) ?_, fun h8 => fin 42 (by decide) ?_⟩, fun h9 => fin 45 (by decide) ?_⟩
    · rw [em, if_neg (by omega), if_neg (by omega)]
    · rw [em, if_neg (by omega), if_pos (by omega)]
    · rw [em, if_pos (by omega)]
  · have hco := bZ_ne h
    have en : (itN cn d jo co).getD d 0 = (itC cn d jo).getD d 0 + 1 := by
      unfold itN
      rw [hco, if_pos rfl, set_gd (by omega), if_pos rfl]
    have ev : mV σ2 349 d = (itC cn d jo).getD d 0 := c2 d (by omega)
    rw [Int.toNat_natCast, wV_self, ev]
    refine ⟨by omega, by omega, by omega, by omega, by unfold Rg; omega, by omega, by omega, ?_⟩
    have fin : ∀ sys : Int, sys = itS d → R_item_108 (2 * (d : Int)) (x0 : Int) ((x0 + T.length : Nat) : Int) (bZ jo) (d : Int) ((itC cn d jo).getD d 0 + 1) sys (wV σ2 349 d ((itC cn d jo).getD d 0 + 1)) Q := fun sys hs => by
      have sb : 1 ≤ sys ∧ sys ≤ 5 := by
        rw [hs]
        unfold itS
        split
        · decide
        · split <;> decide
      generalize hn9 : (itC cn d jo).getD d 0 + 1 = nn at *
      have wl := wrN_len (n := nn) (sys := sys)
      refine R_item_108.i (R_writes.s (by omega) sb (fun _ => by omega) (fun σ3 ⟨f3, w3, h3⟩ => ?_))
      refine itr_114 (σ0 := σ3) (L := wrN nn sys) (by omega) wrN_s w3 h3 (fun σ4 f4 h4 g4 => ?_) (wrN nn sys).length 0 σ3 (by omega) FrZ.rf (fun k hk => absurd hk (Nat.not_lt_zero _))
      have e143 : mV σ4 246 143 = ((wrN nn sys).length : Int) := (f4.f (by simp) (by decide)).trans w3
      have f04 : FrZ itSS itKK σ σ4 := ((f12.tr (FrZ.wz (by decide))).tr (f3.mo (by decide) (by decide))).tr (f4.mo (by decide) (fun x hx => absurd hx List.not_mem_nil))
      have k4 : ∀ k, k ≠ 143 → mV σ4 246 k = mV σ2 246 k := fun k hk => ((f4.f (by simp) (by decide)).trans (f3.f (by rw [List.mem_singleton]; exact hk) (by decide))).trans (wV_ne (Or.inl (by decide)))
      refine R_item_114.i ⟨by unfold Rg; omega, fun _ => ?_, fun h9 => absurd h9 (by omega)⟩
      have fin2 : ∀ m : Int, (0 ≤ m ∧ m ≤ 127) → itM cn d jo co = wrN nn sys ++ [m] → R_item_186 (2 * (d : Int)) (x0 : Int) ((x0 + T.length : Nat) : Int) (bZ jo) (mV σ4 246 143) m (wV σ4 246 84 (mV σ4 246 143)) Q := fun m hm e => by
        rw [e143]
        refine R_item_186.i ⟨by omega, by omega, ?_⟩
        rw [wV_ne (Or.inr (by decide)), e143, Int.toNat_natCast, b8_id (x := m) (by omega), b8_id (by omega)]
        refine ⟨by unfold Rg; omega, ?_⟩
        have f5 : FrZ itSS itKK σ (wV (wV (wV σ4 246 84 ((wrN nn sys).length : Int)) 350 (wrN nn sys).length m) 246 161 (((wrN nn sys).length : Int) + 2)) := ((f04.tr (FrZ.wf (by decide))).tr (FrZ.wz (by decide))).tr (FrZ.wf (by decide))
        have v6 : ∀ k, k ≠ 161 → k ≠ 84 → mV (wV (wV (wV σ4 246 84 ((wrN nn sys).length : Int)) 350 (wrN nn sys).length m) 246 161 (((wrN nn sys).length : Int) + 2)) 246 k = mV σ4 246 k := fun k hk hk2 => ((wV_ne (Or.inr hk)).trans (wV_ne (Or.inl (by decide)))).trans (wV_ne (Or.inr hk2))
        have eLt : (itE E cn d jo co).2.2.1 = wrN nn sys := by
          unfold itE
          rw [if_pos hco]
          show wrN ((itN cn d jo co).getD d 0) (itS d) = _
          rw [en, hs]
        refine itr_236 (σ0 := σ) hd hT hTb hB hR hfl hsl hSv hH1 hHy ho f5 ?_ ?_ ?_ ⟨?_, ?_⟩ ?_ hy hn
        · rw [v6 _ (by decide) (by decide), v6 _ (by decide) (by decide), v6 _ (by decide) (by decide), v6 _ (by decide) (by decide), v6 _ (by decide) (by decide), v6 _ (by decide) (by decide), v6 _ (by decide) (by decide), v6 _ (by decide) (by decide), k4 _ (by decide), k4 _ (by decide), k4 _ (by decide), k4 _ (by decide), k4 _ (by decide), k4 _ (by decide), k4 _ (by decide), k4 _ (by decide)]
          exact be2
        · rw [e]
          exact (hol.sn (h4.V (by decide))).V (by decide)
        · rw [e, wV_self, List.length_append]
          show ((wrN nn sys).length : Int) + 2 = (((wrN nn sys).length + 1 : Nat) : Int) + 1
          omega
        · rw [eLt, wV_ne (Or.inr (by decide)), wV_ne (Or.inl (by decide)), wV_self]
        · rw [eLt]
          exact ((g4.V (by decide)).V (by decide)).V (by decide)
        · intro i hi
          rw [wV_ne (Or.inl (by decide)), wV_ne (Or.inl (by decide)), wV_ne (Or.inl (by decide)), f4.z (by decide) (by decide), f3.z (by decide) (by decide)]
          rw [itN_l] at hi
          unfold itN
          rw [hco, if_pos rfl, set_gd (by omega), hn9]
          by_cases e9 : i = d
          · rw [e9, wV_self, if_pos rfl]
          · rw [wV_ne (Or.inr e9), if_neg e9]
            exact c2 i (by omega)
      have em : itM cn d jo co = wrN nn sys ++ [if d = 1 then 41 else 46] := by
        unfold itM
        rw [en, hs, if_pos hco]
      refine ⟨fun h9 => fin2 46 (by decide) ?_, fun h9 => fin2 41 (by decide) ?_⟩
      · rw [em, if_neg (by omega)]
      · rw [em, if_pos (by omega)]
    refine ⟨fun h9 => ⟨fun h8 => fin 2 ?_, fun h8 => fin 4 ?_⟩, fun h9 => fin 1 ?_⟩
    · unfold itS
      rw [if_neg (by omega), if_neg (by omega)]
    · unfold itS
      rw [if_neg (by omega), if_pos (by omega)]
    · unfold itS
      rw [if_pos (by omega)]
end
