/-! PAGES: a whole page, the reference -/
def pgG (S : List Int) (F : List Int) (Ls : List GL9) (A : List Int) (sp : List (Int × Int)) (g : HG9) (room : Int) (c e last : Nat) : List GL9 := hdG S g c e ++ bdS F Ls e (last + 1 - e) ++ ftG room Ls A sp e last
/-- which page lines stand on, behind a page -/
def LpS (σ0 σ : MS) (F : List Int) (c : Int) (e q : Nat) : Prop := (∀ j, e ≤ j → j < q → 0 ≤ F.getD j 0 → mV σ 319 (F.getD j 0).toNat = c) ∧ ∀ l, (∀ j, e ≤ j → j < q → 0 ≤ F.getD j 0 → (F.getD j 0).toNat ≠ l) → mV σ 319 l = mV σ0 319 l
section
variable {σ σ0 : MS} {Q : MQ9} {room : Int} {F : List Int} {Ls : List GL9} {A : List Int} {sp : List (Int × Int)} {e last nw c : Nat} {L0 : List GL9} {S : List Int} {g : HG9} {most : Int}
theorem hdD_l (hS : StB S) : (hdD S g c e).length ≤ 80 := by
  have hW := hS.1
  have lb : (hdB S c).length ≤ 20 := wrN_len
  have lt : (hdT g (e : Int) (hdM S c)).length ≤ hdM S c := by
    unfold hdT
    split
    · exact Nat.zero_le _
    · rw [List.length_take]
      omega
  have hM : hdM S c = (S.getD 0 0 - 1 - ((hdB S c).length : Int)).toNat := rfl
  unfold hdD
  rw [List.length_append, List.length_append, List.length_replicate]
  omega
theorem hdG_l : (hdG S g c e).length = if S.getD 10 0 = 1 then 2 else 0 := by
  unfold hdG
  split <;> rfl
theorem hdG_s (hS : StB S) : suM ((hdG S g c e).map (·.1)) ≤ 80 := by
  have := hdD_l (g := g) (c := c) (e := e) hS
  unfold hdG
  split
  · show (hdD S g c e).length + (0 + 0) ≤ 80
    omega
  · exact Nat.zero_le _
theorem PfR.wz {z k : Nat} {x : Int} (h : PfR σ L0) (hz : z ∉ 246 :: PfS) : PfR (wV σ z k x) L0 := by
  have n : ∀ y ∈ 246 :: PfS, y ≠ z := fun y hy e9 => hz (by rw [← e9]; exact hy)
  obtain ⟨a1, a2, a3, a4⟩ := h
  exact ⟨(wV_ne (Or.inl (n _ (by decide)))).trans a1, (wV_ne (Or.inl (n _ (by decide)))).trans a2, fun l h9 => by
    rw [wV_ne (Or.inl (n 324 (by decide))), wV_ne (Or.inl (n 325 (by decide))), wV_ne (Or.inl (n 326 (by decide))), wV_ne (Or.inl (n 327 (by decide)))]
    exact a3 l h9, fun i h9 => by
    rw [wV_ne (Or.inl (n 322 (by decide))), wV_ne (Or.inl (n 323 (by decide)))]
    exact a4 i h9⟩
/-- a page, the reference -/
theorem R_page.p (hB : PgB room F Ls A sp) (hT : suM (Ls.map (·.1)) ≤ 70000) (ho : ∀ i, i < Ls.length → Rg (Ls.getD i ([], 0, 0)).2.1) (hS : StB S) (hS9 : 0 ≤ S.getD 9 0 ∧ S.getD 9 0 ≤ 60) (hS11 : 0 ≤ S.getD 11 0 ∧ S.getD 11 0 ≤ 999) (hS12 : 1 ≤ S.getD 12 0 ∧ S.getD 12 0 ≤ 5) (hroom : room = S.getD 9 0 - (if S.getD 10 0 = 1 then 2 else 0)) (hc : c ≤ 98) (he : e ≤ last) (hla : last < F.length) (h0 : 0 ≤ F.getD e 0) (hnw : nw ≤ 1) (h59 : mV σ 246 59 = (nw : Int)) (h123 : mV σ 246 123 = (c : Int)) (hSv : ∀ k, k < 13 → mV σ 275 k = S.getD k 0) (hgB : HdB g) (hgt : ∀ t ∈ g.1, smB t) (hgs : suM g.1 ≤ 65000) (hg : HdR σ nw F g) (hG : GyR σ F Ls A sp) (hp : PfR σ L0) (hm0 : 0 ≤ most ∧ most ≤ 1000000) (hm : 0 < ftP A sp e last → 0 ≤ shP room A sp e last ∧ (if most ≤ ftP A sp e last then most else ftP A sp e last) = shP room A sp e last) (hl : L0.length + (pgG S F Ls A sp g room c e last).length ≤ 6100) (hs : suM (L0.map (·.1)) + 400 + suM ((bdS F Ls e (last + 1 - e)).map (·.1)) + wtN Ls (ntN sp (nB A (e : Int)) (nB A ((last : Int) + 1) - nB A (e : Int))) ≤ 80000) (hq : ∀ σ', GyR σ' F Ls A sp → PfR σ' (L0 ++ pgG S F Ls A sp g room c e last) → FrPp σ σ' → mV σ' 246 123 = (c : Int) + 1 → mV σ' 328 c = (L0.length : Int) → mV σ' 328 (c + 1) = ((L0 ++ pgG S F Ls A sp g room c e last).length : Int) → (∀ k, k < c → mV σ' 328 k = mV σ 328 k) → LpS σ σ' F (c : Int) e (last + 1) → Q (.inl none) σ') : R_page (e : Int) (last : Int) most σ Q := by
  have lf := hB.2.1
  have r6 := hB.1
  have hgl := hdG_l (S := S) (g := g) (c := c) (e := e)
  have hgs9 := hdG_s (g := g) (c := c) (e := e) hS
  have elen : (pgG S F Ls A sp g room c e last).length = (hdG S g c e).length + (last + 1 - e) + (ftG room Ls A sp e last).length := by
    unfold pgG
    rw [List.length_append, List.length_append, bdS_l]
  have e124 : mV σ 246 124 = (L0.length : Int) := hp.1
  have ls9 := hB.2.2.2.2.2.2.2.1
  have lA := hB.2.2.2.2.2.2.2.2
  have nbU := nB_l (A := A) (x := (last : Int) + 1)
  have nbm := nB_mo (A := A) (x := (e : Int)) (y := (last : Int) + 1) (by omega)
  have pbU := pS_b hB (k := nB A ((last : Int) + 1)) (by omega)
  have pmU := pS_mo (sp := sp) hB.2.2.2.2.2.2.1 (k := nB A (e : Int)) (n := nB A ((last : Int) + 1)) nbm (by omega)
  have pb0 := pS_b hB (k := nB A (e : Int)) (by omega)
  have bft : 0 ≤ ftP A sp e last ∧ ftP A sp e last ≤ 90000 := by
    unfold ftP
    omega
  -- from the first line on
  have body : ∀ σ1 : MS, GyR σ1 F Ls A sp → PfR σ1 (L0 ++ hdG S g c e) → FrPp σ σ1 → mV σ1 246 123 = (c : Int) → mV σ1 328 c = (L0.length : Int) → (∀ k, k < c → mV σ1 328 k = mV σ 328 k) → (∀ k, mV σ1 319 k = mV σ 319 k) → R_page_40 (e : Int) (last : Int) most (L0.length : Int) σ1 Q := fun σ1 g1 p1 f1 c1 d1 d2 d3 => by
    refine R_page_40.i ?_
    -- what ends the page
    have fin : ∀ σ2 : MS, GyR σ2 F Ls A sp → PfR σ2 (L0 ++ pgG S F Ls A sp g room c e last) → FrPp σ σ2 → mV σ2 246 123 = (c : Int) → mV σ2 328 c = (L0.length : Int) → (∀ k, k < c → mV σ2 328 k = mV σ 328 k) → LpS σ σ2 F (c : Int) e (last + 1) → R_page_304 σ2 Q := fun σ2 g2 p2 f2 c2 b1 b2 b3 => by
      refine R_page_304.i ?_
      rw [c2, show ((c : Int) + 1).toNat = c + 1 by omega]
      refine ⟨by unfold Rg; omega, by omega, by omega, ?_⟩
      have w : FrPp σ2 (wV (wV σ2 246 123 ((c : Int) + 1)) 328 (c + 1) (mV σ2 246 124)) := (FrZ.wf (by decide)).tr (FrZ.wz (by decide))
      refine hq _ (g2.p w) ?_ (f2.tr w) ((wV_ne (Or.inl (by decide))).trans wV_self) ?_ ?_ (fun k hk => ?_) ⟨fun j h1 h2 h3 => ?_, fun l h1 => ?_⟩
      · refine PfR.wz ?_ (by decide)
        obtain ⟨a1, a2, a3, a4⟩ := p2
        exact ⟨(wV_ne (Or.inr (by decide))).trans a1, (wV_ne (Or.inr (by decide))).trans a2, fun l h9 => by
          rw [wV_ne (Or.inl (by decide)), wV_ne (Or.inl (by decide)), wV_ne (Or.inl (by decide)), wV_ne (Or.inl (by decide))]
          exact a3 l h9, fun i h9 => by
          rw [wV_ne (Or.inl (by decide)), wV_ne (Or.inl (by decide))]
          exact a4 i h9⟩
      · rw [wV_ne (Or.inr (by omega)), wV_ne (Or.inl (by decide))]
        exact b1
      · rw [wV_self]
        exact p2.1
      · rw [wV_ne (Or.inr (by omega)), wV_ne (Or.inl (by decide))]
        exact b2 k hk
      · rw [wV_ne (Or.inl (by decide)), wV_ne (Or.inl (by decide))]
        exact b3.1 j h1 h2 h3
      · rw [wV_ne (Or.inl (by decide)), wV_ne (Or.inl (by decide))]
        exact b3.2 l h1
    have hsl : suM ((L0 ++ hdG S g c e).map (·.1)) ≤ suM (L0.map (·.1)) + 80 := by
      rw [List.map_append, suM_app]
      omega
    have ek := rpg_46 (σ0 := σ1) (Q := Q) (e := e) (last := last) (most := most) (l4 := (L0.length : Int)) (c := (c : Int)) (L0 := L0 ++ hdG S g c e) hB hT ho hla c1 (by rw [List.length_append]; omega) (by omega) (fun σ2 g2 p2 f2 c2 b3 => ?_) (last + 1 - e) e σ1 (by omega) (Nat.le_refl _) g1 (by rw [Nat.sub_self]; show PfR σ1 (L0 ++ hdG S g c e ++ []); rw [List.append_nil]; exact p1) FrZ.rf c1 ⟨fun j h1 h2 => absurd h2 (by omega), fun l h1 => rfl, fun k => rfl⟩
    · rw [Int.sub_self] at ek
      exact ek
    · have b3' : LpS σ σ2 F (c : Int) e (last + 1) := ⟨b3.1, fun l h1 => (b3.2.1 l h1).trans (d3 l)⟩
      have f02 := f1.tr f2
      have b1 : mV σ2 328 c = (L0.length : Int) := (b3.2.2 c).trans d1
      have b2 : ∀ k, k < c → mV σ2 328 k = mV σ 328 k := fun k hk => (b3.2.2 k).trans (d2 k hk)
      have eft : pS sp (nB A ((last : Int) + 1)) - pS sp (nB A (e : Int)) = ftP A sp e last := rfl
      rw [eft]
      have ll1 : (L0 ++ hdG S g c e ++ bdS F Ls e (last + 1 - e)).length = L0.length + (hdG S g c e).length + (last + 1 - e) := by
        rw [List.length_append, List.length_append, bdS_l]
      have sl1 : suM ((L0 ++ hdG S g c e ++ bdS F Ls e (last + 1 - e)).map (·.1)) ≤ suM (L0.map (·.1)) + 80 + suM ((bdS F Ls e (last + 1 - e)).map (·.1)) := by
        rw [List.map_append, suM_app]
        omega
      -- without notes
      have e0 : ftP A sp e last ≤ 0 → pgG S F Ls A sp g room c e last = hdG S g c e ++ bdS F Ls e (last + 1 - e) := fun h => by
        unfold pgG ftG
        rw [if_neg (by omega), List.append_nil]
      have go : ∀ s0 : Int, (0 < ftP A sp e last → s0 = shP room A sp e last) → Rg s0 → R_page_132 (e : Int) (last : Int) (L0.length : Int) (ftP A sp e last) s0 σ2 Q := fun s0 hs0 hr => by
        refine R_page_132.i ⟨by unfold Rg; omega, fun h => ?_, fun h => ?_⟩
        · exact fin σ2 g2 (by rw [e0 h, ← List.append_assoc]; exact p2) f02 c2 b1 b2 b3'
        · have es := hs0 h
          obtain ⟨m1, -⟩ := hm h
          obtain ⟨s, hs9⟩ : ∃ s : Nat, shP room A sp e last = (s : Int) := ⟨(shP room A sp e last).toNat, by omega⟩
          rw [es, hs9]
          have lfl : shP room A sp e last ≤ lfP room e last := Int.min_le_left _ _
          have lff : shP room A sp e last ≤ ftP A sp e last := Int.min_le_right _ _
          have elf : lfP room e last = room - (((last : Int) - (e : Int)) + 1) - 1 := rfl
          have s6 : s ≤ 60 := by omega
          have eN : (ntN sp (nB A (e : Int)) (nB A ((last : Int) + 1) - nB A (e : Int))).length = (ftP A sp e last).toNat := by
            have := ntN_l (sp := sp) hB.2.2.2.2.2.2.1 (k := nB A (e : Int)) (m := nB A ((last : Int) + 1) - nB A (e : Int)) (by omega)
            rw [show nB A (e : Int) + (nB A ((last : Int) + 1) - nB A (e : Int)) = nB A ((last : Int) + 1) by omega, eft] at this
            omega
          have lft : (ftG room Ls A sp e last).length = (lfP room e last - (s : Int)).toNat + 1 + s := by
            unfold ftG
            rw [if_pos h, hs9, List.length_append, List.length_append, List.length_replicate, List.length_map, List.length_take, Int.toNat_natCast, eN]
            show _ + 1 + min s _ = _
            omega
          have epad : S.getD 9 0 - (s : Int) - 1 - (((L0 ++ hdG S g c e ++ bdS F Ls e (last + 1 - e)).length : Int) - (L0.length : Int)) = lfP room e last - (s : Int) := by
            rw [ll1, elf, hroom, hgl]
            split <;> omega
          have e9 : mV σ2 275 9 = S.getD 9 0 := (f02.z (by decide) (by decide)).trans (hSv 9 (by decide))
          refine rpg_139 (σ0 := σ2) (Q := Q) (L1 := L0 ++ hdG S g c e ++ bdS F Ls e (last + 1 - e)) (e := e) (last := last) (s := s) (l4 := L0.length) (hi := S.getD 9 0) hS9 e9 s6 (by rw [ll1]; omega) (by rw [epad, ll1]; omega) (by omega) (fun σ3 p3 f3 => ?_) (S.getD 9 0 - (s : Int) - 1 - (((L0 ++ hdG S g c e ++ bdS F Ls e (last + 1 - e)).length : Int) - (L0.length : Int))).toNat 0 σ2 (by omega) (by show PfR σ2 (L0 ++ hdG S g c e ++ bdS F Ls e (last + 1 - e) ++ []); rw [List.append_nil]; exact p2) FrZ.rf
          rw [epad] at p3
          have g3 := g2.p (FrPp.pf f3)
          have ll3 : (L0 ++ hdG S g c e ++ bdS F Ls e (last + 1 - e) ++ List.replicate (lfP room e last - (s : Int)).toNat ([], 0, 0) ++ [(List.replicate 10 45, 0, 0)]).length = L0.length + (hdG S g c e).length + (last + 1 - e) + (lfP room e last - (s : Int)).toNat + 1 := by
            rw [List.length_append, List.length_append, ll1, List.length_replicate]
            rfl
          have sl3 : suM ((L0 ++ hdG S g c e ++ bdS F Ls e (last + 1 - e) ++ List.replicate (lfP room e last - (s : Int)).toNat (([], 0, 0) : GL9) ++ [((List.replicate 10 45, 0, 0) : GL9)]).map (·.1)) ≤ suM (L0.map (·.1)) + 80 + suM ((bdS F Ls e (last + 1 - e)).map (·.1)) + 10 := by
            rw [mp_sn, suM_s9, List.map_append, suM_app, suM_r0, List.length_replicate]
            omega
          have en0 : ntN sp (nB A (e : Int)) (nB A (e : Int) - nB A (e : Int)) = [] := by
            rw [Nat.sub_self]
            rfl
          have run := rpg_202 (σ0 := σ2) (Q := Q) (L1 := L0 ++ hdG S g c e ++ bdS F Ls e (last + 1 - e) ++ List.replicate (lfP room e last - (s : Int)).toNat ([], 0, 0) ++ [(List.replicate 10 45, 0, 0)]) (e := e) (last := last) (s := s) hB hT ho hla s6 (by rw [ll3]; omega) (by omega) (fun σ4 g4 p4 f4 => ?_) (last + 1 - e) e σ3 (by omega) (Nat.le_refl _) g3 (by rw [en0, List.take_nil, List.map_nil, List.append_nil]; exact p3) f3
          · rw [en0] at run
            exact run
          · have f04 := f02.tr (FrPp.pf f4)
            refine fin σ4 g4 ?_ f04 ((f4.f (by decide) (by decide)).trans c2) ((f4.z (by decide) (by decide)).trans b1) (fun k hk => (f4.z (by decide) (by decide)).trans (b2 k hk)) ⟨fun j h1 h2 h3 => (f4.z (by decide) (by decide)).trans (b3'.1 j h1 h2 h3), fun l h1 => (f4.z (by decide) (by decide)).trans (b3'.2 l h1)⟩
            have eG : L0 ++ pgG S F Ls A sp g room c e last = L0 ++ hdG S g c e ++ bdS F Ls e (last + 1 - e) ++ List.replicate (lfP room e last - (s : Int)).toNat ([], 0, 0) ++ [(List.replicate 10 45, 0, 0)] ++ ((ntN sp (nB A (e : Int)) (nB A ((last : Int) + 1) - nB A (e : Int))).take s).map (lnG Ls) := by
              unfold pgG ftG
              rw [if_pos h, hs9, Int.toNat_natCast]
              simp only [List.append_assoc]
            rw [eG]
            exact p4
      refine R_page_46.i ⟨by unfold Rg; omega, by unfold Rg; omega, fun _ => ⟨by unfold Rg; omega, by unfold Rg; omega, fun h => go most (fun h9 => ?_) (by unfold Rg; omega), fun h => go _ (fun h9 => ?_) (by unfold Rg; omega)⟩, fun h => absurd h (by omega)⟩
      · have := (hm h9).2
        rw [if_pos h] at this
        exact this
      · have := (hm h9).2
        rw [if_neg (by omega)] at this
        exact this
  refine R_page.i ?_
  rw [h123, e124, Int.toNat_natCast, hSv 10 (by decide)]
  have w : FrPp σ (wV σ 328 c (L0.length : Int)) := FrZ.wz (by decide)
  have v328 : ∀ k, k < c → mV (wV σ 328 c (L0.length : Int)) 328 k = mV σ 328 k := fun k hk => wV_ne (Or.inr (by omega))
  refine ⟨by omega, by omega, by decide, by decide, fun h10 => ?_, fun h10 => ⟨by omega, by omega, ?_⟩⟩
  · refine body _ (hG.p w) ?_ w ((wV_ne (Or.inl (by decide))).trans h123) wV_self v328 (fun k => wV_ne (Or.inl (by decide)))
    have eh : hdG S g c e = [] := if_neg h10
    rw [eh, List.append_nil]
    exact hp.wz (by decide)
  · rw [Int.toNat_natCast, (hG.2.1.2 e (by omega)).2 h0]
    have eh : hdG S g c e = [(hdD S g c e, 0, 0), ([], 0, 0)] := if_pos h10
    rw [eh] at hgl
    have hgl2 : (hdG S g c e).length = 2 := by rw [eh]; rfl
    refine R_head.p (σ := wV σ 328 c (L0.length : Int)) (L0 := L0) (S := S) (g := g) (c := c) (e := e) (nw := nw) hB hS hS11 hS12 (by omega) (by omega) h0 hnw ((wV_ne (Or.inl (by decide))).trans h59) ((wV_ne (Or.inl (by decide))).trans h123) (fun k hk => (wV_ne (Or.inl (by decide))).trans (hSv k hk)) hgB hgt hgs (hg.z9 w (by decide) (by decide)) (hp.wz (by decide)) (by omega) (by omega) (fun σ1 p1 f1 c1 d3 d4 => ?_)
    refine body σ1 ((hG.p w).p f1) ?_ (w.tr f1) c1 ((d4 c).trans wV_self) (fun k hk => (d4 k).trans (v328 k hk)) (fun k => (d3 k).trans (wV_ne (Or.inl (by decide))))
    rw [eh]
    have : L0 ++ [(hdD S g c e, 0, 0), ([], 0, 0)] = L0 ++ [(hdD S g c e, 0, 0)] ++ [([], 0, 0)] := by
      rw [List.append_assoc]
      rfl
    rw [this]
    exact p1
end
