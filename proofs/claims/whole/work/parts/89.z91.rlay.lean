/-! PAGES: all pages, the reference -/
theorem pgD_e {room : Int} {F : List Int} {Ls : List GL9} {A : List Int} {sp : List (Int × Int)} {n i c : Nat} (hn : F.length ≤ i + n) (hi : i ≤ F.length) (h : ∀ j, i ≤ j → j < F.length → F.getD j 0 < 0) : pgD room F Ls A sp n i c = some [] := by
  have := pgD_sk (room := room) (F := F) (Ls := Ls) (A := A) (sp := sp) (m := F.length - i) (i := i) (c := c) (fun j h1 h2 => h j h1 (by omega)) (by omega) (n - (F.length - i))
  rw [show n - (F.length - i) + (F.length - i) = n by omega, show i + (F.length - i) = F.length by omega] at this
  rw [this]
  cases n - (F.length - i) with
  | zero => rfl
  | succ m =>
    unfold pgD
    rw [if_pos (Nat.le_refl _)]
section
variable {σ σ0 : MS} {Q : MQ9} {room : Int} {F : List Int} {Ls : List GL9} {A : List Int} {sp : List (Int × Int)} {nw : Nat} {S : List Int} {g : HG9}
/-- pages so far -/
def LyS (σ0 σ : MS) (F : List Int) (Ls : List GL9) (A : List Int) (sp : List (Int × Int)) (S : List Int) (g : HG9) (room : Int) (P : List (Nat × Nat)) (i : Nat) : Prop := GyR σ F Ls A sp ∧ PfR σ (prG9 S F Ls A sp g room 0 P) ∧ mV σ 246 123 = (P.length : Int) ∧ ((∀ k, k < P.length → mV σ 328 k = (((psG S F Ls A sp g room 0 0 P).getD k 0 : Nat) : Int)) ∧ mV σ 328 P.length = ((prG9 S F Ls A sp g room 0 P).length : Int)) ∧ (LpN σ F P i ∧ (∀ q ∈ P, q.2 < i) ∧ ∀ j, j < i → 0 ≤ F.getD j 0 → ∃ q ∈ P, (j : Int) ≤ (q.2 : Int)) ∧ ((prG9 S F Ls A sp g room 0 P).length ≤ 60 * P.length ∧ suM ((prG9 S F Ls A sp g room 0 P).map (·.1)) ≤ 90 * P.length + wtF9 F Ls i + wtN Ls (ntN sp 0 (nB A (i : Int)))) ∧ FrPp σ0 σ
theorem psG_0 {c : Nat} : ∀ {P : List (Nat × Nat)}, (psG S F Ls A sp g room 0 c P).getD 0 0 = 0
  | [] => rfl
  | p :: P => rfl
theorem nB_sk9 (hA : MkP F A) : ∀ {m i : Nat}, (∀ j, i ≤ j → j < i + m → F.getD j 0 < 0) → nB A ((i + m : Nat) : Int) = nB A (i : Int) ∧ wtF9 F Ls (i + m) = wtF9 F Ls i
  | 0, i, _ => ⟨rfl, rfl⟩
  | m + 1, i, h => by
    obtain ⟨a1, a2⟩ := nB_sk9 hA (m := m) (i := i) (fun j h1 h2 => h j h1 (by omega))
    have hlt := h (i + m) (by omega) (by omega)
    refine ⟨?_, ?_⟩
    · rw [show ((i + (m + 1) : Nat) : Int) = ((i + m : Nat) : Int) + 1 by omega, nB_sk hA hlt, a1]
    · rw [show i + (m + 1) = (i + m) + 1 by omega, wtF9_sk hlt, a2]
theorem rly_42 (hB : PgB room F Ls A sp) (hr : 3 ≤ room) (hT : suM (Ls.map (·.1)) ≤ 70000) (hWt : wtF9 F Ls F.length + wtN Ls (ntN sp 0 sp.length) ≤ 60000) (ho : ∀ i, i < Ls.length → Rg (Ls.getD i ([], 0, 0)).2.1) (hS : StB S) (hS9 : 0 ≤ S.getD 9 0 ∧ S.getD 9 0 ≤ 60) (hS11 : 0 ≤ S.getD 11 0 ∧ S.getD 11 0 ≤ 999) (hS12 : 1 ≤ S.getD 12 0 ∧ S.getD 12 0 ≤ 5) (hroom : room = S.getD 9 0 - (if S.getD 10 0 = 1 then 2 else 0)) (hnw : nw ≤ 1) (h59 : mV σ0 246 59 = (nw : Int)) (h28 : mV σ0 246 28 = 0) (hSv : ∀ k, k < 13 → mV σ0 275 k = S.getD k 0) (hgB : HdB g) (hgt : ∀ t ∈ g.1, smB t) (hgs : suM g.1 ≤ 65000) (hg : HdR σ0 nw F g) : ∀ (N n i : Nat) (P0 : List (Nat × Nat)) (σ : MS), F.length ≤ i + N → F.length ≤ i + n → i ≤ F.length → P0.length ≤ 99 → LyS σ0 σ F Ls A sp S g room P0 i → (∀ P σ', pgD room F Ls A sp n i P0.length = some P → (P0 ++ P).length ≤ 99 → LyS σ0 σ' F Ls A sp S g room (P0 ++ P) F.length → Q (.inl none) σ') → (∀ σ', pgD room F Ls A sp n i P0.length = none → mV σ' 246 28 = 9 → mV σ' 246 29 = mV σ0 246 30 → FrZ PgS9 (28 :: 29 :: PgK9) σ0 σ' → mV σ' 328 0 = 0 → Q (.inl none) σ') → R_lay_42 (i : Int) room σ Q := by
  have lf := hB.2.1
  have r6 := hB.1
  have lA := hB.2.2.2.2.2.2.2.2
  have lsA := hB.2.2.2.2.2.2.2.1
  intro N
  induction N with
  | zero =>
    intro n i P0 σ hN hn hi hP hL hy hno
    have ei : i = F.length := by omega
    have e28 : mV σ 246 28 = 0 := (hL.2.2.2.2.2.2.f (by decide) (by decide)).trans h28
    refine R_lay_42.i ⟨fun h => absurd e28 h, fun _ => rly_49 hB hL.1.2.1 0 i (by omega) hi (fun e h1 h2 h3 h4 => ?_)⟩
    have ee : e = F.length := by omega
    have e112 : mV σ 246 112 = (F.length : Int) := hL.1.2.1.1
    refine R_lay_72.i ⟨by unfold Rg; omega, fun h => absurd (by rw [e112, ee]) h, fun _ => hy [] σ (pgD_e hn hi (fun j g1 g2 => absurd g2 (by omega))) (by rw [List.append_nil]; exact hP) (by rw [List.append_nil, ← ei]; exact hL)⟩
  | succ N ih =>
    intro n i P0 σ hN hn hi hP hL hy hno
    obtain ⟨hG, hp, h123, ⟨hst, hst2⟩, ⟨hlp, hq2, hcov⟩, ⟨hll, hss⟩, hF⟩ := id hL
    have e28 : mV σ 246 28 = 0 := (hF.f (by decide) (by decide)).trans h28
    have e112 : mV σ 246 112 = (F.length : Int) := hG.2.1.1
    refine R_lay_42.i ⟨fun h => absurd e28 h, fun _ => rly_49 hB hG.2.1 n i hn hi (fun e h1 h2 h3 h4 => ?_)⟩
    have esk := nB_sk9 (Ls := Ls) hB.2.2.2.2.1 (m := e - i) (i := i) (fun j g1 g2 => h3 j g1 (by omega))
    rw [show i + (e - i) = e by omega] at esk
    by_cases hel : e < F.length
    · have f0 := h4 hel
      refine R_lay_72.i ⟨by unfold Rg; omega, fun _ => ⟨fun h99 => ?_, fun h99 => ?_⟩, fun h => by rw [e112] at h; omega⟩
      · rw [h123] at h99
        have hc : P0.length ≤ 98 := by omega
        obtain ⟨q1, q2, q3, q4, q5⟩ := pgE_p (room := room) (Ls := Ls) (A := A) (sp := sp) hel f0
        have hPo := pgE_o hB hr hel f0
        have hpg := pgD_sk (room := room) (F := F) (Ls := Ls) (A := A) (sp := sp) (m := e - i) (i := i) (c := P0.length) (fun j g1 g2 => h3 j g1 (by omega)) (by omega) (n - (e - i))
        rw [show n - (e - i) + (e - i) = n by omega, show i + (e - i) = e by omega] at hpg
        obtain ⟨n2, hn2⟩ : ∃ n2, n - (e - i) = n2 + 1 := ⟨n - (e - i) - 1, by omega⟩
        rw [hn2] at hpg
        have hpg2 : pgD room F Ls A sp n i P0.length = (match pgD room F Ls A sp n2 (pgE room F Ls A sp e + 1) (P0.length + 1) with
          | none => none
          | some P => some ((e, pgE room F Ls A sp e) :: P)) := by
          rw [hpg]
          conv => lhs; unfold pgD
          rw [if_neg (by omega), if_neg (by omega), if_neg (by omega)]
          rfl
        have first := rly_124 (Q := Q) (σ := σ) (e := e) hB hG.1 hG.2.1 hG.2.2 F.length e (-1) (-1) (by omega) (Nat.le_refl _) (by omega) (fun _ => by omega) (by decide) (by decide) (fun al fi ra rf hpe => ?_)
        · rw [Int.sub_self, Int.sub_self] at first
          exact first
        · -- the page
          have elast : (if al = -1 then (if fi = -1 then (e : Int) else fi) else al) = (pgE room F Ls A sp e : Int) := by
            rw [q4, ← hpe]
            rfl
          have ebool : decide (¬ fi = -1) = (peD room F Ls A sp e F.length e (-1) (-1)).2 := by
            rw [← hpe]
            rfl
          have nbe := nB_mo (A := A) (x := (e : Int)) (y := (pgE room F Ls A sp e : Int) + 1) (by omega)
          have nbl := nB_l (A := A) (x := (pgE room F Ls A sp e : Int) + 1)
          have wF := wtF9_a (F := F) (Ls := Ls) (i := e) (j := pgE room F Ls A sp e + 1) (by omega)
          have wF2 := wtF9_a (F := F) (Ls := Ls) (i := pgE room F Ls A sp e + 1) (j := F.length) (by omega)
          have wN := wtN_d (Ls := Ls) (sp := sp) (k := nB A (e : Int)) (n := nB A ((pgE room F Ls A sp e : Int) + 1)) nbe
          have wN2 := wtN_d (Ls := Ls) (sp := sp) (k := nB A ((pgE room F Ls A sp e : Int) + 1)) (n := sp.length) (by omega)
          have pl := pgG_l (S := S) (g := g) (c := P0.length) (F := F) (Ls := Ls) hB hr hroom hS9.2 hPo
          have ps := pgG_s (F := F) (Ls := Ls) (A := A) (sp := sp) (g := g) (room := room) (c := P0.length) (e := e) (last := pgE room F Ls A sp e) hS
          rw [esk.1] at wN ps
          rw [esk.2] at wF
          have hss' : suM ((prG9 S F Ls A sp g room 0 P0).map (·.1)) ≤ 90 * P0.length + wtF9 F Ls i + wtN Ls (ntN sp 0 (nB A (i : Int))) := hss
          have page : ∀ most : Int, (0 ≤ most ∧ most ≤ 1000000) → (0 < ftP A sp e (pgE room F Ls A sp e) → 0 ≤ shP room A sp e (pgE room F Ls A sp e) ∧ (if most ≤ ftP A sp e (pgE room F Ls A sp e) then most else ftP A sp e (pgE room F Ls A sp e)) = shP room A sp e (pgE room F Ls A sp e)) → R_lay_300 room (pgE room F Ls A sp e : Int) (e : Int) (pgE room F Ls A sp e : Int) most σ Q := fun most hm0 hm => by
            refine R_lay_300.i (R_page.p (S := S) (g := g) (c := P0.length) (nw := nw) (L0 := prG9 S F Ls A sp g room 0 P0) hB hT ho hS hS9 hS11 hS12 hroom hc q1 q2 f0 hnw ((hF.f (by decide) (by decide)).trans h59) h123 (fun k hk => (hF.z (by decide) (by decide)).trans (hSv k hk)) hgB hgt hgs (hg.z9 hF (by decide) (by decide)) hG hp hm0 hm (by omega) (by rw [esk.1]; omega) (fun σ1 g1 p1 f1 c1 d1 d2 d3 d4 => ?_))
            have ePr : prG9 S F Ls A sp g room 0 (P0 ++ [(e, pgE room F Ls A sp e)]) = prG9 S F Ls A sp g room 0 P0 ++ pgG S F Ls A sp g room P0.length e (pgE room F Ls A sp e) := by
              rw [prG9_a, Nat.zero_add]
              show _ ++ (_ ++ []) = _
              rw [List.append_nil]
            have ePs : psG S F Ls A sp g room 0 0 (P0 ++ [(e, pgE room F Ls A sp e)]) = psG S F Ls A sp g room 0 0 P0 ++ [(prG9 S F Ls A sp g room 0 P0).length] := by
              rw [psG_a, Nat.zero_add]
              rfl
            have eP : ∀ P : List (Nat × Nat), P0 ++ (e, pgE room F Ls A sp e) :: P = (P0 ++ [(e, pgE room F Ls A sp e)]) ++ P := fun P => by rw [List.append_assoc]; rfl
            have lP : (P0 ++ [(e, pgE room F Ls A sp e)]).length = P0.length + 1 := by rw [List.length_append]; rfl
            have hL1 : LyS σ0 σ1 F Ls A sp S g room (P0 ++ [(e, pgE room F Ls A sp e)]) (pgE room F Ls A sp e + 1) := by
              refine ⟨g1, by rw [ePr]; exact p1, by rw [lP, c1]; omega, ⟨fun k hk => ?_, by rw [lP, ePr]; exact d2⟩, ⟨fun j hj hj0 => ?_, fun q hq => ?_, fun j hj hj0 => ?_⟩, ⟨by rw [ePr, List.length_append, lP]; omega, ?_⟩, hF.tr f1⟩
              · rw [lP] at hk
                rw [ePs]
                have lps : (psG S F Ls A sp g room 0 0 P0).length = P0.length := psG_l
                by_cases ek : k = P0.length
                · have : (psG S F Ls A sp g room 0 0 P0 ++ [(prG9 S F Ls A sp g room 0 P0).length]).getD k 0 = (prG9 S F Ls A sp g room 0 P0).length := by
                    unfold List.getD
                    rw [ek, List.getElem?_append_right (by omega), lps, Nat.sub_self]
                    rfl
                  rw [this, ek]
                  exact d1
                · have : (psG S F Ls A sp g room 0 0 P0 ++ [(prG9 S F Ls A sp g room 0 P0).length]).getD k 0 = (psG S F Ls A sp g room 0 0 P0).getD k 0 := by
                    unfold List.getD
                    rw [List.getElem?_append_left (by omega)]
                  rw [this, d3 k (by omega)]
                  exact hst k (by omega)
              · by_cases c1 : j < i
                · rw [pgN_in (hcov j c1 hj0), d4.2 _ (fun j' g1 g2 g3 => ?_)]
                  · exact hlp j c1 hj0
                  · have := hB.2.2.2.1.2 j j' (by omega) (by omega) hj0 g3
                    omega
                · by_cases c2 : j < e
                  · exact absurd (h3 j (by omega) c2) (by omega)
                  · rw [d4.1 j (by omega) hj hj0, pgN_sn (fun q hq => by have := hq2 q hq; omega) (by show (j : Int) ≤ (pgE room F Ls A sp e : Int); omega)]
              · rcases List.mem_append.mp hq with h | h
                · have := hq2 q h
                  omega
                · rw [List.mem_singleton.mp h]
                  show pgE room F Ls A sp e < _
                  omega
              · by_cases c1 : j < i
                · obtain ⟨q, hq, h9⟩ := hcov j c1 hj0
                  exact ⟨q, List.mem_append_left _ hq, h9⟩
                · exact ⟨_, List.mem_append_right _ List.mem_cons_self, by show (j : Int) ≤ (pgE room F Ls A sp e : Int); omega⟩
              · rw [ePr, List.map_append, suM_app, lP, show ((pgE room F Ls A sp e + 1 : Nat) : Int) = (pgE room F Ls A sp e : Int) + 1 by omega]
                omega
            show R_lay_42 ((pgE room F Ls A sp e : Int) + 1) room σ1 Q
            rw [show (pgE room F Ls A sp e : Int) + 1 = ((pgE room F Ls A sp e + 1 : Nat) : Int) by omega]
            refine ih n2 (pgE room F Ls A sp e + 1) (P0 ++ [(e, pgE room F Ls A sp e)]) σ1 (by omega) (by omega) (by omega) (by rw [lP]; omega) hL1 (fun P σ' w1 w2 w3 => hy ((e, pgE room F Ls A sp e) :: P) σ' ?_ (by rw [eP]; exact w2) (by rw [eP]; exact w3)) (fun σ' w1 w2 w3 w4 w5 => hno σ' ?_ w2 w3 w4 w5)
            · rw [hpg2]
              rw [lP] at w1
              rw [w1]
            · rw [hpg2]
              rw [lP] at w1
              rw [w1]
          have h280 : R_lay_280 (e : Int) room fi (pgE room F Ls A sp e : Int) σ Q := by
            refine R_lay_280.i ⟨by unfold Rg; omega, fun h => page 1000000 (by decide) (fun hft => ?_), fun h => page (room - 2) (by omega) (fun hft => ?_)⟩
            · -- it fits
              have hb : (peD room F Ls A sp e F.length e (-1) (-1)).2 = true := by
                rw [← ebool]
                exact decide_eq_true (by omega)
              have hfit : fitP room A sp e (pgE room F Ls A sp e) = true := by
                rcases q5 with h9 | h9
                · exact h9.2
                · rw [hb] at h9
                  exact absurd h9.1 (by decide)
              have hfit := of_decide_eq_true hfit
              rw [if_pos hft] at hfit
              have el : lfP room e (pgE room F Ls A sp e) = room - (((pgE room F Ls A sp e : Int) - (e : Int)) + 1) - 1 := rfl
              have es : shP room A sp e (pgE room F Ls A sp e) = min (lfP room e (pgE room F Ls A sp e)) (ftP A sp e (pgE room F Ls A sp e)) := rfl
              have e1 : shP room A sp e (pgE room F Ls A sp e) = ftP A sp e (pgE room F Ls A sp e) := by
                rw [es]
                omega
              rw [e1]
              refine ⟨by omega, ?_⟩
              rw [if_neg (by omega)]
            · have hb : (peD room F Ls A sp e F.length e (-1) (-1)).2 = false := by
                rw [← ebool]
                exact decide_eq_false (by omega)
              have hee : pgE room F Ls A sp e = e := by
                rcases q5 with h9 | h9
                · rw [hb] at h9
                  exact absurd h9.1 (by decide)
                · exact h9.2
              have el : lfP room e (pgE room F Ls A sp e) = room - 2 := by
                show room - (((pgE room F Ls A sp e : Int) - (e : Int)) + 1) - 1 = room - 2
                rw [hee]
                omega
              have es : shP room A sp e (pgE room F Ls A sp e) = min (lfP room e (pgE room F Ls A sp e)) (ftP A sp e (pgE room F Ls A sp e)) := rfl
              rw [es, el]
              refine ⟨by omega, ?_⟩
              split <;> omega
          refine R_lay_259.i ⟨by unfold Rg; omega, fun h => ⟨by unfold Rg; omega, fun h9 => ?_, fun h9 => ?_⟩, fun h => ?_⟩
          · rw [if_pos (by omega), if_pos (by omega)] at elast
            rw [← elast] at h280
            exact h280
          · rw [if_pos (by omega), if_neg (by omega)] at elast
            rw [← elast] at h280
            exact h280
          · rw [if_neg (by omega)] at elast
            rw [← elast] at h280
            exact h280
      · rw [h123] at h99
        have hpg := pgD_sk (room := room) (F := F) (Ls := Ls) (A := A) (sp := sp) (m := e - i) (i := i) (c := P0.length) (fun j g1 g2 => h3 j g1 (by omega)) (by omega) (n - (e - i))
        rw [show n - (e - i) + (e - i) = n by omega, show i + (e - i) = e by omega] at hpg
        obtain ⟨n2, hn2⟩ : ∃ n2, n - (e - i) = n2 + 1 := ⟨n - (e - i) - 1, by omega⟩
        rw [hn2] at hpg
        refine R_fail.i ⟨fun h => absurd ((wV_ne (Or.inr (by decide))).trans e28) h, fun _ => ⟨by decide, ?_⟩⟩
        refine hno _ ?_ wV_self ?_ (((FrZ.mo hF (fun x hx => hx) (fun x hx => List.mem_cons_of_mem _ (List.mem_cons_of_mem _ hx))).tr (FrZ.wf (by decide))).tr (FrZ.wf (by decide))) ?_
        · rw [hpg]
          unfold pgD
          rw [if_neg (by omega), if_neg (by omega), if_pos (by omega)]
        · rw [wV_ne (Or.inr (by decide)), wV_self]
          exact hF.f (by decide) (by decide)
        · refine (wV_ne (Or.inl (by decide))).trans ((wV_ne (Or.inl (by decide))).trans ((hst 0 (by omega)).trans ?_))
          rw [psG_0]
          rfl
    · have ee : e = F.length := by omega
      refine R_lay_72.i ⟨by unfold Rg; omega, fun h => absurd (by rw [e112, ee]) h, fun _ => hy [] σ (pgD_e hn hi (fun j g1 g2 => h3 j g1 (by omega))) (by rw [List.append_nil]; exact hP) ?_⟩
      rw [List.append_nil]
      rw [ee] at esk
      refine ⟨hG, hp, h123, ⟨hst, hst2⟩, ⟨fun j hj hj0 => ?_, fun q hq => ?_, fun j hj hj0 => ?_⟩, ⟨hll, by rw [esk.1, esk.2]; exact hss⟩, hF⟩
      · by_cases c1 : j < i
        · exact hlp j c1 hj0
        · exact absurd (h3 j (by omega) (by omega)) (by omega)
      · have := hq2 q hq
        omega
      · by_cases c1 : j < i
        · exact hcov j c1 hj0
        · exact absurd (h3 j (by omega) (by omega)) (by omega)
end
