/-! THE TEXT OF A PARAGRAPH OR AN ITEM: the reference, its lines -/
def TcS : List Nat := 340 :: 341 :: TaS
def TcK : List Nat := 163 :: TaK
section
variable {σ σ0 : MS} {Q : MQ9} {nw m0 l0 k0 : Nat} {H : HY9} {S P F : List Int} {hg o sp : Int} {cl bg item : Bool} {s1 : TS} {Ls : List GL9}
/-- an item without words: its marker -/
theorem txr_142 {l5 l6 l7 : Int} {A D : List Int} (hA : 1 ≤ A.length ∧ A.length ≤ 64) (hAs : ∀ x ∈ A, 0 ≤ x ∧ x ≤ 127) (hD : D.length + A.length ≤ 300) (h161 : mV σ0 246 161 = (A.length : Int)) (h350 : hol σ0 350 A) (hq : ∀ σ', FrZ [338, 339] [160] σ0 σ' → LbR σ' (D ++ A.take (A.length - 1)) → R_makes 0 0 0 σ' (kI (thQ Q) fun r1 σ1 => R_text_180 l5 l6 l7 σ1 Q)) : ∀ (n j : Nat) (σ : MS), j + n = A.length - 1 → FrZ [338, 339] [160] σ0 σ → LbR σ (D ++ A.take j) → R_text_142 l5 l6 l7 (j : Int) σ Q := by
  intro n
  induction n with
  | zero =>
    intro j σ hj hf hb
    have e := (hf.f (k := 161) (by decide) (by decide)).trans h161
    rw [show j = A.length - 1 by omega] at hb ⊢
    exact R_text_142.i ⟨by unfold Rg; omega, by rw [e]; unfold Rg; omega, fun _ => hq σ hf hb, fun h9 => absurd h9 (by rw [e]; omega)⟩
  | succ n ih =>
    intro j σ hj hf hb
    have e := (hf.f (k := 161) (by decide) (by decide)).trans h161
    have e2 : mV σ 350 j = A.getD j 0 := (hf.z (by decide) (by decide)).trans (h350 j (by omega))
    have hm : A.getD j 0 ∈ A := by
      unfold List.getD
      rw [List.getElem?_eq_getElem (by omega), Option.getD_some]
      exact List.getElem_mem _
    have hx := hAs _ hm
    refine R_text_142.i ⟨by unfold Rg; omega, by rw [e]; unfold Rg; omega, fun h9 => absurd h9 (by rw [e]; omega), fun _ => ⟨by omega, by omega, ?_⟩⟩
    rw [Int.toNat_natCast, e2]
    have := R_adds.p (Q := kV (thQ Q) fun σ1 => R_text_142 l5 l6 l7 ((j : Int) + 1) σ1 Q) (c := A.getD j 0) hb (by rw [List.length_append, List.length_take]; omega) (fun σ2 f2 b2 => by
      show R_text_142 l5 l6 l7 ((j : Int) + 1) σ2 Q
      have e3 : D ++ A.take j ++ [A.getD j 0] = D ++ A.take (j + 1) := by
        rw [List.append_assoc]
        congr 1
        rw [List.take_succ]
        unfold List.getD
        rw [List.getElem?_eq_getElem (by omega)]
        rfl
      rw [e3] at b2
      exact ih (j + 1) σ2 (by omega) (hf.tr f2) b2)
    rw [show A.getD j 0 % 128 = A.getD j 0 by omega, show cyB (A.getD j 0) = 0 by unfold cyB; omega] at this
    exact this
theorem cd_8 {D A : List Int} (hA : 1 ≤ A.length) : (D ++ A).take ((D ++ A).length - 1) = D ++ A.take (A.length - 1) := by
  rw [List.take_append, List.length_append, List.take_of_length_le (by omega)]
  congr 2
  omega
theorem cd_9 {P A : List Int} (h : P = List.replicate (P.length - A.length) 32 ++ A) (hA : 1 ≤ A.length) (hl : A.length ≤ P.length) : List.replicate (P.length - A.length) 32 ++ A.take (A.length - 1) = sgT P 0 (P.length - 1) := by
  have h1 : sgT P 0 (P.length - 1) = P.take (P.length - 1) := by
    unfold sgT
    rw [List.drop_zero, Nat.sub_zero]
  have h2 := cd_8 (D := List.replicate (P.length - A.length) (32 : Int)) hA
  rw [← h] at h2
  rw [h1]
  exact h2.symm
theorem FrZ.tc {σ1 : MS} {S9 K9 : List Nat} (h : FrZ S9 K9 σ σ1) (hs : ∀ x ∈ S9, x ∈ TcS) (hk : ∀ x ∈ K9, x ∈ TcK) : FrZ TcS TcK σ σ1 := h.mo hs hk
/-- the lines of a text, then its marks and notes -/
theorem txr_B {n0 : Nat} {E : TE} (hn0 : Ls.length = n0) (rxs : RxS (nw, m0, l0, k0, 0) 0 0 0 30 false E [] σ s1) (hE2 : E.2.2.2 = 2) (ti1 : TI 0 0 s1) (hcm : CmS s1) (hm6 : m0 + s1.2.2.2.2.2.1.1.length ≤ 60) (hS : StB S) (hSv : ∀ k, k < 13 → mV σ 275 k = S.getD k 0) (hH1 : H.1 = decide (S.getD 3 0 = 1)) (hHy : HyR σ H.2.1 H.2.2.1 H.2.2.2.1 H.2.2.2.2) (hb : HyB H.2.1 H.2.2.1 H.2.2.2.1 H.2.2.2.2) (hP : AhR σ P) (hP6 : P.length ≤ 64) (hh : 0 ≤ hg ∧ hg ≤ 100) (ho : mV σ 246 29 = o) (hLi : LiR σ Ls) (hGB : GB9 90 ((s1.1.1, s1.1.2.1), Ls, F ++ List.replicate (spB bg cl (S.getD 8 0) 0).toNat (-2))) (hEl : ElR σ F) (hbg : mV σ 246 113 = bZ bg) (hns : mV σ 246 94 = 0 ∨ foN s1.2.1 < s1.2.1.length) (hit : (item = false → mV σ 246 161 = 0) ∧ (item = true → 0 < mV σ 246 161)) (h3 : pkL s1.2.1 = [] → item = false → ∀ σ', FrZ TcS TcK σ σ' → RxG σ' ((s1.1.1, s1.1.2.1), Ls, F) → ElR σ' F → mV σ' 246 113 = bZ bg → ((∀ z j, z = 284 ∨ z = 297 ∨ z = 303 ∨ z = 304 → mV σ' z j = mV σ z j) ∧ ∀ z j, z = 317 ∨ z = 318 → j < n0 → mV σ' z j = mV σ z j) → Q (.inl none) σ') (h4 : ¬ (pkL s1.2.1 = [] ∧ item = false) → ∀ G1 G2 sps σ', gAll o true (prN P hg (S.getD 2 0) (S.getD 0 0) (pkL s1.2.1) (S.getD 7 0) (txX H S P hg (pkL s1.2.1))) ((s1.1.1, s1.1.2.1), Ls, F ++ List.replicate (spB bg cl (S.getD 8 0) 0).toNat (-2)) = .inl G1 → ntD o H (S.getD 0 0) s1.2.2.2.2.2.1.1 ((m0 : Int) + 1) G1 = .inl (G2, sps) → RxG σ' G2 → ElR σ' G1.2.2 → mV σ' 246 113 = 1 → FrZ TcS TcK σ σ' → ((∀ j, j < l0 → mV σ' 284 j = mV σ 284 j) ∧ (∀ j, j < k0 → mV σ' 297 j = mV σ 297 j) ∧ (∀ z j, z = 317 ∨ z = 318 → j < n0 → mV σ' z j = mV σ z j) ∧ ∀ z j, z = 303 ∨ z = 304 → j < m0 → mV σ' z j = mV σ z j) → (txX H S P hg (pkL s1.2.1) = [] ∨ ((∀ j, l0 ≤ j → j < s1.2.2.2.1.2.2.length → mV σ' 284 j = ((n0 + lnO (gV9 (pkL s1.2.1) (s1.2.2.2.1.2.2.getD j 0)) (txX H S P hg (pkL s1.2.1)) : Nat) : Int)) ∧ (∀ j, k0 ≤ j → j < s1.2.2.2.2.1.2.length → mV σ' 297 j = ((n0 + lnO (gV9 (pkL s1.2.1) (s1.2.2.2.2.1.2.getD j 0)) (txX H S P hg (pkL s1.2.1)) : Nat) : Int)) ∧ NlR σ' n0 m0 (txX H S P hg (pkL s1.2.1)).length (s1.2.2.2.2.2.1.2.1.map (fun v => lnO (gV9 (pkL s1.2.1) v) (txX H S P hg (pkL s1.2.1)))))) → (∀ i, i < s1.2.2.2.2.2.1.1.length → mV σ' 303 (m0 + i) = (sps.getD i (0, 0)).1 ∧ mV σ' 304 (m0 + i) = (sps.getD i (0, 0)).2) → (txX H S P hg (pkL s1.2.1) = [] → mV σ' 317 n0 = 0 ∧ mV σ' 318 n0 = 0) → Q (.inl none) σ') (hn : ∀ e σ', ¬ (pkL s1.2.1 = [] ∧ item = false) → (gAll o true (prN P hg (S.getD 2 0) (S.getD 0 0) (pkL s1.2.1) (S.getD 7 0) (txX H S P hg (pkL s1.2.1))) ((s1.1.1, s1.1.2.1), Ls, F ++ List.replicate (spB bg cl (S.getD 8 0) 0).toNat (-2)) = .inr e ∨ ∃ G1, gAll o true (prN P hg (S.getD 2 0) (S.getD 0 0) (pkL s1.2.1) (S.getD 7 0) (txX H S P hg (pkL s1.2.1))) ((s1.1.1, s1.1.2.1), Ls, F ++ List.replicate (spB bg cl (S.getD 8 0) 0).toNat (-2)) = .inl G1 ∧ ntD o H (S.getD 0 0) s1.2.2.2.2.2.1.1 ((m0 : Int) + 1) G1 = .inr e) → TxR σ' e → FrZ TcS TcK σ σ' → Q (.inl none) σ') : R_text_40 (P.length : Int) hg (bZ cl) (m0 : Int) σ Q := by
  obtain ⟨rw1, ro1, rm1, rp1⟩ := rxs
  obtain ⟨rc, rl, rk, rn, ru, rt⟩ := rm1
  have al : (0 : Int) < E.2.2.2 := by omega
  have rn := rn al
  have rt := rt al
  have lL : s1.2.1.length ≤ 60100 := by
    have h2 := ti1.2.2.2.2.2.2
    have h3 := ti1.1.1.2
    omega
  have okL := ti1.1.2.2.2
  have h16 : mV σ 246 16 = (s1.2.1.length : Int) := by
    have := ro1.1
    rw [Nat.zero_add] at this
    exact this
  have hG0 : hoG σ 254 255 0 s1.2.1 := ro1.2
  generalize hL : s1.2.1 = L at *
  have s0 := hS.1
  have s2 := hS.2.2.1
  have s3 := hS.2.2.2.1
  have s6 := hS.2.2.2.2.1
  have s7 := hS.2.2.2.2.2.1
  have s8 := hS.2.2.2.2.2.2
  have rxG : RxG σ ((s1.1.1, s1.1.2.1), Ls, F) := ⟨rw1.1, rw1.2.1, rw1.2.2.1, hLi⟩
  have gb0 : GB9 90 ((s1.1.1, s1.1.2.1), Ls, F) := by
    refine hGB.imp id (fun h => h.imp id (fun h => h.imp id (fun h => h.imp id (fun h => ?_))))
    have h : 45 * ((F ++ List.replicate (spB bg cl (S.getD 8 0) 0).toNat (-2 : Int)).length : Int) ≤ 3 * s1.1.1 + 75 * (Ls.length : Int) + 90 := h
    rw [List.length_append] at h
    show 45 * (F.length : Int) ≤ 3 * s1.1.1 + 75 * (Ls.length : Int) + 90
    omega
  have gbz : GB9 0 ((s1.1.1, s1.1.2.1), Ls, []) := ⟨gb0.1, gb0.2.1, gb0.2.2.1, gb0.2.2.2.1, by
    show 45 * ((0 : Nat) : Int) ≤ 3 * s1.1.1 + 75 * (Ls.length : Int) + 0
    have : 0 ≤ s1.1.1 := gb0.1.1
    omega⟩
  have rxz : RxG σ ((s1.1.1, s1.1.2.1), Ls, []) := rxG
  have hnum : s1.2.2.2.2.2.1.2.2 = ((m0 + s1.2.2.2.2.2.1.1.length : Nat) : Int) := rn.2.1
  have hNoR : NoR σ s1.2.2.2.2.2.1.1 m0 := ⟨rn.1.trans hnum, rn.2.2.2⟩
  have lFb : F.length + 3 ≤ 6600 := by
    have h := gb0.2.2.2.2
    have h1 : 45 * (F.length : Int) ≤ 3 * s1.1.1 + 75 * (Ls.length : Int) + 90 := h
    have h2 : Ls.length ≤ 1500 := gb0.2.2.1
    have h3 : s1.1.1 ≤ 60000 := gb0.1.2
    omega
  refine R_text_40.i ⟨fun _ => ⟨by decide, by decide, ?_⟩, fun h => absurd rw1.1 h⟩
  rw [hSv 3 (by decide), h16]
  have main : ∀ t3 : Int, t3 = bZ H.1 → R_text_69 (P.length : Int) hg (bZ cl) (m0 : Int) 0 (L.length : Int) t3 σ Q := fun t3 ht3 => by
    rw [ht3]
    have rp := R_points.p (H := H) (u := 0) (Q := kV (thQ Q) fun σ1 => 0 ≤ (6 : Int) ∧ (6 : Int) < 13 ∧ 0 ≤ (2 : Int) ∧ (2 : Int) < 13 ∧ R_filled 0 (mV σ1 246 16) (mV σ1 275 6) (P.length : Int) hg (mV σ1 275 2) σ1 (kI (thQ Q) fun r2 σ2 => (¬ r2 = 0 → R_text_180 (bZ cl) (m0 : Int) (mV σ1 246 99) σ2 Q) ∧ (r2 = 0 → ((mV σ2 246 161) ≤ 0 → R_text_180 (bZ cl) (m0 : Int) (mV σ1 246 99) σ2 Q) ∧ (0 < (mV σ2 246 161) → (¬ (mV σ2 246 28) = 0 → R_text_180 (bZ cl) (m0 : Int) (mV σ1 246 99) σ2 Q) ∧ ((mV σ2 246 28) = 0 → R_blanks ((P.length : Int) - (mV σ2 246 161)) (wV σ2 246 160 0) (kV (thQ Q) fun σ3 => R_text_142 (bZ cl) (m0 : Int) (mV σ1 246 99) 0 σ3 Q)))))) okL (by omega) hb hHy hG0 (fun σ2 p2 pt2 => ?_)
    · rw [Nat.zero_add] at rp
      exact R_text_69.i rp
    show 0 ≤ (6 : Int) ∧ (6 : Int) < 13 ∧ 0 ≤ (2 : Int) ∧ (2 : Int) < 13 ∧ R_filled 0 (mV σ2 246 16) (mV σ2 275 6) (P.length : Int) hg (mV σ2 275 2) σ2 _
    have a2 : ∀ j, mV σ2 246 j = mV σ 246 j := fun j => p2.1.f (by simp) (by decide)
    have z2 : ∀ y j, y ≠ 256 → y ≠ 348 → y ≠ 246 → mV σ2 y j = mV σ y j := fun y j a b c => p2.1.z (by simp only [List.mem_cons, List.not_mem_nil, or_false]; omega) c
    refine ⟨by decide, by decide, by decide, by decide, ?_⟩
    have e99 : mV σ2 246 99 = (n0 : Int) := by
      rw [a2, hLi.1, hn0]
    have e6 : mV σ2 275 6 = bZ (decide (S.getD 6 0 = 1)) := by
      rw [z2 275 6 (by decide) (by decide) (by decide), hSv 6 (by decide)]
      by_cases h : S.getD 6 0 = 1
      · rw [decide_eq_true h, h]
        rfl
      · rw [decide_eq_false h]
        show _ = (0 : Int)
        omega
    rw [a2 16, h16, e6, z2 275 2 (by decide) (by decide) (by decide), hSv 2 (by decide), e99]
    have rw2 := R_filled.w (H := H) (u := 0) (L := L) (σ := σ2) (P := P) (hg := hg) (J := S.getD 2 0) (W := S.getD 0 0) (c := 0) (o := o) (G := ((s1.1.1, s1.1.2.1), Ls, [])) (fw := false) (best := decide (S.getD 6 0 = 1)) (Q := kI (thQ Q) fun r2 σ2 => (¬ r2 = 0 → R_text_180 (bZ cl) (m0 : Int) (n0 : Int) σ2 Q) ∧ (r2 = 0 → ((mV σ2 246 161) ≤ 0 → R_text_180 (bZ cl) (m0 : Int) (n0 : Int) σ2 Q) ∧ (0 < (mV σ2 246 161) → (¬ (mV σ2 246 28) = 0 → R_text_180 (bZ cl) (m0 : Int) (n0 : Int) σ2 Q) ∧ ((mV σ2 246 28) = 0 → R_blanks ((P.length : Int) - (mV σ2 246 161)) (wV σ2 246 160 0) (kV (thQ Q) fun σ3 => R_text_142 (bZ cl) (m0 : Int) (n0 : Int) 0 σ3 Q))))) (by omega) okL (by omega) (by omega) (hG0.cg (fun k _ _ => ⟨z2 _ _ (by decide) (by decide) (by decide), z2 _ _ (by decide) (by decide) (by decide)⟩)) pt2 (hP.cg (a2 _) (fun k => z2 _ _ (by decide) (by decide) (by decide))) hP6 hh ((z2 _ _ (by decide) (by decide) (by decide)).trans (hSv 0 (by decide))) s0 s2 ((a2 _).trans ho) (Int.le_refl 0) (rxz.z p2.1 (by decide) (by simp)) gbz (fun G' σ3 q1 q2 q3 q4 => ?_) (fun e σ3 x hx q1 q2 q3 => ?_)
    · rw [Nat.zero_add] at rw2
      exact rw2
    · have q1 : gAll o false (prA P hg (S.getD 2 0) (S.getD 0 0) (pkL L) 0 (txX H S P hg (pkL L))) ((s1.1.1, s1.1.2.1), Ls, []) = .inl G' := q1
      have q4 : LbI σ3 Ls.length 0 L (txX H S P hg (pkL L)) := q4
      have q3 : FrFw Ls.length σ2 σ3 := q3
      show (¬ (G'.2.1.length : Int) - (Ls.length : Int) = 0 → _) ∧ ((G'.2.1.length : Int) - (Ls.length : Int) = 0 → _)
      have gl := gAll_l q1
      have l1 : G'.2.1.length = n0 + (txX H S P hg (pkL L)).length := by
        rw [gl.1, List.length_append, List.length_map, prA_l]
        show Ls.length + _ = _
        rw [hn0]
      have f3 : FrZ TcS TcK σ σ3 := (p2.1.mo (by decide) (by simp)).tr (q3.1.mo (by decide) (by decide))
      have a3 : ∀ j, j ∉ [28, 32, 33, 98, 99, 160, 146, 147, 148, 163] → mV σ3 246 j = mV σ 246 j := fun j hj => (q3.1.f hj (by decide)).trans (a2 j)
      have z3 : ∀ y j, y ∉ (256 :: 348 :: 340 :: 341 :: 338 :: 339 :: MkS) → y ≠ 246 → mV σ3 y j = mV σ y j := fun y j hy h6 => (q3.1.z (fun h => hy (List.mem_cons_of_mem _ (List.mem_cons_of_mem _ h))) h6).trans (p2.1.z (fun h => hy (by
        simp only [List.mem_cons, List.not_mem_nil, or_false] at h
        rcases h with rfl | rfl
        · exact List.mem_cons_self
        · exact List.mem_cons_of_mem _ List.mem_cons_self)) h6)
      have hG3 : hoG σ3 254 255 0 L := hG0.cg (fun k _ _ => ⟨z3 _ _ (by decide) (by decide), z3 _ _ (by decide) (by decide)⟩)
      have el3 : ElR σ3 F := ⟨(a3 _ (by decide)).trans hEl.1, fun i hi => by
        rw [z3 320 _ (by decide) (by decide), z3 321 _ (by decide) (by decide)]
        exact hEl.2 i hi⟩
      have nt3 : NtR σ3 H (S.getD 0 0) o s1.2.2.2.2.2.1.1 m0 := by
        refine ⟨⟨(a3 _ (by decide)).trans hNoR.1, fun i hi => ?_⟩, ?_, (z3 _ _ (by decide) (by decide)).trans (hSv 0 (by decide)), by rw [z3 275 3 (by decide) (by decide), hSv 3 (by decide)]; exact hH1, (a3 _ (by decide)).trans ho⟩
        · have := hNoR.2 i hi
          exact ⟨(z3 _ _ (by decide) (by decide)).trans this.1, (z3 _ _ (by decide) (by decide)).trans this.2.1, this.2.2.cg (fun k _ _ => ⟨z3 _ _ (by decide) (by decide), z3 _ _ (by decide) (by decide)⟩)⟩
        · exact (hHy.k p2.1 (by decide) (by simp)).k q3.1 (by decide) (by decide)
      have wt3 : WtR σ3 m0 l0 k0 L s1.2.2 := by
        obtain ⟨Wt, x1, x2, x3⟩ := rt
        refine ⟨Wt, (a3 _ (by decide)).trans x1, fun i hi => ?_, by rw [if_neg (by decide)] at x3; exact x3⟩
        rw [z3 305 _ (by decide) (by decide), z3 306 _ (by decide) (by decide), z3 307 _ (by decide) (by decide)]
        exact x2 i hi
      have old : ∀ σ4, ((∀ j, j < l0 → mV σ4 284 j = mV σ3 284 j) ∧ (∀ j, j < k0 → mV σ4 297 j = mV σ3 297 j) ∧ (∀ z j, z = 317 ∨ z = 318 → j < n0 → mV σ4 z j = mV σ3 z j) ∧ ∀ z j, z = 303 ∨ z = 304 → j < m0 → mV σ4 z j = mV σ3 z j) → ((∀ j, j < l0 → mV σ4 284 j = mV σ 284 j) ∧ (∀ j, j < k0 → mV σ4 297 j = mV σ 297 j) ∧ (∀ z j, z = 317 ∨ z = 318 → j < n0 → mV σ4 z j = mV σ z j) ∧ ∀ z j, z = 303 ∨ z = 304 → j < m0 → mV σ4 z j = mV σ z j) := fun σ4 h => ⟨fun j hj => (h.1 j hj).trans (z3 _ _ (by decide) (by decide)), fun j hj => (h.2.1 j hj).trans (z3 _ _ (by decide) (by decide)), fun z j hz hj => ((h.2.2.1 z j hz hj).trans (q3.2 z j (by omega) (by omega))).trans (z2 z j (by omega) (by omega) (by omega)), fun z j hz hj => (h.2.2.2 z j hz hj).trans (z3 z j (by
        unfold MkS
        simp only [List.mem_cons, List.not_mem_nil, or_false]
        omega) (by omega))⟩
      have noX : txX H S P hg (pkL L) = [] ↔ pkL L = [] := liX_n
      have hso := hcm.1
      have n6 := ti1.2.2.2.2.1
      have cl6 : s1.2.2.2.2.2.1.2.1.length ≤ 60 := by omega
      have b60 : s1.2.2.2.1.2.2.length ≤ 60 := by have := ti1.2.2.1; omega
      have b100 : s1.2.2.2.2.1.2.length ≤ 100 := by have := ti1.2.2.2.1; omega
      have sN : suM s1.2.2.2.2.2.1.1 ≤ 65000 := by
        have h2 := ti1.2.2.2.2.2.2
        have h3 := ti1.1.1.2
        omega
      have wkE : ∀ (Z1 Z2 : List (List Int × Int)), Z1.map (·.1) = Z2.map (·.1) → ∀ (w : Int × Int), gWk (Z1.map (·.1)) (s1.1.1, s1.1.2.1) Ls.length = .inl w → gAll o true Z2 ((s1.1.1, s1.1.2.1), Ls, F ++ List.replicate (spB bg cl (S.getD 8 0) 0).toNat (-2)) = .inl (w, Ls ++ Z2.map (fun x => (x.1, o, x.2)), F ++ List.replicate (spB bg cl (S.getD 8 0) 0).toNat (-2) ++ seqZ n0 Z2.length) := fun Z1 Z2 hz w hw => by
        rw [gAll_w]
        rw [hz] at hw
        show gAw o true Z2 _ (gWk (Z2.map (·.1)) (s1.1.1, s1.1.2.1) Ls.length) = _
        rw [hw, ← hn0]
        rfl
      by_cases hX : txX H S P hg (pkL L) = []
      · have hpk := noX.mp hX
        have h94 : mV σ 246 94 = 0 := by
          rcases hns with h | h
          · exact h
          · have := fo_all (L := L) (fun c hc => pk_nil hpk hc)
            omega
        have h943 : mV σ3 246 94 = 0 := (a3 _ (by decide)).trans h94
        rw [hX] at q1 l1
        have eG : ((s1.1.1, s1.1.2.1), Ls, []) = G' := Sum.inl.inj q1
        rw [← eG] at q2
        have e993 : mV σ3 246 99 = (n0 : Int) := by rw [q2.2.2.2.1, ← hn0]
        have n15 : n0 ≤ 1500 := by rw [← hn0]; exact gb0.2.2.1
        refine ⟨fun h9 => absurd h9 (by
          rw [l1, hn0]
          show ¬ ¬ (((n0 + 0 : Nat) : Int) - (n0 : Int) = 0)
          omega), fun _ => ⟨fun h8 => ?_, fun h8 => ⟨fun h7 => absurd q2.1 h7, fun _ => ?_⟩⟩⟩
        · have e161 : mV σ3 246 161 = mV σ 246 161 := a3 _ (by decide)
          have hif : item = false := by
            cases item
            · rfl
            · have := hit.2 rfl
              omega
          have hN0 : s1.2.2.2.2.2.1.1.length = 0 := by
            obtain ⟨Wt, x1, -, x3⟩ := wt3
            have := x3.2.2.2.1
            have h5 : s1.2.2.2.2.2.1.2.1.length = s1.2.2.2.2.2.1.1.length := n6.1
            have h6 : Wt.length = 0 := by omega
            omega
          refine R_text_180.i ⟨fun _ => R_text_201.i ⟨by unfold Rg; omega, by rw [e993]; unfold Rg; omega, fun _ => ?_, fun h9 => absurd h9 (by rw [e993]; omega)⟩, fun h => absurd q2.1 h⟩
          rw [a3 16 (by decide), h16]
          refine R_carries.z0 okL (by omega) hG3 h943 ⟨fun _ => R_lies.i ⟨by unfold Rg; omega, fun h9 => absurd e993 h9, fun _ => ?_⟩, fun h => absurd q2.1 h⟩
          show R_notesLines (m0 : Int) (wV σ3 246 161 0) _
          have f4 : FrZ [] [161] σ3 (wV σ3 246 161 0) := FrZ.wf (by decide)
          have e86 : mV (wV σ3 246 161 0) 246 86 = (m0 : Int) := by
            rw [f4.f (by decide) (by decide), a3 86 (by decide), hNoR.1, hN0, Nat.add_zero]
          refine R_notesLines.i (R_notesLines_2.i ⟨by unfold Rg; omega, fun _ => ?_, fun h9 => absurd h9 (by rw [e86]; omega)⟩)
          refine h3 hpk hif _ (f3.tr (f4.mo (by simp) (by decide))) (q2.z f4 (by simp) (by decide)) ⟨(f4.f (by decide) (by simp)).trans el3.1, fun i hi => ?_⟩ ((f4.f (by decide) (by simp)).trans ((a3 _ (by decide)).trans hbg)) ⟨fun z j hz => ?_, fun z j hz hj => ?_⟩
          · rw [f4.z (by simp) (by decide), f4.z (by simp) (by decide)]
            exact el3.2 i hi
          · rw [f4.z (by simp) (by omega)]
            exact z3 z j (by
              unfold MkS
              simp only [List.mem_cons, List.not_mem_nil, or_false]
              omega) (by omega)
          · rw [f4.z (by simp) (by omega), q3.2 z j (by omega) (by omega)]
            exact z2 z j (by omega) (by omega) (by omega)
        · have hP3 : AhR σ3 P := hP.cg (a3 _ (by decide)) (fun k => z3 _ _ (by decide) (by decide))
          have e161 : mV σ3 246 161 = mV σ 246 161 := a3 _ (by decide)
          have hif : ¬ (pkL L = [] ∧ item = false) := fun h => by
            have := hit.1 h.2
            omega
          obtain ⟨A9, w1, w2, w3, w4, w5, w6⟩ := hP3
          have f4 : FrZ [338, 339] [160] σ3 (wV σ3 246 160 0) := FrZ.wf (by decide)
          have b4 : LbR (wV σ3 246 160 0) [] := ⟨wV_self, fun i hi => absurd hi (Nat.not_lt_zero _)⟩
          have hCd := cd_9 w5 (by omega) w4
          rw [w1]
          refine R_blanks.p (by omega) (by omega) b4 (by show 0 + _ ≤ _; omega) (fun σ4 f5 b5 => ?_)
          rw [show ((P.length : Int) - (A9.length : Int)).toNat = P.length - A9.length by omega, List.nil_append] at b5
          have f34 := f4.tr f5
          show R_text_142 (bZ cl) (m0 : Int) (n0 : Int) 0 σ4 Q
          have lC : (sgT P 0 (P.length - 1)).length = P.length - 1 := by rw [sgT_l (by omega)]; omega
          have epN : prN P hg (S.getD 2 0) (S.getD 0 0) (pkL L) (S.getD 7 0) (txX H S P hg (pkL L)) = [(sgT P 0 (P.length - 1), 0)] := by
            rw [hX]
            rfl
          refine txr_142 (A := A9) (D := List.replicate (P.length - A9.length) 32) (by omega) w6 (by rw [List.length_replicate]; omega) ((f34.f (by decide) (by decide)).trans w1) (fun i hi => (f34.z (by decide) (by decide)).trans (w3 i hi)) (fun σ5 f6 b6 => ?_) (A9.length - 1) 0 σ4 (by omega) FrZ.rf (by rw [List.take_zero, List.append_nil]; exact b5)
          rw [hCd] at b6
          have f36 := f34.tr f6
          refine R_makes.p (pt := false) (fw := false) (by decide) (by decide) (q2.b f36) gbz b6 (by omega) ((f36.f (by decide) (by decide)).trans ((a3 _ (by decide)).trans ho)) (fun G9 σ6 y1 y2 y3 y4 => ?_) (fun e σ6 y1 y2 y9 y3 => ?_)
          · have ya : gAll o false [(sgT P 0 (P.length - 1), 0)] ((s1.1.1, s1.1.2.1), Ls, []) = .inl G9 := by
              show gBd (gFin o (sgT P 0 (P.length - 1)) (2 * bZ false) false ((s1.1.1, s1.1.2.1), Ls, [])) _ = _
              rw [y1]
              rfl
            have yl := gAll_l ya
            have g1 := wkE [(sgT P 0 (P.length - 1), 0)] [(sgT P 0 (P.length - 1), 0)] rfl G9.1 yl.2.2
            have gb1 := txG_b (List.cons_ne_nil _ _) hGB g1
            have l15 : (Ls ++ [((sgT P 0 (P.length - 1), o, 0) : GL9)]).length ≤ 1500 := gb1.2.2.1
            rw [List.length_append] at l15
            have l15 : Ls.length + 1 ≤ 1500 := l15
            have lF1 : 45 * ((F ++ List.replicate (spB bg cl (S.getD 8 0) 0).toNat (-2 : Int) ++ seqZ n0 1).length : Int) ≤ 3 * G9.1.1 + 75 * ((Ls ++ [((sgT P 0 (P.length - 1), o, 0) : GL9)]).length : Int) + 0 := gb1.2.2.2.2
            have w60 : G9.1.1 ≤ 60000 := gb1.1.2
            rw [List.length_append, List.length_append, seqZ_l, List.length_append] at lF1
            have y3' : FrLa Ls.length σ3 σ6 := (FrLa.b f36).tr (Nat.le_refl _) (FrLa.k y3)
            have a6 : ∀ j, j ∉ [28, 32, 33, 98, 99, 160] → mV σ6 246 j = mV σ3 246 j := fun j hj => y3'.1.f hj (by decide)
            have z6 : ∀ y j, y ∉ (338 :: 339 :: MkS) → y ≠ 246 → mV σ6 y j = mV σ3 y j := fun y j hy h6 => y3'.1.z hy h6
            have rx6 : RxG σ6 (G9.1, Ls ++ [((sgT P 0 (P.length - 1), o, 0) : GL9)], F) := ⟨y2.1, y2.2.1, y2.2.2.1, by
              have := y2.2.2.2
              rw [yl.1] at this
              exact this⟩
            have f06 : FrZ TcS TcK σ σ6 := f3.tr (y3'.1.mo (by decide) (by decide))
            show R_text_180 (bZ cl) (m0 : Int) (n0 : Int) σ6 Q
            refine txr_A (X := []) (m := s1.2.2) (H := H) (W := S.getD 0 0) (o := o) (g := S.getD 8 0) (bg := bg) (cl := cl) (hold := S.getD 7 0) (G := ((s1.1.1, s1.1.2.1), Ls, [])) (k := 1) (A := [(sgT P 0 (P.length - 1), o, 0)]) (B := [(sgT P 0 (P.length - 1), o, 0)]) (F := F) (N := s1.2.2.2.2.2.1.1) (w := G9.1) (l0 := l0) (k0 := k0) okL (by omega) (hG3.cg (fun k _ _ => ⟨z6 _ _ (by decide) (by decide), z6 _ _ (by decide) (by decide)⟩)) ((a6 _ (by decide)).trans ((a3 _ (by decide)).trans h16)) (by decide) (by omega) hn0 rfl rfl (fun i _ => ⟨rfl, rfl, rfl⟩) (fun i hi => ?_) rfl rx6 gb1 ((z6 _ _ (by decide) (by decide)).trans ((z3 _ _ (by decide) (by decide)).trans (hSv 7 (by decide)))) s7 (Or.inr ⟨rfl, (a6 _ (by decide)).trans h943⟩) ?_ b60 b100 cl6 (by omega) hso ⟨(a6 _ (by decide)).trans el3.1, fun i hi => ?_⟩ ((a6 _ (by decide)).trans ((a3 _ (by decide)).trans hbg)) ((z6 _ _ (by decide) (by decide)).trans ((z3 _ _ (by decide) (by decide)).trans (hSv 8 (by decide)))) s8 (by omega) n6.2.2.2 sN hm6 hb s0 ?_ (fun G2 sps σ7 v1 v2 v3 v4 v5 v6 v7 v8 v9 => ?_) (fun e σ7 v1 v2 v3 => ?_)
            · rw [show i = 0 by omega]
              have : hoF (S.getD 7 0) 1 0 = false := decide_eq_false (by omega)
              rw [this]
              rfl
            · obtain ⟨Wt, x1, x2, x3⟩ := wt3
              refine ⟨Wt, (a6 _ (by decide)).trans x1, fun i hi => ?_, x3⟩
              rw [z6 305 _ (by decide) (by decide), z6 306 _ (by decide) (by decide), z6 307 _ (by decide) (by decide)]
              exact x2 i hi
            · rw [z6 320 _ (by decide) (by decide), z6 321 _ (by decide) (by decide)]
              exact el3.2 i hi
            · obtain ⟨t1, t2, t3, t4, t5⟩ := nt3
              refine ⟨⟨(a6 _ (by decide)).trans t1.1, fun i hi => ?_⟩, t2.k y3'.1 (by decide) (by decide), (z6 _ _ (by decide) (by decide)).trans t3, by rw [z6 275 3 (by decide) (by decide)]; exact t4, (a6 _ (by decide)).trans t5⟩
              have := t1.2 i hi
              exact ⟨(z6 _ _ (by decide) (by decide)).trans this.1, (z6 _ _ (by decide) (by decide)).trans this.2.1, this.2.2.cg (fun k _ _ => ⟨z6 _ _ (by decide) (by decide), z6 _ _ (by decide) (by decide)⟩)⟩
            · have g1 : gAll o true (prN P hg (S.getD 2 0) (S.getD 0 0) (pkL L) (S.getD 7 0) (txX H S P hg (pkL L))) ((s1.1.1, s1.1.2.1), Ls, F ++ List.replicate (spB bg cl (S.getD 8 0) 0).toNat (-2)) = .inl (G9.1, Ls ++ [((sgT P 0 (P.length - 1), o, 0) : GL9)], F ++ List.replicate (spB bg cl (S.getD 8 0) 0).toNat (-2) ++ seqZ n0 1) := by
                rw [epN]
                exact g1
              refine h4 hif _ G2 sps σ7 g1 v1 v2 v3 v4 (f06.tr (v5.mo (by decide) (by decide))) (old σ7 ⟨fun j hj => (v6.1 j hj).trans (z6 _ _ (by decide) (by decide)), fun j hj => (v6.2.1 j hj).trans (z6 _ _ (by decide) (by decide)), fun z j hz hj => (v6.2.2.1 z j hz hj).trans (y3'.2 z j (by omega) (by omega)), fun z j hz hj => (v6.2.2.2 z j hz hj).trans (z6 z j (by
                unfold MkS
                simp only [List.mem_cons, List.not_mem_nil, or_false]
                omega) (by omega))⟩) (Or.inl hX) v8 (fun _ => ?_)
              have v90 := v9 rfl 0 (by decide)
              rw [Nat.add_zero] at v90
              rw [v90.1, v90.2, ← hn0]
              exact ⟨y4.2.2.1, y4.2.2.2⟩
            · have g1 : gAll o true (prN P hg (S.getD 2 0) (S.getD 0 0) (pkL L) (S.getD 7 0) (txX H S P hg (pkL L))) ((s1.1.1, s1.1.2.1), Ls, F ++ List.replicate (spB bg cl (S.getD 8 0) 0).toNat (-2)) = .inl (G9.1, Ls ++ [((sgT P 0 (P.length - 1), o, 0) : GL9)], F ++ List.replicate (spB bg cl (S.getD 8 0) 0).toNat (-2) ++ seqZ n0 1) := by
                rw [epN]
                exact g1
              exact hn e σ7 hif (Or.inr ⟨_, g1, v1⟩) v2 (f06.tr (v3.mo (by decide) (by decide)))
          · have ya : gAll o false [(sgT P 0 (P.length - 1), 0)] ((s1.1.1, s1.1.2.1), Ls, []) = .inr e := by
              show gBd (gFin o (sgT P 0 (P.length - 1)) (2 * bZ false) false ((s1.1.1, s1.1.2.1), Ls, [])) _ = _
              rw [y1]
              rfl
            have hk := gAll_k ya
            have y3' : FrLa Ls.length σ3 σ6 := (FrLa.b f36).tr (Nat.le_refl _) (FrLa.k y3)
            have ya2 : gAll o true (prN P hg (S.getD 2 0) (S.getD 0 0) (pkL L) (S.getD 7 0) (txX H S P hg (pkL L))) ((s1.1.1, s1.1.2.1), Ls, F ++ List.replicate (spB bg cl (S.getD 8 0) 0).toNat (-2)) = .inr e := by
              rw [epN]
              rw [gAll_w] at ya ⊢
              cases hw : gWk ([(sgT P 0 (P.length - 1), (0 : Int))].map (·.1)) (s1.1.1, s1.1.2.1) Ls.length with
              | inl w =>
                have ya : gAw o false _ _ (gWk ([(sgT P 0 (P.length - 1), (0 : Int))].map (·.1)) (s1.1.1, s1.1.2.1) Ls.length) = _ := ya
                rw [hw] at ya
                cases ya
              | inr e2 =>
                have ya : gAw o false _ _ (gWk ([(sgT P 0 (P.length - 1), (0 : Int))].map (·.1)) (s1.1.1, s1.1.2.1) Ls.length) = _ := ya
                rw [hw] at ya
                exact congrArg Sum.inr (Sum.inr.inj ya)
            exact R_text_180.i ⟨fun h => absurd (y2.1.symm.trans h) (by omega), fun _ => hn e σ6 hif (Or.inl ya2) y2 (f3.tr (y3'.1.mo (by decide) (by decide)))⟩
      · have hif : ¬ (pkL L = [] ∧ item = false) := fun h => hX (noX.mpr h.1)
        have hne : (txX H S P hg (pkL L)).isEmpty = false := by
          cases hc : txX H S P hg (pkL L) with
          | nil => exact absurd hc hX
          | cons x r => rfl
        have hk1 : 1 ≤ (txX H S P hg (pkL L)).length := by
          cases hc : txX H S P hg (pkL L) with
          | nil => exact absurd hc hX
          | cons x r => rw [List.length_cons]; omega
        have epN : prN P hg (S.getD 2 0) (S.getD 0 0) (pkL L) (S.getD 7 0) (txX H S P hg (pkL L)) = prB P hg (S.getD 2 0) (S.getD 0 0) (pkL L) (S.getD 7 0) (txX H S P hg (pkL L)).length 0 (txX H S P hg (pkL L)) := by
          unfold prN
          rw [hne]
          rfl
        have g1 := wkE _ (prB P hg (S.getD 2 0) (S.getD 0 0) (pkL L) (S.getD 7 0) (txX H S P hg (pkL L)).length 0 (txX H S P hg (pkL L))) (prAB _ 0).symm G'.1 gl.2.2
        rw [prB_l] at g1
        have g1n : gAll o true (prN P hg (S.getD 2 0) (S.getD 0 0) (pkL L) (S.getD 7 0) (txX H S P hg (pkL L))) ((s1.1.1, s1.1.2.1), Ls, F ++ List.replicate (spB bg cl (S.getD 8 0) 0).toNat (-2)) = .inl (G'.1, Ls ++ (prB P hg (S.getD 2 0) (S.getD 0 0) (pkL L) (S.getD 7 0) (txX H S P hg (pkL L)).length 0 (txX H S P hg (pkL L))).map (fun x => (x.1, o, x.2)), F ++ List.replicate (spB bg cl (S.getD 8 0) 0).toNat (-2) ++ seqZ n0 (txX H S P hg (pkL L)).length) := by
          rw [epN]
          exact g1
        have gb1 := txG_b prN_ne hGB g1n
        have l15 : (Ls ++ (prB P hg (S.getD 2 0) (S.getD 0 0) (pkL L) (S.getD 7 0) (txX H S P hg (pkL L)).length 0 (txX H S P hg (pkL L))).map (fun x => ((x.1, o, x.2) : GL9))).length ≤ 1500 := gb1.2.2.1
        have lF1 : 45 * ((F ++ List.replicate (spB bg cl (S.getD 8 0) 0).toNat (-2 : Int) ++ seqZ n0 (txX H S P hg (pkL L)).length).length : Int) ≤ 3 * G'.1.1 + 75 * ((Ls ++ (prB P hg (S.getD 2 0) (S.getD 0 0) (pkL L) (S.getD 7 0) (txX H S P hg (pkL L)).length 0 (txX H S P hg (pkL L))).map (fun x => ((x.1, o, x.2) : GL9))).length : Int) + 0 := gb1.2.2.2.2
        have w60 : G'.1.1 ≤ 60000 := gb1.1.2
        rw [List.length_append, List.length_map, prB_l] at l15
        rw [List.length_append, List.length_append, seqZ_l, List.length_append, List.length_map, prB_l] at lF1
        have lA : ((prA P hg (S.getD 2 0) (S.getD 0 0) (pkL L) 0 (txX H S P hg (pkL L))).map (fun x => ((x.1, o, x.2) : GL9))).length = (txX H S P hg (pkL L)).length := by rw [List.length_map, prA_l]
        have lB : ((prB P hg (S.getD 2 0) (S.getD 0 0) (pkL L) (S.getD 7 0) (txX H S P hg (pkL L)).length 0 (txX H S P hg (pkL L))).map (fun x => ((x.1, o, x.2) : GL9))).length = (txX H S P hg (pkL L)).length := by rw [List.length_map, prB_l]
        have atA : ∀ i, i < (txX H S P hg (pkL L)).length → ((prA P hg (S.getD 2 0) (S.getD 0 0) (pkL L) 0 (txX H S P hg (pkL L))).map (fun x => ((x.1, o, x.2) : GL9))).getD i ([], 0, 0) = (((prA P hg (S.getD 2 0) (S.getD 0 0) (pkL L) 0 (txX H S P hg (pkL L))).getD i ([], 0)).1, o, ((prA P hg (S.getD 2 0) (S.getD 0 0) (pkL L) 0 (txX H S P hg (pkL L))).getD i ([], 0)).2) := fun i hi => map_g9 (by rw [prA_l]; exact hi)
        have atB : ∀ i, i < (txX H S P hg (pkL L)).length → ((prB P hg (S.getD 2 0) (S.getD 0 0) (pkL L) (S.getD 7 0) (txX H S P hg (pkL L)).length 0 (txX H S P hg (pkL L))).map (fun x => ((x.1, o, x.2) : GL9))).getD i ([], 0, 0) = (((prB P hg (S.getD 2 0) (S.getD 0 0) (pkL L) (S.getD 7 0) (txX H S P hg (pkL L)).length 0 (txX H S P hg (pkL L))).getD i ([], 0)).1, o, ((prB P hg (S.getD 2 0) (S.getD 0 0) (pkL L) (S.getD 7 0) (txX H S P hg (pkL L)).length 0 (txX H S P hg (pkL L))).getD i ([], 0)).2) := fun i hi => map_g9 (by rw [prB_l]; exact hi)
        have rx3 : RxG σ3 (G'.1, Ls ++ (prA P hg (S.getD 2 0) (S.getD 0 0) (pkL L) 0 (txX H S P hg (pkL L))).map (fun x => ((x.1, o, x.2) : GL9)), F) := ⟨q2.1, q2.2.1, q2.2.2.1, by
          have := q2.2.2.2
          rw [gl.1] at this
          exact this⟩
        have go : R_text_180 (bZ cl) (m0 : Int) (n0 : Int) σ3 Q := by
          refine txr_A (X := txX H S P hg (pkL L)) (m := s1.2.2) (H := H) (W := S.getD 0 0) (o := o) (g := S.getD 8 0) (bg := bg) (cl := cl) (hold := S.getD 7 0) (G := ((s1.1.1, s1.1.2.1), Ls, [])) (k := (txX H S P hg (pkL L)).length) (A := (prA P hg (S.getD 2 0) (S.getD 0 0) (pkL L) 0 (txX H S P hg (pkL L))).map (fun x => ((x.1, o, x.2) : GL9))) (B := (prB P hg (S.getD 2 0) (S.getD 0 0) (pkL L) (S.getD 7 0) (txX H S P hg (pkL L)).length 0 (txX H S P hg (pkL L))).map (fun x => ((x.1, o, x.2) : GL9))) (F := F) (N := s1.2.2.2.2.2.1.1) (w := G'.1) (l0 := l0) (k0 := k0) okL (by omega) hG3 ((a3 _ (by decide)).trans h16) hk1 (by omega) hn0 lA lB (fun i hi => ?_) (fun i hi => ?_) ?_ rx3 gb1 ((z3 _ _ (by decide) (by decide)).trans (hSv 7 (by decide))) s7 (Or.inl ⟨rfl, by rw [hn0] at q4; exact q4, ?_⟩) wt3 b60 b100 cl6 (by omega) hso el3 ((a3 _ (by decide)).trans hbg) ((z3 _ _ (by decide) (by decide)).trans (hSv 8 (by decide))) s8 (by omega) n6.2.2.2 sN hm6 hb s0 nt3 (fun G2 sps σ7 v1 v2 v3 v4 v5 v6 v7 v8 v9 => ?_) (fun e σ7 v1 v2 v3 => ?_)
          · have pa := prAB_at (P := P) (hg := hg) (J := S.getD 2 0) (W := S.getD 0 0) (U := pkL L) (hold := S.getD 7 0) (many := (txX H S P hg (pkL L)).length) (txX H S P hg (pkL L)) 0 i hi
            rw [atA i hi, atB i hi]
            refine ⟨pa.1, rfl, ?_⟩
            show decide (2 ≤ ((prA P hg (S.getD 2 0) (S.getD 0 0) (pkL L) 0 (txX H S P hg (pkL L))).getD i ([], 0)).2) = decide (2 ≤ ((prB P hg (S.getD 2 0) (S.getD 0 0) (pkL L) (S.getD 7 0) (txX H S P hg (pkL L)).length 0 (txX H S P hg (pkL L))).getD i ([], 0)).2)
            rw [pa.2.1, pa.2.2]
            cases ((txX H S P hg (pkL L)).getD i (0, 0, false)).2.2 <;> cases hoF (S.getD 7 0) (txX H S P hg (pkL L)).length (0 + i) <;> rfl
          · have pa := prAB_at (P := P) (hg := hg) (J := S.getD 2 0) (W := S.getD 0 0) (U := pkL L) (hold := S.getD 7 0) (many := (txX H S P hg (pkL L)).length) (txX H S P hg (pkL L)) 0 i hi
            rw [atB i hi]
            show decide (((prB P hg (S.getD 2 0) (S.getD 0 0) (pkL L) (S.getD 7 0) (txX H S P hg (pkL L)).length 0 (txX H S P hg (pkL L))).getD i ([], 0)).2 % 2 = 0) = _
            rw [pa.2.2, Nat.zero_add]
            cases ((txX H S P hg (pkL L)).getD i (0, 0, false)).2.2 <;> cases hoF (S.getD 7 0) (txX H S P hg (pkL L)).length i <;> rfl
          · have pa := prAB_at (P := P) (hg := hg) (J := S.getD 2 0) (W := S.getD 0 0) (U := pkL L) (hold := S.getD 7 0) (many := (txX H S P hg (pkL L)).length) (txX H S P hg (pkL L)) 0 ((txX H S P hg (pkL L)).length - 1) (by omega)
            rw [atA _ (by omega)]
            show decide (((prA P hg (S.getD 2 0) (S.getD 0 0) (pkL L) 0 (txX H S P hg (pkL L))).getD ((txX H S P hg (pkL L)).length - 1) ([], 0)).2 % 2 = 0) = true
            rw [pa.2.1]
            exact decide_eq_true (by omega)
          · rw [a3 94 (by decide)]
            exact hns
          · exact h4 hif _ G2 sps σ7 g1n v1 v2 v3 v4 (f3.tr (v5.mo (by decide) (by decide))) (old σ7 v6) v7 v8 (fun h => absurd h hX)
          · exact hn e σ7 hif (Or.inr ⟨_, g1n, v1⟩) v2 (f3.tr (v3.mo (by decide) (by decide)))
        refine ⟨fun _ => go, fun h9 => ?_⟩
        rw [l1, hn0] at h9
        omega
    · have q1 : gAll o false (prA P hg (S.getD 2 0) (S.getD 0 0) (pkL L) 0 (txX H S P hg (pkL L))) ((s1.1.1, s1.1.2.1), Ls, []) = .inr e := q1
      have q3 : FrFw Ls.length σ2 σ3 := q3
      have hk := gAll_k q1
      have hX : ¬ txX H S P hg (pkL L) = [] := fun h => by
        rw [h] at q1
        cases q1
      have hif : ¬ (pkL L = [] ∧ item = false) := fun h => hX (liX_n.mpr h.1)
      have hne : (txX H S P hg (pkL L)).isEmpty = false := by
        cases hc : txX H S P hg (pkL L) with
        | nil => exact absurd hc hX
        | cons x r => rfl
      have ya2 : gAll o true (prN P hg (S.getD 2 0) (S.getD 0 0) (pkL L) (S.getD 7 0) (txX H S P hg (pkL L))) ((s1.1.1, s1.1.2.1), Ls, F ++ List.replicate (spB bg cl (S.getD 8 0) 0).toNat (-2)) = .inr e := by
        unfold prN
        rw [hne, if_neg (by decide), gAll_w]
        rw [gAll_w] at q1
        have q1 : gAw o false _ _ (gWk ((prA P hg (S.getD 2 0) (S.getD 0 0) (pkL L) 0 (txX H S P hg (pkL L))).map (·.1)) (s1.1.1, s1.1.2.1) Ls.length) = _ := q1
        show gAw o true _ _ (gWk ((prB P hg (S.getD 2 0) (S.getD 0 0) (pkL L) (S.getD 7 0) (txX H S P hg (pkL L)).length 0 (txX H S P hg (pkL L))).map (·.1)) (s1.1.1, s1.1.2.1) Ls.length) = _
        rw [prAB]
        cases hw : gWk ((prA P hg (S.getD 2 0) (S.getD 0 0) (pkL L) 0 (txX H S P hg (pkL L))).map (·.1)) (s1.1.1, s1.1.2.1) Ls.length with
        | inl w =>
          rw [hw] at q1
          cases q1
        | inr e2 =>
          rw [hw] at q1
          exact congrArg Sum.inr (Sum.inr.inj q1)
      have fin : R_text_180 (bZ cl) (m0 : Int) (n0 : Int) σ3 Q := R_text_180.i ⟨fun h => absurd (q2.1.symm.trans h) (by omega), fun _ => hn e σ3 hif (Or.inl ya2) q2 ((p2.1.mo (by decide) (by simp)).tr (q3.1.mo (by decide) (by decide)))⟩
      show (¬ x = 0 → _) ∧ (x = 0 → _)
      exact ⟨fun _ => fin, fun _ => ⟨fun _ => fin, fun _ => ⟨fun _ => fin, fun h => absurd (q2.1.symm.trans h) (by omega)⟩⟩⟩
  refine ⟨fun h9 => main 0 ?_, fun h9 => main 1 ?_⟩
  · rw [hH1, decide_eq_false h9]
    rfl
  · rw [hH1, decide_eq_true h9]
    rfl
end
