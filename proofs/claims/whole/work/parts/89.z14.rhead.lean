/-! HEADINGS: the reference keeps the title, the words grow bold -/
section
variable {σ σ0 : MS} {Q : MQ9} {L : List Int}
theorem rdG_32 {c : Int} (h : okC c) : rdG c = 32 ↔ sbl c = true := by
  unfold okC at h
  unfold rdG sbl
  rw [decide_eq_true_iff]
  split <;> omega
theorem rdG_sh {c : Int} (h : okC c) : (if rdG c = 160 then 32 else rdG c) = c % 128 := by
  unfold okC at h
  unfold rdG
  split <;> split <;> omega
theorem rdG_g {c : Int} : cgB c % 256 = rdG c := by
  unfold rdG cgB
  split <;> omega
theorem pkL_mo {A r : List Int} : (pkL A).length ≤ (pkL (A ++ r)).length := by
  obtain ⟨t, e⟩ := pkL_pre (L := A ++ r) A.length
  rw [List.take_left] at e
  rw [e, List.length_append]
  omega
theorem pkL_pos {x : Int} {t : List Int} (h : sbl x = false) : 0 < (pkL (x :: t)).length := by
  have := pkL_mo (A := [x]) (r := t)
  have e : pkL [x] = [x] := by
    show (pkF ([], false) x).1 = _
    unfold pkF
    rw [h, if_neg (by decide), if_neg (fun h => absurd h.1 (by decide))]
    rfl
  rw [e] at this
  exact this
theorem hr_316 {h9 tt : Nat} (hok : okK L) (hL6 : L.length ≤ 65000) (hfs : ∀ c r, L = c :: r → sbl c = false) (htt : tt + (pkL L).length ≤ 139999) (hq : ∀ σ', FrZ [255, 286] [74] σ0 σ' → hoG σ' 254 255 0 (L.map rbC) → mV σ' 246 74 = ((tt + (pkL L).length : Nat) : Int) → holA σ' 286 tt (ms7 (pkL L)) → (∀ k, k < tt ∨ tt + (pkL L).length ≤ k → mV σ' 286 k = mV σ0 286 k) → R_heading_316 (h9 : Int) (bZ (pkS L).2) (L.length : Int) σ' Q) (h16 : mV σ0 246 16 = (L.length : Int)) : ∀ (r p : List Int) (σ : MS), L = p ++ r → FrZ [255, 286] [74] σ0 σ → hoG σ 254 255 0 (p.map rbC ++ r) → mV σ 246 74 = ((tt + (pkL p).length : Nat) : Int) → holA σ 286 tt (ms7 (pkL p)) → (∀ k, k < tt ∨ tt + (pkL L).length ≤ k → mV σ 286 k = mV σ0 286 k) → R_heading_316 (h9 : Int) (bZ (pkS p).2) (p.length : Int) σ Q := by
  intro r
  induction r with
  | nil =>
    intro p σ he hf hG h74 hA ho
    rw [List.append_nil] at he
    rw [List.append_nil] at hG
    rw [← he] at hG h74 hA ⊢
    exact hq σ hf hG h74 hA ho
  | cons c r ih =>
    intro p σ he hf hG h74 hA ho
    have h2 : L.length = p.length + (r.length + 1) := by rw [he, List.length_append, List.length_cons]
    have hc : okC c := hok c (by rw [he]; exact List.mem_append_right _ List.mem_cons_self)
    have e16 := (hf.f (k := 16) (by decide) (by decide)).trans h16
    have gc := hG p.length (by rw [List.length_append, List.length_map, List.length_cons]; omega)
    have gd : (p.map rbC ++ c :: r).getD p.length 0 = c := by
      unfold List.getD
      rw [List.getElem?_append_right (by rw [List.length_map]; exact Nat.le_refl _), List.length_map, Nat.sub_self]
      rfl
    rw [gd, Nat.zero_add] at gc
    have rb := rbC_g hc
    have hy : 0 ≤ cyB (rbC c) ∧ cyB (rbC c) ≤ 3 := by
      unfold cyB
      omega
    have hL1 : L = (p ++ [c]) ++ r := by rw [List.append_assoc]; exact he
    have pl1 : (pkL (p ++ [c])).length ≤ (pkL L).length := by
      rw [hL1]
      exact pkL_mo
    have pS : pkS (p ++ [c]) = pkF (pkS p) c := pkS_sn
    generalize hσ1 : wV σ 255 p.length (cyB (rbC c)) = σ1
    have f1 : FrZ [255, 286] [74] σ0 σ1 := by
      rw [← hσ1]
      exact hf.tr (FrZ.wz (by decide))
    have v1 : ∀ y k, y ≠ 255 → mV σ1 y k = mV σ y k := fun y k h => by
      rw [← hσ1, wV_ne (Or.inl h)]
    have hG1 : hoG σ1 254 255 0 ((p ++ [c]).map rbC ++ r) := fun i hi => by
      rw [List.map_append, List.append_assoc] at hi ⊢
      have hi : i < (p.map rbC ++ ([rbC c] ++ r)).length := hi
      have hl9 : (p.map rbC ++ ([rbC c] ++ r)).length = p.length + (r.length + 1) := by
        rw [List.length_append, List.length_map]
        rfl
      rw [Nat.zero_add, v1 254 _ (by decide)]
      show mV σ 254 i = cgB ((p.map rbC ++ (rbC c :: r)).getD i 0) ∧ mV σ1 255 i = cyB ((p.map rbC ++ (rbC c :: r)).getD i 0)
      by_cases e : i = p.length
      · have : (p.map rbC ++ (rbC c :: r)).getD i 0 = rbC c := by
          rw [e]
          unfold List.getD
          rw [List.getElem?_append_right (by rw [List.length_map]; exact Nat.le_refl _), List.length_map, Nat.sub_self]
          rfl
        rw [this, e, gc.1, rb.1, ← hσ1, wV_self]
        exact ⟨rfl, rfl⟩
      · have g0 := hG i (by rw [List.length_append, List.length_map, List.length_cons]; omega)
        have : (p.map rbC ++ (rbC c :: r)).getD i 0 = (p.map rbC ++ c :: r).getD i 0 := by
          unfold List.getD
          by_cases hlt : i < p.length
          · rw [List.getElem?_append_left (by rw [List.length_map]; exact hlt), List.getElem?_append_left (by rw [List.length_map]; exact hlt)]
          · rw [List.getElem?_append_right (by rw [List.length_map]; omega), List.getElem?_append_right (by rw [List.length_map]; omega), List.length_map]
            cases e9 : i - p.length with
            | zero => omega
            | succ j => rfl
        rw [Nat.zero_add] at g0
        rw [this, g0.1, ← hσ1, wV_ne (Or.inr e), g0.2]
        exact ⟨rfl, rfl⟩
    have ih1 := ih (p ++ [c])
    rw [List.length_append, show ((p.length + [c].length : Nat) : Int) = (p.length : Int) + 1 from rfl] at ih1
    refine R_heading_316.i ⟨by unfold Rg; omega, fun h => absurd h (by omega), fun _ => ⟨by omega, by omega, by omega, by omega, ?_⟩⟩
    rw [Int.toNat_natCast, gc.2, ← rb.2, b8_id (x := cyB (rbC c)) (by omega), b8_id (by omega), hσ1]
    have at1 : ∀ (Q' : MQ9) (σ2 : MS), mV σ2 254 p.length = cgB c → Q' (.inl (some (rdG c))) σ2 → R_at (p.length : Int) σ2 Q' := fun Q' σ2 e2 hq2 => R_at.i ⟨by omega, by omega, by rw [Int.toNat_natCast, e2, rdG_g]; exact hq2⟩
    refine at1 _ σ1 ((v1 _ _ (by decide)).trans gc.1) ?_
    show (¬ rdG c = 32 → _) ∧ (rdG c = 32 → _)
    have h741 : mV σ1 246 74 = ((tt + (pkL p).length : Nat) : Int) := (v1 _ _ (by decide)).trans h74
    have hA1 : holA σ1 286 tt (ms7 (pkL p)) := hA.cg (fun k _ _ => v1 _ _ (by decide))
    have ho1 : ∀ k, k < tt ∨ tt + (pkL L).length ≤ k → mV σ1 286 k = mV σ0 286 k := fun k hk => (v1 _ _ (by decide)).trans (ho k hk)
    refine ⟨fun hn => ?_, fun hb => ?_⟩
    · have hs : sbl c = false := by
        cases e : sbl c
        · rfl
        · exact absurd ((rdG_32 hc).mpr e) hn
      have hs' : ¬ sbl c = true := by rw [hs]; decide
      have p382 : ∀ (D : List Int) (σ2 : MS), D ++ [c] = pkL (p ++ [c]) → (pkS (p ++ [c])).2 = false → FrZ [255, 286] [74] σ0 σ2 → hoG σ2 254 255 0 ((p ++ [c]).map rbC ++ r) → mV σ2 246 74 = ((tt + D.length : Nat) : Int) → holA σ2 286 tt (ms7 D) → (∀ k, k < tt ∨ tt + (pkL L).length ≤ k → mV σ2 286 k = mV σ0 286 k) → mV σ2 254 p.length = cgB c → R_heading_382 (h9 : Int) (p.length : Int) σ2 Q := fun D σ2 hD hfl f2 g2 d74 dA do2 e254 => by
        have Dl : D.length + 1 = (pkL (p ++ [c])).length := by
          rw [← hD, List.length_append]
          rfl
        refine R_heading_382.i ⟨by rw [d74]; unfold Rg; omega, ?_⟩
        refine at1 _ _ ((wV_ne (Or.inl (by decide))).trans e254) ?_
        have rdr : Rg (rdG c) := rdG_r
        have eS := rdG_sh hc
        have fin : ∀ x : Int, x = c % 128 → (0 ≤ mV σ2 246 74 ∧ mV σ2 246 74 < 140000 ∧ R_heading_411 (h9 : Int) 0 (p.length : Int) (wV (wV σ2 246 74 (mV σ2 246 74 + 1)) 286 ((mV σ2 246 74).toNat) (b8 (b8 x))) Q) := fun x hx => by
          rw [d74, Int.toNat_natCast, hx, b8_id (x := c % 128) (by omega), b8_id (by omega)]
          refine ⟨by omega, by omega, R_heading_411.i ?_⟩
          have := ih1 (wV (wV σ2 246 74 (((tt + D.length : Nat) : Int) + 1)) 286 (tt + D.length) (c % 128)) hL1 ((f2.tr (FrZ.wf (by decide))).tr (FrZ.wz (by decide))) (fun i hi => by
            rw [wV_ne (Or.inl (by decide)), wV_ne (Or.inl (by decide)), wV_ne (Or.inl (by decide)), wV_ne (Or.inl (by decide))]
            exact g2 i hi) (by
            rw [wV_ne (Or.inl (by decide)), wV_self, ← Dl]
            omega) (by
            rw [← hD]
            have e7 : ms7 (D ++ [c]) = ms7 D ++ [c % 128] := List.map_append
            rw [e7]
            intro i hi
            rw [List.length_append, ms7_len] at hi
            have hi : i < D.length + 1 := hi
            by_cases e : i = D.length
            · rw [e, wV_self]
              unfold List.getD
              rw [List.getElem?_append_right (by rw [ms7_len]; exact Nat.le_refl _), ms7_len, Nat.sub_self]
              rfl
            · rw [wV_ne (Or.inr (by omega)), wV_ne (Or.inl (by decide)), dA i (by rw [ms7_len]; omega)]
              unfold List.getD
              rw [List.getElem?_append_left (by rw [ms7_len]; omega)]) (fun k hk => by
            rw [wV_ne (Or.inr (by omega)), wV_ne (Or.inl (by decide))]
            exact do2 k hk)
          rw [hfl] at this
          exact this
        show R_shown (rdG c) _ _
        refine R_shown.i ⟨rdr, fun h => ⟨rdr, ?_⟩, fun h => ?_⟩
        · rw [if_neg h] at eS
          exact fin _ eS
        · rw [if_pos h] at eS
          exact fin 32 eS
      refine ⟨fun hz => ?_, fun hz => ?_⟩
      · have hz := bZ_z hz
        have e1 : pkF (pkS p) c = ((pkS p).1 ++ [c], false) := by
          unfold pkF
          rw [if_neg hs', hz, if_neg (fun h => absurd h.1 (by decide))]
        exact p382 (pkL p) σ1 (congrArg Prod.fst (pS.trans e1)).symm (congrArg Prod.snd (pS.trans e1)) f1 hG1 h741 hA1 ho1 ((v1 _ _ (by decide)).trans gc.1)
      · have hz := bZ_ne hz
        have p0 : 0 < (pkS p).1.length := by
          cases hp : p with
          | nil =>
            rw [hp] at hz
            cases hz
          | cons x t =>
            have hx := hfs x (t ++ c :: r) (by rw [he, hp]; rfl)
            exact pkL_pos hx
        have e1 : pkF (pkS p) c = ((pkS p).1 ++ [32] ++ [c], false) := by
          unfold pkF
          rw [if_neg hs', hz, if_pos ⟨rfl, p0⟩]
        have l2 : (pkL p).length + 2 = (pkL (p ++ [c])).length := by
          show (pkS p).1.length + 2 = (pkS (p ++ [c])).1.length
          rw [pS, e1, List.length_append, List.length_append]
          rfl
        refine ⟨by rw [h741]; unfold Rg; omega, by omega, by omega, ?_⟩
        rw [h741, Int.toNat_natCast, b8_id (by decide)]
        refine p382 (pkL p ++ [32]) _ (congrArg Prod.fst (pS.trans e1)).symm (congrArg Prod.snd (pS.trans e1)) ((f1.tr (FrZ.wf (by decide))).tr (FrZ.wz (by decide))) (fun i hi => ?_) ?_ (fun i hi => ?_) (fun k hk => ?_) ?_
        · rw [wV_ne (Or.inl (by decide)), wV_ne (Or.inl (by decide)), wV_ne (Or.inl (by decide)), wV_ne (Or.inl (by decide))]
          exact hG1 i hi
        · rw [wV_ne (Or.inl (by decide)), wV_self, List.length_append]
          show _ = ((tt + ((pkL p).length + 1) : Nat) : Int)
          omega
        · have e7 : ms7 (pkL p ++ [32]) = ms7 (pkL p) ++ [32] := List.map_append
          rw [e7] at hi ⊢
          rw [List.length_append, ms7_len] at hi
          have hi : i < (pkL p).length + 1 := hi
          by_cases e : i = (pkL p).length
          · rw [e, wV_self]
            unfold List.getD
            rw [List.getElem?_append_right (by rw [ms7_len]; exact Nat.le_refl _), ms7_len, Nat.sub_self]
            rfl
          · rw [wV_ne (Or.inr (by omega)), wV_ne (Or.inl (by decide)), hA1 i (by rw [ms7_len]; omega)]
            unfold List.getD
            rw [List.getElem?_append_left (by rw [ms7_len]; omega)]
        · rw [wV_ne (Or.inr (by omega)), wV_ne (Or.inl (by decide))]
          exact ho1 k hk
        · rw [wV_ne (Or.inl (by decide)), wV_ne (Or.inl (by decide))]
          exact (v1 _ _ (by decide)).trans gc.1
    · have hs := (rdG_32 hc).mp hb
      have e1 : pkF (pkS p) c = ((pkS p).1, true) := if_pos hs
      have e3 := pS.trans e1
      have el : pkL (p ++ [c]) = pkL p := by
        unfold pkL
        rw [e3]
      have e2 : (pkS (p ++ [c])).2 = true := congrArg Prod.snd (pS.trans e1)
      refine R_heading_411.i ?_
      have := ih1 σ1 hL1 f1 hG1 (by rw [el]; exact h741) (by rw [el]; exact hA1) ho1
      rw [e2] at this
      exact this
end
