/-! MARKS GO TO THEIR LINES, the end; lines come into the flow: the reference -/
def gV9 (U : List Int) (v : Int) : Int := if v = -1 then foP U else v
theorem wt_gt {k : Int} {b : Nat} {W : List (Int × Int × Int)} {V P : List Int} (h : wtQ P b (wtF k W) V) {i : Nat} (hi : i < V.length) : ∃ x ∈ W, x.1 = k ∧ x.2.1 = ((b + i : Nat) : Int) ∧ pkW P x.2.2 = V.getD i 0 := by
  have l1 := congrArg List.length h.2
  rw [List.length_map] at l1
  have hm : (wtF k W)[i]'(by omega) ∈ wtF k W := List.getElem_mem _
  obtain ⟨x, hx, e⟩ := List.mem_map.mp hm
  have hx2 := List.mem_filter.mp hx
  have g1 := congrArg (fun Z => Z.getD i 0) h.1
  have g2 := congrArg (fun Z => Z.getD i 0) h.2
  unfold upF at g1
  unfold List.getD at g1 g2
  rw [List.getElem?_map, List.getElem?_eq_getElem (by omega)] at g1 g2
  rw [List.getElem?_map, List.getElem?_range hi] at g1
  refine ⟨x, hx2.1, of_decide_eq_true hx2.2, ?_, ?_⟩
  · rw [e]
    exact g1
  · rw [e]
    unfold List.getD
    exact g2
section
variable {σ σ0 : MS} {Q : MQ9} {L : List Int} {X : List (Nat × Nat × Bool)} {n0 m0 l0 k0 : Nat} {m : TM}
/-- labels, index marks and notes know their lines -/
def CrR (σ0 σ : MS) (L : List Int) (X : List (Nat × Nat × Bool)) (n0 m0 l0 k0 : Nat) (m : TM) : Prop := (FrZ [284, 297, 317, 318] [] σ0 σ ∧ (∀ j, j < l0 → mV σ 284 j = mV σ0 284 j) ∧ (∀ j, j < k0 → mV σ 297 j = mV σ0 297 j) ∧ ∀ z j, z = 317 ∨ z = 318 → j < n0 → mV σ z j = mV σ0 z j) ∧ (∀ j, l0 ≤ j → j < m.2.1.2.2.length → mV σ 284 j = ((n0 + lnO (gV9 (pkL L) (m.2.1.2.2.getD j 0)) X : Nat) : Int)) ∧ (∀ j, k0 ≤ j → j < m.2.2.1.2.length → mV σ 297 j = ((n0 + lnO (gV9 (pkL L) (m.2.2.1.2.getD j 0)) X : Nat) : Int)) ∧ NlR σ n0 m0 X.length (m.2.2.2.1.2.1.map (fun v => lnO (gV9 (pkL L) v) X))
theorem drop_gd {V : List Int} {n j : Nat} (h : n ≤ j) : (V.drop n).getD (j - n) 0 = V.getD j 0 := by
  unfold List.getD
  rw [List.getElem?_drop, show n + (j - n) = j by omega]
theorem R_carries.p (hok : okK L) (hL : L.length ≤ 139000) (hG : hoG σ 254 255 0 L) (hX1 : 1 ≤ X.length) (hn0 : n0 + X.length ≤ 1500) (h99 : mV σ 246 99 = ((n0 + X.length : Nat) : Int)) (hI : LbI σ n0 0 L X) (hWt : WtR σ m0 l0 k0 L m) (hfo : mV σ 246 94 = 0 ∨ foN L < L.length) (hb1 : m.2.1.2.2.length ≤ 60) (hb2 : m.2.2.1.2.length ≤ 100) (hb3 : m.2.2.2.1.2.1.length ≤ 60) (hm0 : m0 ≤ 100) (hso : ∀ i j, i < j → j < m.2.2.2.1.2.1.length → m.2.2.2.1.2.1.getD i 0 ≤ m.2.2.2.1.2.1.getD j 0) (hq : ∀ σ', CrR σ σ' L X n0 m0 l0 k0 m → Q (.inl none) σ') : R_carries (n0 : Int) 0 (L.length : Int) σ Q := by
  obtain ⟨W, h94, hWc, hWP⟩ := hWt
  have hWP2 := hWP
  obtain ⟨w0, ⟨w1a, w1⟩, ⟨w2a, w2⟩, w3, w4⟩ := hWP
  refine R_carries.i (car_3 hok hL hG ?_ L [] rfl (Nat.zero_add _))
  refine R_carries_29.i (car_32 (m := m) (W := W) hok hL hX1 hn0 h99 hI ?_ h94 hWc hWP2 (by omega) hb1 hb2 (by omega) hso (fun σ' hC => ?_) W [] σ rfl ⟨⟨FrZ.rf, fun _ _ => rfl, fun _ _ => rfl, fun _ _ _ _ => rfl⟩, fun x hx => absurd hx List.not_mem_nil, fun x hx => absurd hx List.not_mem_nil, fun i hi => ⟨fun _ => (hI i hi).2, fun h => absurd rfl h⟩⟩)
  · rcases hfo with h | h
    · exact Or.inl (List.eq_nil_of_length_eq_zero (by omega))
    · exact Or.inr h
  · refine hq σ' ⟨hC.1, fun j h1 h2 => ?_, fun j h1 h2 => ?_, ?_⟩
    · obtain ⟨x, x1, x2, x3, x4⟩ := wt_gt w1 (i := j - l0) (by rw [List.length_drop]; omega)
      have := hC.2.1 x x1 x2
      rw [x3, show (((l0 + (j - l0) : Nat) : Int)).toNat = j by omega] at this
      rw [this]
      unfold eff gV9
      rw [x4, drop_gd h1]
    · obtain ⟨x, x1, x2, x3, x4⟩ := wt_gt w2 (i := j - k0) (by rw [List.length_drop]; omega)
      have := hC.2.2.1 x x1 x2
      rw [x3, show (((k0 + (j - k0) : Nat) : Int)).toNat = j by omega] at this
      rw [this]
      unfold eff gV9
      rw [x4, drop_gd h1]
    · have e : (wtF 0 W).map (fun x => lnO (eff L x.2) X) = m.2.2.2.1.2.1.map (fun v => lnO (gV9 (pkL L) v) X) := by
        rw [← w0.2, List.map_map]
        rfl
      rw [← e]
      exact hC.2.2.2
/-- the flow: a line, a space (-2), a cut (-3) -/
def elK (x : Int) : Int := if 0 ≤ x then 0 else if x = -2 then 1 else 2
def ElR (σ : MS) (F : List Int) : Prop := mV σ 246 112 = (F.length : Int) ∧ ∀ i, i < F.length → mV σ 320 i = elK (F.getD i 0) ∧ (0 ≤ F.getD i 0 → mV σ 321 i = F.getD i 0)
theorem ElR.sn {F : List Int} {x : Int} (h : ElR σ0 F) (e1 : mV σ 246 112 = (F.length : Int) + 1) (e2 : mV σ 320 F.length = elK x) (e3 : 0 ≤ x → mV σ 321 F.length = x) (h1 : ∀ j, j < F.length → mV σ 320 j = mV σ0 320 j ∧ mV σ 321 j = mV σ0 321 j) : ElR σ (F ++ [x]) := by
  refine ⟨by rw [e1, List.length_append]; rfl, fun i hi => ?_⟩
  rw [List.length_append] at hi
  have hi : i < F.length + 1 := hi
  rw [snoc_at]
  by_cases h9 : i < F.length
  · rw [if_pos h9, (h1 i h9).1, (h1 i h9).2]
    exact h.2 i h9
  · have e : i = F.length := by omega
    rw [if_neg h9, if_pos e, e]
    exact ⟨e2, e3⟩
theorem seqZ_l : ∀ (n m : Nat), (seqZ n m).length = m
  | _, 0 => rfl
  | n, m + 1 => by
    show (seqZ (n + 1) m).length + 1 = m + 1
    rw [seqZ_l (n + 1) m]
theorem seqZ_s : ∀ (n m : Nat), seqZ n (m + 1) = seqZ n m ++ [((n + m : Nat) : Int)]
  | _, 0 => rfl
  | n, m + 1 => by
    show (n : Int) :: seqZ (n + 1) (m + 1) = (n : Int) :: (seqZ (n + 1) m ++ [((n + (m + 1) : Nat) : Int)])
    rw [seqZ_s (n + 1) m, show n + 1 + m = n + (m + 1) by omega]
def FrLi (σ σ' : MS) : Prop := FrZ [320, 321] [112, 113] σ σ'
theorem lie_92 {n0 k : Nat} {F : List Int} (h99 : mV σ0 246 99 = ((n0 + k : Nat) : Int)) (hk : n0 + k ≤ 1500) (hF : F.length + k ≤ 7999) (hq : ∀ σ', FrLi σ0 σ' → mV σ' 246 113 = mV σ0 246 113 → ElR σ' (F ++ seqZ n0 k) → Q (.inl none) σ') : ∀ (n j : Nat) (σ : MS), j + n = k → FrLi σ0 σ → mV σ 246 113 = mV σ0 246 113 → ElR σ (F ++ seqZ n0 j) → R_lies_92 ((n0 + j : Nat) : Int) σ Q := by
  intro n
  induction n with
  | zero =>
    intro j σ hj hf h3 hE
    have e9 := (hf.f (k := 99) (by decide) (by decide)).trans h99
    refine R_lies_92.i ⟨by unfold Rg; omega, fun _ => hq σ hf h3 (by rw [show k = j by omega]; exact hE), fun h9 => absurd h9 (by omega)⟩
  | succ n ih =>
    intro j σ hj hf h3 hE
    have e9 := (hf.f (k := 99) (by decide) (by decide)).trans h99
    have e2 := hE.1
    rw [List.length_append, seqZ_l] at e2
    have lF : (F ++ seqZ n0 j).length = F.length + j := by rw [List.length_append, seqZ_l]
    refine R_lies_92.i ⟨by unfold Rg; omega, fun h9 => absurd h9 (by omega), fun _ => ?_⟩
    rw [e2]
    refine ⟨by omega, by omega, by omega, by omega, by unfold Rg; omega, by unfold Rg; omega, ?_⟩
    rw [Int.toNat_natCast, show ((n0 + j : Nat) : Int) + 1 = ((n0 + (j + 1) : Nat) : Int) by omega]
    refine ih (j + 1) _ (by omega) (hf.tr (((FrZ.wz (by decide)).tr (FrZ.wz (by decide))).tr (FrZ.wf (by decide)))) ?_ ?_
    · rw [wV_ne (Or.inr (by decide)), wV_ne (Or.inl (by decide)), wV_ne (Or.inl (by decide))]
      exact h3
    · rw [seqZ_s, ← List.append_assoc]
      refine hE.sn ?_ ?_ (fun _ => ?_) (fun i hi => ⟨?_, ?_⟩)
      · rw [wV_self, lF]
      · rw [wV_ne (Or.inl (by decide)), wV_ne (Or.inl (by decide)), lF, wV_self]
        unfold elK
        rw [if_pos (by omega)]
        rfl
      · rw [wV_ne (Or.inl (by decide)), lF, wV_self]
      · rw [lF] at hi
        rw [wV_ne (Or.inl (by decide)), wV_ne (Or.inl (by decide)), wV_ne (Or.inr (by omega))]
      · rw [lF] at hi
        rw [wV_ne (Or.inl (by decide)), wV_ne (Or.inr (by omega)), wV_ne (Or.inl (by decide))]
theorem lie_51 {l1 : Int} {sp : Nat} {F : List Int} (hsp : sp ≤ 3) (hF : F.length + sp ≤ 7999) (hq : ∀ σ', FrLi σ0 σ' → mV σ' 246 113 = 1 → ElR σ' (F ++ List.replicate sp (-2)) → R_lies_92 l1 σ' Q) : ∀ (n j : Nat) (σ : MS), j + n = sp → FrLi σ0 σ → ElR σ (F ++ List.replicate j (-2)) → R_lies_51 l1 (sp : Int) (j : Int) σ Q := by
  intro n
  induction n with
  | zero =>
    intro j σ hj hf hE
    refine R_lies_51.i ⟨by unfold Rg; omega, by unfold Rg; omega, fun _ => hq _ (hf.tr (FrZ.wf (by decide))) wV_self ?_, fun h9 => absurd h9 (by omega)⟩
    rw [show sp = j by omega]
    exact ⟨(wV_ne (Or.inr (by decide))).trans hE.1, fun i hi => by
      rw [wV_ne (Or.inl (by decide)), wV_ne (Or.inl (by decide))]
      exact hE.2 i hi⟩
  | succ n ih =>
    intro j σ hj hf hE
    have e2 := hE.1
    rw [List.length_append, List.length_replicate] at e2
    have lF : (F ++ List.replicate j (-2 : Int)).length = F.length + j := by rw [List.length_append, List.length_replicate]
    refine R_lies_51.i ⟨by unfold Rg; omega, by unfold Rg; omega, fun h9 => absurd h9 (by omega), fun _ => ?_⟩
    rw [e2]
    refine ⟨by omega, by omega, by unfold Rg; omega, ?_⟩
    rw [Int.toNat_natCast, show (j : Int) + 1 = ((j + 1 : Nat) : Int) by omega]
    refine ih (j + 1) _ (by omega) (hf.tr ((FrZ.wz (by decide)).tr (FrZ.wf (by decide)))) ?_
    rw [List.replicate_succ', ← List.append_assoc]
    refine hE.sn ?_ ?_ (fun h => absurd h (by decide)) (fun i hi => ⟨?_, ?_⟩)
    · rw [wV_self, lF]
    · rw [wV_ne (Or.inl (by decide)), lF, wV_self]
      rfl
    · rw [lF] at hi
      rw [wV_ne (Or.inl (by decide)), wV_ne (Or.inr (by omega))]
    · rw [wV_ne (Or.inl (by decide)), wV_ne (Or.inl (by decide))]
/-- how many spaces stand ahead -/
def spB (bg cl : Bool) (g least : Int) : Int := if bg = true ∧ cl = false then max g least else 0
theorem R_lies.p {n0 k : Nat} {F : List Int} {bg cl : Bool} {g least : Int} (h99 : mV σ 246 99 = ((n0 + k : Nat) : Int)) (hk : n0 + k ≤ 1500) (hk1 : 1 ≤ k) (hF : F.length + 3 + k ≤ 7999) (hg : mV σ 275 8 = g) (hg3 : 0 ≤ g ∧ g ≤ 3) (hle : 0 ≤ least ∧ least ≤ 1) (hbg : mV σ 246 113 = bZ bg) (hE : ElR σ F) (hq : ∀ σ', FrLi σ σ' → mV σ' 246 113 = 1 → ElR σ' (F ++ List.replicate (spB bg cl g least).toNat (-2) ++ seqZ n0 k) → Q (.inl none) σ') : R_lies (n0 : Int) (bZ cl) least σ Q := by
  have go : ∀ s0 : Int, s0 = spB bg cl g least → R_lies_46 (n0 : Int) s0 σ Q := fun s0 hs => by
    have hb : 0 ≤ s0 ∧ s0 ≤ 3 := by
      rw [hs]
      unfold spB
      split <;> omega
    rw [← hs] at hq
    refine R_lies_46.i ?_
    rw [show s0 = ((s0.toNat : Nat) : Int) by omega]
    refine lie_51 (sp := s0.toNat) (F := F) (by omega) (by omega) (fun σ1 f1 h1 e1 => ?_) s0.toNat 0 σ (by omega) FrZ.rf (by rw [List.replicate_zero, List.append_nil]; exact hE)
    refine lie_92 (σ0 := σ1) (n0 := n0) (k := k) (F := F ++ List.replicate s0.toNat (-2)) ((f1.f (by decide) (by decide)).trans h99) hk (by rw [List.length_append, List.length_replicate]; omega) (fun σ2 f2 h2 e2 => hq σ2 (f1.tr f2) (h2.trans h1) e2) k 0 σ1 (by omega) FrZ.rf rfl (by
      show ElR σ1 (_ ++ [])
      rw [List.append_nil]
      exact e1)
  refine R_lies.i ⟨by unfold Rg; omega, fun h9 => ?_, fun h9 => absurd h9 (by rw [h99]; omega)⟩
  rw [hbg, hg]
  refine ⟨fun h8 => R_lies_20.i (go 0 ?_), fun h8 => ⟨by cases cl <;> decide, fun h7 => ⟨by decide, by decide, by unfold Rg; omega, fun h6 => ⟨by decide, by decide, go g ?_⟩, fun h6 => go least ?_⟩, fun h7 => R_lies_20.i (go 0 ?_)⟩⟩
  · unfold spB
    rw [if_neg (fun h => by rw [bZ_z h8] at h; exact absurd h.1 (by decide))]
  · unfold spB
    rw [if_pos ⟨bZ_ne h8, bZ_z h7⟩]
    omega
  · unfold spB
    rw [if_pos ⟨bZ_ne h8, bZ_z h7⟩]
    omega
  · unfold spB
    rw [if_neg (fun h => by rw [bZ_ne h7] at h; exact absurd h.2 (by decide))]
end
