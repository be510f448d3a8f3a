/-! HEADINGS: the reference works their text -/
section
variable {σ σ0 : MS} {Q : MQ9} {nw : Nat} {E : TE} {b : BK9} {Lt : List Int}
theorem hr_162 {l1 l2 l3 : Int} (hls : smB Lt) (hll : Lt.length ≤ 32) (h84 : mV σ0 246 84 = (Lt.length : Int)) (h300 : hol σ0 300 Lt) (hq : ∀ σ', FrZ [254, 255] [16] σ0 σ' → mV σ' 246 16 = (Lt.length : Int) → hoG σ' 254 255 0 (Lt.map (fun c => c + 128)) → R_heading_162 l1 l2 l3 (Lt.length : Int) σ' Q) : ∀ (r p : List Int) (σ : MS), Lt = p ++ r → FrZ [254, 255] [16] σ0 σ → mV σ 246 16 = (p.length : Int) → hoG σ 254 255 0 (p.map (fun c => c + 128)) → R_heading_162 l1 l2 l3 (p.length : Int) σ Q := by
  intro r
  induction r with
  | nil =>
    intro p σ he hf h16 hG
    rw [List.append_nil] at he
    rw [← he] at h16 hG ⊢
    exact hq σ hf h16 hG
  | cons c r ih =>
    intro p σ he hf h16 hG
    have h2 : Lt.length = p.length + (r.length + 1) := by rw [he, List.length_append, List.length_cons]
    have e84 := (hf.f (k := 84) (by decide) (by decide)).trans h84
    have ec : mV σ 300 p.length = c := (hf.z (by decide) (by decide)).trans (h300.at he)
    have cb := hls c (by rw [he]; exact List.mem_append_right _ List.mem_cons_self)
    refine R_heading_162.i ⟨by unfold Rg; omega, fun h => absurd h (by omega), fun _ => ⟨by omega, by omega, by omega, by omega, by omega, by omega, by rw [h16]; unfold Rg; omega, ?_⟩⟩
    rw [h16, Int.toNat_natCast, ec, b8_id (by omega), b8_id (by decide)]
    have := ih (p ++ [c]) (wV (wV (wV σ 254 p.length c) 255 p.length 1) 246 16 ((p.length : Int) + 1)) (by rw [List.append_assoc]; exact he) (((hf.tr (FrZ.wz (by decide))).tr (FrZ.wz (by decide))).tr (FrZ.wf (by decide))) (by
      rw [wV_self, List.length_append]
      rfl) (fun i hi => ?_)
    · rw [List.length_append] at this
      exact this
    · rw [List.length_map, List.length_append] at hi
      have hi : i < p.length + 1 := hi
      have g4 : mV (wV (wV (wV σ 254 p.length c) 255 p.length 1) 246 16 ((p.length : Int) + 1)) 254 i = if i = p.length then c else mV σ 254 i := by
        rw [wV_ne (Or.inl (by decide)), wV_ne (Or.inl (by decide))]
        split
        · rename_i e
          rw [e, wV_self]
        · rename_i e
          rw [wV_ne (Or.inr e)]
      have g5 : mV (wV (wV (wV σ 254 p.length c) 255 p.length 1) 246 16 ((p.length : Int) + 1)) 255 i = if i = p.length then 1 else mV σ 255 i := by
        rw [wV_ne (Or.inl (by decide))]
        split
        · rename_i e
          rw [e, wV_self]
        · rename_i e
          rw [wV_ne (Or.inr e), wV_ne (Or.inl (by decide))]
      rw [Nat.zero_add, g4, g5]
      by_cases e : i = p.length
      · rw [if_pos e, if_pos e, e, mp_gd (by rw [List.length_append]; show _ < _ + 1; omega)]
        have : (p ++ [c]).getD p.length 0 = c := by
          unfold List.getD
          rw [List.getElem?_append_right (Nat.le_refl _), Nat.sub_self]
          rfl
        rw [this]
        unfold cgB cyB
        rw [if_neg (by omega)]
        exact ⟨by omega, by omega⟩
      · have g0 := hG i (by rw [List.length_map]; omega)
        rw [Nat.zero_add] at g0
        have e9 : (p.map (fun c => c + 128) ++ [c].map (fun c => c + 128)).getD i 0 = (p.map (fun c => c + 128)).getD i 0 := by
          unfold List.getD
          rw [List.getElem?_append_left (by rw [List.length_map]; omega)]
        rw [if_neg e, if_neg e, List.map_append, e9]
        exact g0
def FrHr (n : Nat) (nw l : Nat) (σ σ' : MS) : Prop := FrZ [254, 255, 287, 289, 292] [16] σ σ' ∧ mV σ' 292 nw = ((n + 1 : Nat) : Int) ∧ mV σ' 289 (60 * nw + n) = (l : Int) ∧ mV σ' 287 (60 * nw + n) = mV σ 246 74 ∧ (∀ z k, z = 287 ∨ z = 289 → k ≠ 60 * nw + n → mV σ' z k = mV σ z k) ∧ ∀ k, k ≠ nw → mV σ' 292 k = mV σ 292 k
theorem hr_B {l x0 n : Nat} {T : List Int} (hnw : nw ≤ 1) (hn60 : n < 60) (hl3 : 1 ≤ l ∧ l ≤ 3) (hT : SgR σ x0 T) (hTb : smB T) (hE : EI (hgE E Lt)) (hls : smB Lt) (hll : Lt.length ≤ 32) (hTI : TI 0 0 (pfO (hgA Lt) (tx0 b.1))) (r1 : RxG σ (bkG b)) (r2 : RxE σ (hgE E Lt) nw) (r3 : TmR σ nw b.1.2.2) (r4 : UnB σ) (hbe : mV σ 246 16 = 0 ∧ mV σ 246 17 = 70000 ∧ mV σ 246 18 = 0 ∧ mV σ 246 21 = 0 ∧ mV σ 246 22 = 0 ∧ mV σ 246 31 = 0 ∧ mV σ 246 94 = 0 ∧ mV σ 246 95 = 1) (h292 : mV σ 292 nw = (n : Int)) (h0 : 0 ≤ b.1.2.2.2.2.2.1.2.2) (h84 : mV σ 246 84 = (Lt.length : Int)) (h300 : hol σ 300 Lt) (hq : ∀ s1 σe σ', wkD 30 (hgE E Lt) false [] T (pfO (hgA Lt) (tx0 b.1)) = .inl s1 → RxS (nw, (b.1.2.2.2.2.2.1.2.2).toNat, b.1.2.2.2.1.1.length, b.1.2.2.2.2.1.1.length, 0) 0 0 0 30 false (hgE E Lt) [] σ' s1 → FrHr n nw l σ σe → FrU 0 0 0 nw σe σ' → R_heading_316 ((60 * nw + n : Nat) : Int) 0 0 σ' Q) (hf : ∀ e σe σ', wkD 30 (hgE E Lt) false [] T (pfO (hgA Lt) (tx0 b.1)) = .inr e → TxR σ' e → UnB σ' → FrHr n nw l σ σe → FrU 0 0 0 nw σe σ' → Q (.inl none) σ') : R_heading_162 (l : Int) (x0 : Int) ((x0 + T.length : Nat) : Int) 0 σ Q := by
  obtain ⟨b1, b2, b3, b4, b5, b6, b7, b8⟩ := hbe
  have h59 := r2.1.2
  have key := hr_162 (Q := Q) (σ0 := σ) (l1 := (l : Int)) (l2 := (x0 : Int)) (l3 := ((x0 + T.length : Nat) : Int)) hls hll h84 h300 (fun σ1 f1 t16 tG => ?_) Lt [] σ rfl FrZ.rf b1 (fun i hi => absurd hi (Nat.not_lt_zero _))
  · exact key
  have k1 : ∀ k, k ≠ 16 → mV σ1 246 k = mV σ 246 k := fun k h => f1.f (by rw [List.mem_singleton]; exact h) (by decide)
  have z1 : ∀ y k, y ≠ 254 → y ≠ 255 → y ≠ 246 → mV σ1 y k = mV σ y k := fun y k a c d => f1.z (by simp only [List.mem_cons, List.not_mem_nil, or_false]; omega) d
  have e59 : mV σ1 246 59 = (nw : Int) := (k1 _ (by decide)).trans h59
  have e292 : mV σ1 292 nw = (n : Int) := (z1 _ _ (by decide) (by decide) (by decide)).trans h292
  have e84 : mV σ1 246 84 = (Lt.length : Int) := (k1 _ (by decide)).trans h84
  refine R_heading_162.i ⟨by unfold Rg; omega, fun _ => ?_, fun h => absurd h (by omega)⟩
  rw [e59, Int.toNat_natCast, e292, t16, Int.toNat_natCast, k1 74 (by decide), b8_id (by decide), b8_id (by decide), show ((60 * (nw : Int)) + (n : Int)) = ((60 * nw + n : Nat) : Int) by omega, Int.toNat_natCast]
  refine ⟨by omega, by omega, by omega, by omega, by unfold Rg; omega, by omega, by omega, by omega, by omega, by omega, by omega, by unfold Rg; omega, by omega, by omega, by unfold Rg; omega, by omega, by omega, ?_⟩
  generalize hσe : wV (wV (wV (wV (wV (wV σ1 254 Lt.length 32) 255 Lt.length 0) 246 16 ((Lt.length : Int) + 1)) 292 nw ((n : Int) + 1)) 289 (60 * nw + n) (l : Int)) 287 (60 * nw + n) (mV σ 246 74) = σe
  have v : ∀ y k, y ≠ 254 → y ≠ 255 → y ≠ 292 → y ≠ 289 → y ≠ 287 → (y ≠ 246 ∨ k ≠ 16) → mV σe y k = mV σ1 y k := fun y k a1 a2 a3 a4 a5 a6 => by
    rw [← hσe, wV_ne (Or.inl a5), wV_ne (Or.inl a4), wV_ne (Or.inl a3), wV_ne a6, wV_ne (Or.inl a2), wV_ne (Or.inl a1)]
  have fe : FrZ [254, 255, 287, 289, 292] [16] σ1 σe := ⟨by rw [← hσe]; rfl, by rw [← hσe]; rfl, fun y k a c => by
    simp only [List.mem_cons, List.not_mem_nil, or_false, not_or] at a c
    exact v y k (by omega) (by omega) (by omega) (by omega) (by omega) c⟩
  have f0e : FrZ [254, 255, 287, 289, 292] [16] σ σe := (f1.mo (by decide) (by decide)).tr fe
  have frh : FrHr n nw l σ σe := by
    refine ⟨f0e, ?_, ?_, ?_, fun z k hz hk => ?_, fun k hk => ?_⟩
    · rw [← hσe, wV_ne (Or.inl (by decide)), wV_ne (Or.inl (by decide)), wV_self]
      omega
    · rw [← hσe, wV_ne (Or.inl (by decide)), wV_self]
    · rw [← hσe, wV_self]
    · rw [← hσe, wV_ne (Or.inr hk), wV_ne (Or.inr hk), wV_ne (Or.inl (by omega)), wV_ne (Or.inl (by omega)), wV_ne (Or.inl (by omega)), wV_ne (Or.inl (by omega))]
      exact z1 z k (by omega) (by omega) (by omega)
    · rw [← hσe, wV_ne (Or.inl (by decide)), wV_ne (Or.inl (by decide)), wV_ne (Or.inr hk), wV_ne (Or.inl (by decide)), wV_ne (Or.inl (by decide)), wV_ne (Or.inl (by decide))]
      exact z1 292 k (by decide) (by decide) (by decide)
  have ke : ∀ k, k ≠ 16 → mV σe 246 k = mV σ 246 k := fun k h => f0e.f (by rw [List.mem_singleton]; exact h) (by decide)
  have x16 : mV σe 246 16 = ((0 + (hgA Lt ++ ([] : List Int)).length : Nat) : Int) := by
    rw [← hσe, wV_ne (Or.inl (by decide)), wV_ne (Or.inl (by decide)), wV_ne (Or.inl (by decide)), wV_self, List.append_nil]
    unfold hgA
    rw [List.length_append, List.length_map]
    show _ = ((0 + (Lt.length + 1) : Nat) : Int)
    omega
  have g254 : ∀ i, mV σe 254 i = if i = Lt.length then 32 else mV σ1 254 i := fun i => by
    rw [← hσe, wV_ne (Or.inl (by decide)), wV_ne (Or.inl (by decide)), wV_ne (Or.inl (by decide)), wV_ne (Or.inl (by decide)), wV_ne (Or.inl (by decide))]
    split
    · rename_i e
      rw [e, wV_self]
    · rename_i e
      rw [wV_ne (Or.inr e)]
  have g255 : ∀ i, mV σe 255 i = if i = Lt.length then 0 else mV σ1 255 i := fun i => by
    rw [← hσe, wV_ne (Or.inl (by decide)), wV_ne (Or.inl (by decide)), wV_ne (Or.inl (by decide)), wV_ne (Or.inl (by decide))]
    split
    · rename_i e
      rw [e, wV_self]
    · rename_i e
      rw [wV_ne (Or.inr e), wV_ne (Or.inl (by decide))]
  have xG : hoG σe 254 255 0 (hgA Lt ++ ([] : List Int)) := fun i hi => by
    rw [List.append_nil] at hi ⊢
    unfold hgA at hi ⊢
    rw [List.length_append, List.length_map] at hi
    have hi : i < Lt.length + 1 := hi
    rw [Nat.zero_add, g254, g255]
    by_cases e : i = Lt.length
    · rw [if_pos e, if_pos e, e]
      have : (Lt.map (fun c => c + 128) ++ [32]).getD Lt.length 0 = 32 := by
        unfold List.getD
        rw [List.getElem?_append_right (by rw [List.length_map]; exact Nat.le_refl _), List.length_map, Nat.sub_self]
        rfl
      rw [this]
      exact ⟨rfl, rfl⟩
    · have e9 : (Lt.map (fun c => c + 128) ++ [(32 : Int)]).getD i 0 = (Lt.map (fun c => c + 128)).getD i 0 := by
        unfold List.getD
        rw [List.getElem?_append_left (by rw [List.length_map]; omega)]
      rw [if_neg e, if_neg e, e9]
      have := tG i (by rw [List.length_map]; omega)
      rw [Nat.zero_add] at this
      exact this
  have rg : RxG σe (bkG b) := r1.z f0e (by decide) (by decide)
  have re : RxE σe (hgE E Lt) nw := r2.k f0e (by decide) (by decide)
  obtain ⟨m1, m2, m3, m4, m5⟩ := r3
  have n1 : RxC σe b.1.2.2 := m1.z f0e (by decide) (by decide)
  have n2 : RxL σe nw b.1.2.2 := m2.z f0e (by decide)
  have n3 : RxK σe nw b.1.2.2 := m3.z f0e (by decide) (by decide)
  have un : UnB σe := r4.z f0e (by decide) (by decide)
  have tlp : b.1.2.2.2.1.2.2.length = b.1.2.2.2.1.1.length := hTI.2.2.1.2.1
  have tkp : b.1.2.2.2.2.1.2.length = b.1.2.2.2.2.1.1.length := hTI.2.2.2.1.1
  have rxs : RxS (nw, (b.1.2.2.2.2.2.1.2.2).toNat, b.1.2.2.2.1.1.length, b.1.2.2.2.2.1.1.length, 0) 0 0 0 30 false (hgE E Lt) [] σe (pfO (hgA Lt) (tx0 b.1)) := by
    refine ⟨⟨rg.1, rg.2.1, rg.2.2.1, (ke _ (by decide)).trans b3⟩, ⟨x16, xG⟩, ⟨n1, fun _ => n2, fun _ => n3, fun _ => ⟨(ke _ (by decide)).trans m4, ?_, (ke _ (by decide)).trans b2, fun i hi => absurd hi (Nat.not_lt_zero _)⟩, ⟨by rw [ke _ (by decide), m5]; exact (Int.add_zero _).symm, rfl⟩, fun _ => ⟨[], (ke _ (by decide)).trans b7, fun i hi => absurd hi (Nat.not_lt_zero _), ⟨rfl, rfl⟩, ⟨?_, ?_⟩, ⟨?_, ?_⟩, ?_, fun x hx => absurd hx List.not_mem_nil⟩⟩, ⟨(ke _ (by decide)).trans b4, (ke _ (by decide)).trans b5, (ke _ (by decide)).trans b6, (ke _ (by decide)).trans b8, un⟩⟩
    · show b.1.2.2.2.2.2.1.2.2 = (((b.1.2.2.2.2.2.1.2.2).toNat + 0 : Nat) : Int)
      omega
    · show b.1.2.2.2.1.1.length ≤ b.1.2.2.2.1.2.2.length
      omega
    · show wtQ _ _ [] (b.1.2.2.2.1.2.2.drop b.1.2.2.2.1.1.length)
      rw [List.drop_of_length_le (by omega)]
      exact ⟨rfl, rfl⟩
    · show b.1.2.2.2.2.1.1.length ≤ b.1.2.2.2.2.1.2.length
      omega
    · show wtQ _ _ [] (b.1.2.2.2.2.1.2.drop b.1.2.2.2.2.1.1.length)
      rw [List.drop_of_length_le (by omega)]
      exact ⟨rfl, rfl⟩
    · show 0 = 0 + (b.1.2.2.2.1.2.2.length - b.1.2.2.2.1.1.length) + (b.1.2.2.2.2.1.2.length - b.1.2.2.2.2.1.1.length)
      omega
  refine is_r hE 30 240 x0 T false [] (-1) (nw, (b.1.2.2.2.2.2.1.2.2).toNat, b.1.2.2.2.1.1.length, b.1.2.2.2.2.1.1.length, 0) 0 0 0 [] (pfO (hgA Lt) (tx0 b.1)) σe _ 0 (by decide) (hT.cg (fun k => f0e.z (by decide) (by decide))) hTb re (Or.inl ⟨rfl, rfl⟩) (fun w hw => absurd hw List.not_mem_nil) rxs hTI (by decide) (by decide) (fun _ _ => rfl) ⟨fun s1 σ2 w1 rx1 f2 => ?_, fun e σ2 w1 q1 q2 f2 => ?_⟩
  · show (mV σ2 246 28 = 0 → _) ∧ (¬ mV σ2 246 28 = 0 → _)
    exact ⟨fun _ => hq s1 σe σ2 w1 rx1 frh f2, fun h => absurd rx1.1.1 h⟩
  · have tx : TxR σ2 e := ⟨q1.1, q1.2.2.1, q1.2.2.2.1⟩
    show (mV σ2 246 28 = 0 → _) ∧ (¬ mV σ2 246 28 = 0 → _)
    exact ⟨fun h => absurd (q1.1.symm.trans h) q1.2.1, fun _ => hf e σe σ2 w1 tx q2.2.2.2.2 frh f2⟩
end
