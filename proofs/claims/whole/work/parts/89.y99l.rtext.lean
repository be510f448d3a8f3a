/-! THE TEXT OF A PARAGRAPH OR AN ITEM: the reference, from its beginning -/
section
variable {σ σ0 : MS} {Q : MQ9} {nw x0 : Nat} {E : TE} {H : HY9} {S P T : List Int} {hg o sp : Int} {b : BK9} {cl item : Bool}
theorem FrU.fz {g kt c : Nat} {σ1 : MS} (h : FrU g kt c nw σ σ1) : FrZ TRS TRK σ σ1 := ⟨h.1, h.2.1, fun z k hz hk => h.2.2 z k (fun a => by
  rcases a with a | a
  · rcases hk with hk | hk
    · exact hk a.1
    · exact hk a.2
  · exact hz a.1)⟩
theorem flS_e (he : sp = if cl = true then 0 else S.getD 8 0) (h8 : 0 ≤ S.getD 8 0) : flS b sp = b.2.1.2 ++ List.replicate (spB b.2.2.2 cl (S.getD 8 0) 0).toNat (-2) := by
  unfold flS spB
  congr 1
  cases b.2.2.2
  · rw [if_neg (by decide), if_neg (fun h => absurd h.1 (by decide))]
    rfl
  · rw [if_pos rfl, he]
    cases cl
    · rw [if_neg (by decide), if_pos ⟨rfl, rfl⟩]
      congr 2
      omega
    · rw [if_pos rfl, if_neg (fun h => absurd h.2 (by decide))]
theorem cn_app {A B : List Nat} {q : Nat} : cnL (A ++ B) q = cnL A q + cnL B q ∧ cnU (A ++ B) q = cnU A q + cnU B q := by
  unfold cnL cnU
  rw [List.filter_append, List.filter_append, List.length_append, List.length_append]
  exact ⟨rfl, rfl⟩
theorem cn_hi {B : List Nat} {q n0 : Nat} (h : ∀ x ∈ B, n0 ≤ x) (hq : q < n0) : cnL B q = 0 ∧ cnU B q = 0 := by
  unfold cnL cnU
  constructor
  · rw [List.length_eq_zero_iff, List.filter_eq_nil_iff]
    intro x hx
    have := h x hx
    simp only [decide_eq_true_eq]
    omega
  · rw [List.length_eq_zero_iff, List.filter_eq_nil_iff]
    intro x hx
    have := h x hx
    simp only [decide_eq_true_eq]
    omega
theorem cn_lo {A : List Nat} {q n0 : Nat} (h : ∀ x ∈ A, x < n0) (hq : n0 ≤ q) : cnL A q = A.length ∧ cnU A q = A.length := by
  unfold cnL cnU
  constructor
  · rw [List.filter_eq_self.mpr (fun x hx => decide_eq_true (by have := h x hx; omega))]
  · rw [List.filter_eq_self.mpr (fun x hx => decide_eq_true (by have := h x hx; omega))]
theorem cn_sh {B : List Nat} {n0 i : Nat} : cnL (B.map (fun x => n0 + x)) (n0 + i) = cnL B i ∧ cnU (B.map (fun x => n0 + x)) (n0 + i) = cnU B i := by
  unfold cnL cnU
  induction B with
  | nil => exact ⟨rfl, rfl⟩
  | cons x r ih =>
    have e1 : decide (n0 + x < n0 + i) = decide (x < i) := by
      by_cases h : x < i
      · rw [decide_eq_true h, decide_eq_true (by omega)]
      · rw [decide_eq_false h, decide_eq_false (by omega)]
    have e2 : decide (n0 + x ≤ n0 + i) = decide (x ≤ i) := by
      by_cases h : x ≤ i
      · rw [decide_eq_true h, decide_eq_true (by omega)]
      · rw [decide_eq_false h, decide_eq_false (by omega)]
    rw [List.map_cons]
    constructor
    · by_cases h : x < i
      · rw [List.filter_cons_of_pos (by rw [e1]; exact decide_eq_true h), List.filter_cons_of_pos (by exact decide_eq_true h), List.length_cons, List.length_cons, ih.1]
      · rw [List.filter_cons_of_neg (by rw [e1]; simpa using h), List.filter_cons_of_neg (by simpa using h), ih.1]
    · by_cases h : x ≤ i
      · rw [List.filter_cons_of_pos (by rw [e2]; exact decide_eq_true h), List.filter_cons_of_pos (by exact decide_eq_true h), List.length_cons, List.length_cons, ih.2]
      · rw [List.filter_cons_of_neg (by rw [e2]; simpa using h), List.filter_cons_of_neg (by simpa using h), ih.2]
/-- notes: those there were and those of the block -/
theorem NnR.new {σ1 : MS} {F Z A : List Int} {sp0 sps : List (Int × Int)} {n0 k m0 : Nat} {qs : List Nat} (h : NnR σ F A sp0) (hF : ∀ x ∈ F, x < (n0 : Int)) (hZ : ∀ x ∈ Z, x < 0) (hA : A.length = m0) (hs0 : sp0.length = m0) (hql : sps.length = qs.length) (hq : ∀ x ∈ qs, x < k) (h3 : ∀ z j, z = 303 ∨ z = 304 → j < m0 → mV σ1 z j = mV σ z j) (h7 : ∀ z j, z = 317 ∨ z = 318 → j < n0 → mV σ1 z j = mV σ z j) (hn : ∀ i, i < qs.length → mV σ1 303 (m0 + i) = (sps.getD i (0, 0)).1 ∧ mV σ1 304 (m0 + i) = (sps.getD i (0, 0)).2) (hN : NlR σ1 n0 m0 k qs) : NnR σ1 (F ++ Z ++ seqZ n0 k) (A ++ qs.map (fun x => (((F ++ Z).length + x : Nat) : Int))) (sp0 ++ sps) := by
  have gF : ∀ i, i < F.length → (F ++ Z ++ seqZ n0 k).getD i 0 = F.getD i 0 := fun i hi => by
    unfold List.getD
    rw [List.getElem?_append_left (by rw [List.length_append]; omega), List.getElem?_append_left hi]
  have gS : ∀ i, i < k → (F ++ Z ++ seqZ n0 k).getD ((F ++ Z).length + i) 0 = ((n0 + i : Nat) : Int) := fun i hi => by
    unfold List.getD
    rw [List.getElem?_append_right (by omega), show (F ++ Z).length + i - (F ++ Z).length = i by omega]
    exact seqZ_at k n0 i hi
  have eq9 : fqs (F ++ Z ++ seqZ n0 k) (A ++ qs.map (fun x => (((F ++ Z).length + x : Nat) : Int))) = fqs F A ++ qs.map (fun x => n0 + x) := by
    unfold fqs
    rw [List.map_append, List.map_map]
    congr 1
    · refine List.map_congr_left (fun f hf => ?_)
      have := h.2.1 f hf
      rw [gF f.toNat (by omega)]
    · refine List.map_congr_left (fun x hx => ?_)
      show ((F ++ Z ++ seqZ n0 k).getD (((F ++ Z).length + x : Nat) : Int).toNat 0).toNat = n0 + x
      rw [Int.toNat_natCast, gS x (hq x hx)]
      omega
  have lo : ∀ x ∈ fqs F A, x < n0 := fun x hx => by
    obtain ⟨f, hf, e⟩ := List.mem_map.mp hx
    have a1 := h.2.1 f hf
    have hm : F.getD f.toNat 0 ∈ F := by
      unfold List.getD
      rw [List.getElem?_eq_getElem (by omega), Option.getD_some]
      exact List.getElem_mem _
    have := hF _ hm
    rw [← e]
    omega
  have hi9 : ∀ x ∈ qs.map (fun x => n0 + x), n0 ≤ x := fun x hx => by
    obtain ⟨y, -, e⟩ := List.mem_map.mp hx
    omega
  refine ⟨fun j hj => ?_, fun f hf => ?_, fun i hi h0 => ?_⟩
  · rw [List.length_append] at hj
    by_cases h9 : j < m0
    · have e : (sp0 ++ sps).getD j (0, 0) = sp0.getD j (0, 0) := by
        unfold List.getD
        rw [List.getElem?_append_left (by omega)]
      rw [e, h3 303 j (Or.inl rfl) h9, h3 304 j (Or.inr rfl) h9]
      exact h.1 j (by omega)
    · have e : (sp0 ++ sps).getD j (0, 0) = sps.getD (j - m0) (0, 0) := by
        unfold List.getD
        rw [List.getElem?_append_right (by omega), hs0]
      have := hn (j - m0) (by omega)
      rw [show m0 + (j - m0) = j by omega] at this
      rw [e]
      exact this
  · rcases List.mem_append.mp hf with hf | hf
    · have := h.2.1 f hf
      rw [gF f.toNat (by omega)]
      refine ⟨this.1, ?_, this.2.2⟩
      rw [List.length_append, List.length_append]
      omega
    · obtain ⟨x, hx, e⟩ := List.mem_map.mp hf
      have := hq x hx
      rw [← e, Int.toNat_natCast, gS x this]
      have e9 : (F ++ Z ++ seqZ n0 k).length = (F ++ Z).length + k := by rw [List.length_append, seqZ_l]
      refine ⟨by omega, ?_, by omega⟩
      rw [e9]
      omega
  · rw [eq9]
    by_cases h9 : i < F.length
    · rw [gF i h9] at h0 ⊢
      have hm : F.getD i 0 ∈ F := by
        unfold List.getD
        rw [List.getElem?_eq_getElem h9, Option.getD_some]
        exact List.getElem_mem _
      have hlt := hF _ hm
      have c1 := cn_app (A := fqs F A) (B := qs.map (fun x => n0 + x)) (q := (F.getD i 0).toNat)
      have c2 := cn_hi hi9 (q := (F.getD i 0).toNat) (by omega)
      unfold nlA
      rw [c1.1, c1.2, c2.1, c2.2, Nat.add_zero, Nat.add_zero, h7 317 _ (Or.inl rfl) (by omega), h7 318 _ (Or.inr rfl) (by omega)]
      exact h.2.2 i h9 h0
    · by_cases h8 : i < (F ++ Z).length
      · have hm : (F ++ Z ++ seqZ n0 k).getD i 0 ∈ Z := by
          unfold List.getD
          rw [List.getElem?_append_left h8, List.getElem?_append_right (by omega), List.getElem?_eq_getElem (by rw [List.length_append] at h8; omega), Option.getD_some]
          exact List.getElem_mem _
        have := hZ _ hm
        omega
      · rw [List.length_append, seqZ_l] at hi
        have hik : i - (F ++ Z).length < k := by omega
        have e := gS (i - (F ++ Z).length) hik
        rw [show (F ++ Z).length + (i - (F ++ Z).length) = i by omega] at e
        rw [e, Int.toNat_natCast]
        have c1 := cn_app (A := fqs F A) (B := qs.map (fun x => n0 + x)) (q := n0 + (i - (F ++ Z).length))
        have c2 := cn_lo lo (q := n0 + (i - (F ++ Z).length)) (by omega)
        have c3 := cn_sh (B := qs) (n0 := n0) (i := i - (F ++ Z).length)
        have la : (fqs F A).length = m0 := by
          unfold fqs
          rw [List.length_map]
          exact hA
        have nl := hN (i - (F ++ Z).length) hik
        unfold nlA
        rw [c1.1, c1.2, c2.1, c2.2, c3.1, c3.2, la]
        exact ⟨fun h => nl.1 (by omega), fun h => nl.2 (by omega)⟩
end
