/-! MARKS GO TO THEIR LINES: the reference -/
theorem foN_eq : ∀ {U : List Int} {n : Nat}, n < U.length → (∀ j, j < n → U.getD j 0 % 128 = 32) → ¬ U.getD n 0 % 128 = 32 → foN U = n
  | [], n, h, _, _ => absurd h (Nat.not_lt_zero _)
  | c :: r, 0, _, _, h => if_neg h
  | c :: r, n + 1, h, h1, h2 => by
    have e : foN (c :: r) = foN r + 1 := if_pos (h1 0 (by omega))
    rw [e, foN_eq (U := r) (n := n) (by rw [List.length_cons] at h; omega) (fun j hj => h1 (j + 1) (by omega)) h2]
theorem foN_at : ∀ {U : List Int}, (∀ j, j < foN U → U.getD j 0 % 128 = 32) ∧ (foN U < U.length → ¬ U.getD (foN U) 0 % 128 = 32)
  | [] => ⟨fun j h => absurd h (Nat.not_lt_zero _), fun h => absurd h (Nat.not_lt_zero _)⟩
  | c :: r => by
    have ih := foN_at (U := r)
    by_cases h : c % 128 = 32
    · have e : foN (c :: r) = foN r + 1 := if_pos h
      rw [e]
      refine ⟨fun j hj => ?_, fun hl => ?_⟩
      · cases j with
        | zero => exact h
        | succ j => exact ih.1 j (by omega)
      · exact ih.2 (by rw [List.length_cons] at hl; omega)
    · have e : foN (c :: r) = 0 := if_neg h
      rw [e]
      exact ⟨fun j hj => absurd hj (Nat.not_lt_zero _), fun _ => h⟩
theorem pk_32 : ∀ {M : List Int} {q : List Int × Bool}, (∀ c ∈ M, c % 128 = 32) → (∀ c ∈ q.1, c % 128 = 32) → ∀ c ∈ (M.foldl pkF q).1, c % 128 = 32
  | [], q, _, h, c, hc => h c hc
  | m :: M, q, h1, h2, c, hc => by
    refine pk_32 (M := M) (q := pkF q m) (fun c hc => h1 c (List.mem_cons_of_mem _ hc)) (fun c hc => ?_) c hc
    unfold pkF at hc
    have hm := h1 m List.mem_cons_self
    split at hc
    · exact h2 c hc
    · rcases List.mem_append.mp hc with hc | hc
      · split at hc
        · rcases List.mem_append.mp hc with hc | hc
          · exact h2 c hc
          · rw [List.mem_singleton.mp hc]
            decide
        · exact h2 c hc
      · rw [List.mem_singleton.mp hc]
        exact hm
theorem sbl_n {c : Int} (h : ¬ c % 128 = 32) : sbl c = false := by
  rw [← Bool.not_eq_true]
  exact fun h9 => h (sbl_128 h9)
/-- the first sign, raw and packed -/
theorem fo_pk {L : List Int} (h : foN L < L.length) : foP (pkL L) = ((gP L (foN L) : Nat) : Int) := by
  have fa := foN_at (U := L)
  have hs := sbl_n (fa.2 h)
  have ga := gP_at h hs
  have e : foN (pkL L) = gP L (foN L) := by
    refine foN_eq ga.2 (fun j hj => ?_) (by rw [ga.1]; exact fa.2 h)
    obtain ⟨t, ht⟩ := pkL_pre (L := L) (foN L)
    have hall : ∀ c ∈ pkL (L.take (foN L)), c % 128 = 32 := pk_32 (q := ([], false)) (fun c hc => by
      obtain ⟨i, hi, e⟩ := List.mem_iff_getElem.mp hc
      have hi2 : i < foN L := by
        rw [List.length_take] at hi
        omega
      have := fa.1 i hi2
      unfold List.getD at this
      rw [List.getElem?_eq_getElem (by omega), Option.getD_some] at this
      rw [← e, List.getElem_take]
      exact this) (fun c hc => absurd hc List.not_mem_nil)
    by_cases hj2 : j < (pkL (L.take (foN L))).length
    · rw [ht, pre_at hj2]
      refine hall _ ?_
      unfold List.getD
      rw [List.getElem?_eq_getElem hj2, Option.getD_some]
      exact List.getElem_mem _
    · have hf1 : 1 ≤ foN L := by
        by_cases h0 : foN L = 0
        · rw [h0] at hj
          exact absurd hj (Nat.not_lt_zero _)
        · omega
      by_cases hb : sbl (L.getD (foN L - 1) 0) = true
      · have g3 := gP_32 (L := L) (k := foN L) hf1 h hs hb
        have hle : gP L (foN L) ≤ (pkL (L.take (foN L))).length + 1 := by
          unfold gP
          split <;> omega
        rcases g3 with g3 | g3
        · omega
        · rw [show j = gP L (foN L) - 1 by omega, g3.2]
          decide
      · have hb2 : sbl (L.getD (foN L - 1) 0) = false := by
          rw [← Bool.not_eq_true]
          exact hb
        have := (gP_fn (L := L) (k := foN L) hf1 (by omega) hb2).1
        omega
  unfold foP
  rw [e, if_pos ga.2]
theorem pkW_g {L : List Int} {w : Nat} (hw : w < L.length) (hs : sbl (L.getD w 0) = false) : pkW L (w : Int) = ((gP L w : Nat) : Int) := by
  unfold pkW
  rw [show ((w : Int) + 1).toNat = w + 1 by omega, (gP_n hw hs).2.1]
  omega
theorem pkW_m {L : List Int} : pkW L (-1) = -1 := by
  unfold pkW
  rfl
def LbJ (σ : MS) (n0 u : Nat) (L : List Int) (X : List (Nat × Nat × Bool)) : Prop := ∀ i, i < X.length → ∃ b, 1 ≤ b ∧ b ≤ L.length ∧ sbl (L.getD (b - 1) 0) = false ∧ mV σ 316 (n0 + i) = ((u + b : Nat) : Int) ∧ gP L b = (X.getD i (0, 0, false)).2.1
/-- the line that carries a mark -/
def lnW (L : List Int) (X : List (Nat × Nat × Bool)) (w : Int) : Nat := lnO (if pkW L w = -1 then foP (pkL L) else pkW L w) X
/-- how many come ahead of a line; up to it -/
def cnL (qs : List Nat) (i : Nat) : Nat := (qs.filter (fun x => decide (x < i))).length
def cnU (qs : List Nat) (i : Nat) : Nat := (qs.filter (fun x => decide (x ≤ i))).length
def NlR (σ : MS) (n0 m0 n : Nat) (qs : List Nat) : Prop := ∀ i, i < n → (cnL qs i = cnU qs i → mV σ 317 (n0 + i) = 0 ∧ mV σ 318 (n0 + i) = 0) ∧ (¬ cnL qs i = cnU qs i → mV σ 317 (n0 + i) = ((m0 + cnL qs i : Nat) : Int) ∧ mV σ 318 (n0 + i) = ((m0 + cnU qs i : Nat) : Int))
theorem cn_sn {qs : List Nat} {q i : Nat} : cnL (qs ++ [q]) i = cnL qs i + (if q < i then 1 else 0) ∧ cnU (qs ++ [q]) i = cnU qs i + (if q ≤ i then 1 else 0) := by
  unfold cnL cnU
  rw [List.filter_append, List.filter_append, List.length_append, List.length_append]
  constructor
  · congr 1
    by_cases h : q < i
    · rw [if_pos h, List.filter_cons_of_pos (by exact decide_eq_true h)]
      rfl
    · rw [if_neg h, List.filter_cons_of_neg (by simpa using h)]
      rfl
  · congr 1
    by_cases h : q ≤ i
    · rw [if_pos h, List.filter_cons_of_pos (by exact decide_eq_true h)]
      rfl
    · rw [if_neg h, List.filter_cons_of_neg (by simpa using h)]
      rfl
theorem cn_all {qs : List Nat} {i : Nat} (h : ∀ x ∈ qs, x ≤ i) : cnU qs i = qs.length ∧ (∀ j, i < j → cnL qs j = qs.length ∧ cnU qs j = qs.length) := by
  unfold cnL cnU
  refine ⟨by rw [List.filter_eq_self.mpr (fun x hx => decide_eq_true (h x hx))], fun j hj => ⟨?_, ?_⟩⟩
  · rw [List.filter_eq_self.mpr (fun x hx => decide_eq_true (by have := h x hx; omega))]
  · rw [List.filter_eq_self.mpr (fun x hx => decide_eq_true (by have := h x hx; omega))]
theorem cn_le {qs : List Nat} {i : Nat} : cnL qs i ≤ cnU qs i ∧ cnU qs i ≤ qs.length := by
  refine ⟨?_, List.length_filter_le ..⟩
  unfold cnL cnU
  induction qs with
  | nil => exact Nat.le_refl _
  | cons x r ih =>
    by_cases h : x < i
    · rw [List.filter_cons_of_pos (by exact decide_eq_true h), List.filter_cons_of_pos (by exact decide_eq_true (by omega)), List.length_cons, List.length_cons]
      omega
    · rw [List.filter_cons_of_neg (by simpa using h)]
      by_cases h2 : x ≤ i
      · rw [List.filter_cons_of_pos (by exact decide_eq_true h2), List.length_cons]
        omega
      · rw [List.filter_cons_of_neg (by simpa using h2)]
        exact ih
section
variable {σ σ0 : MS} {Q : MQ9} {L : List Int} {X : List (Nat × Nat × Bool)} {n0 : Nat}
theorem car_3 {l1 : Int} (hok : okK L) (hu : L.length ≤ 139000) (hG : hoG σ 254 255 0 L) (hq : R_carries_29 l1 0 (foN L : Int) σ Q) : ∀ (r p : List Int), L = p ++ r → p.length + foN r = foN L → R_carries_3 l1 0 (L.length : Int) (p.length : Int) σ Q := by
  intro r
  induction r with
  | nil =>
    intro p he h
    have h2 : L.length = p.length := by rw [he, List.append_nil]
    have h3 : p.length + 0 = foN L := h
    refine R_carries_3.i ⟨by unfold Rg; omega, by unfold Rg; omega, fun _ => ?_, fun h9 => absurd h9 (by omega)⟩
    rw [show p.length = foN L by omega]
    exact hq
  | cons c r ih =>
    intro p he h
    have h2 : L.length = p.length + (r.length + 1) := by rw [he, List.length_append, List.length_cons]
    have hc : L.getD p.length 0 = c := by
      rw [he]
      unfold List.getD
      rw [List.getElem?_append_right (Nat.le_refl _), Nat.sub_self]
      rfl
    have okc := hok.gd (i := p.length) (by omega)
    refine R_carries_3.i ⟨by unfold Rg; omega, by unfold Rg; omega, fun h9 => absurd h9 (by omega), fun _ => ?_⟩
    have at9 := R_at.g (Q := kI (thQ Q) fun r1 σ1 => R_shown r1 σ1 (kI (thQ Q) fun r2 σ2 => (¬ r2 = 32 → R_carries_29 l1 0 (p.length : Int) σ2 Q) ∧ (r2 = 32 → R_carries_3 l1 0 (L.length : Int) ((p.length : Int) + 1) σ2 Q))) (i := p.length) hG (by omega) (by omega) (sh_rd okc (by
      show (¬ L.getD p.length 0 % 128 = 32 → R_carries_29 l1 0 (p.length : Int) σ Q) ∧ (L.getD p.length 0 % 128 = 32 → R_carries_3 l1 0 (L.length : Int) ((p.length : Int) + 1) σ Q)
      rw [hc]
      refine ⟨fun h9 => ?_, fun h9 => ?_⟩
      · have e : foN (c :: r) = 0 := if_neg h9
        rw [e, Nat.add_zero] at h
        rw [h]
        exact hq
      · have e : foN (c :: r) = foN r + 1 := if_pos h9
        rw [e] at h
        have := ih (p ++ [c]) (by rw [List.append_assoc]; exact he) (by rw [List.length_append]; show p.length + 1 + _ = _; omega)
        rw [List.length_append] at this
        exact this))
    rw [Nat.zero_add] at at9
    exact at9
theorem car_69 {l4 l5 : Int} {w : Nat} (hw : w < L.length) (hws : sbl (L.getD w 0) = false) (hL : L.length ≤ 139000) (hX1 : X.length ≤ 1500) (hn0 : n0 + X.length ≤ 1500) (h99 : mV σ 246 99 = ((n0 + X.length : Nat) : Int)) (hI : LbJ σ n0 0 L X) (hX0 : 1 ≤ X.length) (hq : R_carries_98 (n0 : Int) 0 l4 l5 ((n0 + lnO ((gP L w : Nat) : Int) X : Nat) : Int) σ Q) : ∀ (r a : List (Nat × Nat × Bool)), X = a ++ r → 1 ≤ r.length → a.length + lnO ((gP L w : Nat) : Int) r = lnO ((gP L w : Nat) : Int) X → R_carries_69 (n0 : Int) 0 l4 l5 (w : Int) ((n0 + a.length : Nat) : Int) σ Q := by
  intro r
  induction r with
  | nil =>
    intro a he h1
    exact absurd h1 (by decide)
  | cons x r ih =>
    intro a he _ h
    have h2 : X.length = a.length + (r.length + 1) := by rw [he, List.length_append, List.length_cons]
    have hgx : X.getD a.length (0, 0, false) = x := by
      rw [he]
      unfold List.getD
      rw [List.getElem?_append_right (Nat.le_refl _), Nat.sub_self]
      rfl
    obtain ⟨b, b1, b2, b3, b4, b5⟩ := hI a.length (by omega)
    rw [hgx] at b5
    rw [Nat.zero_add] at b4
    have cmp : b ≤ w ↔ x.2.1 ≤ gP L w := by
      refine ⟨fun h9 => ?_, fun h9 => ?_⟩
      · rw [← b5]
        exact gP_mono h9 (by omega)
      · by_cases h8 : b ≤ w
        · exact h8
        · have := gP_mono (L := L) (j := w + 1) (k := b) (by omega) b2
          have h7 := (gP_n hw hws).1
          omega
    have re : r.isEmpty = false ↔ 0 < r.length := by
      cases r with
      | nil => exact ⟨fun h => absurd h (by decide), fun h => absurd h (by decide)⟩
      | cons y r => exact ⟨fun _ => Nat.succ_pos _, fun _ => rfl⟩
    have stop : ¬ (r.isEmpty = false ∧ (x.2.1 : Int) ≤ ((gP L w : Nat) : Int)) → R_carries_98 (n0 : Int) 0 l4 l5 ((n0 + a.length : Nat) : Int) σ Q := fun h9 => by
      have e : lnO ((gP L w : Nat) : Int) (x :: r) = 0 := if_neg h9
      rw [e, Nat.add_zero] at h
      rw [h]
      exact hq
    refine R_carries_69.i ⟨by unfold Rg; omega, by rw [h99]; unfold Rg; omega, fun h9 => stop (fun h8 => ?_), fun h9 => ⟨by omega, by omega, by unfold Rg; omega, ?_⟩⟩
    · have := re.mp h8.1
      rw [h99] at h9
      omega
    · rw [Int.toNat_natCast, b4]
      rw [h99] at h9
      refine ⟨fun h8 => stop (fun h7 => by omega), fun h8 => ?_⟩
      have yes : r.isEmpty = false ∧ (x.2.1 : Int) ≤ ((gP L w : Nat) : Int) := ⟨re.mpr (by omega), by omega⟩
      have e : lnO ((gP L w : Nat) : Int) (x :: r) = lnO ((gP L w : Nat) : Int) r + 1 := if_pos yes
      rw [e] at h
      have := ih (a ++ [x]) (by rw [List.append_assoc]; exact he) (by omega) (by rw [List.length_append]; show a.length + 1 + _ = _; omega)
      rw [List.length_append] at this
      exact this
end
theorem lnO_lt {p : Int} : ∀ {X : List (Nat × Nat × Bool)}, 1 ≤ X.length → lnO p X < X.length
  | [], h => absurd h (by decide)
  | x :: r, _ => by
    show (if r.isEmpty = false ∧ (x.2.1 : Int) ≤ p then lnO p r + 1 else 0) < r.length + 1
    split
    · rename_i h
      cases r with
      | nil => exact absurd h.1 (by decide)
      | cons y r =>
        have := lnO_lt (p := p) (X := y :: r) (by rw [List.length_cons]; omega)
        omega
    · omega
theorem lnO_mo {p p' : Int} (h : p ≤ p') : ∀ {X : List (Nat × Nat × Bool)}, lnO p X ≤ lnO p' X
  | [] => Nat.le_refl _
  | x :: r => by
    have ih := lnO_mo h (X := r)
    show (if r.isEmpty = false ∧ (x.2.1 : Int) ≤ p then lnO p r + 1 else 0) ≤ (if r.isEmpty = false ∧ (x.2.1 : Int) ≤ p' then lnO p' r + 1 else 0)
    by_cases h1 : r.isEmpty = false ∧ (x.2.1 : Int) ≤ p
    · rw [if_pos h1, if_pos ⟨h1.1, by omega⟩]
      omega
    · rw [if_neg h1]
      omega
theorem wtF_sm {k : Int} {p : List (Int × Int × Int)} {y : Int × Int × Int} : wtF k (p ++ [y]) = wtF k p ++ (if y.1 = k then [y.2] else []) := by
  unfold wtF
  rw [List.filter_append, List.map_append]
  congr 1
  by_cases h : y.1 = k
  · rw [if_pos h, List.filter_cons_of_pos (by exact decide_eq_true h)]
    rfl
  · rw [if_neg h, List.filter_cons_of_neg (by simpa using h)]
    rfl
theorem wtF_ap {k : Int} {p r : List (Int × Int × Int)} : wtF k (p ++ r) = wtF k p ++ wtF k r := by
  unfold wtF
  rw [List.filter_append, List.map_append]
theorem wt_ix {k : Int} {b : Nat} {p r : List (Int × Int × Int)} {y : Int × Int × Int} {V : List Int} {P : List Int} (h : wtQ P b (wtF k (p ++ y :: r)) V) (hy : y.1 = k) : y.2.1 = ((b + (wtF k p).length : Nat) : Int) ∧ (wtF k p).length < V.length ∧ pkW P y.2.2 = V.getD (wtF k p).length 0 := by
  have e1 : wtF k (p ++ y :: r) = wtF k p ++ y.2 :: wtF k r := by
    rw [show p ++ y :: r = (p ++ [y]) ++ r by rw [List.append_assoc]; rfl, wtF_ap, wtF_sm, if_pos hy, List.append_assoc]
    rfl
  unfold wtQ at h
  rw [e1] at h
  have l1 := congrArg List.length h.2
  rw [List.length_map, List.length_append, List.length_cons] at l1
  have l2 : (wtF k p).length < V.length := by omega
  have g1 := congrArg (fun Z => Z.getD (wtF k p).length 0) h.1
  have g2 := congrArg (fun Z => Z.getD (wtF k p).length 0) h.2
  simp only [List.map_append, List.map_cons] at g1 g2
  unfold upF at g1
  unfold List.getD at g1 g2
  rw [List.getElem?_append_right (by rw [List.length_map]; exact Nat.le_refl _), List.length_map, Nat.sub_self] at g1 g2
  rw [List.getElem?_map, List.getElem?_range l2] at g1
  refine ⟨g1, l2, ?_⟩
  unfold List.getD
  exact g2
section
variable {σ σ0 : MS} {Q : MQ9} {L : List Int} {X : List (Nat × Nat × Bool)} {n0 m0 l0 k0 : Nat} {W : List (Int × Int × Int)} {m : TM}
def eff (L : List Int) (w : Int) : Int := if pkW L w = -1 then foP (pkL L) else pkW L w
theorem eff_e {w : Nat} (hw : w < L.length) (hs : sbl (L.getD w 0) = false) : eff L (w : Int) = ((gP L w : Nat) : Int) := by
  unfold eff
  rw [pkW_g hw hs, if_neg (by omega)]
theorem eff_m (h : foN L < L.length) : eff L (-1) = ((gP L (foN L) : Nat) : Int) := by
  unfold eff
  rw [pkW_m, if_pos rfl, fo_pk h]
theorem eff_mo (h : foN L < L.length) {w w' : Int} (hw : -1 ≤ w ∧ w < L.length) (hw2 : -1 ≤ w' ∧ w' < L.length) (hs : 0 ≤ w → ¬ L.getD w.toNat 0 % 128 = 32) (hs2 : 0 ≤ w' → ¬ L.getD w'.toNat 0 % 128 = 32) (hp : pkW L w ≤ pkW L w') : eff L w ≤ eff L w' := by
  have key : ∀ v : Int, 0 ≤ v → v < L.length → ¬ L.getD v.toNat 0 % 128 = 32 → pkW L v = ((gP L v.toNat : Nat) : Int) ∧ eff L v = ((gP L v.toNat : Nat) : Int) ∧ gP L (foN L) ≤ gP L v.toNat := fun v h0 h1 h2 => by
    have e : v = ((v.toNat : Nat) : Int) := by omega
    have p1 := pkW_g (L := L) (w := v.toNat) (by omega) (sbl_n h2)
    have p2 := eff_e (L := L) (w := v.toNat) (by omega) (sbl_n h2)
    rw [← e] at p1 p2
    refine ⟨p1, p2, gP_mono ?_ (by omega)⟩
    by_cases h9 : foN L ≤ v.toNat
    · exact h9
    · exact absurd ((foN_at (U := L)).1 v.toNat (by omega)) h2
  by_cases a1 : 0 ≤ w
  · have k1 := key w a1 hw.2 (hs a1)
    by_cases a2 : 0 ≤ w'
    · have k2 := key w' a2 hw2.2 (hs2 a2)
      omega
    · rw [show w' = -1 by omega, pkW_m] at hp
      omega
  · rw [show w = -1 by omega, eff_m h]
    by_cases a2 : 0 ≤ w'
    · have k2 := key w' a2 hw2.2 (hs2 a2)
      omega
    · rw [show w' = -1 by omega, eff_m h]
      exact Int.le_refl _
/-- the marks so far -/
def CwR (σ0 σ : MS) (L : List Int) (X : List (Nat × Nat × Bool)) (n0 m0 l0 k0 : Nat) (p : List (Int × Int × Int)) : Prop := (FrZ [284, 297, 317, 318] [] σ0 σ ∧ (∀ j, j < l0 → mV σ 284 j = mV σ0 284 j) ∧ (∀ j, j < k0 → mV σ 297 j = mV σ0 297 j) ∧ ∀ z j, z = 317 ∨ z = 318 → j < n0 → mV σ z j = mV σ0 z j) ∧ (∀ x ∈ p, x.1 = 1 → mV σ 284 x.2.1.toNat = ((n0 + lnO (eff L x.2.2) X : Nat) : Int)) ∧ (∀ x ∈ p, x.1 = 2 → mV σ 297 x.2.1.toNat = ((n0 + lnO (eff L x.2.2) X : Nat) : Int)) ∧ NlR σ n0 m0 X.length ((wtF 0 p).map (fun x => lnO (eff L x.2) X))
theorem car_32 (hok : okK L) (hL : L.length ≤ 139000) (hX1 : 1 ≤ X.length) (hn0 : n0 + X.length ≤ 1500) (h99 : mV σ0 246 99 = ((n0 + X.length : Nat) : Int)) (hI : LbI σ0 n0 0 L X) (hfo : W = [] ∨ foN L < L.length) (h94 : mV σ0 246 94 = (W.length : Int)) (hWc : ∀ i, i < W.length → mV σ0 305 i = (W.getD i (0, 0, 0)).1 ∧ mV σ0 306 i = (W.getD i (0, 0, 0)).2.1 ∧ mV σ0 307 i = (W.getD i (0, 0, 0)).2.2) (hWP : WtP m0 l0 k0 L m W) (hW3 : W.length ≤ 300) (hb1 : m.2.1.2.2.length ≤ 60) (hb2 : m.2.2.1.2.length ≤ 100) (hm0 : m0 + m.2.2.2.1.2.1.length ≤ 1000) (hso : ∀ i j, i < j → j < m.2.2.2.1.2.1.length → m.2.2.2.1.2.1.getD i 0 ≤ m.2.2.2.1.2.1.getD j 0) (hq : ∀ σ', CwR σ0 σ' L X n0 m0 l0 k0 W → Q (.inl none) σ') : ∀ (r p : List (Int × Int × Int)) (σ : MS), W = p ++ r → CwR σ0 σ L X n0 m0 l0 k0 p → R_carries_32 (n0 : Int) 0 (foN L : Int) (p.length : Int) σ Q := by
  obtain ⟨w0, ⟨w1a, w1⟩, ⟨w2a, w2⟩, w3, w4⟩ := hWP
  intro r
  induction r with
  | nil =>
    intro p σ he hC
    have h94s := (hC.1.1.f (k := 94) (by decide) (by decide)).trans h94
    have hl : W.length = p.length := by rw [he, List.append_nil]
    rw [List.append_nil] at he
    refine R_carries_32.i ⟨by unfold Rg; omega, fun _ => hq σ (by rw [he]; exact hC), fun h9 => absurd h9 (by omega)⟩
  | cons y r ih =>
    intro p σ he hC
    have h94s := (hC.1.1.f (k := 94) (by decide) (by decide)).trans h94
    have hl : W.length = p.length + (r.length + 1) := by rw [he, List.length_append, List.length_cons]
    have hgy : W.getD p.length (0, 0, 0) = y := by
      rw [he]
      unfold List.getD
      rw [List.getElem?_append_right (Nat.le_refl _), Nat.sub_self]
      rfl
    have hc := hWc p.length (by omega)
    rw [hgy] at hc
    have c5 : mV σ 305 p.length = y.1 := (hC.1.1.z (by decide) (by decide)).trans hc.1
    have c6 : mV σ 306 p.length = y.2.1 := (hC.1.1.z (by decide) (by decide)).trans hc.2.1
    have c7 : mV σ 307 p.length = y.2.2 := (hC.1.1.z (by decide) (by decide)).trans hc.2.2
    have hym : y ∈ W := by rw [he]; exact List.mem_append_right _ List.mem_cons_self
    have y4 := w4 y hym
    have hfo2 : foN L < L.length := hfo.resolve_left (fun h => by rw [h] at hym; exact absurd hym List.not_mem_nil)
    have hpx : ∀ x ∈ p, x ∈ W := fun x hx => by rw [he]; exact List.mem_append_left _ hx
    have h99s : mV σ 246 99 = ((n0 + X.length : Nat) : Int) := (hC.1.1.f (by decide) (by decide)).trans h99
    have lt := lnO_lt (p := eff L y.2.2) hX1
    have wix : ∀ {k : Int} {b : Nat} {V : List Int}, wtQ L b (wtF k W) V → (y.1 = k → y.2.1 = ((b + (wtF k p).length : Nat) : Int) ∧ (wtF k p).length < V.length ∧ pkW L y.2.2 = V.getD (wtF k p).length 0) ∧ (∀ x ∈ p, x.1 = k → ∃ i, x.2.1 = ((b + i : Nat) : Int) ∧ i < (wtF k p).length ∧ i < V.length ∧ pkW L x.2.2 = V.getD i 0) := fun {k b V} hw => by
      rw [he] at hw
      refine ⟨fun h => wt_ix hw h, fun x hx hk => ?_⟩
      obtain ⟨p1, p2, e⟩ := List.append_of_mem hx
      rw [e, List.append_assoc] at hw
      have := wt_ix (p := p1) (r := p2 ++ y :: r) (y := x) hw hk
      refine ⟨(wtF k p1).length, this.1, ?_, this.2.1, this.2.2⟩
      rw [e, show p1 ++ x :: p2 = (p1 ++ [x]) ++ p2 by rw [List.append_assoc]; rfl, wtF_ap, wtF_sm, if_pos hk, List.length_append, List.length_append]
      show _ < _ + 1 + _
      omega
    have next : ∀ σ', CwR σ0 σ' L X n0 m0 l0 k0 (p ++ [y]) → R_carries_193 (n0 : Int) 0 (foN L : Int) (p.length : Int) σ' Q := fun σ' h => by
      refine R_carries_193.i ?_
      have := ih (p ++ [y]) σ' (by rw [List.append_assoc]; exact he) h
      rw [List.length_append] at this
      exact this
    have key : R_carries_98 (n0 : Int) 0 (foN L : Int) (p.length : Int) ((n0 + lnO (eff L y.2.2) X : Nat) : Int) σ Q := by
      refine R_carries_98.i ⟨by omega, by omega, ?_⟩
      rw [Int.toNat_natCast, Int.toNat_natCast, c5, c6]
      refine ⟨fun h9 => ⟨by omega, by omega, fun h8 => ?_, fun h8 => ?_⟩, fun h9 => ?_⟩
      · have hy2 : y.1 = 2 := by
          rcases y4.1 with h | h | h
          · exact absurd h h9
          · exact absurd h h8
          · exact h
        have hi := (wix w2).1 hy2
        have hlk : (m.2.2.1.2.drop k0).length = m.2.2.1.2.length - k0 := List.length_drop ..
        refine ⟨by omega, by omega, by omega, by omega, by unfold Rg; omega, next _ ⟨⟨hC.1.1.tr (FrZ.wz (by decide)), fun j hj => ?_, fun j hj => ?_, fun z j hz hj => ?_⟩, fun x hx hk => ?_, fun x hx hk => ?_, ?_⟩⟩
        · rw [wV_ne (Or.inl (by decide))]
          exact hC.1.2.1 j hj
        · rw [wV_ne (Or.inr (by omega))]
          exact hC.1.2.2.1 j hj
        · rw [wV_ne (Or.inl (by omega))]
          exact hC.1.2.2.2 z j hz hj
        · rw [wV_ne (Or.inl (by decide))]
          rcases List.mem_append.mp hx with hx | hx
          · exact hC.2.1 x hx hk
          · rw [List.mem_singleton.mp hx] at hk
            omega
        · rcases List.mem_append.mp hx with hx | hx
          · obtain ⟨i, i1, i2, -⟩ := (wix w2).2 x hx hk
            rw [wV_ne (Or.inr (by omega))]
            exact hC.2.2.1 x hx hk
          · rw [List.mem_singleton.mp hx, wV_self]
        · rw [wtF_sm, if_neg (by omega), List.append_nil]
          intro i hi
          have := hC.2.2.2 i hi
          rw [wV_ne (Or.inl (by decide)), wV_ne (Or.inl (by decide))]
          exact this
      · have hi := (wix w1).1 h8
        have hlk : (m.2.1.2.2.drop l0).length = m.2.1.2.2.length - l0 := List.length_drop ..
        refine ⟨by omega, by omega, by omega, by omega, by unfold Rg; omega, next _ ⟨⟨hC.1.1.tr (FrZ.wz (by decide)), fun j hj => ?_, fun j hj => ?_, fun z j hz hj => ?_⟩, fun x hx hk => ?_, fun x hx hk => ?_, ?_⟩⟩
        · rw [wV_ne (Or.inr (by omega))]
          exact hC.1.2.1 j hj
        · rw [wV_ne (Or.inl (by decide))]
          exact hC.1.2.2.1 j hj
        · rw [wV_ne (Or.inl (by omega))]
          exact hC.1.2.2.2 z j hz hj
        · rcases List.mem_append.mp hx with hx | hx
          · obtain ⟨i, i1, i2, -⟩ := (wix w1).2 x hx hk
            rw [wV_ne (Or.inr (by omega))]
            exact hC.2.1 x hx hk
          · rw [List.mem_singleton.mp hx, wV_self]
        · rw [wV_ne (Or.inl (by decide))]
          rcases List.mem_append.mp hx with hx | hx
          · exact hC.2.2.1 x hx hk
          · rw [List.mem_singleton.mp hx] at hk
            omega
        · rw [wtF_sm, if_neg (by omega), List.append_nil]
          intro i hi
          have := hC.2.2.2 i hi
          rw [wV_ne (Or.inl (by decide)), wV_ne (Or.inl (by decide))]
          exact this
      · have hi := (wix w0).1 h9
        have le : ∀ x ∈ (wtF 0 p).map (fun x => lnO (eff L x.2) X), x ≤ lnO (eff L y.2.2) X := fun x hx => by
          obtain ⟨v, hv, e⟩ := List.mem_map.mp hx
          obtain ⟨v2, hv2, e2⟩ := List.mem_map.mp hv
          have hv3 := List.mem_filter.mp hv2
          have hk : v2.1 = 0 := of_decide_eq_true hv3.2
          obtain ⟨i, i1, i2, i3, i4⟩ := (wix w0).2 v2 hv3.1 hk
          have v4 := w4 v2 (hpx _ hv3.1)
          rw [← e, ← e2]
          refine lnO_mo (eff_mo hfo2 v4.2.1 y4.2.1 v4.2.2 y4.2.2 ?_)
          rw [i4, hi.2.2]
          exact hso i _ i2 hi.2.1
        have ca := cn_all le
        have lq : ((wtF 0 p).map (fun x => lnO (eff L x.2) X)).length = (wtF 0 p).length := List.length_map ..
        have nl := hC.2.2.2 (lnO (eff L y.2.2) X) lt
        have cl := cn_le (qs := (wtF 0 p).map (fun x => lnO (eff L x.2) X)) (i := lnO (eff L y.2.2) X)
        have fin : ∀ σ1, FrZ [317] [] σ σ1 → (∀ j, ¬ j = n0 + lnO (eff L y.2.2) X → mV σ1 317 j = mV σ 317 j) → mV σ1 317 (n0 + lnO (eff L y.2.2) X) = ((m0 + cnL ((wtF 0 p).map (fun x => lnO (eff L x.2) X)) (lnO (eff L y.2.2) X) : Nat) : Int) → R_carries_132 (n0 : Int) 0 (foN L : Int) (p.length : Int) ((n0 + lnO (eff L y.2.2) X : Nat) : Int) σ1 Q := fun σ1 f1 o1 v1 => by
          refine R_carries_132.i ?_
          rw [Int.toNat_natCast, Int.toNat_natCast, f1.z (z := 306) (by decide) (by decide), c6]
          refine ⟨by omega, by omega, by omega, by omega, by unfold Rg; omega, next _ ⟨⟨hC.1.1.tr ((f1.mo (fun x hx => by rw [List.mem_singleton.mp hx]; decide) (fun x hx => hx)).tr (FrZ.wz (by decide))), fun j hj => ?_, fun j hj => ?_, fun z j hz hj => ?_⟩, fun x hx hk => ?_, fun x hx hk => ?_, ?_⟩⟩
          · rw [wV_ne (Or.inl (by decide)), f1.z (by decide) (by decide)]
            exact hC.1.2.1 j hj
          · rw [wV_ne (Or.inl (by decide)), f1.z (by decide) (by decide)]
            exact hC.1.2.2.1 j hj
          · rcases hz with hz | hz
            · rw [hz, wV_ne (Or.inl (by decide)), o1 j (by omega)]
              exact hC.1.2.2.2 317 j (Or.inl rfl) hj
            · rw [hz, wV_ne (Or.inr (by omega)), f1.z (by decide) (by decide)]
              exact hC.1.2.2.2 318 j (Or.inr rfl) hj
          · rw [wV_ne (Or.inl (by decide)), f1.z (by decide) (by decide)]
            rcases List.mem_append.mp hx with hx | hx
            · exact hC.2.1 x hx hk
            · rw [List.mem_singleton.mp hx] at hk
              omega
          · rw [wV_ne (Or.inl (by decide)), f1.z (by decide) (by decide)]
            rcases List.mem_append.mp hx with hx | hx
            · exact hC.2.2.1 x hx hk
            · rw [List.mem_singleton.mp hx] at hk
              omega
          · rw [wtF_sm, if_pos h9, List.map_append]
            intro i hiX
            have cs := cn_sn (qs := (wtF 0 p).map (fun x => lnO (eff L x.2) X)) (q := lnO (eff L y.2.2) X) (i := i)
            show (cnL (_ ++ [lnO (eff L y.2.2) X]) i = cnU (_ ++ [lnO (eff L y.2.2) X]) i → _) ∧ (¬ cnL (_ ++ [lnO (eff L y.2.2) X]) i = cnU (_ ++ [lnO (eff L y.2.2) X]) i → mV _ 317 (n0 + i) = ((m0 + cnL (_ ++ [lnO (eff L y.2.2) X]) i : Nat) : Int) ∧ mV _ 318 (n0 + i) = ((m0 + cnU (_ ++ [lnO (eff L y.2.2) X]) i : Nat) : Int))
            rw [cs.1, cs.2]
            have old := hC.2.2.2 i hiX
            by_cases hiq : i = lnO (eff L y.2.2) X
            · rw [if_neg (by omega), if_pos (by omega), hiq]
              refine ⟨fun h => by omega, fun _ => ⟨?_, ?_⟩⟩
              · rw [wV_ne (Or.inl (by decide)), v1, Nat.add_zero]
              · rw [wV_self, hi.1, ca.1, lq]
                omega
            · have v7 : mV (wV σ1 318 (n0 + lnO (eff L y.2.2) X) (y.2.1 + 1)) 317 (n0 + i) = mV σ 317 (n0 + i) := by
                rw [wV_ne (Or.inl (by decide)), o1 _ (by omega)]
              have v8 : mV (wV σ1 318 (n0 + lnO (eff L y.2.2) X) (y.2.1 + 1)) 318 (n0 + i) = mV σ 318 (n0 + i) := by
                rw [wV_ne (Or.inr (by omega)), f1.z (by decide) (by decide)]
              rw [v7, v8]
              by_cases hlt : lnO (eff L y.2.2) X < i
              · have c2 := ca.2 i hlt
                rw [if_pos hlt, if_pos (by omega)]
                refine ⟨fun _ => old.1 (by omega), fun h => by omega⟩
              · rw [if_neg hlt, if_neg (by omega), Nat.add_zero, Nat.add_zero]
                exact old
        refine ⟨by omega, by omega, fun h8 => ?_, fun h8 => ⟨by omega, by omega, by omega, by omega, ?_⟩⟩
        · refine fin σ FrZ.rf (fun _ _ => rfl) ?_
          have hne : ¬ cnL ((wtF 0 p).map (fun x => lnO (eff L x.2) X)) (lnO (eff L y.2.2) X) = cnU ((wtF 0 p).map (fun x => lnO (eff L x.2) X)) (lnO (eff L y.2.2) X) := fun h => h8 (nl.1 h).2
          exact (nl.2 hne).1
        · have heq : cnL ((wtF 0 p).map (fun x => lnO (eff L x.2) X)) (lnO (eff L y.2.2) X) = cnU ((wtF 0 p).map (fun x => lnO (eff L x.2) X)) (lnO (eff L y.2.2) X) := by
            by_cases h : cnL ((wtF 0 p).map (fun x => lnO (eff L x.2) X)) (lnO (eff L y.2.2) X) = cnU ((wtF 0 p).map (fun x => lnO (eff L x.2) X)) (lnO (eff L y.2.2) X)
            · exact h
            · have := (nl.2 h).2
              omega
          refine fin _ (FrZ.wz (by decide)) (fun j hj => wV_ne (Or.inr (by omega))) ?_
          rw [wV_self, hi.1, heq, ca.1, lq]
    have hIs : LbJ σ n0 0 L X := fun i hi => by
      obtain ⟨b, b1, b2, b3, b4, b5⟩ := (hI i hi).1
      exact ⟨b, b1, b2, b3, (hC.1.1.z (by decide) (by decide)).trans b4, b5⟩
    have hI2 : ∀ w : Nat, w < L.length → sbl (L.getD w 0) = false → eff L y.2.2 = ((gP L w : Nat) : Int) → R_carries_69 (n0 : Int) 0 (foN L : Int) (p.length : Int) (w : Int) (n0 : Int) σ Q := fun w hw hws hew => by
      rw [hew] at key
      exact car_69 hw hws hL (by omega) hn0 h99s hIs hX1 key X [] rfl hX1 (Nat.zero_add _)
    refine R_carries_32.i ⟨by unfold Rg; omega, fun h9 => absurd h9 (by omega), fun _ => ⟨by omega, by omega, by decide, ?_⟩⟩
    rw [Int.toNat_natCast, c7]
    refine ⟨fun h9 => ⟨by omega, by omega, R_carries_64.i ?_⟩, fun h9 => R_carries_64.i ?_⟩
    · have hs := y4.2.2 h9
      have := hI2 y.2.2.toNat (by omega) (sbl_n hs) (by
        have := eff_e (L := L) (w := y.2.2.toNat) (by omega) (sbl_n hs)
        rw [show ((y.2.2.toNat : Nat) : Int) = y.2.2 by omega] at this
        exact this)
      rw [show ((y.2.2.toNat : Nat) : Int) = y.2.2 by omega] at this
      exact this
    · exact hI2 (foN L) hfo2 (sbl_n ((foN_at (U := L)).2 hfo2)) (by
        rw [show y.2.2 = -1 by omega]
        exact eff_m hfo2)
end

