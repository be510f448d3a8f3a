/-! LINES ARE FILLED, way 0: one line, the reference -/
/-- the place behind the last sign -/
def EnD (L : List Int) (en : Nat) : Prop := en ≤ L.length ∧ (en = 0 ∨ sbl (L.getD (en - 1) 0) = false) ∧ ∀ j, en ≤ j → j < L.length → sbl (L.getD j 0) = true
theorem EnD.len {L : List Int} {en : Nat} (h : EnD L en) : (pkL L).length = gP L en := by
  rw [gP_end h.1 h.2.2]
  rcases h.2.1 with h9 | h9
  · rw [h9]
    rfl
  · by_cases h8 : en = 0
    · rw [h8]
      rfl
    · exact (gP_fn (by omega) h.1 h9).1.symm
/-- a line from a ends at b; nx begins the next one -/
def FiR (L : List Int) (en a b nx s : Nat) : Prop := (a < b ∧ b ≤ nx ∧ nx ≤ en) ∧ gP L b = s ∧ gP L nx = nxA (pkL L) s ∧ sbl (L.getD (b - 1) 0) = false ∧ (nx = en ∨ sbl (L.getD nx 0) = false) ∧ ∀ j, b ≤ j → j < nx → sbl (L.getD j 0) = true
theorem gP_le {L : List Int} : ∀ {k : Nat}, k ≤ L.length → gP L k ≤ k
  | 0, _ => Nat.le_of_eq rfl
  | k + 1, h => by
    have h1 := gP_le (L := L) (k := k) (by omega)
    have h2 := gP_s1 (L := L) (k := k) (by omega)
    omega
section
variable {σ σ0 : MS} {Q : MQ9} {u en : Nat} {L : List Int} {H : HY9}
theorem R_wordEnd.p (hok : okK L) (hu : u + L.length ≤ 139000) (hG : hoG σ 254 255 u L) (he : en ≤ L.length) {k : Nat} (hk : k < en) (hb : sbl (L.getD k 0) = false) (hq : ∀ e, k < e → e ≤ en → (∀ j, k ≤ j → j < e → sbl (L.getD j 0) = false) → (e = en ∨ sbl (L.getD e 0) = true) → Q (.inl (some ((u + e : Nat) : Int))) σ) : R_wordEnd ((u + k : Nat) : Int) ((u + en : Nat) : Int) σ Q := by
  have key : ∀ (n e : Nat), e + n = en → k ≤ e → (∀ j, k ≤ j → j < e → sbl (L.getD j 0) = false) → R_wordEnd_2 ((u + en : Nat) : Int) ((u + e : Nat) : Int) σ Q := by
    intro n
    induction n with
    | zero =>
      intro e h1 h2 h3
      exact R_wordEnd_2.i ⟨by unfold Rg; omega, by unfold Rg; omega, fun _ => ⟨by unfold Rg; omega, hq e (by omega) (by omega) h3 (Or.inl (by omega))⟩, fun h9 => absurd h9 (by omega)⟩
    | succ n ih =>
      intro e h1 h2 h3
      have hel : e < L.length := by omega
      have okc := hok.gd hel
      refine R_wordEnd_2.i ⟨by unfold Rg; omega, by unfold Rg; omega, fun h9 => absurd h9 (by omega), fun _ => R_at.g hG hu hel ⟨fun h9 => ⟨by unfold Rg; omega, ?_⟩, fun h9 => ?_⟩⟩
      · have hs := (rd_32 okc).mp h9
        refine hq e ?_ (by omega) h3 (Or.inr hs)
        by_cases e9 : k = e
        · rw [← e9, hb] at hs
          exact absurd hs (by decide)
        · omega
      · rw [show ((u + e : Nat) : Int) + 1 = ((u + (e + 1) : Nat) : Int) by omega]
        refine ih (e + 1) (by omega) (by omega) (fun j x y => ?_)
        by_cases hj : j = e
        · rw [hj, ← Bool.not_eq_true]
          exact fun h => h9 ((rd_32 okc).mpr h)
        · exact h3 j x (by omega)
  exact R_wordEnd.i (key (en - k) k (by omega) (Nat.le_refl _) (fun j x y => by omega))
theorem R_behindBlanks.p (hok : okK L) (hu : u + L.length ≤ 139000) (hG : hoG σ 254 255 u L) (he : en ≤ L.length) {k : Nat} (hk : k ≤ en) (hq : ∀ e, k ≤ e → e ≤ en → (∀ j, k ≤ j → j < e → sbl (L.getD j 0) = true) → (e = en ∨ sbl (L.getD e 0) = false) → Q (.inl (some ((u + e : Nat) : Int))) σ) : R_behindBlanks ((u + k : Nat) : Int) ((u + en : Nat) : Int) σ Q := by
  have key : ∀ (n e : Nat), e + n = en → k ≤ e → (∀ j, k ≤ j → j < e → sbl (L.getD j 0) = true) → R_behindBlanks_2 ((u + en : Nat) : Int) ((u + e : Nat) : Int) σ Q := by
    intro n
    induction n with
    | zero =>
      intro e h1 h2 h3
      exact R_behindBlanks_2.i ⟨by unfold Rg; omega, by unfold Rg; omega, fun _ => ⟨by unfold Rg; omega, hq e (by omega) (by omega) h3 (Or.inl (by omega))⟩, fun h9 => absurd h9 (by omega)⟩
    | succ n ih =>
      intro e h1 h2 h3
      have hel : e < L.length := by omega
      have okc := hok.gd hel
      refine R_behindBlanks_2.i ⟨by unfold Rg; omega, by unfold Rg; omega, fun h9 => absurd h9 (by omega), fun _ => R_at.g hG hu hel ⟨fun h9 => ⟨by unfold Rg; omega, ?_⟩, fun h9 => ?_⟩⟩
      · refine hq e (by omega) (by omega) h3 (Or.inr ?_)
        rw [← Bool.not_eq_true]
        exact fun h => h9 ((rd_32 okc).mpr h)
      · have hs := (rd_32 okc).mp h9
        rw [show ((u + e : Nat) : Int) + 1 = ((u + (e + 1) : Nat) : Int) by omega]
        refine ih (e + 1) (by omega) (by omega) (fun j x y => ?_)
        by_cases hj : j = e
        · rw [hj]
          exact hs
        · exact h3 j x (by omega)
  exact R_behindBlanks.i (key (en - k) k (by omega) (Nat.le_refl _) (fun j x y => by omega))
/-- no end within a word that doesn't fit, but points -/
theorem fi_word {a k e R t : Nat} (hel : e ≤ L.length) (hnb : ∀ j, k ≤ j → j < e → sbl (L.getD j 0) = false) (hgt : gP L a + R < gP L e) (ho : okZ H (pkL L) (gP L a) R t = true) (hkt : gP L k < t) : ∃ j, k < j ∧ j < e ∧ gP L j = t ∧ (ptD H (pkL L) t = 1 ∨ (ptD H (pkL L) t = 2 ∧ t + 1 ≤ gP L a + R)) := by
  have hb := okZ_b ho
  have hke : k ≤ e := by
    by_cases h : k ≤ e
    · exact h
    · have := gP_mono (L := L) (j := e) (k := min k L.length) (by omega) (by omega)
      exact absurd hkt (by
        by_cases hk : k ≤ L.length
        · have := gP_mono (L := L) (j := e) (k := k) (by omega) hk
          omega
        · have e1 : L.take k = L := List.take_of_length_le (by omega)
          have e2 : gP L k = gP L L.length := by
            unfold gP
            rw [e1, List.take_length]
          have := gP_mono (L := L) (j := e) (k := L.length) hel (Nat.le_refl _)
          omega)
  have hs : ∀ j, k ≤ j → j ≤ e → gP L j = gP L k + (j - k) := fun j x y => by
    have := gP_add (L := L) (a := k) (n := j - k) (by omega) (fun i x2 y2 => hnb i x2 (by omega))
    rw [show k + (j - k) = j by omega] at this
    exact this
  have he := hs e hke (Nat.le_refl _)
  have hj := hs (k + (t - gP L k)) (by omega) (by omega)
  have hjt : gP L (k + (t - gP L k)) = t := by omega
  have hjn := hnb (k + (t - gP L k)) (by omega) (by omega)
  have hat := gP_at (L := L) (k := k + (t - gP L k)) (by omega) hjn
  rw [hjt] at hat
  have h8 := okZ_i.mp ho
  have n32 : ¬ (pkL L).getD t 0 = 32 := fun h => by
    rw [← hat.1, h] at hjn
    exact absurd hjn (by decide)
  exact ⟨k + (t - gP L k), by omega, by omega, hjt, by omega⟩
theorem fil_95 (hok : okK L) (hu : u + L.length ≤ 139000) (hpt : ∀ j, j < en → sbl (L.getD j 0) = false → mV σ 256 (u + j) = ptD H (pkL L) (gP L j)) {a k e R : Nat} {us gap : Int} (hel : e ≤ en) (hen : en ≤ L.length) (hke : k < e) (hnb : ∀ j, k ≤ j → j < e → sbl (L.getD j 0) = false) (hus : us + gap + ((gP L a : Nat) : Int) = ((gP L k : Nat) : Int)) (hug : 0 ≤ us ∧ us ≤ 100000) (hg1 : 0 ≤ gap ∧ gap ≤ 1) (hR : R ≤ 100000) (hq : ∀ q, k ≤ q → q < e → (∀ j, q < j → j < e → ¬ (ptD H (pkL L) (gP L j) = 1 ∧ gP L j ≤ gP L a + R) ∧ ¬ (ptD H (pkL L) (gP L j) = 2 ∧ gP L j + 1 ≤ gP L a + R)) → (q = k ∨ ((ptD H (pkL L) (gP L q) = 1 ∧ gP L q ≤ gP L a + R) ∨ (ptD H (pkL L) (gP L q) = 2 ∧ gP L q + 1 ≤ gP L a + R))) → R_fills_150 (R : Int) ((u + k : Nat) : Int) us ((u + q : Nat) : Int) σ Q) : ∀ (n q : Nat), q = k + n → q < e → (∀ j, q < j → j < e → ¬ (ptD H (pkL L) (gP L j) = 1 ∧ gP L j ≤ gP L a + R) ∧ ¬ (ptD H (pkL L) (gP L j) = 2 ∧ gP L j + 1 ≤ gP L a + R)) → R_fills_95 (R : Int) ((u + k : Nat) : Int) us gap ((u + q : Nat) : Int) σ Q := by
  intro n
  induction n with
  | zero =>
    intro q hqn hqe hno
    exact R_fills_95.i ⟨by unfold Rg; omega, by unfold Rg; omega, fun _ => hq q (by omega) hqe hno (Or.inl (by omega)), fun h9 => absurd h9 (by omega)⟩
  | succ n ih =>
    intro q hqn hqe hno
    have hp := hpt q (by omega) (hnb q (by omega) hqe)
    have hv := pt_v (H := H) (U := pkL L) (k := gP L q)
    have hgq : gP L q = gP L k + (q - k) := by
      have := gP_add (L := L) (a := k) (n := q - k) (by omega) (fun i x2 y2 => hnb i x2 (by omega))
      rw [show k + (q - k) = q by omega] at this
      exact this
    have no : ¬ ((ptD H (pkL L) (gP L q) = 1 ∧ gP L q ≤ gP L a + R) ∨ (ptD H (pkL L) (gP L q) = 2 ∧ gP L q + 1 ≤ gP L a + R)) → R_fills_144 (R : Int) ((u + k : Nat) : Int) us gap ((u + q : Nat) : Int) σ Q := fun h => by
      refine R_fills_144.i ?_
      rw [show ((u + q : Nat) : Int) + (-1) = ((u + (q - 1) : Nat) : Int) by omega]
      refine ih (q - 1) (by omega) (by omega) (fun j x y => ?_)
      by_cases e9 : j = q
      · rw [e9]
        exact ⟨fun h9 => h (Or.inl h9), fun h9 => h (Or.inr h9)⟩
      · exact hno j (by omega) y
    have yes : ((ptD H (pkL L) (gP L q) = 1 ∧ gP L q ≤ gP L a + R) ∨ (ptD H (pkL L) (gP L q) = 2 ∧ gP L q + 1 ≤ gP L a + R)) → R_fills_150 (R : Int) ((u + k : Nat) : Int) us ((u + q : Nat) : Int) σ Q := fun h => hq q (by omega) hqe hno (Or.inr h)
    refine R_fills_95.i ⟨by unfold Rg; omega, by unfold Rg; omega, fun h9 => absurd h9 (by omega), fun _ => ⟨by omega, by omega, ?_⟩⟩
    rw [Int.toNat_natCast, hp]
    refine ⟨fun h9 => no (by omega), fun h9 => ⟨by omega, by omega, fun h8 => ?_, fun h8 => ?_⟩⟩
    · exact R_fills_139.i ⟨by unfold Rg; omega, by unfold Rg; omega, fun h7 => yes (by omega), fun h7 => no (by omega)⟩
    · exact R_fills_139.i ⟨by unfold Rg; omega, by unfold Rg; omega, fun h7 => yes (by omega), fun h7 => no (by omega)⟩
theorem fi_st (hE : EnD L en) {a k e R : Nat} (hae : a < e) (hek : e < k) (hk : k < en) (hkb : sbl (L.getD k 0) = false) (h3 : sbl (L.getD (e - 1) 0) = false) (h4 : ∀ j, e ≤ j → j < k → sbl (L.getD j 0) = true) : gP L k = gP L e + 1 ∧ gP L a < gP L e ∧ (pkL L).getD (gP L e) 0 = 32 ∧ (pkL L).getD (gP L k) 0 = L.getD k 0 ∧ gP L k < (pkL L).length := by
  have hl := hE.1
  have h1 := gP_bs (L := L) (e := e) (n := k - e - 1) (by omega) h3 (by omega) (fun j x y => h4 j x (by omega))
  rw [show e + (k - e - 1) + 1 = k by omega] at h1
  have h2 := gP_fn (L := L) (k := e) (by omega) (by omega) h3
  have h5 := gP_mono (L := L) (j := a) (k := e - 1) (by omega) (by omega)
  have h6 := gP_at (L := L) (k := k) (by omega) hkb
  have h7 := gP_32 (L := L) (k := k) (by omega) (by omega) hkb (h4 (k - 1) (by omega) (by omega))
  refine ⟨h1, by omega, ?_, h6.1, h6.2⟩
  rcases h7 with h7 | h7
  · omega
  · have := h7.2
    rw [show gP L k - 1 = gP L e by omega] at this
    exact this
/-- words so far end at e -/
def FiE (L : List Int) (en a R u k : Nat) (us : Int) (σ : MS) : Prop := ∃ e, a < e ∧ e ≤ k ∧ (e = k → k = en) ∧ sbl (L.getD (e - 1) 0) = false ∧ (∀ j, e ≤ j → j < k → sbl (L.getD j 0) = true) ∧ us = ((gP L e : Nat) : Int) - ((gP L a : Nat) : Int) ∧ gP L e ≤ gP L a + R ∧ mV σ 246 146 = ((u + e : Nat) : Int)
theorem fil_en (hu : u + L.length ≤ 139000) (hE : EnD L en) {a R : Nat} (ha : a < en) (hq : ∀ b nx σ', FrZ [] [146, 147, 148] σ0 σ' → mV σ' 246 146 = ((u + b : Nat) : Int) → mV σ' 246 147 = ((u + nx : Nat) : Int) → mV σ' 246 148 = bZ (fiP H (pkL L) (gP L a) R) → FiR L en a b nx (fiS H (pkL L) (gP L a) R) → Q (.inl none) σ') {us : Int} (hf : FrZ [] [146, 147, 148] σ0 σ) (h148 : mV σ 246 148 = 0) (hst : FiE L en a R u en us σ) : R_fills_212 ((u + en : Nat) : Int) σ Q := by
  obtain ⟨e, hae, hek, -, h3, h4, h5, h6, h7⟩ := hst
  have hl := hE.1
  have he : e = en := by
    by_cases h : e = en
    · exact h
    · have h9 := h4 (en - 1) (by omega) (by omega)
      rcases hE.2.1 with h8 | h8
      · omega
      · rw [h8] at h9
        exact absurd h9 (by decide)
  rw [he] at hae h3 h6 h7
  have hlen := hE.len
  have h2 := gP_fn (L := L) (k := en) (by omega) (by omega) h3
  have h5 := gP_mono (L := L) (j := a) (k := en - 1) (by omega) (by omega)
  have hs : fiS H (pkL L) (gP L a) R = gP L en := fi_eq (okZ_i.mpr ⟨by omega, by omega, Or.inl ⟨Or.inl hlen.symm, h6⟩⟩) (fun t ht => by
    rw [← Bool.not_eq_true]
    intro h9
    have := okZ_b h9
    omega)
  refine R_fills_212.i ⟨by unfold Rg; omega, hq en en _ (hf.tr (FrZ.wf (by decide))) ?_ wV_self ?_ ?_⟩
  · rw [wV_ne (Or.inr (by decide))]
    exact h7
  · rw [wV_ne (Or.inr (by decide)), h148]
    unfold fiP
    rw [hs, pt_e (by omega)]
    rfl
  · refine ⟨⟨by omega, Nat.le_refl _, Nat.le_refl _⟩, hs.symm, ?_, h3, Or.inl rfl, fun j x y => by omega⟩
    rw [hs]
    unfold nxA
    rw [if_neg]
    rw [← hlen]
    unfold List.getD
    rw [List.getElem?_eq_none (Nat.le_refl _)]
    decide
theorem fil_41 (hok : okK L) (hu : u + L.length ≤ 139000) (hE : EnD L en) {a R : Nat} (ha : a < en) (hab : sbl (L.getD a 0) = false) (hR : 1 ≤ R ∧ R ≤ 100000) (hG0 : hoG σ0 254 255 u L) (hpt0 : ∀ j, j < en → sbl (L.getD j 0) = false → mV σ0 256 (u + j) = ptD H (pkL L) (gP L j)) (hq : ∀ b nx σ', FrZ [] [146, 147, 148] σ0 σ' → mV σ' 246 146 = ((u + b : Nat) : Int) → mV σ' 246 147 = ((u + nx : Nat) : Int) → mV σ' 246 148 = bZ (fiP H (pkL L) (gP L a) R) → FiR L en a b nx (fiS H (pkL L) (gP L a) R) → Q (.inl none) σ') {k e : Nat} {us g : Int} (hk : k < en) (hak : a ≤ k) (hkb : sbl (L.getD k 0) = false) (hf : FrZ [] [146, 147, 148] σ0 σ) (h148 : mV σ 246 148 = 0) (hst : (k = a ∧ us = 0 ∧ g = 0) ∨ (0 < us ∧ g = 1 ∧ FiE L en a R u k us σ)) (hih : ∀ k2 us2 σ2, k < k2 → k2 ≤ en → (k2 = en ∨ sbl (L.getD k2 0) = false) → FrZ [] [146, 147, 148] σ0 σ2 → mV σ2 246 148 = 0 → FiE L en a R u k2 us2 σ2 → R_fills_16 ((u + en : Nat) : Int) (R : Int) ((u + k2 : Nat) : Int) us2 σ2 Q) (hke : k < e) (hee : e ≤ en) (hnb : ∀ j, k ≤ j → j < e → sbl (L.getD j 0) = false) (hend : e = en ∨ sbl (L.getD e 0) = true) : R_fills_41 ((u + en : Nat) : Int) (R : Int) ((u + k : Nat) : Int) us ((u + e : Nat) : Int) g σ Q := by
  have hl := hE.1
  have hG : hoG σ 254 255 u L := hG0.cg (fun k _ _ => ⟨hf.z (by decide) (by decide), hf.z (by decide) (by decide)⟩)
  have hpt : ∀ j, j < en → sbl (L.getD j 0) = false → mV σ 256 (u + j) = ptD H (pkL L) (gP L j) := fun j x y => (hf.z (by decide) (by decide)).trans (hpt0 j x y)
  have hgs : ∀ j, k ≤ j → j ≤ e → gP L j = gP L k + (j - k) := fun j x y => by
    have := gP_add (L := L) (a := k) (n := j - k) (by omega) (fun i x2 y2 => hnb i x2 (by omega))
    rw [show k + (j - k) = j by omega] at this
    exact this
  have hge := hgs e (by omega) (Nat.le_refl _)
  have hlen := hE.len
  have hbnd : gP L en ≤ L.length := by
    have := gP_le (L := L) (k := en) hl
    omega
  have hen := gP_mono (L := L) (j := e) (k := en) hee hl
  have hka := gP_mono (L := L) (j := a) (k := k) hak (by omega)
  have hus : us + g + ((gP L a : Nat) : Int) = ((gP L k : Nat) : Int) ∧ 0 ≤ us ∧ us ≤ 100000 ∧ 0 ≤ g ∧ g ≤ 1 := by
    rcases hst with ⟨h1, h2, h3⟩ | ⟨h1, h2, e0, g1, g2, g3, g4, g5, g6, g7, g8⟩
    · rw [h1, h2, h3]
      omega
    · have := fi_st (R := R) hE g1 (by
        by_cases h : e0 = k
        · have := g3 h
          omega
        · omega) hk hkb g4 g5
      omega
  refine R_fills_41.i ⟨by unfold Rg; omega, by unfold Rg; omega, fun h9 => ?_, fun h9 => ?_⟩
  · rw [show ((u + e : Nat) : Int) - 1 = ((u + (e - 1) : Nat) : Int) by omega]
    refine fil_95 hok hu hpt hee hl hke hnb hus.1 ⟨hus.2.1, hus.2.2.1⟩ ⟨hus.2.2.2.1, hus.2.2.2.2⟩ hR.2 (fun q hkq hqe hno hqq => ?_) (e - 1 - k) (e - 1) (by omega) (by omega) (fun j x y => by omega)
    have hgq := hgs q hkq (by omega)
    have hgt : gP L a + R < gP L e := by omega
    have hmx : ∀ t, gP L q < t → gP L k < t → okZ H (pkL L) (gP L a) R t = false := fun t ht ht2 => by
      rw [← Bool.not_eq_true]
      intro h8
      obtain ⟨j, hj1, hj2, hj3, hj4⟩ := fi_word (by omega) hnb hgt h8 ht2
      have hqj : q < j := by
        by_cases h : q < j
        · exact h
        · have := gP_mono (L := L) (j := j) (k := q) (by omega) (by omega)
          omega
      have := hno j hqj hj2
      have hb := (okZ_b h8).2.2
      rw [hj3] at this
      rcases hj4 with h | h
      · exact this.1 ⟨h, hb⟩
      · exact this.2 h
    refine R_fills_150.i ⟨by unfold Rg; omega, by unfold Rg; omega, fun h8 => ⟨by unfold Rg; omega, fun h7 => ?_, fun h7 => ?_⟩, fun h8 => ⟨by unfold Rg; omega, by omega, by omega, ?_⟩⟩
    · have hqk : q = k := by omega
      rcases hst with ⟨h1, h2, h3⟩ | ⟨h1, h2, e0, g1, g2, g3, g4, g5, g6, g7, g8⟩
      · exact absurd h2 h7
      have hst := fi_st (R := R) hE g1 (by
        by_cases h : e0 = k
        · have := g3 h
          omega
        · omega) hk hkb g4 g5
      have n32 : ¬ (pkL L).getD (gP L k) 0 = 32 := fun h => by
        rw [hst.2.2.2.1] at h
        rw [h] at hkb
        exact absurd hkb (by decide)
      have hs : fiS H (pkL L) (gP L a) R = gP L e0 := fi_eq (okZ_i.mpr ⟨by omega, by omega, Or.inl ⟨Or.inr (Or.inl hst.2.2.1), g7⟩⟩) (fun t ht => by
        by_cases ht2 : t = gP L k
        · rw [← Bool.not_eq_true]
          intro h6
          have h5 := okZ_i.mp h6
          have h4 := pt_1 (H := H) hst.2.2.1
          rw [← hst.1, ← ht2] at h4
          rw [ht2] at h5 h4
          rw [h4] at h5
          omega
        · exact hmx t (by rw [hqk]; omega) (by omega))
      refine R_fills_212.i ⟨by unfold Rg; omega, hq e0 k _ (hf.tr (FrZ.wf (by decide))) ?_ wV_self ?_ ?_⟩
      · rw [wV_ne (Or.inr (by decide))]
        exact g8
      · rw [wV_ne (Or.inr (by decide)), h148]
        unfold fiP
        rw [hs, pt_b (by rw [hst.2.2.1]; decide)]
        rfl
      · refine ⟨⟨g1, g2, by omega⟩, hs.symm, ?_, g4, Or.inr hkb, g5⟩
        rw [hs]
        unfold nxA
        rw [if_pos hst.2.2.1]
        exact hst.1
    · have hqk : q = k := by omega
      rcases hst with ⟨h1, h2, h3⟩ | ⟨h1, -⟩
      case inr => omega
      rw [h1] at hgs hnb hge hmx hqk
      rw [h1]
      have hs : fiS H (pkL L) (gP L a) R = gP L a + R := fi_no (fun t => by
        by_cases ht : gP L a < t
        · exact hmx t (by rw [hqk]; exact ht) ht
        · rw [← Bool.not_eq_true]
          intro h6
          have := okZ_b h6
          omega)
      have hga := hgs (a + R) (by omega) (by omega)
      have hat := gP_at (L := L) (k := a + R) (by omega) (hnb _ (by omega) (by omega))
      have hnr := hnb (a + R) (by omega) (by omega)
      have n32 : ¬ (pkL L).getD (gP L (a + R)) 0 = 32 := fun h => by
        rw [hat.1] at h
        rw [h] at hnr
        exact absurd hnr (by decide)
      have hno2 : okZ H (pkL L) (gP L a) R (fiS H (pkL L) (gP L a) R) = false := by
        rw [hs]
        exact hmx _ (by rw [hqk]; omega) (by omega)
      rw [show ((u + a : Nat) : Int) + (R : Int) = ((u + (a + R) : Nat) : Int) by omega]
      refine ⟨by unfold Rg; omega, R_fills_212.i ⟨by unfold Rg; omega, hq (a + R) (a + R) _ ((hf.tr (FrZ.wf (by decide))).tr (FrZ.wf (by decide))) ?_ wV_self ?_ ?_⟩⟩
      · rw [wV_ne (Or.inr (by decide))]
        exact wV_self
      · rw [wV_ne (Or.inr (by decide)), wV_ne (Or.inr (by decide)), h148]
        unfold fiP
        rw [hno2, Bool.and_false]
        rfl
      · refine ⟨⟨by omega, by omega, by omega⟩, by omega, ?_, hnb _ (by omega) (by omega), Or.inr hnr, fun j x y => by omega⟩
        rw [hs]
        unfold nxA
        rw [show gP L a + R = gP L (a + R) by omega, if_neg n32]
    · have hkq2 : k < q := by omega
      have hqn := hnb q hkq hqe
      have hat := gP_at (L := L) (k := q) (by omega) hqn
      have n32 : ¬ (pkL L).getD (gP L q) 0 = 32 := fun h => by
        rw [hat.1] at h
        rw [h] at hqn
        exact absurd hqn (by decide)
      have hoq : okZ H (pkL L) (gP L a) R (gP L q) = true := okZ_i.mpr ⟨by omega, by omega, by omega⟩
      have hs : fiS H (pkL L) (gP L a) R = gP L q := fi_eq hoq (fun t ht => hmx t ht (by omega))
      have hp : fiP H (pkL L) (gP L a) R = decide (ptD H (pkL L) (gP L q) = 2) := by
        unfold fiP
        rw [hs, hoq, Bool.and_true]
      have fin : ∀ s1 : Int, s1 = bZ (decide (ptD H (pkL L) (gP L q) = 2)) → R_fills_180 ((u + q : Nat) : Int) s1 (wV σ 246 146 ((u + q : Nat) : Int)) Q := fun s1 h6 => by
        refine R_fills_180.i (b01.i ?_ (R_fills_212.i ⟨by unfold Rg; omega, hq q q _ (((hf.tr (FrZ.wf (by decide))).tr (FrZ.wf (by decide))).tr (FrZ.wf (by decide))) ?_ wV_self ?_ ?_⟩))
        · rw [h6]
          cases decide (ptD H (pkL L) (gP L q) = 2)
          · exact Or.inl rfl
          · exact Or.inr rfl
        · rw [wV_ne (Or.inr (by decide)), wV_ne (Or.inr (by decide))]
          exact wV_self
        · rw [wV_ne (Or.inr (by decide)), wV_self, hp]
          exact h6
        · refine ⟨⟨by omega, Nat.le_refl _, by omega⟩, hs.symm, ?_, hnb _ (by omega) (by omega), Or.inr hqn, fun j x y => by omega⟩
          rw [hs]
          unfold nxA
          rw [if_neg n32]
      rw [Int.toNat_natCast, hpt q (by omega) hqn]
      refine ⟨fun h6 => fin 0 ?_, fun h6 => fin 1 ?_⟩
      · rw [decide_eq_false h6]
        rfl
      · rw [decide_eq_true h6]
        rfl
  · have hG1 : hoG (wV σ 246 146 ((u + e : Nat) : Int)) 254 255 u L := hG.cg (fun k _ _ => ⟨wV_ne (Or.inl (by decide)), wV_ne (Or.inl (by decide))⟩)
    refine R_behindBlanks.p hok hu hG1 hl hee (fun k2 x1 x2 x3 x4 => ?_)
    refine hih k2 _ _ (by omega) x2 x4 (hf.tr (FrZ.wf (by decide))) ?_ ⟨e, by omega, x1, fun h => ?_, hnb _ (by omega) (by omega), x3, by omega, by omega, wV_self⟩
    · rw [wV_ne (Or.inr (by decide))]
      exact h148
    · rcases x4 with h8 | h8
      · exact h8
      · rw [← h] at h8 ⊢
        rcases hend with h7 | h7
        · exact h7
        · rw [h7] at h8
          exact absurd h8 (by decide)
theorem fil_16 (hok : okK L) (hu : u + L.length ≤ 139000) (hE : EnD L en) {a R : Nat} (ha : a < en) (hab : sbl (L.getD a 0) = false) (hR : 1 ≤ R ∧ R ≤ 100000) (hG0 : hoG σ0 254 255 u L) (hpt0 : ∀ j, j < en → sbl (L.getD j 0) = false → mV σ0 256 (u + j) = ptD H (pkL L) (gP L j)) (hq : ∀ b nx σ', FrZ [] [146, 147, 148] σ0 σ' → mV σ' 246 146 = ((u + b : Nat) : Int) → mV σ' 246 147 = ((u + nx : Nat) : Int) → mV σ' 246 148 = bZ (fiP H (pkL L) (gP L a) R) → FiR L en a b nx (fiS H (pkL L) (gP L a) R) → Q (.inl none) σ') : ∀ (n k : Nat) (us : Int) (σ : MS), en ≤ k + n → k ≤ en → a ≤ k → (k = en ∨ sbl (L.getD k 0) = false) → FrZ [] [146, 147, 148] σ0 σ → mV σ 246 148 = 0 → ((k = a ∧ us = 0) ∨ FiE L en a R u k us σ) → R_fills_16 ((u + en : Nat) : Int) (R : Int) ((u + k : Nat) : Int) us σ Q := by
  intro n
  have hl := hE.1
  have at_en : ∀ (k : Nat) (us : Int) (σ : MS), k = en → FrZ [] [146, 147, 148] σ0 σ → mV σ 246 148 = 0 → ((k = a ∧ us = 0) ∨ FiE L en a R u k us σ) → R_fills_16 ((u + en : Nat) : Int) (R : Int) ((u + k : Nat) : Int) us σ Q := fun k us σ hk hf h148 hst => by
    rcases hst with hst | hst
    · omega
    rw [hk] at hst ⊢
    exact R_fills_16.i ⟨by unfold Rg; omega, by unfold Rg; omega, fun _ => fil_en hu hE ha hq hf h148 hst, fun h => absurd h (by omega)⟩
  induction n with
  | zero =>
    intro k us σ hn hk hak hkb hf h148 hst
    exact at_en k us σ (by omega) hf h148 hst
  | succ n ih =>
    intro k us σ hn hk hak hkb hf h148 hst
    by_cases hke : k = en
    · exact at_en k us σ hke hf h148 hst
    have hkb : sbl (L.getD k 0) = false := hkb.resolve_left hke
    have hG : hoG σ 254 255 u L := hG0.cg (fun k _ _ => ⟨hf.z (by decide) (by decide), hf.z (by decide) (by decide)⟩)
    have hus : (k = a ∧ us = 0) ∨ (0 < us ∧ us ≤ 139000 ∧ FiE L en a R u k us σ) := by
      rcases hst with hst | hst
      · exact Or.inl hst
      · refine Or.inr ?_
        have hst2 := hst
        obtain ⟨e0, g1, g2, g3, g4, g5, g6, g7, g8⟩ := hst
        have := fi_st (R := R) hE g1 (by
          by_cases h : e0 = k
          · exact absurd (g3 h) hke
          · omega) (by omega) hkb g4 g5
        exact ⟨by omega, by omega, hst2⟩
    refine R_fills_16.i ⟨by unfold Rg; omega, by unfold Rg; omega, fun h => absurd h (by omega), fun _ => R_wordEnd.p hok hu hG hl (by omega) hkb (fun e x1 x2 x3 x4 => ⟨?_, fun h9 => ?_, fun h9 => ?_⟩)⟩
    · unfold Rg
      rcases hus with hus | hus
      · omega
      · omega
    · rcases hus with hus | hus
      · exact fil_41 hok hu hE ha hab hR hG0 hpt0 hq (by omega) hak hkb hf h148 (Or.inl ⟨hus.1, hus.2, rfl⟩) (fun k2 us2 σ2 y1 y2 y3 y4 y5 y6 => ih k2 us2 σ2 (by omega) y2 (by omega) y3 y4 y5 (Or.inr y6)) x1 x2 x3 x4
      · omega
    · rcases hus with hus | hus
      · omega
      · exact fil_41 hok hu hE ha hab hR hG0 hpt0 hq (by omega) hak hkb hf h148 (Or.inr ⟨h9, rfl, hus.2.2⟩) (fun k2 us2 σ2 y1 y2 y3 y4 y5 y6 => ih k2 us2 σ2 (by omega) y2 (by omega) y3 y4 y5 (Or.inr y6)) x1 x2 x3 x4
theorem R_fills.p (hok : okK L) (hu : u + L.length ≤ 139000) (hE : EnD L en) {a R : Nat} (ha : a < en) (hab : sbl (L.getD a 0) = false) (hR : 1 ≤ R ∧ R ≤ 100000) (hG0 : hoG σ 254 255 u L) (hpt0 : ∀ j, j < en → sbl (L.getD j 0) = false → mV σ 256 (u + j) = ptD H (pkL L) (gP L j)) (hq : ∀ b nx σ', FrZ [] [146, 147, 148] σ σ' → mV σ' 246 146 = ((u + b : Nat) : Int) → mV σ' 246 147 = ((u + nx : Nat) : Int) → mV σ' 246 148 = bZ (fiP H (pkL L) (gP L a) R) → FiR L en a b nx (fiS H (pkL L) (gP L a) R) → Q (.inl none) σ') : R_fills ((u + a : Nat) : Int) ((u + en : Nat) : Int) (R : Int) σ Q := by
  have hl := hE.1
  refine R_fills.i ⟨by unfold Rg; omega, ?_⟩
  exact fil_16 hok hu hE ha hab hR hG0 hpt0 hq (en - a) a 0 _ (by omega) (by omega) (Nat.le_refl _) (Or.inr hab) ((FrZ.wf (by decide)).tr (FrZ.wf (by decide))) wV_self (Or.inl ⟨rfl, rfl⟩)
end
