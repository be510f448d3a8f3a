/-! LINES ARE FILLED, way 0: one line, the reference -/
/-- the place behind the last sign -/
def EnD (L : List Int) (en : Nat) : Prop := en ≤ L.length ∧ (en = 0 ∨ sbl (L.getD (en - 1) 0) = false) ∧ ∀ j, en ≤ j → j < L.length → sbl (L.getD j 0) = true
theorem EnD.len {L : List Int} {en : Nat} (h : EnD L en) : (pkL L).length = gP L en := by
  rw [gP_end h.1 h.2.2]
  rcases h.2.1 with h9 | h9
  · rw [h9]
    rfl
  · by_cases h8 : en = 0
    · rw [h8]
      rfl
    · exact (gP_fn (by omega) h.1 h9).1.symm
/-- a line from a ends at b; nx begins the next one -/
def FiR (L : List Int) (en a b nx s : Nat) : Prop := (a < b ∧ b ≤ nx ∧ nx ≤ en) ∧ gP L b = s ∧ gP L nx = nxA (pkL L) s ∧ sbl (L.getD (b - 1) 0) = false ∧ (nx = en ∨ sbl (L.getD nx 0) = false) ∧ ∀ j, b ≤ j → j < nx → sbl (L.getD j 0) = true
section
variable {σ σ0 : MS} {Q : MQ9} {u en : Nat} {L : List Int} {H : HY9}
theorem R_wordEnd.p (hok : okK L) (hu : u + L.length ≤ 139000) (hG : hoG σ 254 255 u L) (he : en ≤ L.length) {k : Nat} (hk : k < en) (hb : sbl (L.getD k 0) = false) (hq : ∀ e, k < e → e ≤ en → (∀ j, k ≤ j → j < e → sbl (L.getD j 0) = false) → (e = en ∨ sbl (L.getD e 0) = true) → Q (.inl (some ((u + e : Nat) : Int))) σ) : R_wordEnd ((u + k : Nat) : Int) ((u + en : Nat) : Int) σ Q := by
  have key : ∀ (n e : Nat), e + n = en → k ≤ e → (∀ j, k ≤ j → j < e → sbl (L.getD j 0) = false) → R_wordEnd_2 ((u + en : Nat) : Int) ((u + e : Nat) : Int) σ Q := by
    intro n
    induction n with
    | zero =>
      intro e h1 h2 h3
      exact R_wordEnd_2.i ⟨by unfold Rg; omega, by unfold Rg; omega, fun _ => ⟨by unfold Rg; omega, hq e (by omega) (by omega) h3 (Or.inl (by omega))⟩, fun h9 => absurd h9 (by omega)⟩
    | succ n ih =>
      intro e h1 h2 h3
      have hel : e < L.length := by omega
      have okc := hok.gd hel
      refine R_wordEnd_2.i ⟨by unfold Rg; omega, by unfold Rg; omega, fun h9 => absurd h9 (by omega), fun _ => R_at.g hG hu hel ⟨fun h9 => ⟨by unfold Rg; omega, ?_⟩, fun h9 => ?_⟩⟩
      · have hs := (rd_32 okc).mp h9
        refine hq e ?_ (by omega) h3 (Or.inr hs)
        by_cases e9 : k = e
        · rw [← e9, hb] at hs
          exact absurd hs (by decide)
        · omega
      · rw [show ((u + e : Nat) : Int) + 1 = ((u + (e + 1) : Nat) : Int) by omega]
        refine ih (e + 1) (by omega) (by omega) (fun j x y => ?_)
        by_cases hj : j = e
        · rw [hj, ← Bool.not_eq_true]
          exact fun h => h9 ((rd_32 okc).mpr h)
        · exact h3 j x (by omega)
  exact R_wordEnd.i (key (en - k) k (by omega) (Nat.le_refl _) (fun j x y => by omega))
theorem R_behindBlanks.p (hok : okK L) (hu : u + L.length ≤ 139000) (hG : hoG σ 254 255 u L) (he : en ≤ L.length) {k : Nat} (hk : k ≤ en) (hq : ∀ e, k ≤ e → e ≤ en → (∀ j, k ≤ j → j < e → sbl (L.getD j 0) = true) → (e = en ∨ sbl (L.getD e 0) = false) → Q (.inl (some ((u + e : Nat) : Int))) σ) : R_behindBlanks ((u + k : Nat) : Int) ((u + en : Nat) : Int) σ Q := by
  have key : ∀ (n e : Nat), e + n = en → k ≤ e → (∀ j, k ≤ j → j < e → sbl (L.getD j 0) = true) → R_behindBlanks_2 ((u + en : Nat) : Int) ((u + e : Nat) : Int) σ Q := by
    intro n
    induction n with
    | zero =>
      intro e h1 h2 h3
      exact R_behindBlanks_2.i ⟨by unfold Rg; omega, by unfold Rg; omega, fun _ => ⟨by unfold Rg; omega, hq e (by omega) (by omega) h3 (Or.inl (by omega))⟩, fun h9 => absurd h9 (by omega)⟩
    | succ n ih =>
      intro e h1 h2 h3
      have hel : e < L.length := by omega
      have okc := hok.gd hel
      refine R_behindBlanks_2.i ⟨by unfold Rg; omega, by unfold Rg; omega, fun h9 => absurd h9 (by omega), fun _ => R_at.g hG hu hel ⟨fun h9 => ⟨by unfold Rg; omega, ?_⟩, fun h9 => ?_⟩⟩
      · refine hq e (by omega) (by omega) h3 (Or.inr ?_)
        rw [← Bool.not_eq_true]
        exact fun h => h9 ((rd_32 okc).mpr h)
      · have hs := (rd_32 okc).mp h9
        rw [show ((u + e : Nat) : Int) + 1 = ((u + (e + 1) : Nat) : Int) by omega]
        refine ih (e + 1) (by omega) (by omega) (fun j x y => ?_)
        by_cases hj : j = e
        · rw [hj]
          exact hs
        · exact h3 j x (by omega)
  exact R_behindBlanks.i (key (en - k) k (by omega) (Nat.le_refl _) (fun j x y => by omega))
/-- no end within a word that doesn't fit, but points -/
theorem fi_word {a k e R t : Nat} (hel : e ≤ L.length) (hnb : ∀ j, k ≤ j → j < e → sbl (L.getD j 0) = false) (hgt : gP L a + R < gP L e) (ho : okZ H (pkL L) (gP L a) R t = true) (hkt : gP L k < t) : ∃ j, k < j ∧ j < e ∧ gP L j = t ∧ (ptD H (pkL L) t = 1 ∨ (ptD H (pkL L) t = 2 ∧ t + 1 ≤ gP L a + R)) := by
  have hb := okZ_b ho
  have hke : k ≤ e := by
    by_cases h : k ≤ e
    · exact h
    · have := gP_mono (L := L) (j := e) (k := min k L.length) (by omega) (by omega)
      exact absurd hkt (by
        by_cases hk : k ≤ L.length
        · have := gP_mono (L := L) (j := e) (k := k) (by omega) hk
          omega
        · have e1 : L.take k = L := List.take_of_length_le (by omega)
          have e2 : gP L k = gP L L.length := by
            unfold gP
            rw [e1, List.take_length]
          have := gP_mono (L := L) (j := e) (k := L.length) hel (Nat.le_refl _)
          omega)
  have hs : ∀ j, k ≤ j → j ≤ e → gP L j = gP L k + (j - k) := fun j x y => by
    have := gP_add (L := L) (a := k) (n := j - k) (by omega) (fun i x2 y2 => hnb i x2 (by omega))
    rw [show k + (j - k) = j by omega] at this
    exact this
  have he := hs e hke (Nat.le_refl _)
  have hj := hs (k + (t - gP L k)) (by omega) (by omega)
  have hjt : gP L (k + (t - gP L k)) = t := by omega
  have hjn := hnb (k + (t - gP L k)) (by omega) (by omega)
  have hat := gP_at (L := L) (k := k + (t - gP L k)) (by omega) hjn
  rw [hjt] at hat
  have h8 := okZ_i.mp ho
  have n32 : ¬ (pkL L).getD t 0 = 32 := fun h => by
    rw [← hat.1, h] at hjn
    exact absurd hjn (by decide)
  exact ⟨k + (t - gP L k), by omega, by omega, hjt, by omega⟩
theorem fil_95 (hok : okK L) (hu : u + L.length ≤ 139000) (hpt : ∀ j, j < en → sbl (L.getD j 0) = false → mV σ 256 (u + j) = ptD H (pkL L) (gP L j)) {a k e R : Nat} {us gap : Int} (hel : e ≤ en) (hen : en ≤ L.length) (hke : k < e) (hnb : ∀ j, k ≤ j → j < e → sbl (L.getD j 0) = false) (hus : us + gap + ((gP L a : Nat) : Int) = ((gP L k : Nat) : Int)) (hug : 0 ≤ us ∧ us ≤ 100000) (hg1 : 0 ≤ gap ∧ gap ≤ 1) (hR : R ≤ 100000) (hq : ∀ q, k ≤ q → q < e → (∀ j, q < j → j < e → ¬ (ptD H (pkL L) (gP L j) = 1 ∧ gP L j ≤ gP L a + R) ∧ ¬ (ptD H (pkL L) (gP L j) = 2 ∧ gP L j + 1 ≤ gP L a + R)) → (q = k ∨ ((ptD H (pkL L) (gP L q) = 1 ∧ gP L q ≤ gP L a + R) ∨ (ptD H (pkL L) (gP L q) = 2 ∧ gP L q + 1 ≤ gP L a + R))) → R_fills_150 (R : Int) ((u + k : Nat) : Int) us ((u + q : Nat) : Int) σ Q) : ∀ (n q : Nat), q = k + n → q < e → (∀ j, q < j → j < e → ¬ (ptD H (pkL L) (gP L j) = 1 ∧ gP L j ≤ gP L a + R) ∧ ¬ (ptD H (pkL L) (gP L j) = 2 ∧ gP L j + 1 ≤ gP L a + R)) → R_fills_95 (R : Int) ((u + k : Nat) : Int) us gap ((u + q : Nat) : Int) σ Q := by
  intro n
  induction n with
  | zero =>
    intro q hqn hqe hno
    exact R_fills_95.i ⟨by unfold Rg; omega, by unfold Rg; omega, fun _ => hq q (by omega) hqe hno (Or.inl (by omega)), fun h9 => absurd h9 (by omega)⟩
  | succ n ih =>
    intro q hqn hqe hno
    have hp := hpt q (by omega) (hnb q (by omega) hqe)
    have hv := pt_v (H := H) (U := pkL L) (k := gP L q)
    have hgq : gP L q = gP L k + (q - k) := by
      have := gP_add (L := L) (a := k) (n := q - k) (by omega) (fun i x2 y2 => hnb i x2 (by omega))
      rw [show k + (q - k) = q by omega] at this
      exact this
    have no : ¬ ((ptD H (pkL L) (gP L q) = 1 ∧ gP L q ≤ gP L a + R) ∨ (ptD H (pkL L) (gP L q) = 2 ∧ gP L q + 1 ≤ gP L a + R)) → R_fills_144 (R : Int) ((u + k : Nat) : Int) us gap ((u + q : Nat) : Int) σ Q := fun h => by
      refine R_fills_144.i ?_
      rw [show ((u + q : Nat) : Int) + (-1) = ((u + (q - 1) : Nat) : Int) by omega]
      refine ih (q - 1) (by omega) (by omega) (fun j x y => ?_)
      by_cases e9 : j = q
      · rw [e9]
        exact ⟨fun h9 => h (Or.inl h9), fun h9 => h (Or.inr h9)⟩
      · exact hno j (by omega) y
    have yes : ((ptD H (pkL L) (gP L q) = 1 ∧ gP L q ≤ gP L a + R) ∨ (ptD H (pkL L) (gP L q) = 2 ∧ gP L q + 1 ≤ gP L a + R)) → R_fills_150 (R : Int) ((u + k : Nat) : Int) us ((u + q : Nat) : Int) σ Q := fun h => hq q (by omega) hqe hno (Or.inr h)
    refine R_fills_95.i ⟨by unfold Rg; omega, by unfold Rg; omega, fun h9 => absurd h9 (by omega), fun _ => ⟨by omega, by omega, ?_⟩⟩
    rw [Int.toNat_natCast, hp]
    refine ⟨fun h9 => no (by omega), fun h9 => ⟨by omega, by omega, fun h8 => ?_, fun h8 => ?_⟩⟩
    · exact R_fills_139.i ⟨by unfold Rg; omega, by unfold Rg; omega, fun h7 => yes (by omega), fun h7 => no (by omega)⟩
    · exact R_fills_139.i ⟨by unfold Rg; omega, by unfold Rg; omega, fun h7 => yes (by omega), fun h7 => no (by omega)⟩
theorem fil_16 (hok : okK L) (hu : u + L.length ≤ 139000) (hE : EnD L en) {a R : Nat} (ha : a < en) (hab : sbl (L.getD a 0) = false) (hR : 1 ≤ R ∧ R ≤ 100000) (hG0 : hoG σ0 254 255 u L) (hpt0 : ∀ j, j < en → sbl (L.getD j 0) = false → mV σ0 256 (u + j) = ptD H (pkL L) (gP L j)) (hq : ∀ b nx σ', FrZ [] [146, 147, 148] σ0 σ' → mV σ' 246 146 = ((u + b : Nat) : Int) → mV σ' 246 147 = ((u + nx : Nat) : Int) → mV σ' 246 148 = bZ (fiP H (pkL L) (gP L a) R) → FiR L en a b nx (fiS H (pkL L) (gP L a) R) → Q (.inl none) σ') : ∀ (n k : Nat) (us : Int) (σ : MS), en ≤ k + n → k ≤ en → a ≤ k → (k = en ∨ sbl (L.getD k 0) = false) → FrZ [] [146, 147, 148] σ0 σ → mV σ 246 148 = 0 → ((k = a ∧ us = 0) ∨ ∃ e, a < e ∧ e ≤ k ∧ (e = k → k = en) ∧ sbl (L.getD (e - 1) 0) = false ∧ (∀ j, e ≤ j → j < k → sbl (L.getD j 0) = true) ∧ us = ((gP L e : Nat) : Int) - ((gP L a : Nat) : Int) ∧ gP L e ≤ gP L a + R ∧ mV σ 246 146 = ((u + e : Nat) : Int)) → R_fills_16 ((u + en : Nat) : Int) (R : Int) ((u + k : Nat) : Int) us σ Q := by
  intro n
  induction n with
  | zero =>
    intro k us σ hn hk hak hkb hf h148 hst
    sorry
  | succ n ih =>
    intro k us σ hn hk hak hkb hf h148 hst
    sorry
end
