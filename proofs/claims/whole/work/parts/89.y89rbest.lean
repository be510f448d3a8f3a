/-! LINES ARE FILLED, way 1: the reference -/
section
variable {H : HY9} {U : List Int} {R : Nat} {T : Nat → Int} {s : Nat}
theorem bsB_no {k : Nat} (h : bsO H U R T s (s + (k + 1)) = -1) : bsB H U R T s (k + 1) = bsB H U R T s k := by
  show (if _ then _ else _) = _
  rw [if_neg (fun h9 => h9.1 h)]
theorem bsB_R : ∀ (m : Nat), s + (R + m) < U.length → bsB H U R T s (R + m) = bsB H U R T s R
  | 0, _ => rfl
  | m + 1, h => by
    have hb : 0 ≤ bZ (decide (ptD H U (s + (R + m + 1)) = 2)) := by cases decide (ptD H U (s + (R + m + 1)) = 2) <;> decide
    have : bsB H U R T s (R + m + 1) = bsB H U R T s (R + m) := bsB_no (by
      unfold bsO
      rw [if_neg (by omega)]
      split
      · rfl
      · rw [if_pos (Or.inl (by omega))])
    rw [show R + (m + 1) = R + m + 1 by omega, this]
    exact bsB_R m (by omega)
end
section
variable {σ σ0 : MS} {Q : MQ9} {u en : Nat} {L : List Int} {H : HY9} {R1 R2 : Nat}
/-- a place of the reference and one of the packed row -/
def EwR (L : List Int) (en u : Nat) (x t : Int) : Prop := (t = -1 ∧ x = -1) ∨ ∃ e : Nat, x = ((u + e : Nat) : Int) ∧ t = ((gP L e : Nat) : Int) ∧ 1 ≤ e ∧ e ≤ en ∧ sbl (L.getD (e - 1) 0) = false
def CoR (σ : MS) (H : HY9) (L : List Int) (R1 R2 en u p : Nat) : Prop := ∀ j, p ≤ j → j < en → sbl (L.getD j 0) = false → bsI H (pkL L) (gP L j) = true → mV σ 340 (u + j) = (bsW H (pkL L) R1 R2 (gP L j)).1 ∧ EwR L en u (mV σ 341 (u + j)) (bsW H (pkL L) R1 R2 (gP L j)).2
/-- the best end so far -/
def BeR (H : HY9) (L : List Int) (R1 R2 en u R s m : Nat) (a b : Int) : Prop := a = (bsB H (pkL L) R (fun p => (bsW H (pkL L) R1 R2 p).1) s m).1 ∧ EwR L en u b (bsB H (pkL L) R (fun p => (bsW H (pkL L) R1 R2 p).1) s m).2
theorem EwR.rg (hu : u + L.length ≤ 70000) (hen : en ≤ L.length) {x t : Int} (h : EwR L en u x t) : Rg x := by
  rcases h with ⟨-, h⟩ | ⟨e, h1, -, -, h4, -⟩
  · rw [h]
    decide
  · rw [h1]
    unfold Rg
    omega
theorem BeR.rg {R s m : Nat} {a b : Int} (h1 : R1 ≤ 80) (h2 : R2 ≤ 80) (hR : R ≤ 80) (hL : L.length ≤ 70000) (hU : (pkL L).length ≤ L.length) (hm : s + m ≤ (pkL L).length) (hmR : m ≤ R) (h : BeR H L R1 R2 en u R s m a b) : a = -1 ∨ (0 ≤ a ∧ a ≤ 460000000) := by
  have bg := bsB_b (H := H) (U := pkL L) (T := fun p => (bsW H (pkL L) R1 R2 p).1) (s := s) hR (fun p hp => by
    rcases bsW_g (H := H) (U := pkL L) h1 h2 p with e | ⟨e1, e2, -⟩
    · rw [e]
      exact Or.inl rfl
    · exact Or.inr ⟨e1, e2⟩) m hm hmR
  rw [h.1]
  rcases bg with e | ⟨e1, e2, -⟩
  · rw [e]
    exact Or.inl rfl
  · exact Or.inr ⟨e1, by omega⟩
theorem we_12 (hok : okK L) (hu : u + L.length ≤ 70000) (hE : EnD L en) (hG : hoG σ 254 255 u L) (hpt : ∀ j, j < en → sbl (L.getD j 0) = false → mV σ 256 (u + j) = ptD H (pkL L) (gP L j)) {p R : Nat} (hp : p < en) (hps : sbl (L.getD p 0) = false) (h1 : R1 ≤ 80) (h2 : R2 ≤ 80) (hR : 1 ≤ R ∧ R ≤ 80) (hCo : CoR σ H L R1 R2 en u (p + 1)) (hq : ∀ a b, BeR H L R1 R2 en u R (gP L p) (min R ((pkL L).length - gP L p)) a b → R_weighs3_300 ((u + p : Nat) : Int) a b σ Q) : ∀ (n k : Nat) (us a b : Int), en ≤ k + n → p ≤ k → k < en → sbl (L.getD k 0) = false → ((k = p ∧ us = 0) ∨ (p < k ∧ 0 < us ∧ us + 1 + ((gP L p : Nat) : Int) = ((gP L k : Nat) : Int) ∧ (pkL L).getD (gP L k - 1) 0 = 32)) → us ≤ R → BeR H L R1 R2 en u R (gP L p) (min R (gP L k - gP L p)) a b → R_weighs3_12 ((u + p : Nat) : Int) ((u + en : Nat) : Int) (R : Int) a b us ((u + k : Nat) : Int) σ Q := by
  have hl := hE.1
  have hlen := hE.len
  have hUL : (pkL L).length ≤ L.length := by
    rw [hlen]
    exact Nat.le_trans (gP_le hl) hl
  have gpp := (gP_at (L := L) (k := p) (by omega) hps).2
  have hu2 : u + L.length ≤ 139000 := by omega
  intro n
  induction n with
  | zero =>
    intro k us a b hn hpk hken
    omega
  | succ n ih =>
    intro k us a b hn hpk hken hks hus husR hB
    have hgk := gP_at (L := L) (k := k) (by omega) hks
    have hgm := gP_mono (L := L) (j := p) (k := k) hpk (by omega)
    have us0 : 0 ≤ us := by
      rcases hus with h | h <;> omega
    have s28 : ∀ g : Int, us + g + ((gP L p : Nat) : Int) = ((gP L k : Nat) : Int) → 0 ≤ g ∧ g ≤ 1 → R_weighs3_28 ((u + p : Nat) : Int) ((u + en : Nat) : Int) (R : Int) a b us ((u + k : Nat) : Int) g σ Q := fun g hg hg1 => by
      refine R_weighs3_28.i (R_wordEnd.p hok hu2 hG hl hken hks (fun e hke hee hnb hend => ?_))
      have hgs : ∀ j, k ≤ j → j ≤ e → gP L j = gP L k + (j - k) := fun j x y => by
        have := gP_add (L := L) (a := k) (n := j - k) (by omega) (fun i x2 y2 => hnb i x2 (by omega))
        rw [show k + (j - k) = j by omega] at this
        exact this
      have hge := hgs e (by omega) (Nat.le_refl _)
      have hbl := gP_bl (L := L) (b := e) (by omega) (by omega) (hnb (e - 1) (by omega) (by omega))
      have s195 : ∀ (q : Nat) (a b : Int), k < q → q ≤ e → (q = e ∨ R < gP L q - gP L p) → BeR H L R1 R2 en u R (gP L p) (min R (gP L q - 1 - gP L p)) a b → R_weighs3_195 ((u + p : Nat) : Int) ((u + en : Nat) : Int) (R : Int) a b us ((u + k : Nat) : Int) g ((u + e : Nat) : Int) σ Q := fun q a b hkq hqe hqq hBq => by
        have hgq := hgs q (by omega) hqe
        have hus2 : us + ((g + ((u + e : Nat) : Int)) - ((u + k : Nat) : Int)) = ((gP L e - gP L p : Nat) : Int) := by omega
        have ar := hBq.rg h1 h2 hR.2 (by omega) hUL (by omega) (by omega)
        have brg := hBq.2.rg hu hl
        refine R_weighs3_195.i ?_
        rw [hus2]
        refine ⟨by unfold Rg; omega, by unfold Rg; omega, fun h9 => ?_, fun h9 => hq a b ?_⟩
        · have hqe2 : q = e := by
            rcases hqq with h | h
            · exact h
            · have := gP_mono (L := L) (j := q) (k := e) hqe (by omega)
              omega
          rw [hqe2, show min R (gP L e - 1 - gP L p) = gP L e - 1 - gP L p by omega] at hBq
          refine R_behindBlanks.p hok hu2 hG hl hee (fun k2 x1 x2 x3 x4 => ?_)
          show Rg _ ∧ _
          have hsb : ∀ r, bsB H (pkL L) R (fun p => (bsW H (pkL L) R1 R2 p).1) (gP L p) (gP L e - gP L p) = r ↔ (if ¬ bsO H (pkL L) R (fun p => (bsW H (pkL L) R1 R2 p).1) (gP L p) (gP L e) = -1 ∧ ((bsB H (pkL L) R (fun p => (bsW H (pkL L) R1 R2 p).1) (gP L p) (gP L e - 1 - gP L p)).1 = -1 ∨ bsO H (pkL L) R (fun p => (bsW H (pkL L) R1 R2 p).1) (gP L p) (gP L e) ≤ (bsB H (pkL L) R (fun p => (bsW H (pkL L) R1 R2 p).1) (gP L p) (gP L e - 1 - gP L p)).1) then (bsO H (pkL L) R (fun p => (bsW H (pkL L) R1 R2 p).1) (gP L p) (gP L e), ((gP L e : Nat) : Int)) else bsB H (pkL L) R (fun p => (bsW H (pkL L) R1 R2 p).1) (gP L p) (gP L e - 1 - gP L p)) = r := fun r => by
            have e0 : gP L e - gP L p = (gP L e - 1 - gP L p) + 1 := by omega
            have e1 : gP L p + (gP L e - 1 - gP L p + 1) = gP L e := by omega
            rw [e0]
            show (if _ then _ else _) = r ↔ _
            rw [e1]
          refine ⟨by unfold Rg; omega, fun h8 => ?_, fun h8 => hq 0 _ ?_⟩
          · have hk2 : k2 < en := by omega
            have hk2s := x4.resolve_left (by omega)
            have hek2 : e < k2 := by
              by_cases h : e = k2
              · rw [h] at hend
                rcases hend with h7 | h7
                · omega
                · rw [hk2s] at h7
                  exact absurd h7 (by decide)
              · omega
            have hen2 := hnb (e - 1) (by omega) (by omega)
            have st := fi_st (R := R) hE (a := p) (e := e) (k := k2) (by omega) hek2 hk2 hk2s hen2 x3
            have hn2 : nxA (pkL L) (gP L e) = gP L k2 := by
              unfold nxA
              rw [if_pos st.2.2.1, st.1]
            have hpe : ptD H (pkL L) (gP L e) = 0 := pt_b (by rw [st.2.2.1]; decide)
            have hpk2 : ptD H (pkL L) (gP L k2) = 0 := by
              rw [st.1]
              exact pt_1 st.2.2.1
            have hi2 : bsI H (pkL L) (gP L k2) = true := decide_eq_true ⟨st.2.2.2.2, Or.inr (Or.inl (by rw [show gP L k2 - 1 = gP L e by omega]; exact st.2.2.1))⟩
            have co := hCo k2 (by omega) hk2 hk2s hi2
            have n32k : ¬ (pkL L).getD (gP L k2) 0 = 32 := fun h => by
              rw [st.2.2.2.1] at h
              exact n32 hk2s h
            have Ov : bsO H (pkL L) R (fun p => (bsW H (pkL L) R1 R2 p).1) (gP L p) (gP L e) = if (bsW H (pkL L) R1 R2 (gP L k2)).1 = -1 then -1 else ((R : Int) - ((gP L e - gP L p : Nat) : Int)) * ((R : Int) - ((gP L e - gP L p : Nat) : Int)) + (bsW H (pkL L) R1 R2 (gP L k2)).1 := by
              unfold bsO
              rw [if_neg (by omega), if_neg (fun h => h.1 st.2.2.1), hpe, hn2, show bZ (decide ((0 : Int) = 2)) = 0 from rfl, Int.sub_zero]
              by_cases h : (bsW H (pkL L) R1 R2 (gP L k2)).1 = -1
              · rw [if_pos (Or.inr h), if_pos h]
              · rw [if_neg (fun h9 => h9.elim (fun h => by omega) h), if_neg h]
                show ((R : Int) - ((gP L e - gP L p : Nat) : Int)) * ((R : Int) - ((gP L e - gP L p : Nat) : Int)) + 50 * (0 : Int) + (bsW H (pkL L) R1 R2 (gP L k2)).1 = _
                omega
            have go : ∀ a2 b2, BeR H L R1 R2 en u R (gP L p) (gP L e - gP L p) a2 b2 → R_weighs3_12 ((u + p : Nat) : Int) ((u + en : Nat) : Int) (R : Int) a2 b2 ((gP L e - gP L p : Nat) : Int) ((u + k2 : Nat) : Int) σ Q := fun a2 b2 hB2 => by
              refine ih k2 _ a2 b2 (by omega) (by omega) hk2 hk2s (Or.inr ⟨by omega, by omega, by omega, by rw [show gP L k2 - 1 = gP L e by omega]; exact st.2.2.1⟩) h9 ?_
              by_cases h6 : gP L k2 - gP L p ≤ R
              · have : bsB H (pkL L) R (fun p => (bsW H (pkL L) R1 R2 p).1) (gP L p) (gP L e - gP L p + 1) = bsB H (pkL L) R (fun p => (bsW H (pkL L) R1 R2 p).1) (gP L p) (gP L e - gP L p) := bsB_no (by
                  rw [show gP L p + (gP L e - gP L p + 1) = gP L k2 by omega]
                  unfold bsO
                  rw [if_neg (by omega), if_pos ⟨n32k, hpk2⟩])
                rw [show min R (gP L k2 - gP L p) = gP L e - gP L p + 1 by omega]
                unfold BeR
                rw [this]
                exact hB2
              · rw [show min R (gP L k2 - gP L p) = gP L e - gP L p by omega]
                exact hB2
            have no : ¬ (¬ bsO H (pkL L) R (fun p => (bsW H (pkL L) R1 R2 p).1) (gP L p) (gP L e) = -1 ∧ ((bsB H (pkL L) R (fun p => (bsW H (pkL L) R1 R2 p).1) (gP L p) (gP L e - 1 - gP L p)).1 = -1 ∨ bsO H (pkL L) R (fun p => (bsW H (pkL L) R1 R2 p).1) (gP L p) (gP L e) ≤ (bsB H (pkL L) R (fun p => (bsW H (pkL L) R1 R2 p).1) (gP L p) (gP L e - 1 - gP L p)).1)) → R_weighs3_12 ((u + p : Nat) : Int) ((u + en : Nat) : Int) (R : Int) a b ((gP L e - gP L p : Nat) : Int) ((u + k2 : Nat) : Int) σ Q := fun h7 => go a b (by
              unfold BeR
              rw [(hsb _).mpr (if_neg h7)]
              exact hBq)
            have yes : ∀ v : Int, v = bsO H (pkL L) R (fun p => (bsW H (pkL L) R1 R2 p).1) (gP L p) (gP L e) → (¬ bsO H (pkL L) R (fun p => (bsW H (pkL L) R1 R2 p).1) (gP L p) (gP L e) = -1 ∧ ((bsB H (pkL L) R (fun p => (bsW H (pkL L) R1 R2 p).1) (gP L p) (gP L e - 1 - gP L p)).1 = -1 ∨ bsO H (pkL L) R (fun p => (bsW H (pkL L) R1 R2 p).1) (gP L p) (gP L e) ≤ (bsB H (pkL L) R (fun p => (bsW H (pkL L) R1 R2 p).1) (gP L p) (gP L e - 1 - gP L p)).1)) → R_weighs3_289 ((u + p : Nat) : Int) ((u + en : Nat) : Int) (R : Int) ((gP L e - gP L p : Nat) : Int) ((u + k2 : Nat) : Int) ((u + e : Nat) : Int) v σ Q := fun v hv h7 => R_weighs3_289.i (go v _ (by
              unfold BeR
              rw [(hsb _).mpr (if_pos h7)]
              exact ⟨hv, Or.inr ⟨e, rfl, rfl, by omega, hee, hen2⟩⟩))
            have wg := bsW_g (H := H) (U := pkL L) h1 h2 (gP L k2)
            have wv : (bsW H (pkL L) R1 R2 (gP L k2)).1 = -1 ∨ (0 ≤ (bsW H (pkL L) R1 R2 (gP L k2)).1 ∧ (bsW H (pkL L) R1 R2 (gP L k2)).1 ≤ 460000000) := by
              rcases wg with e9 | ⟨e1, e2, -⟩
              · rw [e9]
                exact Or.inl rfl
              · exact Or.inr ⟨e1, by omega⟩
            have sq := sq_b (x := (R : Int) - ((gP L e - gP L p : Nat) : Int)) (by omega)
            rw [Int.toNat_natCast, co.1]
            refine ⟨by omega, by omega, fun h7 => ⟨by omega, by omega, by unfold Rg; omega, fun h6 => yes _ ?_ ?_, fun h6 => ⟨by unfold Rg; omega, by unfold Rg; omega, fun h5 => yes _ ?_ ?_, fun h5 => no ?_⟩⟩, fun h7 => no ?_⟩
            · rw [Ov, if_neg (by omega)]
            · rw [Ov, if_neg (by omega)]
              exact ⟨by omega, Or.inl (by rw [← hBq.1]; omega)⟩
            · rw [Ov, if_neg (by omega)]
            · rw [Ov, if_neg (by omega)]
              exact ⟨by omega, Or.inr (by rw [← hBq.1]; exact h5)⟩
            · rw [Ov, if_neg (by omega), ← hBq.1]
              rintro ⟨-, h | h⟩ <;> omega
            · rw [Ov, if_pos (by omega)]
              exact fun h => h.1 rfl
          · have hee2 : e = en := by
              by_cases h : e = en
              · exact h
              · have hk2 : k2 = en := by omega
                have h7 := x3 (en - 1) (by omega) (by omega)
                rcases hE.2.1 with h6 | h6
                · omega
                · rw [h6] at h7
                  exact absurd h7 (by decide)
            have hgeU : gP L e = (pkL L).length := by rw [hee2]; exact hlen.symm
            rw [show min R ((pkL L).length - gP L p) = gP L e - gP L p by omega]
            have Ov : bsO H (pkL L) R (fun p => (bsW H (pkL L) R1 R2 p).1) (gP L p) (gP L e) = 0 := by
              unfold bsO
              rw [if_pos hgeU]
            unfold BeR
            rw [(hsb _).mpr (if_pos (by
              rw [Ov, ← hBq.1]
              exact ⟨by decide, by omega⟩)), Ov]
            exact ⟨rfl, Or.inr ⟨e, rfl, rfl, by omega, hee, hnb (e - 1) (by omega) (by omega)⟩⟩
        · have : min R (gP L q - 1 - gP L p) = R := by
            rcases hqq with h | h
            · rw [h]
              omega
            · omega
          rw [this] at hBq
          rw [show min R ((pkL L).length - gP L p) = R by omega]
          exact hBq
      have s45 : ∀ (n q : Nat) (a b : Int), q + n = e → k < q → BeR H L R1 R2 en u R (gP L p) (min R (gP L q - 1 - gP L p)) a b → R_weighs3_45 ((u + p : Nat) : Int) ((u + en : Nat) : Int) (R : Int) a b us ((u + k : Nat) : Int) g ((u + e : Nat) : Int) ((u + q : Nat) : Int) σ Q := by
        intro n
        induction n with
        | zero =>
          intro q a b hqn hkq hBq
          refine R_weighs3_45.i ⟨by unfold Rg; omega, fun _ => s195 q a b hkq (by omega) (Or.inl (by omega)) hBq, fun h9 => absurd h9 (by omega)⟩
        | succ n ih2 =>
          intro q a b hqn hkq hBq
          have hgq := hgs q (by omega) (by omega)
          have hqs := hnb q (by omega) (by omega)
          have hqa := gP_at (L := L) (k := q) (by omega) hqs
          have hu3 : ((us + g) + ((u + q : Nat) : Int)) - ((u + k : Nat) : Int) = ((gP L q - gP L p : Nat) : Int) := by omega
          refine R_weighs3_45.i ⟨by unfold Rg; omega, fun h9 => absurd h9 (by omega), fun _ => ?_⟩
          rw [hu3, Int.toNat_natCast, hpt q (by omega) hqs]
          refine ⟨by unfold Rg; omega, by unfold Rg; omega, fun h9 => s195 q a b hkq (by omega) (Or.inr (by omega)) hBq, fun h9 => ⟨by omega, by omega, ?_⟩⟩
          rw [show min R (gP L q - 1 - gP L p) = gP L q - 1 - gP L p by omega] at hBq
          have n32q : ¬ (pkL L).getD (gP L q) 0 = 32 := fun h => by
            rw [hqa.1] at h
            exact n32 hqs h
          have nxq : nxA (pkL L) (gP L q) = gP L q := if_neg n32q
          have hgn := (gP_n (L := L) (k := q) (by omega) hqs).1
          have hsb : ∀ r, bsB H (pkL L) R (fun p => (bsW H (pkL L) R1 R2 p).1) (gP L p) (gP L q - gP L p) = r ↔ (if ¬ bsO H (pkL L) R (fun p => (bsW H (pkL L) R1 R2 p).1) (gP L p) (gP L q) = -1 ∧ ((bsB H (pkL L) R (fun p => (bsW H (pkL L) R1 R2 p).1) (gP L p) (gP L q - 1 - gP L p)).1 = -1 ∨ bsO H (pkL L) R (fun p => (bsW H (pkL L) R1 R2 p).1) (gP L p) (gP L q) ≤ (bsB H (pkL L) R (fun p => (bsW H (pkL L) R1 R2 p).1) (gP L p) (gP L q - 1 - gP L p)).1) then (bsO H (pkL L) R (fun p => (bsW H (pkL L) R1 R2 p).1) (gP L p) (gP L q), ((gP L q : Nat) : Int)) else bsB H (pkL L) R (fun p => (bsW H (pkL L) R1 R2 p).1) (gP L p) (gP L q - 1 - gP L p)) = r := fun r => by
            have e0 : gP L q - gP L p = (gP L q - 1 - gP L p) + 1 := by omega
            have e1 : gP L p + (gP L q - 1 - gP L p + 1) = gP L q := by omega
            rw [e0]
            show (if _ then _ else _) = r ↔ _
            rw [e1]
          have go : ∀ a2 b2, BeR H L R1 R2 en u R (gP L p) (gP L q - gP L p) a2 b2 → R_weighs3_189 ((u + p : Nat) : Int) ((u + en : Nat) : Int) (R : Int) a2 b2 us ((u + k : Nat) : Int) g ((u + e : Nat) : Int) ((u + q : Nat) : Int) σ Q := fun a2 b2 hB2 => by
            refine R_weighs3_189.i ?_
            rw [show ((u + q : Nat) : Int) + 1 = ((u + (q + 1) : Nat) : Int) by omega]
            refine ih2 (q + 1) a2 b2 (by omega) (by omega) ?_
            rw [show min R (gP L (q + 1) - 1 - gP L p) = gP L q - gP L p by omega]
            exact hB2
          have no : ¬ (¬ bsO H (pkL L) R (fun p => (bsW H (pkL L) R1 R2 p).1) (gP L p) (gP L q) = -1 ∧ ((bsB H (pkL L) R (fun p => (bsW H (pkL L) R1 R2 p).1) (gP L p) (gP L q - 1 - gP L p)).1 = -1 ∨ bsO H (pkL L) R (fun p => (bsW H (pkL L) R1 R2 p).1) (gP L p) (gP L q) ≤ (bsB H (pkL L) R (fun p => (bsW H (pkL L) R1 R2 p).1) (gP L p) (gP L q - 1 - gP L p)).1)) → R_weighs3_189 ((u + p : Nat) : Int) ((u + en : Nat) : Int) (R : Int) a b us ((u + k : Nat) : Int) g ((u + e : Nat) : Int) ((u + q : Nat) : Int) σ Q := fun h7 => go a b (by
            unfold BeR
            rw [(hsb _).mpr (if_neg h7)]
            exact hBq)
          have s107 : ∀ s1 : Int, ¬ ptD H (pkL L) (gP L q) = 0 → s1 = bZ (decide (ptD H (pkL L) (gP L q) = 2)) → R_weighs3_107 ((u + p : Nat) : Int) ((u + en : Nat) : Int) (R : Int) a b us ((u + k : Nat) : Int) g ((u + e : Nat) : Int) ((u + q : Nat) : Int) ((gP L q - gP L p : Nat) : Int) s1 σ Q := fun s1 hp0 hs1 => by
            have hs01 : s1 = 0 ∨ s1 = 1 := by
              rw [hs1]
              cases decide (ptD H (pkL L) (gP L q) = 2)
              · exact Or.inl rfl
              · exact Or.inr rfl
            have hiq : bsI H (pkL L) (gP L q) = true := decide_eq_true ⟨hqa.2, Or.inr (Or.inr hp0)⟩
            have co := hCo q (by omega) (by omega) hqs hiq
            have wg := bsW_g (H := H) (U := pkL L) h1 h2 (gP L q)
            have wv : (bsW H (pkL L) R1 R2 (gP L q)).1 = -1 ∨ (0 ≤ (bsW H (pkL L) R1 R2 (gP L q)).1 ∧ (bsW H (pkL L) R1 R2 (gP L q)).1 ≤ 460000000) := by
              rcases wg with e9 | ⟨e1, e2, -⟩
              · rw [e9]
                exact Or.inl rfl
              · exact Or.inr ⟨e1, by omega⟩
            have Ov : bsO H (pkL L) R (fun p => (bsW H (pkL L) R1 R2 p).1) (gP L p) (gP L q) = if (R : Int) - ((gP L q - gP L p : Nat) : Int) - s1 < 0 ∨ (bsW H (pkL L) R1 R2 (gP L q)).1 = -1 then -1 else ((R : Int) - ((gP L q - gP L p : Nat) : Int) - s1) * ((R : Int) - ((gP L q - gP L p : Nat) : Int) - s1) + 50 * s1 + (bsW H (pkL L) R1 R2 (gP L q)).1 := by
              unfold bsO
              rw [if_neg (by omega), if_neg (fun h => hp0 h.2), nxq, ← hs1]
            have ar := hBq.rg h1 h2 hR.2 (by omega) hUL (by omega) (by omega)
            refine R_weighs3_107.i ⟨by unfold Rg; omega, by unfold Rg; omega, fun h8 => no ?_, fun h8 => ⟨by omega, by omega, ?_⟩⟩
            · rw [Ov, if_pos (Or.inl (by omega))]
              exact fun h => h.1 rfl
            · rw [Int.toNat_natCast, co.1, hpt q (by omega) hqs]
              have sq := sq_b (x := (R : Int) - ((gP L q - gP L p : Nat) : Int) - s1) (by omega)
              have sqe : ((R : Int) - (((gP L q - gP L p : Nat) : Int) + s1)) * ((R : Int) - (((gP L q - gP L p : Nat) : Int) + s1)) = ((R : Int) - ((gP L q - gP L p : Nat) : Int) - s1) * ((R : Int) - ((gP L q - gP L p : Nat) : Int) - s1) := by
                rw [Int.sub_sub]
              rw [sqe]
              have s155 : ∀ s2 : Int, s2 = 50 * s1 → 0 ≤ (bsW H (pkL L) R1 R2 (gP L q)).1 → R_weighs3_155 ((u + p : Nat) : Int) ((u + en : Nat) : Int) (R : Int) a b us ((u + k : Nat) : Int) g ((u + e : Nat) : Int) ((u + q : Nat) : Int) (((R : Int) - ((gP L q - gP L p : Nat) : Int) - s1) * ((R : Int) - ((gP L q - gP L p : Nat) : Int) - s1)) s2 σ Q := fun s2 hs2 hw0 => by
                have Ov2 := Ov
                rw [if_neg (fun h => h.elim (fun h => by omega) (fun h => by omega)), ← hs2] at Ov2
                have yes : ∀ v : Int, v = bsO H (pkL L) R (fun p => (bsW H (pkL L) R1 R2 p).1) (gP L p) (gP L q) → (¬ bsO H (pkL L) R (fun p => (bsW H (pkL L) R1 R2 p).1) (gP L p) (gP L q) = -1 ∧ ((bsB H (pkL L) R (fun p => (bsW H (pkL L) R1 R2 p).1) (gP L p) (gP L q - 1 - gP L p)).1 = -1 ∨ bsO H (pkL L) R (fun p => (bsW H (pkL L) R1 R2 p).1) (gP L p) (gP L q) ≤ (bsB H (pkL L) R (fun p => (bsW H (pkL L) R1 R2 p).1) (gP L p) (gP L q - 1 - gP L p)).1)) → R_weighs3_181 ((u + p : Nat) : Int) ((u + en : Nat) : Int) (R : Int) us ((u + k : Nat) : Int) g ((u + e : Nat) : Int) ((u + q : Nat) : Int) v σ Q := fun v hv h7 => R_weighs3_181.i (go v _ (by
                  unfold BeR
                  rw [(hsb _).mpr (if_pos h7)]
                  exact ⟨hv, Or.inr ⟨q, rfl, rfl, by omega, by omega, hnb (q - 1) (by omega) (by omega)⟩⟩))
                refine R_weighs3_155.i ⟨by omega, by omega, ?_⟩
                rw [Int.toNat_natCast, co.1, ← Ov2]
                refine ⟨by unfold Rg; omega, fun h6 => yes _ rfl ⟨by omega, Or.inl (by rw [← hBq.1]; omega)⟩, fun h6 => ⟨by unfold Rg; omega, by unfold Rg; omega, fun h5 => yes _ rfl ⟨by omega, Or.inr (by rw [← hBq.1]; exact h5)⟩, fun h5 => no ?_⟩⟩
                rw [← hBq.1]
                rintro ⟨-, h | h⟩ <;> omega
              refine ⟨fun h7 => ⟨by omega, by omega, fun h6 => s155 0 ?_ h7, fun h6 => s155 50 ?_ h7⟩, fun h7 => no ?_⟩
              · rw [hs1, decide_eq_false h6]
                rfl
              · rw [hs1, decide_eq_true h6]
                rfl
              · rw [Ov, if_pos (Or.inr (by omega))]
                exact fun h => h.1 rfl
          refine ⟨fun h8 => ⟨by omega, by omega, fun h7 => s107 0 h8 ?_, fun h7 => s107 1 h8 ?_⟩, fun h8 => no ?_⟩
          · rw [decide_eq_false h7]
            rfl
          · rw [decide_eq_true h7]
            rfl
          · unfold bsO
            rw [if_neg (by omega), if_pos ⟨n32q, h8⟩]
            exact fun h => h.1 rfl
      show R_weighs3_45 ((u + p : Nat) : Int) ((u + en : Nat) : Int) (R : Int) a b us ((u + k : Nat) : Int) g ((u + e : Nat) : Int) (((u + k : Nat) : Int) + 1) σ Q
      rw [show ((u + k : Nat) : Int) + 1 = ((u + (k + 1) : Nat) : Int) by omega]
      refine s45 (e - (k + 1)) (k + 1) a b (by omega) (by omega) ?_
      rw [show gP L (k + 1) - 1 - gP L p = gP L k - gP L p by
        have := hgs (k + 1) (by omega) (by omega)
        omega]
      exact hB
    refine R_weighs3_12.i ⟨by unfold Rg; omega, by unfold Rg; omega, fun h9 => absurd h9 (by omega), fun _ => ⟨by unfold Rg; omega, fun h9 => s28 0 ?_ (by decide), fun h9 => s28 1 ?_ (by decide)⟩⟩
    · rcases hus with h | h
      · rw [h.1, h.2]
        omega
      · omega
    · rcases hus with h | h
      · omega
      · omega
/-- one place is weighed -/
theorem R_weighs3.p (hok : okK L) (hu : u + L.length ≤ 70000) (hE : EnD L en) (hG : hoG σ 254 255 u L) (hpt : ∀ j, j < en → sbl (L.getD j 0) = false → mV σ 256 (u + j) = ptD H (pkL L) (gP L j)) {p R : Nat} (hp : p < en) (hps : sbl (L.getD p 0) = false) (hi : bsI H (pkL L) (gP L p) = true) (h1 : R1 ≤ 80) (h2 : R2 ≤ 80) (hR : 1 ≤ R ∧ R ≤ 80) (hRe : R = if gP L p = 0 then R1 else R2) (hCo : CoR σ H L R1 R2 en u (p + 1)) (hq : ∀ σ' r, FrZ [340, 341] [] σ σ' → CoR σ' H L R1 R2 en u p → r = bZ (decide (¬ (bsW H (pkL L) R1 R2 (gP L p)).1 = -1)) → Q (.inl (some r)) σ') : R_weighs3 ((u + p : Nat) : Int) ((u + en : Nat) : Int) (R : Int) σ Q := by
  have hl := hE.1
  have hlen := hE.len
  have hUL : (pkL L).length ≤ L.length := by
    rw [hlen]
    exact Nat.le_trans (gP_le hl) hl
  have gpp := (gP_at (L := L) (k := p) (by omega) hps).2
  refine R_weighs3.i (we_12 hok hu hE hG hpt hp hps h1 h2 hR hCo (fun a b hB => ?_) (en - p) p 0 (-1) (-1) (by omega) (Nat.le_refl _) hp hps (Or.inl ⟨rfl, rfl⟩) (by omega) ?_)
  · have eW : bsW H (pkL L) R1 R2 (gP L p) = bsB H (pkL L) R (fun p => (bsW H (pkL L) R1 R2 p).1) (gP L p) (min R ((pkL L).length - gP L p)) := by
      rw [bsW_e, if_pos hi, ← hRe]
    have ar := hB.rg h1 h2 hR.2 (by omega) hUL (by omega) (by omega)
    have br := hB.2.rg hu hl
    unfold BeR at hB
    rw [← eW] at hB
    have co : CoR (wV (wV σ 340 (u + p) a) 341 (u + p) b) H L R1 R2 en u p := fun j hpj hje hjs hji => by
      by_cases e : j = p
      · rw [e, wV_ne (Or.inl (by decide)), wV_self, wV_self]
        exact hB
      · have := hCo j (by omega) hje hjs hji
        rw [wV_ne (Or.inl (by decide)), wV_ne (Or.inr (by omega)), wV_ne (Or.inr (by omega)), wV_ne (Or.inl (by decide))]
        exact this
    refine R_weighs3_300.i ⟨by omega, by omega, by unfold Rg; omega, by omega, by omega, br, by unfold Rg; omega, ?_, ?_⟩
    · rw [Int.toNat_natCast]
      refine fun h9 => hq _ 0 ((FrZ.wz (by decide)).tr (FrZ.wz (by decide))) co ?_
      rw [← hB.1, decide_eq_false (by omega)]
      rfl
    · rw [Int.toNat_natCast]
      refine fun h9 => hq _ 1 ((FrZ.wz (by decide)).tr (FrZ.wz (by decide))) co ?_
      rw [← hB.1, decide_eq_true (by omega)]
      rfl
  · rw [Nat.sub_self, Nat.min_zero]
    exact ⟨rfl, Or.inl ⟨rfl, rfl⟩⟩
theorem we_59 (hok : okK L) (hu : u + L.length ≤ 70000) (hE : EnD L en) (hG0 : hoG σ0 254 255 u L) (hpt0 : ∀ j, j < en → sbl (L.getD j 0) = false → mV σ0 256 (u + j) = ptD H (pkL L) (gP L j)) {bg : Nat} (hbg : bg < en) (hb0 : ∀ j, j < bg → sbl (L.getD j 0) = true) (hbs : sbl (L.getD bg 0) = false) (h1 : 1 ≤ R1 ∧ R1 ≤ 80) (h2 : 1 ≤ R2 ∧ R2 ≤ 80) (hq : ∀ σ' r, FrZ [340, 341] [163] σ0 σ' → CoR σ' H L R1 R2 en u bg → mV σ' 246 163 = mV σ' 341 (u + bg) → r = bZ (decide (¬ (bsW H (pkL L) R1 R2 0).1 = -1)) → Q (.inl (some r)) σ') : ∀ (n p : Nat) (σ : MS), p = bg + n → p < en → FrZ [340, 341] [163] σ0 σ → CoR σ H L R1 R2 en u (p + 1) → R_weighs4_59 ((u + bg : Nat) : Int) ((u + en : Nat) : Int) (R1 : Int) (R2 : Int) ((u + p : Nat) : Int) σ Q := by
  have hl := hE.1
  have gz := (gP_z (L := L) (n := bg) (by omega) hb0).1
  have gpb := (gP_at (L := L) (k := bg) (by omega) hbs).2
  intro n
  induction n with
  | zero =>
    intro p σ hpn hpe hf hCo
    have e : p = bg := by omega
    rw [e] at hCo ⊢
    have hG : hoG σ 254 255 u L := hG0.cg (fun k _ _ => ⟨hf.z (by decide) (by decide), hf.z (by decide) (by decide)⟩)
    refine R_weighs4_59.i ⟨by unfold Rg; omega, by unfold Rg; omega, fun _ => ?_, fun h9 => absurd h9 (by omega)⟩
    refine R_weighs3.p hok hu hE hG (fun j x y => (hf.z (by decide) (by decide)).trans (hpt0 j x y)) hbg hbs (decide_eq_true ⟨gpb, Or.inl gz⟩) h1.2 h2.2 h1 (by rw [if_pos gz]) hCo (fun σ' r f' c' hr => ?_)
    show 0 ≤ ((u + bg : Nat) : Int) ∧ _
    rw [gz] at hr
    refine ⟨by omega, by omega, b01.i ?_ (hq _ r ((hf.tr (f'.mo (fun x hx => hx) (fun x hx => absurd hx (by simp)))).tr (FrZ.wf (by decide))) (fun j x y z w => ?_) ?_ hr)⟩
    · rw [hr]
      cases decide (¬ (bsW H (pkL L) R1 R2 0).1 = -1)
      · exact Or.inl rfl
      · exact Or.inr rfl
    · have := c' j x y z w
      rw [wV_ne (Or.inl (by decide)), wV_ne (Or.inl (by decide))]
      exact this
    · rw [wV_self, wV_ne (Or.inl (by decide)), Int.toNat_natCast]
  | succ n ih =>
    intro p σ hpn hpe hf hCo
    have hG : hoG σ 254 255 u L := hG0.cg (fun k _ _ => ⟨hf.z (by decide) (by decide), hf.z (by decide) (by decide)⟩)
    have hpt : ∀ j, j < en → sbl (L.getD j 0) = false → mV σ 256 (u + j) = ptD H (pkL L) (gP L j) := fun j x y => (hf.z (by decide) (by decide)).trans (hpt0 j x y)
    have hu2 : u + L.length ≤ 139000 := by omega
    have okc := hok.gd (i := p) (by omega)
    have okd := hok.gd (i := p - 1) (by omega)
    have back : ∀ σ', FrZ [340, 341] [] σ σ' → CoR σ' H L R1 R2 en u p → R_weighs4_109 ((u + bg : Nat) : Int) ((u + en : Nat) : Int) (R1 : Int) (R2 : Int) ((u + p : Nat) : Int) σ' Q := fun σ' f c => by
      refine R_weighs4_109.i ?_
      rw [show ((u + p : Nat) : Int) + (-1) = ((u + (p - 1) : Nat) : Int) by omega]
      exact ih (p - 1) σ' (by omega) (by omega) (hf.tr (f.mo (fun x hx => hx) (fun x hx => absurd hx (by simp)))) (by rw [show p - 1 + 1 = p by omega]; exact c)
    have skip : (sbl (L.getD p 0) = false → bsI H (pkL L) (gP L p) = false) → R_weighs4_109 ((u + bg : Nat) : Int) ((u + en : Nat) : Int) (R1 : Int) (R2 : Int) ((u + p : Nat) : Int) σ Q := fun h => back σ FrZ.rf (fun j x y z w => by
      by_cases e : j = p
      · rw [e] at z w
        rw [h z] at w
        exact absurd w (by decide)
      · exact hCo j (by omega) y z w)
    have gpos : 0 < gP L p := by
      have := gP_mono (L := L) (j := bg + 1) (k := p) (by omega) (by omega)
      have h3 := (gP_n (L := L) (k := bg) (by omega) hbs).1
      omega
    have take : sbl (L.getD p 0) = false → bsI H (pkL L) (gP L p) = true → R_weighs4_99 ((u + bg : Nat) : Int) ((u + en : Nat) : Int) (R1 : Int) (R2 : Int) ((u + p : Nat) : Int) σ Q := fun hs hi => R_weighs4_99.i (R_weighs3.p hok hu hE hG hpt hpe hs hi h1.2 h2.2 h2 (by rw [if_neg (by omega)]) hCo (fun σ' r f' c' _ => back σ' f' c'))
    refine R_weighs4_59.i ⟨by unfold Rg; omega, by unfold Rg; omega, fun h9 => absurd h9 (by omega), fun _ => R_at.g hG hu2 (by omega) ⟨fun h9 => skip (fun h => ?_), fun h9 => ?_⟩⟩
    · rw [(rd_32 okc).mp h9] at h
      exact absurd h (by decide)
    · have hs : sbl (L.getD p 0) = false := by
        rw [← Bool.not_eq_true]
        exact fun h => h9 ((rd_32 okc).mpr h)
      have gpa := gP_at (L := L) (k := p) (by omega) hs
      rw [show ((u + p : Nat) : Int) - 1 = ((u + (p - 1) : Nat) : Int) by omega]
      refine R_at.g hG hu2 (by omega) ⟨fun h8 => take hs ?_, fun h8 => ⟨by omega, by omega, ?_⟩⟩
      · have hb := (rd_32 okd).mp h8
        rcases gP_32 (L := L) (k := p) (by omega) (by omega) hs hb with h | h
        · omega
        · exact decide_eq_true ⟨gpa.2, Or.inr (Or.inl h.2)⟩
      · rw [Int.toNat_natCast, hpt p hpe hs]
        refine ⟨fun h7 => skip (fun _ => decide_eq_false (fun h => ?_)), fun h7 => take hs (decide_eq_true ⟨gpa.2, Or.inr (Or.inr h7)⟩)⟩
        have hb : sbl (L.getD (p - 1) 0) = false := by
          rw [← Bool.not_eq_true]
          exact fun h => h8 ((rd_32 okd).mpr h)
        have ga := gP_a1 (L := L) (k := p) (by omega) (by omega) hb
        rcases h.2 with h | h | h
        · omega
        · rw [ga.2.2] at h
          exact n32 hb h
        · exact h h7
/-- all places are weighed -/
theorem R_weighs4.p (hok : okK L) (hu : u + L.length ≤ 70000) (hE : EnD L en) (hG0 : hoG σ 254 255 u L) (hpt0 : ∀ j, j < en → sbl (L.getD j 0) = false → mV σ 256 (u + j) = ptD H (pkL L) (gP L j)) {bg : Nat} (hbg : bg < en) (hb0 : ∀ j, j < bg → sbl (L.getD j 0) = true) (hbs : sbl (L.getD bg 0) = false) {W f h : Int} (hW0 : mV σ 275 0 = W) (hW : 12 ≤ W ∧ W ≤ 80) (hf : 0 ≤ f ∧ f ≤ 100) (hh : 0 ≤ h ∧ h ≤ 100) (hq : ∀ σ' r, FrZ [340, 341] [163] σ σ' → CoR σ' H L (rmO W f).toNat (rmO W h).toNat en u bg → mV σ' 246 163 = mV σ' 341 (u + bg) → r = bZ (decide (¬ (bsW H (pkL L) (rmO W f).toNat (rmO W h).toNat 0).1 = -1)) → Q (.inl (some r)) σ') : R_weighs4 ((u + bg : Nat) : Int) ((u + en : Nat) : Int) f h σ Q := by
  have hl := hE.1
  have f1 : rmO W f = max 4 (W - f) := rfl
  have f2 : rmO W h = max 4 (W - h) := rfl
  have z1 : rmO W f = (((rmO W f).toNat : Nat) : Int) := by omega
  have z2 : rmO W h = (((rmO W h).toNat : Nat) : Int) := by omega
  have s52 : R_weighs4_52 ((u + bg : Nat) : Int) ((u + en : Nat) : Int) (rmO W f) (rmO W h) σ Q := by
    refine R_weighs4_52.i ?_
    rw [z1, z2, show ((u + en : Nat) : Int) - 1 = ((u + (en - 1) : Nat) : Int) by omega]
    exact we_59 hok hu hE hG0 hpt0 hbg hb0 hbs (by omega) (by omega) hq (en - 1 - bg) (en - 1) σ (by omega) (by omega) FrZ.rf (fun j x y => by omega)
  have s24 : R_weighs4_24 ((u + bg : Nat) : Int) ((u + en : Nat) : Int) h (rmO W f) σ Q := by
    refine R_weighs4_24.i ⟨by decide, by decide, ?_⟩
    rw [hW0]
    refine ⟨by unfold Rg; omega, fun h9 => ⟨by decide, by decide, ?_⟩, fun h9 => ?_⟩
    · rw [show W - h = rmO W h by omega]
      exact s52
    · rw [show (4 : Int) = rmO W h by omega]
      exact s52
  refine R_weighs4.i ⟨by decide, by decide, ?_⟩
  rw [hW0]
  refine ⟨by unfold Rg; omega, fun h9 => ⟨by decide, by decide, ?_⟩, fun h9 => ?_⟩
  · rw [show W - f = rmO W f by omega]
    exact s24
  · rw [show (4 : Int) = rmO W f by omega]
    exact s24
/-- the lines: by the way that is told -/
def liX (H : HY9) (U : List Int) (R1 R2 : Nat) (best : Bool) : List (Nat × Nat × Bool) := if best = true ∧ ¬ (bsW H U R1 R2 0).1 = -1 then bsL H U R1 R2 U.length 0 else fiL H U R1 R2 U.length 0
theorem bsL_n {U : List Int} {n a : Nat} (h : U.length ≤ a) : bsL H U R1 R2 n a = [] := by
  cases n with
  | zero => rfl
  | succ n =>
    show (if U.length ≤ a then _ else _) = _
    rw [if_pos h]
theorem bsL_s {U : List Int} {n a : Nat} (h : a < U.length) : bsL H U R1 R2 (n + 1) a = (a, (bsW H U R1 R2 a).2.toNat, decide (ptD H U (bsW H U R1 R2 a).2.toNat = 2)) :: bsL H U R1 R2 n (nxA U (bsW H U R1 R2 a).2.toNat) := by
  show (if U.length ≤ a then _ else _) = _
  rw [if_neg (by omega)]
def FrFw (n : Nat) (σ σ' : MS) : Prop := FrZ (340 :: 341 :: 338 :: 339 :: MkS) [28, 32, 33, 98, 99, 160, 146, 147, 148, 163] σ σ' ∧ ∀ z k, z = 315 ∨ z = 316 ∨ z = 317 ∨ z = 318 → k < n → mV σ' z k = mV σ z k
theorem FrFw.i {n : Nat} {σ σ' : MS} (h : FrFi n σ σ') : FrFw n σ σ' := ⟨h.1.mo (fun x hx => List.mem_cons_of_mem _ (List.mem_cons_of_mem _ hx)) (fun x hx => by
  simp only [List.mem_cons, List.not_mem_nil, or_false] at hx ⊢
  omega), h.2⟩
theorem FrFw.w {n : Nat} {σ σ' : MS} (h : FrZ [340, 341] [163] σ σ') : FrFw n σ σ' := ⟨h.mo (fun x hx => by
  simp only [List.mem_cons, List.not_mem_nil, or_false] at hx
  rcases hx with rfl | rfl
  · exact List.mem_cons_self
  · exact List.mem_cons_of_mem _ List.mem_cons_self) (fun x hx => by
  simp only [List.mem_cons, List.not_mem_nil, or_false] at hx ⊢
  omega), fun z k hz _ => h.z (by simp only [List.mem_cons, List.not_mem_nil, or_false]; omega) (by omega)⟩
theorem FrFw.tr {n m : Nat} {σ σ1 σ2 : MS} (h : FrFw n σ σ1) (hnm : n ≤ m) (h' : FrFw m σ1 σ2) : FrFw n σ σ2 := ⟨h.1.tr h'.1, fun z k a b => (h'.2 z k a (by omega)).trans (h.2 z k a b)⟩
theorem RxG.w {σ σ' : MS} {G : GS9} (h : RxG σ G) (f : FrZ [340, 341] [163] σ σ') : RxG σ' G := ⟨(f.f (by decide) (by decide)).trans h.1, (f.f (by decide) (by decide)).trans h.2.1, (f.f (by decide) (by decide)).trans h.2.2.1, h.2.2.2.cg (f.f (by decide) (by decide)) (f.f (by decide) (by decide)) (fun z k hz _ => f.z (by simp only [List.mem_cons, List.not_mem_nil, or_false]; omega) (by omega)) (fun k _ => ⟨f.z (by decide) (by decide), f.z (by decide) (by decide)⟩)⟩
theorem fil_75b {P : List Int} {hg J W c o : Int} {G : GS9} {fw : Bool} (hu7 : u + L.length ≤ 70000) (hok : okK L) (hL6 : L.length ≤ 69000) (hu : u + L.length ≤ 139000) (hG0 : hoG σ 254 255 u L) (hpt0 : ∀ j, j < L.length → mV σ 256 (u + j) = ptD H L j) (hP0 : AhR σ P) (hP6 : P.length ≤ 64) (hh : 0 ≤ hg ∧ hg ≤ 100) (hW0 : mV σ 275 0 = W) (hW : 12 ≤ W ∧ W ≤ 80) (hJ : 0 ≤ J ∧ J ≤ 3) (ho : mV σ 246 29 = o) (hc : c ≤ 0) (hG : RxG σ G) (hB : GB9 c G) {bg : Nat} (hE : EnD L en) (hbg : bg < en) (h0 : ∀ j, j < bg → sbl (L.getD j 0) = true) (hs : sbl (L.getD bg 0) = false) (hCo : CoR σ H L (rmO W (P.length : Int)).toNat (rmO W hg).toNat en u bg) (h163 : mV σ 246 163 = mV σ 341 (u + bg)) (hw0 : ¬ (bsW H (pkL L) (rmO W (P.length : Int)).toNat (rmO W hg).toNat 0).1 = -1) (hy : ∀ G' σ', gAll o fw (prA P hg J W (pkL L) 0 (bsL H (pkL L) (rmO W (P.length : Int)).toNat (rmO W hg).toNat (pkL L).length 0)) G = .inl G' → RxG σ' G' → FrFi G.2.1.length σ σ' → LbI σ' G.2.1.length u L (bsL H (pkL L) (rmO W (P.length : Int)).toNat (rmO W hg).toNat (pkL L).length 0) → Q (.inl (some ((G'.2.1.length : Int) - (G.2.1.length : Int)))) σ') (hno : ∀ e σ' (x : Int), Rg x → gAll o fw (prA P hg J W (pkL L) 0 (bsL H (pkL L) (rmO W (P.length : Int)).toNat (rmO W hg).toNat (pkL L).length 0)) G = .inr e → TxR σ' e → FrFi G.2.1.length σ σ' → Q (.inl (some x)) σ') : R_filled_75 (P.length : Int) hg J ((u + bg : Nat) : Int) ((u + en : Nat) : Int) (G.2.1.length : Int) 1 σ Q := by
  have e9 := hG.2.2.2.1
  have b3 := hB.2.2.1
  have hl := hE.1
  have hlen := hE.len
  have gz := (gP_z (L := L) (n := bg) (by omega) h0).1
  have gpl : (pkL L).length ≤ L.length := by
    rw [hlen]
    exact Nat.le_trans (gP_le hl) hl
  have pw : ∀ n, prW P hg n = if n = 0 then (P.length : Int) else hg := fun n => rfl
  have r1 : rmO W (P.length : Int) = max 4 (W - (P.length : Int)) := rfl
  have r2 : rmO W hg = max 4 (W - hg) := rfl
  have hRn : ∀ (n a : Nat), (n = 0 ↔ a = 0) → (if a = 0 then (rmO W (P.length : Int)).toNat else (rmO W hg).toNat) = (rmO W (prW P hg n)).toNat := fun n a hna => by
    unfold prW
    by_cases h : n = 0
    · rw [if_pos h, if_pos (hna.mp h)]
    · rw [if_neg h, if_neg (fun h9 => h (hna.mpr h9))]
  have rb : ∀ n, 4 ≤ rmO W (prW P hg n) ∧ rmO W (prW P hg n) ≤ 80 := fun n => by
    unfold rmO prW
    split <;> omega
  have wg := fun a => bsW_g (H := H) (U := pkL L) (R1 := (rmO W (P.length : Int)).toNat) (R2 := (rmO W hg).toNat) (by omega) (by omega) a
  refine R_filled_75.i ?_
  have := fir_84 (fw := fw) (c := c) (had := (G.2.1.length : Int)) (l10 := 1) (X := bsL H (pkL L) (rmO W (P.length : Int)).toNat (rmO W hg).toNat) (I := fun a => ¬ (bsW H (pkL L) (rmO W (P.length : Int)).toNat (rmO W hg).toNat a).1 = -1) (S := fun a => (bsW H (pkL L) (rmO W (P.length : Int)).toNat (rmO W hg).toNat a).2.toNat) (B := fun a => decide (ptD H (pkL L) (bsW H (pkL L) (rmO W (P.length : Int)).toNat (rmO W hg).toNat a).2.toNat = 2)) (fun n a h => bsL_n h) (fun n a h => bsL_s h) (fun n a hna ha hI => by
    show (((bsW H (pkL L) (rmO W (P.length : Int)).toNat (rmO W hg).toNat a).2.toNat - a : Nat) : Int) + bZ (decide (ptD H (pkL L) (bsW H (pkL L) (rmO W (P.length : Int)).toNat (rmO W hg).toNat a).2.toNat = 2)) ≤ _
    rcases wg a with e | ⟨-, -, t, w3, w4, w5, w6, w7⟩
    · exact absurd (by rw [e]) hI
    rw [w3, Int.toNat_natCast]
    rw [hRn n a hna] at w6 w7
    have := rb n
    rcases w7 with w7 | w7
    · rw [pt_e (by omega)]
      show _ + (0 : Int) ≤ _
      omega
    · omega) (fun a ha hI hn => by
    show ¬ (bsW H (pkL L) (rmO W (P.length : Int)).toNat (rmO W hg).toNat (nxA (pkL L) (bsW H (pkL L) (rmO W (P.length : Int)).toNat (rmO W hg).toNat a).2.toNat)).1 = -1
    have hn : nxA (pkL L) (bsW H (pkL L) (rmO W (P.length : Int)).toNat (rmO W hg).toNat a).2.toNat < (pkL L).length := hn
    rcases wg a with e | ⟨-, -, t, w3, w4, w5, w6, w7⟩
    · exact absurd (by rw [e]) hI
    rw [w3, Int.toNat_natCast] at hn ⊢
    rcases w7 with w7 | w7
    · have : t ≤ nxA (pkL L) t := by
        unfold nxA
        split <;> omega
      omega
    · exact w7.2.2) hok hu hE hG0 hP0 hP6 hh hW0 hW hJ ho hc (by omega) (fun k n n0 σ1 Q1 hk hks hn7 hnk hI hf hq1 => by
    have hI : ¬ (bsW H (pkL L) (rmO W (P.length : Int)).toNat (rmO W hg).toNat (gP L k)).1 = -1 := hI
    have hgk := (gP_at (L := L) (k := k) (by omega) hks).2
    have hbk : bg ≤ k := by
      by_cases h : bg ≤ k
      · exact h
      · rw [h0 k (by omega)] at hks
        exact absurd hks (by decide)
    have hi : bsI H (pkL L) (gP L k) = true := by
      cases e : bsI H (pkL L) (gP L k)
      · refine absurd ?_ hI
        rw [bsW_e, e]
        rfl
      · rfl
    have co := hCo k hbk hk hks hi
    have e341 : mV σ1 341 (u + k) = mV σ 341 (u + k) := hf.1.z (by decide) (by decide)
    have e163 : mV σ1 246 163 = mV σ 246 163 := hf.1.f (by decide) (by decide)
    rcases wg (gP L k) with e | ⟨-, -, t, w3, w4, w5, w6, w7⟩
    · exact absurd (by rw [e]) hI
    rcases co.2 with e | ⟨e, v1, v2, v3, v4, v5⟩
    · rw [e.1] at w3
      omega
    have hte : t = gP L e := by omega
    have hke : k < e := by
      by_cases h : k < e
      · exact h
      · have := gP_mono (L := L) (j := e) (k := k) (by omega) (by omega)
        omega
    have hG1 : hoG σ1 254 255 u L := hG0.cg (fun k _ _ => ⟨hf.1.z (by decide) (by decide), hf.1.z (by decide) (by decide)⟩)
    have hq2 : ∀ b nx σ2, FrZ [] [146, 147, 148] σ1 σ2 → mV σ2 246 146 = ((u + b : Nat) : Int) → mV σ2 246 147 = ((u + nx : Nat) : Int) → mV σ2 246 148 = bZ (decide (ptD H (pkL L) (gP L e) = 2)) → FiR L en k b nx (gP L e) → R_filled_239 (P.length : Int) hg J ((u + en : Nat) : Int) (G.2.1.length : Int) 1 (n : Int) (prW P hg n) (rmO W (prW P hg n)) ((u + k : Nat) : Int) σ2 Q1 := fun b nx σ2 y1 y2 y3 y4 y5 => by
      have := hq1 b nx σ2 y1 y2 y3
      rw [w3, Int.toNat_natCast, hte] at this
      exact this y4 y5
    have s168 : R_filled_168 (P.length : Int) hg J ((u + en : Nat) : Int) (G.2.1.length : Int) 1 (n : Int) (prW P hg n) (rmO W (prW P hg n)) ((u + k : Nat) : Int) ((u + e : Nat) : Int) σ1 Q1 := by
      have s211 : ∀ (s1 : Int) (nx : Nat), s1 = bZ (decide (ptD H (pkL L) (gP L e) = 2)) → R_filled_211 (P.length : Int) hg J ((u + en : Nat) : Int) (G.2.1.length : Int) 1 (n : Int) (prW P hg n) (rmO W (prW P hg n)) ((u + k : Nat) : Int) ((u + e : Nat) : Int) s1 (wV σ1 246 146 ((u + e : Nat) : Int)) Q1 := fun s1 _ hs1 => by
        refine R_filled_211.i (b01.i ?_ (R_behindBlanks.p hok hu (hG1.cg (fun k _ _ => ⟨by rw [wV_ne (Or.inl (by decide)), wV_ne (Or.inl (by decide))], by rw [wV_ne (Or.inl (by decide)), wV_ne (Or.inl (by decide))]⟩)) hl v4 (fun nx x1 x2 x3 x4 => ?_)))
        · rw [hs1]
          cases decide (ptD H (pkL L) (gP L e) = 2)
          · exact Or.inl rfl
          · exact Or.inr rfl
        · show R_filled_239 (P.length : Int) hg J ((u + en : Nat) : Int) (G.2.1.length : Int) 1 (n : Int) (prW P hg n) (rmO W (prW P hg n)) ((u + k : Nat) : Int) (wV (wV (wV σ1 246 146 ((u + e : Nat) : Int)) 246 148 s1) 246 147 ((u + nx : Nat) : Int)) Q1
          refine hq2 e nx _ (((FrZ.wf (by decide)).tr (FrZ.wf (by decide))).tr (FrZ.wf (by decide))) ?_ wV_self ?_ ⟨⟨hke, x1, x2⟩, rfl, ?_, v5, x4, x3⟩
          · rw [wV_ne (Or.inr (by decide)), wV_ne (Or.inr (by decide)), wV_self]
          · rw [wV_ne (Or.inr (by decide)), wV_self]
            exact hs1
          · by_cases hen : nx = e
            · rw [hen]
              unfold nxA
              rw [if_neg]
              intro h32
              rcases x4 with h | h
              · rw [← hen, h, ← hlen] at h32
                unfold List.getD at h32
                rw [List.getElem?_eq_none (Nat.le_refl _)] at h32
                exact absurd h32 (by decide)
              · rw [hen] at h
                have hel : e < L.length := by
                  by_cases h9 : e < L.length
                  · exact h9
                  · have : gP L e = (pkL L).length := by rw [show e = en by omega]; exact hlen.symm
                    rw [this] at h32
                    unfold List.getD at h32
                    rw [List.getElem?_eq_none (Nat.le_refl _)] at h32
                    exact absurd h32 (by decide)
                rw [(gP_at (L := L) (k := e) hel h).1] at h32
                exact n32 h h32
            · have hnx : nx < en := by
                by_cases h : nx = en
                · have h7 := x3 (en - 1) (by omega) (by omega)
                  rcases hE.2.1 with h6 | h6
                  · omega
                  · rw [h6] at h7
                    exact absurd h7 (by decide)
                · omega
              have st := fi_st (R := 1) hE (a := k) (e := e) (k := nx) hke (by omega) hnx (x4.resolve_left (by omega)) v5 x3
              unfold nxA
              rw [if_pos st.2.2.1]
              exact st.1
      have no : ¬ ptD H (pkL L) (gP L e) = 2 → ∀ nx : Nat, R_filled_210 (P.length : Int) hg J ((u + en : Nat) : Int) (G.2.1.length : Int) 1 (n : Int) (prW P hg n) (rmO W (prW P hg n)) ((u + k : Nat) : Int) ((u + e : Nat) : Int) (wV σ1 246 146 ((u + e : Nat) : Int)) Q1 := fun h nx => R_filled_210.i (s211 0 nx (by rw [decide_eq_false h]; rfl))
      refine R_filled_168.i ⟨by unfold Rg; omega, fun h9 => no ?_ 0, fun h9 => R_at.g (hG1.cg (fun k _ _ => ⟨wV_ne (Or.inl (by decide)), wV_ne (Or.inl (by decide))⟩)) hu (by omega) ⟨fun h8 => no ?_ 0, fun h8 => ⟨by omega, by omega, ?_⟩⟩⟩
      · rw [show e = en by omega, ← hlen, pt_e (Nat.le_refl _)]
        decide
      · have hb := (rd_32 (hok.gd (i := e) (by omega))).mp h8
        have hw := gP_w (L := L) (e := e) (by omega) (by omega) v5 (Or.inr hb)
        rcases hw with hw | hw
        · rw [pt_e hw]
          decide
        · rw [pt_b (by rw [hw]; decide)]
          decide
      · have hb : sbl (L.getD e 0) = false := by
          rw [← Bool.not_eq_true]
          exact fun h => h8 ((rd_32 (hok.gd (i := e) (by omega))).mpr h)
        rw [Int.toNat_natCast, wV_ne (Or.inl (by decide)), hf.1.z (z := 256) (by decide) (by decide), hpt0 e (by omega), ← pt_pk (by omega) hb]
        exact ⟨fun h7 => no h7 0, fun h7 => s211 1 0 (by rw [decide_eq_true h7]; rfl)⟩
    refine R_filled_138.i ⟨fun h => absurd h (by decide), fun _ => ⟨by unfold Rg; omega, fun h9 => ⟨by omega, by omega, ?_⟩, fun h9 => ?_⟩⟩
    · rw [Int.toNat_natCast, e341, v1]
      exact s168
    · have hkb : k = bg := by
        have hg0 := hnk.mp (by omega)
        by_cases h : k = bg
        · exact h
        · have := gP_mono (L := L) (j := bg + 1) (k := k) (by omega) (by omega)
          have h3 := (gP_n (L := L) (k := bg) (by omega) hs).1
          omega
      rw [e163, h163, ← hkb, v1]
      exact s168) (pkL L).length bg 0 σ G G.2.1.length Q (by omega) (Or.inr hs) (by omega) (by omega) ⟨fun _ => gz, fun _ => rfl⟩ (fun _ => by
    show ¬ (bsW H (pkL L) (rmO W (P.length : Int)).toNat (rmO W hg).toNat (gP L bg)).1 = -1
    rw [gz]
    exact hw0) (Nat.le_refl _) FrFi.rf hG hB
  rw [gz] at this
  exact this hy hno
/-- a row is filled by the way that is told -/
theorem R_filled.w {P : List Int} {hg J W c o : Int} {G : GS9} {fw best : Bool} (hu7 : u + L.length ≤ 70000) (hok : okK L) (hL6 : L.length ≤ 69000) (hu : u + L.length ≤ 139000) (hG0 : hoG σ 254 255 u L) (hpt0 : ∀ j, j < L.length → mV σ 256 (u + j) = ptD H L j) (hP0 : AhR σ P) (hP6 : P.length ≤ 64) (hh : 0 ≤ hg ∧ hg ≤ 100) (hW0 : mV σ 275 0 = W) (hW : 12 ≤ W ∧ W ≤ 80) (hJ : 0 ≤ J ∧ J ≤ 3) (ho : mV σ 246 29 = o) (hc : c ≤ 0) (hG : RxG σ G) (hB : GB9 c G) (hy : ∀ G' σ', gAll o fw (prA P hg J W (pkL L) 0 (liX H (pkL L) (rmO W (P.length : Int)).toNat (rmO W hg).toNat best)) G = .inl G' → RxG σ' G' → FrFw G.2.1.length σ σ' → LbI σ' G.2.1.length u L (liX H (pkL L) (rmO W (P.length : Int)).toNat (rmO W hg).toNat best) → Q (.inl (some ((G'.2.1.length : Int) - (G.2.1.length : Int)))) σ') (hno : ∀ e σ' (x : Int), Rg x → gAll o fw (prA P hg J W (pkL L) 0 (liX H (pkL L) (rmO W (P.length : Int)).toNat (rmO W hg).toNat best)) G = .inr e → TxR σ' e → FrFw G.2.1.length σ σ' → Q (.inl (some x)) σ') : R_filled (u : Int) ((u + L.length : Nat) : Int) (bZ best) (P.length : Int) hg J σ Q := by
  have e9 := hG.2.2.2.1
  have key := R_behindBlanks.p (Q := kI (thQ Q) fun r1 σ1 => R_filled_11 (bZ best) (P.length : Int) hg J r1 ((u + L.length : Nat) : Int) σ1 Q) (k := 0) hok hu hG0 (Nat.le_refl _) (Nat.zero_le _) (fun bg _ hbl h0 hs => by
    show R_filled_11 (bZ best) (P.length : Int) hg J ((u + bg : Nat) : Int) ((u + L.length : Nat) : Int) σ Q
    have h0 : ∀ j, j < bg → sbl (L.getD j 0) = true := fun j hj => h0 j (Nat.zero_le _) hj
    refine fil_11 hok hu hG0 hbl h0 hs (fun en hE h1 h2 => ?_) (L.length - bg) L.length (by omega) (Nat.le_refl _) (fun j x y => by omega)
    have hl := hE.1
    have hlen := hE.len
    have zero : ∀ (σ1 : MS), FrZ [340, 341] [163] σ σ1 → ¬ (best = true ∧ ¬ (bsW H (pkL L) (rmO W (P.length : Int)).toNat (rmO W hg).toNat 0).1 = -1) → R_filled_74 (P.length : Int) hg J ((u + bg : Nat) : Int) ((u + max bg en : Nat) : Int) (G.2.1.length : Int) σ1 Q := fun σ1 f1 hb => by
      have eX : liX H (pkL L) (rmO W (P.length : Int)).toNat (rmO W hg).toNat best = fiL H (pkL L) (rmO W (P.length : Int)).toNat (rmO W hg).toNat (pkL L).length 0 := if_neg hb
      rw [eX] at hy hno
      exact R_filled_74.i (fil_75z (H := H) hok hL6 hu (hG0.cg (fun k _ _ => ⟨f1.z (by decide) (by decide), f1.z (by decide) (by decide)⟩)) (fun j hj => (f1.z (by decide) (by decide)).trans (hpt0 j hj)) (hP0.cg (f1.f (by decide) (by decide)) (fun k => f1.z (by decide) (by decide))) hP6 hh ((f1.z (by decide) (by decide)).trans hW0) hW hJ ((f1.f (by decide) (by decide)).trans ho) hc (hG.w f1) hB hE hbl h0 hs h1 h2 (fun G' σ' q1 q2 q3 q4 => hy G' σ' q1 q2 ((FrFw.w f1).tr (Nat.le_refl _) (FrFw.i q3)) q4) (fun e σ' x hx q1 q2 q3 => hno e σ' x hx q1 q2 ((FrFw.w f1).tr (Nat.le_refl _) (FrFw.i q3))))
    refine R_filled_37.i ⟨by cases best <;> decide, ?_, ?_⟩
    · rw [e9]
      exact fun h9 => zero σ FrZ.rf (fun h => h9 (by rw [h.1]; rfl))
    · rw [e9]
      refine fun h9 => ⟨by unfold Rg; omega, fun h8 => zero σ FrZ.rf (fun h => h.2 ?_), fun h8 => ?_⟩
      · have hbL : bg = L.length := by
          by_cases h : bg = L.length
          · exact h
          · have := h1 (by omega)
            omega
        rw [bsW_e, bsI_n (by rw [hlen, h2 hbL]; exact Nat.le_refl _)]
        rfl
      · have hben : bg < en := by omega
        have hbst : best = true := by
          cases best
          · exact absurd h9 (by decide)
          · rfl
        rw [show max bg en = en by omega] at zero ⊢
        have hsb : sbl (L.getD bg 0) = false := hs.resolve_left (by omega)
        refine R_weighs4.p (H := H) hok hu7 hE hG0 (fun j hj hjs => (hpt0 j (by omega)).trans (pt_pk (by omega) hjs).symm) hben h0 hsb hW0 hW (by omega) hh (fun σ1 r f1 c1 e1 hr => ?_)
        show (r = 0 → _) ∧ (¬ r = 0 → _)
        refine ⟨fun h7 => zero σ1 f1 (fun h => ?_), fun h7 => ?_⟩
        · rw [hr] at h7
          exact of_decide_eq_false (bZ_z h7) h.2
        · rw [hr] at h7
          have hw0 := of_decide_eq_true (bZ_ne h7)
          have eX : liX H (pkL L) (rmO W (P.length : Int)).toNat (rmO W hg).toNat best = bsL H (pkL L) (rmO W (P.length : Int)).toNat (rmO W hg).toNat (pkL L).length 0 := if_pos ⟨hbst, hw0⟩
          rw [eX] at hy hno
          exact fil_75b hu7 hok hL6 hu (hG0.cg (fun k _ _ => ⟨f1.z (by decide) (by decide), f1.z (by decide) (by decide)⟩)) (fun j hj => (f1.z (by decide) (by decide)).trans (hpt0 j hj)) (hP0.cg (f1.f (by decide) (by decide)) (fun k => f1.z (by decide) (by decide))) hP6 hh ((f1.z (by decide) (by decide)).trans hW0) hW hJ ((f1.f (by decide) (by decide)).trans ho) hc (hG.w f1) hB hE hben h0 hsb c1 e1 hw0 (fun G' σ' q1 q2 q3 q4 => hy G' σ' q1 q2 ((FrFw.w f1).tr (Nat.le_refl _) (FrFw.i q3)) q4) (fun e σ' x hx q1 q2 q3 => hno e σ' x hx q1 q2 ((FrFw.w f1).tr (Nat.le_refl _) (FrFw.i q3))))
  rw [Nat.add_zero] at key
  exact R_filled.i key
end
