/-! TABLES: a cell's part of a row's line, the reference -/
/-- trimmed signs of a cell, with their points -/
def CvR (σ : MS) (H : HY9) (u : Nat) (V : List Int) : Prop := okK V ∧ u + V.length ≤ 139000 ∧ EnD V V.length ∧ hoG σ 254 255 u V ∧ ∀ j, j < V.length → mV σ 256 (u + j) = ptD H V j
/-- the cursor of column k ahead of line i -/
def CuR (σ : MS) (H : HY9) (W : List Int) (u : Nat → Nat) (V : Nat → List Int) (row : List (List Int)) (i k : Nat) : Prop := ∃ p n, p ≤ (V k).length ∧ mV σ 347 k = ((u k + p : Nat) : Int) ∧ (p = (V k).length ∨ sbl ((V k).getD p 0) = false) ∧ (pkL (V k)).length ≤ gP (V k) p + n ∧ (tpX H W row k).drop i = fiL (false, H.2) (pkL (V k)) (W.getD k 0).toNat (W.getD k 0).toNat n (gP (V k) p)
def moB (X : Nat → List (Nat × Nat × Bool)) (i : Nat) : Nat → Bool
  | 0 => false
  | k + 1 => moB X i k || decide (i + 1 < (X k).length)
theorem moB_i {X : Nat → List (Nat × Nat × Bool)} {i : Nat} : ∀ c, moB X i c = true ↔ i + 1 < tpN (fun k => (X k).length) c ∧ ∃ k, k < c ∧ i + 1 < (X k).length
  | 0 => by
    constructor
    · intro h
      cases h
    · rintro ⟨_, k, h, _⟩
      exact absurd h (Nat.not_lt_zero _)
  | c + 1 => by
    have ih := moB_i (X := X) (i := i) c
    show (moB X i c || decide (i + 1 < (X c).length)) = true ↔ i + 1 < max (tpN (fun k => (X k).length) c) ((X c).length) ∧ _
    rw [Bool.or_eq_true, decide_eq_true_iff, ih]
    constructor
    · rintro (⟨h1, k, h2, h3⟩ | h)
      · exact ⟨by omega, k, by omega, h3⟩
      · exact ⟨by omega, c, by omega, h⟩
    · rintro ⟨_, k, h2, h3⟩
      by_cases e : k = c
      · subst e
        exact Or.inr h3
      · refine Or.inl ⟨?_, k, by omega, h3⟩
        have : ∀ d, k < d → (X k).length ≤ tpN (fun k => (X k).length) d := by
          intro d
          induction d with
          | zero => intro h; exact absurd h (Nat.not_lt_zero _)
          | succ d ihd =>
            intro h
            show _ ≤ max _ _
            by_cases e2 : k = d
            · subst e2
              exact Nat.le_max_right _ _
            · exact Nat.le_trans (ihd (by omega)) (Nat.le_max_left _ _)
        have := this c (by omega)
        omega
theorem tpN_1 {f : Nat → Nat} : ∀ c, 1 ≤ tpN f c
  | 0 => Nat.le_refl _
  | c + 1 => Nat.le_trans (tpN_1 c) (Nat.le_max_left _ _)
theorem tpN_x {f : Nat → Nat} : ∀ c, tpN f c = 1 ∨ ∃ k, k < c ∧ f k = tpN f c
  | 0 => Or.inl rfl
  | c + 1 => by
    show max _ _ = 1 ∨ ∃ k, k < c + 1 ∧ f k = max _ _
    rcases Nat.le_total (tpN f c) (f c) with h | h
    · exact Or.inr ⟨c, by omega, by omega⟩
    · rcases tpN_x (f := f) c with h1 | ⟨k, h1, h2⟩
      · exact Or.inl (by omega)
      · exact Or.inr ⟨k, by omega, by omega⟩
/-- there is more just where line i isn't the last -/
theorem moB_m {X : Nat → List (Nat × Nat × Bool)} {i c : Nat} : moB X i c = decide (i + 1 < tpN (fun k => (X k).length) c) := by
  cases e : moB X i c
  · refine (decide_eq_false (fun h => ?_)).symm
    have h1 : ¬ moB X i c = true := by rw [e]; decide
    rcases tpN_x (f := fun k => (X k).length) c with h2 | ⟨k, h2, h3⟩
    · omega
    · have h3 : (X k).length = tpN (fun k => (X k).length) c := h3
      exact h1 ((moB_i c).mpr ⟨h, k, h2, by omega⟩)
  · exact (decide_eq_true ((moB_i c).mp e).1).symm
theorem prG_0 {all : Int} : ∀ (M : List Int) (g : Int), 0 ≤ g → prG true all 0 0 g M = M
  | [], _, _ => rfl
  | c :: r, g, hg => by
    have o0 : prO true all 0 g = 0 := by
      unfold prO
      simp only [if_true]
      rw [if_neg (by omega)]
    unfold prG
    by_cases h : c = 32
    · rw [if_pos h, o0, prG_0 r (g + 1) (by omega)]
      rfl
    · rw [if_neg h, prG_0 r g hg]
theorem tpK_0 {W al : Int} (hW : 0 ≤ W) : tpK W al [] = List.replicate W.toNat 32 := by
  have hb := tpA_b (al := al) (left := W) hW
  unfold tpK
  have e : max 0 (W - (([] : List Int).length : Int)) = W := by
    show max 0 (W - ((0 : Nat) : Int)) = W
    omega
  rw [e, List.append_nil, List.replicate_append_replicate]
  congr 1
  omega
theorem cu_s {H : HY9} {X : List (Nat × Nat × Bool)} {V : List Int} {w p n i : Nat} (hp : p < V.length) (hb : sbl (V.getD p 0) = false) (hn : (pkL V).length ≤ gP V p + n) (hd : X.drop i = fiL H (pkL V) w w n (gP V p)) : i < X.length ∧ X.getD i (0, 0, false) = (gP V p, fiS H (pkL V) (gP V p) w, fiP H (pkL V) (gP V p) w) ∧ ∃ n', n = n' + 1 ∧ X.drop (i + 1) = fiL H (pkL V) w w n' (nxA (pkL V) (fiS H (pkL V) (gP V p) w)) := by
  have ga := (gP_at hp hb).2
  obtain ⟨n', rfl⟩ : ∃ n', n = n' + 1 := ⟨n - 1, by omega⟩
  rw [fiL_s ga, ite_self] at hd
  have h1 : i < X.length := by
    rcases Nat.lt_or_ge i X.length with h | h
    · exact h
    · rw [List.drop_eq_nil_of_le h] at hd
      cases hd
  rw [List.drop_eq_getElem_cons h1] at hd
  have h2 := List.cons.inj hd
  refine ⟨h1, ?_, n', rfl, h2.2⟩
  unfold List.getD
  rw [List.getElem?_eq_getElem h1]
  exact h2.1
theorem cu_e {H : HY9} {X : List (Nat × Nat × Bool)} {V : List Int} {w n i : Nat} (hE : EnD V V.length) (hd : X.drop i = fiL H (pkL V) w w n (gP V V.length)) : X.length ≤ i := by
  rw [fiL_n (by rw [hE.len]; exact Nat.le_refl _)] at hd
  exact List.drop_eq_nil_iff.mp hd
theorem tpI_e {U : List Int} {X : List (Nat × Nat × Bool)} {i : Nat} (h : X.length ≤ i) : tpI U X i = [] := by
  unfold tpI
  rw [if_neg (by omega)]
section
variable {σ σ0 : MS} {Q : MQ9} {H : HY9} {W A : List Int} {u : Nat → Nat} {V : Nat → List Int} {row : List (List Int)} {i : Nat}
theorem CvR.z {S K : List Nat} {σ1 : MS} {k : Nat} {L : List Int} (h : CvR σ H k L) (f : FrZ S K σ σ1) (hs : ∀ z ∈ [254, 255, 256], z ∉ S) : CvR σ1 H k L := ⟨h.1, h.2.1, h.2.2.1, fun j hj => ⟨(f.z (hs _ (by decide)) (by decide)).trans (h.2.2.2.1 j hj).1, (f.z (hs _ (by decide)) (by decide)).trans (h.2.2.2.1 j hj).2⟩, fun j hj => (f.z (hs _ (by decide)) (by decide)).trans (h.2.2.2.2 j hj)⟩
theorem CuR.k {σ1 : MS} {k : Nat} (h : CuR σ H W u V row i k) (e : mV σ1 347 k = mV σ 347 k) : CuR σ1 H W u V row i k := by
  obtain ⟨p, n, h1, h2, h3⟩ := h
  exact ⟨p, n, h1, e.trans h2, h3⟩
/-- a cell that has ended, or none -/
theorem rrw_160 {l1 l2 l3 l5 : Int} {k : Nat} {D : List Int} (hk : k < 8) (hW : mV σ 346 k = W.getD k 0) (hWb : 1 ≤ W.getD k 0 ∧ W.getD k 0 ≤ 80) (hD : LbR σ D) (hl : D.length ≤ 300) {T : List Int} (hT : T = []) {al : Int} (hq : ∀ σ', FrZ [338, 339] [160] σ σ' → LbR σ' (D ++ tpK (W.getD k 0) al T) → R_row_84 l1 l2 l3 l5 ((k : Int) + 1) σ' Q) : R_row_160 l1 l2 l3 l5 (k : Int) σ Q := by
  refine R_row_160.i ⟨by omega, by omega, ?_⟩
  rw [Int.toNat_natCast, hW]
  refine R_blanks.p (by omega) (by omega) hD (by omega) (fun σ1 f1 b1 => ?_)
  show R_row_315 l1 l2 l3 l5 (k : Int) σ1 Q
  refine R_row_315.i (hq σ1 f1 ?_)
  rw [hT, tpK_0 (by omega)]
  exact b1
/-- a cell's next part -/
theorem rrw_228 {l1 l2 l3 : Int} {k p b nx : Nat} {D : List Int} {mo : Bool} (hk : k < 8) (hV : CvR σ (false, H.2) (u k) (V k)) (hW : mV σ 346 k = W.getD k 0) (hWb : 1 ≤ W.getD k 0 ∧ W.getD k 0 ≤ 80) (hA : mV σ 345 k = alN (A.getD k 0)) (hAb : A.getD k 0 = 60 ∨ A.getD k 0 = 94 ∨ A.getD k 0 = 62) (hp : p < (V k).length) (hpb : sbl ((V k).getD p 0) = false) (h146 : mV σ 246 146 = ((u k + b : Nat) : Int)) {s : Nat} (hFi : FiR (V k) (V k).length p b nx s) (hs : s ≤ gP (V k) p + (W.getD k 0).toNat) (hD : LbR σ D) (hl : D.length ≤ 200) (hq : ∀ σ', FrZ [338, 339] [160] σ σ' → LbR σ' (D ++ tpK (W.getD k 0) (A.getD k 0) (sgT (pkL (V k)) (gP (V k) p) s)) → R_row_84 l1 l2 l3 (bZ mo) ((k : Int) + 1) σ' Q) : R_row_228 l1 l2 l3 (k : Int) ((u k + p : Nat) : Int) (bZ mo) σ Q := by
  obtain ⟨v1, v2, v3, v4, v5⟩ := hV
  obtain ⟨⟨f1, f2, f3⟩, f4, f5, f6, f7, f8⟩ := hFi
  have hbl : b ≤ (V k).length := by omega
  have eR : rsC (sgT (V k) p b) = sgT (pkL (V k)) (gP (V k) p) s := by
    rw [rs_all f1 hbl hpb f6, f4]
  have gle : s ≤ (pkL (V k)).length := by
    rw [← f4]
    exact gP_bl (by omega) hbl f6
  have gmo : gP (V k) p ≤ s := by
    rw [← f4]
    exact gP_mono (by omega) hbl
  have lT : (sgT (pkL (V k)) (gP (V k) p) s).length = s - gP (V k) p := sgT_l gle
  have eM : max 0 (W.getD k 0 - ((sgT (pkL (V k)) (gP (V k) p) s).length : Int)) = W.getD k 0 - ((sgT (pkL (V k)) (gP (V k) p) s).length : Int) := by
    rw [lT]
    omega
  have last : ∀ (ah : Int), ah = tpA (A.getD k 0) (W.getD k 0 - ((sgT (pkL (V k)) (gP (V k) p) s).length : Int)) → R_row_284 l1 l2 l3 (bZ mo) (k : Int) ((u k + p : Nat) : Int) (W.getD k 0 - ((sgT (pkL (V k)) (gP (V k) p) s).length : Int)) ah σ Q := fun ah hah => by
    have ab := tpA_b (al := A.getD k 0) (left := W.getD k 0 - ((sgT (pkL (V k)) (gP (V k) p) s).length : Int)) (by rw [lT]; omega)
    rw [← hah] at ab
    refine R_row_284.i ?_
    refine R_blanks.p (by omega) (by omega) hD (by omega) (fun σ1 g1 b1 => ?_)
    show R_content ((u k + p : Nat) : Int) (mV σ1 246 146) (bZ false) 0 0 (bZ true) σ1 _
    rw [g1.f (by decide) (by decide), h146]
    have lD1 : (D ++ List.replicate ah.toNat 32).length = D.length + ah.toNat := by rw [List.length_append, List.length_replicate]
    have eC : D ++ List.replicate ah.toNat 32 ++ prG true (nGp (rsC (sgT (V k) p b))) 0 0 0 (rsC (sgT (V k) p b)) ++ prT false ((V k).getD (b - 1) 0) = D ++ List.replicate ah.toNat 32 ++ sgT (pkL (V k)) (gP (V k) p) s := by
      rw [prG_0 _ _ (Int.le_refl _), eR]
      exact List.append_nil _
    have gZ : hoG σ1 254 255 (u k) (V k) := fun j hj => ⟨(g1.z (by decide) (by decide)).trans (v4 j hj).1, (g1.z (by decide) (by decide)).trans (v4 j hj).2⟩
    refine R_content.p (L := V k) (u := u k) (a := p) (b := b) (pt := false) (ev := true) (each := 0) (more := 0) v1 v2 gZ hbl f6 f1 (by decide) (by decide) b1 ?_ (fun σ2 g2 b2 => ?_)
    · rw [eC, List.length_append, lD1, lT]
      omega
    · rw [eC] at b2
      refine R_blanks.p (by omega) (by omega) b2 ?_ (fun σ3 g3 b3 => ?_)
      · rw [List.length_append, lD1, lT]
        omega
      · show R_row_315 l1 l2 l3 (bZ mo) (k : Int) σ3 Q
        refine R_row_315.i (hq σ3 ((g1.tr g2).tr g3) ?_)
        unfold tpK
        rw [eM, ← hah]
        simp only [List.append_assoc] at b3 ⊢
        exact b3
  refine R_row_228.i ⟨by omega, by omega, ?_⟩
  rw [h146, Int.toNat_natCast]
  refine R_taken.p v1 v2 v4 hbl f6 f1 ?_
  rw [eR]
  show 0 ≤ (k : Int) ∧ (k : Int) < 8 ∧ ((¬ mV σ 345 k = 0 → _) ∧ (mV σ 345 k = 0 → _))
  rw [hA, hW]
  refine ⟨by omega, by omega, fun h => ⟨by omega, by omega, fun h2 => ?_, fun h2 => ?_⟩, fun h => ?_⟩
  · refine last _ ?_
    rcases hAb with e | e | e
    · rw [e] at h
      exact absurd rfl h
    · rw [e] at h2
      exact absurd rfl h2
    · rw [e]
      rfl
  · refine ⟨by unfold Rg; omega, by decide, last _ ?_⟩
    rcases hAb with e | e | e
    · rw [e] at h
      exact absurd rfl h
    · rw [e]
      show _ = _ / 2
      exact Int.tdiv_eq_ediv_of_nonneg (by rw [lT]; omega)
    · rw [e] at h2
      exact absurd h2 (by decide)
  · refine last _ ?_
    rcases hAb with e | e | e
    · rw [e]
      rfl
    · rw [e] at h
      exact absurd h (by decide)
    · rw [e] at h
      exact absurd h (by decide)
end
