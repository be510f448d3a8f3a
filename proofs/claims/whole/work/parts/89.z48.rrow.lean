/-! TABLES: a row's lines, the reference -/
section
variable {σ σ0 : MS} {Q : MQ9} {H : HY9} {W A : List Int} {u : Nat → Nat} {V : Nat → List Int} {row : List (List Int)} {i : Nat}
theorem rrw_116 {c r c0 k : Nat} {D : List Int} {mo : Bool} (hc : c ≤ 8) (hk : k < c) (hr : r < 4002) (h344 : mV σ 344 r = (c0 : Int)) (hc0 : c0 + row.length ≤ 4200) (hrow : row.length ≤ c) (hcell : k < row.length → CvR σ (false, H.2) (u k) (V k) ∧ pkL (V k) = pkL (row.getD k []) ∧ mV σ 343 (c0 + k) = ((u k + (V k).length : Nat) : Int) ∧ CuR σ H W u V row i k) (hW : mV σ 346 k = W.getD k 0) (hWb : 1 ≤ W.getD k 0 ∧ W.getD k 0 ≤ 80) (hA : mV σ 345 k = alN (A.getD k 0)) (hAb : A.getD k 0 = 60 ∨ A.getD k 0 = 94 ∨ A.getD k 0 = 62) (hD : LbR σ D) (hl : D.length ≤ 200) (hq : ∀ σ', FrZ [338, 339, 347] [160, 146, 147, 148] σ σ' → LbR σ' (D ++ tpK (W.getD k 0) (A.getD k 0) (tpI (pkL (row.getD k [])) (tpX H W row k) i)) → (k < row.length → CuR σ' H W u V row (i + 1) k) → (∀ j, j ≠ k → mV σ' 347 j = mV σ 347 j) → R_row_84 (r : Int) (c : Int) (row.length : Int) (bZ (mo || decide (i + 1 < (tpX H W row k).length))) ((k : Int) + 1) σ' Q) : R_row_116 (r : Int) (c : Int) (row.length : Int) (bZ mo) (k : Int) σ Q := by
  have none : ∀ (T : List Int), T = [] → (mo || decide (i + 1 < (tpX H W row k).length)) = mo → tpI (pkL (row.getD k [])) (tpX H W row k) i = [] → (∀ σ', FrZ [338, 339] [160] σ σ' → k < row.length → CuR σ' H W u V row (i + 1) k) → R_row_160 (r : Int) (c : Int) (row.length : Int) (bZ mo) (k : Int) σ Q := fun T _ e1 e2 e3 => by
    refine rrw_160 (W := W) (al := A.getD k 0) (by omega) hW hWb hD (by omega) rfl (fun σ1 f1 b1 => ?_)
    have := hq σ1 (f1.mo (by decide) (by decide)) (by rw [e2]; exact b1) (e3 σ1 f1) (fun j _ => f1.z (by decide) (by decide))
    rw [e1] at this
    exact this
  by_cases hkm : k < row.length
  · obtain ⟨hV, hpk, h343, p, n, hp1, hp2, hp3, hp4, hp5⟩ := hcell hkm
    have hV0 := hV
    obtain ⟨v1, v2, v3, v4, v5⟩ := hV
    refine R_row_116.i ⟨by unfold Rg; omega, by unfold Rg; omega, fun h => absurd h (by omega), fun _ => ⟨by omega, by omega, ?_⟩⟩
    rw [Int.toNat_natCast, h344, show (c0 : Int) + (k : Int) = ((c0 + k : Nat) : Int) by omega, Int.toNat_natCast, h343]
    refine ⟨by omega, by omega, ?_⟩
    refine R_row_140.i ⟨by unfold Rg; omega, by unfold Rg; omega, fun h => absurd h (by omega), fun _ => ⟨by omega, by omega, ?_, ?_⟩⟩
    · rw [Int.toNat_natCast, hp2]
      intro hlt
      have hp : p < (V k).length := by omega
      have hpb : sbl ((V k).getD p 0) = false := by
        rcases hp3 with h | h
        · omega
        · exact h
      obtain ⟨x1, x2, n', x3, x4⟩ := cu_s hp hpb hp4 hp5
      refine ⟨by omega, by omega, by omega, by omega, ?_⟩
      rw [hW, show W.getD k 0 = (((W.getD k 0).toNat : Nat) : Int) by omega]
      refine R_fills.p (H := (false, H.2)) v1 v2 v3 hp hpb (by omega) v4 (fun j hj hjb => by rw [pt_pk (by omega) hjb]; exact v5 j hj) (fun b nx σ1 f1 e146 e147 e148 fi => ?_)
      show 0 ≤ (k : Int) ∧ (k : Int) < 8 ∧ _
      rw [e147]
      have sb := fiN_b (H := (false, H.2)) (U := pkL (V k)) (a := gP (V k) p) (R := (W.getD k 0).toNat) (by omega) (W.getD k 0).toNat (Nat.le_refl _)
      have sb : gP (V k) p < fiS (false, H.2) (pkL (V k)) (gP (V k) p) (W.getD k 0).toNat ∧ fiS (false, H.2) (pkL (V k)) (gP (V k) p) (W.getD k 0).toNat ≤ gP (V k) p + (W.getD k 0).toNat := sb
      have fi0 := fi
      obtain ⟨⟨g1, g2, g3⟩, g4, g5, g6, g7, g8⟩ := fi
      rw [← g5] at x4
      have gnx : fiS (false, H.2) (pkL (V k)) (gP (V k) p) (W.getD k 0).toNat ≤ gP (V k) nx := by
        rw [g5]
        unfold nxA
        split <;> omega
      have hmo : decide (i + 1 < (tpX H W row k).length) = decide (nx < (V k).length) := by
        by_cases hnx : nx < (V k).length
        · have hnb : sbl ((V k).getD nx 0) = false := by
            rcases g7 with h | h
            · omega
            · exact h
          have := (cu_s hnx hnb (by omega) x4).1
          rw [decide_eq_true this, decide_eq_true hnx]
        · have e : nx = (V k).length := by omega
          rw [e] at x4
          have := cu_e v3 x4
          rw [decide_eq_false (by omega), decide_eq_false hnx]
      have f2 : FrZ [338, 339, 347] [160, 146, 147, 148] σ (wV σ1 347 k ((u k + nx : Nat) : Int)) := (f1.mo (by simp) (by decide)).tr (FrZ.wz (by decide))
      have fin : R_row_228 (r : Int) (c : Int) (row.length : Int) (k : Int) ((u k + p : Nat) : Int) (bZ (mo || decide (i + 1 < (tpX H W row k).length))) (wV σ1 347 k ((u k + nx : Nat) : Int)) Q := by
        refine rrw_228 (H := H) (W := W) (A := A) (b := b) (nx := nx) (s := fiS (false, H.2) (pkL (V k)) (gP (V k) p) (W.getD k 0).toNat) (by omega) (hV0.z f2 (by decide)) ((f2.z (by decide) (by decide)).trans hW) hWb ((f2.z (by decide) (by decide)).trans hA) hAb hp hpb ((wV_ne (Or.inl (by decide))).trans e146) fi0 sb.2 ⟨(wV_ne (Or.inl (by decide))).trans ((f1.f (by decide) (by decide)).trans hD.1), fun j hj => ?_⟩ hl (fun σ3 f3 b3 => ?_)
        · have := hD.2 j hj
          rw [wV_ne (Or.inl (by decide)), wV_ne (Or.inl (by decide)), f1.z (by simp) (by decide), f1.z (by simp) (by decide)]
          exact this
        · refine hq σ3 (f2.tr (f3.mo (by decide) (by decide))) ?_ (fun _ => ⟨nx, n', by omega, ?_, g7, by omega, x4⟩) (fun j hj => ?_)
          · unfold tpI
            rw [if_pos x1, x2, ← hpk]
            exact b3
          · rw [f3.z (by decide) (by decide), wV_self]
          · rw [f3.z (by decide) (by decide), wV_ne (Or.inr hj), f1.z (by simp) (by decide)]
      refine ⟨by omega, by omega, fun h => ?_, fun h => ⟨fun h2 => ?_, fun h2 => ?_⟩⟩
      · rw [bZ_ne h] at fin
        exact R_row_223.i fin
      · rw [bZ_z h, hmo, decide_eq_false (by omega)] at fin
        exact fin
      · rw [bZ_z h, hmo, decide_eq_true (by omega)] at fin
        exact R_row_223.i fin
    · rw [Int.toNat_natCast, hp2]
      intro hge
      have e : p = (V k).length := by omega
      rw [e] at hp5
      have hx := cu_e v3 hp5
      refine none [] rfl ?_ (tpI_e hx) (fun σ1 f1 _ => ⟨p, n, hp1, (f1.z (by decide) (by decide)).trans hp2, hp3, hp4, ?_⟩)
      · rw [decide_eq_false (by omega), Bool.or_false]
      · rw [e, fiL_n (by rw [v3.len]; exact Nat.le_refl _)]
        exact List.drop_eq_nil_of_le (by omega)
  · have eX : tpX H W row k = [] := if_neg hkm
    refine R_row_116.i ⟨by unfold Rg; omega, by unfold Rg; omega, fun _ => ?_, fun h => absurd h (by omega)⟩
    refine R_row_140.i ⟨by unfold Rg; omega, by unfold Rg; omega, fun _ => ?_, fun h => absurd h (by omega)⟩
    refine none [] rfl ?_ (tpI_e (by rw [eX]; exact Nat.zero_le _)) (fun σ1 f1 h => absurd h hkm)
    rw [eX, decide_eq_false (by show ¬ i + 1 < 0; omega), Bool.or_false]
/-- what a row reads -/
def RwS (σ : MS) (H : HY9) (W A : List Int) (u : Nat → Nat) (V : Nat → List Int) (row : List (List Int)) (r c c0 : Nat) : Prop := mV σ 344 r = (c0 : Int) ∧ (∀ k, k < row.length → CvR σ (false, H.2) (u k) (V k) ∧ pkL (V k) = pkL (row.getD k []) ∧ mV σ 343 (c0 + k) = ((u k + (V k).length : Nat) : Int)) ∧ ∀ k, k < c → mV σ 346 k = W.getD k 0 ∧ mV σ 345 k = alN (A.getD k 0)
theorem RwS.z {S K : List Nat} {σ1 : MS} {r c c0 : Nat} (h : RwS σ H W A u V row r c c0) (f : FrZ S K σ σ1) (hs : ∀ z ∈ [254, 255, 256, 343, 344, 345, 346], z ∉ S) : RwS σ1 H W A u V row r c c0 := ⟨(f.z (hs _ (by decide)) (by decide)).trans h.1, fun k hk => ⟨(h.2.1 k hk).1.z f (fun z hz => hs z (by simp only [List.mem_cons, List.not_mem_nil, or_false] at hz ⊢; omega)), (h.2.1 k hk).2.1, (f.z (hs _ (by decide)) (by decide)).trans (h.2.1 k hk).2.2⟩, fun k hk => ⟨(f.z (hs _ (by decide)) (by decide)).trans (h.2.2 k hk).1, (f.z (hs _ (by decide)) (by decide)).trans (h.2.2 k hk).2⟩⟩
/-- line i of a row, not trimmed -/
def tpF (H : HY9) (W A : List Int) (row : List (List Int)) (i k : Nat) : List Int := tpK (W.getD k 0) (A.getD k 0) (tpI (pkL (row.getD k [])) (tpX H W row k) i)
def RwB (H : HY9) (W A : List Int) (row : List (List Int)) (r c c0 : Nat) : Prop := c ≤ 8 ∧ row.length ≤ c ∧ r < 4001 ∧ c0 + row.length ≤ 4200 ∧ (∀ k, k < c → (1 ≤ W.getD k 0 ∧ W.getD k 0 ≤ 80) ∧ (A.getD k 0 = 60 ∨ A.getD k 0 = 94 ∨ A.getD k 0 = 62)) ∧ ∀ i k, k ≤ c → (tpJ [32, 124, 32] (tpF H W A row i) k).length ≤ 110
theorem rrw_84 {r c c0 : Nat} (hB : RwB H W A row r c c0) (hS0 : RwS σ0 H W A u V row r c c0) (hq : ∀ σ', FrZ [338, 339, 347] [160, 146, 147, 148] σ0 σ' → LbR σ' (tpJ [32, 124, 32] (tpF H W A row i) c) → (∀ k, k < row.length → CuR σ' H W u V row (i + 1) k) → R_row_321 (r : Int) (c : Int) (row.length : Int) (bZ (moB (tpX H W row) i c)) σ' Q) : ∀ (n k : Nat) (σ : MS), k + n = c → FrZ [338, 339, 347] [160, 146, 147, 148] σ0 σ → LbR σ (tpJ [32, 124, 32] (tpF H W A row i) k) → (∀ j, j < row.length → CuR σ H W u V row (if j < k then i + 1 else i) j) → R_row_84 (r : Int) (c : Int) (row.length : Int) (bZ (moB (tpX H W row) i k)) (k : Int) σ Q := by
  obtain ⟨b1, b2, b3, b4, b5, b6⟩ := hB
  intro n
  induction n with
  | zero =>
    intro k σ hk hf hb hC
    have e : k = c := by omega
    subst e
    refine R_row_84.i ⟨by unfold Rg; omega, by unfold Rg; omega, fun _ => hq σ hf hb (fun j hj => ?_), fun h => absurd h (by omega)⟩
    have := hC j hj
    rw [if_pos (by omega)] at this
    exact this
  | succ n ih =>
    intro k σ hk hf hb hC
    have lk := b6 i k (by omega)
    have hS := hS0.z hf (by decide)
    have nxt : ∀ (D : List Int) (σ1 : MS), D = tpJ [32, 124, 32] (tpF H W A row i) k ++ (if 1 ≤ k then [32, 124, 32] else []) → FrZ [338, 339] [160] σ σ1 → LbR σ1 D → R_row_116 (r : Int) (c : Int) (row.length : Int) (bZ (moB (tpX H W row) i k)) (k : Int) σ1 Q := fun D σ1 hD f1 hb1 => by
      have lD : D.length ≤ 113 := by
        rw [hD, List.length_append]
        split
        · show _ + 3 ≤ 113
          omega
        · show _ + 0 ≤ 113
          omega
      have hS1 := hS.z f1 (by decide)
      refine rrw_116 (H := H) (W := W) (A := A) (u := u) (V := V) (i := i) b1 (by omega) (by omega) hS1.1 b4 b2 (fun hkr => ⟨(hS1.2.1 k hkr).1, (hS1.2.1 k hkr).2.1, (hS1.2.1 k hkr).2.2, ?_⟩) (hS1.2.2 k (by omega)).1 (b5 k (by omega)).1 (hS1.2.2 k (by omega)).2 (b5 k (by omega)).2 hb1 (by omega) (fun σ2 f2 hb2 hc2 ho2 => ?_)
      · have := hC k hkr
        rw [if_neg (Nat.lt_irrefl _)] at this
        exact this.k (f1.z (by decide) (by decide))
      · rw [show (k : Int) + 1 = ((k + 1 : Nat) : Int) by omega]
        refine ih (k + 1) σ2 (by omega) ((hf.tr (f1.mo (by decide) (by decide))).tr f2) ?_ (fun j hj => ?_)
        · rw [hD] at hb2
          exact hb2
        · by_cases e : j = k
          · subst e
            rw [if_pos (by omega)]
            exact hc2 hj
          · have := hC j hj
            have e2 : (if j < k + 1 then i + 1 else i) = (if j < k then i + 1 else i) := by
              by_cases h : j < k
              · rw [if_pos h, if_pos (by omega)]
              · rw [if_neg h, if_neg (by omega)]
            rw [e2]
            exact this.k ((ho2 j e).trans (f1.z (by decide) (by decide)))
    refine R_row_84.i ⟨by unfold Rg; omega, by unfold Rg; omega, fun h => absurd h (by omega), fun _ => ⟨by unfold Rg; omega, fun h => ?_, fun h => ?_⟩⟩
    · exact nxt _ σ (by rw [if_neg (by omega), List.append_nil]) FrZ.rf hb
    · refine (R_adds.p (c := 32) hb (by omega) (fun σ2 f2 b2' => ?_) : R_adds ((32 : Int) % 128) (cyB 32) σ _)
      refine (R_adds.p (c := 124) b2' (by rw [List.length_append]; show _ + 1 < 400; omega) (fun σ3 f3 b3' => ?_) : R_adds ((124 : Int) % 128) (cyB 124) σ2 _)
      refine (R_adds.p (c := 32) b3' (by rw [List.length_append, List.length_append]; show _ + 1 + 1 < 400; omega) (fun σ4 f4 b4' => ?_) : R_adds ((32 : Int) % 128) (cyB 32) σ3 _)
      refine nxt _ σ4 ?_ ((f2.tr f3).tr f4) b4'
      rw [if_pos (by omega), List.append_assoc, List.append_assoc]
      rfl
def RwF : List Nat := 338 :: 339 :: 347 :: MkS
def RwK : List Nat := [28, 32, 33, 98, 99, 160, 146, 147, 148]
def FrRw (n : Nat) (σ σ' : MS) : Prop := FrZ RwF RwK σ σ' ∧ ∀ z k, z = 315 ∨ z = 316 ∨ z = 317 ∨ z = 318 → k < n → mV σ' z k = mV σ z k
theorem FrRw.rf {n : Nat} {σ : MS} : FrRw n σ σ := ⟨FrZ.rf, fun _ _ _ _ => rfl⟩
theorem FrRw.tr {n m : Nat} {σ σ1 σ2 : MS} (h : FrRw n σ σ1) (hnm : n ≤ m) (h' : FrRw m σ1 σ2) : FrRw n σ σ2 := ⟨h.1.tr h'.1, fun z k a b => (h'.2 z k a (by omega)).trans (h.2 z k a b)⟩
theorem FrRw.k {n : Nat} {σ σ' : MS} (h : FrMk n σ σ') : FrRw n σ σ' := ⟨h.1.mo (by decide) (by decide), h.2⟩
theorem FrRw.l {n : Nat} {σ σ' : MS} (h : FrLa n σ σ') : FrRw n σ σ' := ⟨h.1.mo (by decide) (by decide), h.2⟩
theorem FrRw.b {n : Nat} {S K : List Nat} {σ σ' : MS} (h : FrZ S K σ σ') (hs : S ⊆ [338, 339, 347, 314]) (hk : K ⊆ RwK) : FrRw n σ σ' := ⟨h.mo (fun x hx => by
  have := hs hx
  unfold RwF MkS
  simp only [List.mem_cons, List.not_mem_nil, or_false] at this ⊢
  omega) hk, fun z k hz _ => h.z (fun e => by
  have := hs e
  simp only [List.mem_cons, List.not_mem_nil, or_false] at this
  omega) (by omega)⟩
theorem trB_len {L : List Int} : (trB L).length ≤ L.length := trB_l L.length L rfl
theorem gFin_k {o fl : Int} {C : List Int} {fw : Bool} {G : GS9} {e : Int × Int × Int} (h : gFin o C fl fw G = .inr e) : e.1 = 8 ∨ e.1 = 9 := gAll_k (X := [(C, fl)]) (o := o) (fw := fw) (G := G) (by
  show gBd (gFin o C fl fw G) _ = _
  rw [h]
  rfl)
theorem RxG.s1 {σ1 : MS} {G G1 : GS9} {o : Int} {C : List Int} (h : RxG σ G1) (hL : G1.2.1 = G.2.1 ++ [(C, o, 0)]) (f : FrZ [314] [] σ σ1) (h1 : ∀ j, j < G.2.1.length → mV σ1 314 j = mV σ 314 j) (h2 : mV σ1 314 G.2.1.length = 1) : RxG σ1 G1 := by
  have hA := h.2.2.2.2.2 G.2.1.length (by rw [hL, List.length_append]; show _ < _ + 1; omega)
  have e14 : mV σ 314 G.2.1.length = 1 := by
    have e : G1.2.1.getD G.2.1.length ([], 0, 0) = (C, o, 0) := by
      rw [hL]
      unfold List.getD
      rw [List.getElem?_append_right (Nat.le_refl _), Nat.sub_self]
      rfl
    rw [e] at hA
    exact hA.2.2.2.2.1
  refine ⟨(f.f (by simp) (by decide)).trans h.1, (f.f (by simp) (by decide)).trans h.2.1, (f.f (by simp) (by decide)).trans h.2.2.1, h.2.2.2.cg (f.f (by simp) (by decide)) (f.f (by simp) (by decide)) (fun z k hz hk => ?_) (fun k _ => ⟨f.z (by decide) (by decide), f.z (by decide) (by decide)⟩)⟩
  by_cases e : z = 314
  · subst e
    have hk : k < G.2.1.length + 1 := by
      rw [hL, List.length_append] at hk
      exact hk
    by_cases e2 : k = G.2.1.length
    · rw [e2, h2, e14]
    · exact h1 k (by omega)
  · exact f.z (by rw [List.mem_singleton]; exact e) (by omega)
theorem rrw_61 {r c c0 : Nat} {o c9 : Int} {many : Nat} (hm : many = tpM H W row c) (hB : RwB H W A row r c c0) : ∀ (n i : Nat) (G : GS9) (σ : MS), i + n = many → RwS σ H W A u V row r c c0 → (∀ k, k < row.length → CuR σ H W u V row i k) → mV σ 246 29 = o → RxG σ G → GB9 c9 G → (∀ G' σ', gAll o false (tpG (tpL H W A row c) (decide (r = 0)) many n i) G = .inl G' → RxG σ' G' → FrRw G.2.1.length σ σ' → (∀ j, G.2.1.length ≤ j → j < G'.2.1.length → mV σ' 317 j = 0 ∧ mV σ' 318 j = 0) → Q (.inl none) σ') → (∀ e σ', gAll o false (tpG (tpL H W A row c) (decide (r = 0)) many n i) G = .inr e → TxR σ' e → FrRw G.2.1.length σ σ' → Q (.inl none) σ') → R_row_61 (r : Int) (c : Int) (row.length : Int) (bZ (decide (i < many))) σ Q := by
  have b3 := hB.2.2.1
  have b6 := hB.2.2.2.2.2
  intro n
  induction n with
  | zero =>
    intro i G σ hi hS hC ho hG hGB hy hn
    rw [decide_eq_false (by omega)]
    exact R_row_61.i ⟨fun _ => hy G σ rfl hG FrRw.rf (fun j a b => by omega), fun h => absurd rfl h⟩
  | succ n ih =>
    intro i G σ hi hS hC ho hG hGB hy hn
    have hB1 := hGB.2.2.1
    have e0 : ∀ x, gAll o false (tpG (tpL H W A row c) (decide (r = 0)) many (n + 1) i) G = x ↔ gBd (gFin o (tpL H W A row c i) (if decide (r = 0) = true ∨ i + 1 < many then 1 else 0) false G) (gAll o false (tpG (tpL H W A row c) (decide (r = 0)) many n (i + 1))) = x := fun x => Iff.rfl
    rw [decide_eq_true (by omega)]
    refine R_row_61.i ⟨fun h => absurd h (by decide), fun _ => ⟨fun h => absurd hG.1 h, fun _ => ?_⟩⟩
    have f0 : FrZ [338, 339, 347] [160, 146, 147, 148] σ (wV σ 246 160 0) := FrZ.wf (by decide)
    refine rrw_84 (σ0 := wV σ 246 160 0) (i := i) hB (hS.z f0 (by decide)) (fun σ1 f1 hb1 hc1 => ?_) c 0 _ (by omega) FrZ.rf ⟨wV_self, fun j hj => absurd hj (Nat.not_lt_zero _)⟩ (fun j hj => ?_)
    · have f01 := f0.tr f1
      rw [moB_m, show tpN (fun k => (tpX H W row k).length) c = many from hm.symm]
      have l11 := b6 i c (Nat.le_refl _)
      refine rrw_321 (σ0 := σ1) (D0 := tpJ [32, 124, 32] (tpF H W A row i) c) (fun σ2 f2 hb2 => ?_) (tpJ [32, 124, 32] (tpF H W A row i) c).length _ σ1 rfl (by omega) FrZ.rf hb1 rfl
      have hb2 : LbR σ2 (tpL H W A row c i) := hb2
      have f02 : FrZ [338, 339, 347] [160, 146, 147, 148] σ σ2 := f01.tr (f2.mo (by simp) (by decide))
      have lT : (tpL H W A row c i).length ≤ 110 := Nat.le_trans trB_len l11
      refine R_row_357.i ?_
      refine (R_makes.p (pt := false) (fw := false) (by decide) (by decide) (hG.z f02 (by decide) (by decide)) hGB hb2 (by omega) ((f02.f (by decide) (by decide)).trans ho) (fun G1 σ3 w1 w2 w3 w4 => ?_) (fun e σ3 w1 w2 w5 w3 => ?_) : R_makes 0 0 (bZ false) σ2 _)
      · have w1 : gFin o (tpL H W A row c i) 0 false G = .inl G1 := w1
        have w3 : FrMk G.2.1.length σ2 σ3 := w3
        have gb := gFin_b hGB w1
        obtain ⟨-, e2⟩ := gFin_fl (fl' := 1) w1
        have l1 : G1.2.1.length = G.2.1.length + 1 := by
          rw [e2]
          exact List.length_append ..
        have e99 : mV σ3 246 99 = ((G.2.1.length + 1 : Nat) : Int) := by
          rw [w2.2.2.2.1, l1]
        have f03 : FrRw G.2.1.length σ σ3 := (FrRw.b f02 (by decide) (by decide)).tr (Nat.le_refl _) (FrRw.k w3)
        -- what both ends share: the line's flag fl, x = what 314 is told
        have fin : ∀ (fl x : Int), fl = (if decide (r = 0) = true ∨ i + 1 < many then 1 else 0) → x = 1 - fl → R_row_391 (r : Int) (c : Int) (row.length : Int) (bZ (decide (i + 1 < many))) (G.2.1.length : Int) x σ3 Q := fun fl x hfl hx => by
          have flb : fl = 0 ∨ fl = 1 := by
            rw [hfl]
            split
            · exact Or.inr rfl
            · exact Or.inl rfl
          refine R_row_391.i ⟨by omega, by omega, ?_⟩
          rw [Int.toNat_natCast, show x % 2 = x by omega]
          obtain ⟨e1, -⟩ := gFin_fl (fl' := fl) w1
          have f4 : FrZ [314] [] σ3 (wV σ3 314 G.2.1.length x) := FrZ.wz (by decide)
          have rx : RxG (wV σ3 314 G.2.1.length x) (G1.1, G.2.1 ++ [(tpL H W A row c i, o, fl)], G1.2.2) := by
            rcases flb with h | h
            · subst h
              have e9 : (G1.1, G.2.1 ++ [(tpL H W A row c i, o, (0 : Int))], G1.2.2) = G1 := by rw [← e2]
              rw [e9]
              exact w2.s1 (G := G) e2 f4 (fun j hj => wV_ne (Or.inr (by omega))) (by rw [wV_self, hx]; rfl)
            · subst h
              exact w2.st e2 f4 (fun j hj => wV_ne (Or.inr (by omega))) (by rw [wV_self, hx]; rfl)
          have gb1 := gFin_b hGB e1
          have f04 : FrRw G.2.1.length σ (wV σ3 314 G.2.1.length x) := f03.tr (Nat.le_refl _) (FrRw.b f4 (by decide) (by simp))
          have lG : (G1.1, G.2.1 ++ [(tpL H W A row c i, o, fl)], G1.2.2).2.1.length = G.2.1.length + 1 := List.length_append ..
          refine ih (i + 1) (G1.1, G.2.1 ++ [(tpL H W A row c i, o, fl)], G1.2.2) _ (by omega) (hS.z f04.1 (by decide)) (fun k hk => (hc1 k hk).k ?_) ((f04.1.f (by decide) (by decide)).trans ho) rx (gb1.1.mo (by omega)) (fun G2 σ4 y1 y2 y3 y4 => hy G2 σ4 ((e0 _).mpr (by rw [← hfl, e1]; exact y1)) y2 (f04.tr (by rw [lG]; omega) y3) (fun j a b => ?_)) (fun e σ4 y1 y2 y3 => hn e σ4 ((e0 _).mpr (by rw [← hfl, e1]; exact y1)) y2 (f04.tr (by rw [lG]; omega) y3))
          · rw [wV_ne (Or.inl (by decide)), w3.1.z (by decide) (by decide), f2.z (by simp) (by decide)]
          · by_cases hj : j = G.2.1.length
            · rw [hj, y3.2 317 _ (by decide) (by rw [lG]; omega), y3.2 318 _ (by decide) (by rw [lG]; omega), wV_ne (Or.inl (by decide)), wV_ne (Or.inl (by decide))]
              exact ⟨w4.2.2.1, w4.2.2.2⟩
            · exact y4 j (by rw [lG]; omega) b
        show ((1 : Int) = 0 → _) ∧ (¬ (1 : Int) = 0 → _)
        refine ⟨fun h => absurd h (by decide), fun _ => ?_⟩
        rw [e99, show ((G.2.1.length + 1 : Nat) : Int) - 1 = (G.2.1.length : Int) by omega]
        refine ⟨fun h => R_row_390.i (fin 1 0 ?_ rfl), fun h => ⟨by unfold Rg; omega, fun h2 => R_row_390.i (fin 1 0 ?_ rfl), fun h2 => fin 0 1 ?_ rfl⟩⟩
        · rw [if_pos (Or.inr (of_decide_eq_true (bZ_ne h)))]
        · rw [if_pos (Or.inl (decide_eq_true (by omega)))]
        · have h3 := of_decide_eq_false (bZ_z h)
          rw [if_neg]
          rintro (h4 | h4)
          · have := of_decide_eq_true h4
            omega
          · exact h3 h4
      · have w1 : gFin o (tpL H W A row c i) 0 false G = .inr e := w1
        have w3 : FrMk G.2.1.length σ2 σ3 := w3
        have f03 : FrRw G.2.1.length σ σ3 := (FrRw.b f02 (by decide) (by decide)).tr (Nat.le_refl _) (FrRw.k w3)
        have hk9 := gFin_k w1
        have fin := hn e σ3 ((e0 _).mpr (by rw [gFin_fe (fl' := (if decide (r = 0) = true ∨ i + 1 < many then 1 else 0)) w1]; rfl)) w2 f03
        show ((0 : Int) = 0 → _) ∧ (¬ (0 : Int) = 0 → _)
        exact ⟨fun _ => R_row_61.i ⟨fun _ => fin, fun _ => ⟨fun _ => fin, fun h => absurd (w2.1.symm.trans h) (by omega)⟩⟩, fun h => absurd rfl h⟩
    · rw [if_neg (Nat.not_lt_zero _)]
      exact (hC j hj).k (wV_ne (Or.inl (by decide)))
/-- a row -/
theorem R_row.p {r c c0 : Nat} {o c9 : Int} {G : GS9} (hB : RwB H W A row r c c0) (hS : RwS σ H W A u V row r c c0) (h344 : mV σ 344 (r + 1) = ((c0 + row.length : Nat) : Int)) (hCu : ∀ k, k < row.length → mV σ 342 (c0 + k) = (u k : Int) ∧ (0 < (V k).length → sbl ((V k).getD 0 0) = false)) (ho : mV σ 246 29 = o) (hG : RxG σ G) (hGB : GB9 c9 G) (hy : ∀ G' σ', gAll o false (tpG (tpL H W A row c) (decide (r = 0)) (tpM H W row c) (tpM H W row c) 0) G = .inl G' → RxG σ' G' → FrRw G.2.1.length σ σ' → (∀ j, G.2.1.length ≤ j → j < G'.2.1.length → mV σ' 317 j = 0 ∧ mV σ' 318 j = 0) → Q (.inl none) σ') (hn : ∀ e σ', gAll o false (tpG (tpL H W A row c) (decide (r = 0)) (tpM H W row c) (tpM H W row c) 0) G = .inr e → TxR σ' e → FrRw G.2.1.length σ σ' → Q (.inl none) σ') : R_row (r : Int) (c : Int) σ Q := by
  obtain ⟨b1, b2, b3, b4, b5, b6⟩ := hB
  refine R_row.i ⟨by omega, by omega, by omega, by omega, ?_⟩
  rw [show (r : Int) + 1 = ((r + 1 : Nat) : Int) by omega, Int.toNat_natCast, Int.toNat_natCast, h344, hS.1, show ((c0 + row.length : Nat) : Int) - (c0 : Int) = (row.length : Int) by omega]
  refine rrw_25 (σ0 := σ) (f := fun k => (u k : Int)) (m := row.length) (by omega) hS.1 (by omega) b4 (fun k hk => (hCu k hk).1) (fun σ1 f1 v1 => ?_) row.length 0 σ (by omega) FrZ.rf (fun j hj => absurd hj (Nat.not_lt_zero _))
  have m1 : 1 ≤ tpM H W row c := tpN_1 c
  have f01 : FrRw G.2.1.length σ σ1 := FrRw.b f1 (by decide) (by simp)
  have := rrw_61 (Q := Q) (o := o) (many := tpM H W row c) rfl ⟨b1, b2, b3, b4, b5, b6⟩ (tpM H W row c) 0 G σ1 (by omega) (hS.z f1 (by decide)) (fun k hk => ⟨0, (pkL (V k)).length, Nat.zero_le _, (v1 k hk).trans (by rw [Nat.add_zero]), ?_, by omega, ?_⟩) ((f1.f (by simp) (by decide)).trans ho) (hG.z f1 (by decide) (by simp)) hGB (fun G' σ' y1 y2 y3 y4 => hy G' σ' y1 y2 (f01.tr (Nat.le_refl _) y3) y4) (fun e σ' y1 y2 y3 => hn e σ' y1 y2 (f01.tr (Nat.le_refl _) y3))
  · rw [decide_eq_true (by omega)] at this
    exact this
  · rcases Nat.eq_zero_or_pos (V k).length with h | h
    · exact Or.inl h.symm
    · exact Or.inr ((hCu k hk).2 h)
  · rw [List.drop_zero]
    unfold tpX
    rw [if_pos hk, (hS.2.1 k hk).2.1, gP_0]
end
