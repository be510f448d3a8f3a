/-! NOTES' LINES: the document, the class -/
def ntP (n : Int) : List Int := wrN n 1 ++ [46, 32]
def ntX (H : HY9) (W : Int) (U : List Int) (n : Int) : List (Nat × Nat × Bool) := fiL H U (rmO W ((ntP n).length : Int)).toNat (rmO W ((ntP n).length : Int)).toNat U.length 0
def ntD (o : Int) (H : HY9) (W : Int) : List (List Int) → Int → GS9 → (GS9 × List (Int × Int)) ⊕ (Int × Int × Int)
  | [], _, G => .inl (G, [])
  | N :: r, n, G => match gAll o false (prN (ntP n) ((ntP n).length : Int) 0 W (pkL N) 0 (ntX H W (pkL N) n)) G with
    | .inr e => .inr e
    | .inl G1 => match ntD o H W r (n + 1) G1 with
      | .inr e => .inr e
      | .inl q => .inl (q.1, ((G.2.1.length : Int), (G1.2.1.length : Int)) :: q.2)
theorem ntP_l {n : Int} : (ntP n).length ≤ 22 ∧ 2 ≤ (ntP n).length := by
  unfold ntP
  rw [List.length_append]
  have := wrN_len (n := n) (sys := 1)
  show _ + 2 ≤ 22 ∧ 2 ≤ _ + 2
  omega
def bk9 (L : List Int) : Prop := ∀ c ∈ L, c = 32 ∨ sbl c = false
theorem pk_bk9 : ∀ {M : List Int} {q : List Int × Bool}, bk9 q.1 → bk9 (M.foldl pkF q).1
  | [], _, h => h
  | m :: M, q, h2 => pk_bk9 (M := M) (q := pkF q m) (by
    unfold pkF
    split
    · exact h2
    · rename_i hm
      intro x hx
      rcases List.mem_append.mp hx with hx | hx
      · split at hx
        · rcases List.mem_append.mp hx with hx | hx
          · exact h2 x hx
          · exact Or.inl (List.mem_singleton.mp hx)
        · exact h2 x hx
      · rw [List.mem_singleton.mp hx]
        refine Or.inr ?_
        rw [← Bool.not_eq_true]
        exact hm)
theorem bkE.pk {L : List Int} : bkE (pkL L) := by
  intro k hk
  have hm : (pkL L).getD k 0 ∈ pkL L := by
    unfold List.getD
    rw [List.getElem?_eq_getElem hk, Option.getD_some]
    exact List.getElem_mem _
  rcases pk_bk9 (M := L) (q := ([], false)) (fun c hc => absurd hc List.not_mem_nil) _ hm with h | h
  · rw [h]
    decide
  · refine ⟨fun e => ?_, fun e => ?_⟩
    · rw [e]
      decide
    · rw [h] at e
      exact absurd e (by decide)
section
variable {H : HY9} {U : List Int} {R1 R2 : Nat}
theorem fiL_m (h1 : 1 ≤ R1 ∧ R1 ≤ 80) (h2 : 1 ≤ R2 ∧ R2 ≤ 80) : ∀ (n a : Nat), (fiL H U R1 R2 n a).length ≤ n ∧ ∀ x ∈ fiL H U R1 R2 n a, x.1 < x.2.1 ∧ x.2.1 ≤ U.length ∧ x.2.1 - x.1 ≤ 80
  | 0, a => ⟨Nat.le_refl _, fun x hx => absurd hx List.not_mem_nil⟩
  | n + 1, a => by
    by_cases h : U.length ≤ a
    · rw [fiL_n h]
      exact ⟨Nat.zero_le _, fun x hx => absurd hx List.not_mem_nil⟩
    · have ih := fiL_m h1 h2 n (nxA U (fiS H U a (if a = 0 then R1 else R2)))
      have hR : 1 ≤ (if a = 0 then R1 else R2) ∧ (if a = 0 then R1 else R2) ≤ 80 := by split <;> omega
      have b1 := fi_b (H := H) (U := U) (a := a) hR.1
      have b2 := fi_u (H := H) (U := U) (a := a) hR.1 (by omega)
      rw [fiL_s (by omega)]
      refine ⟨by rw [List.length_cons]; omega, fun x hx => ?_⟩
      rcases List.mem_cons.mp hx with hx | hx
      · rw [hx]
        show a < fiS H U a (if a = 0 then R1 else R2) ∧ fiS H U a (if a = 0 then R1 else R2) ≤ U.length ∧ fiS H U a (if a = 0 then R1 else R2) - a ≤ 80
        omega
      · exact ih.2 x hx
theorem bsL_m (h1 : R1 ≤ 80) (h2 : R2 ≤ 80) : ∀ (n a : Nat), (a < U.length → ¬ (bsW H U R1 R2 a).1 = -1) → (bsL H U R1 R2 n a).length ≤ n ∧ ∀ x ∈ bsL H U R1 R2 n a, x.1 < x.2.1 ∧ x.2.1 ≤ U.length ∧ x.2.1 - x.1 ≤ 80
  | 0, a, _ => ⟨Nat.le_refl _, fun x hx => absurd hx List.not_mem_nil⟩
  | n + 1, a, hw => by
    by_cases h : U.length ≤ a
    · rw [bsL_n h]
      exact ⟨Nat.zero_le _, fun x hx => absurd hx List.not_mem_nil⟩
    · rcases bsW_g (H := H) (U := U) h1 h2 a with e | ⟨-, -, t, w3, w4, w5, w6, w7⟩
      · exact absurd (by rw [e]) (hw (by omega))
      have hR : (if a = 0 then R1 else R2) ≤ 80 := by split <;> omega
      rw [bsL_s (by omega), w3, Int.toNat_natCast]
      have ih := bsL_m h1 h2 n (nxA U t) (fun h9 => by
        rcases w7 with w7 | w7
        · have : t ≤ nxA U t := by
            unfold nxA
            split <;> omega
          omega
        · exact w7.2.2)
      refine ⟨by rw [List.length_cons]; omega, fun x hx => ?_⟩
      rcases List.mem_cons.mp hx with hx | hx
      · rw [hx]
        show a < t ∧ t ≤ U.length ∧ t - a ≤ 80
        omega
      · exact ih.2 x hx
theorem liX_m {best : Bool} (h1 : 1 ≤ R1 ∧ R1 ≤ 80) (h2 : 1 ≤ R2 ∧ R2 ≤ 80) : (liX H U R1 R2 best).length ≤ U.length ∧ ∀ x ∈ liX H U R1 R2 best, x.1 < x.2.1 ∧ x.2.1 ≤ U.length ∧ x.2.1 - x.1 ≤ 80 := by
  unfold liX
  split
  · rename_i h
    exact bsL_m h1.2 h2.2 _ _ (fun _ => h.2)
  · exact fiL_m h1 h2 _ _
end
section
variable {σ σ0 : MS} {Q : MQ9} {H : HY9} {W o c9 : Int} {z : Nat}
/-- what notes' lines leave as it was -/
def FrNt (σ σ' : MS) : Prop := (∀ q, q ∉ [112, 114, 116, 118, 130, 132, 134, 136, 138, 142, 144] → mX σ' q = mX σ q) ∧ σ'.2.2 = σ.2.2 ∧ ∀ z k, z ≠ 22 → z ≠ 126 → ¬ (z = 111 ∧ (k = 9 ∨ k = 10 ∨ k = 11 ∨ k = 12)) → mV σ' z k = mV σ z k
theorem FrNt.rf : FrNt σ σ := ⟨fun _ _ => rfl, rfl, fun _ _ _ _ _ => rfl⟩
theorem FrNt.tr {σ1 σ2 : MS} (h : FrNt σ σ1) (h' : FrNt σ1 σ2) : FrNt σ σ2 := ⟨fun q a => (h'.1 q a).trans (h.1 q a), h'.2.1.trans h.2.1, fun z k a b c => (h'.2.2 z k a b c).trans (h.2.2 z k a b c)⟩
theorem FrNt.x {q : Nat} {L : List Int} (h : q ∈ [112, 114, 116, 118, 130, 132, 134, 136, 138, 142, 144]) : FrNt σ (wX σ q L) := ⟨fun q' a => wX_ne (fun e => a (by rw [e]; exact h)), rfl, fun _ _ _ _ _ => rfl⟩
theorem FrNt.v {k : Nat} {x : Int} (h : k = 9 ∨ k = 10 ∨ k = 11 ∨ k = 12) : FrNt σ (wV σ 111 k x) := ⟨fun _ _ => rfl, rfl, fun z' k' _ _ c => wV_ne (by omega)⟩
theorem FrNt.fl {σ1 : MS} (h : FrFl σ σ1) : FrNt σ σ1 := ⟨fun q a => by
  simp only [List.mem_cons, List.not_mem_nil, or_false, not_or] at a
  exact h.1 q (by omega) (by omega) (by omega), h.2.1, fun z k _ b c => h.2.2 z k b (by omega)⟩
theorem FrNt.ga {σ1 : MS} (h : FrGa σ σ1) : FrNt σ σ1 := ⟨fun q a => by
  simp only [List.mem_cons, List.not_mem_nil, or_false, not_or] at a
  exact h.1 q (by omega) (by omega) (by omega) (by omega) (by omega), h.2.1, fun z k a _ _ => h.2.2 z k a⟩
theorem HyC.nt {P X : List (List Int)} {l r : Int} {σ1 : MS} (h : HyC σ P X l r) (f : FrNt σ σ1) : HyC σ1 P X l r := ⟨h.1.cg (f.1 _ (by decide)) (f.1 _ (by decide)), h.2.1.cg (f.1 _ (by decide)) (f.1 _ (by decide)), (f.2.2 _ _ (by decide) (by decide) (by decide)).trans h.2.2.1, (f.2.2 _ _ (by decide) (by decide) (by decide)).trans h.2.2.2⟩
theorem Filler_openPlain.c (hq : ∀ σ', FrNt σ σ' → (∀ q, q ∈ [130, 132, 134, 136, 138, 142, 144] → mX σ' q = mX σ q) → (∀ k, mV σ' 22 k = mV σ 22 k) → (mX σ' 112 = [] ∧ mX σ' 114 = [] ∧ mX σ' 116 = [] ∧ mX σ' 118 = []) → (mV σ' 111 9 = 0 ∧ mV σ' 111 10 = 0 ∧ mV σ' 111 11 = 0) → Q (.inl none) σ') : Filler_openPlain σ Q := by
  refine Filler_openPlain.i (Filler_openLines.i ?_)
  show Q (.inl none) (wX (wX (wX (wV (wV (wV (wX σ 118 []) 111 9 0) 111 10 0) 111 11 0) 112 []) 114 []) 116 [])
  refine hq _ ((((((FrNt.x (by decide)).tr (FrNt.v (by decide))).tr (FrNt.v (by decide))).tr (FrNt.v (by decide))).tr (FrNt.x (by decide))).tr ((FrNt.x (by decide)).tr (FrNt.x (by decide)))) (fun q h => ?_) (fun k => ?_) ⟨?_, ?_, ?_, ?_⟩ ⟨?_, ?_, ?_⟩
  · simp only [List.mem_cons, List.not_mem_nil, or_false] at h
    rw [wX_ne (by omega), wX_ne (by omega), wX_ne (by omega)]
    show mX (wX σ 118 []) q = _
    rw [wX_ne (by omega)]
  · show mV (wV (wV (wV σ 111 9 0) 111 10 0) 111 11 0) 22 k = _
    rw [wV_ne (Or.inl (by decide)), wV_ne (Or.inl (by decide)), wV_ne (Or.inl (by decide))]
  · rw [wX_ne (by decide), wX_ne (by decide), wX_self]
  · rw [wX_ne (by decide), wX_self]
  · rw [wX_self]
  · rw [wX_ne (by decide), wX_ne (by decide), wX_ne (by decide)]
    show mX (wX σ 118 []) 118 = _
    rw [wX_self]
  · show mV (wV (wV (wV σ 111 9 0) 111 10 0) 111 11 0) 111 9 = 0
    rw [wV_ne (Or.inr (by decide)), wV_ne (Or.inr (by decide)), wV_self]
  · show mV (wV (wV (wV σ 111 9 0) 111 10 0) 111 11 0) 111 10 = 0
    rw [wV_ne (Or.inr (by decide)), wV_self]
  · show mV (wV (wV (wV σ 111 9 0) 111 10 0) 111 11 0) 111 11 = 0
    rw [wV_self]
/-- what notes' lines read -/
def NtC (σ : MS) (H : HY9) (W o : Int) (z : Nat) (N : List (List Int)) (m0 : Nat) : Prop := shR σ 104 (N.map pkL) ∧ mB σ 0 = z ∧ mV σ z 12 = ((m0 + N.length : Nat) : Int) ∧ HyC σ H.2.1 H.2.2.1 H.2.2.2.1 H.2.2.2.2 ∧ mV σ 24 0 = W ∧ H.1 = decide (mV σ 24 3 = 1) ∧ mV σ 127 16 = o
theorem NtC.fr {N : List (List Int)} {m0 : Nat} {σ1 : MS} (hz : z = 49 ∨ z = 163) (h : NtC σ H W o z N m0) (f : FrNt σ σ1) : NtC σ1 H W o z N m0 := by
  obtain ⟨h1, h2, h3, h4, h5, h6, h7⟩ := h
  have eB : mB σ1 = mB σ := congrArg Prod.fst f.2.1
  exact ⟨⟨(f.1 105 (by decide)).trans h1.1, (f.1 107 (by decide)).trans h1.2⟩, by rw [eB]; exact h2, (f.2.2 _ _ (by omega) (by omega) (by omega)).trans h3, h4.nt f, (f.2.2 _ _ (by decide) (by decide) (by decide)).trans h5, by rw [f.2.2 24 3 (by decide) (by decide) (by decide)]; exact h6, (f.2.2 _ _ (by decide) (by decide) (by decide)).trans h7⟩
theorem nts_10 {N : List (List Int)} {m0 : Nat} (hz : z = 49 ∨ z = 163) (hN : ∀ n ∈ N, okK n) (hN6 : suM (N.map pkL) ≤ 65000) (hNm : m0 + N.length ≤ 60) (hb : HyB H.2.1 H.2.2.1 H.2.2.2.1 H.2.2.2.2) (hW : 12 ≤ W ∧ W ≤ 80) (ho : Rg o) (hc : c9 ≤ 0) : ∀ (r p : List (List Int)) (σ : MS) (G : GS9) (A B : List Int), N = p ++ r → NtC σ H W o z N m0 → GaC σ G [] → GB9 c9 G → mX σ 142 = A → mX σ 144 = B → A.length + r.length ≤ 60 → B.length + r.length ≤ 60 → (∀ G' sp σ', ntD o H W r ((m0 + p.length : Nat) + 1 : Int) G = .inl (G', sp) → FrNt σ σ' → GaC σ' G' [] → mX σ' 142 = A ++ sp.map (·.1) → mX σ' 144 = B ++ sp.map (·.2) → Q (.inl none) σ') → (∀ e σ', ntD o H W r ((m0 + p.length : Nat) + 1 : Int) G = .inr e → TxF σ' e → FrNt σ σ' → Q (.inr (exN 0)) σ') → Setter_printNotes_10 (p.length : Int) σ Q := by
  intro r
  induction r with
  | nil =>
    intro p σ G A B he hC hG hB x1 x2 _ _ hy hn
    have l7 : (mX σ 107).length = N.length := by rw [hC.1.2, enS_len, List.length_map]
    have hl : N.length = p.length := by rw [he, List.append_nil]
    refine Setter_printNotes_10.i (Shelf_rows.i (tB.i (by decide) (tB.i (by decide) ?_)))
    show Rg (p.length : Int) ∧ ((((mX σ 107).length : Nat) : Int) ≤ _ → _) ∧ _
    rw [l7]
    exact ⟨by unfold Rg; omega, fun _ => hy G [] σ rfl FrNt.rf hG (by rw [x1]; exact (List.append_nil _).symm) (by rw [x2]; exact (List.append_nil _).symm), fun h9 => absurd h9 (by omega)⟩
  | cons n r ih =>
    intro p σ G A B he hC hG hB x1 x2 hA hB6 hy hn
    have l7 : (mX σ 107).length = N.length := by rw [hC.1.2, enS_len, List.length_map]
    have hl : N.length = p.length + (r.length + 1) := by rw [he, List.length_append, List.length_cons]
    refine Setter_printNotes_10.i (Shelf_rows.i (tB.i (by decide) (tB.i (by decide) ?_)))
    show Rg (p.length : Int) ∧ ((((mX σ 107).length : Nat) : Int) ≤ _ → _) ∧ _
    rw [l7]
    refine ⟨by unfold Rg; omega, fun h9 => absurd h9 (by omega), fun _ => Filler_openPlain.c (fun σ1 f1 k1 w1 e1 v1 => ?_)⟩
    have hC1 := hC.fr hz f1
    have hG1 : GaC σ1 G [] := hG.fr (fun q hq => k1 q (by rcases hq with rfl | rfl | rfl | rfl | rfl <;> decide)) (fun k _ => w1 k)
    have y1 : mX σ1 142 = A := (k1 142 (by decide)).trans x1
    have y2 : mX σ1 144 = B := (k1 144 (by decide)).trans x2
    refine Rules_told.i ⟨by decide, fun h9 => absurd h9 (by decide), fun _ => ⟨by decide, fun h9 => absurd h9 (by decide), fun _ => ⟨by decide, by decide, ?_⟩⟩⟩
    show (¬ mV σ1 24 3 = 1 → _) ∧ (mV σ1 24 3 = 1 → _)
    have hnum : ((m0 + N.length : Nat) : Int) - (N.length : Int) + 1 + (p.length : Int) = ((m0 + p.length : Nat) + 1 : Int) := by omega
    have nk : okK n := hN n (by rw [he]; exact List.mem_append_right _ List.mem_cons_self)
    have main : ∀ s1 : Int, s1 = bZ H.1 → Setter_printNotes_46 (p.length : Int) s1 σ1 Q := fun s1 hs1 => by
      have h01 : s1 = 0 ∨ s1 = 1 := by
        rw [hs1]
        cases H.1
        · exact Or.inl rfl
        · exact Or.inr rfl
      have pl := ntP_l (n := ((m0 + p.length : Nat) + 1 : Int))
      have eN : N.map pkL = p.map pkL ++ pkL n :: r.map pkL := by rw [he, List.map_append, List.map_cons]
      have lp : (p.map pkL).length = p.length := List.length_map ..
      have su : suM (N.map pkL) = suM (p.map pkL) + ((pkL n).length + suM (r.map pkL)) := by
        rw [eN, suM_app]
        rfl
      refine Setter_printNotes_46.i (b01.i h01 ?_)
      rw [hC1.2.1]
      refine tB.i (mk_z hz).1 (Shelf_rows.i (tB.i (by decide) (tB.i (by decide) ?_)))
      show Row_putNumber 118 (((mV (wV σ1 111 11 s1) z 12 - (((mX σ1 107).length : Nat) : Int)) + 1) + (p.length : Int)) 1 (wV σ1 111 11 s1) _
      rw [show (mX σ1 107).length = N.length by rw [hC1.1.2, enS_len, List.length_map], show mV (wV σ1 111 11 s1) z 12 = ((m0 + N.length : Nat) : Int) from (wV_ne (Or.inl (by omega))).trans hC1.2.2.1, hnum]
      refine Row_putNumber.s (by decide) (by omega) (by decide) (fun h => absurd h (by decide)) ?_ ?_
      · show (mX σ1 118).length + 22 < 64
        rw [e1.2.2.2]
        decide
      have e118 : mX (wV σ1 111 11 s1) 118 = [] := e1.2.2.2
      rw [e118, List.nil_append]
      show (mX (wX (wV σ1 111 11 s1) 118 (wrN ((m0 + p.length : Nat) + 1 : Int) 1)) 118).length < 64 ∧ _
      have wl := wrN_len (n := ((m0 + p.length : Nat) + 1 : Int)) (sys := 1)
      rw [wX_self]
      refine ⟨by omega, by rw [List.length_append]; show _ + 1 < 64; omega, by unfold Rg; omega, by unfold Rg; omega, ?_⟩
      rw [wX_wX, wX_wX, List.append_assoc, show (mX (wX (wV σ1 111 11 s1) 118 (wrN ((m0 + p.length : Nat) + 1 : Int) 1)) 107) = enS 0 (p.map pkL ++ pkL n :: r.map pkL) by
        rw [wX_ne (by decide)]
        show mX σ1 107 = _
        rw [hC1.1.2, eN]]
      have sf := sfr_at (p := p.map pkL) (rs := pkL n :: r.map pkL)
      have st := sto_at (p := p.map pkL) (r := pkL n) (rs := r.map pkL)
      rw [lp] at sf st
      rw [sf, st]
      show Filler_roomOf 0 (wV (wX (wV σ1 111 11 s1) 118 (ntP ((m0 + p.length : Nat) + 1 : Int))) 111 9 ((ntP ((m0 + p.length : Nat) + 1 : Int)).length : Int)) _
      generalize hP : ntP ((m0 + p.length : Nat) + 1 : Int) = P at pl ⊢
      have f4 : FrNt σ1 (wV (wX (wV σ1 111 11 s1) 118 P) 111 9 (P.length : Int)) := ((FrNt.v (by decide)).tr (FrNt.x (by decide))).tr (FrNt.v (by decide))
      have k4 : ∀ q, q ≠ 118 → mX (wV (wX (wV σ1 111 11 s1) 118 P) 111 9 (P.length : Int)) q = mX σ1 q := fun q hq => by
        show mX (wX (wV σ1 111 11 s1) 118 P) q = _
        rw [wX_ne hq]
        rfl
      have a4 : mX (wV (wX (wV σ1 111 11 s1) 118 P) 111 9 (P.length : Int)) 118 = P := by
        show mX (wX (wV σ1 111 11 s1) 118 P) 118 = _
        rw [wX_self]
      have v4 : mV (wV (wX (wV σ1 111 11 s1) 118 P) 111 9 (P.length : Int)) 111 9 = (P.length : Int) ∧ mV (wV (wX (wV σ1 111 11 s1) 118 P) 111 9 (P.length : Int)) 111 10 = 0 ∧ mV (wV (wX (wV σ1 111 11 s1) 118 P) 111 9 (P.length : Int)) 111 11 = bZ H.1 := by
        refine ⟨wV_self, ?_, ?_⟩
        · rw [wV_ne (Or.inr (by decide))]
          show mV (wV σ1 111 11 s1) 111 10 = 0
          rw [wV_ne (Or.inr (by decide))]
          exact v1.2.1
        · rw [wV_ne (Or.inr (by decide))]
          show mV (wV σ1 111 11 s1) 111 11 = _
          rw [wV_self]
          exact hs1
      have w4 : ∀ k, mV (wV (wX (wV σ1 111 11 s1) 118 P) 111 9 (P.length : Int)) 22 k = mV σ1 22 k := fun k => by
        rw [wV_ne (Or.inl (by decide))]
        show mV (wV σ1 111 11 s1) 22 k = _
        rw [wV_ne (Or.inl (by decide))]
      generalize wV (wX (wV σ1 111 11 s1) 118 P) 111 9 (P.length : Int) = σ4 at f4 k4 a4 v4 w4
      have hC4 := hC1.fr hz f4
      have hG4 : GaC σ4 G [] := hG1.fr (fun q hq => k4 q (by omega)) (fun k _ => w4 k)
      have rr : rmO W (P.length : Int) = max 4 (W - (P.length : Int)) := rfl
      have rz : rmO W (P.length : Int) = (((rmO W (P.length : Int)).toNat : Nat) : Int) := by omega
      refine Filler_roomOf.c (by decide) hC4.2.2.2.2.1 hW a4 (by omega) v4.1 (by omega) ?_
      refine Filler_roomOf.c (by decide) hC4.2.2.2.2.1 hW a4 (by omega) v4.1 (by omega) ?_
      rw [if_pos rfl, if_neg (by decide)]
      show Filler_fill 105 ((suM (p.map pkL) : Nat) : Int) ((suM (p.map pkL) + (pkL n).length : Nat) : Int) (rmO W (P.length : Int)) (rmO W (P.length : Int)) σ4 _
      rw [rz]
      have ln4 : LnC σ4 105 (suM (p.map pkL)) (pkL n) := ⟨by decide, by omega, fun t ht => by
        rw [hC4.1.1, eN, List.flatten_append, List.flatten_cons, ← flat_len (p.map pkL), rgt_ap (by rw [List.length_append]; omega), getD_l ht]⟩
      have nil4 : mX σ4 112 = [] ∧ mX σ4 114 = [] ∧ mX σ4 116 = [] := ⟨(k4 _ (by decide)).trans e1.1, (k4 _ (by decide)).trans e1.2.1, (k4 _ (by decide)).trans e1.2.2.1⟩
      refine Filler_fill.c (pkL_ok nk) bkE.pk hb (by decide) (by omega) (by omega) (by rw [nil4.1]; show 0 + _ ≤ _; omega) (by rw [nil4.2.1]; show 0 + _ ≤ _; omega) (by rw [nil4.2.2]; show 0 + _ ≤ _; omega) ln4 hC4.2.2.2.1 v4.2.2 (fun σ5 f5 z1 z2 z3 => ?_)
      rw [nil4.1, List.nil_append] at z1
      rw [nil4.2.1, List.nil_append] at z2
      rw [nil4.2.2, List.nil_append] at z3
      have eX : fiL H (pkL n) (rmO W (P.length : Int)).toNat (rmO W (P.length : Int)).toNat (pkL n).length 0 = ntX H W (pkL n) ((m0 + p.length : Nat) + 1 : Int) := by
        unfold ntX
        rw [hP]
      have xm := fiL_m (H := H) (U := pkL n) (R1 := (rmO W (P.length : Int)).toNat) (R2 := (rmO W (P.length : Int)).toNat) (by omega) (by omega) (pkL n).length 0
      rw [eX] at z1 z2 z3 xm
      generalize ntX H W (pkL n) ((m0 + p.length : Nat) + 1 : Int) = X at z1 z2 z3 xm eX
      have hC5 := hC4.fr hz (FrNt.fl f5)
      have hG5 : GaC σ5 G [] := hG4.fr (fun q hq => f5.1 q (by omega) (by omega) (by omega)) (fun k _ => f5.2.2 _ _ (by decide) (by omega))
      have l132 : (mX σ5 132).length = G.2.1.length := by rw [hG5.2.1, enS_len, List.length_map]
      have u1 : mX σ5 142 = A := (f5.1 _ (by decide) (by decide) (by decide)).trans ((k4 _ (by decide)).trans y1)
      have u2 : mX σ5 144 = B := (f5.1 _ (by decide) (by decide) (by decide)).trans ((k4 _ (by decide)).trans y2)
      refine Shelf_rows.i (tB.i (by decide) (tB.i (by decide) ?_))
      show (mX σ5 142).length < 64 ∧ Setter_printLines 105 0 0 (wX σ5 142 (mX σ5 142 ++ [(((mX σ5 132).length : Nat) : Int)])) _
      rw [u1, l132]
      refine ⟨by rw [List.length_cons] at hA; omega, ?_⟩
      have f6 : FrNt σ5 (wX σ5 142 (A ++ [(G.2.1.length : Int)])) := FrNt.x (by decide)
      have hC6 := hC5.fr hz f6
      have hG6 : GaC (wX σ5 142 (A ++ [(G.2.1.length : Int)])) G [] := hG5.fr (fun q hq => wX_ne (by omega)) (fun k _ => rfl)
      have pr6 : PrC (wX σ5 142 (A ++ [(G.2.1.length : Int)])) 105 (suM (p.map pkL)) (pkL n) P (P.length : Int) 0 W o X := by
        refine ⟨⟨ln4.1, ln4.2.1, fun t ht => ?_⟩, ?_, ?_, ?_, ?_, ?_, ?_, ?_, ?_⟩
        · rw [wX_ne (by decide), f5.1 105 (by decide) (by decide) (by decide)]
          exact ln4.2.2 t ht
        · rw [wX_ne (by decide)]
          exact z1
        · rw [wX_ne (by decide)]
          exact z2
        · rw [wX_ne (by decide)]
          exact z3
        · rw [wX_ne (by decide), f5.1 118 (by decide) (by decide) (by decide)]
          exact a4
        · exact (f5.2.2 _ _ (by decide) (by decide)).trans hC4.2.2.2.2.1
        · exact (f5.2.2 _ _ (by decide) (by decide)).trans v4.1
        · exact (f5.2.2 _ _ (by decide) (by decide)).trans v4.2.1
        · exact (f5.2.2 _ _ (by decide) (by decide)).trans hC4.2.2.2.2.2.2
      have f06 : FrNt σ (wX σ5 142 (A ++ [(G.2.1.length : Int)])) := ((f1.tr f4).tr (FrNt.fl f5)).tr f6
      have z142 : mX (wX σ5 142 (A ++ [(G.2.1.length : Int)])) 142 = A ++ [(G.2.1.length : Int)] := wX_self
      have z144 : mX (wX σ5 142 (A ++ [(G.2.1.length : Int)])) 144 = B := by
        rw [wX_ne (by decide)]
        exact u2
      generalize wX σ5 142 (A ++ [(G.2.1.length : Int)]) = σ6 at f6 hC6 hG6 pr6 f06 z142 z144
      have eD : ∀ rr, ntD o H W (n :: r) ((m0 + p.length : Nat) + 1 : Int) G = rr ↔ (match gAll o false (prN P (P.length : Int) 0 W (pkL n) 0 X) G with
        | .inr e => .inr e
        | .inl G1 => match ntD o H W r (((m0 + p.length : Nat) + 1 : Int) + 1) G1 with
          | .inr e => .inr e
          | .inl q => .inl (q.1, ((G.2.1.length : Int), (G1.2.1.length : Int)) :: q.2)) = rr := fun rr => by
        rw [← eX, ← hP]
        exact Iff.rfl
      refine Setter_printLines.c (fw := false) (d9 := c9) (by decide) (by omega) xm.2 (by omega) (by omega) hW ho (by decide) (by omega) pr6 hG6 hB (fun G1 σ7 q1 q2 q3 => ?_) (fun e σ7 q1 q2 q3 => ?_)
      · have l132b : (mX σ7 132).length = G1.2.1.length := by rw [q2.2.1, enS_len, List.length_map]
        refine Shelf_rows.i (tB.i (by decide) (tB.i (by decide) ?_))
        show (mX σ7 144).length < 64 ∧ Setter_printNotes_10 ((p.length : Int) + 1) (wX σ7 144 (mX σ7 144 ++ [(((mX σ7 132).length : Nat) : Int)])) Q
        have u3 : mX σ7 142 = A ++ [(G.2.1.length : Int)] := (q3.1 _ (by decide) (by decide) (by decide) (by decide) (by decide)).trans z142
        have u4 : mX σ7 144 = B := (q3.1 _ (by decide) (by decide) (by decide) (by decide) (by decide)).trans z144
        rw [u4, l132b]
        rw [List.length_cons] at hA hB6
        refine ⟨by omega, ?_⟩
        have f8 : FrNt σ (wX σ7 144 (B ++ [(G1.2.1.length : Int)])) := (f06.tr (FrNt.ga q3)).tr (FrNt.x (by decide))
        have gb := gAll_b (c := c9) hc _ hB q1
        have := ih (p ++ [n]) (wX σ7 144 (B ++ [(G1.2.1.length : Int)])) G1 (A ++ [(G.2.1.length : Int)]) (B ++ [(G1.2.1.length : Int)]) (by rw [List.append_assoc]; exact he) (hC.fr hz f8) (q2.fr (fun q hq => wX_ne (by omega)) (fun k _ => rfl)) gb (by rw [wX_ne (by decide)]; exact u3) wX_self (by rw [List.length_append]; show A.length + 1 + _ ≤ _; omega) (by rw [List.length_append]; show B.length + 1 + _ ≤ _; omega) (fun G2 sp σ9 a1 a2 a3 a4 a5 => ?_) (fun e σ9 a1 a2 a3 => ?_)
        · rw [List.length_append] at this
          exact this
        · rw [List.length_append, show ((m0 + (p.length + [n].length) : Nat) + 1 : Int) = ((m0 + p.length : Nat) + 1 : Int) + 1 by
            show ((m0 + (p.length + 1) : Nat) + 1 : Int) = _
            omega] at a1
          refine hy G2 (((G.2.1.length : Int), (G1.2.1.length : Int)) :: sp) σ9 ?_ (f8.tr a2) a3 ?_ ?_
          · rw [eD, q1]
            show (match ntD o H W r (((m0 + p.length : Nat) + 1 : Int) + 1) G1 with
              | .inr e => Sum.inr e
              | .inl q => Sum.inl (q.1, ((G.2.1.length : Int), (G1.2.1.length : Int)) :: q.2)) = _
            rw [a1]
          · rw [a4, List.append_assoc]
            rfl
          · rw [a5, List.append_assoc]
            rfl
        · rw [List.length_append, show ((m0 + (p.length + [n].length) : Nat) + 1 : Int) = ((m0 + p.length : Nat) + 1 : Int) + 1 by
            show ((m0 + (p.length + 1) : Nat) + 1 : Int) = _
            omega] at a1
          refine hn e σ9 ?_ a2 (f8.tr a3)
          rw [eD, q1]
          show (match ntD o H W r (((m0 + p.length : Nat) + 1 : Int) + 1) G1 with
            | .inr e => Sum.inr e
            | .inl q => Sum.inl (q.1, ((G.2.1.length : Int), (G1.2.1.length : Int)) :: q.2)) = _
          rw [a1]
      · refine hn e σ7 ?_ q2 (f06.tr (FrNt.ga q3))
        rw [eD, q1]
    refine ⟨fun h9 => main 0 ?_, fun h9 => main 1 ?_⟩
    · rw [hC1.2.2.2.2.2.1, decide_eq_false h9]
      rfl
    · rw [hC1.2.2.2.2.2.1, decide_eq_true h9]
      rfl
/-- all notes' lines -/
theorem Setter_printNotes.c {N : List (List Int)} {m0 : Nat} {G : GS9} {A B : List Int} (hz : z = 49 ∨ z = 163) (hN : ∀ n ∈ N, okK n) (hN6 : suM (N.map pkL) ≤ 65000) (hNm : m0 + N.length ≤ 60) (hb : HyB H.2.1 H.2.2.1 H.2.2.2.1 H.2.2.2.2) (hW : 12 ≤ W ∧ W ≤ 80) (ho : Rg o) (hc : c9 ≤ 0) (hC : NtC σ H W o z N m0) (hG : GaC σ G []) (hB : GB9 c9 G) (x1 : mX σ 142 = A) (x2 : mX σ 144 = B) (hA : A.length + N.length ≤ 60) (hB6 : B.length + N.length ≤ 60) (hy : ∀ G' sp σ', ntD o H W N ((m0 : Int) + 1) G = .inl (G', sp) → FrNt σ σ' → GaC σ' G' [] → mX σ' 142 = A ++ sp.map (·.1) → mX σ' 144 = B ++ sp.map (·.2) → Q (.inl none) σ') (hn : ∀ e σ', ntD o H W N ((m0 : Int) + 1) G = .inr e → TxF σ' e → FrNt σ σ' → Q (.inr (exN 0)) σ') : Setter_printNotes σ Q := Setter_printNotes.i (nts_10 hz hN hN6 hNm hb hW ho hc N [] σ G A B rfl hC hG hB x1 x2 hA hB6 hy hn)
end
