/-! THE TEXT OF A PARAGRAPH OR AN ITEM: the class fills it -/
section
variable {σ σ0 : MS} {Q : MQ9} {H : HY9} {U P S : List Int} {hg o : Int} {X : List (Nat × Nat × Bool)}
theorem told_c {k : Nat} {v : Int} (hk : k < 13) (hv : mV σ 24 k = v) (hq : Q (.inl (some v)) σ) : Rules_told (k : Int) σ Q := Rules_told.i ⟨by unfold Rg; omega, fun h9 => absurd h9 (by omega), fun _ => ⟨by unfold Rg; omega, fun h9 => absurd h9 (by omega), fun _ => ⟨by omega, by omega, by rw [Int.toNat_natCast, hv]; exact hq⟩⟩⟩
/-- settings are within their bounds -/
def StB (S : List Int) : Prop := (12 ≤ S.getD 0 0 ∧ S.getD 0 0 ≤ 80) ∧ (0 ≤ S.getD 1 0 ∧ S.getD 1 0 ≤ 8) ∧ (0 ≤ S.getD 2 0 ∧ S.getD 2 0 ≤ 3) ∧ (0 ≤ S.getD 3 0 ∧ S.getD 3 0 ≤ 1) ∧ (0 ≤ S.getD 6 0 ∧ S.getD 6 0 ≤ 1) ∧ (0 ≤ S.getD 7 0 ∧ S.getD 7 0 ≤ 3) ∧ (0 ≤ S.getD 8 0 ∧ S.getD 8 0 ≤ 3)
/-- what the filler reads for a text -/
def FiC (σ : MS) (H : HY9) (S P : List Int) (hg : Int) : Prop := (∀ k, k < 13 → mV σ 24 k = S.getD k 0) ∧ mX σ 118 = P ∧ mV σ 111 9 = hg ∧ (mX σ 112 = [] ∧ mX σ 114 = [] ∧ mX σ 116 = []) ∧ HyC σ H.2.1 H.2.2.1 H.2.2.2.1 H.2.2.2.2 ∧ H.1 = decide (S.getD 3 0 = 1)
def FrFx (σ σ' : MS) : Prop := (∀ q, q ≠ 112 → q ≠ 114 → q ≠ 116 → q ≠ 120 → q ≠ 122 → q ≠ 124 → mX σ' q = mX σ q) ∧ σ'.2.2 = σ.2.2 ∧ ∀ z k, z ≠ 126 → ¬ (z = 111 ∧ (k = 10 ∨ k = 11 ∨ k = 12)) → mV σ' z k = mV σ z k
theorem FrFx.b {σ1 : MS} (h : FrFb σ σ1) : FrFx σ σ1 := ⟨h.1, h.2.1, fun z k a b => h.2.2 z k a (by omega)⟩
theorem FrFx.l {σ1 : MS} (h : FrFl σ σ1) : FrFx σ σ1 := ⟨fun q a b c _ _ _ => h.1 q a b c, h.2.1, fun z k a b => h.2.2 z k a (by omega)⟩
theorem FrFx.v {k : Nat} {x : Int} (h : k = 10 ∨ k = 11) : FrFx σ (wV σ 111 k x) := ⟨fun _ _ _ _ _ _ _ => rfl, rfl, fun z' k' _ b => wV_ne (by omega)⟩
theorem FrFx.tr {σ1 σ2 : MS} (h : FrFx σ σ1) (h' : FrFx σ1 σ2) : FrFx σ σ2 := ⟨fun q a b c d e f => (h'.1 q a b c d e f).trans (h.1 q a b c d e f), h'.2.1.trans h.2.1, fun z k a b => (h'.2.2 z k a b).trans (h.2.2 z k a b)⟩
theorem HyC.fx {P X : List (List Int)} {l r : Int} {σ1 : MS} (h : HyC σ P X l r) (f : FrFx σ σ1) : HyC σ1 P X l r := ⟨h.1.cg (f.1 _ (by decide) (by decide) (by decide) (by decide) (by decide) (by decide)) (f.1 _ (by decide) (by decide) (by decide) (by decide) (by decide) (by decide)), h.2.1.cg (f.1 _ (by decide) (by decide) (by decide) (by decide) (by decide) (by decide)) (f.1 _ (by decide) (by decide) (by decide) (by decide) (by decide) (by decide)), (f.2.2 _ _ (by decide) (by decide)).trans h.2.2.1, (f.2.2 _ _ (by decide) (by decide)).trans h.2.2.2⟩
/-- the row is filled by the way that is told -/
theorem ft_134 {l1 l3 l4 : Int} (hS : StB S) (hU : mX σ 87 = U) (hU6 : U.length ≤ 65535) (hok : okK U) (hbk : bkE U) (hb : HyB H.2.1 H.2.2.1 H.2.2.2.1 H.2.2.2.2) (hF : FiC σ H S P hg) (hP6 : P.length ≤ 64) (hh : 0 ≤ hg ∧ hg ≤ 100) (hq : ∀ σ', FrFx σ σ' → mX σ' 112 = lnA 0 (txX H S P hg U) → mX σ' 114 = lnB 0 (txX H S P hg U) → mX σ' 116 = lnP (txX H S P hg U) → mV σ' 111 10 = S.getD 2 0 → Setter_fillText_257 l1 l3 l4 σ' Q) : Setter_fillText_134 l1 l3 l4 σ Q := by
  obtain ⟨t1, t2, t3, ⟨t4, t5, t6⟩, t7, t8⟩ := hF
  obtain ⟨b0, b1, b2, b3, b6, b7, b8⟩ := hS
  have r1 : rmO (S.getD 0 0) (P.length : Int) = max 4 (S.getD 0 0 - (P.length : Int)) := rfl
  have r2 : rmO (S.getD 0 0) hg = max 4 (S.getD 0 0 - hg) := rfl
  have z1 : rmO (S.getD 0 0) (P.length : Int) = (((rmO (S.getD 0 0) (P.length : Int)).toNat : Nat) : Int) := by omega
  have z2 : rmO (S.getD 0 0) hg = (((rmO (S.getD 0 0) hg).toNat : Nat) : Int) := by omega
  have fill : ∀ σ1 : MS, FrFx σ σ1 → (mX σ1 112 = [] ∧ mX σ1 114 = [] ∧ mX σ1 116 = []) → mV σ1 111 11 = bZ H.1 → mV σ1 111 10 = S.getD 2 0 → ¬ (decide (S.getD 6 0 = 1) = true ∧ ¬ (bsW H U (rmO (S.getD 0 0) (P.length : Int)).toNat (rmO (S.getD 0 0) hg).toNat 0).1 = -1) → Setter_fillText_218 l1 l3 l4 σ1 Q := fun σ1 f1 n1 v1 j1 hno => by
    have eX : txX H S P hg U = fiL H U (rmO (S.getD 0 0) (P.length : Int)).toNat (rmO (S.getD 0 0) hg).toNat U.length 0 := if_neg hno
    have hU1 : mX σ1 87 = U := (f1.1 87 (by decide) (by decide) (by decide) (by decide) (by decide) (by decide)).trans hU
    have w1 : mV σ1 24 0 = S.getD 0 0 := (f1.2.2 _ _ (by decide) (by decide)).trans (t1 0 (by decide))
    have p1 : mX σ1 118 = P := (f1.1 118 (by decide) (by decide) (by decide) (by decide) (by decide) (by decide)).trans t2
    have h1 : mV σ1 111 9 = hg := (f1.2.2 _ _ (by decide) (by decide)).trans t3
    refine Setter_fillText_218.i (Setter_fillText_219.i ⟨fun h9 => absurd rfl h9, fun _ => ?_⟩)
    refine Filler_roomOf.c (by decide) w1 b0 p1 hP6 h1 hh ?_
    refine Filler_roomOf.c (by decide) w1 b0 p1 hP6 h1 hh ?_
    rw [if_pos rfl, if_neg (by decide), hU1]
    have e0 : (0 : Int) = ((0 : Nat) : Int) := rfl
    show Filler_fill 87 0 (U.length : Int) (rmO (S.getD 0 0) (P.length : Int)) (rmO (S.getD 0 0) hg) σ1 _
    rw [z1, z2]
    have ff := Filler_fill.c (Q := kV (thQ Q) fun σ3 => Setter_fillText_257 l1 l3 l4 σ3 Q) (q := 87) (x0 := 0) (R1 := (rmO (S.getD 0 0) (P.length : Int)).toNat) (R2 := (rmO (S.getD 0 0) hg).toNat) hok hbk hb (by decide) (by omega) (by omega) (by rw [n1.1]; show 0 + _ ≤ _; omega) (by rw [n1.2.1]; show 0 + _ ≤ _; omega) (by rw [n1.2.2]; show 0 + _ ≤ _; omega) (LnC.w (by decide) hU1 hU6) (t7.fx f1) v1 (fun σ2 f2 x1 x2 x3 => by
      rw [n1.1, List.nil_append, ← eX] at x1
      rw [n1.2.1, List.nil_append, ← eX] at x2
      rw [n1.2.2, List.nil_append, ← eX] at x3
      exact hq σ2 (f1.tr (FrFx.l f2)) x1 x2 x3 ((f2.2.2 _ _ (by decide) (by decide)).trans j1))
    rw [Nat.zero_add] at ff
    exact ff
  refine Setter_fillText_134.i (told_c (k := 2) (by decide) (t1 2 (by decide)) ?_)
  refine told_c (k := 3) (by decide) ((wV_ne (Or.inl (by decide))).trans (t1 3 (by decide))) ?_
  show (¬ S.getD 3 0 = 1 → _) ∧ (S.getD 3 0 = 1 → _)
  have main : ∀ s1 : Int, s1 = bZ H.1 → Setter_fillText_170 l1 l3 l4 s1 (wV σ 111 10 (S.getD 2 0)) Q := fun s1 hs1 => by
    have h01 : s1 = 0 ∨ s1 = 1 := by
      rw [hs1]
      cases H.1
      · exact Or.inl rfl
      · exact Or.inr rfl
    have f2 : FrFx σ (wV (wV σ 111 10 (S.getD 2 0)) 111 11 s1) := (FrFx.v (by decide)).tr (FrFx.v (by decide))
    have j2 : mV (wV (wV σ 111 10 (S.getD 2 0)) 111 11 s1) 111 10 = S.getD 2 0 := by rw [wV_ne (Or.inr (by decide)), wV_self]
    have v2 : mV (wV (wV σ 111 10 (S.getD 2 0)) 111 11 s1) 111 11 = bZ H.1 := by rw [wV_self]; exact hs1
    have n2 : mX (wV (wV σ 111 10 (S.getD 2 0)) 111 11 s1) 112 = [] ∧ mX (wV (wV σ 111 10 (S.getD 2 0)) 111 11 s1) 114 = [] ∧ mX (wV (wV σ 111 10 (S.getD 2 0)) 111 11 s1) 116 = [] := ⟨t4, t5, t6⟩
    refine Setter_fillText_170.i (b01.i h01 ?_)
    generalize wV (wV σ 111 10 (S.getD 2 0)) 111 11 s1 = σ2 at f2 j2 v2 n2
    refine told_c (k := 6) (by decide) ((f2.2.2 _ _ (by decide) (by decide)).trans (t1 6 (by decide))) ?_
    show (¬ S.getD 6 0 = 1 → _) ∧ (S.getD 6 0 = 1 → _)
    refine ⟨fun h9 => fill σ2 f2 n2 v2 j2 (fun h => h9 (of_decide_eq_true h.1)), fun h9 => ?_⟩
    have hU2 : mX σ2 87 = U := (f2.1 87 (by decide) (by decide) (by decide) (by decide) (by decide) (by decide)).trans hU
    have w1 : mV σ2 24 0 = S.getD 0 0 := (f2.2.2 _ _ (by decide) (by decide)).trans (t1 0 (by decide))
    have p1 : mX σ2 118 = P := (f2.1 118 (by decide) (by decide) (by decide) (by decide) (by decide) (by decide)).trans t2
    have h1 : mV σ2 111 9 = hg := (f2.2.2 _ _ (by decide) (by decide)).trans t3
    refine Filler_roomOf.c (by decide) w1 b0 p1 hP6 h1 hh ?_
    refine Filler_roomOf.c (by decide) w1 b0 p1 hP6 h1 hh ?_
    rw [if_pos rfl, if_neg (by decide)]
    show Filler_fillBest 87 (rmO (S.getD 0 0) (P.length : Int)) (rmO (S.getD 0 0) hg) σ2 _
    rw [z1, z2]
    refine Filler_fillBest.c (H := H) (by decide) (by unfold q9B; decide) hU2 hU6 hok hbk hb (t7.fx f2) v2 (by omega) (by omega) n2 (fun hw σ3 f3 n3 => ?_) (fun hw σ3 f3 x1 x2 x3 => ?_)
    · show ((0 : Int) = 0 → _) ∧ (¬ (0 : Int) = 0 → _)
      exact ⟨fun _ => fill σ3 (f2.tr (FrFx.b f3)) n3 ((f3.2.2 _ _ (by decide) (by decide)).trans v2) ((f3.2.2 _ _ (by decide) (by decide)).trans j2) (fun h => h.2 hw), fun h => absurd rfl h⟩
    · show ((1 : Int) = 0 → _) ∧ (¬ (1 : Int) = 0 → _)
      have eX : txX H S P hg U = bsL H U (rmO (S.getD 0 0) (P.length : Int)).toNat (rmO (S.getD 0 0) hg).toNat U.length 0 := if_pos ⟨decide_eq_true h9, hw⟩
      rw [← eX] at x1 x2 x3
      exact ⟨fun h => absurd h (by decide), fun _ => Setter_fillText_219.i ⟨fun _ => hq σ3 (f2.tr (FrFx.b f3)) x1 x2 x3 ((f3.2.2 _ _ (by decide) (by decide)).trans j2), fun h => absurd h (by decide)⟩⟩
  refine ⟨fun h9 => main 0 ?_, fun h9 => main 1 ?_⟩
  · rw [t8, decide_eq_false h9]
    rfl
  · rw [t8, decide_eq_true h9]
    rfl
/-- notes know where they are carried -/
theorem ft_305 {first : Nat} {V : List Int} {N : List (List Int)} (hN : shR σ0 104 N) (hl : V.length = N.length) (hV : mX σ0 109 = V) (hVr : ∀ v ∈ V, Rg v) (hf9 : first ≤ 10000) (hX6 : X.length ≤ 65536) (hX : ∀ x ∈ X, x.2.1 ≤ 70000) (h114 : mX σ0 114 = lnB 0 X) {A : List Int} (hA : A.length + V.length ≤ 60) (hq : Q (.inl none) (wX σ0 140 (A ++ V.map (fun c => ((first + lnO c X : Nat) : Int))))) : ∀ (r p : List Int), V = p ++ r → Setter_fillText_305 (first : Int) (p.length : Int) (wX σ0 140 (A ++ p.map (fun c => ((first + lnO c X : Nat) : Int)))) Q := by
  have l7 : (mX σ0 107).length = V.length := by rw [hN.2, enS_len, hl]
  intro r
  induction r with
  | nil =>
    intro p he
    rw [List.append_nil] at he
    refine Setter_fillText_305.i (Shelf_rows.i (tB.i (by decide) (tB.i (by decide) ?_)))
    show Rg (p.length : Int) ∧ ((((mX (wX σ0 140 _) 107).length : Nat) : Int) ≤ _ → _) ∧ _
    rw [wX_ne (by decide), l7, he]
    rw [he] at hq
    exact ⟨by rw [← he]; unfold Rg; omega, fun _ => hq, fun h9 => absurd h9 (by omega)⟩
  | cons x r ih =>
    intro p he
    have h2 : V.length = p.length + (r.length + 1) := by rw [he, List.length_append, List.length_cons]
    have hx : Rg x := hVr x (by rw [he]; exact List.mem_append_right _ List.mem_cons_self)
    refine Setter_fillText_305.i (Shelf_rows.i (tB.i (by decide) (tB.i (by decide) ?_)))
    show Rg (p.length : Int) ∧ ((((mX (wX σ0 140 (A ++ p.map (fun c => ((first + lnO c X : Nat) : Int)))) 107).length : Nat) : Int) ≤ _ → _) ∧ _
    rw [wX_ne (by decide), l7]
    refine ⟨by unfold Rg; omega, fun h9 => absurd h9 (by omega), fun _ => ⟨by unfold Rg; omega, ?_⟩⟩
    rw [wX_ne (by decide), hV, rgt_at he]
    refine Setter_lineOf.c (x0 := 0) hx hX6 (by decide) hX (by rw [wX_ne (by decide)]; exact h114) ?_
    have ll := lnO_l (p := x - ((0 : Nat) : Int)) X
    show Rg ((first : Int) + ((lnO (x - ((0 : Nat) : Int)) X : Nat) : Int)) ∧ _
    rw [wX_self, wX_wX, List.append_assoc]
    refine ⟨by unfold Rg; omega, ?_, ?_⟩
    · rw [List.length_append, List.length_map]
      omega
    · have := ih (p ++ [x]) (by rw [List.append_assoc]; exact he)
      rw [List.length_append, List.map_append] at this
      rw [show (first : Int) + ((lnO (x - ((0 : Nat) : Int)) X : Nat) : Int) = ((first + lnO x X : Nat) : Int) by
        rw [show x - ((0 : Nat) : Int) = x by omega]
        omega]
      exact this
end
