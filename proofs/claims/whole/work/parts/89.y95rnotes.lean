/-! NOTES' LINES: the reference -/
theorem prB0 {P : List Int} {hg J W : Int} {U : List Int} {many : Nat} : ∀ (X : List (Nat × Nat × Bool)) (i : Nat), prB P hg J W U 0 many i X = prA P hg J W U i X
  | [], _ => rfl
  | x :: r, i => by
    have h : hoF 0 many i = false := decide_eq_false (by omega)
    show (prL P hg J W r.isEmpty U i x, bZ (hoF 0 many i) + 2 * bZ x.2.2) :: prB P hg J W U 0 many (i + 1) r = (prL P hg J W r.isEmpty U i x, 2 * bZ x.2.2) :: prA P hg J W U (i + 1) r
    rw [prB0 r (i + 1), h]
    congr 2
    show (0 : Int) + _ = _
    omega
theorem gWk_k : ∀ {C : List (List Int)} {w : Int × Int} {n : Nat} {e : Int × Int × Int}, gWk C w n = .inr e → e.1 = 8 ∨ e.1 = 9
  | [], w, n, e, h => by cases h
  | c :: r, w, n, e, h => by
    have h : (if 1500 ≤ n then (Sum.inr (9, w.1, w.2) : (Int × Int) ⊕ (Int × Int × Int)) else if 60000 < w.1 + (20 + (c.length : Int)) ∨ 400000 < w.2 + (20 + (c.length : Int)) then .inr (8, w.1, w.2) else gWk r (w.1 + (20 + (c.length : Int)), w.2 + (20 + (c.length : Int))) (n + 1)) = .inr e := h
    split at h
    · rw [← Sum.inr.inj h]
      exact Or.inr rfl
    · split at h
      · rw [← Sum.inr.inj h]
        exact Or.inl rfl
      · exact gWk_k h
theorem gAll_k {o : Int} {fw : Bool} {X : List (List Int × Int)} {G : GS9} {e : Int × Int × Int} (h : gAll o fw X G = .inr e) : e.1 = 8 ∨ e.1 = 9 := by
  rw [gAll_w] at h
  cases h1 : gWk (X.map (·.1)) G.1 G.2.1.length with
  | inl w =>
    rw [h1] at h
    cases h
  | inr e2 =>
    rw [h1] at h
    have : e2 = e := Sum.inr.inj h
    rw [← this]
    exact gWk_k h1
theorem gAll_l {o : Int} {fw : Bool} {X : List (List Int × Int)} {G G' : GS9} (h : gAll o fw X G = .inl G') : G'.2.1 = G.2.1 ++ X.map (fun x => (x.1, o, x.2)) ∧ G'.2.2 = (if fw = true then G.2.2 ++ seqZ G.2.1.length X.length else G.2.2) ∧ gWk (X.map (·.1)) G.1 G.2.1.length = .inl G'.1 := by
  rw [gAll_w] at h
  cases h1 : gWk (X.map (·.1)) G.1 G.2.1.length with
  | inr e2 =>
    rw [h1] at h
    cases h
  | inl w =>
    rw [h1] at h
    have : (w, G.2.1 ++ X.map (fun x => (x.1, o, x.2)), if fw = true then G.2.2 ++ seqZ G.2.1.length X.length else G.2.2) = G' := Sum.inl.inj h
    rw [← this]
    exact ⟨rfl, rfl, rfl⟩
theorem prA_l {P : List Int} {hg J W : Int} {U : List Int} : ∀ (X : List (Nat × Nat × Bool)) (i : Nat), (prA P hg J W U i X).length = X.length
  | [], _ => rfl
  | x :: r, i => by
    show (prA P hg J W U (i + 1) r).length + 1 = r.length + 1
    rw [prA_l r (i + 1)]
def NlS : List Nat := [350, 303, 304, 337, 256, 348] ++ 338 :: 339 :: MkS
def FrNl (m0 n : Nat) (σ σ' : MS) : Prop := FrZ NlS [28, 32, 33, 98, 99, 160, 146, 147, 148, 143, 161] σ σ' ∧ (∀ z k, z = 315 ∨ z = 316 ∨ z = 317 ∨ z = 318 → k < n → mV σ' z k = mV σ z k) ∧ ∀ z k, z = 303 ∨ z = 304 → k < m0 → mV σ' z k = mV σ z k
section
variable {σ σ0 : MS} {Q : MQ9} {H : HY9} {W o c9 : Int} {m0 n0 : Nat}
theorem FrNl.rf : FrNl m0 n0 σ σ := ⟨FrZ.rf, fun _ _ _ _ => rfl, fun _ _ _ _ => rfl⟩
theorem FrNl.tr {m1 n1 : Nat} {σ1 σ2 : MS} (h : FrNl m0 n0 σ σ1) (hm : m0 ≤ m1) (hn : n0 ≤ n1) (h' : FrNl m1 n1 σ1 σ2) : FrNl m0 n0 σ σ2 := ⟨h.1.tr h'.1, fun z k a b => (h'.2.1 z k a (by omega)).trans (h.2.1 z k a b), fun z k a b => (h'.2.2 z k a (by omega)).trans (h.2.2 z k a b)⟩
theorem FrNl.z {S K : List Nat} {σ1 : MS} (h : FrZ S K σ σ1) (hs : ∀ x ∈ S, x ∈ [350, 337, 256, 348, 338, 339]) (hk : ∀ x ∈ K, x ∈ [28, 32, 33, 98, 99, 160, 146, 147, 148, 143, 161]) : FrNl m0 n0 σ σ1 := by
  have ns : ∀ z, z = 315 ∨ z = 316 ∨ z = 317 ∨ z = 318 ∨ z = 303 ∨ z = 304 → z ∉ S := fun z hz hm => by
    have := hs z hm
    simp only [List.mem_cons, List.not_mem_nil, or_false] at this
    omega
  refine ⟨h.mo (fun x hx => ?_) (fun x hx => hk x hx), fun z k hz _ => h.z (ns z (by omega)) (by omega), fun z k hz _ => h.z (ns z (by omega)) (by omega)⟩
  have := hs x hx
  unfold NlS MkS
  simp only [List.mem_cons, List.not_mem_nil, or_false, List.cons_append, List.nil_append] at this ⊢
  omega
theorem FrNl.fi {σ1 : MS} (h : FrFi n0 σ σ1) : FrNl m0 n0 σ σ1 := ⟨h.1.mo (fun x hx => by
  unfold NlS
  exact List.mem_append_right _ hx) (fun x hx => by
  simp only [List.mem_cons, List.not_mem_nil, or_false] at hx ⊢
  omega), h.2, fun z k hz _ => h.1.z (by
  unfold MkS
  simp only [List.mem_cons, List.not_mem_nil, or_false]
  omega) (by omega)⟩
theorem FrNl.mk {σ1 : MS} (h : FrMk n0 σ σ1) : FrNl m0 n0 σ σ1 := FrNl.fi (FrFi.l (FrLa.k h))
/-- the notes that wait for their lines -/
def NoR (σ : MS) (N : List (List Int)) (m0 : Nat) : Prop := mV σ 246 86 = ((m0 + N.length : Nat) : Int) ∧ ∀ i, i < N.length → mV σ 301 (m0 + i) = ((70000 + suM (N.take i) : Nat) : Int) ∧ mV σ 302 (m0 + i) = ((70000 + suM (N.take i) + (N.getD i []).length : Nat) : Int) ∧ hoG σ 254 255 (70000 + suM (N.take i)) (N.getD i [])
theorem NoR.fr {N : List (List Int)} {m1 n1 : Nat} {σ1 : MS} (h : NoR σ N m0) (f : FrNl m1 n1 σ σ1) : NoR σ1 N m0 := ⟨(f.1.f (by decide) (by decide)).trans h.1, fun i hi => by
  have := h.2 i hi
  refine ⟨(f.1.z (by decide) (by decide)).trans this.1, (f.1.z (by decide) (by decide)).trans this.2.1, this.2.2.cg (fun k _ _ => ⟨f.1.z (by decide) (by decide), f.1.z (by decide) (by decide)⟩)⟩⟩
theorem HyR.k {S K : List Nat} {P X : List (List Int)} {l r : Int} {σ1 : MS} (h : HyR σ P X l r) (q : FrZ S K σ σ1) (h1 : ∀ z ∈ [246, 269, 270, 271, 272, 273, 274, 275], z ∉ S) (h2 : ∀ k ∈ [47, 48], k ∉ K) : HyR σ1 P X l r := by
  obtain ⟨⟨a1, a2⟩, ⟨b1, b2⟩, c1, c2⟩ := h
  refine ⟨⟨(q.f (h2 _ (by decide)) (h1 _ (by decide))).trans a1, fun p hp => ?_⟩, ⟨(q.f (h2 _ (by decide)) (h1 _ (by decide))).trans b1, fun x hx => ?_⟩, (q.z (h1 _ (by decide)) (by decide)).trans c1, (q.z (h1 _ (by decide)) (by decide)).trans c2⟩
  · obtain ⟨d1, d2, d3⟩ := a2 p hp
    exact ⟨(q.z (h1 _ (by decide)) (by decide)).trans d1, d2.cg (fun k _ _ => q.z (h1 _ (by decide)) (by decide)), fun k hk => (q.z (h1 _ (by decide)) (by decide)).trans (d3 k hk)⟩
  · obtain ⟨d1, d2, d3⟩ := b2 x hx
    exact ⟨(q.z (h1 _ (by decide)) (by decide)).trans d1, d2.cg (fun k _ _ => q.z (h1 _ (by decide)) (by decide)), fun k hk => by rw [q.z (h1 _ (by decide)) (by decide)]; exact d3 k hk⟩
theorem HyR.nl {m1 n1 : Nat} {σ1 : MS} {P X : List (List Int)} {l r : Int} (h : HyR σ P X l r) (f : FrNl m1 n1 σ σ1) : HyR σ1 P X l r := h.k f.1 (by decide) (by decide)
/-- what notes' lines read -/
def NtR (σ : MS) (H : HY9) (W o : Int) (N : List (List Int)) (m0 : Nat) : Prop := NoR σ N m0 ∧ HyR σ H.2.1 H.2.2.1 H.2.2.2.1 H.2.2.2.2 ∧ mV σ 275 0 = W ∧ H.1 = decide (mV σ 275 3 = 1) ∧ mV σ 246 29 = o
theorem NtR.fr {N : List (List Int)} {m1 n1 : Nat} {σ1 : MS} (h : NtR σ H W o N m0) (f : FrNl m1 n1 σ σ1) : NtR σ1 H W o N m0 := ⟨h.1.fr f, h.2.1.nl f, (f.1.z (by decide) (by decide)).trans h.2.2.1, by rw [f.1.z (z := 275) (by decide) (by decide)]; exact h.2.2.2.1, (f.1.f (by decide) (by decide)).trans h.2.2.2.2⟩
theorem RxG.z {S K : List Nat} {σ1 : MS} {G : GS9} (h : RxG σ G) (f : FrZ S K σ σ1) (hs : ∀ z ∈ [246, 308, 309, 310, 311, 312, 313, 314], z ∉ S) (hk : ∀ k ∈ [28, 32, 33, 98, 99], k ∉ K) : RxG σ1 G := ⟨(f.f (hk _ (by decide)) (hs _ (by decide))).trans h.1, (f.f (hk _ (by decide)) (hs _ (by decide))).trans h.2.1, (f.f (hk _ (by decide)) (hs _ (by decide))).trans h.2.2.1, h.2.2.2.cg (f.f (hk _ (by decide)) (hs _ (by decide))) (f.f (hk _ (by decide)) (hs _ (by decide))) (fun z k hz _ => f.z (hs _ (by rcases hz with rfl | rfl | rfl | rfl | rfl <;> decide)) (by omega)) (fun k _ => ⟨f.z (hs _ (by decide)) (by decide), f.z (hs _ (by decide)) (by decide)⟩)⟩
/-- the number goes ahead of the note -/
theorem nls_67 {l2 l3 : Int} {P9 : List Int} (hP : P9.length ≤ 20) (hPs : smB P9) (h143 : mV σ0 246 143 = (P9.length : Int)) (h337 : hol σ0 337 P9) (hq : ∀ σ', FrZ [350] [] σ0 σ' → hol σ' 350 P9 → R_notesLines_67 l2 l3 (P9.length : Int) σ' Q) : ∀ (n j : Nat) (σ : MS), j + n = P9.length → FrZ [350] [] σ0 σ → (∀ i, i < j → mV σ 350 i = P9.getD i 0) → R_notesLines_67 l2 l3 (j : Int) σ Q := by
  intro n
  induction n with
  | zero =>
    intro j σ hj hf hh
    have := hq σ hf (fun i hi => hh i (by omega))
    rw [show P9.length = j by omega] at this
    exact this
  | succ n ih =>
    intro j σ hj hf hh
    have e := (hf.f (k := 143) (by decide) (by decide)).trans h143
    have e7 : mV σ 337 j = P9.getD j 0 := (hf.z (by decide) (by decide)).trans (h337 j (by omega))
    refine R_notesLines_67.i ⟨by unfold Rg; omega, fun h9 => absurd h9 (by omega), fun _ => ⟨by omega, by omega, by omega, by omega, ?_⟩⟩
    rw [Int.toNat_natCast, e7, hPs.at (by omega), show (j : Int) + 1 = ((j + 1 : Nat) : Int) by omega]
    refine ih (j + 1) _ (by omega) (hf.tr (FrZ.wz (by decide))) (fun i hi => ?_)
    by_cases hij : i = j
    · rw [hij, wV_self]
    · rw [wV_ne (Or.inr hij)]
      exact hh i (by omega)
theorem nls_177 {l2 l3 : Int} {P : List Int} {G : GS9} {e : Nat} (hl3 : l3 = (P.length : Int)) (hP : 2 ≤ P.length ∧ P.length ≤ 22) (hPs : ∀ x ∈ P, 0 ≤ x ∧ x ≤ 127) (h350 : hol σ0 350 P) (hG : RxG σ0 G) (hB : GB9 c9 G) (ho : mV σ0 246 29 = o) (hy : ∀ G' σ', gFin o (sgT P 0 (P.length - 1)) 0 false G = .inl G' → RxG σ' G' → FrLa G.2.1.length σ0 σ' → R_notesLines_212 l2 σ' Q) (hn : ∀ e σ', gFin o (sgT P 0 (P.length - 1)) 0 false G = .inr e → TxR σ' e → mV σ' 246 99 = (G.2.1.length : Int) → FrLa G.2.1.length σ0 σ' → R_notesLines_212 l2 σ' Q) : ∀ (n j : Nat) (σ : MS), j + n = P.length - 1 → FrZ [338, 339] [160] σ0 σ → LbR σ (sgT P 0 j) → R_notesLines_177 l2 l3 (j : Int) σ Q := by
  intro n
  induction n with
  | zero =>
    intro j σ hj hf hb
    rw [show j = P.length - 1 by omega] at hb ⊢
    have sl := sgT_l (U := P) (a := 0) (b := P.length - 1) (by omega)
    refine R_notesLines_177.i ⟨by unfold Rg; omega, by unfold Rg; omega, fun _ => ?_, fun h9 => absurd h9 (by omega)⟩
    refine R_makes.p (pt := false) (fw := false) (by decide) (by decide) (hG.b hf) hB hb (by omega) ((hf.f (by decide) (by decide)).trans ho) (fun G' σ' q1 q2 q3 _ => ?_) (fun e σ' q1 q2 q9 q3 => ?_)
    · exact hy G' σ' q1 q2 ((FrLa.b hf).tr (Nat.le_refl _) (FrLa.k q3))
    · exact hn e σ' q1 q2 q9 ((FrLa.b hf).tr (Nat.le_refl _) (FrLa.k q3))
  | succ n ih =>
    intro j σ hj hf hb
    have e2 : mV σ 350 j = P.getD j 0 := (hf.z (by decide) (by decide)).trans (h350 j (by omega))
    have hm : P.getD j 0 ∈ P := by
      unfold List.getD
      rw [List.getElem?_eq_getElem (by omega), Option.getD_some]
      exact List.getElem_mem _
    have hx := hPs _ hm
    refine R_notesLines_177.i ⟨by unfold Rg; omega, by unfold Rg; omega, fun h9 => absurd h9 (by omega), fun _ => ⟨by omega, by omega, ?_⟩⟩
    rw [Int.toNat_natCast, e2]
    have := R_adds.p (Q := kV (thQ Q) fun σ1 => R_notesLines_177 l2 l3 ((j : Int) + 1) σ1 Q) (c := P.getD j 0) hb (by rw [sgT_l (by omega)]; omega) (fun σ2 f2 b2 => by
      show R_notesLines_177 l2 l3 ((j : Int) + 1) σ2 Q
      have e3 : sgT P 0 j ++ [P.getD j 0] = sgT P 0 (j + 1) := by
        unfold sgT
        rw [List.drop_zero, Nat.sub_zero, Nat.sub_zero, List.take_succ]
        unfold List.getD
        rw [List.getElem?_eq_getElem (by omega)]
        rfl
      rw [e3] at b2
      exact ih (j + 1) σ2 (by omega) (hf.tr f2) b2)
    rw [show P.getD j 0 % 128 = P.getD j 0 by omega, show cyB (P.getD j 0) = 0 by unfold cyB; omega] at this
    exact this
theorem nls_2 {N : List (List Int)} (hN : ∀ n ∈ N, okK n) (hN6 : suM N ≤ 65000) (hNm : m0 + N.length ≤ 60) (hb : HyB H.2.1 H.2.2.1 H.2.2.2.1 H.2.2.2.2) (hW : 12 ≤ W ∧ W ≤ 80) (hc : c9 ≤ 0) : ∀ (r p : List (List Int)) (σ : MS) (G : GS9), N = p ++ r → NtR σ H W o N m0 → RxG σ G → GB9 c9 G → (∀ G' sp σ', ntD o H W r ((m0 + p.length : Nat) + 1 : Int) G = .inl (G', sp) → FrNl (m0 + p.length) G.2.1.length σ σ' → RxG σ' G' → (∀ i, i < r.length → mV σ' 303 (m0 + p.length + i) = (sp.getD i (0, 0)).1 ∧ mV σ' 304 (m0 + p.length + i) = (sp.getD i (0, 0)).2) → Q (.inl none) σ') → (∀ e σ', ntD o H W r ((m0 + p.length : Nat) + 1 : Int) G = .inr e → TxR σ' e → FrNl (m0 + p.length) G.2.1.length σ σ' → Q (.inl none) σ') → R_notesLines_2 ((m0 + p.length : Nat) : Int) σ Q := by
  intro r
  induction r with
  | nil =>
    intro p σ G he hC hG hB hy hn
    have e86 := hC.1.1
    have hl : N.length = p.length := by rw [he, List.append_nil]
    exact R_notesLines_2.i ⟨by unfold Rg; omega, fun _ => hy G [] σ rfl FrNl.rf hG (fun i hi => absurd hi (Nat.not_lt_zero _)), fun h9 => absurd h9 (by omega)⟩
  | cons n r ih =>
    intro p σ G he hC hG hB hy hn
    have e86 := hC.1.1
    have hl : N.length = p.length + (r.length + 1) := by rw [he, List.length_append, List.length_cons]
    have b3 := hB.2.2.1
    refine R_notesLines_2.i ⟨by unfold Rg; omega, fun h9 => absurd h9 (by omega), fun _ => ⟨fun h9 => absurd hG.1 h9, fun _ => ⟨by unfold Rg; omega, ?_⟩⟩⟩
    rw [show ((m0 + p.length : Nat) : Int) + 1 = ((m0 + p.length : Nat) + 1 : Int) from rfl]
    refine R_writes.s (by omega) (by decide) (fun h => absurd h (by decide)) (fun σ1 s1 => ?_)
    have wl := wrN_len (n := ((m0 + p.length : Nat) + 1 : Int)) (sys := 1)
    have ws := wrN_s (n := ((m0 + p.length : Nat) + 1 : Int)) (sys := 1)
    have f1 : FrNl (m0 + p.length) G.2.1.length σ σ1 := FrNl.z s1.1 (by decide) (by decide)
    have hC1 := hC.fr f1
    have hG1 : RxG σ1 G := hG.z s1.1 (by decide) (by decide)
    have hg : N.getD p.length [] = n := by
      rw [he]
      unfold List.getD
      rw [List.getElem?_append_right (Nat.le_refl _), Nat.sub_self]
      rfl
    have tk : N.take p.length = p := by rw [he, List.take_append_of_le_length (Nat.le_refl _), List.take_length]
    have su : suM N = suM p + (n.length + suM r) := by rw [he, suM_app]; rfl
    have nk : okK n := hN n (by rw [he]; exact List.mem_append_right _ List.mem_cons_self)
    have no1 := hC1.1.2 p.length (by omega)
    rw [hg, tk] at no1
    show 0 ≤ ((m0 + p.length : Nat) : Int) ∧ _
    refine ⟨by omega, by omega, by omega, by omega, by decide, by decide, ?_⟩
    rw [Int.toNat_natCast, no1.1, no1.2.1, s1.2.1]
    have main : ∀ s3 : Int, s3 = bZ H.1 → R_notesLines_61 ((m0 + p.length : Nat) : Int) (((wrN ((m0 + p.length : Nat) + 1 : Int) 1).length : Int) + 2) ((70000 + suM p : Nat) : Int) ((70000 + suM p + n.length : Nat) : Int) s3 σ1 Q := fun s3 hs3 => by
      rw [hs3]
      refine R_notesLines_61.i (R_points.p (H := H) nk (by omega) hb hC1.2.1 no1.2.2 (fun σ2 p2 pt2 => ?_))
      have f2 : FrNl (m0 + p.length) G.2.1.length σ1 σ2 := FrNl.z p2.1 (by decide) (by decide)
      have hC2 := hC1.fr f2
      have hG2 : RxG σ2 G := hG1.z p2.1 (by decide) (by decide)
      have no2 := hC2.1.2 p.length (by omega)
      rw [hg, tk] at no2
      show R_notesLines_67 ((m0 + p.length : Nat) : Int) (((wrN ((m0 + p.length : Nat) + 1 : Int) 1).length : Int) + 2) 0 σ2 Q
      have h143 : mV σ2 246 143 = ((wrN ((m0 + p.length : Nat) + 1 : Int) 1).length : Int) := (p2.1.f (by decide) (by decide)).trans s1.2.1
      have h337 : hol σ2 337 (wrN ((m0 + p.length : Nat) + 1 : Int) 1) := fun i hi => (p2.1.z (by decide) (by decide)).trans (s1.2.2 i hi)
      have eP : ntP ((m0 + p.length : Nat) + 1 : Int) = wrN ((m0 + p.length : Nat) + 1 : Int) 1 ++ [46, 32] := rfl
      have lP : (ntP ((m0 + p.length : Nat) + 1 : Int)).length = (wrN ((m0 + p.length : Nat) + 1 : Int) 1).length + 2 := by rw [eP, List.length_append]; rfl
      generalize hwr : wrN ((m0 + p.length : Nat) + 1 : Int) 1 = D at wl ws h143 h337 eP lP ⊢
      refine nls_67 wl ws h143 h337 (fun σ3 f3 h350 => ?_) D.length 0 σ2 (by omega) FrZ.rf (fun i hi => absurd hi (Nat.not_lt_zero _))
      have f3' : FrNl (m0 + p.length) G.2.1.length σ2 σ3 := FrNl.z f3 (by decide) (by decide)
      have hC3 := hC2.fr f3'
      have hG3 : RxG σ3 G := hG2.z f3 (by decide) (by decide)
      have no3 := hC3.1.2 p.length (by omega)
      rw [hg, tk] at no3
      have k143 : mV σ3 246 143 = (D.length : Int) := (f3.f (by decide) (by decide)).trans h143
      refine R_notesLines_67.i ⟨by unfold Rg; omega, fun _ => ?_, fun h9 => absurd h9 (by omega)⟩
      rw [k143, Int.toNat_natCast, Int.toNat_natCast, show ((D.length : Int) + 1).toNat = D.length + 1 by omega, no3.1, no3.2.1, hG3.2.2.2.1, b8_id (x := 46) (by decide), b8_id (x := 32) (by decide)]
      refine ⟨by omega, by omega, by omega, by omega, by omega, by omega, by unfold Rg; omega, by omega, by omega, by omega, by omega, ?_⟩
      generalize hPP : ntP ((m0 + p.length : Nat) + 1 : Int) = P at eP lP
      have h4 : hol (wV (wV (wV (wV σ3 350 D.length 46) 350 (D.length + 1) 32) 303 (m0 + p.length) (G.2.1.length : Int)) 246 161 ((D.length : Int) + 2)) 350 P := fun i hi => by
        rw [wV_ne (Or.inl (by decide)), wV_ne (Or.inl (by decide)), eP]
        by_cases h1 : i < D.length
        · rw [wV_ne (Or.inr (by omega)), wV_ne (Or.inr (by omega)), getD_l h1]
          exact h350 i h1
        · by_cases h2 : i = D.length
          · rw [wV_ne (Or.inr (by omega)), h2, wV_self]
            unfold List.getD
            rw [List.getElem?_append_right (Nat.le_refl _), Nat.sub_self]
            rfl
          · have h3 : i = D.length + 1 := by omega
            rw [h3, wV_self]
            unfold List.getD
            rw [List.getElem?_append_right (by omega), show D.length + 1 - D.length = 1 by omega]
            rfl
      have g4 : FrZ [350, 303] [161] σ3 (wV (wV (wV (wV σ3 350 D.length 46) 350 (D.length + 1) 32) 303 (m0 + p.length) (G.2.1.length : Int)) 246 161 ((D.length : Int) + 2)) := (((FrZ.wz (by decide)).tr (FrZ.wz (by decide))).tr (FrZ.wz (by decide))).tr (FrZ.wf (by decide))
      have f4 : FrNl (m0 + p.length) G.2.1.length σ3 (wV (wV (wV (wV σ3 350 D.length 46) 350 (D.length + 1) 32) 303 (m0 + p.length) (G.2.1.length : Int)) 246 161 ((D.length : Int) + 2)) := ⟨g4.mo (by decide) (by decide), fun z k hz _ => g4.z (by simp only [List.mem_cons, List.not_mem_nil, or_false]; omega) (by omega), fun z k hz hk => by
        rw [wV_ne (Or.inl (by omega)), wV_ne (by omega), wV_ne (Or.inl (by omega)), wV_ne (Or.inl (by omega))]⟩
      have a4 : mV (wV (wV (wV (wV σ3 350 D.length 46) 350 (D.length + 1) 32) 303 (m0 + p.length) (G.2.1.length : Int)) 246 161 ((D.length : Int) + 2)) 246 161 = (P.length : Int) := by
        rw [wV_self]
        omega
      have c4 : mV (wV (wV (wV (wV σ3 350 D.length 46) 350 (D.length + 1) 32) 303 (m0 + p.length) (G.2.1.length : Int)) 246 161 ((D.length : Int) + 2)) 303 (m0 + p.length) = (G.2.1.length : Int) := by
        rw [wV_ne (Or.inl (by decide)), wV_self]
      generalize wV (wV (wV (wV σ3 350 D.length 46) 350 (D.length + 1) 32) 303 (m0 + p.length) (G.2.1.length : Int)) 246 161 ((D.length : Int) + 2) = σ4 at h4 g4 f4 a4 c4
      have hC4 := hC3.fr f4
      have hG4 : RxG σ4 G := hG3.z g4 (by decide) (by decide)
      have f04 : FrNl (m0 + p.length) G.2.1.length σ σ4 := ((f1.tr (Nat.le_refl _) (Nat.le_refl _) f2).tr (Nat.le_refl _) (Nat.le_refl _) f3').tr (Nat.le_refl _) (Nat.le_refl _) f4
      have no4 := hC4.1.2 p.length (by omega)
      rw [hg, tk] at no4
      have hPs : ∀ x ∈ P, 0 ≤ x ∧ x ≤ 127 := fun x hx => by
        rw [eP] at hx
        rcases List.mem_append.mp hx with hx | hx
        · exact ws x hx
        · simp only [List.mem_cons, List.not_mem_nil, or_false] at hx
          omega
      have ah : AhR σ4 P := ⟨P, a4, by omega, h4, Nat.le_refl _, by rw [Nat.sub_self]; rfl, hPs⟩
      have pt4 : ∀ j, j < n.length → mV σ4 256 (70000 + suM p + j) = ptD H n j := fun j hj => (g4.z (by decide) (by decide)).trans ((f3.z (by decide) (by decide)).trans (pt2 j hj))
      rw [show (D.length : Int) + 2 = (P.length : Int) by omega]
      have eD : ∀ rr, ntD o H W (n :: r) ((m0 + p.length : Nat) + 1 : Int) G = rr ↔ (match gAll o false (prN P (P.length : Int) 0 W (pkL n) 0 (ntX H W (pkL n) ((m0 + p.length : Nat) + 1 : Int))) G with
        | .inr e => .inr e
        | .inl G1 => match ntD o H W r (((m0 + p.length : Nat) + 1 : Int) + 1) G1 with
          | .inr e => .inr e
          | .inl q => .inl (q.1, ((G.2.1.length : Int), (G1.2.1.length : Int)) :: q.2)) = rr := fun rr => by
        rw [← hPP]
        exact Iff.rfl
      have eX : fiL H (pkL n) (rmO W (P.length : Int)).toNat (rmO W (P.length : Int)).toNat (pkL n).length 0 = ntX H W (pkL n) ((m0 + p.length : Nat) + 1 : Int) := by
        unfold ntX
        rw [hPP]
      have hnum : ((m0 + (p ++ [n]).length : Nat) + 1 : Int) = ((m0 + p.length : Nat) + 1 : Int) + 1 := by
        rw [List.length_append]
        show ((m0 + (p.length + 1) : Nat) + 1 : Int) = _
        omega
      have lpn : (p ++ [n]).length = p.length + 1 := List.length_append ..
      have good : ∀ G1 σ5, gAll o false (prN P (P.length : Int) 0 W (pkL n) 0 (ntX H W (pkL n) ((m0 + p.length : Nat) + 1 : Int))) G = .inl G1 → RxG σ5 G1 → FrNl (m0 + p.length) G.2.1.length σ4 σ5 → mV σ5 303 (m0 + p.length) = (G.2.1.length : Int) → G.2.1.length ≤ G1.2.1.length → R_notesLines_212 ((m0 + p.length : Nat) : Int) σ5 Q := fun G1 σ5 q1 q2 q3 q5 q6 => by
        have gb := gAll_b (c := c9) hc _ hB q1
        refine R_notesLines_212.i ⟨by omega, by omega, ?_⟩
        rw [Int.toNat_natCast, q2.2.2.2.1, show ((m0 + p.length : Nat) : Int) + 1 = ((m0 + (p ++ [n]).length : Nat) : Int) by rw [lpn]; omega]
        have g6 : FrZ [304] [161] σ5 (wV (wV σ5 246 161 0) 304 (m0 + p.length) (G1.2.1.length : Int)) := (FrZ.wf (by decide)).tr (FrZ.wz (by decide))
        have f6 : FrNl (m0 + p.length) G.2.1.length σ5 (wV (wV σ5 246 161 0) 304 (m0 + p.length) (G1.2.1.length : Int)) := ⟨g6.mo (by decide) (by decide), fun z k hz _ => g6.z (by simp only [List.mem_cons, List.not_mem_nil, or_false]; omega) (by omega), fun z k hz hk => by
          rw [wV_ne (by omega), wV_ne (Or.inl (by omega))]⟩
        have v3 : mV (wV (wV σ5 246 161 0) 304 (m0 + p.length) (G1.2.1.length : Int)) 303 (m0 + p.length) = (G.2.1.length : Int) := by
          rw [wV_ne (Or.inl (by decide)), wV_ne (Or.inl (by decide))]
          exact q5
        have v4 : mV (wV (wV σ5 246 161 0) 304 (m0 + p.length) (G1.2.1.length : Int)) 304 (m0 + p.length) = (G1.2.1.length : Int) := wV_self
        generalize wV (wV σ5 246 161 0) 304 (m0 + p.length) (G1.2.1.length : Int) = σ6 at g6 f6 v3 v4
        have f06 : FrNl (m0 + p.length) G.2.1.length σ σ6 := (f04.tr (Nat.le_refl _) (Nat.le_refl _) q3).tr (Nat.le_refl _) (Nat.le_refl _) f6
        refine ih (p ++ [n]) σ6 G1 (by rw [List.append_assoc]; exact he) (hC.fr f06) (q2.z g6 (by decide) (by decide)) gb (fun G2 sp σ7 a1 a2 a3 a4 => ?_) (fun e σ7 a1 a2 a3 => ?_)
        · rw [hnum] at a1
          rw [lpn] at a2 a4
          refine hy G2 (((G.2.1.length : Int), (G1.2.1.length : Int)) :: sp) σ7 ?_ (f06.tr (by omega) q6 a2) a3 (fun i hi => ?_)
          · rw [eD, q1]
            show (match ntD o H W r (((m0 + p.length : Nat) + 1 : Int) + 1) G1 with
              | .inr e => Sum.inr e
              | .inl q => Sum.inl (q.1, ((G.2.1.length : Int), (G1.2.1.length : Int)) :: q.2)) = _
            rw [a1]
          · cases i with
            | zero =>
              rw [Nat.add_zero, a2.2.2 303 _ (Or.inl rfl) (by omega), a2.2.2 304 _ (Or.inr rfl) (by omega)]
              exact ⟨v3, v4⟩
            | succ i =>
              rw [List.length_cons] at hi
              have := a4 i (by omega)
              rw [show m0 + (p.length + 1) + i = m0 + p.length + (i + 1) by omega] at this
              exact this
        · rw [hnum] at a1
          rw [lpn] at a3
          refine hn e σ7 ?_ a2 (f06.tr (by omega) q6 a3)
          rw [eD, q1]
          show (match ntD o H W r (((m0 + p.length : Nat) + 1 : Int) + 1) G1 with
            | .inr e => Sum.inr e
            | .inl q => Sum.inl (q.1, ((G.2.1.length : Int), (G1.2.1.length : Int)) :: q.2)) = _
          rw [a1]
      have bad : ∀ e σ5, gAll o false (prN P (P.length : Int) 0 W (pkL n) 0 (ntX H W (pkL n) ((m0 + p.length : Nat) + 1 : Int))) G = .inr e → TxR σ5 e → ¬ e.1 = 0 → FrNl (m0 + p.length) G.2.1.length σ4 σ5 → R_notesLines_212 ((m0 + p.length : Nat) : Int) σ5 Q := fun e σ5 q1 q2 q4 q3 => by
        refine R_notesLines_212.i ⟨by omega, by omega, ?_⟩
        rw [Int.toNat_natCast]
        have g6 : FrZ [304] [161] σ5 (wV (wV σ5 246 161 0) 304 (m0 + p.length) (mV σ5 246 99)) := (FrZ.wf (by decide)).tr (FrZ.wz (by decide))
        have f6 : FrNl (m0 + p.length) G.2.1.length σ5 (wV (wV σ5 246 161 0) 304 (m0 + p.length) (mV σ5 246 99)) := ⟨g6.mo (by decide) (by decide), fun z k hz _ => g6.z (by simp only [List.mem_cons, List.not_mem_nil, or_false]; omega) (by omega), fun z k hz hk => by
          rw [wV_ne (by omega), wV_ne (Or.inl (by omega))]⟩
        have f06 := (f04.tr (Nat.le_refl _) (Nat.le_refl _) q3).tr (Nat.le_refl _) (Nat.le_refl _) f6
        have t6 : TxR (wV (wV σ5 246 161 0) 304 (m0 + p.length) (mV σ5 246 99)) e := ⟨(g6.f (by decide) (by decide)).trans q2.1, (g6.f (by decide) (by decide)).trans q2.2.1, (g6.f (by decide) (by decide)).trans q2.2.2⟩
        have fin := hn e _ (by rw [eD, q1]) t6 f06
        exact R_notesLines_2.i ⟨by unfold Rg; omega, fun _ => fin, fun _ => ⟨fun _ => fin, fun h => absurd (t6.1.symm.trans h) q4⟩⟩
      have hX0 : ∀ X : List (Nat × Nat × Bool), X = [] ∨ X.isEmpty = false := fun X => by
        cases X with
        | nil => exact Or.inl rfl
        | cons x r => exact Or.inr rfl
      refine R_filled.p (H := H) (W := W) (o := o) (c := c9) (fw := false) (G := G) (by decide) nk (by omega) (by omega) no4.2.2 pt4 ah (by omega) (by omega) hC4.2.2.1 hW (by decide) hC4.2.2.2.2 hc hG4 hB (fun G1 σ5 q1 q2 q3 q4 => ?_) (fun e σ5 x hx q1 q2 q3 => ?_)
      · rw [eX] at q1 q4
        show (¬ (G1.2.1.length : Int) - (G.2.1.length : Int) = 0 → _) ∧ ((G1.2.1.length : Int) - (G.2.1.length : Int) = 0 → _)
        have gl := gAll_l q1
        have l1 : G1.2.1.length = G.2.1.length + (ntX H W (pkL n) ((m0 + p.length : Nat) + 1 : Int)).length := by
          rw [gl.1, List.length_append, List.length_map, prA_l]
        have v303 : mV σ5 303 (m0 + p.length) = (G.2.1.length : Int) := (q3.1.z (by decide) (by decide)).trans c4
        refine ⟨fun h9 => ?_, fun h9 => ⟨fun h8 => absurd q2.1 h8, fun _ => ?_⟩⟩
        · rcases hX0 (ntX H W (pkL n) ((m0 + p.length : Nat) + 1 : Int)) with h8 | h8
          · rw [h8] at l1
            exact absurd l1 (by show ¬ _ = _ + 0; omega)
          · refine good G1 σ5 ?_ q2 (FrNl.fi q3) v303 (by omega)
            unfold prN
            rw [h8, if_neg (by decide), prB0]
            exact q1
        · have h8 : ntX H W (pkL n) ((m0 + p.length : Nat) + 1 : Int) = [] := List.eq_nil_of_length_eq_zero (by omega)
          rw [h8] at q1
          have eG : G = G1 := Sum.inl.inj q1
          rw [← eG] at q2
          have ep : prN P (P.length : Int) 0 W (pkL n) 0 (ntX H W (pkL n) ((m0 + p.length : Nat) + 1 : Int)) = [(sgT P 0 (P.length - 1), 0)] := by
            rw [h8]
            rfl
          have g5 : FrZ [] [160] σ5 (wV σ5 246 160 0) := FrZ.wf (by decide)
          have f5 : FrNl (m0 + p.length) G.2.1.length σ5 (wV σ5 246 160 0) := FrNl.z g5 (by decide) (by decide)
          have b5 : LbR (wV σ5 246 160 0) (sgT P 0 0) := by
            rw [sgT_n]
            exact ⟨wV_self, fun i hi => absurd hi (Nat.not_lt_zero _)⟩
          have h350 : hol (wV σ5 246 160 0) 350 P := fun i hi => by
            rw [wV_ne (Or.inl (by decide)), q3.1.z (by decide) (by decide)]
            exact h4 i hi
          refine nls_177 (o := o) (c9 := c9) (e := 0) rfl (by omega) hPs h350 (q2.z g5 (by decide) (by decide)) hB ((g5.f (by decide) (by decide)).trans ((q3.1.f (by decide) (by decide)).trans hC4.2.2.2.2)) (fun G2 σ6 w1 w2 w3 => ?_) (fun e σ6 w1 w2 w9 w3 => ?_) (P.length - 1) 0 _ (by omega) FrZ.rf b5
          · refine good G2 σ6 ?_ w2 (((FrNl.fi q3).tr (Nat.le_refl _) (Nat.le_refl _) f5).tr (Nat.le_refl _) (Nat.le_refl _) (FrNl.fi (FrFi.l w3))) ?_ ?_
            · rw [ep]
              show gBd (gFin o (sgT P 0 (P.length - 1)) 0 false G) _ = _
              rw [w1]
              rfl
            · rw [w3.1.z (by decide) (by decide), g5.z (by decide) (by decide)]
              exact v303
            · have := gFin_b hB w1
              rw [this.2.1]
              show _ ≤ (G.2.1 ++ _).length
              rw [List.length_append]
              omega
          · refine bad e σ6 ?_ w2 ?_ (((FrNl.fi q3).tr (Nat.le_refl _) (Nat.le_refl _) f5).tr (Nat.le_refl _) (Nat.le_refl _) (FrNl.fi (FrFi.l w3)))
            · rw [ep]
              show gBd (gFin o (sgT P 0 (P.length - 1)) 0 false G) _ = _
              rw [w1]
              rfl
            · have := gAll_k (o := o) (fw := false) (X := [(sgT P 0 (P.length - 1), 0)]) (G := G) (e := e) (by
                show gBd (gFin o (sgT P 0 (P.length - 1)) 0 false G) _ = _
                rw [w1]
                rfl)
              omega
      · rw [eX] at q1
        have hk := gAll_k q1
        have hr : gAll o false (prN P (P.length : Int) 0 W (pkL n) 0 (ntX H W (pkL n) ((m0 + p.length : Nat) + 1 : Int))) G = .inr e := by
          rcases hX0 (ntX H W (pkL n) ((m0 + p.length : Nat) + 1 : Int)) with h8 | h8
          · rw [h8] at q1
            cases q1
          · unfold prN
            rw [h8, if_neg (by decide), prB0]
            exact q1
        have fin := bad e σ5 hr q2 (by omega) (FrNl.fi q3)
        show (¬ x = 0 → _) ∧ (x = 0 → _)
        exact ⟨fun _ => fin, fun _ => ⟨fun _ => fin, fun h => absurd (q2.1.symm.trans h) (by omega)⟩⟩
    refine ⟨fun h9 => main 0 ?_, fun h9 => main 1 ?_⟩
    · rw [hC1.2.2.2.1, decide_eq_false h9]
      rfl
    · rw [hC1.2.2.2.1, decide_eq_true h9]
      rfl
/-- all notes' lines -/
theorem R_notesLines.p {N : List (List Int)} {G : GS9} (hN : ∀ n ∈ N, okK n) (hN6 : suM N ≤ 65000) (hNm : m0 + N.length ≤ 60) (hb : HyB H.2.1 H.2.2.1 H.2.2.2.1 H.2.2.2.2) (hW : 12 ≤ W ∧ W ≤ 80) (hc : c9 ≤ 0) (hC : NtR σ H W o N m0) (hG : RxG σ G) (hB : GB9 c9 G) (hy : ∀ G' sp σ', ntD o H W N ((m0 : Int) + 1) G = .inl (G', sp) → FrNl m0 G.2.1.length σ σ' → RxG σ' G' → (∀ i, i < N.length → mV σ' 303 (m0 + i) = (sp.getD i (0, 0)).1 ∧ mV σ' 304 (m0 + i) = (sp.getD i (0, 0)).2) → Q (.inl none) σ') (hn : ∀ e σ', ntD o H W N ((m0 : Int) + 1) G = .inr e → TxR σ' e → FrNl m0 G.2.1.length σ σ' → Q (.inl none) σ') : R_notesLines (m0 : Int) σ Q := R_notesLines.i (nls_2 hN hN6 hNm hb hW hc N [] σ G rfl hC hG hB hy hn)
end
