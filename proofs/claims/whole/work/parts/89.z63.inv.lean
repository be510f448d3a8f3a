/-! TEXTS AND HEADINGS KEEP WHAT HOLDS BETWEEN BLOCKS -/
theorem lnO_lt9 {p : Int} : ∀ {X : List (Nat × Nat × Bool)}, X ≠ [] → lnO p X < X.length
  | [], h => absurd rfl h
  | x :: r, _ => by
    show (if r.isEmpty = false ∧ (x.2.1 : Int) ≤ p then lnO p r + 1 else 0) < r.length + 1
    split
    · rename_i h
      have : r ≠ [] := fun e => by
        rw [e] at h
        exact absurd h.1 (by decide)
      have := lnO_lt9 (p := p) this
      omega
    · omega
theorem lnO_mo9 {p q : Int} (h : p ≤ q) : ∀ {X : List (Nat × Nat × Bool)}, lnO p X ≤ lnO q X
  | [] => Nat.le_refl _
  | x :: r => by
    have ih := lnO_mo9 h (X := r)
    show (if r.isEmpty = false ∧ (x.2.1 : Int) ≤ p then lnO p r + 1 else 0) ≤ (if r.isEmpty = false ∧ (x.2.1 : Int) ≤ q then lnO q r + 1 else 0)
    by_cases c : r.isEmpty = false ∧ (x.2.1 : Int) ≤ p
    · rw [if_pos c, if_pos ⟨c.1, by omega⟩]
      omega
    · rw [if_neg c]
      exact Nat.zero_le _
theorem prN_l {P : List Int} {hg J W : Int} {U : List Int} {hold : Int} {X : List (Nat × Nat × Bool)} : (prN P hg J W U hold X).length = max 1 X.length := by
  unfold prN
  cases X with
  | nil => rfl
  | cons x r =>
    rw [if_neg (show ¬ (x :: r).isEmpty = true from fun h => by cases h), prB_l]
    show r.length + 1 = max 1 (r.length + 1)
    omega
theorem lnO_p {p : Int} {P : List Int} {hg J W : Int} {U : List Int} {hold : Int} {X : List (Nat × Nat × Bool)} : lnO p X < (prN P hg J W U hold X).length := by
  rw [prN_l]
  by_cases h : X = []
  · rw [h]
    show 0 < _
    omega
  · have := lnO_lt9 (p := p) h
    omega
theorem foN_le : ∀ {U : List Int} {i : Nat}, i < U.length → ¬ U.getD i 0 % 128 = 32 → foN U ≤ i
  | [], i, h, _ => absurd h (Nat.not_lt_zero _)
  | c :: r, 0, _, h => by
    have h : ¬ c % 128 = 32 := h
    show (if c % 128 = 32 then foN r + 1 else 0) ≤ 0
    rw [if_neg h]
    exact Nat.le_refl _
  | c :: r, i + 1, hi, h => by
    have := foN_le (U := r) (i := i) (Nat.lt_of_succ_lt_succ hi) h
    show (if c % 128 = 32 then foN r + 1 else 0) ≤ i + 1
    split <;> omega
theorem ntD_b {o : Int} {H : HY9} {W c : Int} : ∀ {N : List (List Int)} {n : Int} {G : GS9} {q : GS9 × List (Int × Int)}, GB9 c G → ntD o H W N n G = .inl q → GB9 c q.1 ∧ ∀ x ∈ q.2, (G.2.1.length : Int) ≤ x.1 ∧ x.1 ≤ x.2 ∧ x.2 ≤ (q.1.2.1.length : Int)
  | [], n, G, q, hB, h => by
    have e : (G, []) = q := Sum.inl.inj h
    rw [← e]
    exact ⟨hB, fun x hx => absurd hx List.not_mem_nil⟩
  | N :: r, n, G, q, hB, h => by
    unfold ntD at h
    cases h1 : gAll o false (prN (ntP n) ((ntP n).length : Int) 0 W (pkL N) 0 (ntX H W (pkL N) n)) G with
    | inr e =>
      simp only [h1] at h
      cases h
    | inl G1 =>
      simp only [h1] at h
      cases h2 : ntD o H W r (n + 1) G1 with
      | inr e =>
        simp only [h2] at h
        cases h
      | inl q1 =>
        simp only [h2] at h
        have e := Sum.inl.inj h
        have b1 := gAll_b2 _ hB h1
        have ih := ntD_b b1 h2
        have gl := gAll_l h1
        have gg := ((ntD_g (o := o) (H := H) (W := W)).1 q1 h2).2.2.2.2
        obtain ⟨Z, hZ⟩ := gg
        have l1 : G.2.1.length ≤ G1.2.1.length := by
          rw [gl.1, List.length_append]
          omega
        have l2 : G1.2.1.length ≤ q1.1.2.1.length := by
          rw [hZ, List.length_append]
          omega
        rw [← e]
        refine ⟨ih.1, fun x hx => ?_⟩
        rcases List.mem_cons.mp hx with e2 | e2
        · rw [e2]
          show (G.2.1.length : Int) ≤ (G.2.1.length : Int) ∧ (G.2.1.length : Int) ≤ (G1.2.1.length : Int) ∧ (G1.2.1.length : Int) ≤ (q1.1.2.1.length : Int)
          omega
        · have := ih.2 x e2
          show (G.2.1.length : Int) ≤ x.1 ∧ x.1 ≤ x.2 ∧ x.2 ≤ (q1.1.2.1.length : Int)
          omega
theorem crL_l9 {n : Nat} {f : Int → Int} {V : List Int} : (crL n f V).length = V.length := by
  unfold crL
  rw [List.length_append, List.length_map, ← List.length_append, List.take_append_drop]
theorem TI.mk {p v : Int} {s : TS} {V K : List Int} (h : TI p v s) (h1 : V.length = s.2.2.2.1.2.2.length) (h2 : K.length = s.2.2.2.2.1.2.length) : TI p v (s.1, s.2.1, s.2.2.1, (s.2.2.2.1.1, s.2.2.2.1.2.1, V), (s.2.2.2.2.1.1, K), s.2.2.2.2.2) := by
  obtain ⟨a, b, ⟨c1, c2, c3⟩, ⟨d1, d2⟩, e⟩ := h
  exact ⟨a, b, ⟨c1, h1.trans c2, c3⟩, ⟨h2.trans d1, d2⟩, e⟩
/-- marks come to their lines -/
theorem crL_m {F V0 t : List Int} {n0 k : Nat} {f : Int → Int} (h : MkP F V0) (hf : ∀ v ∈ t, ∃ j : Nat, f v = ((F.length + j : Nat) : Int) ∧ j < k) : MkP (F ++ seqZ n0 k) (crL V0.length f (V0 ++ t)) := by
  unfold crL
  rw [List.take_left' rfl, List.drop_left' rfl]
  refine h.ap.vv (fun v hv => ?_)
  obtain ⟨x, hx, e⟩ := List.mem_map.mp hv
  obtain ⟨j, e2, hj⟩ := hf x hx
  rw [← e, e2]
  refine ⟨by omega, by rw [List.length_append, seqZ_l]; omega, ?_⟩
  rw [Int.toNat_natCast, ap_r, seqZ_at k n0 j hj]
  omega
theorem crL_s {F V0 t : List Int} {f : Int → Int} (h : MkP F V0) (hs : srt9 V0) (hf : ∀ v ∈ t, (F.length : Int) ≤ f v) (ht : ∀ i j, i ≤ j → j < t.length → f (t.getD i 0) ≤ f (t.getD j 0)) : srt9 (crL V0.length f (V0 ++ t)) := by
  unfold crL
  rw [List.take_left' rfl, List.drop_left' rfl]
  have am : ∀ i, i < t.length → (t.map f).getD i 0 = f (t.getD i 0) := fun i hi => by
    unfold List.getD
    rw [List.getElem?_map, List.getElem?_eq_getElem hi]
    rfl
  intro i j hij hj
  rw [List.length_append, List.length_map] at hj
  by_cases cj : j < V0.length
  · rw [getD_l (by omega), getD_l cj]
    exact hs i j hij cj
  · rw [show j = V0.length + (j - V0.length) by omega, ap_r, am _ (by omega)]
    by_cases ci : i < V0.length
    · rw [getD_l ci]
      have h1 := (h _ (gd_mem ci)).2.1
      have h2 := hf _ (gd_mem (L := t) (i := j - V0.length) (by omega))
      omega
    · rw [show i = V0.length + (i - V0.length) by omega, ap_r, am _ (by omega)]
      exact ht _ _ (by omega) (by omega)
/-- a block with a text: its marks, notes and lines -/
theorem RI9.tx {b : BK9} {g : HG9} {s1 : TS} {U F : List Int} {X : List (Nat × Nat × Bool)} {k m : Nat} {w : Int × Int} {Ls : List GL9} {sps : List (Int × Int)} (h : RI9 b g) {g' : HG9} (hg' : HdB g' ∧ (∀ t ∈ g'.1, smB t) ∧ (∀ x ∈ g'.2.1, 1 ≤ x ∧ x ≤ 3)) (hgp : MkP (F ++ seqZ b.2.1.1.length k) g'.2.2) (ti : TI ((suM g'.1 : Nat) + 100 : Int) 0 (tx0 s1)) (hw : s1.1.1 ≤ w.1 ∧ w.1 ≤ 60000 ∧ s1.1.2.1 ≤ w.2 ∧ w.2 ≤ 400000) (hF : F = b.2.1.2 ++ List.replicate m (-2)) (hk : 1 ≤ k) (hX : ∀ p, lnO p X < k) (hL : b.2.1.1.length + k ≤ Ls.length) (hGB : GB9 0 (w, Ls, F ++ seqZ b.2.1.1.length k)) (ap : ApR (tx0 b.1) s1) (km : KmS b.1.2.2.2.2.1.1.length s1) (hU : ∀ i, i < U.length → U.getD i 0 % 128 = (pkL s1.2.1).getD i 0 % 128) (hUl : U.length = (pkL s1.2.1).length) {ca : List Int} (hca : ∀ i j, i < j → j < ca.length → ca.getD i 0 ≤ ca.getD j 0) (hcn : ((b.2.2.1.1.length + ca.length : Nat) : Int) = s1.2.2.2.2.2.1.2.2) (hsp : sps.length = ca.length) (hspp : ∀ x ∈ sps, 0 ≤ x.1 ∧ x.1 ≤ x.2 ∧ x.2 ≤ (Ls.length : Int)) : RI9 (txM s1 w b.1.2.2.2.1.1.length b.1.2.2.2.2.1.1.length (crF (foP U) F.length X), (Ls, F ++ seqZ b.2.1.1.length k), (b.2.2.1.1 ++ ca.map (fun c => ((F.length + lnO c X : Nat) : Int)), b.2.2.1.2 ++ sps), true) g' := by
  obtain ⟨h1, h2, ⟨h3, h3'⟩, h4, ⟨h5, h6, h7⟩, ⟨h8, h9, h10⟩, h11, h12⟩ := h
  obtain ⟨⟨tl, el⟩, tk, ek⟩ := ap
  have el : s1.2.2.2.1.2.2 = b.1.2.2.2.1.2.2 ++ tl := el
  have ek : s1.2.2.2.2.1.2 = b.1.2.2.2.2.1.2 ++ tk := ek
  have ll : b.1.2.2.2.1.2.2.length = b.1.2.2.2.1.1.length := h1.2.2.1.2.1
  have lk : b.1.2.2.2.2.1.2.length = b.1.2.2.2.2.1.1.length := h1.2.2.2.1.1
  have crj : ∀ v, ∃ j : Nat, crF (foP U) F.length X v = ((F.length + j : Nat) : Int) ∧ j < k := fun v => ⟨_, rfl, hX _⟩
  have m5 : MkP F b.1.2.2.2.1.2.2 := by rw [hF]; exact h5.ap
  have m6 : MkP F b.1.2.2.2.2.1.2 := by rw [hF]; exact h6.ap
  have m8 : MkP F b.2.2.1.1 := by rw [hF]; exact h8.ap
  refine ⟨?_, hGB, ⟨?_, ?_⟩, ?_, ⟨?_, ?_, ?_⟩, ⟨?_, ?_, ?_⟩, hg'.1, ⟨hgp, hg'.2.1, hg'.2.2⟩⟩
  · have t1 := TI.wk (w := w) ti ⟨hw.1, hw.2.1⟩ ⟨hw.2.2.1, hw.2.2.2⟩ (y := 0) (by decide)
    exact TI.mk (s := ((w.1, w.2, 0), (tx0 s1).2)) (V := crL b.1.2.2.2.1.1.length (crF (foP U) F.length X) s1.2.2.2.1.2.2) (K := crL b.1.2.2.2.2.1.1.length (crF (foP U) F.length X) s1.2.2.2.2.1.2) t1 crL_l9 crL_l9
  · show ((b.2.2.1.1 ++ ca.map _).length : Int) = s1.2.2.2.2.2.1.2.2
    rw [List.length_append, List.length_map]
    exact hcn
  · show (b.2.2.1.2 ++ sps).length = (b.2.2.1.1 ++ ca.map _).length
    rw [List.length_append, List.length_append, List.length_map, h3', hsp]
  · show FlW Ls.length (F ++ seqZ b.2.1.1.length k)
    rw [hF]
    exact h4.ad hk hL
  · show MkP (F ++ seqZ b.2.1.1.length k) (crL b.1.2.2.2.1.1.length _ s1.2.2.2.1.2.2)
    rw [el, ← ll]
    exact crL_m m5 (fun v _ => crj v)
  · show MkP (F ++ seqZ b.2.1.1.length k) (crL b.1.2.2.2.2.1.1.length _ s1.2.2.2.2.1.2)
    rw [ek, ← lk]
    exact crL_m m6 (fun v _ => crj v)
  · show srt9 (crL b.1.2.2.2.2.1.1.length _ s1.2.2.2.2.1.2)
    rw [ek, ← lk]
    refine crL_s m6 h7 (fun v _ => ?_) (fun i j hij hj => ?_)
    · obtain ⟨x, e, -⟩ := crj v
      rw [e]
      omega
    · obtain ⟨k1, k2, k3⟩ := km
      have e9 : kaS9 s1 = b.1.2.2.2.2.1.2 ++ tk := ek
      rw [e9, ← lk] at k1 k2 k3
      have at9 : ∀ i, (b.1.2.2.2.2.1.2 ++ tk).getD (b.1.2.2.2.2.1.2.length + i) 0 = tk.getD i 0 := fun i => ap_r
      have ord : tk.getD i 0 ≤ tk.getD j 0 := by
        by_cases e : i = j
        · rw [e]
          exact Int.le_refl _
        · have := k1 (b.1.2.2.2.2.1.2.length + i) (b.1.2.2.2.2.1.2.length + j) (by omega) (by omega) (by rw [List.length_append]; omega)
          rw [at9, at9] at this
          exact this
      have sj := k3 (b.1.2.2.2.2.1.2.length + j) (by omega) (by rw [List.length_append]; omega)
      have si := k3 (b.1.2.2.2.2.1.2.length + i) (by omega) (by rw [List.length_append]; omega)
      rw [at9] at sj si
      have key : (if tk.getD i 0 = -1 then foP U else tk.getD i 0) ≤ (if tk.getD j 0 = -1 then foP U else tk.getD j 0) := by
        by_cases ej : tk.getD j 0 = -1
        · have ei : tk.getD i 0 = -1 := by
            rcases si with e | e
            · exact e
            · omega
          rw [if_pos ei, if_pos ej]
          exact Int.le_refl _
        · rw [if_neg ej]
          by_cases ei : tk.getD i 0 = -1
          · rw [if_pos ei]
            rcases sj with e | ⟨e1, e2, e3⟩
            · exact absurd e ej
            · have hl : (tk.getD j 0).toNat < U.length := by omega
              have fo := foN_le (U := U) hl (by rw [hU _ hl]; exact e3)
              unfold foP
              rw [if_pos (by omega)]
              omega
          · rw [if_neg ei]
            exact ord
      have := lnO_mo9 key (X := X)
      show ((F.length + lnO (if tk.getD i 0 = -1 then foP U else tk.getD i 0) X : Nat) : Int) ≤ ((F.length + lnO (if tk.getD j 0 = -1 then foP U else tk.getD j 0) X : Nat) : Int)
      omega
  · show MkP (F ++ seqZ b.2.1.1.length k) (b.2.2.1.1 ++ ca.map _)
    refine m8.ap.vv (fun v hv => ?_)
    obtain ⟨c, -, e⟩ := List.mem_map.mp hv
    rw [← e]
    have := hX c
    refine ⟨by omega, by rw [List.length_append, seqZ_l]; omega, ?_⟩
    rw [Int.toNat_natCast, ap_r, seqZ_at k _ _ this]
    omega
  · show srt9 (b.2.2.1.1 ++ ca.map _)
    have := crL_s (f := fun c => ((F.length + lnO c X : Nat) : Int)) (t := ca) m8 h9 (fun v _ => by show (F.length : Int) ≤ ((F.length + lnO v X : Nat) : Int); omega) (fun i j hij hj => by
      show ((F.length + lnO (ca.getD i 0) X : Nat) : Int) ≤ ((F.length + lnO (ca.getD j 0) X : Nat) : Int)
      have : ca.getD i 0 ≤ ca.getD j 0 := by
        by_cases e : i = j
        · rw [e]
          exact Int.le_refl _
        · exact hca i j (by omega) hj
      have := lnO_mo9 this (X := X)
      omega)
    unfold crL at this
    rw [List.take_left' rfl, List.drop_left' rfl] at this
    exact this
  · show SpP Ls.length (b.2.2.1.2 ++ sps)
    intro x hx
    rcases List.mem_append.mp hx with e | e
    · have := h10 x e
      omega
    · exact hspp x e
