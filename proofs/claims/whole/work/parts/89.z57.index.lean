/-! INDEX: the class -/
section
variable {σ σ0 : MS} {Q : MQ9} {z' : Nat} {K : List (List Int)} {P L D : List Int} {f s : Int} {key : Nat}
/-- the pages L from place i on are told behind D -/
theorem pue_127 (hz' : z' = 49 ∨ z' = 163) (hf : 0 ≤ f ∧ f ≤ 999) (hs : 1 ≤ s ∧ s ≤ 5) (hL : L.length ≤ 100) (hLb : ∀ x ∈ L, 0 ≤ x ∧ x ≤ 100) (h31 : mX σ0 (z' + 31) = L) (h14 : mV σ0 z' 14 = f) (h15 : mV σ0 z' 15 = s) (hq : ∀ T, T = D ++ enE f s L.length L → Row_pack 206 (z' + 33) 0 (T.length : Int) 127 (wX σ0 (z' + 33) T) (kV (thQ Q) fun σ1 => Q (.inl none) σ1)) (hDl : D.length ≤ 60300) : ∀ (n i : Nat) (A : List Int), L.length ≤ i + n → i ≤ L.length → A ++ enE f s L.length (L.drop i) = enE f s L.length L → A.length ≤ 43 * i → Marks_putEntry_127 z' 206 (i : Int) (wX σ0 (z' + 33) (D ++ A)) Q := by
  have im : isMarks z' = true := by rcases hz' with rfl | rfl <;> decide
  have i31 : isRow (z' + 31) = true := by rcases hz' with rfl | rfl <;> decide
  have i33 : isRow (z' + 33) = true := by rcases hz' with rfl | rfl <;> decide
  have c33 : capOf (z' + 33) = 65536 := by rcases hz' with rfl | rfl <;> decide
  have x31 : ∀ M : List Int, mX (wX σ0 (z' + 33) M) (z' + 31) = L := fun M => (wX_ne (by omega)).trans h31
  have fin : ∀ (i : Nat) (A : List Int), L.length ≤ i → A ++ enE f s L.length (L.drop i) = enE f s L.length L → i ≤ L.length → Marks_putEntry_127 z' 206 (i : Int) (wX σ0 (z' + 33) (D ++ A)) Q := fun i A hi hA hl => by
    rw [List.drop_eq_nil_of_le hi, enE_n, List.append_nil] at hA
    have := hq (D ++ A) (by rw [hA])
    refine Marks_putEntry_127.i (tB.i im (tB.i i31 ?_))
    rw [x31, wX_self]
    exact ⟨by unfold Rg; omega, fun _ => tB.i im (tB.i im (tB.i i33 (tB.i (by decide) this))), fun h => absurd h (by omega)⟩
  intro n
  induction n with
  | zero =>
    intro i A hn hi hA hAl
    exact fin i A (by omega) hA hi
  | succ n ih =>
    intro i A hn hi hA hAl
    by_cases he : L.length ≤ i
    · exact fin i A he hA hi
    · have hil : i < L.length := by omega
      have dL : L.drop i = L.getD i 0 :: L.drop (i + 1) := by
        rw [List.drop_eq_getElem_cons hil]
        unfold List.getD
        rw [List.getElem?_eq_getElem hil]
        rfl
      have pb := hLb _ (gd_mem hil)
      have rl := rnC_l (p := L.getD i 0) (r := L.drop (i + 1))
      rw [List.length_drop] at rl
      have at1 : ∀ t, t < L.length - (i + 1) → (L.drop (i + 1)).getD t 0 = L.getD (i + 1 + t) 0 := fun t _ => by
        unfold List.getD
        rw [List.getElem?_drop]
      generalize hR : rnC (L.getD i 0) (L.drop (i + 1)) = R at rl
      have rat : ∀ t, t < R → L.getD (i + 1 + t) 0 = L.getD i 0 + 1 + (t : Int) := fun t ht => by
        rw [← at1 t (by omega), rnC_at (by rw [hR]; exact ht)]
      have rno : R < L.length - (i + 1) → ¬ L.getD (i + 1 + R) 0 = L.getD i 0 + 1 + (R : Int) := fun h => by
        have := rnC_n (p := L.getD i 0) (r := L.drop (i + 1)) (by rw [hR, List.length_drop]; exact h)
        rw [hR, at1 R h] at this
        exact this
      obtain ⟨m, hm⟩ : ∃ m, L.length = m + 1 := ⟨L.length - 1, by omega⟩
      have eE : enE f s L.length (L.drop i) = if 2 ≤ R then [44, 32] ++ wrN (f + L.getD i 0) s ++ [45] ++ wrN (f + (L.getD i 0 + (R : Int))) s ++ enE f s L.length (L.drop (i + 1 + R)) else [44, 32] ++ wrN (f + L.getD i 0) s ++ enE f s L.length (L.drop (i + 1)) := by
        conv => lhs; rw [hm, dL, enE_c, hR]
        rw [List.drop_drop, enE_m (n := m) (m := L.length) (L := L.drop (i + 1 + R)) (by rw [List.length_drop]; omega) (by rw [List.length_drop]; omega), enE_m (n := m) (m := L.length) (L := L.drop (i + 1)) (by rw [List.length_drop]; omega) (by rw [List.length_drop]; omega)]
      have w1 := wrN_len (n := f + L.getD i 0) (sys := s)
      have w2 := wrN_len (n := f + (L.getD i 0 + (R : Int))) (sys := s)
      have lDA : (D ++ A).length = D.length + A.length := List.length_append ..
      -- the numbers are put
      have p200 : ∀ nx : Nat, (2 ≤ R ∧ nx = i + 1 + R ∨ ¬ 2 ≤ R ∧ nx = i + 1) → Marks_putEntry_200 z' 206 (i : Int) (nx : Int) (wX σ0 (z' + 33) (D ++ A)) Q := fun nx hnx => by
        have go : ∀ B : List Int, B ++ enE f s L.length (L.drop nx) = enE f s L.length (L.drop i) → B.length ≤ 43 * (nx - i) → Marks_putEntry_287 z' 206 (nx : Int) (wX σ0 (z' + 33) (D ++ A ++ B)) Q := fun B hB hBl => by
          refine Marks_putEntry_287.i ?_
          rw [List.append_assoc]
          refine ih nx (A ++ B) (by omega) (by omega) ?_ (by rw [List.length_append]; omega)
          rw [List.append_assoc, hB]
          exact hA
        refine Marks_putEntry_200.i ?_
        simp only [wX_self, wX_wX]
        rw [x31, show mV (wX σ0 (z' + 33) (D ++ A)) z' 14 = f from h14, show mV (wX σ0 (z' + 33) (D ++ A)) z' 15 = s from h15, rgt_n hil]
        refine tB.i im (tB.i i33 (tB.i i33 ⟨by rw [lDA, c33]; omega, tB.i im (tB.i i33 (tB.i i33 ⟨by rw [List.length_append, lDA, c33]; show _ + 1 < _; omega, tB.i im (tB.i im (tB.i im (tB.i i31 (tB.i i31 ⟨by unfold Rg; omega, tB.i im (tB.i i33 ?_)⟩))))⟩))⟩))
        have l2 : (D ++ A ++ [44] ++ [32]).length = D.length + A.length + 2 := by
          rw [List.length_append, List.length_append, lDA]
          rfl
        refine Row_putNumber.s i33 (by omega) hs (fun _ => by omega) (by rw [wX_self, l2, c33]; omega) ?_
        rw [wX_self, wX_wX]
        show Rg (nx : Int) ∧ _
        refine ⟨by unfold Rg; omega, by unfold Rg; omega, fun h => ?_, fun h => ?_⟩
        · -- one page
          have h2 : ¬ 2 ≤ R ∧ nx = i + 1 := by
            rcases hnx with h9 | h9
            · omega
            · exact h9
          rw [if_neg h2.1] at eE
          have := go ([44, 32] ++ wrN (f + L.getD i 0) s) (by rw [eE, h2.2]) (by rw [List.length_append]; show 2 + _ ≤ _; omega)
          rw [show D ++ A ++ [44] ++ [32] ++ wrN (f + L.getD i 0) s = D ++ A ++ ([44, 32] ++ wrN (f + L.getD i 0) s) by simp only [List.append_assoc, List.cons_append, List.nil_append]]
          exact this
        · have h2 : 2 ≤ R ∧ nx = i + 1 + R := by
            rcases hnx with h9 | h9
            · exact h9
            · omega
          rw [if_pos h2.1] at eE
          have en : L.getD (nx - 1) 0 = L.getD i 0 + (R : Int) := by
            have := rat (R - 1) (by omega)
            rw [show i + 1 + (R - 1) = nx - 1 by omega] at this
            rw [this]
            omega
          have pe := hLb _ (gd_mem (L := L) (i := nx - 1) (by omega))
          have l3 : (D ++ A ++ [44] ++ [32] ++ wrN (f + L.getD i 0) s).length = D.length + A.length + 2 + (wrN (f + L.getD i 0) s).length := by
            rw [List.length_append, l2]
          have l4 : (D ++ A ++ [44] ++ [32] ++ wrN (f + L.getD i 0) s ++ [45]).length = D.length + A.length + 2 + (wrN (f + L.getD i 0) s).length + 1 := by
            rw [List.length_append, l3]
            rfl
          rw [wX_self, wX_wX, x31, show mV (wX σ0 (z' + 33) (D ++ A ++ [44] ++ [32] ++ wrN (f + L.getD i 0) s)) z' 14 = f from h14, show mV (wX σ0 (z' + 33) (D ++ A ++ [44] ++ [32] ++ wrN (f + L.getD i 0) s)) z' 15 = s from h15, show (nx : Int) - 1 = ((nx - 1 : Nat) : Int) by omega, rgt_n (show nx - 1 < L.length by omega), en]
          rw [en] at pe
          refine tB.i im (tB.i i33 (tB.i i33 ⟨by rw [l3, c33]; omega, tB.i im (tB.i im (tB.i im (tB.i i31 (tB.i i31 ⟨by unfold Rg; omega, tB.i im (tB.i i33 ?_)⟩))))⟩))
          refine Row_putNumber.s i33 (by omega) hs (fun _ => by omega) (by rw [wX_self, l4, c33]; omega) ?_
          rw [wX_self, wX_wX]
          have := go ([44, 32] ++ wrN (f + L.getD i 0) s ++ [45] ++ wrN (f + (L.getD i 0 + (R : Int))) s) (by rw [eE, h2.2]) (by rw [List.length_append, List.length_append, List.length_append]; show 2 + _ + 1 + _ ≤ _; omega)
          rw [show D ++ A ++ ([44, 32] ++ wrN (f + L.getD i 0) s ++ [45] ++ wrN (f + (L.getD i 0 + (R : Int))) s) = D ++ A ++ [44] ++ [32] ++ wrN (f + L.getD i 0) s ++ [45] ++ wrN (f + (L.getD i 0 + (R : Int))) s by simp only [List.append_assoc, List.cons_append, List.nil_append]] at this
          exact this
      have p184 : Marks_putEntry_184 z' 206 ((i + 1 + R : Nat) : Int) (i : Int) (wX σ0 (z' + 33) (D ++ A)) Q := by
        refine Marks_putEntry_184.i ⟨by unfold Rg; omega, fun h => ?_, fun h => p200 (i + 1 + R) (Or.inl ⟨by omega, rfl⟩)⟩
        have := p200 (i + 1) (Or.inr ⟨by omega, rfl⟩)
        rw [show ((i + 1 : Nat) : Int) = (i : Int) + 1 by omega] at this
        exact this
      -- the stretch is counted
      have p144 : ∀ (m t : Nat), t + m = R → Marks_putEntry_144 z' 206 ((i + 1 + t : Nat) : Int) (i : Int) (wX σ0 (z' + 33) (D ++ A)) Q := by
        intro m
        induction m with
        | zero =>
          intro t ht
          have e : t = R := by omega
          subst e
          refine Marks_putEntry_144.i (tB.i im (tB.i i31 ?_))
          rw [x31]
          refine ⟨by unfold Rg; omega, fun _ => p184, fun h => ?_⟩
          have h1 : L.getD (i + 1 + t - 1) 0 = L.getD i 0 + (t : Int) := by
            cases t with
            | zero =>
              show L.getD i 0 = _
              omega
            | succ t =>
              have := rat t (by omega)
              rw [show i + 1 + (t + 1) - 1 = i + 1 + t by omega, this]
              omega
          have pe := hLb _ (gd_mem (L := L) (i := i + 1 + t - 1) (by omega))
          rw [rgt_n (show i + 1 + t < L.length by omega), show ((i + 1 + t : Nat) : Int) - 1 = ((i + 1 + t - 1 : Nat) : Int) by omega, rgt_n (show i + 1 + t - 1 < L.length by omega), h1]
          rw [h1] at pe
          exact tB.i im (tB.i i31 (tB.i i31 ⟨by unfold Rg; omega, tB.i im (tB.i i31 (tB.i i31 ⟨by unfold Rg; omega, by unfold Rg; omega, fun _ => p184, fun h2 => absurd (by omega) (rno (by omega))⟩))⟩))
        | succ m ih2 =>
          intro t ht
          have h1 : L.getD (i + 1 + t - 1) 0 = L.getD i 0 + (t : Int) := by
            cases t with
            | zero =>
              show L.getD i 0 = _
              omega
            | succ t =>
              have := rat t (by omega)
              rw [show i + 1 + (t + 1) - 1 = i + 1 + t by omega, this]
              omega
          have h2 := rat t (by omega)
          have pe := hLb _ (gd_mem (L := L) (i := i + 1 + t - 1) (by omega))
          refine Marks_putEntry_144.i (tB.i im (tB.i i31 ?_))
          rw [x31]
          refine ⟨by unfold Rg; omega, fun h => absurd h (by omega), fun _ => ?_⟩
          rw [rgt_n (show i + 1 + t < L.length by omega), show ((i + 1 + t : Nat) : Int) - 1 = ((i + 1 + t - 1 : Nat) : Int) by omega, rgt_n (show i + 1 + t - 1 < L.length by omega), h1, h2]
          rw [h1] at pe
          refine tB.i im (tB.i i31 (tB.i i31 ⟨by unfold Rg; omega, tB.i im (tB.i i31 (tB.i i31 ⟨by unfold Rg; omega, by unfold Rg; omega, fun h3 => absurd (by omega) h3, fun _ => ?_⟩))⟩))
          rw [show ((i + 1 + t : Nat) : Int) + 1 = ((i + 1 + (t + 1) : Nat) : Int) by omega]
          exact ih2 (t + 1) (by omega)
      refine Marks_putEntry_127.i (tB.i im (tB.i i31 ?_))
      rw [x31]
      refine ⟨by unfold Rg; omega, fun h => absurd h (by omega), fun _ => ?_⟩
      have := p144 R 0 (by omega)
      rw [show ((i + 1 + 0 : Nat) : Int) = (i : Int) + 1 by omega] at this
      exact this
theorem ms7_id9 : ∀ {U : List Int}, smB U → ms7 U = U
  | [], _ => rfl
  | x :: r, h => by
    have hx := h x List.mem_cons_self
    show x % 128 :: ms7 r = x :: r
    rw [ms7_id9 (fun y hy => h y (List.mem_cons_of_mem _ hy)), show x % 128 = x by omega]
theorem pkF_s {q : List Int × Bool} {c : Int} (hq : smB q.1) (hc : 0 ≤ c ∧ c ≤ 127) : smB (pkF q c).1 := by
  unfold pkF
  split
  · exact hq
  · intro x hx
    simp only [List.mem_append, List.mem_singleton] at hx
    rcases hx with h | h
    · split at h
      · rcases List.mem_append.mp h with h | h
        · exact hq x h
        · rw [List.mem_singleton.mp h]
          decide
      · exact hq x h
    · rw [h]
      exact hc
theorem pk_s : ∀ {M : List Int} {q : List Int × Bool}, smB q.1 → smB M → smB (M.foldl pkF q).1
  | [], q, h, _ => h
  | c :: r, q, h, hM => pk_s (M := r) (q := pkF q c) (pkF_s h (hM c List.mem_cons_self)) (fun x hx => hM x (List.mem_cons_of_mem _ hx))
theorem pkL_s {M : List Int} (h : smB M) : smB (pkL M) := pk_s (q := ([], false)) (fun x hx => absurd hx List.not_mem_nil) h
/-- an entry's words, the class -/
theorem Marks_putEntry.c (hz' : z' = 49 ∨ z' = 163) (hI : IxC σ z' K P) (hB : IxB K P) (hf : 0 ≤ f ∧ f ≤ 999) (hs : 1 ≤ s ∧ s ≤ 5) (h14 : mV σ z' 14 = f) (h15 : mV σ z' 15 = s) (hk : key < K.length) (h206 : mX σ 206 = []) (hq : ∀ σ', mX σ' 206 = pkL (enT K P f s key) → (∀ q, q ≠ 206 → q ≠ z' + 31 → q ≠ z' + 33 → mX σ' q = mX σ q) → σ'.2 = σ.2 → Q (.inl none) σ') : Marks_putEntry z' (key : Int) 206 σ Q := by
  have hB0 := hB
  obtain ⟨b1, b2, b3, b4, b5, b6, b7⟩ := hB
  have im : isMarks z' = true := by rcases hz' with rfl | rfl <;> decide
  have i31 : isRow (z' + 31) = true := by rcases hz' with rfl | rfl <;> decide
  have i33 : isRow (z' + 33) = true := by rcases hz' with rfl | rfl <;> decide
  have ps := pgC_s (K := K) (P := P) (key := key) (n := K.length) b7 K.length (Nat.le_refl _)
  have pl := pgC_l (K := K) (P := P) (key := key) K.length
  have pb : ∀ x ∈ pgC K P key K.length, 0 ≤ x ∧ x ≤ 100 := fun x hx => by
    obtain ⟨i, hi, e⟩ := ps.2.2 x hx
    have := b6 _ (gd_mem (L := P) (i := i) (by omega))
    rw [← e] at this
    omega
  have kl := kya_l hk
  have tl := enT_l (K := K) (P := P) (f := f) (s := s) hk b1
  have ts := enT_s (K := K) (P := P) (f := f) (s := s) b4 hk
  refine Marks_putEntry.i (tB.i im (tB.i i31 (tB.i i31 ?_)))
  refine pue_9 hz' hI hB0 hk ?_ K.length 0 (by omega)
  have key9 := pue_127 (Q := Q) (σ0 := wX σ (z' + 31) (pgC K P key K.length)) (L := pgC K P key K.length) (D := kyA K key) (f := f) (s := s) hz' hf hs (by omega) pb wX_self h14 h15 (fun T hT => ?_) (by omega) (pgC K P key K.length).length 0 [] (by omega) (Nat.zero_le _) (by rw [List.nil_append, List.drop_zero]) (Nat.zero_le _)
  · rw [List.append_nil] at key9
    exact key9
  · have hT : T = enT K P f s key := hT
    rw [hT]
    refine Row_pack.c (L := enT K P f s key) (u := 0) (b := 127) (by decide) i33 (by omega) (Or.inl rfl) rfl (by rw [Nat.zero_add]) (by omega) (fun t ht => ?_) ?_ ?_
    · rw [wX_self, show ((0 : Nat) : Int) + (t : Int) = (t : Int) by omega]
      exact rgt_n ht
    · rw [wX_ne (by omega), wX_ne (by omega), h206, show capOf 206 = 65536 by decide]
      show 0 + _ ≤ _
      omega
    · rw [wX_ne (by omega), wX_ne (by omega), h206, List.nil_append, bnd_127, ms7_id9 (pkL_s ts)]
      exact hq _ wX_self (fun q a c d => by rw [wX_ne a, wX_ne d, wX_ne c]) rfl
end
