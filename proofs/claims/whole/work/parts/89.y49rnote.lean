/-! THE REFERENCE WORKS TEXTS: places wait; notes -/
theorem wtF_sn {k c q r : Int} {W : List (Int × Int × Int)} : wtF k (W ++ [(c, q, r)]) = wtF k W ++ (if c = k then [(q, r)] else []) := by
  unfold wtF
  rw [List.filter_append, List.map_append]
  congr 1
  by_cases h : c = k
  · rw [if_pos h, List.filter_cons_of_pos (by exact decide_eq_true h)]
    rfl
  · rw [if_neg h, List.filter_cons_of_neg (by show ¬ decide (c = k) = true; rw [decide_eq_false h]; decide)]
    rfl
theorem upF_sn {b n : Nat} : upF b (n + 1) = upF b n ++ [((b + n : Nat) : Int)] := by
  unfold upF
  rw [List.range_succ, List.map_append]
  rfl
theorem wtQ.sn {P : List Int} {b : Nat} {L : List (Int × Int)} {V : List Int} {q r v : Int} (h : wtQ P b L V) (hq : q = ((b + V.length : Nat) : Int)) (hv : v = pkW P r) : wtQ P b (L ++ [(q, r)]) (V ++ [v]) := by
  obtain ⟨h1, h2⟩ := h
  refine ⟨?_, ?_⟩
  · rw [List.map_append, h1, List.length_append, List.length_singleton, upF_sn, hq]
    rfl
  · rw [List.map_append, h2, hv]
    rfl
theorem suM_tk {W : List (List Int)} {i : Nat} (hi : i < W.length) : suM (W.take i) + (W.getD i []).length ≤ suM W := by
  have e9 : W = W.take i ++ (W.getD i [] :: W.drop (i + 1)) := by
    rw [List.getD_eq_getElem?_getD, List.getElem?_eq_getElem hi]
    have := List.take_append_drop i W
    rw [List.drop_eq_getElem_cons hi] at this
    exact this.symm
  have : suM W = suM (W.take i) + ((W.getD i []).length + suM (W.drop (i + 1))) := by
    conv => lhs; rw [e9]
    rw [suM_app]
    rfl
  omega
theorem loB_hi {g kt c z : Nat} (h : 263 < z) : loB g kt c z = 0 := by
  unfold loB
  rw [if_neg (by omega), if_neg (by omega), if_neg (by omega), if_neg (by omega)]
section
variable {σ σ0 σ1 σ2 : MS} {Q : MQ9} {g kt u c D nw n0 l0 k0 : Nat} {a : Bool} {E : TE} {O : List Int} {X : RY9} {s s1 s2 : TS} {A L P : List Int} {x y p : Int} {m m' : TM} {S K : List Nat}
theorem FrZ.uu (q : FrZ S K σ σ1) (h1 : ∀ z ∈ S, z ∈ TRS ∧ 263 < z ∧ bkW z = 0) (h2 : ∀ k ∈ K, k ∈ TRK) : FrU g kt c nw σ σ1 := ⟨q.1, q.2.1, fun z k n => by
  refine q.2.2 z k (fun hz => n (Or.inr ⟨(h1 z hz).1, ?_, Or.inl (h1 z hz).2.2⟩)) ?_
  · rw [loB_hi (h1 z hz).2.1]
    exact Nat.zero_le _
  · by_cases e : z = 246
    · exact Or.inr (fun hk => n (Or.inl ⟨e, h2 k hk⟩))
    · exact Or.inl e⟩
/-- a list that holds one more -/
theorem nmS.sn {z zs st b : Nat} {N : List (List Int)} {w : List Int} (h : nmS σ z zs st b N) (hN : ∀ i, i < N.length → (N.getD i []).length ≤ st) (e1 : mV σ1 zs (b + N.length) = (w.length : Int)) (e2 : holA σ1 z (st * (b + N.length)) w) (e3 : ∀ k, k < st * (b + N.length) → mV σ1 z k = mV σ z k) (e4 : ∀ k, k < b + N.length → mV σ1 zs k = mV σ zs k) : nmS σ1 z zs st b (N ++ [w]) := fun q hq => by
  rw [List.length_append, List.length_singleton] at hq
  by_cases e : q = N.length
  · subst e
    have eg : (N ++ [w]).getD N.length [] = w := getD_at
    rw [eg]
    exact ⟨e1, e2⟩
  · have eg : (N ++ [w]).getD q [] = N.getD q [] := by
      rw [List.getD_eq_getElem?_getD, List.getD_eq_getElem?_getD, List.getElem?_append_left (by omega)]
    rw [eg]
    obtain ⟨d1, d2⟩ := h q (by omega)
    refine ⟨by rw [e4 _ (by omega)]; exact d1, d2.cg (fun k k1 k2 => e3 k ?_)⟩
    have := hN q (by omega)
    have : st * (b + q) + st ≤ st * (b + N.length) := by
      rw [← Nat.mul_succ]
      exact Nat.mul_le_mul_left _ (by omega)
    omega
theorem R_waits.r {k q r : Int} (h : WtR σ n0 l0 k0 P m) (hb : m.2.2.2.1.2.1.length + m.2.1.2.2.length + m.2.2.1.2.length < 300) (hk : Rg k) (hq9 : Rg q) (hr : Rg r) (hq : ∀ σ', FrZ [305, 306, 307] [94] σ σ' → (∀ m', (∀ W, WtP n0 l0 k0 P m W → WtP n0 l0 k0 P m' (W ++ [(k, q, r)])) → WtR σ' n0 l0 k0 P m') → Q (.inl none) σ') : R_waits k q r σ Q := by
  obtain ⟨W, w1, w2, w3⟩ := h
  have wl : W.length < 300 := by
    have := w3.2.2.2.1
    omega
  refine R_waits.i ?_
  rw [w1, Int.toNat_natCast]
  refine ⟨by omega, by omega, hk, by omega, by omega, hq9, by omega, by omega, hr, by unfold Rg; omega, hq _ ?_ (fun m' hm => ⟨W ++ [(k, q, r)], ?_, fun i hi => ?_, hm W w3⟩)⟩
  · exact (((FrZ.wz (by decide)).tr (FrZ.wz (by decide))).tr (FrZ.wz (by decide))).tr (FrZ.wf (by decide))
  · rw [wV_self, List.length_append, List.length_singleton]
    omega
  · rw [List.length_append, List.length_singleton] at hi
    by_cases e : i = W.length
    · subst e
      have eg : (W ++ [(k, q, r)]).getD W.length (0, 0, 0) = (k, q, r) := by
        rw [List.getD_eq_getElem?_getD, List.getElem?_append_right (Nat.le_refl _), Nat.sub_self]
        rfl
      rw [eg]
      refine ⟨?_, ?_, ?_⟩
      · rw [wV_ne (Or.inl (by decide)), wV_ne (Or.inl (by decide)), wV_ne (Or.inl (by decide)), wV_self]
      · rw [wV_ne (Or.inl (by decide)), wV_ne (Or.inl (by decide)), wV_self]
      · rw [wV_ne (Or.inl (by decide)), wV_self]
    · have eg : (W ++ [(k, q, r)]).getD i (0, 0, 0) = W.getD i (0, 0, 0) := by
        rw [List.getD_eq_getElem?_getD, List.getD_eq_getElem?_getD, List.getElem?_append_left (by omega)]
      rw [eg]
      obtain ⟨d1, d2, d3⟩ := w2 i (by omega)
      refine ⟨?_, ?_, ?_⟩
      · rw [wV_ne (Or.inl (by decide)), wV_ne (Or.inl (by decide)), wV_ne (Or.inl (by decide)), wV_ne (Or.inr e)]; exact d1
      · rw [wV_ne (Or.inl (by decide)), wV_ne (Or.inl (by decide)), wV_ne (Or.inr e), wV_ne (Or.inl (by decide))]; exact d2
      · rw [wV_ne (Or.inl (by decide)), wV_ne (Or.inr e), wV_ne (Or.inl (by decide)), wV_ne (Or.inl (by decide))]; exact d3
theorem WtP.wn {W : List (Int × Int × Int)} {q r v : Int} (h : WtP n0 l0 k0 P m W) (hq : q = ((n0 + m.2.2.2.1.2.1.length : Nat) : Int)) (hr : -1 ≤ r ∧ r < P.length) (hn : 0 ≤ r → ¬ P.getD r.toNat 0 % 128 = 32) (hv : v = pkW P r) (hm : m'.2.2.2.1.2.1 = m.2.2.2.1.2.1 ++ [v] ∧ m'.2.1.2.2 = m.2.1.2.2 ∧ m'.2.2.1.2 = m.2.2.1.2) : WtP n0 l0 k0 P m' (W ++ [(0, q, r)]) := by
  obtain ⟨h1, h2, h3, h4, h5⟩ := h
  obtain ⟨m1, m2, m3⟩ := hm
  unfold WtP
  rw [m1, m2, m3, wtF_sn, wtF_sn, wtF_sn, if_pos rfl, if_neg (by decide), if_neg (by decide), List.append_nil, List.append_nil]
  refine ⟨h1.sn hq hv, h2, h3, ?_, fun x hx => ?_⟩
  · rw [List.length_append, List.length_append, List.length_singleton, List.length_singleton]
    omega
  · rcases List.mem_append.mp hx with hx | hx
    · exact h5 x hx
    · rw [List.mem_singleton.mp hx]
      exact ⟨Or.inl rfl, hr, hn⟩
theorem WtP.wl {W : List (Int × Int × Int)} {q r v : Int} (h : WtP n0 l0 k0 P m W) (hq : q = ((m.2.1.2.2.length : Nat) : Int)) (hr : -1 ≤ r ∧ r < P.length) (hn : 0 ≤ r → ¬ P.getD r.toNat 0 % 128 = 32) (hv : v = pkW P r) (hm : m'.2.1.2.2 = m.2.1.2.2 ++ [v] ∧ m'.2.2.2.1.2.1 = m.2.2.2.1.2.1 ∧ m'.2.2.1.2 = m.2.2.1.2) : WtP n0 l0 k0 P m' (W ++ [(1, q, r)]) := by
  obtain ⟨h1, ⟨h20, h2⟩, h3, h4, h5⟩ := h
  obtain ⟨m1, m2, m3⟩ := hm
  unfold WtP
  rw [m1, m2, m3, wtF_sn, wtF_sn, wtF_sn, if_neg (by decide), if_pos rfl, if_neg (by decide), List.append_nil, List.append_nil, List.drop_append_of_le_length h20]
  refine ⟨h1, ⟨by rw [List.length_append]; omega, h2.sn (by rw [List.length_drop]; omega) hv⟩, h3, ?_, fun x hx => ?_⟩
  · rw [List.length_append, List.length_append, List.length_singleton, List.length_singleton]
    omega
  · rcases List.mem_append.mp hx with hx | hx
    · exact h5 x hx
    · rw [List.mem_singleton.mp hx]
      exact ⟨Or.inr (Or.inl rfl), hr, hn⟩
theorem WtP.wk {W : List (Int × Int × Int)} {q r v : Int} (h : WtP n0 l0 k0 P m W) (hq : q = ((m.2.2.1.2.length : Nat) : Int)) (hr : -1 ≤ r ∧ r < P.length) (hn : 0 ≤ r → ¬ P.getD r.toNat 0 % 128 = 32) (hv : v = pkW P r) (hm : m'.2.2.1.2 = m.2.2.1.2 ++ [v] ∧ m'.2.2.2.1.2.1 = m.2.2.2.1.2.1 ∧ m'.2.1.2.2 = m.2.1.2.2) : WtP n0 l0 k0 P m' (W ++ [(2, q, r)]) := by
  obtain ⟨h1, h2, ⟨h30, h3⟩, h4, h5⟩ := h
  obtain ⟨m1, m2, m3⟩ := hm
  unfold WtP
  rw [m1, m2, m3, wtF_sn, wtF_sn, wtF_sn, if_neg (by decide), if_neg (by decide), if_pos rfl, List.append_nil, List.append_nil, List.drop_append_of_le_length h30]
  refine ⟨h1, h2, ⟨by rw [List.length_append]; omega, h3.sn (by rw [List.length_drop]; omega) hv⟩, ?_, fun x hx => ?_⟩
  · rw [List.length_append, List.length_append, List.length_singleton, List.length_singleton]
    omega
  · rcases List.mem_append.mp hx with hx | hx
    · exact h5 x hx
    · rw [List.mem_singleton.mp hx]
      exact ⟨Or.inr (Or.inr rfl), hr, hn⟩
theorem hoG.at1 {zg zy b : Nat} (h : hoG σ zg zy b (A.take (n0 + 1))) : hoG σ zg zy b (A.take n0) := fun i hi => by
  rw [List.length_take] at hi
  have := h i (by rw [List.length_take]; omega)
  rw [List.getD_eq_getElem?_getD, List.getElem?_take_of_lt (by omega)] at this
  rw [List.getD_eq_getElem?_getD, List.getElem?_take_of_lt (by omega)]
  exact this
theorem take_sn {i : Nat} (h : i < A.length) : A.take (i + 1) = A.take i ++ [A.getD i 0] := by
  rw [List.take_add_one, List.getElem?_eq_getElem h, List.getD_eq_getElem?_getD, List.getElem?_eq_getElem h]
  rfl
theorem note_48 {w : Int} {j T0 : Nat} (hj : j < 400) (e2 : mV σ 262 j = ((u + A.length : Nat) : Int)) (hG : hoG σ 257 258 u A) (hu : u + A.length ≤ 60100) (hT : 70000 ≤ T0 ∧ T0 + A.length < 140000) (hq : ∀ σ', FrZ [254, 255] [17] σ σ' → (∀ k, k < T0 → mV σ' 254 k = mV σ 254 k ∧ mV σ' 255 k = mV σ 255 k) → mV σ' 246 17 = ((T0 + A.length : Nat) : Int) → hoG σ' 254 255 T0 A → R_note_48 (j : Int) w ((u + A.length : Nat) : Int) σ' Q) : ∀ (n i : Nat) (σ' : MS), i + n = A.length → FrZ [254, 255] [17] σ σ' → (∀ k, k < T0 → mV σ' 254 k = mV σ 254 k ∧ mV σ' 255 k = mV σ 255 k) → mV σ' 246 17 = ((T0 + i : Nat) : Int) → hoG σ' 254 255 T0 (A.take i) → R_note_48 (j : Int) w ((u + i : Nat) : Int) σ' Q := by
  intro n
  induction n with
  | zero =>
    intro i σ' hi hf hlo ht hh
    have e : i = A.length := by omega
    subst e
    rw [List.take_length] at hh
    exact hq σ' hf hlo ht hh
  | succ n ih =>
    intro i σ' hi hf hlo ht hh
    have hlt : i < A.length := by omega
    have ej : mV σ' 262 (j : Int).toNat = ((u + A.length : Nat) : Int) := by rw [Int.toNat_natCast, hf.z (by decide) (by decide)]; exact e2
    obtain ⟨g1, g2⟩ := hG i hlt
    refine R_note_48.i ⟨by omega, by omega, by unfold Rg; omega, fun h9 => absurd h9 (by rw [ej]; omega), fun _ => ?_⟩
    rw [ht, Int.toNat_natCast, Int.toNat_natCast, hf.z (by decide) (by decide), hf.z (by decide) (by decide), g1, g2, cgB_b, cyB_1, show ((u + i : Nat) : Int) + 1 = ((u + (i + 1) : Nat) : Int) by omega]
    refine ⟨by omega, by omega, by omega, by omega, by omega, by omega, by omega, by omega, by unfold Rg; omega, ?_⟩
    have lt : (A.take i).length = i := by rw [List.length_take]; omega
    refine ih (i + 1) _ (by omega) (((hf.tr (FrZ.wz (by decide))).tr (FrZ.wz (by decide))).tr (FrZ.wf (by decide))) (fun k hk => ?_) ?_ ?_
    · rw [wV_ne (Or.inl (by decide)), wV_ne (Or.inl (by decide)), wV_ne (Or.inr (by omega)), wV_ne (Or.inl (by decide)), wV_ne (Or.inr (by omega)), wV_ne (Or.inl (by decide))]
      exact hlo k hk
    · rw [wV_self]
      omega
    · rw [take_sn hlt]
      have h1 := hh.sn (c := A.getD i 0) (by decide) rfl rfl
      rw [lt] at h1
      exact h1.cg (fun k _ _ => ⟨wV_ne (Or.inl (by decide)), wV_ne (Or.inl (by decide))⟩)
theorem RxN.sn {C : List Int} {n : Int} {N : List (List Int)} (h : RxN σ n0 m) (hm : m.2.2.2.1 = (N, C, n)) (hm' : m'.2.2.2.1 = (N ++ [A], C, n + 1)) (h1 : mV σ1 246 86 = n + 1) (h2 : mV σ1 246 17 = ((70000 + suM N + A.length : Nat) : Int)) (h3 : ∀ k, k < n0 + N.length → mV σ1 301 k = mV σ 301 k ∧ mV σ1 302 k = mV σ 302 k) (h4 : mV σ1 301 (n0 + N.length) = ((70000 + suM N : Nat) : Int) ∧ mV σ1 302 (n0 + N.length) = ((70000 + suM N + A.length : Nat) : Int)) (h5 : ∀ k, 70000 ≤ k → k < 70000 + suM N → mV σ1 254 k = mV σ 254 k ∧ mV σ1 255 k = mV σ 255 k) (h6 : hoG σ1 254 255 (70000 + suM N) A) : RxN σ1 n0 m' := by
  obtain ⟨d1, d2, d3, d4⟩ := h
  unfold RxN
  rw [hm] at d1 d2 d3 d4
  rw [hm']
  refine ⟨h1, ?_, ?_, fun i hi => ?_⟩
  · show n + 1 = ((n0 + (N ++ [A]).length : Nat) : Int)
    have d2 : n = ((n0 + N.length : Nat) : Int) := d2
    rw [List.length_append, List.length_singleton]
    omega
  · show _ = ((70000 + suM (N ++ [A]) : Nat) : Int)
    rw [suM_sn, h2, Nat.add_assoc]
  · have hi : i < (N ++ [A]).length := hi
    rw [List.length_append, List.length_singleton] at hi
    show mV σ1 301 (n0 + i) = ((70000 + suM ((N ++ [A]).take i) : Nat) : Int) ∧ mV σ1 302 (n0 + i) = ((70000 + suM ((N ++ [A]).take i) + ((N ++ [A]).getD i []).length : Nat) : Int) ∧ hoG σ1 254 255 (70000 + suM ((N ++ [A]).take i)) ((N ++ [A]).getD i [])
    by_cases e : i = N.length
    · subst e
      have eg : (N ++ [A]).getD N.length [] = A := getD_at
      rw [eg, List.take_append_of_le_length (Nat.le_refl _), List.take_length]
      exact ⟨h4.1, h4.2, h6⟩
    · have eg : (N ++ [A]).getD i [] = N.getD i [] := by
        rw [List.getD_eq_getElem?_getD, List.getD_eq_getElem?_getD, List.getElem?_append_left (by omega)]
      rw [eg, List.take_append_of_le_length (by omega)]
      obtain ⟨f1, f2, f3⟩ := d4 i (by show i < N.length; omega)
      rw [(h3 (n0 + i) (by omega)).1, (h3 (n0 + i) (by omega)).2]
      refine ⟨f1, f2, f3.cg (fun k k1 k2 => h5 k (by omega) ?_)⟩
      have k2 : k < 70000 + suM (N.take i) + (N.getD i []).length := k2
      have := suM_tk (W := N) (i := i) (by omega)
      omega
theorem R_note.r {j : Nat} (hb9 : 0 < E.2.2.2) (hj : j < 400) (hA : ArG σ j kt (A)) (hS : RxS X 0 kt c D false E O σ s) (hi : TI p 0 s) (hp : ((kt : Nat) : Int) ≤ p)
    (hq : UOk Q X 0 kt c D false E O σ (if 60 ≤ s.2.2.2.2.2.1.2.2 then tFl 9 s else
      tBd (tPn (91 :: (wrN (s.2.2.2.2.2.1.2.2 + 1) 1 ++ [93])) (sNo s (s.2.2.2.2.2.1.1 ++ [A]) s.2.2.2.2.2.1.2.1 (s.2.2.2.2.2.1.2.2 + 1))) fun s1 => .inl (sNo s1 s1.2.2.2.2.2.1.1 (s1.2.2.2.2.2.1.2.1 ++ [((pkL s1.2.1).length : Int) - 1]) s1.2.2.2.2.2.1.2.2))) : R_note (j : Int) σ Q := by
  have hB : BdR 0 kt s := hi.bd (by omega)
  obtain ⟨u, e1, e2, e3, hG⟩ := hA
  obtain ⟨⟨a1, a2, hy, a4⟩, -, ⟨-, L2, L3, -, -⟩, ⟨K1, K2, -⟩, ⟨N1, N2, N3, N4⟩, -, hsum⟩ := id hi
  obtain ⟨r1, r2, ⟨m1, m2, m3, m4, m5, m6⟩, r4⟩ := id hS
  obtain ⟨n1, n2, n3, n4⟩ := m4 hb9
  have n1 : mV σ 246 86 = s.2.2.2.2.2.1.2.2 := n1
  have n2 : s.2.2.2.2.2.1.2.2 = ((X.2.1 + s.2.2.2.2.2.1.1.length : Nat) : Int) := n2
  have n3 : mV σ 246 17 = ((70000 + suM s.2.2.2.2.2.1.1 : Nat) : Int) := n3
  have hu : u + A.length ≤ 60100 := by omega
  have ej : ((j : Nat) : Int).toNat = j := rfl
  refine R_note.i ⟨fun h9 => ?_, fun h9 => R_fail.r (by decide) r1 ?_⟩
  · have h60 : ¬ 60 ≤ s.2.2.2.2.2.1.2.2 := by rw [n1] at h9; omega
    rw [if_neg h60] at hq
    rw [n1, n3, ej, e1]
    have nI : (s.2.2.2.2.2.1.2.2).toNat = X.2.1 + s.2.2.2.2.2.1.1.length := by omega
    rw [nI]
    refine ⟨by unfold Rg; omega, by omega, by omega, by omega, by omega, ?_⟩
    generalize hσ2 : wV (wV σ 246 86 (s.2.2.2.2.2.1.2.2 + 1)) 301 (X.2.1 + s.2.2.2.2.2.1.1.length) ((70000 + suM s.2.2.2.2.2.1.1 : Nat) : Int) = σ2
    have f2 : FrZ [301] [86] σ σ2 := by rw [← hσ2]; exact (FrZ.wf (by decide)).tr (FrZ.wz (by decide))
    have key := note_48 (σ := σ2) (Q := Q) (w := s.2.2.2.2.2.1.2.2) (T0 := 70000 + suM s.2.2.2.2.2.1.1) hj (by rw [f2.z (by decide) (by decide)]; exact e2) (hG.cg (fun k _ _ => ⟨f2.z (by decide) (by decide), f2.z (by decide) (by decide)⟩)) hu (by omega) (fun σ3 f3 lo3 t3 h3 => ?_) A.length 0 σ2 (by omega) FrZ.rf (fun _ _ => ⟨rfl, rfl⟩) (by rw [f2.f (by decide) (by decide)]; exact n3) hoG.nil
    · exact key
    have t262 : mV σ3 262 (j : Int).toNat = ((u + A.length : Nat) : Int) := by
      rw [ej, f3.z (by decide) (by decide), f2.z (by decide) (by decide)]
      exact e2
    refine R_note_48.i ⟨by omega, by omega, by unfold Rg; omega, fun _ => ⟨by omega, by omega, ?_⟩, fun h8 => absurd h8 (by rw [t262]; omega)⟩
    rw [nI, t3]
    generalize hσ4 : wV σ3 302 (X.2.1 + s.2.2.2.2.2.1.1.length) ((70000 + suM s.2.2.2.2.2.1.1 + A.length : Nat) : Int) = σ4
    have f4 : FrZ [254, 255, 301, 302] [17, 86] σ σ4 := by
      rw [← hσ4]
      exact ((f2.mo (by decide) (by decide)).tr (f3.mo (by decide) (by decide))).tr (FrZ.wz (by decide))
    have lo4 : ∀ k, k < 70000 + suM s.2.2.2.2.2.1.1 → mV σ4 254 k = mV σ 254 k ∧ mV σ4 255 k = mV σ 255 k := fun k hk => by
      rw [← hσ4, wV_ne (Or.inl (by decide)), wV_ne (Or.inl (by decide)), (lo3 k hk).1, (lo3 k hk).2, f2.z (by decide) (by decide), f2.z (by decide) (by decide)]
      exact ⟨rfl, rfl⟩
    have u4 : FrU 0 kt c X.1 σ σ4 := by
      refine ⟨f4.1, f4.2.1, fun z k n => ?_⟩
      refine f4.2.2 z k (fun hz => n (Or.inr ⟨?_, ?_, Or.inl ?_⟩)) ?_
      · simp only [List.mem_cons, List.not_mem_nil, or_false] at hz
        rcases hz with rfl | rfl | rfl | rfl <;> decide
      · simp only [List.mem_cons, List.not_mem_nil, or_false] at hz
        rcases hz with rfl | rfl | rfl | rfl <;> exact Nat.zero_le _
      · simp only [List.mem_cons, List.not_mem_nil, or_false] at hz
        rcases hz with rfl | rfl | rfl | rfl <;> rfl
      · by_cases e : z = 246
        · refine Or.inr (fun hk => n (Or.inl ⟨e, ?_⟩))
          simp only [List.mem_cons, List.not_mem_nil, or_false] at hk
          rcases hk with rfl | rfl <;> decide
        · exact Or.inl e
    have v86 : mV σ4 246 86 = s.2.2.2.2.2.1.2.2 + 1 := by
      rw [← hσ4, wV_ne (Or.inl (by decide)), f3.f (by decide) (by decide), ← hσ2, wV_ne (Or.inl (by decide)), wV_self]
    have hS4 : RxS X 0 kt c D false E O σ4 (sNo s (s.2.2.2.2.2.1.1 ++ [A]) s.2.2.2.2.2.1.2.1 (s.2.2.2.2.2.1.2.2 + 1)) := by
      refine ⟨r1.z f4 (by decide) (by decide), ⟨(f4.f (by decide) (by decide)).trans r2.1, r2.2.cg (fun k _ k2 => lo4 k (by have k2 : k < 0 + s.2.1.length := k2; omega))⟩, ⟨m1.z f4 (by decide) (by decide), fun b9 => (m2 b9).z f4 (by decide), fun b9 => (m3 b9).z f4 (by decide) (by decide), fun _ => ?_, ⟨(f4.f (by decide) (by decide)).trans m5.1, m5.2⟩, fun b9 => (m6 b9).z f4 (by decide) (by decide)⟩, r4.z f4 (by decide) (by decide)⟩
      refine RxN.sn (A := A) (C := s.2.2.2.2.2.1.2.1) (n := s.2.2.2.2.2.1.2.2) (N := s.2.2.2.2.2.1.1) (m4 hb9) rfl rfl v86 ?_ (fun k hk => ⟨?_, ?_⟩) ⟨?_, ?_⟩ (fun k _ hk => lo4 k hk) ?_
      · rw [← hσ4, wV_ne (Or.inl (by decide))]
        exact t3
      · rw [← hσ4, wV_ne (Or.inl (by decide)), f3.z (by decide) (by decide), ← hσ2, wV_ne (Or.inr (by omega)), wV_ne (Or.inl (by decide))]
      · rw [← hσ4, wV_ne (Or.inr (by omega)), f3.z (by decide) (by decide), f2.z (by decide) (by decide)]
      · rw [← hσ4, wV_ne (Or.inl (by decide)), f3.z (by decide) (by decide), ← hσ2, wV_self]
      · rw [← hσ4, wV_self]
      · refine h3.cg (fun k _ _ => ?_)
        rw [← hσ4, wV_ne (Or.inl (by decide)), wV_ne (Or.inl (by decide))]
        exact ⟨rfl, rfl⟩
    generalize hs4 : sNo s (s.2.2.2.2.2.1.1 ++ [A]) s.2.2.2.2.2.1.2.1 (s.2.2.2.2.2.1.2.2 + 1) = s4 at hS4 hq
    have y4 : s4.1.2.2 = s.1.2.2 := by rw [← hs4]; rfl
    have hB4 : BdR 0 kt s4 := by rw [← hs4]; exact hB
    have c4 : s4.2.2.2.2.2.1.2.1 = s.2.2.2.2.2.1.2.1 ∧ s4.2.2.2.1.2.2 = s.2.2.2.1.2.2 ∧ s4.2.2.2.2.1.2 = s.2.2.2.2.1.2 := by rw [← hs4]; exact ⟨rfl, rfl, rfl⟩
    have hq4 := hq.fr u4
    have wb : s4.2.2.2.2.2.1.2.1.length + s4.2.2.2.1.2.2.length + s4.2.2.2.2.1.2.length < 300 := by
      rw [c4.1, c4.2.1, c4.2.2]
      omega
    have flt : ∀ (e : Int × Int × Int) (σ9 : MS), tPn (91 :: (wrN (s.2.2.2.2.2.1.2.2 + 1) 1 ++ [93])) s4 = .inr e → FaR 0 kt σ9 e → FrP 0 σ4 σ9 → R_waits 0 s.2.2.2.2.2.1.2.2 (mV σ9 246 16 - 1) σ9 (kV (thQ Q) fun σ4 => Q (.inl none) σ4) := by
      intro e σ9 he hF hP
      obtain ⟨g1, g2, g3, g4, t, g5, g6, g7⟩ := id hF
      refine R_waits.r (P := s4.2.1) (m := s4.2.2) ((hS4.2.2.1.2.2.2.2.2 hb9).v hP.v) wb (by decide) (by unfold Rg; omega) (by unfold Rg; omega) (fun σ10 f10 _ => ?_)
      refine hq4.no he ⟨(f10.f (by decide) (by decide)).trans g1, g2, (f10.f (by decide) (by decide)).trans g3, (f10.f (by decide) (by decide)).trans g4, t, (f10.f (by decide) (by decide)).trans g5, g6, g7⟩ ((hS4.2.2.2.p hP).z f10 (by decide) (by decide)) ((FrP.u hP).tr (f10.uu (by decide) (by decide)))
    have hy4 : mV σ4 246 18 = s.1.2.2 := by rw [← y4]; exact hS4.1.2.2.2
    have ex : tPn (91 :: (wrN (s.2.2.2.2.2.1.2.2 + 1) 1 ++ [93])) s4 = tBd (tPt (cdS s.1.2.2 91) s4) fun s5 => tBd (tPs ((wrN (s.2.2.2.2.2.1.2.2 + 1) 1).map (cdS s.1.2.2)) s5) (fun s6 => tBd (tPt (cdS s.1.2.2 93) s6) (fun s7 => .inl s7)) := by
      unfold tPn
      rw [y4, List.map_cons, List.map_append]
      show tBd (tPt (cdS s.1.2.2 91) s4) (tPs ((wrN (s.2.2.2.2.2.1.2.2 + 1) 1).map (cdS s.1.2.2) ++ [cdS s.1.2.2 93])) = _
      congr 1
      funext s5
      rw [ps_app]
      rfl
    rw [show mV σ3 246 18 = s.1.2.2 by rw [← hy4, ← hσ4, wV_ne (Or.inl (by decide))]]
    refine R_put.r (c := cdS s.1.2.2 91) (kt := kt) hS4.1 hS4.2.1 hB4 (rd_cd hy (by decide)).1.symm (rd_cd hy (by decide)).2.symm ⟨fun s5 σ5 q1 q2 => ?_, fun e σ5 q1 q2 q3 => ?_⟩
    · have hS5 := hS4.po q2
      have y5 : s5.1.2.2 = s.1.2.2 := by
        obtain ⟨e9, -, -⟩ := pt_i q1
        rw [e9]
        exact y4
      have hB5 := hB4.put q1
      show R_told (mV σ5 246 86) 1 σ5 _
      rw [show mV σ5 246 86 = s.2.2.2.2.2.1.2.2 + 1 by rw [q2.1.1.f (by decide) (by decide)]; exact v86]
      refine R_told.r (by omega) (by decide) (fun h => absurd h (by decide)) hS5.1 hS5.2.1 hB5 (by rw [y5]; exact hy) ⟨fun s6 σ6 q4 q5 => ?_, fun e σ6 q4 q5 q6 => ?_⟩
      · have hS6 := hS5.po q5
        have q4' : tPs ((wrN (s.2.2.2.2.2.1.2.2 + 1) 1).map (cdS s.1.2.2)) s5 = .inl s6 := by
          rw [← y5]
          exact q4
        have y6 : s6.1.2.2 = s.1.2.2 := by
          rw [ps_i q4']
          exact y5
        have hB6 := hB5.ps q4'
        show R_put 93 (mV σ6 246 18) σ6 _
        rw [show mV σ6 246 18 = s.1.2.2 by rw [← y6]; exact hS6.1.2.2.2]
        refine R_put.r (c := cdS s.1.2.2 93) (kt := kt) hS6.1 hS6.2.1 hB6 (rd_cd hy (by decide)).1.symm (rd_cd hy (by decide)).2.symm ⟨fun s7 σ7 q7 q8 => ?_, fun e σ7 q7 q8 q9 => ?_⟩
        · have hS7 := hS6.po q8
          have all : tPn (91 :: (wrN (s.2.2.2.2.2.1.2.2 + 1) 1 ++ [93])) s4 = .inl s7 := by
            rw [ex, q1]
            show tBd (tPs _ s5) _ = _
            rw [q4']
            show tBd (tPt _ s6) _ = _
            rw [q7]
            rfl
          obtain ⟨e7, -, -⟩ := pt_i q7
          have l7 : s7.2.1.length = s6.2.1.length + 1 := by
            rw [e7]
            show (s6.2.1 ++ [cdS s.1.2.2 93]).length = _
            rw [List.length_append, List.length_singleton]
          have m7 : s7.2.2 = s4.2.2 := (q8.2.1.mk9.1).trans ((q5.2.1.mk9.1).trans q2.2.1.mk9.1)
          have t7 : mV σ7 246 16 = ((0 + s7.2.1.length : Nat) : Int) := hS7.2.1.1
          have hB7 := hB6.put q7
          have hb7 := hB7.2.2
          have hb71 := hB7.1
          have g7 : s7.2.1.getD ((s7.2.1.length : Int) - 1).toNat 0 % 128 = 93 := by
            rw [show ((s7.2.1.length : Int) - 1).toNat = s6.2.1.length by omega, e7]
            show (s6.2.1 ++ [cdS s.1.2.2 93]).getD s6.2.1.length 0 % 128 = 93
            rw [getD_s]
            unfold cdS
            omega
          show R_waits 0 s.2.2.2.2.2.1.2.2 (mV σ7 246 16 - 1) σ7 _
          rw [t7, Nat.zero_add]
          refine R_waits.r (P := s7.2.1) (m := s7.2.2) (hS7.2.2.1.2.2.2.2.2 hb9) (by rw [m7]; exact wb) (by decide) (by unfold Rg; omega) (by unfold Rg; omega) (fun σ8 f8 w8 => ?_)
          have u8 : FrU 0 kt c X.1 σ4 σ8 := (((FrP.u q2.1).tr (FrP.u q5.1)).tr (FrP.u q8.1)).tr (f8.uu (by decide) (by decide))
          refine (hq4.bd all FrU.rf).1 _ σ8 rfl ?_ u8
          obtain ⟨b1, b2, ⟨p1, p2, p3, p4, p5, p6⟩, b4⟩ := id hS7
          refine ⟨b1.z f8 (by decide) (by decide), b2.z f8 (by decide) (by decide), ⟨p1.z f8 (by decide) (by decide), fun b9 => (p2 b9).z f8 (by decide), fun b9 => (p3 b9).z f8 (by decide) (by decide), fun b9 => (p4 b9).z f8 (by decide) (by decide), ⟨(f8.f (by decide) (by decide)).trans p5.1, p5.2⟩, fun _ => ?_⟩, b4.z f8 (by decide) (by decide)⟩
          refine w8 _ (fun W hW => hW.wn ?_ ⟨by omega, by show (s7.2.1.length : Int) - 1 < s7.2.1.length; omega⟩ (fun _ => by rw [g7]; decide) ?_ ⟨rfl, rfl, rfl⟩)
          · show s.2.2.2.2.2.1.2.2 = ((X.2.1 + s7.2.2.2.2.2.1.2.1.length : Nat) : Int)
            rw [m7]
            show _ = ((X.2.1 + s4.2.2.2.2.2.1.2.1.length : Nat) : Int)
            rw [c4.1]
            omega
          · unfold pkW
            rw [show ((s7.2.1.length : Int) - 1 + 1).toNat = s7.2.1.length by omega]
            show _ = ((pkL ((s7.2.1).take s7.2.1.length)).length : Int) - 1
            rw [List.take_length]
        · exact flt e σ7 (by rw [ex, q1]; show tBd (tPs _ s5) _ = _; rw [q4']; show tBd (tPt _ s6) _ = _; rw [q7]; rfl) q8 ((q2.1.tr q5.1).tr q9)
      · refine R_put.nx (by rw [q5.1]; exact q5.2.1) ?_
        exact flt e σ6 (by rw [ex, q1]; show tBd (tPs _ s5) _ = _; rw [← y5]; rw [show tPs ((wrN (s.2.2.2.2.2.1.2.2 + 1) 1).map (cdS s5.1.2.2)) s5 = .inr e from q4]; rfl) q5 (q2.1.tr q6)
    · show R_told (mV σ5 246 86) 1 σ5 _
      rw [show mV σ5 246 86 = s.2.2.2.2.2.1.2.2 + 1 by rw [q3.1.f (by decide) (by decide)]; exact v86]
      refine R_told.nx (by omega) (by decide) (fun h => absurd h (by decide)) (by rw [q2.1]; exact q2.2.1) (fun σ6 f6 => R_put.nx ?_ ?_)
      · rw [f6.f (by decide) (by decide), q2.1]
        exact q2.2.1
      · obtain ⟨g1, g2, g3, g4, t, g5, g6, g7⟩ := id q2
        refine flt e σ6 (by rw [ex, q1]; rfl) ⟨(f6.f (by decide) (by decide)).trans g1, g2, (f6.f (by decide) (by decide)).trans g3, (f6.f (by decide) (by decide)).trans g4, t, (f6.f (by decide) (by decide)).trans g5, g6, g7⟩ (q3.tr ⟨f6.mo (by decide) (by decide), fun k _ => ⟨f6.z (by decide) (by decide), f6.z (by decide) (by decide)⟩, by rw [f6.f (by decide) (by decide)]; exact Int.le_refl _⟩)
  · rw [n1] at h9
    rw [if_pos (by omega)] at hq
    exact hS.fl (by decide) hB hq
end
