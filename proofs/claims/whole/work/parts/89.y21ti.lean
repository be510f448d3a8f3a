/-! TEXTS: bounds that hold throughout -/
def okC (c : Int) : Prop := 0 ≤ c ∧ c < 1024 ∧ (512 ≤ c → c % 128 = 32)
def okK (L : List Int) : Prop := ∀ c ∈ L, okC c
def okM9 (W : List (List Int)) : Prop := ∀ w ∈ W, okK w
def smW (n : Nat) (W : List (List Int)) : Prop := ∀ w ∈ W, w.length ≤ n ∧ smB w
theorem okK.app {L M : List Int} (h : okK L) (h' : okK M) : okK (L ++ M) := fun x hx => by
  rcases List.mem_append.mp hx with hx | hx
  · exact h x hx
  · exact h' x hx
theorem okK.one {c : Int} (h : okC c) : okK [c] := fun x hx => by rw [List.mem_singleton.mp hx]; exact h
theorem okK.nil : okK [] := fun x hx => absurd hx List.not_mem_nil
theorem smB.nil : smB [] := fun x hx => absurd hx List.not_mem_nil
theorem cd_ok {y x : Int} (hy : 0 ≤ y ∧ y ≤ 3) (hx : 0 ≤ x ∧ x ≤ 127) : okC (cdS y x) := by
  unfold okC cdS
  omega
theorem cd_hard {y : Int} (hy : 0 ≤ y ∧ y ≤ 3) : okC (cdS y 544) := by
  unfold okC cdS
  omega
theorem ms7_sm {L : List Int} : smB (ms7 L) := fun x hx => by
  unfold ms7 at hx
  obtain ⟨y, -, rfl⟩ := List.mem_map.mp hx
  omega
/-- all that is known of a state; p and v are left over -/
def TI (p v : Int) (s : TS) : Prop :=
  ((0 ≤ s.1.1 ∧ s.1.1 ≤ 60000) ∧ (0 ≤ s.1.2.1 ∧ s.1.2.1 ≤ 400000) ∧ (0 ≤ s.1.2.2 ∧ s.1.2.2 ≤ 3) ∧ okK s.2.1) ∧
  (s.2.2.1.2.length = s.2.2.1.1.length ∧ s.2.2.1.1.length ≤ 20 ∧ smW 12 s.2.2.1.1 ∧ (∀ x ∈ s.2.2.1.2, 0 ≤ x ∧ x + v ≤ s.1.1)) ∧
  (s.2.2.2.1.2.1.length = s.2.2.2.1.1.length ∧ s.2.2.2.1.2.2.length = s.2.2.2.1.1.length ∧ s.2.2.2.1.1.length ≤ 60 ∧ smW 12 s.2.2.2.1.1 ∧ smW 32 s.2.2.2.1.2.1) ∧
  (s.2.2.2.2.1.2.length = s.2.2.2.2.1.1.length ∧ s.2.2.2.2.1.1.length ≤ 100 ∧ (∀ w ∈ s.2.2.2.2.1.1, smB w)) ∧
  (s.2.2.2.2.2.1.2.1.length = s.2.2.2.2.2.1.1.length ∧ (s.2.2.2.2.2.1.1.length : Int) ≤ s.2.2.2.2.2.1.2.2 ∧ s.2.2.2.2.2.1.2.2 ≤ 60 ∧ okM9 s.2.2.2.2.2.1.1) ∧
  (0 ≤ s.2.2.2.2.2.2 ∧ s.2.2.2.2.2.2 + v ≤ s.1.2.1 ∧ v ≤ s.1.1) ∧
  (suM s.2.2.2.2.1.1 : Int) + suM s.2.2.2.2.2.1.1 + s.2.1.length + p ≤ s.1.1 + 100
section
variable {p v : Int} {s s' : TS}
theorem TI.mo {p' v' : Int} (h : TI p v s) (hp : p' ≤ p) (hv : v' ≤ v) : TI p' v' s := by
  obtain ⟨a, ⟨b1, b2, b3, b4⟩, c, d, e, ⟨f1, f2, f3⟩, g⟩ := h
  exact ⟨a, ⟨b1, b2, b3, fun x hx => by have := b4 x hx; omega⟩, c, d, e, ⟨f1, by omega, by omega⟩, by omega⟩
theorem sp_i {n : Int} (h : tSp n s = .inl s') : s' = sWk s (s.1.1 + n) (s.1.2.1 + n) ∧ s.1.1 + n ≤ 60000 ∧ s.1.2.1 + n ≤ 400000 := by
  unfold tSp at h
  split at h
  · cases h
  · rename_i hn
    cases h
    exact ⟨rfl, by omega, by omega⟩
theorem TI.sp {n : Int} (h : TI p v s) (hn : 0 ≤ n) (e : tSp n s = .inl s') : TI (p + n) (v + n) s' := by
  obtain ⟨e1, e2, e3⟩ := sp_i e
  subst e1
  obtain ⟨⟨a1, a2, a3, a4⟩, ⟨b1, b2, b3, b4⟩, c, d, e, ⟨f1, f2, f3⟩, g⟩ := h
  refine ⟨⟨⟨by show 0 ≤ s.1.1 + n; omega, by show s.1.1 + n ≤ 60000; omega⟩, ⟨by show 0 ≤ s.1.2.1 + n; omega, by show s.1.2.1 + n ≤ 400000; omega⟩, a3, a4⟩, ⟨b1, b2, b3, fun x hx => ?_⟩, c, d, e, ⟨f1, ?_, by show v + n ≤ s.1.1 + n; omega⟩, ?_⟩
  · have := b4 x hx
    show 0 ≤ x ∧ x + (v + n) ≤ s.1.1 + n
    omega
  · show s.2.2.2.2.2.2 + (v + n) ≤ s.1.2.1 + n
    omega
  · show (suM s.2.2.2.2.1.1 : Int) + suM s.2.2.2.2.2.1.1 + s.2.1.length + (p + n) ≤ s.1.1 + n + 100
    omega
theorem TI.ou {L : List Int} (h : TI p v s) (hL : okK L) : TI (p + s.2.1.length - L.length) v (sOu s L) := by
  obtain ⟨⟨a1, a2, a3, a4⟩, b, c, d, e, f, g⟩ := h
  refine ⟨⟨a1, a2, a3, hL⟩, b, c, d, e, f, ?_⟩
  show (suM s.2.2.2.2.1.1 : Int) + suM s.2.2.2.2.2.1.1 + L.length + (p + s.2.1.length - L.length) ≤ s.1.1 + 100
  omega
theorem TI.st {y : Int} (h : TI p v s) (hy : 0 ≤ y ∧ y ≤ 3) : TI p v (sSt s y) := by
  obtain ⟨⟨a1, a2, a3, a4⟩, b, c, d, e, f, g⟩ := h
  exact ⟨⟨a1, a2, hy, a4⟩, b, c, d, e, f, g⟩
theorem bd_i {r : TR} {f : TS → TR} (h : tBd r f = .inl s') : ∃ s1, r = .inl s1 ∧ f s1 = .inl s' := by
  cases r with
  | inl s1 => exact ⟨s1, rfl, h⟩
  | inr e => cases h
theorem pt_i {c : Int} (h : tPt c s = .inl s') : s' = sOu (sWk s (s.1.1 + 1) (s.1.2.1 + 1)) (s.2.1 ++ [c]) ∧ s.1.1 + 1 ≤ 60000 ∧ s.1.2.1 + 1 ≤ 400000 := by
  obtain ⟨s1, h1, h2⟩ := bd_i h
  obtain ⟨e1, e2, e3⟩ := sp_i h1
  subst e1
  cases h2
  exact ⟨rfl, e2, e3⟩
theorem TI.pt {c : Int} (h : TI p v s) (hc : okC c) (e : tPt c s = .inl s') : TI p v s' := by
  obtain ⟨s1, h1, h2⟩ := bd_i e
  cases h2
  have t1 := h.sp (by decide) h1
  obtain ⟨e1, -, -⟩ := sp_i h1
  have t2 := t1.ou (L := s1.2.1 ++ [c]) (t1.1.2.2.2.app (okK.one hc))
  refine t2.mo ?_ (by omega)
  rw [List.length_append, List.length_singleton]
  omega
theorem TI.ps : ∀ {L : List Int} {s s' : TS}, TI p v s → okK L → tPs L s = .inl s' → TI p v s'
  | [], s, s', h, _, e => by cases e; exact h
  | c :: r, s, s', h, hL, e => by
    obtain ⟨s1, h1, h2⟩ := bd_i e
    exact TI.ps (h.pt (hL c List.mem_cons_self) h1) (fun x hx => hL x (List.mem_cons_of_mem _ hx)) h2
/-- what puts leave as it was -/
theorem ps_i : ∀ {L : List Int} {s s' : TS}, tPs L s = .inl s' → s' = sOu (sWk s (s.1.1 + L.length) (s.1.2.1 + L.length)) (s.2.1 ++ L)
  | [], s, s', e => by
    cases e
    show s = ((s.1.1 + ((0 : Nat) : Int), s.1.2.1 + ((0 : Nat) : Int), s.1.2.2), s.2.1 ++ [], s.2.2)
    rw [List.append_nil, show s.1.1 + ((0 : Nat) : Int) = s.1.1 by omega, show s.1.2.1 + ((0 : Nat) : Int) = s.1.2.1 by omega]
  | c :: r, s, s', e => by
    obtain ⟨s1, h1, h2⟩ := bd_i e
    obtain ⟨e1, -, -⟩ := pt_i h1
    have := ps_i h2
    subst e1
    rw [this]
    show ((s.1.1 + 1 + (r.length : Int), s.1.2.1 + 1 + (r.length : Int), s.1.2.2), s.2.1 ++ [c] ++ r, s.2.2) = ((s.1.1 + ((c :: r).length : Int), s.1.2.1 + ((c :: r).length : Int), s.1.2.2), s.2.1 ++ c :: r, s.2.2)
    rw [List.append_assoc, List.length_cons, show s.1.1 + 1 + (r.length : Int) = s.1.1 + ((r.length + 1 : Nat) : Int) by omega, show s.1.2.1 + 1 + (r.length : Int) = s.1.2.1 + ((r.length + 1 : Nat) : Int) by omega]
    rfl
theorem cdL_ok {y : Int} {L : List Int} (hy : 0 ≤ y ∧ y ≤ 3) (hL : smB L) : okK (L.map (cdS y)) := fun x hx => by
  obtain ⟨w, hw, rfl⟩ := List.mem_map.mp hx
  exact cd_ok hy (hL w hw)
theorem TI.pn {L : List Int} (h : TI p v s) (hL : smB L) (e : tPn L s = .inl s') : TI p v s' := h.ps (cdL_ok h.1.2.2.1 hL) e
end
/-! numbers are signs -/
theorem smB.one {x : Int} (h : 0 ≤ x ∧ x ≤ 127) : smB [x] := fun y hy => by rw [List.mem_singleton.mp hy]; exact h
theorem dgS_s {d : Nat} (h : d < 36) : 0 ≤ dgS d ∧ dgS d ≤ 127 := by
  unfold dgS
  split <;> omega
theorem dgN_s {b : Nat} (hb : b = 10 ∨ b = 36) : ∀ (f v : Nat), smB (dgN b f v)
  | 0, v => smB.one (dgS_s (by have := Nat.mod_lt v (show 0 < b by omega); omega))
  | f + 1, v => by
    unfold dgN
    split
    · exact smB.one (dgS_s (by omega))
    · exact (dgN_s hb f (v / b)).app (smB.one (dgS_s (by have := Nat.mod_lt v (show 0 < b by omega); omega)))
theorem ltN_s : ∀ (f v : Nat), smB (ltN f v)
  | 0, v => smB.nil
  | f + 1, v => by
    unfold ltN
    split
    · exact smB.nil
    · exact (ltN_s f _).app (smB.one (by unfold leS; omega))
theorem romD_s {d : Nat} {o f t sh : Int} (ho : 65 ≤ o ∧ o ≤ 126) (hf : 65 ≤ f ∧ f ≤ 126) (ht : 65 ≤ t ∧ t ≤ 126) (hs : sh = 0 ∨ sh = -32) : smB (romD d o f t sh) := by
  have two : ∀ x y : Int, (0 ≤ x ∧ x ≤ 127) → (0 ≤ y ∧ y ≤ 127) → smB [x, y] := fun x y hx hy => (smB.one hx).app (smB.one hy)
  unfold romD
  split
  · exact two _ _ (by omega) (by omega)
  · split
    · exact two _ _ (by omega) (by omega)
    · refine smB.app ?_ (fun x hx => ?_)
      · split
        · exact smB.one (by omega)
        · exact smB.nil
      · rw [List.eq_of_mem_replicate hx]; omega
theorem wrN_s {n sys : Int} : smB (wrN n sys) := by
  unfold wrN
  split
  · unfold rmZ
    have hs : (if sys = 3 then (-32 : Int) else 0) = 0 ∨ (if sys = 3 then (-32 : Int) else 0) = -32 := by split <;> simp
    exact ((((romD_s (by decide) (by decide) (by decide) hs).app (romD_s (by decide) (by decide) (by decide) hs)).app (romD_s (by decide) (by decide) (by decide) hs)).app (romD_s (by decide) (by decide) (by decide) hs))
  · split
    · exact ltN_s _ _
    · refine smB.app ?_ ?_
      · split
        · exact smB.one (by decide)
        · exact smB.nil
      · split
        · exact dgN_s (Or.inr rfl) _ _
        · exact dgN_s (Or.inl rfl) _ _
/-! what is put of arguments is made of codes -/
theorem okM9.at {W : List (List Int)} (h : okM9 W) (i : Nat) : okK (W.getD i []) := by
  rw [List.getD_eq_getElem?_getD]
  cases e : W[i]? with
  | none => exact okK.nil
  | some w => exact h w (List.mem_of_getElem? e)
theorem uppS_s {x : Int} (h : 0 ≤ x ∧ x ≤ 127) : 0 ≤ uppS x ∧ uppS x ≤ 127 := uppS_b h
theorem lowS_s {x : Int} (h : 0 ≤ x ∧ x ≤ 127) : 0 ≤ lowS x ∧ lowS x ≤ 127 := by
  unfold lowS
  split <;> omega
theorem rcX_b {k t ah x : Int} (h : 0 ≤ x ∧ x ≤ 127) : 0 ≤ rcX k t ah x ∧ rcX k t ah x ≤ 127 := by
  unfold rcX
  split
  · exact uppS_s h
  · split
    · split
      · exact h
      · exact uppS_s h
    · split
      · exact lowS_s h
      · split
        · omega
        · split
          · omega
          · exact h
theorem rcX_32 {k t ah : Int} : rcX k t ah 32 = 32 := by
  have a : uppS 32 = 32 := by decide
  have b : lowS 32 = 32 := by decide
  have c : sSm 32 = false := by decide
  have d : sGr 32 = false := by decide
  unfold rcX
  rw [a, b, c, d]
  split
  · rfl
  · split
    · split <;> rfl
    · split
      · rfl
      · rfl
theorem rcS_ok {k t ah c : Int} (h : okC c) : okC (rcS k t ah c) := by
  have b := rcX_b (k := k) (t := t) (ah := ah) (x := c % 128) (by omega)
  unfold okC at h ⊢
  by_cases hh : 512 ≤ c
  · have e := h.2.2 hh
    have e2 : rcS k t ah c = c := by
      unfold rcS
      rw [e, rcX_32]
      omega
    rw [e2]
    exact h
  · unfold rcS
    omega
theorem rcL_ok {k t : Int} : ∀ {L : List Int} {ah : Int}, okK L → okK (rcL k t ah L)
  | [], _, _ => okK.nil
  | c :: r, ah, h => fun x hx => by
    rcases List.mem_cons.mp hx with rfl | hx
    · exact rcS_ok (h c List.mem_cons_self)
    · exact rcL_ok (fun y hy => h y (List.mem_cons_of_mem _ hy)) x hx
theorem nwD_ok {w : Int} : ∀ {L : List Int} {n : Int} {i : Bool}, okK L → okK (nwD w n i L)
  | [], _, _, _ => okK.nil
  | c :: r, n, i, h => by
    have hr : okK r := fun y hy => h y (List.mem_cons_of_mem _ hy)
    have one : ∀ n' i', okK (c :: nwD w n' i' r) := fun n' i' => okK.app (okK.one (h c List.mem_cons_self)) (nwD_ok hr)
    unfold nwD
    split
    · exact nwD_ok hr
    · split
      · split
        · exact one _ _
        · exact nwD_ok hr
      · split
        · exact one _ _
        · exact nwD_ok hr
theorem rep_ok {L : List Int} (h : okK L) : ∀ n : Nat, okK (List.replicate n L).flatten
  | 0 => okK.nil
  | n + 1 => by
    rw [List.replicate_succ, List.flatten_cons]
    exact h.app (rep_ok h n)
theorem okK.sub {L M : List Int} (h : okK L) (hs : ∀ x ∈ M, x ∈ L) : okK M := fun x hx => h x (hs x hx)
theorem pkF_len {q : List Int × Bool} {c : Int} : (pkF q c).1.length ≤ q.1.length + (if sbl c = true then 0 else if q.2 = true then 2 else 1) := by
  unfold pkF
  split
  · exact Nat.le_refl _
  · split
    · rename_i h
      rw [if_pos h.1, List.length_append, List.length_append, List.length_singleton, List.length_singleton]
      omega
    · rw [List.length_append, List.length_singleton]
      split <;> omega
/-- packing makes nothing longer -/
theorem pk_len : ∀ (L : List Int) (q : List Int × Bool), (L.foldl pkF q).1.length + (if (L.foldl pkF q).2 = true then 1 else 0) ≤ q.1.length + (if q.2 = true then 1 else 0) + L.length
  | [], q => by rw [List.length_nil]; exact Nat.le_refl _
  | c :: r, q => by
    have ih := pk_len r (pkF q c)
    have h1 : (pkF q c).1.length + (if (pkF q c).2 = true then 1 else 0) ≤ q.1.length + (if q.2 = true then 1 else 0) + 1 := by
      unfold pkF
      split
      · show q.1.length + (if true = true then 1 else 0) ≤ _
        rw [if_pos rfl]
        omega
      · show ((if q.2 = true ∧ 0 < q.1.length then q.1 ++ [32] else q.1) ++ [c]).length + 0 ≤ _
        rw [List.length_append, List.length_singleton]
        by_cases h : q.2 = true ∧ 0 < q.1.length
        · rw [if_pos h, if_pos h.1, List.length_append, List.length_singleton]
          omega
        · rw [if_neg h]
          omega
    rw [List.foldl_cons, List.length_cons]
    omega
theorem pkL_len {L : List Int} : (pkL L).length ≤ L.length := by
  have := pk_len L ([], false)
  have e : (([], false) : List Int × Bool).1.length + (if (([], false) : List Int × Bool).2 = true then 1 else 0) = 0 := rfl
  rw [e] at this
  unfold pkL pkS
  omega
