/-! THE ABSTRACT MACHINE'S STATE: ints by cell and place, rows, their rooms, the references that change, the reference's long, the law's long row, the script -/
abbrev SS : Type := (Nat → Nat → Int32) × (Nat → List Int32) × (Nat → Nat) × (Nat → Nat) × Int64 × (Nat → Int64) × Nat × (Nat → Int32)
abbrev sI (σ : SS) : Nat → Nat → Int32 := σ.1
abbrev sX (σ : SS) : Nat → List Int32 := σ.2.1
abbrev sC (σ : SS) : Nat → Nat := σ.2.2.1
abbrev sB (σ : SS) : Nat → Nat := σ.2.2.2.1
abbrev sL (σ : SS) : Int64 := σ.2.2.2.2.1
abbrev sO (σ : SS) : Nat → Int64 := σ.2.2.2.2.2.1
abbrev sN (σ : SS) : Nat := σ.2.2.2.2.2.2.1
abbrev sS (σ : SS) : Nat → Int32 := σ.2.2.2.2.2.2.2
def uI (σ : SS) (f : Nat → Nat → Int32) : SS := (f, σ.2)
def uX (σ : SS) (q : Nat) (cap : Nat) (ys : List Int32) : SS := (σ.1, va_up σ.2.1 q ys, va_up σ.2.2.1 q cap, σ.2.2.2)
def uB (σ : SS) (f : Nat → Nat) : SS := (σ.1, σ.2.1, σ.2.2.1, f, σ.2.2.2.2)
def uL (σ : SS) (x : Int64) : SS := (σ.1, σ.2.1, σ.2.2.1, σ.2.2.2.1, x, σ.2.2.2.2.2)
def uO (σ : SS) (f : Nat → Int64) : SS := (σ.1, σ.2.1, σ.2.2.1, σ.2.2.2.1, σ.2.2.2.2.1, f, σ.2.2.2.2.2.2)
def PIC (G : Nat → ClassId) (ad : Nat → Nat) (cl : Nat → va_E) (σ : SS) : Prop :=
  XW G 352 ad cl (sC σ) (sX σ) (sI σ) (sI σ) (sB σ) ∧ MW G 352 ad cl 246 (sI σ 246) (sL σ) (fun j => sI σ (247 + j)) ∧ cl 351 = .inl (G 3, 1, .inr (.inl (sO σ)))
/-- what stays of the addresses -/
def AdR (ad ad' : Nat → Nat) : Prop := ∀ z, z < 352 → rowArr z = false → ad' z = ad z
theorem AdR.rf {ad : Nat → Nat} : AdR ad ad := fun _ _ _ => rfl
theorem AdR.tr {ad ad1 ad2 : Nat → Nat} (h : AdR ad ad1) (h' : AdR ad1 ad2) : AdR ad ad2 := fun z h1 h2 => (h' z h1 h2).trans (h z h1 h2)
section
variable {G : Nat → ClassId} {N : Nat} {ad ad' : Nat → Nat} {cl cl' : Nat → va_E} {c : Nat → Nat} {xs : Nat → List Int32} {v v' : Nat → Nat → Int32} {g g' : Nat → Nat → Int32} {nb : Nat → Nat} {σ : SS}
theorem XW.cg (h : XW G N ad cl c xs v g nb) (hv : ∀ q ∈ xObjs, v' q.1 = v q.1) (hg : ∀ q ∈ xArrs, g' q.1 = g q.1) : XW G N ad cl c xs v' g' nb := by
  obtain ⟨h1, h2, h3, h4, h5, h6⟩ := h
  refine ⟨h1, h2, fun q hq => ?_, fun q hq => ?_, h5, h6⟩
  · rw [h3 q hq]
    congr 2
    refine fmap_congr _ _ (fun k f hf => ?_)
    rcases f with r | u | j
    · rfl
    · rw [fval, fval, hv q hq]
    · rfl
  · rw [h4 q hq, hg q hq]
theorem rows_lt : ∀ q ∈ xRows, q + 1 < 246 := by decide +kernel
theorem objs_lt : ∀ q ∈ xObjs, q.1 < 246 := by decide +kernel
theorem arrs_lt : ∀ q ∈ xArrs, q.1 < 246 := by decide +kernel
theorem objs_arrs : ∀ q ∈ xObjs, ∀ a ∈ xArrs, a.1 ≠ q.1 := by decide +kernel
theorem objs_row : ∀ q ∈ xObjs, rowArr q.1 = false := by decide +kernel
theorem rows_row : ∀ q ∈ xRows, rowArr q = false := by decide +kernel
theorem rows_obj : ∀ q ∈ xRows, ∀ r ∈ xRows, q ≠ r + 1 := by decide +kernel
theorem objs_fld : ∀ q ∈ xObjs, ∀ f ∈ q.2.2, (match f with | .inl r => decide (r < 246) && !rowArr r | _ => true) = true := by decide +kernel
theorem row_hi {z : Nat} (h : 246 ≤ z) : rowArr z = false := by
  cases hr : rowArr z with
  | false => rfl
  | true =>
    obtain ⟨q, hq, e⟩ := List.any_eq_true.mp hr
    have := rows_lt q hq
    simp at e
    omega
theorem XW.ext (h : XW G N ad cl c xs v g nb) (hc : ∀ z, z < 246 → cl' z = cl z) : XW G N ad cl' c xs v g nb := by
  obtain ⟨h1, h2, h3, h4, h5, h6⟩ := h
  refine ⟨h1, fun q hq => ?_, fun q hq => ?_, fun q hq => ?_, ?_, h6⟩
  · obtain ⟨a, b, ⟨f, c1, d1⟩, e1⟩ := h2 q hq
    have := rows_lt q hq
    exact ⟨a, by rw [hc q (by omega)]; exact b, ⟨f, by rw [hc _ (by omega)]; exact c1, d1⟩, e1⟩
  · rw [hc _ (objs_lt q hq)]; exact h3 q hq
  · rw [hc _ (arrs_lt q hq)]; exact h4 q hq
  · rw [hc 9 (by decide)]; exact h5
theorem MW.ext {o : Nat} {w : Nat → Int32} {lw : Int64} {a : Nat → Nat → Int32} (h : MW G N ad cl o w lw a) (ha : ∀ z, o < z → z < o + 105 → ad' z = ad z) (hc : ∀ z, o ≤ z → z < o + 105 → cl' z = cl z) : MW G N ad' cl' o w lw a := by
  obtain ⟨m1, m2, m3⟩ := h
  refine ⟨m1, ?_, fun j hj => ?_⟩
  · rw [hc o (Nat.le_refl _) (by omega), m2]
    congr 2
    refine fsOf_congr (fun k _ => ?_)
    simp only [mfldJ]
    cases hm : mOff k with
    | none => rfl
    | some i =>
      by_cases hi : i < 104
      · simp only [hi, if_true]; rw [ha _ (by omega) (by omega)]
      · simp only [hi, if_false]
  · rw [hc _ (by omega) (by omega)]; exact m3 j hj
/-- a row has changed -/
theorem PIC.row (h : PIC G ad cl σ) {q cap : Nat} {ys : List Int32} (hq : q ∈ xRows) (hF : FrR 352 q ad cl ad' cl') (hR : RowL G 352 ad' cl' q cap ys) : PIC G ad' cl' (uX σ q cap ys) ∧ AdR ad ad' := by
  obtain ⟨h1, h2, h3⟩ := h
  have hl := rows_lt q hq
  refine ⟨⟨h1.row hq hF hR, h2.ext (fun z z1 z2 => hF.1 z (by omega) (by omega)) (fun z z1 z2 => hF.2 z (by omega) (by omega) (by omega)), ?_⟩, (FrX.of hq hF).1⟩
  rw [hF.2 351 (by decide) (by omega) (by omega)]
  exact h3
/-- an int field of x is written -/
theorem PIC.int (h : PIC G ad cl σ) {z ci k : Nat} {fs : List FS} (hm : (z, ci, fs) ∈ xObjs) (hk : fs[k]? = some (.inr (.inl ()))) (x : Int32) : PIC G ad (va_up cl z (.inr (ci, (fmap (fval ad (sI σ) (sB σ) z) 0 fs).set k (.int x)))) (uI σ (vset (sI σ) z k x)) := by
  obtain ⟨h1, h2, h3⟩ := h
  have hz : z < 246 := objs_lt _ hm
  refine ⟨?_, ?_, ?_⟩
  · refine (h1.int hm k hk x).cg (fun _ _ => rfl) (fun a ha => ?_)
    exact va_up_ne _ _ (objs_arrs _ hm a ha)
  · have e1 : sI (uI σ (vset (sI σ) z k x)) 246 = sI σ 246 := va_up_ne _ _ (by omega)
    have e2 : (fun j => sI (uI σ (vset (sI σ) z k x)) (247 + j)) = fun j => sI σ (247 + j) := by funext j; exact va_up_ne _ _ (by omega)
    rw [e1, e2]
    exact h2.ext (fun _ _ _ => rfl) (fun y y1 _ => va_up_ne _ _ (by omega))
  · rw [va_up_ne _ _ (by omega)]; exact h3
/-- a reference that changes is written -/
theorem PIC.dyn (h : PIC G ad cl σ) {z ci j k r : Nat} {fs : List FS} (hm : (z, ci, fs) ∈ xObjs) (hk : fs[k]? = some (.inr (.inr j))) (hd : dynB j z k = true) (hr : r = 49 ∨ r = 163) : PIC G ad (va_up cl z (.inr (ci, (fmap (fval ad (sI σ) (sB σ) z) 0 fs).set k (.ref (ad r))))) (uB σ (va_up (sB σ) j r)) := by
  obtain ⟨h1, h2, h3⟩ := h
  have hz : z < 246 := objs_lt _ hm
  refine ⟨h1.dyn hm hk hd hr, h2.ext (fun _ _ _ => rfl) (fun y y1 _ => va_up_ne _ _ (by omega)), ?_⟩
  rw [va_up_ne _ _ (by omega)]; exact h3
/-- an int field of the reference is written -/
theorem PIC.mint (h : PIC G ad cl σ) {k : Nat} (hk : k < 164) (hm : mOff k = none) (h9 : k ≠ 159) (x : Int32) : PIC G ad (va_up cl 246 (.inr (12, (fsOf (mfldJ ad 246 (sI σ 246) (sL σ) 104)).set k (.int x)))) (uI σ (vset (sI σ) 246 k x)) := by
  obtain ⟨h1, h2, h3⟩ := h
  refine ⟨?_, ?_, ?_⟩
  · refine XW.cg (h1.ext (fun z hz => va_up_ne _ _ (by omega))) (fun q hq => ?_) (fun q hq => ?_)
    · have := objs_lt q hq
      exact va_up_ne _ _ (by omega)
    · have := arrs_lt q hq
      exact va_up_ne _ _ (by omega)
  · have e1 : sI (uI σ (vset (sI σ) 246 k x)) 246 = va_up (sI σ 246) k x := by
      show va_up (sI σ) 246 (va_up (sI σ 246) k x) 246 = _
      exact va_up_self _ _ _
    have e2 : (fun j => sI (uI σ (vset (sI σ) 246 k x)) (247 + j)) = fun j => sI σ (247 + j) := by funext j; exact va_up_ne _ _ (by omega)
    rw [e1, e2]
    refine ⟨h2.1, ?_, fun j hj => ?_⟩
    · rw [va_up_self, fsOf_set hk, mf_puti hm h9]; rfl
    · rw [va_up_ne _ _ (by omega)]; exact h2.2.2 j hj
  · rw [va_up_ne _ _ (by decide)]; exact h3
theorem mf_putl {o : Nat} {w : Nat → Int32} {lw : Int64} {j : Nat} {x : Int64} : fsOf (va_up (mfldJ ad o w lw j) 159 (.long x)) = fsOf (mfldJ ad o w x j) := by
  apply fsOf_congr
  intro i _
  have h9 : mOff 159 = none := by decide
  by_cases hi : i = 159
  · subst hi
    rw [va_up_self]
    simp only [mfldJ, h9, if_true]
  · rw [va_up_ne _ _ hi]
    simp only [mfldJ]
    cases mOff i <;> simp [hi]
theorem PIC.mlong (h : PIC G ad cl σ) (x : Int64) : PIC G ad (va_up cl 246 (.inr (12, (fsOf (mfldJ ad 246 (sI σ 246) (sL σ) 104)).set 159 (.long x)))) (uL σ x) := by
  obtain ⟨h1, h2, h3⟩ := h
  refine ⟨h1.ext (fun z hz => va_up_ne _ _ (by omega)), ⟨h2.1, ?_, fun j hj => ?_⟩, ?_⟩
  · rw [va_up_self, fsOf_set (by decide), mf_putl]; rfl
  · rw [va_up_ne _ _ (by omega)]; exact h2.2.2 j hj
  · rw [va_up_ne _ _ (by decide)]; exact h3
/-- which array a cell is: its kind and length -/
def am_ar (z : Nat) : Option (Nat × Nat) := if z < 246 then (match xArrs.find? (fun q => q.1 == z) with
  | some q => some (0, q.2)
  | none => none) else if 247 ≤ z ∧ z < 351 then some (arrK (z - 247), arrL (z - 247)) else none
theorem am_ar_inv {z k n : Nat} (h : am_ar z = some (k, n)) : ((z, n) ∈ xArrs ∧ k = 0) ∨ ∃ j, j < 104 ∧ z = 247 + j ∧ k = arrK j ∧ n = arrL j := by
  unfold am_ar at h
  by_cases h1 : z < 246
  · rw [if_pos h1] at h
    split at h
    · rename_i q hq
      have hm := List.mem_of_find?_eq_some hq
      have he := List.find?_some hq
      simp at he
      cases h
      left
      refine ⟨?_, rfl⟩
      rw [← he]
      exact hm
    · cases h
  · rw [if_neg h1] at h
    by_cases h2 : 247 ≤ z ∧ z < 351
    · rw [if_pos h2] at h
      obtain ⟨e1, e2⟩ := Prod.mk.inj (Option.some.inj h)
      right
      exact ⟨z - 247, by omega, by omega, e1.symm, e2.symm⟩
    · rw [if_neg h2] at h; cases h
theorem PIC.ar (h : PIC G ad cl σ) {z k n : Nat} (ha : am_ar z = some (k, n)) : z < 352 ∧ cl z = .inl (G k, n, .inl (sI σ z)) := by
  rcases am_ar_inv ha with ⟨h1, rfl⟩ | ⟨j, hj, rfl, rfl, rfl⟩
  · have := arrs_lt _ h1
    exact ⟨by dsimp only at this; omega, h.1.a h1⟩
  · exact ⟨by omega, h.2.1.2.2 j hj⟩
theorem PIC.arw (h : PIC G ad cl σ) {z k n : Nat} (ha : am_ar z = some (k, n)) (f : Nat → Int32) : PIC G ad (va_up cl z (.inl (G k, n, .inl f))) (uI σ (va_up (sI σ) z f)) := by
  obtain ⟨h1, h2, h3⟩ := h
  rcases am_ar_inv ha with ⟨hm, rfl⟩ | ⟨j, hj, rfl, rfl, rfl⟩
  · have hz : z < 246 := arrs_lt _ hm
    refine ⟨?_, ?_, ?_⟩
    · refine (h1.arr hm f).cg (fun q hq => ?_) (fun _ _ => rfl)
      exact va_up_ne _ _ (fun e => objs_arrs q hq _ hm e.symm)
    · have e1 : sI (uI σ (va_up (sI σ) z f)) 246 = sI σ 246 := va_up_ne _ _ (by omega)
      have e2 : (fun j => sI (uI σ (va_up (sI σ) z f)) (247 + j)) = fun j => sI σ (247 + j) := by funext j; exact va_up_ne _ _ (by omega)
      rw [e1, e2]
      exact h2.ext (fun _ _ _ => rfl) (fun y y1 _ => va_up_ne _ _ (by omega))
    · rw [va_up_ne _ _ (by omega)]; exact h3
  · refine ⟨?_, ?_, ?_⟩
    · refine XW.cg (h1.ext (fun z hz => va_up_ne _ _ (by omega))) (fun q hq => ?_) (fun q hq => ?_)
      · have := objs_lt q hq
        exact va_up_ne _ _ (by omega)
      · have := arrs_lt q hq
        exact va_up_ne _ _ (by omega)
    · have e1 : sI (uI σ (va_up (sI σ) (247 + j) f)) 246 = sI σ 246 := va_up_ne _ _ (by omega)
      rw [e1]
      refine ⟨h2.1, by rw [va_up_ne _ _ (by omega)]; exact h2.2.1, fun i hi => ?_⟩
      show va_up cl (247 + j) _ (247 + i) = .inl (G (arrK i), arrL i, .inl (va_up (sI σ) (247 + j) f (247 + i)))
      by_cases hij : i = j
      · subst hij
        rw [va_up_self, va_up_self]
      · rw [va_up_ne _ _ (by omega), va_up_ne _ _ (by omega)]
        exact h2.2.2 i hi
    · rw [va_up_ne _ _ (by omega)]; exact h3
theorem PIC.out (h : PIC G ad cl σ) (f : Nat → Int64) : PIC G ad (va_up cl 351 (.inl (G 3, 1, .inr (.inl f)))) (uO σ f) := by
  obtain ⟨h1, h2, h3⟩ := h
  refine ⟨h1.ext (fun z hz => va_up_ne _ _ (by omega)), h2.ext (fun _ _ _ => rfl) (fun z z1 z2 => va_up_ne _ _ (by omega)), va_up_self _ _ _⟩
end
