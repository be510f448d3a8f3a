/-! AN INSTRUCTION IS AS ITS STEP SAYS -/
def MFa (μ nL own rt : Nat) : Prop := mL μ = nL ∧ mO μ = own ∧ (mK μ == 9) = false ∧ (match rt with
  | 0 => mT μ = none
  | 1 => mT μ = some .int
  | _ => mT μ = some .boolean)
def HdOK (μ : Nat) : MHd → Prop
  | none => mH μ = []
  | some (f, t, h, i) => ∃ x r, tableOf (mH μ) = x :: r ∧ ∀ pc lo, f ≤ pc → pc < t → am_hd μ x pc (exN 0) lo = some (h, lo.filter (fun q => !(q.1 == i) && !(q.1 + 1 == i && q.2.category == 2)))
theorem okSt.c {v : MV} {st : List MV} (h : okM v) (hs : okSt st) : okSt (v :: st) := fun u hu => by
  rcases List.mem_cons.mp hu with rfl | hu
  · exact h
  · exact hs u hu
theorem okSt.h {v : MV} {st : List MV} (h : okSt (v :: st)) : okM v := h v List.mem_cons_self
theorem okSt.t {v : MV} {st : List MV} (h : okSt (v :: st)) : okSt st := fun u hu => h u (List.mem_cons_of_mem _ hu)
section
variable {D a μ nL own rt pc ln : Nat} {hd : MHd} {Q : MQ9} {k : Nat → MLo → List MV → MS → Prop} {ex : List Nat} {lo : MLo} {st : List MV} {σ : MS} {ins : Jvm.ClassFile.Instr}
theorem ok_push {v : MV} (K : WP D a μ (pc + ln) lo (v :: st) σ Q) (hv : WF σ → okLo lo → okM v) (hE : ∀ d ρ c (EQ9 : EQ), Ev d μ (pc + ln) (cvL lo) (cvV v :: cvS st) (cv ρ c σ) EQ9 → Ev d μ pc (cvL lo) (cvS st) (cv ρ c σ) EQ9) : WP D a μ pc lo st σ Q :=
  wp_free K (fun w1 w2 w3 => ⟨w1, w2, okSt.c (hv w1 w2) w3⟩) (fun _ _ _ d ρ c _ EQ9 hh => hE d ρ c EQ9 hh)
theorem ok_s2 {f : Int → Int → Int} (K : ∀ pc lo st σ, k pc lo st σ → WP D a μ pc lo st σ Q) (h : s2 f (fun st => k (pc + 1) lo st σ) st) (hop : ∀ {d : Nat} {lo : ALo} {x y : Int} {st : List Value} {σ : SS} {Q9 : EQ}, Ev d μ (pc + 1) lo (.int (iI (f x y)) :: st) σ Q9 → Ev d μ pc lo (.int (iI y) :: .int (iI x) :: st) σ Q9) : WP D a μ pc lo st σ Q := by
  unfold s2 at h
  split at h
  · rename_i y x r
    refine wp_free (K _ _ _ _ h) (fun w1 w2 w3 => ⟨w1, w2, okSt.c trivial w3.t.t⟩) (fun _ _ _ d ρ c _ EQ9 hh => ?_)
    show Ev _ _ _ _ (cvV (.inl y) :: cvV (.inl x) :: cvS r) _ _
    rw [cvV_i, cvV_i]
    exact hop hh
  · exact h.elim
theorem ok_s2w {f : Int → Int → Int} (hf : ∀ x y, Rg (f x y)) (K : ∀ pc lo st σ, k pc lo st σ → WP D a μ pc lo st σ Q) (h : s2w f (fun st => k (pc + 1) lo st σ) st) (hop : ∀ {d : Nat} {lo : ALo} {x y : Int} {st : List Value} {σ : SS} {Q9 : EQ}, Ev d μ (pc + 1) lo (.int (iI (f x y)) :: st) σ Q9 → Ev d μ pc lo (.int (iI y) :: .int (iI x) :: st) σ Q9) : WP D a μ pc lo st σ Q := by
  unfold s2w at h
  split at h
  · rename_i y x r
    refine wp_free (K _ _ _ _ h) (fun w1 w2 w3 => ⟨w1, w2, okSt.c (hf _ _) w3.t.t⟩) (fun _ _ _ d ρ c _ EQ9 hh => ?_)
    show Ev _ _ _ _ (cvV (.inl y) :: cvV (.inl x) :: cvS r) _ _
    rw [cvV_i, cvV_i]
    exact hop hh
  · exact h.elim
theorem ok_s2d {f : Int → Int → Int} (hf : ∀ {x y}, Rg x → Rg y → 0 < y → Rg (f x y)) (K : ∀ pc lo st σ, k pc lo st σ → WP D a μ pc lo st σ Q) (h : s2d f (fun st => k (pc + 1) lo st σ) st) (hop : ∀ {d : Nat} {lo : ALo} {x y : Int} {st : List Value} {σ : SS} {Q9 : EQ}, Rg x → Rg y → 0 < y → Ev d μ (pc + 1) lo (.int (iI (f x y)) :: st) σ Q9 → Ev d μ pc lo (.int (iI y) :: .int (iI x) :: st) σ Q9) : WP D a μ pc lo st σ Q := by
  unfold s2d at h
  split at h
  · rename_i y x r
    refine WP.wf (fun w1 w2 w3 => ?_)
    obtain ⟨h1, h⟩ := gd.e h w3.t.h
    obtain ⟨h2, h3, h⟩ := gd.e h w3.h
    refine wp_free (K _ _ _ _ h) (fun w1 w2 w3 => ⟨w1, w2, okSt.c (hf h1 h2 h3) w3.t.t⟩) (fun _ _ _ d ρ c _ EQ9 hh => ?_)
    show Ev _ _ _ _ (cvV (.inl y) :: cvV (.inl x) :: cvS r) _ _
    rw [cvV_i, cvV_i]
    exact hop h1 h2 h3 hh
  · exact h.elim
theorem ok_s2l {f : Int → Int → Int} (K : ∀ pc lo st σ, k pc lo st σ → WP D a μ pc lo st σ Q) (h : s2l f (fun st => k (pc + 1) lo st σ) st) (hop : ∀ {d : Nat} {lo : ALo} {x y : Int} {st : List Value} {σ : SS} {Q9 : EQ}, Ev d μ (pc + 1) lo (.long (iJ (f x y)) :: st) σ Q9 → Ev d μ pc lo (.long (iJ y) :: .long (iJ x) :: st) σ Q9) : WP D a μ pc lo st σ Q := by
  unfold s2l at h
  split at h
  · exact wp_free (K _ _ _ _ h) (fun w1 w2 w3 => ⟨w1, w2, okSt.c trivial w3.t.t⟩) (fun _ _ _ d ρ c _ EQ9 hh => hop hh)
  · exact h.elim
theorem ok_s2ld {f : Int → Int → Int} (K : ∀ pc lo st σ, k pc lo st σ → WP D a μ pc lo st σ Q) (h : s2ld f (fun st => k (pc + 1) lo st σ) st) (hop : ∀ {d : Nat} {lo : ALo} {x y : Int} {st : List Value} {σ : SS} {Q9 : EQ}, Rl x → Rl y → 0 < y → Ev d μ (pc + 1) lo (.long (iJ (f x y)) :: st) σ Q9 → Ev d μ pc lo (.long (iJ y) :: .long (iJ x) :: st) σ Q9) : WP D a μ pc lo st σ Q := by
  unfold s2ld at h
  split at h
  · obtain ⟨h1, h2, h3, h⟩ := h
    exact wp_free (K _ _ _ _ h) (fun w1 w2 w3 => ⟨w1, w2, okSt.c trivial w3.t.t⟩) (fun _ _ _ d ρ c _ EQ9 hh => hop h1 h2 h3 hh)
  · exact h.elim
theorem mbr_e {c : Jvm.ClassFile.Cond} {x y : Int} {T F : Prop} (hx : Rg x) (hy : Rg y) (h : mbr c x y T F) : (am_c c (iI x) (iI y) = true ∧ T) ∨ (¬ am_c c (iI x) (iI y) = true ∧ F) := by
  cases c
  case eq =>
    by_cases e : x = y
    · exact Or.inl ⟨decide_eq_true ((hx.eq hy).mpr e), h.1 e⟩
    · exact Or.inr ⟨fun z => e ((hx.eq hy).mp (of_decide_eq_true z)), h.2 e⟩
  case ne =>
    by_cases e : x = y
    · exact Or.inr ⟨fun z => (of_decide_eq_true z) ((hx.eq hy).mpr e), h.2 e⟩
    · exact Or.inl ⟨decide_eq_true (fun z => e ((hx.eq hy).mp z)), h.1 e⟩
  case lt =>
    by_cases e : x < y
    · exact Or.inl ⟨decide_eq_true ((hx.lt hy).mpr e), h.1 e⟩
    · exact Or.inr ⟨fun z => e ((hx.lt hy).mp (of_decide_eq_true z)), h.2 (by omega)⟩
  case ge =>
    by_cases e : y ≤ x
    · exact Or.inl ⟨decide_eq_true ((hy.le hx).mpr e), h.1 e⟩
    · exact Or.inr ⟨fun z => e ((hy.le hx).mp (of_decide_eq_true z)), h.2 (by omega)⟩
  case gt =>
    by_cases e : y < x
    · exact Or.inl ⟨decide_eq_true ((hy.lt hx).mpr e), h.1 e⟩
    · exact Or.inr ⟨fun z => e ((hy.lt hx).mp (of_decide_eq_true z)), h.2 (by omega)⟩
  case le =>
    by_cases e : x ≤ y
    · exact Or.inl ⟨decide_eq_true ((hx.le hy).mpr e), h.1 e⟩
    · exact Or.inr ⟨fun z => e ((hx.le hy).mp (of_decide_eq_true z)), h.2 (by omega)⟩
theorem ok_if {c : Jvm.ClassFile.Cond} {off : Int} {t : Nat} {x : Int ⊕ Int} {r : List MV} (K : ∀ pc lo st σ, k pc lo st σ → WP D a μ pc lo st σ Q) (hdc : decode (mC μ) pc = .ok (.ifCond c off, 3)) (hj : am_j pc off = some t) (h : gd x (mbr c (uv x) 0 (k t lo r σ) (k (pc + 3) lo r σ))) : WP D a μ pc lo (.inl x :: r) σ Q := by
  refine WP.wf (fun w1 w2 w3 => ?_)
  obtain ⟨h1, h⟩ := gd.e h w3.h
  rcases mbr_e h1 (by unfold Rg; omega) h with ⟨e, h⟩ | ⟨e, h⟩
  · refine wp_free (K _ _ _ _ h) (fun w1 w2 w3 => ⟨w1, w2, w3.t⟩) (fun _ _ _ d ρ c _ EQ9 hh => ?_)
    show Ev _ _ _ _ (cvV (.inl x) :: cvS r) _ _
    rw [cvV_i]
    exact ev_if0 hdc hj rfl (fun _ => hh) (fun z => absurd e z)
  · refine wp_free (K _ _ _ _ h) (fun w1 w2 w3 => ⟨w1, w2, w3.t⟩) (fun _ _ _ d ρ c _ EQ9 hh => ?_)
    show Ev _ _ _ _ (cvV (.inl x) :: cvS r) _ _
    rw [cvV_i]
    exact ev_if0 hdc hj rfl (fun z => absurd z e) (fun _ => hh)
theorem ok_ic {c : Jvm.ClassFile.Cond} {off : Int} {t : Nat} {x y : Int ⊕ Int} {r : List MV} (K : ∀ pc lo st σ, k pc lo st σ → WP D a μ pc lo st σ Q) (hdc : decode (mC μ) pc = .ok (.if_icmp c off, 3)) (hj : am_j pc off = some t) (h : gd x (gd y (mbr c (uv x) (uv y) (k t lo r σ) (k (pc + 3) lo r σ)))) : WP D a μ pc lo (.inl y :: .inl x :: r) σ Q := by
  refine WP.wf (fun w1 w2 w3 => ?_)
  obtain ⟨h1, h⟩ := gd.e h w3.t.h
  obtain ⟨h2, h⟩ := gd.e h w3.h
  rcases mbr_e h1 h2 h with ⟨e, h⟩ | ⟨e, h⟩
  · refine wp_free (K _ _ _ _ h) (fun w1 w2 w3 => ⟨w1, w2, w3.t.t⟩) (fun _ _ _ d ρ c _ EQ9 hh => ?_)
    show Ev _ _ _ _ (cvV (.inl y) :: cvV (.inl x) :: cvS r) _ _
    rw [cvV_i, cvV_i]
    exact ev_ic0 hdc hj rfl (fun _ => hh) (fun z => absurd e z)
  · refine wp_free (K _ _ _ _ h) (fun w1 w2 w3 => ⟨w1, w2, w3.t.t⟩) (fun _ _ _ d ρ c _ EQ9 hh => ?_)
    show Ev _ _ _ _ (cvV (.inl y) :: cvV (.inl x) :: cvS r) _ _
    rw [cvV_i, cvV_i]
    exact ev_ic0 hdc hj rfl (fun z => absurd z e) (fun _ => hh)
theorem swc_get {x : Int} {f : Nat → Prop} : ∀ (ts : List Nat) (v : Int) (i : Nat), swc x f v ts → x = v + i → ∀ t, ts[i]? = some t → f t
  | [], _, _, _, _, _, h => by simp at h
  | t :: ts, v, 0, h, e, t', ht => by
    simp at ht
    subst ht
    exact h.1 (by omega)
  | t :: ts, v, i + 1, h, e, t', ht => swc_get ts (v + 1) i h.2 (by omega) t' (by simpa using ht)
theorem jsOK_get {pc : Nat} : ∀ (os : List Int) (ts : List Nat) (i : Nat), jsOK pc os ts = true → i < ts.length → ∃ o t, os[i]? = some o ∧ ts[i]? = some t ∧ am_j pc o = some t
  | [], [], i, _, h => by simp at h
  | [], _ :: _, _, h, _ => by cases h
  | _ :: _, [], _, h, _ => by cases h
  | o :: os, t :: ts, 0, h, _ => by
    unfold jsOK at h
    rw [Bool.and_eq_true] at h
    exact ⟨o, t, rfl, rfl, of_decide_eq_true h.1⟩
  | o :: os, t :: ts, i + 1, h, hi => by
    unfold jsOK at h
    rw [Bool.and_eq_true] at h
    obtain ⟨o', t', h1, h2, h3⟩ := jsOK_get os ts i h.2 (by simpa using hi)
    exact ⟨o', t', by simpa using h1, by simpa using h2, h3⟩
theorem ok_sw {dd low high : Int} {offs : Array Int} {t : Nat} {ts : List Nat} {x : Int ⊕ Int} {r : List MV} (K : ∀ pc lo st σ, k pc lo st σ → WP D a μ pc lo st σ Q) (hdc : decode (mC μ) pc = .ok (.tableswitch dd low high offs, ln)) (hj : am_j pc dd = some t) (hjs : jsOK pc offs.toList ts = true) (hn : high - low + 1 = ts.length) (h : gd x (((uv x < low ∨ high < uv x) → k t lo r σ) ∧ swc (uv x) (fun t => k t lo r σ) low ts)) : WP D a μ pc lo (.inl x :: r) σ Q := by
  refine WP.wf (fun w1 w2 w3 => ?_)
  obtain ⟨h1, h2, h3⟩ := gd.e h w3.h
  by_cases e : uv x < low ∨ high < uv x
  · refine wp_free (K _ _ _ _ (h2 e)) (fun w1 w2 w3 => ⟨w1, w2, w3.t⟩) (fun _ _ _ d ρ c _ EQ9 hh => ?_)
    show Ev _ _ _ _ (cvV (.inl x) :: cvS r) _ _
    rw [cvV_i]
    exact ev_tout hdc (by rw [h1.to]; exact e) hj hh
  · obtain ⟨o, t', e1, e2, e3⟩ := jsOK_get offs.toList ts (uv x - low).toNat hjs (by omega)
    have hk := swc_get ts low (uv x - low).toNat h3 (by omega) t' e2
    refine wp_free (K _ _ _ _ hk) (fun w1 w2 w3 => ⟨w1, w2, w3.t⟩) (fun _ _ _ d ρ c _ EQ9 hh => ?_)
    show Ev _ _ _ _ (cvV (.inl x) :: cvS r) _ _
    rw [cvV_i]
    exact ev_tin hdc (by rw [h1.to]; omega) (by rw [h1.to]; omega) (off := o) (by rw [h1.to, ← Array.getElem?_toList]; exact e1) e3 hh
/-! ends -/
theorem ok_ret {o : MO} (hq : Q o σ) (ho : WF σ → okLo lo → okSt st → okO o) (k0 s0 : Nat) (hk : k0 ≤ tk a o) (hs : s0 ≤ 6 * tk a o) (hE : ∀ d ρ c (EQ9 : EQ), D ≤ d → EQ9 (cvO o) (cv ρ c σ) k0 s0 → Ev d μ pc (cvL lo) (cvS st) (cv ρ c σ) EQ9) : WP D a μ pc lo st σ Q := fun w1 w2 w3 =>
  ⟨o, σ, hq, w1, ho w1 w2 w3, fun d ρ c hd hc => hE d ρ c _ hd ⟨c, rfl, rfl, hc, by omega, by omega⟩⟩
/-! calls -/
theorem mci_cv (v : MV) : cvV (mci v) = cvV v := by rcases v with (x | x) | (x | n) <;> rfl
theorem mcat_12 (v : MV) : mcat v = 1 ∨ mcat v = 2 := by rcases v with (x | x) | (x | n) <;> simp [mcat]
theorem margs_cv : ∀ (av : List MV) (i : Nat), cvL (margs i av) = lv_args i (cvS av)
  | [], _ => rfl
  | v :: av, i => by
    have ih := margs_cv av
    unfold margs lv_args
    show (i, cvV (mci v)) :: cvL (margs _ av) = _
    rw [mci_cv, ih]
    show (i, cvV v) :: _ = (i, cvV v) :: lv_args (if (cvV v).category = 2 then i + 2 else i + 1) (cvS av)
    rw [cvV_cat]
    congr 2
    rcases v with (x | x) | (x | n) <;> rfl
theorem margs_ge : ∀ (av : List MV) (i : Nat), ∀ q ∈ margs i av, i ≤ q.1
  | [], _, _, h => absurd h List.not_mem_nil
  | v :: av, i, q, h => by
    unfold margs at h
    rcases List.mem_cons.mp h with rfl | h
    · exact Nat.le_refl _
    · have := margs_ge av _ q h
      rcases mcat_12 v with e | e <;> rw [e] at this
      · have this : i + 1 ≤ q.1 := this
        omega
      · have this : i + 2 ≤ q.1 := this
        omega
theorem margs_ok : ∀ (av : List MV) (i : Nat), okLo (margs i av)
  | [], _ => ⟨List.nodup_nil, fun _ h => absurd h List.not_mem_nil⟩
  | v :: av, i => by
    have ih := margs_ok av (match mcat v with
      | 2 => i + 2
      | _ => i + 1)
    refine ⟨List.nodup_cons.mpr ⟨fun h => ?_, ih.1⟩, fun q h => ?_⟩
    · obtain ⟨q, hq, e⟩ := List.mem_map.mp h
      have := margs_ge av _ q hq
      rcases mcat_12 v with e2 | e2 <;> rw [e2] at this
      · have this : i + 1 ≤ q.1 := this
        omega
      · have this : i + 2 ≤ q.1 := this
        omega
    · unfold margs at h
      rcases List.mem_cons.mp h with rfl | h
      · rcases v with (x | x) | (x | n) <;> exact trivial
      · exact ih.2 q h
theorem lsz_ok : ∀ av : List MV, (lg_sl (cvS av)).length = lsz av
  | [] => rfl
  | v :: av => by
    have ih := lsz_ok av
    unfold lg_sl at ih ⊢
    show ((if (cvV v).category = 2 then [Slot.val (cvV v), Slot.second] else [Slot.val (cvV v)]) ++ List.flatMap _ (cvS av)).length = mcat v + lsz av
    rw [List.length_append, ih, cvV_cat]
    rcases mcat_12 v with e | e <;> rw [e] <;> rfl
theorem scat_ok : ∀ st : List MV, ((cvS st).map fun v => v.category).sum = scat st
  | [] => rfl
  | v :: st => by
    show (cvV v).category + ((cvS st).map fun v => v.category).sum = _
    rw [scat_ok st, cvV_cat]
    rfl
/-- what comes behind a call -/
theorem ok_call {av rest : List MV} {ν D' : Nat} {Qc : MQ9} (hO : mO μ = own) (hdc : decode (mC μ) pc = .ok (ins, 3)) (hc : CM own ins (cvS st) ν (cvS av) (cvS rest)) (hν : ¬ ν ≤ 15) (hL : lsz av ≤ mL ν) (hD : 1 ≤ D) (hD' : ∀ d, D ≤ d → D' ≤ d - 1) (hr : okSt st → okSt rest)
    (hW : WP D' 0 ν 0 (margs 0 av) [] σ Qc)
    (hv : ∀ σ1, Qc (.inl none) σ1 → WP D a μ (pc + 3) lo rest σ1 Q) (hi : ∀ x σ1, Qc (.inl (some x)) σ1 → WP D a μ (pc + 3) lo (vw x :: rest) σ1 Q)
    (ht : ∀ E σ1, Qc (.inr E) σ1 → (mH μ = [] ∧ Q (.inr E) σ1) ∨ ∃ x r h i, tableOf (mH μ) = x :: r ∧ (∀ lo', am_hd μ x pc E lo' = some (h, lo'.filter (fun q => !(q.1 == i) && !(q.1 + 1 == i && q.2.category == 2)))) ∧ 1 ≤ a ∧ WP D (a - 1) μ h (mfl i lo) [] σ1 Q) : WP D a μ pc lo st σ Q := fun w1 w2 w3 => by
  obtain ⟨o, σ1, hq, w4, w5, hE⟩ := hW w1 (margs_ok av 0) (fun _ h => absurd h List.not_mem_nil)
  have call : ∀ (d : Nat) (ρ : MR9) (c : Nat → Nat) (EQ9 : EQ), D ≤ d → CK c → (∀ o1 s k n, EvQ ρ c 0 o σ1 o1 s k n → EvC d μ pc (cvL lo) (cvS rest) EQ9 o1 s k n) → Ev d μ pc (cvL lo) (cvS st) (cv ρ c σ) EQ9 := by
    intro d ρ c EQ9 hd hck hcont
    have h0 := hE (d - 1) ρ c (hD' d hd) hck
    rw [margs_cv] at h0
    exact ev_call hO hdc hc (by omega) hν (by rw [lsz_ok]; exact hL) (by rw [← margs_cv]; exact cvL_kn (margs_ok av 0)) h0 hcont
  match o, hq, w5, call with
  | .inl none, hq, _, call =>
    obtain ⟨o2, σ2, hq2, w6, w7, hE2⟩ := hv σ1 hq w4 w2 (hr w3)
    refine ⟨o2, σ2, hq2, w6, w7, fun d ρ c hd hck => call d ρ c _ hd hck (fun o1 s k n hh => ?_)⟩
    obtain ⟨c', rfl, rfl, e3, e4, e5⟩ := hh
    refine evc_v (Ev.mono (hE2 d ρ c' hd e3) (fun o3 s3 k3 n3 h3 => ?_))
    obtain ⟨c2, f1, f2, f3, f4, f5⟩ := h3
    have e4 : 16 * k + Ph c ≤ Ph c' + 16 * 0 := e4
    have e5 : n + 2 * Ph c ≤ 2 * Ph c' + 6 * 0 := e5
    exact ⟨c2, f1, f2, f3, by omega, by omega⟩
  | .inl (some x), hq, w5, call =>
    obtain ⟨o2, σ2, hq2, w6, w7, hE2⟩ := hi x σ1 hq w4 w2 (okSt.c w5 (hr w3))
    refine ⟨o2, σ2, hq2, w6, w7, fun d ρ c hd hck => call d ρ c _ hd hck (fun o1 s k n hh => ?_)⟩
    obtain ⟨c', rfl, rfl, e3, e4, e5⟩ := hh
    refine evc_i (Ev.mono (hE2 d ρ c' hd e3) (fun o3 s3 k3 n3 h3 => ?_))
    obtain ⟨c2, f1, f2, f3, f4, f5⟩ := h3
    have e4 : 16 * k + Ph c ≤ Ph c' + 16 * 0 := e4
    have e5 : n + 2 * Ph c ≤ 2 * Ph c' + 6 * 0 := e5
    exact ⟨c2, f1, f2, f3, by omega, by omega⟩
  | .inr E, hq, _, call =>
    rcases ht E σ1 hq with ⟨hm, hq⟩ | ⟨x, r, h, i, g1, g2, g3, g4⟩
    · refine ⟨.inr E, σ1, hq, w4, trivial, fun d ρ c hd hck => call d ρ c _ hd hck (fun o1 s k n hh => ?_)⟩
      obtain ⟨c', rfl, rfl, e3, e4, e5⟩ := hh
      have e4 : 16 * k + Ph c ≤ Ph c' + 16 * (0 + 1) := e4
      have e5 : n + 2 * Ph c ≤ 2 * Ph c' + 6 * (0 + 1) := e5
      exact evc_t hm ⟨c', rfl, rfl, e3, by show _ ≤ _ + 16 * (a + 1); omega, by show _ ≤ _ + 6 * (a + 1); omega⟩
    · obtain ⟨o2, σ2, hq2, w6, w7, hE2⟩ := g4 w4 ⟨((mfl_sub i lo).map Prod.fst).nodup w2.1, fun q hq => w2.2 q ((mfl_sub i lo).subset hq)⟩ (fun _ h => absurd h List.not_mem_nil)
      refine ⟨o2, σ2, hq2, w6, w7, fun d ρ c hd hck => call d ρ c _ hd hck (fun o1 s k n hh => ?_)⟩
      obtain ⟨c', rfl, rfl, e3, e4, e5⟩ := hh
      have e4 : 16 * k + Ph c ≤ Ph c' + 16 * (0 + 1) := e4
      have e5 : n + 2 * Ph c ≤ 2 * Ph c' + 6 * (0 + 1) := e5
      have h2 := hE2 d ρ c' hd e3
      rw [mfl_eq] at h2
      refine evc_h g1 (g2 (cvL lo)) (Ev.mono h2 (fun o3 s3 k3 n3 h3 => ?_))
      obtain ⟨c2, f1, f2, f3, f4, f5⟩ := h3
      refine ⟨c2, f1, f2, f3, ?_, ?_⟩
      · have : tk (a - 1) o2 + 1 = tk a o2 := by cases o2 <;> simp only [tk] <;> omega
        omega
      · have : tk (a - 1) o2 + 1 = tk a o2 := by cases o2 <;> simp only [tk] <;> omega
        omega
end
