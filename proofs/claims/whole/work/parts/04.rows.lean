/-! ROWS OVER THE POOL -/
abbrev rmD (d mc ms : Nat) : Room := { frames := d, cells := mc, slots := ms, locals := 60 * d }
/-- what stands throughout a method's body -/
def Cx (p : Program) (s : State) (m : MethodId) (args : Array Value) (meth : Method) (c : Code) (cc : ByteArray) (nL : Nat) (own : String) (D : va_G) (G : Nat → ClassId) (t : Nat → Nat) (A : Nat → Prop) : Prop :=
  p.tables.exec = Jvm.exec ∧ c.code = cc ∧ c.maxLocals = nL ∧ s.vm.findClass own = some m.cls ∧ (∀ w ∈ tb, w.before args s = true) ∧ va_K D vwCl (tyG G) s ∧ (∀ q, s.heap.size ≤ q → A q) ∧ SF t A s s.heap ∧ NS t s ∧ meth.locks = false
/-- the world now -/
def Wd (D : va_G) (A : Nat → Prop) (s : State) (H : Heap) (locs : List Loc) (N : Nat) (ad : Nat → Nat) (cl : Nat → va_E) : Prop :=
  va_P D vwCl (wd N ad cl) H ∧ va_D A (wd N ad cl) ∧ va_S A s.heap H locs
theorem Wd.congr {D : va_G} {A : Nat → Prop} {s : State} {H : Heap} {locs : List Loc} {N : Nat} {ad ad' : Nat → Nat} {cl cl' : Nat → va_E} (w : Wd D A s H locs N ad cl) (h1 : ∀ i, i < N → ad' i = ad i) (h2 : ∀ i, i < N → cl' i = cl i) : Wd D A s H locs N ad' cl' := by
  unfold Wd
  rw [wd_congr h1 h2]
  exact w
theorem Wd.swap {D : va_G} {A : Nat → Prop} {s : State} {H : Heap} {locs : List Loc} {N j : Nat} {ad : Nat → Nat} {cl : Nat → va_E} (hj : j < N) (w : Wd D A s H locs (N + 1) ad cl) : Wd D A s H locs N (va_up ad j (ad N)) (va_up cl j (cl N)) := ⟨wd_swapP hj w.1, wd_swapD hj w.2.1, w.2.2⟩
/-- a callee that is called by a receiver -/
def Yv (y : MethodName) (cc : ByteArray) (nL : Nat) (ret : Option FieldType) (n : Nat) : Prop :=
  Cond.code y cc nL ret ∈ tb ∧ Cond.selects y.cls y y ∈ tb ∧ Cond.instanceMethod y ∈ tb ∧ Cond.initialized y.cls ∈ tb ∧ y.cls ≠ "java/lang/invoke/MethodHandle" ∧ y.cls ≠ "java/lang/invoke/VarHandle" ∧ (parseMethodDescriptor y.desc).map (fun d => d.parameters.length) = some n
/-- a static callee -/
def Ys (y : MethodName) (cc : ByteArray) (nL : Nat) (ret : Option FieldType) (n : Nat) : Prop :=
  Cond.code y cc nL ret ∈ tb ∧ Cond.static y ∈ tb ∧ Cond.initialized y.cls ∈ tb ∧ y.cls ≠ "java/lang/invoke/MethodHandle" ∧ y.cls ≠ "java/lang/invoke/VarHandle" ∧ (parseMethodDescriptor y.desc).map (fun d => d.parameters.length) = some n
/-- a constructor -/
def Yi (y : MethodName) (cc : ByteArray) (nL : Nat) (n : Nat) : Prop :=
  Cond.code y cc nL none ∈ tb ∧ Cond.instanceMethod y ∈ tb ∧ Cond.initialized y.cls ∈ tb ∧ y.name = "<init>" ∧ y.cls ≠ "java/lang/invoke/MethodHandle" ∧ y.cls ≠ "java/lang/invoke/VarHandle" ∧ (parseMethodDescriptor y.desc).map (fun d => d.parameters.length) = some n
theorem arr_eq {D : va_G} {G : Nat → ClassId} {s : State} {cA : ClassId} {ty : FieldType} {k : Nat} (h : va_K D vwCl (tyG G ++ [(cA, ty)]) s) (hk : (tyG G)[k]? = some (G k, ty)) (hp : ∀ C, ty ≠ .object C) : cA = G k := by
  have h1 := (h.2 5 (cA, ty) rfl).2
  have h2 := (h.2 k (G k, ty) (by rw [List.getElem?_append_left (List.getElem?_eq_some_iff.mp hk).1]; exact hk)).2
  cases ty <;> first | exact Option.some.inj (Eq.trans (Eq.symm h1) h2) | exact absurd rfl (hp _)
section
variable {p : Program} {l : Launch} {e : Env} {R : Room} {s : State} {m : MethodId} {args : Array Value} {below : List Frame} {meth : Method} {c : Code} {H : Heap} {locs : List Loc} {cells slots : Nat} {Q : State → Prop}
variable {cc : ByteArray} {nL pc : Nat} {own : String} {ls : Array Slot} {rest : List Value} {D : va_G} {G : Nat → ClassId} {t : Nat → Nat} {A : Nat → Prop} {N : Nat} {ad : Nat → Nat} {cl : Nat → va_E}
theorem g_get (X : Cx p s m args meth c cc nL own D G t A) (w : Wd D A s H locs N ad cl) (i : Nat) {a : Nat} (ha : ad i = a) (hi : i < N) {ci Nf : Nat} {C : String} {T : u_T} {ty : Nat → FieldType} {fs : List Value} (hc : cl i = .inr (ci, fs)) (kc : Kc ci C T Nf ty) (k : Nat) (hk : k < Nf) (hT : (T k).1 = C) {idx : Nat} (hl : Cond.fieldLink own idx C (T k).2.1 (T k).2.2.1 ∈ tb) {v : Value} (hv : fs[k]? = some v) (hdg : decode cc pc = .ok (.getfield idx, 3))
    (kk : W p l e R s m args below meth c H locs cells slots Q (F0 m (pc + 3) ls (v :: rest))) : W p l e R s m args below meth c H locs cells slots Q (F0 m pc ls (.ref a :: rest)) := by
  subst ha
  obtain ⟨hx, hb, hml, hown, hts, hK, hA, hZ, hN, hlo⟩ := X
  exact va_get (D := D) (C := C) (T := T) (N := Nf) hx hb hts kc.2.1 hown hK w.1 i (by rw [wd_get hi, hc]) kc.1 k hk (hts _ hl) (fun _ h => by rw [hT] at h; exact h) hv hdg kk
theorem g_getN (X : Cx p s m args meth c cc nL own D G t A) (w : Wd D A s H locs N ad cl) (i : Nat) {a : Nat} (ha : ad i = a) (hi : i < N) {ci Nf : Nat} {C host : String} {T : u_T} {ty : Nat → FieldType} {fs : List Value} (hc : cl i = .inr (ci, fs)) (kc : Kc ci C T Nf ty) (k : Nat) (hk : k < Nf) (hT : (T k).1 = C) {idx : Nat} (hl : Cond.fieldLinkNest own idx C (T k).2.1 (T k).2.2.1 host ∈ tables_1) {v : Value} (hv : fs[k]? = some v) (hdg : decode cc pc = .ok (.getfield idx, 3))
    (kk : W p l e R s m args below meth c H locs cells slots Q (F0 m (pc + 3) ls (v :: rest))) : W p l e R s m args below meth c H locs cells slots Q (F0 m pc ls (.ref a :: rest)) := by
  subst ha
  obtain ⟨hx, hb, hml, hown, hts, hK, hA, hZ, hN, hlo⟩ := X
  exact va_getN (D := D) (C := C) (T := T) (N := Nf) hx hb hts kc.2.1 hown hK w.1 i (by rw [wd_get hi, hc]) kc.1 k hk (va_Nw.use rfl (hN.1 _ hl rfl)) (fun _ h => by rw [hT] at h; exact h) hv hdg kk
theorem g_put (X : Cx p s m args meth c cc nL own D G t A) (w : Wd D A s H locs N ad cl) (i : Nat) {a : Nat} (ha : ad i = a) (hi : i < N) {ci Nf : Nat} {C : String} {T : u_T} {ty : Nat → FieldType} {fs : List Value} (hc : cl i = .inr (ci, fs)) (kc : Kc ci C T Nf ty) (k : Nat) (hk : k < Nf) (hT : (T k).1 = C) {idx : Nat} (hl : Cond.fieldLink own idx C (T k).2.1 (T k).2.2.1 ∈ tb) (hfin : (T k).2.2.2 = false) {v : Value} (hn : narrow (ty k) v = v) (hfit : fits (ty k) v = true) (hfl : k < fs.length) (hdg : decode cc pc = .ok (.putfield idx, 3))
    (kk : ∀ (H : Heap) (locs : List Loc), Wd D A s H locs N ad (va_up cl i (.inr (ci, fs.set k v))) → W p l e R s m args below meth c H locs cells slots Q (F0 m (pc + 3) ls rest)) : W p l e R s m args below meth c H locs cells slots Q (F0 m pc ls (v :: .ref a :: rest)) := by
  subst ha
  obtain ⟨hx, hb, hml, hown, hts, hK, hA, hZ, hN, hlo⟩ := X
  refine va_put (D := D) (C := C) (T := T) (N := Nf) hx hb hts kc.2.1 ty kc.2.2.1 kc.2.2.2 hown hK w.1 w.2.1 w.2.2 i (by rw [wd_get hi, hc]) kc.1 k hk (hts _ hl) (fun _ h => by rw [hT] at h; exact h) hfin (kc.2.2.1 k hk) hn hfit hfl hdg (fun H1 l1 h1 h2 h3 => kk H1 l1 ⟨?_, ?_, h3⟩)
  · rw [wd_set hi] at h1; exact h1
  · rw [wd_set hi] at h2; exact h2
theorem g_putN (X : Cx p s m args meth c cc nL own D G t A) (w : Wd D A s H locs N ad cl) (i : Nat) {a : Nat} (ha : ad i = a) (hi : i < N) {ci Nf : Nat} {C host : String} {T : u_T} {ty : Nat → FieldType} {fs : List Value} (hc : cl i = .inr (ci, fs)) (kc : Kc ci C T Nf ty) (k : Nat) (hk : k < Nf) (hT : (T k).1 = C) {idx : Nat} (hl : Cond.fieldLinkNest own idx C (T k).2.1 (T k).2.2.1 host ∈ tables_1) (hfin : (T k).2.2.2 = false) {v : Value} (hn : narrow (ty k) v = v) (hfit : fits (ty k) v = true) (hfl : k < fs.length) (hdg : decode cc pc = .ok (.putfield idx, 3))
    (kk : ∀ (H : Heap) (locs : List Loc), Wd D A s H locs N ad (va_up cl i (.inr (ci, fs.set k v))) → W p l e R s m args below meth c H locs cells slots Q (F0 m (pc + 3) ls rest)) : W p l e R s m args below meth c H locs cells slots Q (F0 m pc ls (v :: .ref a :: rest)) := by
  subst ha
  obtain ⟨hx, hb, hml, hown, hts, hK, hA, hZ, hN, hlo⟩ := X
  refine va_putN (D := D) (C := C) (T := T) (N := Nf) hx hb hts kc.2.1 ty kc.2.2.1 kc.2.2.2 hown hK w.1 w.2.1 w.2.2 i (by rw [wd_get hi, hc]) kc.1 k hk (va_Nw.use rfl (hN.1 _ hl rfl)) (fun _ h => by rw [hT] at h; exact h) hfin (kc.2.2.1 k hk) hn hfit hfl hdg (fun H1 l1 h1 h2 h3 => kk H1 l1 ⟨?_, ?_, h3⟩)
  · rw [wd_set hi] at h1; exact h1
  · rw [wd_set hi] at h2; exact h2
theorem g_putF (X : Cx p s m args meth c cc nL own D G t A) (w : Wd D A s H locs N ad cl) (i : Nat) {a : Nat} (ha : ad i = a) (hi : i < N) {ci Nf : Nat} {C : String} {T : u_T} {ty : Nat → FieldType} {fs : List Value} (hc : cl i = .inr (ci, fs)) (kc : Kc ci C T Nf ty) (k : Nat) (hk : k < Nf) (hT : (T k).1 = C) (hTo : (T k).1 = own) {idx : Nat} (hl : Cond.fieldLink own idx C (T k).2.1 (T k).2.2.1 ∈ tb) (hfin : (T k).2.2.2 = true) (hin : meth.name = "<init>") {v : Value} (hn : narrow (ty k) v = v) (hfit : fits (ty k) v = true) (hfl : k < fs.length) (hdg : decode cc pc = .ok (.putfield idx, 3))
    (kk : ∀ (H : Heap) (locs : List Loc), Wd D A s H locs N ad (va_up cl i (.inr (ci, fs.set k v))) → W p l e R s m args below meth c H locs cells slots Q (F0 m (pc + 3) ls rest)) : W p l e R s m args below meth c H locs cells slots Q (F0 m pc ls (v :: .ref a :: rest)) := by
  subst ha
  obtain ⟨hx, hb, hml, hown, hts, hK, hA, hZ, hN, hlo⟩ := X
  refine va_putF (D := D) (C := C) (T := T) (N := Nf) hx hb hts kc.2.1 ty kc.2.2.1 kc.2.2.2 hown hK w.1 w.2.1 w.2.2 i (by rw [wd_get hi, hc]) kc.1 k hk (hts _ hl) (fun _ h => by rw [hT] at h; exact h) hfin hin hTo (kc.2.2.1 k hk) hn hfit hfl hdg (fun H1 l1 h1 h2 h3 => kk H1 l1 ⟨?_, ?_, h3⟩)
  · rw [wd_set hi] at h1; exact h1
  · rw [wd_set hi] at h2; exact h2
theorem g_iald (X : Cx p s m args meth c cc nL own D G t A) (w : Wd D A s H locs N ad cl) (i : Nat) {a : Nat} (ha : ad i = a) (hi : i < N) {n : Nat} {f : Nat → Int32} (hc : cl i = .inl (G 0, n, .inl f)) {x : Int32} (hin : vp_in x n) (hdg : decode cc pc = .ok (.iaload, 1))
    (kk : W p l e R s m args below meth c H locs cells slots Q (F0 m (pc + 1) ls (.int (f x.toNatClampNeg) :: rest))) : W p l e R s m args below meth c H locs cells slots Q (F0 m pc ls (.int x :: .ref a :: rest)) := by
  subst ha
  obtain ⟨hx, hb, hml, hown, hts, hK, hA, hZ, hN, hlo⟩ := X
  exact va_iald hx hb hK w.1 i 0 (by rw [wd_get hi, hc]) rfl hin hdg kk
theorem g_bald (X : Cx p s m args meth c cc nL own D G t A) (w : Wd D A s H locs N ad cl) (i : Nat) {a : Nat} (ha : ad i = a) (hi : i < N) {n : Nat} {f : Nat → Int32} (hc : cl i = .inl (G 1, n, .inl f)) {x : Int32} (hin : vp_in x n) (hdg : decode cc pc = .ok (.baload, 1))
    (kk : W p l e R s m args below meth c H locs cells slots Q (F0 m (pc + 1) ls (.int (f x.toNatClampNeg) :: rest))) : W p l e R s m args below meth c H locs cells slots Q (F0 m pc ls (.int x :: .ref a :: rest)) := by
  subst ha
  obtain ⟨hx, hb, hml, hown, hts, hK, hA, hZ, hN, hlo⟩ := X
  exact va_bald hx hb hK w.1 i 1 (by rw [wd_get hi, hc]) rfl hin hdg kk
theorem g_iast (X : Cx p s m args meth c cc nL own D G t A) (w : Wd D A s H locs N ad cl) (i : Nat) {a : Nat} (ha : ad i = a) (hi : i < N) {n : Nat} {f : Nat → Int32} (hc : cl i = .inl (G 0, n, .inl f)) {x y : Int32} (hin : vp_in x n) (hdg : decode cc pc = .ok (.iastore, 1))
    (kk : ∀ (H : Heap) (locs : List Loc), Wd D A s H locs N ad (va_up cl i (.inl (G 0, n, .inl (upd f x.toNatClampNeg y)))) → W p l e R s m args below meth c H locs cells slots Q (F0 m (pc + 1) ls rest)) : W p l e R s m args below meth c H locs cells slots Q (F0 m pc ls (.int y :: .int x :: .ref a :: rest)) := by
  subst ha
  obtain ⟨hx, hb, hml, hown, hts, hK, hA, hZ, hN, hlo⟩ := X
  refine va_iast hx hb hK w.1 w.2.1 w.2.2 i 0 (by rw [wd_get hi, hc]) rfl hin hdg (fun H1 l1 h1 h2 h3 => kk H1 l1 ⟨?_, ?_, h3⟩)
  · rw [wd_set hi] at h1; exact h1
  · rw [wd_set hi] at h2; exact h2
theorem g_alen (X : Cx p s m args meth c cc nL own D G t A) (w : Wd D A s H locs N ad cl) (i : Nat) {a : Nat} (ha : ad i = a) (hi : i < N) {j : Nat} {x : vp_A} {ty : FieldType} (hc : cl i = .inl (G j, x)) (hj : (tyG G)[j]? = some (G j, ty)) (hdg : decode cc pc = .ok (.arraylength, 1))
    (kk : W p l e R s m args below meth c H locs cells slots Q (F0 m (pc + 1) ls (.int (nI x.1) :: rest))) : W p l e R s m args below meth c H locs cells slots Q (F0 m pc ls (.ref a :: rest)) := by
  subst ha
  obtain ⟨hx, hb, hml, hown, hts, hK, hA, hZ, hN, hlo⟩ := X
  exact va_alen hx hb hK w.1 i j (by rw [wd_get hi, hc]) hj rfl hdg kk
theorem g_new (X : Cx p s m args meth c cc nL own D G t A) (w : Wd D A s H locs N ad cl) {ci Nf : Nat} {C : String} {T : u_T} {ty : Nat → FieldType} (kc : Kc ci C T Nf ty) {idx : Nat} (hl : Cond.classLink own idx C ∈ tb) (hi : Cond.instantiable C Nf ∈ tb) (hn : Cond.initialized C ∈ tb) {fs : List Value} (hfs : ∀ j, j < Nf → defaultValue (ty j) = vp_V fs j) (hcells : cells + 1 ≤ R.cells) (hslots : slots + Nf ≤ R.slots) (hdg : decode cc pc = .ok (.new idx, 3))
    (kk : ∀ (q : Nat) (H : Heap), Wd D A s H locs (N + 1) (va_up ad N q) (va_up cl N (.inr (ci, fs))) → W p l e R s m args below meth c H locs (cells + 1) (slots + Nf) Q (F0 m (pc + 3) ls (.ref q :: rest))) : W p l e R s m args below meth c H locs cells slots Q (F0 m pc ls rest) := by
  obtain ⟨hx, hb, hml, hown, hts, hK, hA, hZ, hN, hlo⟩ := X
  refine va_new (D := D) (C := C) (T := T) (N := Nf) hx hb hts kc.2.1 ty kc.2.2.1 hown (hts _ hl) (hts _ hi) (hts _ hn) hK w.1 w.2.1 w.2.2 hA kc.1 hfs hcells hslots hdg (fun q H1 h1 h2 h3 => kk q H1 ⟨?_, ?_, h3⟩)
  · rw [wd_push] at h1; exact h1
  · rw [wd_push] at h2; exact h2
theorem g_newI (X : Cx p s m args meth c cc nL own D G t A) (w : Wd D A s H locs N ad cl) (harr : Cond.arrayClass .int ∈ tb) {x : Int32} {n : Nat} (hx0 : ¬ x < 0) (hxn : x.toNatClampNeg = n) (hby : n * 4 ≤ 536870912) (hcells : cells + 1 ≤ R.cells) (hslots : slots + n ≤ R.slots) (hdg : decode cc pc = .ok (.newarray .int, 2))
    (kk : ∀ (q : Nat) (H : Heap), Wd D A s H locs (N + 1) (va_up ad N q) (va_up cl N (.inl (G 0, n, .inl (fun _ => 0)))) → W p l e R s m args below meth c H locs (cells + 1) (slots + n) Q (F0 m (pc + 2) ls (.ref q :: rest))) : W p l e R s m args below meth c H locs cells slots Q (F0 m pc ls (.int x :: rest)) := by
  obtain ⟨hx, hb, hml, hown, hts, hK, hA, hZ, hN, hlo⟩ := X
  refine va_newa (D := D) (atype := .int) (a0 := (n, .inl (fun _ => 0))) hx hb (hts _ harr) rfl hK w.1 w.2.1 w.2.2 hA (fun cA => rfl) hx0 hxn hby hcells hslots hdg (fun q cA H1 hK1 h1 h2 h3 => ?_)
  have e1 : cA = G 0 := arr_eq hK1 rfl (fun C h => by cases h)
  subst e1
  refine kk q H1 ⟨?_, ?_, h3⟩
  · rw [wd_push] at h1; exact h1
  · rw [wd_push] at h2; exact h2
theorem g_newQ (X : Cx p s m args meth c cc nL own D G t A) (w : Wd D A s H locs N ad cl) {idx : Nat} (hl : Cond.classLink own idx "TypeRoom$Row" ∈ tb) {x : Int32} {n : Nat} (hx0 : ¬ x < 0) (hxn : x.toNatClampNeg = n) (hby : n * 4 ≤ 536870912) (hcells : cells + 1 ≤ R.cells) (hslots : slots + n ≤ R.slots) (hdg : decode cc pc = .ok (.anewarray idx, 3))
    (kk : ∀ (q : Nat) (H : Heap), Wd D A s H locs (N + 1) (va_up ad N q) (va_up cl N (.inl (G 4, n, .inr (.inr (.inr (.inr (fun _ => none))))))) → W p l e R s m args below meth c H locs (cells + 1) (slots + n) Q (F0 m (pc + 3) ls (.ref q :: rest))) : W p l e R s m args below meth c H locs cells slots Q (F0 m pc ls (.int x :: rest)) := by
  obtain ⟨hx, hb, hml, hown, hts, hK, hA, hZ, hN, hlo⟩ := X
  refine va_newq (D := D) hx hb hown (hts _ hl) hN.2.1 hK w.1 w.2.1 w.2.2 hA hx0 hxn hby hcells hslots hdg (fun q cA H1 hK1 h1 h2 h3 => ?_)
  have e1 : cA = G 4 := by
    obtain ⟨_, _, _, _, _, h5⟩ := (hK1.2 5 (cA, .object "TypeRoom$Row") rfl).2
    obtain ⟨_, _, _, _, _, h6⟩ := (hK1.2 4 (G 4, .object "TypeRoom$Row") rfl).2
    exact Option.some.inj (h5.symm.trans h6)
  subst e1
  refine kk q H1 ⟨?_, ?_, h3⟩
  · rw [wd_push] at h1; exact h1
  · rw [wd_push] at h2; exact h2
theorem g_astQ (X : Cx p s m args meth c cc nL own D G t A) (w : Wd D A s H locs N ad cl) (i : Nat) {a : Nat} (ha : ad i = a) (hi : i < N) {n : Nat} {f : Nat → Option Nat} (hc : cl i = .inl (G 4, n, .inr (.inr (.inr (.inr f))))) (j : Nat) {v : Nat} (hv : ad j = v) (hj : j < N) {fs : List Value} (hcj : cl j = .inr (5, fs)) {x : Int32} (hin : vp_in x n) (hdg : decode cc pc = .ok (.aastore, 1))
    (kk : ∀ (H : Heap) (locs : List Loc), Wd D A s H locs N ad (va_up cl i (.inl (G 4, n, .inr (.inr (.inr (.inr (va_up f x.toNatClampNeg (some v)))))))) → W p l e R s m args below meth c H locs cells slots Q (F0 m (pc + 1) ls rest)) : W p l e R s m args below meth c H locs cells slots Q (F0 m pc ls (.ref v :: .int x :: .ref a :: rest)) := by
  subst ha; subst hv
  obtain ⟨hx, hb, hml, hown, hts, hK, hA, hZ, hN, hlo⟩ := X
  refine va_astq (r := (RX5, TX5, 2)) hx hb hK w.1 w.2.1 w.2.2 i 4 j 5 (by rw [wd_get hi, hc]) rfl (by rw [wd_get hj, hcj]) rfl hin hdg (fun H1 l1 h1 h2 h3 => kk H1 l1 ⟨?_, ?_, h3⟩)
  · rw [wd_set hi] at h1; exact h1
  · rw [wd_set hi] at h2; exact h2
theorem g_aldQ (X : Cx p s m args meth c cc nL own D G t A) (w : Wd D A s H locs N ad cl) (i : Nat) {a : Nat} (ha : ad i = a) (hi : i < N) {n : Nat} {f : Nat → Option Nat} (hc : cl i = .inl (G 4, n, .inr (.inr (.inr (.inr f))))) {x : Int32} (hin : vp_in x n) {v : Nat} (hv : f x.toNatClampNeg = some v) (hdg : decode cc pc = .ok (.aaload, 1))
    (kk : W p l e R s m args below meth c H locs cells slots Q (F0 m (pc + 1) ls (.ref v :: rest))) : W p l e R s m args below meth c H locs cells slots Q (F0 m pc ls (.int x :: .ref a :: rest)) := by
  subst ha
  obtain ⟨hx, hb, hml, hown, hts, hK, hA, hZ, hN, hlo⟩ := X
  refine va_aldq hx hb hK w.1 i 4 (by rw [wd_get hi, hc]) rfl hin hdg ?_
  rw [hv]
  exact kk
theorem g_gets (X : Cx p s m args meth c cc nL own D G t A) (w : Wd D A s H locs N ad cl) {C n : String} {tt L idx : Nat} {f : Nat → Int32} (hZ : sRow C n tt L f A s s.heap) (hl : Cond.fieldLink own idx C n "[I" ∈ tb) (hdg : decode cc pc = .ok (.getstatic idx, 3))
    (kk : W p l e R s m args below meth c H locs cells slots Q (F0 m (pc + 3) ls (.ref tt :: rest))) : W p l e R s m args below meth c H locs cells slots Q (F0 m pc ls rest) := by
  obtain ⟨hx, hb, hml, hown, hts, hK, -⟩ := X
  exact va_gets hx hb hZ.1 w.2.2 hown (hts _ hl) (fun _ h => h) hdg kk
end
