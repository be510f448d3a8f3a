/-! THE CLASS'S OBJECT x: its cells are 0 .. 245 of the pool. A field is a reference to a cell, an int, or a reference that changes (nb 0, 1: Setter's now, before; nb 2, 3: Texts') -/
abbrev FS : Type := Nat ⊕ (Unit ⊕ Nat)
def fval (ad : Nat → Nat) (v : Nat → Nat → Int32) (nb : Nat → Nat) (z k : Nat) : FS → Value
  | .inl r => .ref (ad r)
  | .inr (.inl _) => .int (v z k)
  | .inr (.inr j) => .ref (ad (nb j))
def fmap (g : Nat → FS → Value) : Nat → List FS → List Value
  | _, [] => []
  | k, f :: fs => g k f :: fmap g (k + 1) fs
theorem fmap_congr {g g' : Nat → FS → Value} : ∀ (fs : List FS) (n : Nat), (∀ k f, f ∈ fs → g k f = g' k f) → fmap g n fs = fmap g' n fs
  | [], _, _ => rfl
  | f :: fs, n, h => by rw [fmap, fmap, h n f List.mem_cons_self, fmap_congr fs (n + 1) (fun k x hx => h k x (List.mem_cons_of_mem _ hx))]
theorem fmap_len {g : Nat → FS → Value} : ∀ (fs : List FS) (n : Nat), (fmap g n fs).length = fs.length
  | [], _ => rfl
  | f :: fs, n => by rw [fmap, List.length_cons, fmap_len fs (n + 1), List.length_cons]
theorem fmap_set {ad : Nat → Nat} {v : Nat → Nat → Int32} {nb : Nat → Nat} {z : Nat} {x : Int32} : ∀ (fs : List FS) (n k : Nat), fs[k]? = some (.inr (.inl ())) → (fmap (fval ad v nb z) n fs).set k (.int x) = fmap (fval ad (va_up v z (va_up (v z) (n + k) x)) nb z) n fs
  | [], _, _, h => by simp at h
  | f :: fs, n, 0, h => by
    simp at h
    subst h
    rw [fmap, fmap, List.set_cons_zero]
    congr 1
    · simp [fval, va_up_self]
    · have key : ∀ (fs : List FS) (m : Nat), n + 1 ≤ m → fmap (fval ad v nb z) m fs = fmap (fval ad (va_up v z (va_up (v z) (n + 0) x)) nb z) m fs := by
        intro fs
        induction fs with
        | nil => intro m _; rfl
        | cons f fs ih =>
          intro m hm
          rw [fmap, fmap, ih (m + 1) (by omega)]
          congr 1
          rcases f with r | u | j
          · rfl
          · simp [fval, va_up_self, va_up_ne (v z) x (show m ≠ n by omega)]
          · rfl
      exact key fs (n + 1) (Nat.le_refl _)
  | f :: fs, n, k + 1, h => by
    rw [List.getElem?_cons_succ] at h
    rw [fmap, fmap, List.set_cons_succ, fmap_set fs (n + 1) k h, show n + 1 + k = n + (k + 1) by omega]
    congr 1
    rcases f with r | u | j
    · rfl
    · simp [fval, va_up_self, va_up_ne (v z) x (show n ≠ n + (k + 1) by omega)]
    · rfl
def vset (v : Nat → Nat → Int32) (z k : Nat) (x : Int32) : Nat → Nat → Int32 := va_up v z (va_up (v z) k x)
def xObjs : List (Nat × Nat × List FS) := [(0, 11, [.inl 1, .inl 3, .inl 5, .inl 7, .inl 9, .inr (.inl ()), .inr (.inl ()), .inl 22, .inl 23, .inl 86, .inl 111, .inl 127, .inl 212, .inl 229, .inr (.inl ())]), (22, 4, [.inr (.inl ()), .inr (.inl ()), .inr (.inl ())]), (23, 6, [.inl 22, .inl 24, .inl 25, .inl 30, .inl 32, .inl 34, .inl 39, .inl 44]), (25, 8, [.inl 26, .inl 28]), (34, 8, [.inl 35, .inl 37]), (39, 8, [.inl 40, .inl 42]), (44, 8, [.inl 45, .inl 47]), (49, 2, [.inl 50, .inl 55, .inl 60, .inl 62, .inl 67, .inl 69, .inl 71, .inl 73, .inl 78, .inl 80, .inl 82, .inl 84, .inr (.inl ()), .inr (.inl ()), .inr (.inl ()), .inr (.inl ())]), (50, 8, [.inl 51, .inl 53]), (55, 8, [.inl 56, .inl 58]), (62, 8, [.inl 63, .inl 65]), (73, 8, [.inl 74, .inl 76]), (86, 10, [.inl 22, .inl 23, .inr (.inr 2), .inr (.inr 3), .inl 87, .inl 89, .inl 91, .inl 93, .inl 95, .inl 97, .inl 102, .inl 104, .inl 109, .inr (.inl ()), .inr (.inl ()), .inr (.inl ()), .inr (.inl ()), .inr (.inl ()), .inr (.inl ())]), (97, 8, [.inl 98, .inl 100]), (104, 8, [.inl 105, .inl 107]), (111, 0, [.inl 23, .inl 112, .inl 114, .inl 116, .inl 118, .inl 120, .inl 122, .inl 124, .inl 126, .inr (.inl ()), .inr (.inl ()), .inr (.inl ()), .inr (.inl ())]), (127, 7, [.inl 3, .inl 22, .inl 23, .inl 86, .inl 111, .inl 128, .inl 150, .inr (.inr 0), .inr (.inr 1), .inl 200, .inl 202, .inl 204, .inl 206, .inl 208, .inl 210, .inl 211, .inr (.inl ()), .inr (.inl ()), .inr (.inl ())]), (128, 1, [.inl 22, .inl 129, .inl 134, .inl 136, .inl 138, .inl 140, .inl 142, .inl 144, .inl 146, .inl 148, .inr (.inl ())]), (129, 8, [.inl 130, .inl 132]), (150, 9, [.inl 22, .inl 111, .inl 128, .inl 151, .inl 156, .inl 158, .inl 160, .inl 161, .inl 162, .inr (.inl ())]), (151, 8, [.inl 152, .inl 154]), (163, 2, [.inl 164, .inl 169, .inl 174, .inl 176, .inl 181, .inl 183, .inl 185, .inl 187, .inl 192, .inl 194, .inl 196, .inl 198, .inr (.inl ()), .inr (.inl ()), .inr (.inl ()), .inr (.inl ())]), (164, 8, [.inl 165, .inl 167]), (169, 8, [.inl 170, .inl 172]), (176, 8, [.inl 177, .inl 179]), (187, 8, [.inl 188, .inl 190]), (212, 3, [.inr (.inl ()), .inl 213, .inl 218, .inl 220, .inl 222, .inl 224, .inl 226, .inl 228]), (213, 8, [.inl 214, .inl 216]), (229, 3, [.inr (.inl ()), .inl 230, .inl 235, .inl 237, .inl 239, .inl 241, .inl 243, .inl 245]), (230, 8, [.inl 231, .inl 233])]
def xRows : List Nat := [1, 3, 5, 7, 10, 12, 14, 16, 18, 20, 26, 28, 30, 32, 35, 37, 40, 42, 45, 47, 51, 53, 56, 58, 60, 63, 65, 67, 69, 71, 74, 76, 78, 80, 82, 84, 87, 89, 91, 93, 95, 98, 100, 102, 105, 107, 109, 112, 114, 116, 118, 120, 122, 124, 130, 132, 134, 136, 138, 140, 142, 144, 146, 148, 152, 154, 156, 158, 165, 167, 170, 172, 174, 177, 179, 181, 183, 185, 188, 190, 192, 194, 196, 198, 200, 202, 204, 206, 208, 214, 216, 218, 220, 222, 224, 226, 231, 233, 235, 237, 239, 241, 243]
def xArrs : List (Nat × Nat) := [(24, 13), (126, 44), (160, 8), (161, 8), (162, 9), (210, 4), (211, 3), (228, 13), (245, 13)]
def fq (ad : Nat → Nat) : Nat → Option Nat := fun k => if k < 6 then some (ad (10 + 2 * k)) else none
/-- x: the rows' room c and contents xs (by the row's cell), the ints v (by cell and field), the int arrays g -/
def XW (G : Nat → ClassId) (N : Nat) (ad : Nat → Nat) (cl : Nat → va_E) (c : Nat → Nat) (xs : Nat → List Int32) (v : Nat → Nat → Int32) (g : Nat → Nat → Int32) (nb : Nat → Nat) : Prop :=
  246 ≤ N ∧ (∀ q ∈ xRows, RowL G N ad cl q (c q) (xs q)) ∧ (∀ q ∈ xObjs, cl q.1 = .inr (q.2.1, fmap (fval ad v nb q.1) 0 q.2.2)) ∧ (∀ q ∈ xArrs, cl q.1 = .inl (G 0, q.2, .inl (g q.1))) ∧ cl 9 = .inl (G 4, 6, .inr (.inr (.inr (.inr (fq ad))))) ∧ ∀ j, nb j = 49 ∨ nb j = 163
def okRowB (q : Nat) : Bool := decide (q + 1 < 246) && decide (9 ≠ q) && decide (9 ≠ q + 1) && decide (49 ≠ q + 1) && decide (163 ≠ q + 1) && ([10, 12, 14, 16, 18, 20] : List Nat).all (fun k => decide (k ≠ q + 1)) && xObjs.all (fun o => decide (o.1 ≠ q) && decide (o.1 ≠ q + 1) && decide (o.1 < 246) && o.2.2.all (fun f => match f with | .inl r => decide (r ≠ q + 1) && decide (r < 246) | _ => true)) && xArrs.all (fun a => decide (a.1 ≠ q) && decide (a.1 ≠ q + 1) && decide (a.1 < 246)) && xRows.all (fun r => decide (r = q) || (decide (r ≠ q + 1) && decide (r + 1 ≠ q)))
theorem okRows : xRows.all okRowB = true := by decide +kernel
theorem okRow {q : Nat} (h : q ∈ xRows) : okRowB q = true := List.all_eq_true.mp okRows q h
theorem XW.o {G : Nat → ClassId} {N : Nat} {ad : Nat → Nat} {cl : Nat → va_E} {c : Nat → Nat} {xs : Nat → List Int32} {v : Nat → Nat → Int32} {g : Nat → Nat → Int32} {nb : Nat → Nat} (h : XW G N ad cl c xs v g nb) {z ci : Nat} {fs : List FS} (hm : (z, ci, fs) ∈ xObjs) : cl z = .inr (ci, fmap (fval ad v nb z) 0 fs) := h.2.2.1 _ hm
theorem XW.row {G : Nat → ClassId} {N : Nat} {ad ad' : Nat → Nat} {cl cl' : Nat → va_E} {c : Nat → Nat} {xs : Nat → List Int32} {v : Nat → Nat → Int32} {g : Nat → Nat → Int32} {nb : Nat → Nat} (h : XW G N ad cl c xs v g nb) {q cap : Nat} {ys : List Int32} (hq : q ∈ xRows) (hF : FrR N q ad cl ad' cl') (hR : RowL G N ad' cl' q cap ys) : XW G N ad' cl' (va_up c q cap) (va_up xs q ys) v g nb := by
  obtain ⟨h1, h2, h3, h4, h5, h6⟩ := h
  have ok := okRow hq
  simp only [okRowB, Bool.and_eq_true, decide_eq_true_eq, List.all_eq_true, Bool.or_eq_true] at ok
  obtain ⟨⟨⟨⟨⟨⟨⟨⟨o1, o2⟩, o3⟩, o4⟩, o5⟩, o6⟩, o7⟩, o8⟩, o9⟩ := ok
  refine ⟨h1, fun r hr => ?_, fun o ho => ?_, fun a ha => ?_, ?_, h6⟩
  · by_cases e : r = q
    · subst e
      rw [va_up_self, va_up_self]
      exact hR
    · rw [va_up_ne _ _ e, va_up_ne _ _ e]
      rcases o9 r hr with z | ⟨z1, z2⟩
      · exact absurd z e
      · exact (h2 r hr).fr hF (Nat.le_refl _) e z1 z2
  · obtain ⟨⟨⟨a1, a2⟩, a3⟩, a4⟩ := o7 o ho
    rw [hF.2 o.1 (by omega) a1 a2, h3 o ho]
    congr 2
    refine fmap_congr _ _ (fun k f hf => ?_)
    rcases f with r | u | j
    · have := a4 _ hf
      simp only [Bool.and_eq_true, decide_eq_true_eq] at this
      rw [fval, fval, hF.1 r (by omega) this.1]
    · rfl
    · rw [fval, fval, hF.1 (nb j) (by rcases h6 j with e | e <;> omega) (by rcases h6 j with e | e <;> omega)]
  · obtain ⟨⟨a1, a2⟩, a3⟩ := o8 a ha
    rw [hF.2 a.1 (by omega) a1 a2]
    exact h4 a ha
  · have e9 : fq ad' = fq ad := by
      funext k
      simp only [fq]
      by_cases hk : k < 6
      · rw [if_pos hk, if_pos hk, hF.1 (10 + 2 * k) (by omega) (by
          have := o6 (10 + 2 * k) (by rcases (show k = 0 ∨ k = 1 ∨ k = 2 ∨ k = 3 ∨ k = 4 ∨ k = 5 by omega) with rfl | rfl | rfl | rfl | rfl | rfl <;> decide)
          exact this)]
      · rw [if_neg hk, if_neg hk]
    rw [hF.2 9 (by omega) o2 o3, h5, e9]
def okObjB (o : Nat × Nat × List FS) : Bool := decide (o.1 < 246) && decide (9 ≠ o.1) && xRows.all (fun r => decide (o.1 ≠ r) && decide (o.1 ≠ r + 1)) && xArrs.all (fun a => decide (a.1 ≠ o.1)) && xObjs.all (fun p => decide (p.1 ≠ o.1) || decide (p = o))
theorem okObjs : xObjs.all okObjB = true := by decide +kernel
/-- an int field is written -/
theorem XW.int {G : Nat → ClassId} {N : Nat} {ad : Nat → Nat} {cl : Nat → va_E} {c : Nat → Nat} {xs : Nat → List Int32} {v : Nat → Nat → Int32} {g : Nat → Nat → Int32} {nb : Nat → Nat} (h : XW G N ad cl c xs v g nb) {z ci : Nat} {fs : List FS} (hm : (z, ci, fs) ∈ xObjs) (k : Nat) (hk : fs[k]? = some (.inr (.inl ()))) (x : Int32) : XW G N ad (va_up cl z (.inr (ci, (fmap (fval ad v nb z) 0 fs).set k (.int x)))) c xs (vset v z k x) g nb := by
  show XW G N ad _ c xs (va_up v z (va_up (v z) k x)) g nb
  obtain ⟨h1, h2, h3, h4, h5, h6⟩ := h
  have ok := List.all_eq_true.mp okObjs _ hm
  simp only [okObjB, Bool.and_eq_true, decide_eq_true_eq, List.all_eq_true, Bool.or_eq_true] at ok
  obtain ⟨⟨⟨⟨o1, o2⟩, o3⟩, o4⟩, o5⟩ := ok
  refine ⟨h1, fun r hr => ?_, fun o ho => ?_, fun a ha => ?_, ?_, h6⟩
  · obtain ⟨a, b, ⟨f, c1, d1⟩, e1⟩ := h2 r hr
    obtain ⟨r1, r2⟩ := o3 r hr
    exact ⟨a, by rw [va_up_ne _ _ (Ne.symm r1)]; exact b, ⟨f, by rw [va_up_ne _ _ (Ne.symm r2)]; exact c1, d1⟩, e1⟩
  · rcases o5 o ho with e | e
    · rw [va_up_ne _ _ e, h3 o ho]
      congr 2
      refine fmap_congr _ _ (fun k f hf => ?_)
      rcases f with r | u | j
      · rfl
      · rw [fval, fval, va_up_ne _ _ e]
      · rfl
    · subst e
      rw [va_up_self, fmap_set fs 0 k hk, Nat.zero_add]
  · rw [va_up_ne _ _ (o4 a ha)]
    exact h4 a ha
  · rw [va_up_ne _ _ o2]
    exact h5
theorem xm_0 : ((0, 11, [.inl 1, .inl 3, .inl 5, .inl 7, .inl 9, .inr (.inl ()), .inr (.inl ()), .inl 22, .inl 23, .inl 86, .inl 111, .inl 127, .inl 212, .inl 229, .inr (.inl ())]) : Nat × Nat × List FS) ∈ xObjs := List.mem_of_getElem? (i := 0) rfl
theorem xm_22 : ((22, 4, [.inr (.inl ()), .inr (.inl ()), .inr (.inl ())]) : Nat × Nat × List FS) ∈ xObjs := List.mem_of_getElem? (i := 1) rfl
theorem xm_23 : ((23, 6, [.inl 22, .inl 24, .inl 25, .inl 30, .inl 32, .inl 34, .inl 39, .inl 44]) : Nat × Nat × List FS) ∈ xObjs := List.mem_of_getElem? (i := 2) rfl
theorem xm_25 : ((25, 8, [.inl 26, .inl 28]) : Nat × Nat × List FS) ∈ xObjs := List.mem_of_getElem? (i := 3) rfl
theorem xm_34 : ((34, 8, [.inl 35, .inl 37]) : Nat × Nat × List FS) ∈ xObjs := List.mem_of_getElem? (i := 4) rfl
theorem xm_39 : ((39, 8, [.inl 40, .inl 42]) : Nat × Nat × List FS) ∈ xObjs := List.mem_of_getElem? (i := 5) rfl
theorem xm_44 : ((44, 8, [.inl 45, .inl 47]) : Nat × Nat × List FS) ∈ xObjs := List.mem_of_getElem? (i := 6) rfl
theorem xm_49 : ((49, 2, [.inl 50, .inl 55, .inl 60, .inl 62, .inl 67, .inl 69, .inl 71, .inl 73, .inl 78, .inl 80, .inl 82, .inl 84, .inr (.inl ()), .inr (.inl ()), .inr (.inl ()), .inr (.inl ())]) : Nat × Nat × List FS) ∈ xObjs := List.mem_of_getElem? (i := 7) rfl
theorem xm_50 : ((50, 8, [.inl 51, .inl 53]) : Nat × Nat × List FS) ∈ xObjs := List.mem_of_getElem? (i := 8) rfl
theorem xm_55 : ((55, 8, [.inl 56, .inl 58]) : Nat × Nat × List FS) ∈ xObjs := List.mem_of_getElem? (i := 9) rfl
theorem xm_62 : ((62, 8, [.inl 63, .inl 65]) : Nat × Nat × List FS) ∈ xObjs := List.mem_of_getElem? (i := 10) rfl
theorem xm_73 : ((73, 8, [.inl 74, .inl 76]) : Nat × Nat × List FS) ∈ xObjs := List.mem_of_getElem? (i := 11) rfl
theorem xm_86 : ((86, 10, [.inl 22, .inl 23, .inr (.inr 2), .inr (.inr 3), .inl 87, .inl 89, .inl 91, .inl 93, .inl 95, .inl 97, .inl 102, .inl 104, .inl 109, .inr (.inl ()), .inr (.inl ()), .inr (.inl ()), .inr (.inl ()), .inr (.inl ()), .inr (.inl ())]) : Nat × Nat × List FS) ∈ xObjs := List.mem_of_getElem? (i := 12) rfl
theorem xm_97 : ((97, 8, [.inl 98, .inl 100]) : Nat × Nat × List FS) ∈ xObjs := List.mem_of_getElem? (i := 13) rfl
theorem xm_104 : ((104, 8, [.inl 105, .inl 107]) : Nat × Nat × List FS) ∈ xObjs := List.mem_of_getElem? (i := 14) rfl
theorem xm_111 : ((111, 0, [.inl 23, .inl 112, .inl 114, .inl 116, .inl 118, .inl 120, .inl 122, .inl 124, .inl 126, .inr (.inl ()), .inr (.inl ()), .inr (.inl ()), .inr (.inl ())]) : Nat × Nat × List FS) ∈ xObjs := List.mem_of_getElem? (i := 15) rfl
theorem xm_127 : ((127, 7, [.inl 3, .inl 22, .inl 23, .inl 86, .inl 111, .inl 128, .inl 150, .inr (.inr 0), .inr (.inr 1), .inl 200, .inl 202, .inl 204, .inl 206, .inl 208, .inl 210, .inl 211, .inr (.inl ()), .inr (.inl ()), .inr (.inl ())]) : Nat × Nat × List FS) ∈ xObjs := List.mem_of_getElem? (i := 16) rfl
theorem xm_128 : ((128, 1, [.inl 22, .inl 129, .inl 134, .inl 136, .inl 138, .inl 140, .inl 142, .inl 144, .inl 146, .inl 148, .inr (.inl ())]) : Nat × Nat × List FS) ∈ xObjs := List.mem_of_getElem? (i := 17) rfl
theorem xm_129 : ((129, 8, [.inl 130, .inl 132]) : Nat × Nat × List FS) ∈ xObjs := List.mem_of_getElem? (i := 18) rfl
theorem xm_150 : ((150, 9, [.inl 22, .inl 111, .inl 128, .inl 151, .inl 156, .inl 158, .inl 160, .inl 161, .inl 162, .inr (.inl ())]) : Nat × Nat × List FS) ∈ xObjs := List.mem_of_getElem? (i := 19) rfl
theorem xm_151 : ((151, 8, [.inl 152, .inl 154]) : Nat × Nat × List FS) ∈ xObjs := List.mem_of_getElem? (i := 20) rfl
theorem xm_163 : ((163, 2, [.inl 164, .inl 169, .inl 174, .inl 176, .inl 181, .inl 183, .inl 185, .inl 187, .inl 192, .inl 194, .inl 196, .inl 198, .inr (.inl ()), .inr (.inl ()), .inr (.inl ()), .inr (.inl ())]) : Nat × Nat × List FS) ∈ xObjs := List.mem_of_getElem? (i := 21) rfl
theorem xm_164 : ((164, 8, [.inl 165, .inl 167]) : Nat × Nat × List FS) ∈ xObjs := List.mem_of_getElem? (i := 22) rfl
theorem xm_169 : ((169, 8, [.inl 170, .inl 172]) : Nat × Nat × List FS) ∈ xObjs := List.mem_of_getElem? (i := 23) rfl
theorem xm_176 : ((176, 8, [.inl 177, .inl 179]) : Nat × Nat × List FS) ∈ xObjs := List.mem_of_getElem? (i := 24) rfl
theorem xm_187 : ((187, 8, [.inl 188, .inl 190]) : Nat × Nat × List FS) ∈ xObjs := List.mem_of_getElem? (i := 25) rfl
theorem xm_212 : ((212, 3, [.inr (.inl ()), .inl 213, .inl 218, .inl 220, .inl 222, .inl 224, .inl 226, .inl 228]) : Nat × Nat × List FS) ∈ xObjs := List.mem_of_getElem? (i := 26) rfl
theorem xm_213 : ((213, 8, [.inl 214, .inl 216]) : Nat × Nat × List FS) ∈ xObjs := List.mem_of_getElem? (i := 27) rfl
theorem xm_229 : ((229, 3, [.inr (.inl ()), .inl 230, .inl 235, .inl 237, .inl 239, .inl 241, .inl 243, .inl 245]) : Nat × Nat × List FS) ∈ xObjs := List.mem_of_getElem? (i := 28) rfl
theorem xm_230 : ((230, 8, [.inl 231, .inl 233]) : Nat × Nat × List FS) ∈ xObjs := List.mem_of_getElem? (i := 29) rfl
