def R_law : String := "TypeRoomLaw"
def lw_P (b : Addr) (xs : List Int32) (args : Array Value) (s : State) : Prop := args = #[.ref b] ∧ s.IntsAt b xs ∧ xs.length ≤ 3584 ∧ (Jvm.Cond.and given_1 narrow_1).before args s = true
def lw_Q (_ : Array Value) (s : State) (o : Outcome) (t : State) : Prop := o = .returned (some (.int 1)) ∧ Framed s o t [] 601024 7293034
def lw_Z (below : List Frame) (a : Array Value) (s : State) : State → Prop := fun t => ∃ o, t.status = .running ∧ Ended t below o ∧ lw_Q a s o t
/-- the law's own end, with 1 on the stack, nothing written that was there before, its room as the claim has it -/
theorem lw_ret {p : Program} {l : Launch} {e : Env} {s : State} {m : MethodId} {below : List Frame} {meth : Method} {c : Code} {b : Nat} (hx : p.tables.exec = Jvm.exec) (hb : c.code = code) (hr : meth.sig.returnType = ret) (hlocks : meth.locks = false) {pc : Nat} {H : Heap} {ls : Array Slot} (hdg : decode code pc = .ok (.ireturn, 1)) : W p l e room_1 s m #[Value.ref b] below meth c H [] 601024 7293034 (lw_Z below #[Value.ref b] s) (F0 m pc ls [.int 1]) := by
  intro T hT X
  obtain ⟨fs, hret, hrun, hended, hW, hframe⟩ := X.leave (v := some (.int 1)) (hlocks := hlocks) (fun h => by rw [hr] at h; cases h)
  have hmeth' : T.vm.method? m = some meth := X.method'
  refine ⟨T.setFrames fs, ?_, .returned (some (.int 1)), hrun, hended, rfl, ⟨_, rfl⟩, hW, hframe⟩
  jvm_step X.here [X.here.top, hx, hb, hdg, hmeth', hr, ret, narrow_b1]
  (try refine ⟨rfl, ?_⟩); (try refine ⟨rfl, ?_⟩)
  first | (intro acts; rw [hret _ acts rfl rfl rfl]) | rw [hret _ _ rfl rfl rfl]
  exact Steps.refl _
/-- what holds at the law's entry: the machine, the code, the tables' words (any of lw_tbl by 'hts w (by decide +kernel)'), the script of L ints xs at the cell b, what the Statement gives of the start (any of its parts by flat_of_before) -/
def lw_At (p : Program) (s : State) (m : MethodId) (meth : Method) (c : Code) (b L : Nat) (xs : Nat → Int32) : Prop :=
  p.tables.exec = Jvm.exec ∧ c.code = code ∧ meth.sig.returnType = ret ∧ c.maxLocals = 7 ∧ s.vm.findClass R_law = some m.cls ∧ (∀ w ∈ lw_tbl, w.before #[Value.ref b] s = true) ∧ va_X b L xs s s.heap ∧ b < s.heap.size ∧ meth.locks = false ∧ (Jvm.Cond.and given_1 narrow_1).before #[Value.ref b] s = true
theorem wt_11 : Cond.instantiable RX11 15 ∈ tb := tb_1 (i := 27) (by decide +kernel) rfl
theorem wt_12 : Cond.instantiable RX12 164 ∈ tb := tb_8 (i := 12) (by decide +kernel) rfl
theorem wa_J : Cond.arrayClass .long ∈ tb := tb_12 (i := 154) (by decide +kernel) rfl
set_option maxHeartbeats 4000000 in
theorem st_K {args : Array Value} {s : State} (hts : ∀ w ∈ tb, w.before args s = true) (hO : va_AO "TypeRoom$Row" s) : ∃ (D : va_G) (G : Nat → ClassId), va_K D vwCl (tyG G) s := by
  obtain ⟨c0, i0, k0⟩ := u_known hts inX0 (hts _ wt_0)
  obtain ⟨c1, i1, k1⟩ := u_known hts inX1 (hts _ wt_1)
  obtain ⟨c2, i2, k2⟩ := u_known hts inX2 (hts _ wt_2)
  obtain ⟨c3, i3, k3⟩ := u_known hts inX3 (hts _ wt_3)
  obtain ⟨c4, i4, k4⟩ := u_known hts inX4 (hts _ wt_4)
  obtain ⟨c5, i5, k5⟩ := u_known hts inX5 (hts _ wt_5)
  obtain ⟨c6, i6, k6⟩ := u_known hts inX6 (hts _ wt_6)
  obtain ⟨c7, i7, k7⟩ := u_known hts inX7 (hts _ wt_7)
  obtain ⟨c8, i8, k8⟩ := u_known hts inX8 (hts _ wt_8)
  obtain ⟨c9, i9, k9⟩ := u_known hts inX9 (hts _ wt_9)
  obtain ⟨c10, i10, k10⟩ := u_known hts inX10 (hts _ wt_10)
  obtain ⟨c11, i11, k11⟩ := u_known hts inX11 (hts _ wt_11)
  obtain ⟨c12, i12, k12⟩ := u_known hts inX12 (hts _ wt_12)
  obtain ⟨g0, kk0, cm0, f0, e0, q0⟩ := Cond.arrayClass_spec (hts _ wa_I)
  obtain ⟨g1, kk1, cm1, f1, e1, q1⟩ := Cond.arrayClass_spec (hts _ wa_B)
  obtain ⟨g2, kk2, cm2, f2, e2, q2⟩ := Cond.arrayClass_spec (hts _ wa_Z)
  obtain ⟨g3, kk3, cm3, f3, e3, q3⟩ := Cond.arrayClass_spec (hts _ wa_J)
  obtain ⟨cm4, g4, kk4, p4, -, e4, q4, f4⟩ := Cond.arrayOver_spec (va_AO.use (A := #[]) hO)
  refine ⟨(fun c => [c0, c1, c2, c3, c4, c5, c6, c7, c8, c9, c10, c11, c12].getD c 0, fun c => [i0, i1, i2, i3, i4, i5, i6, i7, i8, i9, i10, i11, i12].getD c (fun _ => 0)), fun k => [g0, g1, g2, g3, g4].getD k 0, fun c q hq => ?_, fun k q hq => ?_⟩
  · have hc : c < 13 := (List.getElem?_eq_some_iff.mp hq).1
    rcases (show c = 0 ∨ c = 1 ∨ c = 2 ∨ c = 3 ∨ c = 4 ∨ c = 5 ∨ c = 6 ∨ c = 7 ∨ c = 8 ∨ c = 9 ∨ c = 10 ∨ c = 11 ∨ c = 12 by omega) with rfl | rfl | rfl | rfl | rfl | rfl | rfl | rfl | rfl | rfl | rfl | rfl | rfl
    · cases hq; exact k0
    · cases hq; exact k1
    · cases hq; exact k2
    · cases hq; exact k3
    · cases hq; exact k4
    · cases hq; exact k5
    · cases hq; exact k6
    · cases hq; exact k7
    · cases hq; exact k8
    · cases hq; exact k9
    · cases hq; exact k10
    · cases hq; exact k11
    · cases hq; exact k12
  · have hk : k < 5 := (List.getElem?_eq_some_iff.mp hq).1
    rcases (show k = 0 ∨ k = 1 ∨ k = 2 ∨ k = 3 ∨ k = 4 by omega) with rfl | rfl | rfl | rfl | rfl
    · cases hq; exact ⟨fun n z => ⟨fun _ h => (by cases h), kk0, e0, cm0, q0⟩, f0⟩
    · cases hq; exact ⟨fun n z => ⟨fun _ h => (by cases h), kk1, e1, cm1, q1⟩, f1⟩
    · cases hq; exact ⟨fun n z => ⟨fun _ h => (by cases h), kk2, e2, cm2, q2⟩, f2⟩
    · cases hq; exact ⟨fun n z => ⟨fun _ h => (by cases h), kk3, e3, cm3, q3⟩, f3⟩
    · cases hq; exact ⟨fun n z => ⟨fun _ h => (by cases h), kk4, e4, cm4, q4⟩, kk4, cm4, e4, q4, p4, f4⟩
set_option maxHeartbeats 4000000 in
theorem st_0 {b : Nat} {s : State} (hts : ∀ w ∈ lw_tbl, w.before #[Value.ref b] s = true) (hgv : (Jvm.Cond.and given_1 narrow_1).before #[Value.ref b] s = true) : ∃ t, sRow "TypeRoom$Rules" "AT_FIRST" t 13 (tOf [40, 2, 3, 1, 2, 2, 0, 2, 1, 24, 0, 1, 1]) (fun q => s.heap.size ≤ q) s s.heap := by
  have hs := flat_of_before _ hgv
  have hA : ∀ a : Nat, a < s.heap.size → ¬ (fun q : Nat => s.heap.size ≤ q) a := fun a h => Nat.not_le.mpr h
  have e0 : (Term.elem (Term.static "TypeRoom$Rules" "AT_FIRST" "[I") (.int 0)).eval #[Value.ref b] s none [] s = some (.int 40) := va_eqt (hs (.eq (.elem (Term.static "TypeRoom$Rules" "AT_FIRST" "[I") (.int 0)) (.int 40)) (by decide +kernel))
  have e1 : (Term.elem (Term.static "TypeRoom$Rules" "AT_FIRST" "[I") (.int 1)).eval #[Value.ref b] s none [] s = some (.int 2) := va_eqt (hs (.eq (.elem (Term.static "TypeRoom$Rules" "AT_FIRST" "[I") (.int 1)) (.int 2)) (by decide +kernel))
  have e2 : (Term.elem (Term.static "TypeRoom$Rules" "AT_FIRST" "[I") (.int 2)).eval #[Value.ref b] s none [] s = some (.int 3) := va_eqt (hs (.eq (.elem (Term.static "TypeRoom$Rules" "AT_FIRST" "[I") (.int 2)) (.int 3)) (by decide +kernel))
  have e3 : (Term.elem (Term.static "TypeRoom$Rules" "AT_FIRST" "[I") (.int 3)).eval #[Value.ref b] s none [] s = some (.int 1) := va_eqt (hs (.eq (.elem (Term.static "TypeRoom$Rules" "AT_FIRST" "[I") (.int 3)) (.int 1)) (by decide +kernel))
  have e4 : (Term.elem (Term.static "TypeRoom$Rules" "AT_FIRST" "[I") (.int 4)).eval #[Value.ref b] s none [] s = some (.int 2) := va_eqt (hs (.eq (.elem (Term.static "TypeRoom$Rules" "AT_FIRST" "[I") (.int 4)) (.int 2)) (by decide +kernel))
  have e5 : (Term.elem (Term.static "TypeRoom$Rules" "AT_FIRST" "[I") (.int 5)).eval #[Value.ref b] s none [] s = some (.int 2) := va_eqt (hs (.eq (.elem (Term.static "TypeRoom$Rules" "AT_FIRST" "[I") (.int 5)) (.int 2)) (by decide +kernel))
  have e6 : (Term.elem (Term.static "TypeRoom$Rules" "AT_FIRST" "[I") (.int 6)).eval #[Value.ref b] s none [] s = some (.int 0) := va_eqt (hs (.eq (.elem (Term.static "TypeRoom$Rules" "AT_FIRST" "[I") (.int 6)) (.int 0)) (by decide +kernel))
  have e7 : (Term.elem (Term.static "TypeRoom$Rules" "AT_FIRST" "[I") (.int 7)).eval #[Value.ref b] s none [] s = some (.int 2) := va_eqt (hs (.eq (.elem (Term.static "TypeRoom$Rules" "AT_FIRST" "[I") (.int 7)) (.int 2)) (by decide +kernel))
  have e8 : (Term.elem (Term.static "TypeRoom$Rules" "AT_FIRST" "[I") (.int 8)).eval #[Value.ref b] s none [] s = some (.int 1) := va_eqt (hs (.eq (.elem (Term.static "TypeRoom$Rules" "AT_FIRST" "[I") (.int 8)) (.int 1)) (by decide +kernel))
  have e9 : (Term.elem (Term.static "TypeRoom$Rules" "AT_FIRST" "[I") (.int 9)).eval #[Value.ref b] s none [] s = some (.int 24) := va_eqt (hs (.eq (.elem (Term.static "TypeRoom$Rules" "AT_FIRST" "[I") (.int 9)) (.int 24)) (by decide +kernel))
  have e10 : (Term.elem (Term.static "TypeRoom$Rules" "AT_FIRST" "[I") (.int 10)).eval #[Value.ref b] s none [] s = some (.int 0) := va_eqt (hs (.eq (.elem (Term.static "TypeRoom$Rules" "AT_FIRST" "[I") (.int 10)) (.int 0)) (by decide +kernel))
  have e11 : (Term.elem (Term.static "TypeRoom$Rules" "AT_FIRST" "[I") (.int 11)).eval #[Value.ref b] s none [] s = some (.int 1) := va_eqt (hs (.eq (.elem (Term.static "TypeRoom$Rules" "AT_FIRST" "[I") (.int 11)) (.int 1)) (by decide +kernel))
  have e12 : (Term.elem (Term.static "TypeRoom$Rules" "AT_FIRST" "[I") (.int 12)).eval #[Value.ref b] s none [] s = some (.int 1) := va_eqt (hs (.eq (.elem (Term.static "TypeRoom$Rules" "AT_FIRST" "[I") (.int 12)) (.int 1)) (by decide +kernel))
  have hel : ∀ j : Nat, j < 13 → (Term.elem (Term.static "TypeRoom$Rules" "AT_FIRST" "[I") (.int (Int32.ofNat j))).eval #[Value.ref b] s none [] s = some (.int (tOf [40, 2, 3, 1, 2, 2, 0, 2, 1, 24, 0, 1, 1] j)) := by
    intro j hj
    rcases (show j = 0 ∨ j = 1 ∨ j = 2 ∨ j = 3 ∨ j = 4 ∨ j = 5 ∨ j = 6 ∨ j = 7 ∨ j = 8 ∨ j = 9 ∨ j = 10 ∨ j = 11 ∨ j = 12 by omega) with rfl | rfl | rfl | rfl | rfl | rfl | rfl | rfl | rfl | rfl | rfl | rfl | rfl
    · exact e0
    · exact e1
    · exact e2
    · exact e3
    · exact e4
    · exact e5
    · exact e6
    · exact e7
    · exact e8
    · exact e9
    · exact e10
    · exact e11
    · exact e12
  obtain ⟨t, et, T⟩ := va_Tof (N := 13) (f := fun j => .int (tOf [40, 2, 3, 1, 2, 2, 0, 2, 1, 24, 0, 1, 1] j)) (A := fun q : Nat => s.heap.size ≤ q) (by decide) (hs (.arrayOf (Term.static "TypeRoom$Rules" "AT_FIRST" "[I") .int) (by decide +kernel)) (va_eqt (hs (.eq (.length (Term.static "TypeRoom$Rules" "AT_FIRST" "[I")) (.int 13)) (by decide +kernel))) hel hA
  exact ⟨t, va_Zof (hts _ (List.mem_append_right _ (tn_1 (i := 85) (by decide +kernel)))) (hts _ (tb_sub _ wi_6)) et hA, T⟩
set_option maxHeartbeats 4000000 in
theorem st_1 {b : Nat} {s : State} (hts : ∀ w ∈ lw_tbl, w.before #[Value.ref b] s = true) (hgv : (Jvm.Cond.and given_1 narrow_1).before #[Value.ref b] s = true) : ∃ t, sRow "TypeRoom$Rules" "LEAST" t 13 (tOf [12, 0, 0, 0, 1, 1, 0, 0, 0, 5, 0, 1, 1]) (fun q => s.heap.size ≤ q) s s.heap := by
  have hs := flat_of_before _ hgv
  have hA : ∀ a : Nat, a < s.heap.size → ¬ (fun q : Nat => s.heap.size ≤ q) a := fun a h => Nat.not_le.mpr h
  have e0 : (Term.elem (Term.static "TypeRoom$Rules" "LEAST" "[I") (.int 0)).eval #[Value.ref b] s none [] s = some (.int 12) := va_eqt (hs (.eq (.elem (Term.static "TypeRoom$Rules" "LEAST" "[I") (.int 0)) (.int 12)) (by decide +kernel))
  have e1 : (Term.elem (Term.static "TypeRoom$Rules" "LEAST" "[I") (.int 1)).eval #[Value.ref b] s none [] s = some (.int 0) := va_eqt (hs (.eq (.elem (Term.static "TypeRoom$Rules" "LEAST" "[I") (.int 1)) (.int 0)) (by decide +kernel))
  have e2 : (Term.elem (Term.static "TypeRoom$Rules" "LEAST" "[I") (.int 2)).eval #[Value.ref b] s none [] s = some (.int 0) := va_eqt (hs (.eq (.elem (Term.static "TypeRoom$Rules" "LEAST" "[I") (.int 2)) (.int 0)) (by decide +kernel))
  have e3 : (Term.elem (Term.static "TypeRoom$Rules" "LEAST" "[I") (.int 3)).eval #[Value.ref b] s none [] s = some (.int 0) := va_eqt (hs (.eq (.elem (Term.static "TypeRoom$Rules" "LEAST" "[I") (.int 3)) (.int 0)) (by decide +kernel))
  have e4 : (Term.elem (Term.static "TypeRoom$Rules" "LEAST" "[I") (.int 4)).eval #[Value.ref b] s none [] s = some (.int 1) := va_eqt (hs (.eq (.elem (Term.static "TypeRoom$Rules" "LEAST" "[I") (.int 4)) (.int 1)) (by decide +kernel))
  have e5 : (Term.elem (Term.static "TypeRoom$Rules" "LEAST" "[I") (.int 5)).eval #[Value.ref b] s none [] s = some (.int 1) := va_eqt (hs (.eq (.elem (Term.static "TypeRoom$Rules" "LEAST" "[I") (.int 5)) (.int 1)) (by decide +kernel))
  have e6 : (Term.elem (Term.static "TypeRoom$Rules" "LEAST" "[I") (.int 6)).eval #[Value.ref b] s none [] s = some (.int 0) := va_eqt (hs (.eq (.elem (Term.static "TypeRoom$Rules" "LEAST" "[I") (.int 6)) (.int 0)) (by decide +kernel))
  have e7 : (Term.elem (Term.static "TypeRoom$Rules" "LEAST" "[I") (.int 7)).eval #[Value.ref b] s none [] s = some (.int 0) := va_eqt (hs (.eq (.elem (Term.static "TypeRoom$Rules" "LEAST" "[I") (.int 7)) (.int 0)) (by decide +kernel))
  have e8 : (Term.elem (Term.static "TypeRoom$Rules" "LEAST" "[I") (.int 8)).eval #[Value.ref b] s none [] s = some (.int 0) := va_eqt (hs (.eq (.elem (Term.static "TypeRoom$Rules" "LEAST" "[I") (.int 8)) (.int 0)) (by decide +kernel))
  have e9 : (Term.elem (Term.static "TypeRoom$Rules" "LEAST" "[I") (.int 9)).eval #[Value.ref b] s none [] s = some (.int 5) := va_eqt (hs (.eq (.elem (Term.static "TypeRoom$Rules" "LEAST" "[I") (.int 9)) (.int 5)) (by decide +kernel))
  have e10 : (Term.elem (Term.static "TypeRoom$Rules" "LEAST" "[I") (.int 10)).eval #[Value.ref b] s none [] s = some (.int 0) := va_eqt (hs (.eq (.elem (Term.static "TypeRoom$Rules" "LEAST" "[I") (.int 10)) (.int 0)) (by decide +kernel))
  have e11 : (Term.elem (Term.static "TypeRoom$Rules" "LEAST" "[I") (.int 11)).eval #[Value.ref b] s none [] s = some (.int 1) := va_eqt (hs (.eq (.elem (Term.static "TypeRoom$Rules" "LEAST" "[I") (.int 11)) (.int 1)) (by decide +kernel))
  have e12 : (Term.elem (Term.static "TypeRoom$Rules" "LEAST" "[I") (.int 12)).eval #[Value.ref b] s none [] s = some (.int 1) := va_eqt (hs (.eq (.elem (Term.static "TypeRoom$Rules" "LEAST" "[I") (.int 12)) (.int 1)) (by decide +kernel))
  have hel : ∀ j : Nat, j < 13 → (Term.elem (Term.static "TypeRoom$Rules" "LEAST" "[I") (.int (Int32.ofNat j))).eval #[Value.ref b] s none [] s = some (.int (tOf [12, 0, 0, 0, 1, 1, 0, 0, 0, 5, 0, 1, 1] j)) := by
    intro j hj
    rcases (show j = 0 ∨ j = 1 ∨ j = 2 ∨ j = 3 ∨ j = 4 ∨ j = 5 ∨ j = 6 ∨ j = 7 ∨ j = 8 ∨ j = 9 ∨ j = 10 ∨ j = 11 ∨ j = 12 by omega) with rfl | rfl | rfl | rfl | rfl | rfl | rfl | rfl | rfl | rfl | rfl | rfl | rfl
    · exact e0
    · exact e1
    · exact e2
    · exact e3
    · exact e4
    · exact e5
    · exact e6
    · exact e7
    · exact e8
    · exact e9
    · exact e10
    · exact e11
    · exact e12
  obtain ⟨t, et, T⟩ := va_Tof (N := 13) (f := fun j => .int (tOf [12, 0, 0, 0, 1, 1, 0, 0, 0, 5, 0, 1, 1] j)) (A := fun q : Nat => s.heap.size ≤ q) (by decide) (hs (.arrayOf (Term.static "TypeRoom$Rules" "LEAST" "[I") .int) (by decide +kernel)) (va_eqt (hs (.eq (.length (Term.static "TypeRoom$Rules" "LEAST" "[I")) (.int 13)) (by decide +kernel))) hel hA
  exact ⟨t, va_Zof (hts _ (List.mem_append_right _ (tn_4 (i := 229) (by decide +kernel)))) (hts _ (tb_sub _ wi_6)) et hA, T⟩
set_option maxHeartbeats 4000000 in
theorem st_2 {b : Nat} {s : State} (hts : ∀ w ∈ lw_tbl, w.before #[Value.ref b] s = true) (hgv : (Jvm.Cond.and given_1 narrow_1).before #[Value.ref b] s = true) : ∃ t, sRow "TypeRoom$Rules" "MOST" t 13 (tOf [80, 8, 3, 1, 9, 9, 1, 3, 3, 60, 1, 999, 5]) (fun q => s.heap.size ≤ q) s s.heap := by
  have hs := flat_of_before _ hgv
  have hA : ∀ a : Nat, a < s.heap.size → ¬ (fun q : Nat => s.heap.size ≤ q) a := fun a h => Nat.not_le.mpr h
  have e0 : (Term.elem (Term.static "TypeRoom$Rules" "MOST" "[I") (.int 0)).eval #[Value.ref b] s none [] s = some (.int 80) := va_eqt (hs (.eq (.elem (Term.static "TypeRoom$Rules" "MOST" "[I") (.int 0)) (.int 80)) (by decide +kernel))
  have e1 : (Term.elem (Term.static "TypeRoom$Rules" "MOST" "[I") (.int 1)).eval #[Value.ref b] s none [] s = some (.int 8) := va_eqt (hs (.eq (.elem (Term.static "TypeRoom$Rules" "MOST" "[I") (.int 1)) (.int 8)) (by decide +kernel))
  have e2 : (Term.elem (Term.static "TypeRoom$Rules" "MOST" "[I") (.int 2)).eval #[Value.ref b] s none [] s = some (.int 3) := va_eqt (hs (.eq (.elem (Term.static "TypeRoom$Rules" "MOST" "[I") (.int 2)) (.int 3)) (by decide +kernel))
  have e3 : (Term.elem (Term.static "TypeRoom$Rules" "MOST" "[I") (.int 3)).eval #[Value.ref b] s none [] s = some (.int 1) := va_eqt (hs (.eq (.elem (Term.static "TypeRoom$Rules" "MOST" "[I") (.int 3)) (.int 1)) (by decide +kernel))
  have e4 : (Term.elem (Term.static "TypeRoom$Rules" "MOST" "[I") (.int 4)).eval #[Value.ref b] s none [] s = some (.int 9) := va_eqt (hs (.eq (.elem (Term.static "TypeRoom$Rules" "MOST" "[I") (.int 4)) (.int 9)) (by decide +kernel))
  have e5 : (Term.elem (Term.static "TypeRoom$Rules" "MOST" "[I") (.int 5)).eval #[Value.ref b] s none [] s = some (.int 9) := va_eqt (hs (.eq (.elem (Term.static "TypeRoom$Rules" "MOST" "[I") (.int 5)) (.int 9)) (by decide +kernel))
  have e6 : (Term.elem (Term.static "TypeRoom$Rules" "MOST" "[I") (.int 6)).eval #[Value.ref b] s none [] s = some (.int 1) := va_eqt (hs (.eq (.elem (Term.static "TypeRoom$Rules" "MOST" "[I") (.int 6)) (.int 1)) (by decide +kernel))
  have e7 : (Term.elem (Term.static "TypeRoom$Rules" "MOST" "[I") (.int 7)).eval #[Value.ref b] s none [] s = some (.int 3) := va_eqt (hs (.eq (.elem (Term.static "TypeRoom$Rules" "MOST" "[I") (.int 7)) (.int 3)) (by decide +kernel))
  have e8 : (Term.elem (Term.static "TypeRoom$Rules" "MOST" "[I") (.int 8)).eval #[Value.ref b] s none [] s = some (.int 3) := va_eqt (hs (.eq (.elem (Term.static "TypeRoom$Rules" "MOST" "[I") (.int 8)) (.int 3)) (by decide +kernel))
  have e9 : (Term.elem (Term.static "TypeRoom$Rules" "MOST" "[I") (.int 9)).eval #[Value.ref b] s none [] s = some (.int 60) := va_eqt (hs (.eq (.elem (Term.static "TypeRoom$Rules" "MOST" "[I") (.int 9)) (.int 60)) (by decide +kernel))
  have e10 : (Term.elem (Term.static "TypeRoom$Rules" "MOST" "[I") (.int 10)).eval #[Value.ref b] s none [] s = some (.int 1) := va_eqt (hs (.eq (.elem (Term.static "TypeRoom$Rules" "MOST" "[I") (.int 10)) (.int 1)) (by decide +kernel))
  have e11 : (Term.elem (Term.static "TypeRoom$Rules" "MOST" "[I") (.int 11)).eval #[Value.ref b] s none [] s = some (.int 999) := va_eqt (hs (.eq (.elem (Term.static "TypeRoom$Rules" "MOST" "[I") (.int 11)) (.int 999)) (by decide +kernel))
  have e12 : (Term.elem (Term.static "TypeRoom$Rules" "MOST" "[I") (.int 12)).eval #[Value.ref b] s none [] s = some (.int 5) := va_eqt (hs (.eq (.elem (Term.static "TypeRoom$Rules" "MOST" "[I") (.int 12)) (.int 5)) (by decide +kernel))
  have hel : ∀ j : Nat, j < 13 → (Term.elem (Term.static "TypeRoom$Rules" "MOST" "[I") (.int (Int32.ofNat j))).eval #[Value.ref b] s none [] s = some (.int (tOf [80, 8, 3, 1, 9, 9, 1, 3, 3, 60, 1, 999, 5] j)) := by
    intro j hj
    rcases (show j = 0 ∨ j = 1 ∨ j = 2 ∨ j = 3 ∨ j = 4 ∨ j = 5 ∨ j = 6 ∨ j = 7 ∨ j = 8 ∨ j = 9 ∨ j = 10 ∨ j = 11 ∨ j = 12 by omega) with rfl | rfl | rfl | rfl | rfl | rfl | rfl | rfl | rfl | rfl | rfl | rfl | rfl
    · exact e0
    · exact e1
    · exact e2
    · exact e3
    · exact e4
    · exact e5
    · exact e6
    · exact e7
    · exact e8
    · exact e9
    · exact e10
    · exact e11
    · exact e12
  obtain ⟨t, et, T⟩ := va_Tof (N := 13) (f := fun j => .int (tOf [80, 8, 3, 1, 9, 9, 1, 3, 3, 60, 1, 999, 5] j)) (A := fun q : Nat => s.heap.size ≤ q) (by decide) (hs (.arrayOf (Term.static "TypeRoom$Rules" "MOST" "[I") .int) (by decide +kernel)) (va_eqt (hs (.eq (.length (Term.static "TypeRoom$Rules" "MOST" "[I")) (.int 13)) (by decide +kernel))) hel hA
  exact ⟨t, va_Zof (hts _ (List.mem_append_right _ (tn_4 (i := 231) (by decide +kernel)))) (hts _ (tb_sub _ wi_6)) et hA, T⟩
set_option maxHeartbeats 4000000 in
theorem st_3 {b : Nat} {s : State} (hts : ∀ w ∈ lw_tbl, w.before #[Value.ref b] s = true) (hgv : (Jvm.Cond.and given_1 narrow_1).before #[Value.ref b] s = true) : ∃ t, sRow "TypeRoom$Row" "ROMAN_VALUES" t 13 (tOf [1000, 900, 500, 400, 100, 90, 50, 40, 10, 9, 5, 4, 1]) (fun q => s.heap.size ≤ q) s s.heap := by
  have hs := flat_of_before _ hgv
  have hA : ∀ a : Nat, a < s.heap.size → ¬ (fun q : Nat => s.heap.size ≤ q) a := fun a h => Nat.not_le.mpr h
  have e0 : (Term.elem (Term.static "TypeRoom$Row" "ROMAN_VALUES" "[I") (.int 0)).eval #[Value.ref b] s none [] s = some (.int 1000) := va_eqt (hs (.eq (.elem (Term.static "TypeRoom$Row" "ROMAN_VALUES" "[I") (.int 0)) (.int 1000)) (by decide +kernel))
  have e1 : (Term.elem (Term.static "TypeRoom$Row" "ROMAN_VALUES" "[I") (.int 1)).eval #[Value.ref b] s none [] s = some (.int 900) := va_eqt (hs (.eq (.elem (Term.static "TypeRoom$Row" "ROMAN_VALUES" "[I") (.int 1)) (.int 900)) (by decide +kernel))
  have e2 : (Term.elem (Term.static "TypeRoom$Row" "ROMAN_VALUES" "[I") (.int 2)).eval #[Value.ref b] s none [] s = some (.int 500) := va_eqt (hs (.eq (.elem (Term.static "TypeRoom$Row" "ROMAN_VALUES" "[I") (.int 2)) (.int 500)) (by decide +kernel))
  have e3 : (Term.elem (Term.static "TypeRoom$Row" "ROMAN_VALUES" "[I") (.int 3)).eval #[Value.ref b] s none [] s = some (.int 400) := va_eqt (hs (.eq (.elem (Term.static "TypeRoom$Row" "ROMAN_VALUES" "[I") (.int 3)) (.int 400)) (by decide +kernel))
  have e4 : (Term.elem (Term.static "TypeRoom$Row" "ROMAN_VALUES" "[I") (.int 4)).eval #[Value.ref b] s none [] s = some (.int 100) := va_eqt (hs (.eq (.elem (Term.static "TypeRoom$Row" "ROMAN_VALUES" "[I") (.int 4)) (.int 100)) (by decide +kernel))
  have e5 : (Term.elem (Term.static "TypeRoom$Row" "ROMAN_VALUES" "[I") (.int 5)).eval #[Value.ref b] s none [] s = some (.int 90) := va_eqt (hs (.eq (.elem (Term.static "TypeRoom$Row" "ROMAN_VALUES" "[I") (.int 5)) (.int 90)) (by decide +kernel))
  have e6 : (Term.elem (Term.static "TypeRoom$Row" "ROMAN_VALUES" "[I") (.int 6)).eval #[Value.ref b] s none [] s = some (.int 50) := va_eqt (hs (.eq (.elem (Term.static "TypeRoom$Row" "ROMAN_VALUES" "[I") (.int 6)) (.int 50)) (by decide +kernel))
  have e7 : (Term.elem (Term.static "TypeRoom$Row" "ROMAN_VALUES" "[I") (.int 7)).eval #[Value.ref b] s none [] s = some (.int 40) := va_eqt (hs (.eq (.elem (Term.static "TypeRoom$Row" "ROMAN_VALUES" "[I") (.int 7)) (.int 40)) (by decide +kernel))
  have e8 : (Term.elem (Term.static "TypeRoom$Row" "ROMAN_VALUES" "[I") (.int 8)).eval #[Value.ref b] s none [] s = some (.int 10) := va_eqt (hs (.eq (.elem (Term.static "TypeRoom$Row" "ROMAN_VALUES" "[I") (.int 8)) (.int 10)) (by decide +kernel))
  have e9 : (Term.elem (Term.static "TypeRoom$Row" "ROMAN_VALUES" "[I") (.int 9)).eval #[Value.ref b] s none [] s = some (.int 9) := va_eqt (hs (.eq (.elem (Term.static "TypeRoom$Row" "ROMAN_VALUES" "[I") (.int 9)) (.int 9)) (by decide +kernel))
  have e10 : (Term.elem (Term.static "TypeRoom$Row" "ROMAN_VALUES" "[I") (.int 10)).eval #[Value.ref b] s none [] s = some (.int 5) := va_eqt (hs (.eq (.elem (Term.static "TypeRoom$Row" "ROMAN_VALUES" "[I") (.int 10)) (.int 5)) (by decide +kernel))
  have e11 : (Term.elem (Term.static "TypeRoom$Row" "ROMAN_VALUES" "[I") (.int 11)).eval #[Value.ref b] s none [] s = some (.int 4) := va_eqt (hs (.eq (.elem (Term.static "TypeRoom$Row" "ROMAN_VALUES" "[I") (.int 11)) (.int 4)) (by decide +kernel))
  have e12 : (Term.elem (Term.static "TypeRoom$Row" "ROMAN_VALUES" "[I") (.int 12)).eval #[Value.ref b] s none [] s = some (.int 1) := va_eqt (hs (.eq (.elem (Term.static "TypeRoom$Row" "ROMAN_VALUES" "[I") (.int 12)) (.int 1)) (by decide +kernel))
  have hel : ∀ j : Nat, j < 13 → (Term.elem (Term.static "TypeRoom$Row" "ROMAN_VALUES" "[I") (.int (Int32.ofNat j))).eval #[Value.ref b] s none [] s = some (.int (tOf [1000, 900, 500, 400, 100, 90, 50, 40, 10, 9, 5, 4, 1] j)) := by
    intro j hj
    rcases (show j = 0 ∨ j = 1 ∨ j = 2 ∨ j = 3 ∨ j = 4 ∨ j = 5 ∨ j = 6 ∨ j = 7 ∨ j = 8 ∨ j = 9 ∨ j = 10 ∨ j = 11 ∨ j = 12 by omega) with rfl | rfl | rfl | rfl | rfl | rfl | rfl | rfl | rfl | rfl | rfl | rfl | rfl
    · exact e0
    · exact e1
    · exact e2
    · exact e3
    · exact e4
    · exact e5
    · exact e6
    · exact e7
    · exact e8
    · exact e9
    · exact e10
    · exact e11
    · exact e12
  obtain ⟨t, et, T⟩ := va_Tof (N := 13) (f := fun j => .int (tOf [1000, 900, 500, 400, 100, 90, 50, 40, 10, 9, 5, 4, 1] j)) (A := fun q : Nat => s.heap.size ≤ q) (by decide) (hs (.arrayOf (Term.static "TypeRoom$Row" "ROMAN_VALUES" "[I") .int) (by decide +kernel)) (va_eqt (hs (.eq (.length (Term.static "TypeRoom$Row" "ROMAN_VALUES" "[I")) (.int 13)) (by decide +kernel))) hel hA
  exact ⟨t, va_Zof (hts _ (List.mem_append_right _ (tn_5 (i := 36) (by decide +kernel)))) (hts _ (tb_sub _ wi_5)) et hA, T⟩
set_option maxHeartbeats 4000000 in
theorem st_4 {b : Nat} {s : State} (hts : ∀ w ∈ lw_tbl, w.before #[Value.ref b] s = true) (hgv : (Jvm.Cond.and given_1 narrow_1).before #[Value.ref b] s = true) : ∃ t, sRow "TypeRoom$Texts" "ARITIES" t 21 (tOf [1, 1, 1, 2, 1, 2, 3, 2, 1, 2, 2, 2, 2, 2, 2, 4, 1, 1, 1, 1, 1]) (fun q => s.heap.size ≤ q) s s.heap := by
  have hs := flat_of_before _ hgv
  have hA : ∀ a : Nat, a < s.heap.size → ¬ (fun q : Nat => s.heap.size ≤ q) a := fun a h => Nat.not_le.mpr h
  have e0 : (Term.elem (Term.static "TypeRoom$Texts" "ARITIES" "[I") (.int 0)).eval #[Value.ref b] s none [] s = some (.int 1) := va_eqt (hs (.eq (.elem (Term.static "TypeRoom$Texts" "ARITIES" "[I") (.int 0)) (.int 1)) (by decide +kernel))
  have e1 : (Term.elem (Term.static "TypeRoom$Texts" "ARITIES" "[I") (.int 1)).eval #[Value.ref b] s none [] s = some (.int 1) := va_eqt (hs (.eq (.elem (Term.static "TypeRoom$Texts" "ARITIES" "[I") (.int 1)) (.int 1)) (by decide +kernel))
  have e2 : (Term.elem (Term.static "TypeRoom$Texts" "ARITIES" "[I") (.int 2)).eval #[Value.ref b] s none [] s = some (.int 1) := va_eqt (hs (.eq (.elem (Term.static "TypeRoom$Texts" "ARITIES" "[I") (.int 2)) (.int 1)) (by decide +kernel))
  have e3 : (Term.elem (Term.static "TypeRoom$Texts" "ARITIES" "[I") (.int 3)).eval #[Value.ref b] s none [] s = some (.int 2) := va_eqt (hs (.eq (.elem (Term.static "TypeRoom$Texts" "ARITIES" "[I") (.int 3)) (.int 2)) (by decide +kernel))
  have e4 : (Term.elem (Term.static "TypeRoom$Texts" "ARITIES" "[I") (.int 4)).eval #[Value.ref b] s none [] s = some (.int 1) := va_eqt (hs (.eq (.elem (Term.static "TypeRoom$Texts" "ARITIES" "[I") (.int 4)) (.int 1)) (by decide +kernel))
  have e5 : (Term.elem (Term.static "TypeRoom$Texts" "ARITIES" "[I") (.int 5)).eval #[Value.ref b] s none [] s = some (.int 2) := va_eqt (hs (.eq (.elem (Term.static "TypeRoom$Texts" "ARITIES" "[I") (.int 5)) (.int 2)) (by decide +kernel))
  have e6 : (Term.elem (Term.static "TypeRoom$Texts" "ARITIES" "[I") (.int 6)).eval #[Value.ref b] s none [] s = some (.int 3) := va_eqt (hs (.eq (.elem (Term.static "TypeRoom$Texts" "ARITIES" "[I") (.int 6)) (.int 3)) (by decide +kernel))
  have e7 : (Term.elem (Term.static "TypeRoom$Texts" "ARITIES" "[I") (.int 7)).eval #[Value.ref b] s none [] s = some (.int 2) := va_eqt (hs (.eq (.elem (Term.static "TypeRoom$Texts" "ARITIES" "[I") (.int 7)) (.int 2)) (by decide +kernel))
  have e8 : (Term.elem (Term.static "TypeRoom$Texts" "ARITIES" "[I") (.int 8)).eval #[Value.ref b] s none [] s = some (.int 1) := va_eqt (hs (.eq (.elem (Term.static "TypeRoom$Texts" "ARITIES" "[I") (.int 8)) (.int 1)) (by decide +kernel))
  have e9 : (Term.elem (Term.static "TypeRoom$Texts" "ARITIES" "[I") (.int 9)).eval #[Value.ref b] s none [] s = some (.int 2) := va_eqt (hs (.eq (.elem (Term.static "TypeRoom$Texts" "ARITIES" "[I") (.int 9)) (.int 2)) (by decide +kernel))
  have e10 : (Term.elem (Term.static "TypeRoom$Texts" "ARITIES" "[I") (.int 10)).eval #[Value.ref b] s none [] s = some (.int 2) := va_eqt (hs (.eq (.elem (Term.static "TypeRoom$Texts" "ARITIES" "[I") (.int 10)) (.int 2)) (by decide +kernel))
  have e11 : (Term.elem (Term.static "TypeRoom$Texts" "ARITIES" "[I") (.int 11)).eval #[Value.ref b] s none [] s = some (.int 2) := va_eqt (hs (.eq (.elem (Term.static "TypeRoom$Texts" "ARITIES" "[I") (.int 11)) (.int 2)) (by decide +kernel))
  have e12 : (Term.elem (Term.static "TypeRoom$Texts" "ARITIES" "[I") (.int 12)).eval #[Value.ref b] s none [] s = some (.int 2) := va_eqt (hs (.eq (.elem (Term.static "TypeRoom$Texts" "ARITIES" "[I") (.int 12)) (.int 2)) (by decide +kernel))
  have e13 : (Term.elem (Term.static "TypeRoom$Texts" "ARITIES" "[I") (.int 13)).eval #[Value.ref b] s none [] s = some (.int 2) := va_eqt (hs (.eq (.elem (Term.static "TypeRoom$Texts" "ARITIES" "[I") (.int 13)) (.int 2)) (by decide +kernel))
  have e14 : (Term.elem (Term.static "TypeRoom$Texts" "ARITIES" "[I") (.int 14)).eval #[Value.ref b] s none [] s = some (.int 2) := va_eqt (hs (.eq (.elem (Term.static "TypeRoom$Texts" "ARITIES" "[I") (.int 14)) (.int 2)) (by decide +kernel))
  have e15 : (Term.elem (Term.static "TypeRoom$Texts" "ARITIES" "[I") (.int 15)).eval #[Value.ref b] s none [] s = some (.int 4) := va_eqt (hs (.eq (.elem (Term.static "TypeRoom$Texts" "ARITIES" "[I") (.int 15)) (.int 4)) (by decide +kernel))
  have e16 : (Term.elem (Term.static "TypeRoom$Texts" "ARITIES" "[I") (.int 16)).eval #[Value.ref b] s none [] s = some (.int 1) := va_eqt (hs (.eq (.elem (Term.static "TypeRoom$Texts" "ARITIES" "[I") (.int 16)) (.int 1)) (by decide +kernel))
  have e17 : (Term.elem (Term.static "TypeRoom$Texts" "ARITIES" "[I") (.int 17)).eval #[Value.ref b] s none [] s = some (.int 1) := va_eqt (hs (.eq (.elem (Term.static "TypeRoom$Texts" "ARITIES" "[I") (.int 17)) (.int 1)) (by decide +kernel))
  have e18 : (Term.elem (Term.static "TypeRoom$Texts" "ARITIES" "[I") (.int 18)).eval #[Value.ref b] s none [] s = some (.int 1) := va_eqt (hs (.eq (.elem (Term.static "TypeRoom$Texts" "ARITIES" "[I") (.int 18)) (.int 1)) (by decide +kernel))
  have e19 : (Term.elem (Term.static "TypeRoom$Texts" "ARITIES" "[I") (.int 19)).eval #[Value.ref b] s none [] s = some (.int 1) := va_eqt (hs (.eq (.elem (Term.static "TypeRoom$Texts" "ARITIES" "[I") (.int 19)) (.int 1)) (by decide +kernel))
  have e20 : (Term.elem (Term.static "TypeRoom$Texts" "ARITIES" "[I") (.int 20)).eval #[Value.ref b] s none [] s = some (.int 1) := va_eqt (hs (.eq (.elem (Term.static "TypeRoom$Texts" "ARITIES" "[I") (.int 20)) (.int 1)) (by decide +kernel))
  have hel : ∀ j : Nat, j < 21 → (Term.elem (Term.static "TypeRoom$Texts" "ARITIES" "[I") (.int (Int32.ofNat j))).eval #[Value.ref b] s none [] s = some (.int (tOf [1, 1, 1, 2, 1, 2, 3, 2, 1, 2, 2, 2, 2, 2, 2, 4, 1, 1, 1, 1, 1] j)) := by
    intro j hj
    rcases (show j = 0 ∨ j = 1 ∨ j = 2 ∨ j = 3 ∨ j = 4 ∨ j = 5 ∨ j = 6 ∨ j = 7 ∨ j = 8 ∨ j = 9 ∨ j = 10 ∨ j = 11 ∨ j = 12 ∨ j = 13 ∨ j = 14 ∨ j = 15 ∨ j = 16 ∨ j = 17 ∨ j = 18 ∨ j = 19 ∨ j = 20 by omega) with rfl | rfl | rfl | rfl | rfl | rfl | rfl | rfl | rfl | rfl | rfl | rfl | rfl | rfl | rfl | rfl | rfl | rfl | rfl | rfl | rfl
    · exact e0
    · exact e1
    · exact e2
    · exact e3
    · exact e4
    · exact e5
    · exact e6
    · exact e7
    · exact e8
    · exact e9
    · exact e10
    · exact e11
    · exact e12
    · exact e13
    · exact e14
    · exact e15
    · exact e16
    · exact e17
    · exact e18
    · exact e19
    · exact e20
  obtain ⟨t, et, T⟩ := va_Tof (N := 21) (f := fun j => .int (tOf [1, 1, 1, 2, 1, 2, 3, 2, 1, 2, 2, 2, 2, 2, 2, 4, 1, 1, 1, 1, 1] j)) (A := fun q : Nat => s.heap.size ≤ q) (by decide) (hs (.arrayOf (Term.static "TypeRoom$Texts" "ARITIES" "[I") .int) (by decide +kernel)) (va_eqt (hs (.eq (.length (Term.static "TypeRoom$Texts" "ARITIES" "[I")) (.int 21)) (by decide +kernel))) hel hA
  exact ⟨t, va_Zof (hts _ (List.mem_append_right _ (tn_5 (i := 208) (by decide +kernel)))) (hts _ (tb_sub _ wi_10)) et hA, T⟩
def strRep : List (String × Nat) := [("TypeRoom$Rules", 72), ("TypeRoom$Rules", 101), ("TypeRoom$Rules", 129), ("TypeRoom$Row", 54), ("TypeRoomModel", 590), ("TypeRoomModel", 599), ("TypeRoomModel", 604), ("TypeRoomModel", 610), ("TypeRoomModel", 612), ("TypeRoomModel", 617), ("TypeRoomModel", 622)]
def strTm (i : Nat) : Term := .string (strRep.getD i ("", 0)).1 (strRep.getD i ("", 0)).2
abbrev strVa (i : Nat) : Term := .field (strTm i) "java/lang/String" "value" "[B"
def strFl : List Cond := flatC (Jvm.Cond.and given_1 narrow_1)
def strEx (i : Nat) : List Cond := Cond.exactly (strTm i) "java/lang/String" :: Cond.eq (.field (strTm i) "java/lang/String" "coder" "B") (.int 0) :: Cond.arrayOf (strVa i) .byte :: Cond.eq (.length (strVa i)) (.int (Int32.ofNat (strLn.getD i 0))) :: (List.range (strLn.getD i 0)).map (fun j => Cond.eq (.elem (strVa i) (.int (Int32.ofNat j))) (.int ((strBy.getD i []).getD j 0)))
theorem mem_dt {l : List Cond} {b n : Nat} {m : List Cond} (h : (l.drop b).take n = m) {w : Cond} (hw : w ∈ m) : w ∈ l := by
  rw [← h] at hw
  exact List.mem_of_mem_drop (List.mem_of_mem_take hw)
theorem str_2_0 : (strFl.drop 144).take 43 = strEx 0 := by decide +kernel
theorem str_2_1 : (strFl.drop 187).take 94 = strEx 1 := by decide +kernel
theorem str_2_2 : (strFl.drop 282).take 77 = strEx 2 := by decide +kernel
theorem str_2_3 : (strFl.drop 361).take 23 = strEx 3 := by decide +kernel
theorem str_2_4 : (strFl.drop 485).take 9 = strEx 4 := by decide +kernel
theorem str_2_5 : (strFl.drop 599).take 9 = strEx 5 := by decide +kernel
theorem str_2_6 : (strFl.drop 700).take 9 = strEx 6 := by decide +kernel
theorem str_2_7 : (strFl.drop 718).take 10 = strEx 7 := by decide +kernel
theorem str_2_8 : (strFl.drop 738).take 9 = strEx 8 := by decide +kernel
theorem str_2_9 : (strFl.drop 758).take 11 = strEx 9 := by decide +kernel
theorem str_2_10 : (strFl.drop 781).take 10 = strEx 10 := by decide +kernel
theorem str_a : ∀ i, i < 11 → ∀ w ∈ strEx i, w ∈ strFl
  | 0, _ => fun w hw => mem_dt str_2_0 hw
  | 1, _ => fun w hw => mem_dt str_2_1 hw
  | 2, _ => fun w hw => mem_dt str_2_2 hw
  | 3, _ => fun w hw => mem_dt str_2_3 hw
  | 4, _ => fun w hw => mem_dt str_2_4 hw
  | 5, _ => fun w hw => mem_dt str_2_5 hw
  | 6, _ => fun w hw => mem_dt str_2_6 hw
  | 7, _ => fun w hw => mem_dt str_2_7 hw
  | 8, _ => fun w hw => mem_dt str_2_8 hw
  | 9, _ => fun w hw => mem_dt str_2_9 hw
  | 10, _ => fun w hw => mem_dt str_2_10 hw
  | n + 11, h => absurd h (by omega)
theorem str_1 (i : Nat) (hi : i < 11) : Cond.exactly (strTm i) "java/lang/String" ∈ strFl ∧ Cond.eq (.field (strTm i) "java/lang/String" "coder" "B") (.int 0) ∈ strFl ∧ Cond.arrayOf (strVa i) .byte ∈ strFl ∧ Cond.eq (.length (strVa i)) (.int (Int32.ofNat (strLn.getD i 0))) ∈ strFl :=
  ⟨str_a i hi _ List.mem_cons_self, str_a i hi _ (List.mem_cons_of_mem _ List.mem_cons_self), str_a i hi _ (List.mem_cons_of_mem _ (List.mem_cons_of_mem _ List.mem_cons_self)), str_a i hi _ (List.mem_cons_of_mem _ (List.mem_cons_of_mem _ (List.mem_cons_of_mem _ List.mem_cons_self)))⟩
theorem str_2 (i : Nat) (hi : i < 11) (j : Nat) (hj : j < strLn.getD i 0) : Cond.eq (.elem (strVa i) (.int (Int32.ofNat j))) (.int ((strBy.getD i []).getD j 0)) ∈ strFl :=
  str_a i hi _ (List.mem_cons_of_mem _ (List.mem_cons_of_mem _ (List.mem_cons_of_mem _ (List.mem_cons_of_mem _ (List.mem_map.mpr ⟨j, List.mem_range.mpr hj, rfl⟩)))))
def strNe : List (Nat × Nat × Nat) := [(0, 1, 281), (0, 2, 359), (0, 3, 384), (0, 4, 494), (0, 5, 608), (0, 6, 709), (0, 7, 728), (0, 8, 747), (0, 9, 769), (0, 10, 791), (1, 2, 360), (1, 3, 385), (1, 4, 495), (1, 5, 609), (1, 6, 710), (1, 7, 729), (1, 8, 748), (1, 9, 770), (1, 10, 792), (2, 3, 386), (2, 4, 496), (2, 5, 610), (2, 6, 711), (2, 7, 730), (2, 8, 749), (2, 9, 771), (2, 10, 793), (3, 4, 497), (3, 5, 611), (3, 6, 712), (3, 7, 731), (3, 8, 750), (3, 9, 772), (3, 10, 794), (4, 5, 613), (4, 6, 714), (4, 7, 733), (4, 8, 752), (4, 9, 774), (4, 10, 796), (5, 6, 716), (5, 7, 735), (5, 8, 754), (5, 9, 776), (5, 10, 798), (6, 7, 737), (6, 8, 756), (6, 9, 778), (6, 10, 800), (7, 8, 757), (7, 9, 779), (7, 10, 801), (8, 9, 780), (8, 10, 802), (9, 10, 803)]
theorem str_n : ∀ q ∈ strNe, strFl[q.2.2]? = some (Cond.not (.eq (strTm q.1) (strTm q.2.1))) := by decide +kernel
theorem str_m : ∀ i, i < 11 → ∀ j, j < 11 → i ≠ j → (strNe.any fun q => q.1 == i && q.2.1 == j) = true ∨ (strNe.any fun q => q.1 == j && q.2.1 == i) = true := by decide +kernel
theorem str_o {i j : Nat} (h : (strNe.any fun q => q.1 == i && q.2.1 == j) = true) : Cond.not (.eq (strTm i) (strTm j)) ∈ strFl := by
  obtain ⟨q, h1, h2⟩ := List.any_eq_true.mp h
  rw [Bool.and_eq_true] at h2
  have e1 : q.1 = i := eq_of_beq h2.1
  have e2 : q.2.1 = j := eq_of_beq h2.2
  have h3 := List.mem_of_getElem? (str_n q h1)
  rw [e1, e2] at h3
  exact h3
theorem str_3 (i : Nat) (hi : i < 11) (j : Nat) (hj : j < 11) (hn : i ≠ j) : Cond.not (.eq (strTm i) (strTm j)) ∈ strFl ∨ Cond.not (.eq (strTm j) (strTm i)) ∈ strFl := (str_m i hi j hj hn).elim (fun h => Or.inl (str_o h)) (fun h => Or.inr (str_o h))
theorem str_ln0 : ∀ i, i < 11 → strLn.getD i 0 < 2 ^ 31 := by decide +kernel
theorem st_str {b : Nat} {s : State} (hgv : (Jvm.Cond.and given_1 narrow_1).before #[Value.ref b] s = true) : ∃ adK adV : Nat → Nat, vk_S 11 strLn strBy adK adV (fun q => s.heap.size ≤ q) s s.heap ∧ ∀ i, i < 11 → (strTm i).eval #[Value.ref b] s none [] s = some (.ref (adK i)) := by
  have hs := flat_of_before _ hgv
  exact vk_Sof str_ln0 (fun i hi => hs _ (str_1 i hi).1) (fun i hi => hs _ (str_1 i hi).2.1) (fun i hi => hs _ (str_1 i hi).2.2.1) (fun i hi => hs _ (str_1 i hi).2.2.2) (fun i hi j hj => hs _ (str_2 i hi j hj)) (fun i j hi hj hij => (str_3 i hi j hj hij).elim (fun h => Or.inl (hs _ h)) (fun h => Or.inr (hs _ h))) (fun a h => Nat.not_le.mpr h)
theorem st_NS {b : Nat} {s : State} (hts : ∀ w ∈ lw_tbl, w.before #[Value.ref b] s = true) (hgv : (Jvm.Cond.and given_1 narrow_1).before #[Value.ref b] s = true) {adK : Nat → Nat} (hE : ∀ i, i < 11 → (strTm i).eval #[Value.ref b] s none [] s = some (.ref (adK i))) {t : Nat → Nat} (ht : ∀ i, i < 11 → t (7 + i) = adK i) : NS t s := by
  have hs := flat_of_before _ hgv
  refine ⟨fun w hw hi => ?_, va_AO.of (hts _ (List.mem_append_right _ (tn_1 (i := 58) (by decide +kernel)))), fun q hq => ?_, va_Nc.of (hs (.not (.castable "java/lang/IllegalArgumentException" "java/lang/IllegalStateException")) (by decide +kernel)), va_Nc.of (hs (.not (.castable "java/lang/IndexOutOfBoundsException" "java/lang/IllegalStateException")) (by decide +kernel))⟩
  · have h := hts w (List.mem_append_right _ hw)
    cases w <;> first | exact va_Nw.of rfl h | cases hi
  · simp only [strRefs, List.mem_cons, List.not_mem_nil, or_false] at hq
    rcases hq with rfl | rfl | rfl | rfl | rfl | rfl | rfl | rfl | rfl | rfl | rfl | rfl | rfl | rfl
    all_goals (dsimp only; rw [ht _ (by decide)])
    · exact vk_R.of (hts _ (List.mem_append_right _ (tn_4 (i := 128) (by decide +kernel)))) (hE 0 (by decide))
    · exact vk_R.of (hts _ (List.mem_append_right _ (tn_4 (i := 191) (by decide +kernel)))) (hE 1 (by decide))
    · exact vk_R.of (hts _ (List.mem_append_right _ (tn_4 (i := 227) (by decide +kernel)))) (hE 2 (by decide))
    · exact vk_R.of (hts _ (List.mem_append_right _ (tn_5 (i := 37) (by decide +kernel)))) (hE 3 (by decide))
    · exact vk_R.of (hts _ (List.mem_append_right _ (tn_5 (i := 201) (by decide +kernel)))) (va_eqR (hs (.eq (.string "TypeRoom$Rules" 101) (.string "TypeRoom$Texts" 148)) (by decide +kernel)) (hE 1 (by decide)))
    · exact vk_R.of (hts _ (List.mem_append_right _ (tn_10 (i := 79) (by decide +kernel)))) (hE 4 (by decide))
    · exact vk_R.of (hts _ (List.mem_append_right _ (tn_10 (i := 103) (by decide +kernel)))) (va_eqR (hs (.eq (.string "TypeRoom$Rules" 101) (.string "TypeRoomModel" 441)) (by decide +kernel)) (hE 1 (by decide)))
    · exact vk_R.of (hts _ (List.mem_append_right _ (tn_10 (i := 111) (by decide +kernel)))) (hE 5 (by decide))
    · exact vk_R.of (hts _ (List.mem_append_right _ (tn_10 (i := 116) (by decide +kernel)))) (va_eqR (hs (.eq (.string "TypeRoom$Rules" 129) (.string "TypeRoomModel" 630)) (by decide +kernel)) (hE 2 (by decide)))
    · exact vk_R.of (hts _ (List.mem_append_right _ (tn_10 (i := 123) (by decide +kernel)))) (hE 6 (by decide))
    · exact vk_R.of (hts _ (List.mem_append_right _ (tn_10 (i := 144) (by decide +kernel)))) (hE 7 (by decide))
    · exact vk_R.of (hts _ (List.mem_append_right _ (tn_10 (i := 145) (by decide +kernel)))) (hE 8 (by decide))
    · exact vk_R.of (hts _ (List.mem_append_right _ (tn_10 (i := 180) (by decide +kernel)))) (hE 9 (by decide))
    · exact vk_R.of (hts _ (List.mem_append_right _ (tn_11 (i := 27) (by decide +kernel)))) (hE 10 (by decide))
theorem st_cx {p : Program} {s : State} {m : MethodId} {meth : Method} {c : Code} {b L : Nat} {xs : Nat → Int32} (C0 : lw_At p s m meth c b L xs) : ∃ (D : va_G) (G : Nat → ClassId) (t : Nat → Nat), Cx p s m #[Value.ref b] meth c code 7 R_law D G t (fun q => s.heap.size ≤ q) := by
  obtain ⟨hx, hb, hr, hml, hown, hts, hX, hbl, hlocks, hgv⟩ := C0
  have htb : ∀ w ∈ tb, w.before #[Value.ref b] s = true := fun w hw => hts w (tb_sub w hw)
  have hs := flat_of_before _ hgv
  have hA : ∀ a : Nat, a < s.heap.size → ¬ (fun q : Nat => s.heap.size ≤ q) a := fun a h => Nat.not_le.mpr h
  obtain ⟨D, G, hK⟩ := st_K htb (va_AO.of (hts _ (List.mem_append_right _ (tn_1 (i := 58) (by decide +kernel)))))
  obtain ⟨adK, adV, hS1, hE⟩ := st_str hgv
  obtain ⟨t0, h0⟩ := st_0 hts hgv
  obtain ⟨t1, h1⟩ := st_1 hts hgv
  obtain ⟨t2, h2⟩ := st_2 hts hgv
  obtain ⟨t3, h3⟩ := st_3 hts hgv
  obtain ⟨t4, h4⟩ := st_4 hts hgv
  have hth : (Cond.initialized Bundle.tN).before #[Value.ref b] s = true := hts _ (tb_sub _ (tb_1 (i := 16) (by decide +kernel) rfl))
  have u1 : vx_Zq Bundle.tN "UNASSIGNED_STACK" Bundle.steD (fun q : Nat => s.heap.size ≤ q) s s.heap := vx_Zqof (hts _ (List.mem_append_right _ (tn_4 (i := 80) (by decide +kernel)))) hth (hs (.isRef (.static Bundle.tN "UNASSIGNED_STACK" Bundle.steD)) (by decide +kernel)) hA
  have u2 : vx_Zq Bundle.tN "SUPPRESSED_SENTINEL" Bundle.listD (fun q : Nat => s.heap.size ≤ q) s s.heap := vx_Zqof (hts _ (List.mem_append_right _ (tn_4 (i := 82) (by decide +kernel)))) hth (hs (.isRef (.static Bundle.tN "SUPPRESSED_SENTINEL" Bundle.listD)) (by decide +kernel)) hA
  have u3 : va_Z "java/lang/String" "COMPACT_STRINGS" "Z" (.int 1) (fun q : Nat => s.heap.size ≤ q) s s.heap := va_Zof (hts _ (List.mem_append_right _ (tn_4 (i := 141) (by decide +kernel)))) (hts _ (tb_sub _ (tb_1 (i := 21) (by decide +kernel) rfl))) (va_eqi (hs (.eq (.static "java/lang/String" "COMPACT_STRINGS" "Z") (.int 1)) (by decide +kernel))) hA
  have u4 : va_Zq "jdk/internal/util/Preconditions" "SIOOBE_FORMATTER" "Ljava/util/function/BiFunction;" (fun q : Nat => s.heap.size ≤ q) s s.heap := va_Zqof (hts _ (List.mem_append_right _ (tn_4 (i := 157) (by decide +kernel)))) (hts _ (tb_sub _ (tb_1 (i := 23) (by decide +kernel) rfl))) (hs (.isRef (.static "jdk/internal/util/Preconditions" "SIOOBE_FORMATTER" "Ljava/util/function/BiFunction;")) (by decide +kernel)) hA
  let tt : Nat → Nat := fun k => if k < 5 then [t0, t1, t2, t3, t4].getD k 0 else if k < 18 then adK (k - 7) else adV (k - 18)
  have e1 : ∀ i, i < 11 → tt (7 + i) = adK i := fun i hi => by
    show (if 7 + i < 5 then _ else if 7 + i < 18 then adK (7 + i - 7) else _) = _
    rw [if_neg (by omega), if_pos (by omega), Nat.add_sub_cancel_left]
  have e2 : ∀ i, i < 11 → tt (18 + i) = adV i := fun i hi => by
    show (if 18 + i < 5 then _ else if 18 + i < 18 then _ else adV (18 + i - 18)) = _
    rw [if_neg (by omega), if_neg (by omega), Nat.add_sub_cancel_left]
  refine ⟨D, G, tt, hx, hb, hml, hown, htb, hK, fun q h => h, ⟨h0, h1, h2, h3, h4, u1, u2, fun i hi => ?_, u3, u4⟩, st_NS hts hgv hE e1, hlocks⟩
  rw [e1 i hi, e2 i hi]
  exact hS1.1 i hi
