def R_law : String := "TypeRoomLaw"
def lw_P (b : Addr) (xs : List Int32) (args : Array Value) (s : State) : Prop := args = #[.ref b] ∧ s.IntsAt b xs ∧ xs.length ≤ 7 ∧ (Jvm.Cond.and given_1 narrow_1).before args s = true
def lw_Q (_ : Array Value) (s : State) (o : Outcome) (t : State) : Prop := o = .returned (some (.int 1)) ∧ Framed s o t [] 600002 7302232
def lw_Z (below : List Frame) (a : Array Value) (s : State) : State → Prop := fun t => ∃ o, t.status = .running ∧ Ended t below o ∧ lw_Q a s o t
/-- the law's own end, with 1 on the stack, nothing written that was there before, its room as the claim has it -/
theorem lw_ret {p : Program} {l : Launch} {e : Env} {s : State} {m : MethodId} {below : List Frame} {meth : Method} {c : Code} {b : Nat} (hx : p.tables.exec = Jvm.exec) (hb : c.code = code) (hr : meth.sig.returnType = ret) (hlocks : meth.locks = false) {pc : Nat} {H : Heap} {ls : Array Slot} (hdg : decode code pc = .ok (.ireturn, 1)) : W p l e room_1 s m #[Value.ref b] below meth c H [] 600002 7302232 (lw_Z below #[Value.ref b] s) (F0 m pc ls [.int 1]) := by
  intro T hT X
  obtain ⟨fs, hret, hrun, hended, hW, hframe⟩ := X.leave (v := some (.int 1)) (hlocks := hlocks) (fun h => by rw [hr] at h; cases h)
  have hmeth' : T.vm.method? m = some meth := X.method'
  refine ⟨T.setFrames fs, ?_, .returned (some (.int 1)), hrun, hended, rfl, ⟨_, rfl⟩, hW, hframe⟩
  jvm_step X.here [X.here.top, hx, hb, hdg, hmeth', hr, ret, narrow_b1]
  (try refine ⟨rfl, ?_⟩); (try refine ⟨rfl, ?_⟩)
  first | (intro acts; rw [hret _ acts rfl rfl rfl]) | rw [hret _ _ rfl rfl rfl]
  exact Steps.refl _
/-- what holds at the law's entry: the machine, the code, the tables' words (any of lw_tbl by 'hts w (by decide +kernel)'), the script of L ints xs at the cell b, what the Statement gives of the start (any of its parts by flat_of_before) -/
def lw_At (p : Program) (s : State) (m : MethodId) (meth : Method) (c : Code) (b L : Nat) (xs : Nat → Int32) : Prop :=
  p.tables.exec = Jvm.exec ∧ c.code = code ∧ meth.sig.returnType = ret ∧ c.maxLocals = 7 ∧ s.vm.findClass R_law = some m.cls ∧ (∀ w ∈ lw_tbl, w.before #[Value.ref b] s = true) ∧ va_X b L xs s s.heap ∧ b < s.heap.size ∧ meth.locks = false ∧ (Jvm.Cond.and given_1 narrow_1).before #[Value.ref b] s = true
theorem wt_11 : Cond.instantiable RX11 15 ∈ tb := tb_1 (i := 27) (by decide +kernel) rfl
theorem wt_12 : Cond.instantiable RX12 164 ∈ tb := tb_8 (i := 12) (by decide +kernel) rfl
theorem wa_J : Cond.arrayClass .long ∈ tb := tb_12 (i := 154) (by decide +kernel) rfl
set_option maxHeartbeats 4000000 in
theorem st_K {args : Array Value} {s : State} (hts : ∀ w ∈ tb, w.before args s = true) (hO : va_AO "TypeRoom$Row" s) : ∃ (D : va_G) (G : Nat → ClassId), va_K D vwCl (tyG G) s := by
  obtain ⟨c0, i0, k0⟩ := u_known hts inX0 (hts _ wt_0)
  obtain ⟨c1, i1, k1⟩ := u_known hts inX1 (hts _ wt_1)
  obtain ⟨c2, i2, k2⟩ := u_known hts inX2 (hts _ wt_2)
  obtain ⟨c3, i3, k3⟩ := u_known hts inX3 (hts _ wt_3)
  obtain ⟨c4, i4, k4⟩ := u_known hts inX4 (hts _ wt_4)
  obtain ⟨c5, i5, k5⟩ := u_known hts inX5 (hts _ wt_5)
  obtain ⟨c6, i6, k6⟩ := u_known hts inX6 (hts _ wt_6)
  obtain ⟨c7, i7, k7⟩ := u_known hts inX7 (hts _ wt_7)
  obtain ⟨c8, i8, k8⟩ := u_known hts inX8 (hts _ wt_8)
  obtain ⟨c9, i9, k9⟩ := u_known hts inX9 (hts _ wt_9)
  obtain ⟨c10, i10, k10⟩ := u_known hts inX10 (hts _ wt_10)
  obtain ⟨c11, i11, k11⟩ := u_known hts inX11 (hts _ wt_11)
  obtain ⟨c12, i12, k12⟩ := u_known hts inX12 (hts _ wt_12)
  obtain ⟨g0, kk0, cm0, f0, e0, q0⟩ := Cond.arrayClass_spec (hts _ wa_I)
  obtain ⟨g1, kk1, cm1, f1, e1, q1⟩ := Cond.arrayClass_spec (hts _ wa_B)
  obtain ⟨g2, kk2, cm2, f2, e2, q2⟩ := Cond.arrayClass_spec (hts _ wa_Z)
  obtain ⟨g3, kk3, cm3, f3, e3, q3⟩ := Cond.arrayClass_spec (hts _ wa_J)
  obtain ⟨cm4, g4, kk4, p4, -, e4, q4, f4⟩ := Cond.arrayOver_spec (va_AO.use (A := #[]) hO)
  refine ⟨(fun c => [c0, c1, c2, c3, c4, c5, c6, c7, c8, c9, c10, c11, c12].getD c 0, fun c => [i0, i1, i2, i3, i4, i5, i6, i7, i8, i9, i10, i11, i12].getD c (fun _ => 0)), fun k => [g0, g1, g2, g3, g4].getD k 0, fun c q hq => ?_, fun k q hq => ?_⟩
  · have hc : c < 13 := (List.getElem?_eq_some_iff.mp hq).1
    rcases (show c = 0 ∨ c = 1 ∨ c = 2 ∨ c = 3 ∨ c = 4 ∨ c = 5 ∨ c = 6 ∨ c = 7 ∨ c = 8 ∨ c = 9 ∨ c = 10 ∨ c = 11 ∨ c = 12 by omega) with rfl | rfl | rfl | rfl | rfl | rfl | rfl | rfl | rfl | rfl | rfl | rfl | rfl
    · cases hq; exact k0
    · cases hq; exact k1
    · cases hq; exact k2
    · cases hq; exact k3
    · cases hq; exact k4
    · cases hq; exact k5
    · cases hq; exact k6
    · cases hq; exact k7
    · cases hq; exact k8
    · cases hq; exact k9
    · cases hq; exact k10
    · cases hq; exact k11
    · cases hq; exact k12
  · have hk : k < 5 := (List.getElem?_eq_some_iff.mp hq).1
    rcases (show k = 0 ∨ k = 1 ∨ k = 2 ∨ k = 3 ∨ k = 4 by omega) with rfl | rfl | rfl | rfl | rfl
    · cases hq; exact ⟨fun n z => ⟨fun _ h => (by cases h), kk0, e0, cm0, q0⟩, f0⟩
    · cases hq; exact ⟨fun n z => ⟨fun _ h => (by cases h), kk1, e1, cm1, q1⟩, f1⟩
    · cases hq; exact ⟨fun n z => ⟨fun _ h => (by cases h), kk2, e2, cm2, q2⟩, f2⟩
    · cases hq; exact ⟨fun n z => ⟨fun _ h => (by cases h), kk3, e3, cm3, q3⟩, f3⟩
    · cases hq; exact ⟨fun n z => ⟨fun _ h => (by cases h), kk4, e4, cm4, q4⟩, kk4, cm4, e4, q4, p4, f4⟩
set_option maxHeartbeats 4000000 in
theorem st_0 {b : Nat} {s : State} (hts : ∀ w ∈ lw_tbl, w.before #[Value.ref b] s = true) (hgv : (Jvm.Cond.and given_1 narrow_1).before #[Value.ref b] s = true) : ∃ t, sRow "TypeRoom$Rules" "AT_FIRST" t 13 (tOf [40, 2, 3, 1, 2, 2, 0, 2, 1, 24, 0, 1, 1]) (fun q => s.heap.size ≤ q) s s.heap := by
  have hs := flat_of_before _ hgv
  have hA : ∀ a : Nat, a < s.heap.size → ¬ (fun q : Nat => s.heap.size ≤ q) a := fun a h => Nat.not_le.mpr h
  have e0 : (Term.elem (Term.static "TypeRoom$Rules" "AT_FIRST" "[I") (.int 0)).eval #[Value.ref b] s none [] s = some (.int 40) := va_eqt (hs (.eq (.elem (Term.static "TypeRoom$Rules" "AT_FIRST" "[I") (.int 0)) (.int 40)) (by decide +kernel))
  have e1 : (Term.elem (Term.static "TypeRoom$Rules" "AT_FIRST" "[I") (.int 1)).eval #[Value.ref b] s none [] s = some (.int 2) := va_eqt (hs (.eq (.elem (Term.static "TypeRoom$Rules" "AT_FIRST" "[I") (.int 1)) (.int 2)) (by decide +kernel))
  have e2 : (Term.elem (Term.static "TypeRoom$Rules" "AT_FIRST" "[I") (.int 2)).eval #[Value.ref b] s none [] s = some (.int 3) := va_eqt (hs (.eq (.elem (Term.static "TypeRoom$Rules" "AT_FIRST" "[I") (.int 2)) (.int 3)) (by decide +kernel))
  have e3 : (Term.elem (Term.static "TypeRoom$Rules" "AT_FIRST" "[I") (.int 3)).eval #[Value.ref b] s none [] s = some (.int 1) := va_eqt (hs (.eq (.elem (Term.static "TypeRoom$Rules" "AT_FIRST" "[I") (.int 3)) (.int 1)) (by decide +kernel))
  have e4 : (Term.elem (Term.static "TypeRoom$Rules" "AT_FIRST" "[I") (.int 4)).eval #[Value.ref b] s none [] s = some (.int 2) := va_eqt (hs (.eq (.elem (Term.static "TypeRoom$Rules" "AT_FIRST" "[I") (.int 4)) (.int 2)) (by decide +kernel))
  have e5 : (Term.elem (Term.static "TypeRoom$Rules" "AT_FIRST" "[I") (.int 5)).eval #[Value.ref b] s none [] s = some (.int 2) := va_eqt (hs (.eq (.elem (Term.static "TypeRoom$Rules" "AT_FIRST" "[I") (.int 5)) (.int 2)) (by decide +kernel))
  have e6 : (Term.elem (Term.static "TypeRoom$Rules" "AT_FIRST" "[I") (.int 6)).eval #[Value.ref b] s none [] s = some (.int 0) := va_eqt (hs (.eq (.elem (Term.static "TypeRoom$Rules" "AT_FIRST" "[I") (.int 6)) (.int 0)) (by decide +kernel))
  have e7 : (Term.elem (Term.static "TypeRoom$Rules" "AT_FIRST" "[I") (.int 7)).eval #[Value.ref b] s none [] s = some (.int 2) := va_eqt (hs (.eq (.elem (Term.static "TypeRoom$Rules" "AT_FIRST" "[I") (.int 7)) (.int 2)) (by decide +kernel))
  have e8 : (Term.elem (Term.static "TypeRoom$Rules" "AT_FIRST" "[I") (.int 8)).eval #[Value.ref b] s none [] s = some (.int 1) := va_eqt (hs (.eq (.elem (Term.static "TypeRoom$Rules" "AT_FIRST" "[I") (.int 8)) (.int 1)) (by decide +kernel))
  have e9 : (Term.elem (Term.static "TypeRoom$Rules" "AT_FIRST" "[I") (.int 9)).eval #[Value.ref b] s none [] s = some (.int 24) := va_eqt (hs (.eq (.elem (Term.static "TypeRoom$Rules" "AT_FIRST" "[I") (.int 9)) (.int 24)) (by decide +kernel))
  have e10 : (Term.elem (Term.static "TypeRoom$Rules" "AT_FIRST" "[I") (.int 10)).eval #[Value.ref b] s none [] s = some (.int 0) := va_eqt (hs (.eq (.elem (Term.static "TypeRoom$Rules" "AT_FIRST" "[I") (.int 10)) (.int 0)) (by decide +kernel))
  have e11 : (Term.elem (Term.static "TypeRoom$Rules" "AT_FIRST" "[I") (.int 11)).eval #[Value.ref b] s none [] s = some (.int 1) := va_eqt (hs (.eq (.elem (Term.static "TypeRoom$Rules" "AT_FIRST" "[I") (.int 11)) (.int 1)) (by decide +kernel))
  have e12 : (Term.elem (Term.static "TypeRoom$Rules" "AT_FIRST" "[I") (.int 12)).eval #[Value.ref b] s none [] s = some (.int 1) := va_eqt (hs (.eq (.elem (Term.static "TypeRoom$Rules" "AT_FIRST" "[I") (.int 12)) (.int 1)) (by decide +kernel))
  have hel : ∀ j : Nat, j < 13 → (Term.elem (Term.static "TypeRoom$Rules" "AT_FIRST" "[I") (.int (Int32.ofNat j))).eval #[Value.ref b] s none [] s = some (.int (tOf [40, 2, 3, 1, 2, 2, 0, 2, 1, 24, 0, 1, 1] j)) := by
    intro j hj
    rcases (show j = 0 ∨ j = 1 ∨ j = 2 ∨ j = 3 ∨ j = 4 ∨ j = 5 ∨ j = 6 ∨ j = 7 ∨ j = 8 ∨ j = 9 ∨ j = 10 ∨ j = 11 ∨ j = 12 by omega) with rfl | rfl | rfl | rfl | rfl | rfl | rfl | rfl | rfl | rfl | rfl | rfl | rfl
    · exact e0
    · exact e1
    · exact e2
    · exact e3
    · exact e4
    · exact e5
    · exact e6
    · exact e7
    · exact e8
    · exact e9
    · exact e10
    · exact e11
    · exact e12
  obtain ⟨t, et, T⟩ := va_Tof (N := 13) (f := fun j => .int (tOf [40, 2, 3, 1, 2, 2, 0, 2, 1, 24, 0, 1, 1] j)) (A := fun q : Nat => s.heap.size ≤ q) (by decide) (hs (.arrayOf (Term.static "TypeRoom$Rules" "AT_FIRST" "[I") .int) (by decide +kernel)) (va_eqt (hs (.eq (.length (Term.static "TypeRoom$Rules" "AT_FIRST" "[I")) (.int 13)) (by decide +kernel))) hel hA
  exact ⟨t, va_Zof (hts _ (List.mem_append_right _ (tn_1 (i := 85) (by decide +kernel)))) (hts _ (tb_sub _ wi_6)) et hA, T⟩
set_option maxHeartbeats 4000000 in
theorem st_1 {b : Nat} {s : State} (hts : ∀ w ∈ lw_tbl, w.before #[Value.ref b] s = true) (hgv : (Jvm.Cond.and given_1 narrow_1).before #[Value.ref b] s = true) : ∃ t, sRow "TypeRoom$Rules" "LEAST" t 13 (tOf [12, 0, 0, 0, 1, 1, 0, 0, 0, 5, 0, 1, 1]) (fun q => s.heap.size ≤ q) s s.heap := by
  have hs := flat_of_before _ hgv
  have hA : ∀ a : Nat, a < s.heap.size → ¬ (fun q : Nat => s.heap.size ≤ q) a := fun a h => Nat.not_le.mpr h
  have e0 : (Term.elem (Term.static "TypeRoom$Rules" "LEAST" "[I") (.int 0)).eval #[Value.ref b] s none [] s = some (.int 12) := va_eqt (hs (.eq (.elem (Term.static "TypeRoom$Rules" "LEAST" "[I") (.int 0)) (.int 12)) (by decide +kernel))
  have e1 : (Term.elem (Term.static "TypeRoom$Rules" "LEAST" "[I") (.int 1)).eval #[Value.ref b] s none [] s = some (.int 0) := va_eqt (hs (.eq (.elem (Term.static "TypeRoom$Rules" "LEAST" "[I") (.int 1)) (.int 0)) (by decide +kernel))
  have e2 : (Term.elem (Term.static "TypeRoom$Rules" "LEAST" "[I") (.int 2)).eval #[Value.ref b] s none [] s = some (.int 0) := va_eqt (hs (.eq (.elem (Term.static "TypeRoom$Rules" "LEAST" "[I") (.int 2)) (.int 0)) (by decide +kernel))
  have e3 : (Term.elem (Term.static "TypeRoom$Rules" "LEAST" "[I") (.int 3)).eval #[Value.ref b] s none [] s = some (.int 0) := va_eqt (hs (.eq (.elem (Term.static "TypeRoom$Rules" "LEAST" "[I") (.int 3)) (.int 0)) (by decide +kernel))
  have e4 : (Term.elem (Term.static "TypeRoom$Rules" "LEAST" "[I") (.int 4)).eval #[Value.ref b] s none [] s = some (.int 1) := va_eqt (hs (.eq (.elem (Term.static "TypeRoom$Rules" "LEAST" "[I") (.int 4)) (.int 1)) (by decide +kernel))
  have e5 : (Term.elem (Term.static "TypeRoom$Rules" "LEAST" "[I") (.int 5)).eval #[Value.ref b] s none [] s = some (.int 1) := va_eqt (hs (.eq (.elem (Term.static "TypeRoom$Rules" "LEAST" "[I") (.int 5)) (.int 1)) (by decide +kernel))
  have e6 : (Term.elem (Term.static "TypeRoom$Rules" "LEAST" "[I") (.int 6)).eval #[Value.ref b] s none [] s = some (.int 0) := va_eqt (hs (.eq (.elem (Term.static "TypeRoom$Rules" "LEAST" "[I") (.int 6)) (.int 0)) (by decide +kernel))
  have e7 : (Term.elem (Term.static "TypeRoom$Rules" "LEAST" "[I") (.int 7)).eval #[Value.ref b] s none [] s = some (.int 0) := va_eqt (hs (.eq (.elem (Term.static "TypeRoom$Rules" "LEAST" "[I") (.int 7)) (.int 0)) (by decide +kernel))
  have e8 : (Term.elem (Term.static "TypeRoom$Rules" "LEAST" "[I") (.int 8)).eval #[Value.ref b] s none [] s = some (.int 0) := va_eqt (hs (.eq (.elem (Term.static "TypeRoom$Rules" "LEAST" "[I") (.int 8)) (.int 0)) (by decide +kernel))
  have e9 : (Term.elem (Term.static "TypeRoom$Rules" "LEAST" "[I") (.int 9)).eval #[Value.ref b] s none [] s = some (.int 5) := va_eqt (hs (.eq (.elem (Term.static "TypeRoom$Rules" "LEAST" "[I") (.int 9)) (.int 5)) (by decide +kernel))
  have e10 : (Term.elem (Term.static "TypeRoom$Rules" "LEAST" "[I") (.int 10)).eval #[Value.ref b] s none [] s = some (.int 0) := va_eqt (hs (.eq (.elem (Term.static "TypeRoom$Rules" "LEAST" "[I") (.int 10)) (.int 0)) (by decide +kernel))
  have e11 : (Term.elem (Term.static "TypeRoom$Rules" "LEAST" "[I") (.int 11)).eval #[Value.ref b] s none [] s = some (.int 1) := va_eqt (hs (.eq (.elem (Term.static "TypeRoom$Rules" "LEAST" "[I") (.int 11)) (.int 1)) (by decide +kernel))
  have e12 : (Term.elem (Term.static "TypeRoom$Rules" "LEAST" "[I") (.int 12)).eval #[Value.ref b] s none [] s = some (.int 1) := va_eqt (hs (.eq (.elem (Term.static "TypeRoom$Rules" "LEAST" "[I") (.int 12)) (.int 1)) (by decide +kernel))
  have hel : ∀ j : Nat, j < 13 → (Term.elem (Term.static "TypeRoom$Rules" "LEAST" "[I") (.int (Int32.ofNat j))).eval #[Value.ref b] s none [] s = some (.int (tOf [12, 0, 0, 0, 1, 1, 0, 0, 0, 5, 0, 1, 1] j)) := by
    intro j hj
    rcases (show j = 0 ∨ j = 1 ∨ j = 2 ∨ j = 3 ∨ j = 4 ∨ j = 5 ∨ j = 6 ∨ j = 7 ∨ j = 8 ∨ j = 9 ∨ j = 10 ∨ j = 11 ∨ j = 12 by omega) with rfl | rfl | rfl | rfl | rfl | rfl | rfl | rfl | rfl | rfl | rfl | rfl | rfl
    · exact e0
    · exact e1
    · exact e2
    · exact e3
    · exact e4
    · exact e5
    · exact e6
    · exact e7
    · exact e8
    · exact e9
    · exact e10
    · exact e11
    · exact e12
  obtain ⟨t, et, T⟩ := va_Tof (N := 13) (f := fun j => .int (tOf [12, 0, 0, 0, 1, 1, 0, 0, 0, 5, 0, 1, 1] j)) (A := fun q : Nat => s.heap.size ≤ q) (by decide) (hs (.arrayOf (Term.static "TypeRoom$Rules" "LEAST" "[I") .int) (by decide +kernel)) (va_eqt (hs (.eq (.length (Term.static "TypeRoom$Rules" "LEAST" "[I")) (.int 13)) (by decide +kernel))) hel hA
  exact ⟨t, va_Zof (hts _ (List.mem_append_right _ (tn_4 (i := 229) (by decide +kernel)))) (hts _ (tb_sub _ wi_6)) et hA, T⟩
set_option maxHeartbeats 4000000 in
theorem st_2 {b : Nat} {s : State} (hts : ∀ w ∈ lw_tbl, w.before #[Value.ref b] s = true) (hgv : (Jvm.Cond.and given_1 narrow_1).before #[Value.ref b] s = true) : ∃ t, sRow "TypeRoom$Rules" "MOST" t 13 (tOf [80, 8, 3, 1, 9, 9, 1, 3, 3, 60, 1, 999, 5]) (fun q => s.heap.size ≤ q) s s.heap := by
  have hs := flat_of_before _ hgv
  have hA : ∀ a : Nat, a < s.heap.size → ¬ (fun q : Nat => s.heap.size ≤ q) a := fun a h => Nat.not_le.mpr h
  have e0 : (Term.elem (Term.static "TypeRoom$Rules" "MOST" "[I") (.int 0)).eval #[Value.ref b] s none [] s = some (.int 80) := va_eqt (hs (.eq (.elem (Term.static "TypeRoom$Rules" "MOST" "[I") (.int 0)) (.int 80)) (by decide +kernel))
  have e1 : (Term.elem (Term.static "TypeRoom$Rules" "MOST" "[I") (.int 1)).eval #[Value.ref b] s none [] s = some (.int 8) := va_eqt (hs (.eq (.elem (Term.static "TypeRoom$Rules" "MOST" "[I") (.int 1)) (.int 8)) (by decide +kernel))
  have e2 : (Term.elem (Term.static "TypeRoom$Rules" "MOST" "[I") (.int 2)).eval #[Value.ref b] s none [] s = some (.int 3) := va_eqt (hs (.eq (.elem (Term.static "TypeRoom$Rules" "MOST" "[I") (.int 2)) (.int 3)) (by decide +kernel))
  have e3 : (Term.elem (Term.static "TypeRoom$Rules" "MOST" "[I") (.int 3)).eval #[Value.ref b] s none [] s = some (.int 1) := va_eqt (hs (.eq (.elem (Term.static "TypeRoom$Rules" "MOST" "[I") (.int 3)) (.int 1)) (by decide +kernel))
  have e4 : (Term.elem (Term.static "TypeRoom$Rules" "MOST" "[I") (.int 4)).eval #[Value.ref b] s none [] s = some (.int 9) := va_eqt (hs (.eq (.elem (Term.static "TypeRoom$Rules" "MOST" "[I") (.int 4)) (.int 9)) (by decide +kernel))
  have e5 : (Term.elem (Term.static "TypeRoom$Rules" "MOST" "[I") (.int 5)).eval #[Value.ref b] s none [] s = some (.int 9) := va_eqt (hs (.eq (.elem (Term.static "TypeRoom$Rules" "MOST" "[I") (.int 5)) (.int 9)) (by decide +kernel))
  have e6 : (Term.elem (Term.static "TypeRoom$Rules" "MOST" "[I") (.int 6)).eval #[Value.ref b] s none [] s = some (.int 1) := va_eqt (hs (.eq (.elem (Term.static "TypeRoom$Rules" "MOST" "[I") (.int 6)) (.int 1)) (by decide +kernel))
  have e7 : (Term.elem (Term.static "TypeRoom$Rules" "MOST" "[I") (.int 7)).eval #[Value.ref b] s none [] s = some (.int 3) := va_eqt (hs (.eq (.elem (Term.static "TypeRoom$Rules" "MOST" "[I") (.int 7)) (.int 3)) (by decide +kernel))
  have e8 : (Term.elem (Term.static "TypeRoom$Rules" "MOST" "[I") (.int 8)).eval #[Value.ref b] s none [] s = some (.int 3) := va_eqt (hs (.eq (.elem (Term.static "TypeRoom$Rules" "MOST" "[I") (.int 8)) (.int 3)) (by decide +kernel))
  have e9 : (Term.elem (Term.static "TypeRoom$Rules" "MOST" "[I") (.int 9)).eval #[Value.ref b] s none [] s = some (.int 60) := va_eqt (hs (.eq (.elem (Term.static "TypeRoom$Rules" "MOST" "[I") (.int 9)) (.int 60)) (by decide +kernel))
  have e10 : (Term.elem (Term.static "TypeRoom$Rules" "MOST" "[I") (.int 10)).eval #[Value.ref b] s none [] s = some (.int 1) := va_eqt (hs (.eq (.elem (Term.static "TypeRoom$Rules" "MOST" "[I") (.int 10)) (.int 1)) (by decide +kernel))
  have e11 : (Term.elem (Term.static "TypeRoom$Rules" "MOST" "[I") (.int 11)).eval #[Value.ref b] s none [] s = some (.int 999) := va_eqt (hs (.eq (.elem (Term.static "TypeRoom$Rules" "MOST" "[I") (.int 11)) (.int 999)) (by decide +kernel))
  have e12 : (Term.elem (Term.static "TypeRoom$Rules" "MOST" "[I") (.int 12)).eval #[Value.ref b] s none [] s = some (.int 5) := va_eqt (hs (.eq (.elem (Term.static "TypeRoom$Rules" "MOST" "[I") (.int 12)) (.int 5)) (by decide +kernel))
  have hel : ∀ j : Nat, j < 13 → (Term.elem (Term.static "TypeRoom$Rules" "MOST" "[I") (.int (Int32.ofNat j))).eval #[Value.ref b] s none [] s = some (.int (tOf [80, 8, 3, 1, 9, 9, 1, 3, 3, 60, 1, 999, 5] j)) := by
    intro j hj
    rcases (show j = 0 ∨ j = 1 ∨ j = 2 ∨ j = 3 ∨ j = 4 ∨ j = 5 ∨ j = 6 ∨ j = 7 ∨ j = 8 ∨ j = 9 ∨ j = 10 ∨ j = 11 ∨ j = 12 by omega) with rfl | rfl | rfl | rfl | rfl | rfl | rfl | rfl | rfl | rfl | rfl | rfl | rfl
    · exact e0
    · exact e1
    · exact e2
    · exact e3
    · exact e4
    · exact e5
    · exact e6
    · exact e7
    · exact e8
    · exact e9
    · exact e10
    · exact e11
    · exact e12
  obtain ⟨t, et, T⟩ := va_Tof (N := 13) (f := fun j => .int (tOf [80, 8, 3, 1, 9, 9, 1, 3, 3, 60, 1, 999, 5] j)) (A := fun q : Nat => s.heap.size ≤ q) (by decide) (hs (.arrayOf (Term.static "TypeRoom$Rules" "MOST" "[I") .int) (by decide +kernel)) (va_eqt (hs (.eq (.length (Term.static "TypeRoom$Rules" "MOST" "[I")) (.int 13)) (by decide +kernel))) hel hA
  exact ⟨t, va_Zof (hts _ (List.mem_append_right _ (tn_4 (i := 231) (by decide +kernel)))) (hts _ (tb_sub _ wi_6)) et hA, T⟩
set_option maxHeartbeats 4000000 in
theorem st_3 {b : Nat} {s : State} (hts : ∀ w ∈ lw_tbl, w.before #[Value.ref b] s = true) (hgv : (Jvm.Cond.and given_1 narrow_1).before #[Value.ref b] s = true) : ∃ t, sRow "TypeRoom$Row" "ROMAN_VALUES" t 13 (tOf [1000, 900, 500, 400, 100, 90, 50, 40, 10, 9, 5, 4, 1]) (fun q => s.heap.size ≤ q) s s.heap := by
  have hs := flat_of_before _ hgv
  have hA : ∀ a : Nat, a < s.heap.size → ¬ (fun q : Nat => s.heap.size ≤ q) a := fun a h => Nat.not_le.mpr h
  have e0 : (Term.elem (Term.static "TypeRoom$Row" "ROMAN_VALUES" "[I") (.int 0)).eval #[Value.ref b] s none [] s = some (.int 1000) := va_eqt (hs (.eq (.elem (Term.static "TypeRoom$Row" "ROMAN_VALUES" "[I") (.int 0)) (.int 1000)) (by decide +kernel))
  have e1 : (Term.elem (Term.static "TypeRoom$Row" "ROMAN_VALUES" "[I") (.int 1)).eval #[Value.ref b] s none [] s = some (.int 900) := va_eqt (hs (.eq (.elem (Term.static "TypeRoom$Row" "ROMAN_VALUES" "[I") (.int 1)) (.int 900)) (by decide +kernel))
  have e2 : (Term.elem (Term.static "TypeRoom$Row" "ROMAN_VALUES" "[I") (.int 2)).eval #[Value.ref b] s none [] s = some (.int 500) := va_eqt (hs (.eq (.elem (Term.static "TypeRoom$Row" "ROMAN_VALUES" "[I") (.int 2)) (.int 500)) (by decide +kernel))
  have e3 : (Term.elem (Term.static "TypeRoom$Row" "ROMAN_VALUES" "[I") (.int 3)).eval #[Value.ref b] s none [] s = some (.int 400) := va_eqt (hs (.eq (.elem (Term.static "TypeRoom$Row" "ROMAN_VALUES" "[I") (.int 3)) (.int 400)) (by decide +kernel))
  have e4 : (Term.elem (Term.static "TypeRoom$Row" "ROMAN_VALUES" "[I") (.int 4)).eval #[Value.ref b] s none [] s = some (.int 100) := va_eqt (hs (.eq (.elem (Term.static "TypeRoom$Row" "ROMAN_VALUES" "[I") (.int 4)) (.int 100)) (by decide +kernel))
  have e5 : (Term.elem (Term.static "TypeRoom$Row" "ROMAN_VALUES" "[I") (.int 5)).eval #[Value.ref b] s none [] s = some (.int 90) := va_eqt (hs (.eq (.elem (Term.static "TypeRoom$Row" "ROMAN_VALUES" "[I") (.int 5)) (.int 90)) (by decide +kernel))
  have e6 : (Term.elem (Term.static "TypeRoom$Row" "ROMAN_VALUES" "[I") (.int 6)).eval #[Value.ref b] s none [] s = some (.int 50) := va_eqt (hs (.eq (.elem (Term.static "TypeRoom$Row" "ROMAN_VALUES" "[I") (.int 6)) (.int 50)) (by decide +kernel))
  have e7 : (Term.elem (Term.static "TypeRoom$Row" "ROMAN_VALUES" "[I") (.int 7)).eval #[Value.ref b] s none [] s = some (.int 40) := va_eqt (hs (.eq (.elem (Term.static "TypeRoom$Row" "ROMAN_VALUES" "[I") (.int 7)) (.int 40)) (by decide +kernel))
  have e8 : (Term.elem (Term.static "TypeRoom$Row" "ROMAN_VALUES" "[I") (.int 8)).eval #[Value.ref b] s none [] s = some (.int 10) := va_eqt (hs (.eq (.elem (Term.static "TypeRoom$Row" "ROMAN_VALUES" "[I") (.int 8)) (.int 10)) (by decide +kernel))
  have e9 : (Term.elem (Term.static "TypeRoom$Row" "ROMAN_VALUES" "[I") (.int 9)).eval #[Value.ref b] s none [] s = some (.int 9) := va_eqt (hs (.eq (.elem (Term.static "TypeRoom$Row" "ROMAN_VALUES" "[I") (.int 9)) (.int 9)) (by decide +kernel))
  have e10 : (Term.elem (Term.static "TypeRoom$Row" "ROMAN_VALUES" "[I") (.int 10)).eval #[Value.ref b] s none [] s = some (.int 5) := va_eqt (hs (.eq (.elem (Term.static "TypeRoom$Row" "ROMAN_VALUES" "[I") (.int 10)) (.int 5)) (by decide +kernel))
  have e11 : (Term.elem (Term.static "TypeRoom$Row" "ROMAN_VALUES" "[I") (.int 11)).eval #[Value.ref b] s none [] s = some (.int 4) := va_eqt (hs (.eq (.elem (Term.static "TypeRoom$Row" "ROMAN_VALUES" "[I") (.int 11)) (.int 4)) (by decide +kernel))
  have e12 : (Term.elem (Term.static "TypeRoom$Row" "ROMAN_VALUES" "[I") (.int 12)).eval #[Value.ref b] s none [] s = some (.int 1) := va_eqt (hs (.eq (.elem (Term.static "TypeRoom$Row" "ROMAN_VALUES" "[I") (.int 12)) (.int 1)) (by decide +kernel))
  have hel : ∀ j : Nat, j < 13 → (Term.elem (Term.static "TypeRoom$Row" "ROMAN_VALUES" "[I") (.int (Int32.ofNat j))).eval #[Value.ref b] s none [] s = some (.int (tOf [1000, 900, 500, 400, 100, 90, 50, 40, 10, 9, 5, 4, 1] j)) := by
    intro j hj
    rcases (show j = 0 ∨ j = 1 ∨ j = 2 ∨ j = 3 ∨ j = 4 ∨ j = 5 ∨ j = 6 ∨ j = 7 ∨ j = 8 ∨ j = 9 ∨ j = 10 ∨ j = 11 ∨ j = 12 by omega) with rfl | rfl | rfl | rfl | rfl | rfl | rfl | rfl | rfl | rfl | rfl | rfl | rfl
    · exact e0
    · exact e1
    · exact e2
    · exact e3
    · exact e4
    · exact e5
    · exact e6
    · exact e7
    · exact e8
    · exact e9
    · exact e10
    · exact e11
    · exact e12
  obtain ⟨t, et, T⟩ := va_Tof (N := 13) (f := fun j => .int (tOf [1000, 900, 500, 400, 100, 90, 50, 40, 10, 9, 5, 4, 1] j)) (A := fun q : Nat => s.heap.size ≤ q) (by decide) (hs (.arrayOf (Term.static "TypeRoom$Row" "ROMAN_VALUES" "[I") .int) (by decide +kernel)) (va_eqt (hs (.eq (.length (Term.static "TypeRoom$Row" "ROMAN_VALUES" "[I")) (.int 13)) (by decide +kernel))) hel hA
  exact ⟨t, va_Zof (hts _ (List.mem_append_right _ (tn_5 (i := 36) (by decide +kernel)))) (hts _ (tb_sub _ wi_5)) et hA, T⟩
set_option maxHeartbeats 4000000 in
theorem st_4 {b : Nat} {s : State} (hts : ∀ w ∈ lw_tbl, w.before #[Value.ref b] s = true) (hgv : (Jvm.Cond.and given_1 narrow_1).before #[Value.ref b] s = true) : ∃ t, sRow "TypeRoom$Texts" "ARITIES" t 21 (tOf [1, 1, 1, 2, 1, 2, 3, 2, 1, 2, 2, 2, 2, 2, 2, 4, 1, 1, 1, 1, 1]) (fun q => s.heap.size ≤ q) s s.heap := by
  have hs := flat_of_before _ hgv
  have hA : ∀ a : Nat, a < s.heap.size → ¬ (fun q : Nat => s.heap.size ≤ q) a := fun a h => Nat.not_le.mpr h
  have e0 : (Term.elem (Term.static "TypeRoom$Texts" "ARITIES" "[I") (.int 0)).eval #[Value.ref b] s none [] s = some (.int 1) := va_eqt (hs (.eq (.elem (Term.static "TypeRoom$Texts" "ARITIES" "[I") (.int 0)) (.int 1)) (by decide +kernel))
  have e1 : (Term.elem (Term.static "TypeRoom$Texts" "ARITIES" "[I") (.int 1)).eval #[Value.ref b] s none [] s = some (.int 1) := va_eqt (hs (.eq (.elem (Term.static "TypeRoom$Texts" "ARITIES" "[I") (.int 1)) (.int 1)) (by decide +kernel))
  have e2 : (Term.elem (Term.static "TypeRoom$Texts" "ARITIES" "[I") (.int 2)).eval #[Value.ref b] s none [] s = some (.int 1) := va_eqt (hs (.eq (.elem (Term.static "TypeRoom$Texts" "ARITIES" "[I") (.int 2)) (.int 1)) (by decide +kernel))
  have e3 : (Term.elem (Term.static "TypeRoom$Texts" "ARITIES" "[I") (.int 3)).eval #[Value.ref b] s none [] s = some (.int 2) := va_eqt (hs (.eq (.elem (Term.static "TypeRoom$Texts" "ARITIES" "[I") (.int 3)) (.int 2)) (by decide +kernel))
  have e4 : (Term.elem (Term.static "TypeRoom$Texts" "ARITIES" "[I") (.int 4)).eval #[Value.ref b] s none [] s = some (.int 1) := va_eqt (hs (.eq (.elem (Term.static "TypeRoom$Texts" "ARITIES" "[I") (.int 4)) (.int 1)) (by decide +kernel))
  have e5 : (Term.elem (Term.static "TypeRoom$Texts" "ARITIES" "[I") (.int 5)).eval #[Value.ref b] s none [] s = some (.int 2) := va_eqt (hs (.eq (.elem (Term.static "TypeRoom$Texts" "ARITIES" "[I") (.int 5)) (.int 2)) (by decide +kernel))
  have e6 : (Term.elem (Term.static "TypeRoom$Texts" "ARITIES" "[I") (.int 6)).eval #[Value.ref b] s none [] s = some (.int 3) := va_eqt (hs (.eq (.elem (Term.static "TypeRoom$Texts" "ARITIES" "[I") (.int 6)) (.int 3)) (by decide +kernel))
  have e7 : (Term.elem (Term.static "TypeRoom$Texts" "ARITIES" "[I") (.int 7)).eval #[Value.ref b] s none [] s = some (.int 2) := va_eqt (hs (.eq (.elem (Term.static "TypeRoom$Texts" "ARITIES" "[I") (.int 7)) (.int 2)) (by decide +kernel))
  have e8 : (Term.elem (Term.static "TypeRoom$Texts" "ARITIES" "[I") (.int 8)).eval #[Value.ref b] s none [] s = some (.int 1) := va_eqt (hs (.eq (.elem (Term.static "TypeRoom$Texts" "ARITIES" "[I") (.int 8)) (.int 1)) (by decide +kernel))
  have e9 : (Term.elem (Term.static "TypeRoom$Texts" "ARITIES" "[I") (.int 9)).eval #[Value.ref b] s none [] s = some (.int 2) := va_eqt (hs (.eq (.elem (Term.static "TypeRoom$Texts" "ARITIES" "[I") (.int 9)) (.int 2)) (by decide +kernel))
  have e10 : (Term.elem (Term.static "TypeRoom$Texts" "ARITIES" "[I") (.int 10)).eval #[Value.ref b] s none [] s = some (.int 2) := va_eqt (hs (.eq (.elem (Term.static "TypeRoom$Texts" "ARITIES" "[I") (.int 10)) (.int 2)) (by decide +kernel))
  have e11 : (Term.elem (Term.static "TypeRoom$Texts" "ARITIES" "[I") (.int 11)).eval #[Value.ref b] s none [] s = some (.int 2) := va_eqt (hs (.eq (.elem (Term.static "TypeRoom$Texts" "ARITIES" "[I") (.int 11)) (.int 2)) (by decide +kernel))
  have e12 : (Term.elem (Term.static "TypeRoom$Texts" "ARITIES" "[I") (.int 12)).eval #[Value.ref b] s none [] s = some (.int 2) := va_eqt (hs (.eq (.elem (Term.static "TypeRoom$Texts" "ARITIES" "[I") (.int 12)) (.int 2)) (by decide +kernel))
  have e13 : (Term.elem (Term.static "TypeRoom$Texts" "ARITIES" "[I") (.int 13)).eval #[Value.ref b] s none [] s = some (.int 2) := va_eqt (hs (.eq (.elem (Term.static "TypeRoom$Texts" "ARITIES" "[I") (.int 13)) (.int 2)) (by decide +kernel))
  have e14 : (Term.elem (Term.static "TypeRoom$Texts" "ARITIES" "[I") (.int 14)).eval #[Value.ref b] s none [] s = some (.int 2) := va_eqt (hs (.eq (.elem (Term.static "TypeRoom$Texts" "ARITIES" "[I") (.int 14)) (.int 2)) (by decide +kernel))
  have e15 : (Term.elem (Term.static "TypeRoom$Texts" "ARITIES" "[I") (.int 15)).eval #[Value.ref b] s none [] s = some (.int 4) := va_eqt (hs (.eq (.elem (Term.static "TypeRoom$Texts" "ARITIES" "[I") (.int 15)) (.int 4)) (by decide +kernel))
  have e16 : (Term.elem (Term.static "TypeRoom$Texts" "ARITIES" "[I") (.int 16)).eval #[Value.ref b] s none [] s = some (.int 1) := va_eqt (hs (.eq (.elem (Term.static "TypeRoom$Texts" "ARITIES" "[I") (.int 16)) (.int 1)) (by decide +kernel))
  have e17 : (Term.elem (Term.static "TypeRoom$Texts" "ARITIES" "[I") (.int 17)).eval #[Value.ref b] s none [] s = some (.int 1) := va_eqt (hs (.eq (.elem (Term.static "TypeRoom$Texts" "ARITIES" "[I") (.int 17)) (.int 1)) (by decide +kernel))
  have e18 : (Term.elem (Term.static "TypeRoom$Texts" "ARITIES" "[I") (.int 18)).eval #[Value.ref b] s none [] s = some (.int 1) := va_eqt (hs (.eq (.elem (Term.static "TypeRoom$Texts" "ARITIES" "[I") (.int 18)) (.int 1)) (by decide +kernel))
  have e19 : (Term.elem (Term.static "TypeRoom$Texts" "ARITIES" "[I") (.int 19)).eval #[Value.ref b] s none [] s = some (.int 1) := va_eqt (hs (.eq (.elem (Term.static "TypeRoom$Texts" "ARITIES" "[I") (.int 19)) (.int 1)) (by decide +kernel))
  have e20 : (Term.elem (Term.static "TypeRoom$Texts" "ARITIES" "[I") (.int 20)).eval #[Value.ref b] s none [] s = some (.int 1) := va_eqt (hs (.eq (.elem (Term.static "TypeRoom$Texts" "ARITIES" "[I") (.int 20)) (.int 1)) (by decide +kernel))
  have hel : ∀ j : Nat, j < 21 → (Term.elem (Term.static "TypeRoom$Texts" "ARITIES" "[I") (.int (Int32.ofNat j))).eval #[Value.ref b] s none [] s = some (.int (tOf [1, 1, 1, 2, 1, 2, 3, 2, 1, 2, 2, 2, 2, 2, 2, 4, 1, 1, 1, 1, 1] j)) := by
    intro j hj
    rcases (show j = 0 ∨ j = 1 ∨ j = 2 ∨ j = 3 ∨ j = 4 ∨ j = 5 ∨ j = 6 ∨ j = 7 ∨ j = 8 ∨ j = 9 ∨ j = 10 ∨ j = 11 ∨ j = 12 ∨ j = 13 ∨ j = 14 ∨ j = 15 ∨ j = 16 ∨ j = 17 ∨ j = 18 ∨ j = 19 ∨ j = 20 by omega) with rfl | rfl | rfl | rfl | rfl | rfl | rfl | rfl | rfl | rfl | rfl | rfl | rfl | rfl | rfl | rfl | rfl | rfl | rfl | rfl | rfl
    · exact e0
    · exact e1
    · exact e2
    · exact e3
    · exact e4
    · exact e5
    · exact e6
    · exact e7
    · exact e8
    · exact e9
    · exact e10
    · exact e11
    · exact e12
    · exact e13
    · exact e14
    · exact e15
    · exact e16
    · exact e17
    · exact e18
    · exact e19
    · exact e20
  obtain ⟨t, et, T⟩ := va_Tof (N := 21) (f := fun j => .int (tOf [1, 1, 1, 2, 1, 2, 3, 2, 1, 2, 2, 2, 2, 2, 2, 4, 1, 1, 1, 1, 1] j)) (A := fun q : Nat => s.heap.size ≤ q) (by decide) (hs (.arrayOf (Term.static "TypeRoom$Texts" "ARITIES" "[I") .int) (by decide +kernel)) (va_eqt (hs (.eq (.length (Term.static "TypeRoom$Texts" "ARITIES" "[I")) (.int 21)) (by decide +kernel))) hel hA
  exact ⟨t, va_Zof (hts _ (List.mem_append_right _ (tn_5 (i := 208) (by decide +kernel)))) (hts _ (tb_sub _ wi_10)) et hA, T⟩
theorem st_NS {b : Nat} {s : State} (hts : ∀ w ∈ lw_tbl, w.before #[Value.ref b] s = true) : NS s := by
  refine ⟨fun w hw hi => ?_, va_AO.of (hts _ (List.mem_append_right _ (tn_1 (i := 58) (by decide +kernel))))⟩
  have h := hts w (List.mem_append_right _ hw)
  cases w <;> first | exact va_Nw.of rfl h | cases hi
theorem st_cx {p : Program} {s : State} {m : MethodId} {meth : Method} {c : Code} {b L : Nat} {xs : Nat → Int32} (C0 : lw_At p s m meth c b L xs) : ∃ (D : va_G) (G : Nat → ClassId) (t : Nat → Nat), Cx p s m #[Value.ref b] meth c code 7 R_law D G t (fun q => s.heap.size ≤ q) := by
  obtain ⟨hx, hb, hr, hml, hown, hts, hX, hbl, hlocks, hgv⟩ := C0
  have htb : ∀ w ∈ tb, w.before #[Value.ref b] s = true := fun w hw => hts w (tb_sub w hw)
  have hNS := st_NS hts
  have hs := flat_of_before _ hgv
  have hA : ∀ a : Nat, a < s.heap.size → ¬ (fun q : Nat => s.heap.size ≤ q) a := fun a h => Nat.not_le.mpr h
  obtain ⟨D, G, hK⟩ := st_K htb hNS.2
  obtain ⟨t0, h0⟩ := st_0 hts hgv
  obtain ⟨t1, h1⟩ := st_1 hts hgv
  obtain ⟨t2, h2⟩ := st_2 hts hgv
  obtain ⟨t3, h3⟩ := st_3 hts hgv
  obtain ⟨t4, h4⟩ := st_4 hts hgv
  have hth : (Cond.initialized Bundle.tN).before #[Value.ref b] s = true := hts _ (tb_sub _ (tb_1 (i := 16) (by decide +kernel) rfl))
  have u1 : vx_Zq Bundle.tN "UNASSIGNED_STACK" Bundle.steD (fun q : Nat => s.heap.size ≤ q) s s.heap := vx_Zqof (hts _ (List.mem_append_right _ (tn_4 (i := 80) (by decide +kernel)))) hth (hs (.isRef (.static Bundle.tN "UNASSIGNED_STACK" Bundle.steD)) (by decide +kernel)) hA
  have u2 : vx_Zq Bundle.tN "SUPPRESSED_SENTINEL" Bundle.listD (fun q : Nat => s.heap.size ≤ q) s s.heap := vx_Zqof (hts _ (List.mem_append_right _ (tn_4 (i := 82) (by decide +kernel)))) hth (hs (.isRef (.static Bundle.tN "SUPPRESSED_SENTINEL" Bundle.listD)) (by decide +kernel)) hA
  exact ⟨D, G, fun k => [t0, t1, t2, t3, t4].getD k 0, hx, hb, hml, hown, htb, hK, fun q h => h, ⟨h0, h1, h2, h3, h4, u1, u2⟩, hNS, hlocks⟩
