/-! THE ABSTRACT MACHINE: a reference is a number of the pool, h says where it lies -/
abbrev ALo : Type := List (Nat × Value)
def am_v (h : Nat → Nat) : Value → Value
  | .ref i => .ref (h i)
  | v => v
theorem am_v_cat (h : Nat → Nat) (v : Value) : (am_v h v).category = v.category := by cases v <;> rfl
def am_lo (h : Nat → Nat) (lo : ALo) : ALo := lo.map (fun q => (q.1, am_v h q.2))
def am_sk (h : Nat → Nat) (st : List Value) : List Value := st.map (am_v h)
def am_lk : ALo → Nat → Option Value
  | [], _ => none
  | q :: r, k => if q.1 = k then some q.2 else am_lk r k
theorem am_lk_mem {k : Nat} {v : Value} : ∀ {lo : ALo}, am_lk lo k = some v → (k, v) ∈ lo
  | [], h => by simp [am_lk] at h
  | q :: r, h => by
    unfold am_lk at h
    by_cases e : q.1 = k
    · rw [if_pos e] at h
      cases h; subst e
      exact List.mem_cons_self
    · rw [if_neg e] at h
      exact List.mem_cons_of_mem _ (am_lk_mem h)
theorem am_lk_at {h : Nat → Nat} {ls : Array Slot} {nL k : Nat} {v : Value} {lo : ALo} (hl : lv_has ls nL (am_lo h lo)) (hk : am_lk lo k = some v) : ls[k]? = some (.val (am_v h v)) := hl.2.2 (k, am_v h v) (List.mem_map.mpr ⟨(k, v), am_lk_mem hk, rfl⟩)
def am_st (lo : ALo) (i : Nat) (v : Value) : ALo := (i, v) :: lo.filter (fun q => !(q.1 == i) && !(q.1 + 1 == i && q.2.category == 2))
def am_stL (lo : ALo) (i : Nat) (v : Value) : ALo := (i, v) :: lo.filter (fun q => !(q.1 == i) && (!(q.1 == i + 1) && !(q.1 + 1 == i && q.2.category == 2)))
theorem am_fil (h : Nat → Nat) (f : Nat × Value → Bool) (hf : ∀ q, f (q.1, am_v h q.2) = f q) : ∀ lo : ALo, (am_lo h lo).filter f = am_lo h (lo.filter f)
  | [] => rfl
  | q :: r => by
    show List.filter f ((q.1, am_v h q.2) :: am_lo h r) = _
    rw [List.filter_cons, List.filter_cons, hf q, am_fil h f hf r]
    cases f q <;> rfl
theorem am_st_eq (h : Nat → Nat) (lo : ALo) (i : Nat) (v : Value) : (i, am_v h v) :: (am_lo h lo).filter (fun q => !(q.1 == i) && !(q.1 + 1 == i && q.2.category == 2)) = am_lo h (am_st lo i v) := by
  rw [am_fil h _ (fun q => by simp only [am_v_cat])]
  rfl
theorem am_stL_eq (h : Nat → Nat) (lo : ALo) (i : Nat) (v : Value) : (i, am_v h v) :: (am_lo h lo).filter (fun q => !(q.1 == i) && (!(q.1 == i + 1) && !(q.1 + 1 == i && q.2.category == 2))) = am_lo h (am_stL lo i v) := by
  rw [am_fil h _ (fun q => by simp only [am_v_cat])]
  rfl
def am_j (pc : Nat) (off : Int) : Option Nat := if 0 ≤ (pc : Int) + off then some ((pc : Int) + off).toNat else none
theorem am_j_eq {pc : Nat} {off : Int} {t : Nat} (h : am_j pc off = some t) : (pc : Int) + off = (t : Int) := by
  unfold am_j at h
  by_cases e : 0 ≤ (pc : Int) + off
  · rw [if_pos e] at h; cases h; omega
  · rw [if_neg e] at h; cases h
def am_c (c : Jvm.ClassFile.Cond) (x y : Int32) : Bool := match c with
  | .eq => decide (x = y)
  | .ne => decide (¬ x = y)
  | .lt => decide (x < y)
  | .ge => decide (y ≤ x)
  | .gt => decide (y < x)
  | .le => decide (x ≤ y)
abbrev AR : Type := Option (Nat × ALo × List Value)
def am_i2 (f : Int32 → Int32 → Int32) (ln pc : Nat) (lo : ALo) : List Value → AR
  | .int y :: .int x :: r => if ln = 1 then some (pc + 1, lo, .int (f x y) :: r) else none
  | _ => none
def am_i2d (f : Int32 → Int32 → Int32) (ln pc : Nat) (lo : ALo) : List Value → AR
  | .int y :: .int x :: r => if ln = 1 ∧ ¬ y = 0 then some (pc + 1, lo, .int (f x y) :: r) else none
  | _ => none
def am_l2 (f : Int64 → Int64 → Int64) (ln pc : Nat) (lo : ALo) : List Value → AR
  | .long y :: .long x :: r => if ln = 1 then some (pc + 1, lo, .long (f x y) :: r) else none
  | _ => none
def am_l2d (f : Int64 → Int64 → Int64) (ln pc : Nat) (lo : ALo) : List Value → AR
  | .long y :: .long x :: r => if ln = 1 ∧ ¬ y = 0 then some (pc + 1, lo, .long (f x y) :: r) else none
  | _ => none
def am_ls (f : Int64 → Int32 → Int64) (ln pc : Nat) (lo : ALo) : List Value → AR
  | .int y :: .long x :: r => if ln = 1 then some (pc + 1, lo, .long (f x y) :: r) else none
  | _ => none
def am_i1 (f : Int32 → Value) (ln pc : Nat) (lo : ALo) : List Value → AR
  | .int x :: r => if ln = 1 then some (pc + 1, lo, f x :: r) else none
  | _ => none
def am_l1 (f : Int64 → Value) (ln pc : Nat) (lo : ALo) : List Value → AR
  | .long x :: r => if ln = 1 then some (pc + 1, lo, f x :: r) else none
  | _ => none
def am_ldi (i n ln pc : Nat) (lo : ALo) (st : List Value) : AR := match am_lk lo i with
  | some (.int x) => if ln = n then some (pc + n, lo, .int x :: st) else none
  | _ => none
def am_ldl (i n ln pc : Nat) (lo : ALo) (st : List Value) : AR := match am_lk lo i with
  | some (.long x) => if ln = n then some (pc + n, lo, .long x :: st) else none
  | _ => none
def am_lda (i n ln pc : Nat) (lo : ALo) (st : List Value) : AR := match am_lk lo i with
  | some (.ref x) => if ln = n then some (pc + n, lo, .ref x :: st) else none
  | _ => none
def am_sti (nL i n ln pc : Nat) (lo : ALo) : List Value → AR
  | .int x :: r => if ln = n ∧ i < nL then some (pc + n, am_st lo i (.int x), r) else none
  | _ => none
def am_stl (nL i n ln pc : Nat) (lo : ALo) : List Value → AR
  | .long x :: r => if ln = n ∧ i + 1 < nL then some (pc + n, am_stL lo i (.long x), r) else none
  | _ => none
def am_sta (nL i n ln pc : Nat) (lo : ALo) : List Value → AR
  | .ref x :: r => if ln = n ∧ i < nL then some (pc + n, am_st lo i (.ref x), r) else none
  | _ => none
def am_inc (nL i : Nat) (k : Int) (ln pc : Nat) (lo : ALo) (st : List Value) : AR := match am_lk lo i with
  | some (.int x) => if ln = 3 ∧ i < nL then some (pc + 3, am_st lo i (.int (x + Int32.ofInt k)), st) else none
  | _ => none
def am_to (pc : Nat) (off : Int) (lo : ALo) (st : List Value) : AR := match am_j pc off with
  | some t => some (t, lo, st)
  | none => none
def am_if (c : Jvm.ClassFile.Cond) (off : Int) (ln pc : Nat) (lo : ALo) : List Value → AR
  | .int x :: r => if ln = 3 then (match am_j pc off with
    | some t => if am_c c x 0 = true then some (t, lo, r) else some (pc + 3, lo, r)
    | none => none) else none
  | _ => none
def am_ic (c : Jvm.ClassFile.Cond) (off : Int) (ln pc : Nat) (lo : ALo) : List Value → AR
  | .int y :: .int x :: r => if ln = 3 then (match am_j pc off with
    | some t => if am_c c x y = true then some (t, lo, r) else some (pc + 3, lo, r)
    | none => none) else none
  | _ => none
def am_tsw (dflt low high : Int) (offs : Array Int) (pc : Nat) (lo : ALo) : List Value → AR
  | .int x :: r => if x.toInt < low ∨ high < x.toInt then am_to pc dflt lo r else (match offs[(x.toInt - low).toNat]? with
    | some off => am_to pc off lo r
    | none => none)
  | _ => none
def am_P (nL : Nat) (ins : Jvm.ClassFile.Instr) (ln pc : Nat) (lo : ALo) (st : List Value) : AR := match ins with
  | .iconst n => if ln = 1 then some (pc + 1, lo, .int (Int32.ofInt n) :: st) else none
  | .bipush n => if ln = 2 then some (pc + 2, lo, .int (Int8.ofInt n).toInt32 :: st) else none
  | .sipush n => if ln = 3 then some (pc + 3, lo, .int (Int16.ofInt n).toInt32 :: st) else none
  | .lconst n => if ln = 1 then some (pc + 1, lo, .long (Int64.ofNat (n : Nat)) :: st) else none
  | .iload_n k => am_ldi k 1 ln pc lo st
  | .iload i => am_ldi i 2 ln pc lo st
  | .lload_n k => am_ldl k 1 ln pc lo st
  | .lload i => am_ldl i 2 ln pc lo st
  | .aload_n k => am_lda k 1 ln pc lo st
  | .aload i => am_lda i 2 ln pc lo st
  | .istore_n k => am_sti nL k 1 ln pc lo st
  | .istore i => am_sti nL i 2 ln pc lo st
  | .lstore_n k => am_stl nL k 1 ln pc lo st
  | .lstore i => am_stl nL i 2 ln pc lo st
  | .astore_n k => am_sta nL k 1 ln pc lo st
  | .astore i => am_sta nL i 2 ln pc lo st
  | .iinc i k => am_inc nL i k ln pc lo st
  | .iadd => am_i2 (fun x y => x + y) ln pc lo st
  | .isub => am_i2 (fun x y => x - y) ln pc lo st
  | .imul => am_i2 (fun x y => x * y) ln pc lo st
  | .iand => am_i2 (fun x y => x &&& y) ln pc lo st
  | .ior => am_i2 (fun x y => x ||| y) ln pc lo st
  | .ixor => am_i2 (fun x y => x ^^^ y) ln pc lo st
  | .ishl => am_i2 (fun x y => x <<< (y &&& 31)) ln pc lo st
  | .ishr => am_i2 (fun x y => x >>> (y &&& 31)) ln pc lo st
  | .idiv => am_i2d (fun x y => x / y) ln pc lo st
  | .irem => am_i2d (fun x y => x - x / y * y) ln pc lo st
  | .ineg => am_i1 (fun x => .int (-x)) ln pc lo st
  | .ladd => am_l2 (fun x y => x + y) ln pc lo st
  | .lsub => am_l2 (fun x y => x - y) ln pc lo st
  | .lmul => am_l2 (fun x y => x * y) ln pc lo st
  | .land => am_l2 (fun x y => x &&& y) ln pc lo st
  | .lor => am_l2 (fun x y => x ||| y) ln pc lo st
  | .ldiv => am_l2d (fun x y => x / y) ln pc lo st
  | .lrem => am_l2d (fun x y => x - x / y * y) ln pc lo st
  | .lneg => am_l1 (fun x => .long (-x)) ln pc lo st
  | .lshl => am_ls (fun x y => x <<< (y.toInt64 &&& 63)) ln pc lo st
  | .lshr => am_ls (fun x y => x >>> (y.toInt64 &&& 63)) ln pc lo st
  | .lushr => am_ls (fun x y => (x.toUInt64 >>> (y.toInt64.toUInt64 &&& Int64.toUInt64 63)).toInt64) ln pc lo st
  | .i2l => am_i1 (fun x => .long x.toInt64) ln pc lo st
  | .l2i => am_l1 (fun x => .int x.toInt32) ln pc lo st
  | .i2b => am_i1 (fun x => .int x.toInt8.toInt32) ln pc lo st
  | .lcmp => (match st with
    | .long y :: .long x :: r => if ln = 1 then some (pc + 1, lo, .int (lg_cmp x y) :: r) else none
    | _ => none)
  | .dup => (match st with
    | a :: r => if ln = 1 ∧ a.category = 1 then some (pc + 1, lo, a :: a :: r) else none
    | _ => none)
  | .pop => (match st with
    | a :: r => if ln = 1 ∧ a.category = 1 then some (pc + 1, lo, r) else none
    | _ => none)
  | .dup2 => (match st with
    | a :: b :: r => if ln = 1 ∧ a.category = 1 ∧ b.category = 1 then some (pc + 1, lo, a :: b :: a :: b :: r) else none
    | _ => none)
  | .dup_x1 => (match st with
    | a :: b :: r => if ln = 1 ∧ a.category = 1 ∧ b.category = 1 then some (pc + 1, lo, a :: b :: a :: r) else none
    | _ => none)
  | .goto off => if ln = 3 then am_to pc off lo st else none
  | .ifCond c off => am_if c off ln pc lo st
  | .if_icmp c off => am_ic c off ln pc lo st
  | .tableswitch d a b offs => am_tsw d a b offs pc lo st
  | _ => none

theorem am_i2_inv {f : Int32 → Int32 → Int32} {ln pc : Nat} {lo : ALo} {st : List Value} {q : Nat × ALo × List Value} (h : am_i2 f ln pc lo st = some q) : ∃ y x r, st = .int y :: .int x :: r ∧ (ln = 1) ∧ q = (pc + 1, lo, .int (f x y) :: r) := by
  unfold am_i2 at h
  split at h
  · rename_i y x r
    by_cases e : ln = 1
    · rw [if_pos e] at h; cases h; exact ⟨_, _, _, rfl, e, rfl⟩
    · rw [if_neg e] at h; cases h
  · cases h
theorem am_i2d_inv {f : Int32 → Int32 → Int32} {ln pc : Nat} {lo : ALo} {st : List Value} {q : Nat × ALo × List Value} (h : am_i2d f ln pc lo st = some q) : ∃ y x r, st = .int y :: .int x :: r ∧ (ln = 1 ∧ ¬ y = 0) ∧ q = (pc + 1, lo, .int (f x y) :: r) := by
  unfold am_i2d at h
  split at h
  · rename_i y x r
    by_cases e : ln = 1 ∧ ¬ y = 0
    · rw [if_pos e] at h; cases h; exact ⟨_, _, _, rfl, e, rfl⟩
    · rw [if_neg e] at h; cases h
  · cases h
theorem am_l2_inv {f : Int64 → Int64 → Int64} {ln pc : Nat} {lo : ALo} {st : List Value} {q : Nat × ALo × List Value} (h : am_l2 f ln pc lo st = some q) : ∃ y x r, st = .long y :: .long x :: r ∧ (ln = 1) ∧ q = (pc + 1, lo, .long (f x y) :: r) := by
  unfold am_l2 at h
  split at h
  · rename_i y x r
    by_cases e : ln = 1
    · rw [if_pos e] at h; cases h; exact ⟨_, _, _, rfl, e, rfl⟩
    · rw [if_neg e] at h; cases h
  · cases h
theorem am_l2d_inv {f : Int64 → Int64 → Int64} {ln pc : Nat} {lo : ALo} {st : List Value} {q : Nat × ALo × List Value} (h : am_l2d f ln pc lo st = some q) : ∃ y x r, st = .long y :: .long x :: r ∧ (ln = 1 ∧ ¬ y = 0) ∧ q = (pc + 1, lo, .long (f x y) :: r) := by
  unfold am_l2d at h
  split at h
  · rename_i y x r
    by_cases e : ln = 1 ∧ ¬ y = 0
    · rw [if_pos e] at h; cases h; exact ⟨_, _, _, rfl, e, rfl⟩
    · rw [if_neg e] at h; cases h
  · cases h
theorem am_ls_inv {f : Int64 → Int32 → Int64} {ln pc : Nat} {lo : ALo} {st : List Value} {q : Nat × ALo × List Value} (h : am_ls f ln pc lo st = some q) : ∃ y x r, st = .int y :: .long x :: r ∧ (ln = 1) ∧ q = (pc + 1, lo, .long (f x y) :: r) := by
  unfold am_ls at h
  split at h
  · rename_i y x r
    by_cases e : ln = 1
    · rw [if_pos e] at h; cases h; exact ⟨_, _, _, rfl, e, rfl⟩
    · rw [if_neg e] at h; cases h
  · cases h
theorem am_i1_inv {f : Int32 → Value} {ln pc : Nat} {lo : ALo} {st : List Value} {q : Nat × ALo × List Value} (h : am_i1 f ln pc lo st = some q) : ∃ x r, st = .int x :: r ∧ (ln = 1) ∧ q = (pc + 1, lo, f x :: r) := by
  unfold am_i1 at h
  split at h
  · rename_i x r
    by_cases e : ln = 1
    · rw [if_pos e] at h; cases h; exact ⟨_, _, rfl, e, rfl⟩
    · rw [if_neg e] at h; cases h
  · cases h
theorem am_l1_inv {f : Int64 → Value} {ln pc : Nat} {lo : ALo} {st : List Value} {q : Nat × ALo × List Value} (h : am_l1 f ln pc lo st = some q) : ∃ x r, st = .long x :: r ∧ (ln = 1) ∧ q = (pc + 1, lo, f x :: r) := by
  unfold am_l1 at h
  split at h
  · rename_i x r
    by_cases e : ln = 1
    · rw [if_pos e] at h; cases h; exact ⟨_, _, rfl, e, rfl⟩
    · rw [if_neg e] at h; cases h
  · cases h
theorem am_sti_inv {nL i n : Nat} {ln pc : Nat} {lo : ALo} {st : List Value} {q : Nat × ALo × List Value} (h : am_sti nL i n ln pc lo st = some q) : ∃ x r, st = .int x :: r ∧ (ln = n ∧ i < nL) ∧ q = (pc + n, am_st lo i (.int x), r) := by
  unfold am_sti at h
  split at h
  · rename_i x r
    by_cases e : ln = n ∧ i < nL
    · rw [if_pos e] at h; cases h; exact ⟨_, _, rfl, e, rfl⟩
    · rw [if_neg e] at h; cases h
  · cases h
theorem am_stl_inv {nL i n : Nat} {ln pc : Nat} {lo : ALo} {st : List Value} {q : Nat × ALo × List Value} (h : am_stl nL i n ln pc lo st = some q) : ∃ x r, st = .long x :: r ∧ (ln = n ∧ i + 1 < nL) ∧ q = (pc + n, am_stL lo i (.long x), r) := by
  unfold am_stl at h
  split at h
  · rename_i x r
    by_cases e : ln = n ∧ i + 1 < nL
    · rw [if_pos e] at h; cases h; exact ⟨_, _, rfl, e, rfl⟩
    · rw [if_neg e] at h; cases h
  · cases h
theorem am_sta_inv {nL i n : Nat} {ln pc : Nat} {lo : ALo} {st : List Value} {q : Nat × ALo × List Value} (h : am_sta nL i n ln pc lo st = some q) : ∃ x r, st = .ref x :: r ∧ (ln = n ∧ i < nL) ∧ q = (pc + n, am_st lo i (.ref x), r) := by
  unfold am_sta at h
  split at h
  · rename_i x r
    by_cases e : ln = n ∧ i < nL
    · rw [if_pos e] at h; cases h; exact ⟨_, _, rfl, e, rfl⟩
    · rw [if_neg e] at h; cases h
  · cases h
theorem am_ldi_inv {i n ln pc : Nat} {lo : ALo} {st : List Value} {q : Nat × ALo × List Value} (h : am_ldi i n ln pc lo st = some q) : ∃ x, am_lk lo i = some (.int x) ∧ ln = n ∧ q = (pc + n, lo, .int x :: st) := by
  unfold am_ldi at h
  split at h
  · rename_i x hx
    by_cases e : ln = n
    · rw [if_pos e] at h; cases h; exact ⟨x, hx, e, rfl⟩
    · rw [if_neg e] at h; cases h
  · cases h
theorem am_ldl_inv {i n ln pc : Nat} {lo : ALo} {st : List Value} {q : Nat × ALo × List Value} (h : am_ldl i n ln pc lo st = some q) : ∃ x, am_lk lo i = some (.long x) ∧ ln = n ∧ q = (pc + n, lo, .long x :: st) := by
  unfold am_ldl at h
  split at h
  · rename_i x hx
    by_cases e : ln = n
    · rw [if_pos e] at h; cases h; exact ⟨x, hx, e, rfl⟩
    · rw [if_neg e] at h; cases h
  · cases h
theorem am_lda_inv {i n ln pc : Nat} {lo : ALo} {st : List Value} {q : Nat × ALo × List Value} (h : am_lda i n ln pc lo st = some q) : ∃ x, am_lk lo i = some (.ref x) ∧ ln = n ∧ q = (pc + n, lo, .ref x :: st) := by
  unfold am_lda at h
  split at h
  · rename_i x hx
    by_cases e : ln = n
    · rw [if_pos e] at h; cases h; exact ⟨x, hx, e, rfl⟩
    · rw [if_neg e] at h; cases h
  · cases h
theorem am_inc_inv {nL i ln pc : Nat} {k : Int} {lo : ALo} {st : List Value} {q : Nat × ALo × List Value} (h : am_inc nL i k ln pc lo st = some q) : ∃ x, am_lk lo i = some (.int x) ∧ (ln = 3 ∧ i < nL) ∧ q = (pc + 3, am_st lo i (.int (x + Int32.ofInt k)), st) := by
  unfold am_inc at h
  split at h
  · rename_i x hx
    by_cases e : ln = 3 ∧ i < nL
    · rw [if_pos e] at h; cases h; exact ⟨x, hx, e, rfl⟩
    · rw [if_neg e] at h; cases h
  · cases h
theorem am_to_inv {pc : Nat} {off : Int} {lo : ALo} {st : List Value} {q : Nat × ALo × List Value} (h : am_to pc off lo st = some q) : ∃ t : Nat, (pc : Int) + off = (t : Int) ∧ q = (t, lo, st) := by
  unfold am_to at h
  split at h
  · rename_i t ht
    cases h
    exact ⟨t, am_j_eq ht, rfl⟩
  · cases h
theorem am_mem_ix {lo : ALo} {k : Nat} {v : Value} (h : (k, v) ∈ lo) : ∃ j : Nat, lo[j]? = some (k, v) := List.getElem?_of_mem h
section
variable {p : Program} {l : Launch} {e : Env} {R : Room} {s : State} {m : MethodId} {args : Array Value} {below : List Frame} {meth : Method} {c : Code} {H : Heap} {locs : List Loc} {cells slots : Nat} {Q : State → Prop} {cc : ByteArray} {pc : Nat} {ls : Array Slot}
theorem am_P_ok (hx : p.tables.exec = Jvm.exec) (hb : c.code = cc) {h : Nat → Nat} {nL ln : Nat} {ins : Jvm.ClassFile.Instr} {lo : ALo} {st : List Value} {q : Nat × ALo × List Value} (hdg : decode cc pc = .ok (ins, ln)) (hl : lv_has ls nL (am_lo h lo)) (hP : am_P nL ins ln pc lo st = some q)
    (kk : ∀ ls : Array Slot, lv_has ls nL (am_lo h q.2.1) → W p l e R s m args below meth c H locs cells slots Q (F0 m q.1 ls (am_sk h q.2.2))) : W p l e R s m args below meth c H locs cells slots Q (F0 m pc ls (am_sk h st)) := by
  cases ins
  all_goals try (have h0 : (none : AR) = some q := hP; exact nomatch h0)
  case iconst n =>
    unfold am_P at hP
    by_cases e1 : ln = 1
    · subst e1
      dsimp only at hP
      rw [if_pos rfl] at hP
      cases hP
      exact lv_iconst hx hb hdg rfl (kk ls hl)
    · dsimp only at hP
      rw [if_neg e1] at hP
      cases hP
  case bipush n =>
    unfold am_P at hP
    by_cases e1 : ln = 2
    · subst e1
      dsimp only at hP
      rw [if_pos rfl] at hP
      cases hP
      exact lv_bipush hx hb hdg rfl (kk ls hl)
    · dsimp only at hP
      rw [if_neg e1] at hP
      cases hP
  case sipush n =>
    unfold am_P at hP
    by_cases e1 : ln = 3
    · subst e1
      dsimp only at hP
      rw [if_pos rfl] at hP
      cases hP
      exact lv_sipush hx hb hdg rfl (kk ls hl)
    · dsimp only at hP
      rw [if_neg e1] at hP
      cases hP
  case lconst n =>
    unfold am_P at hP
    by_cases e1 : ln = 1
    · subst e1
      dsimp only at hP
      rw [if_pos rfl] at hP
      cases hP
      exact lv_lconst hx hb hdg rfl (kk ls hl)
    · dsimp only at hP
      rw [if_neg e1] at hP
      cases hP
  case iload_n k =>
    obtain ⟨x, h1, rfl, rfl⟩ := am_ldi_inv (n := 1) hP
    exact lv_iload_n hx hb hdg rfl (am_lk_at hl h1) (kk ls hl)
  case iload k =>
    obtain ⟨x, h1, rfl, rfl⟩ := am_ldi_inv (n := 2) hP
    exact lv_iload hx hb hdg (am_lk_at hl h1) (kk ls hl)
  case istore_n k =>
    obtain ⟨x, r, rfl, ⟨rfl, h1⟩, rfl⟩ := am_sti_inv (n := 1) hP
    exact lv_istore_n hx hb hdg rfl hl h1 (am_st_eq h lo k (.int x)) (fun ls hl => kk ls hl)
  case istore k =>
    obtain ⟨x, r, rfl, ⟨rfl, h1⟩, rfl⟩ := am_sti_inv (n := 2) hP
    exact lv_istore hx hb hdg hl h1 (am_st_eq h lo k (.int x)) (fun ls hl => kk ls hl)
  case lload_n k =>
    obtain ⟨x, h1, rfl, rfl⟩ := am_ldl_inv (n := 1) hP
    exact lv_lload_n hx hb hdg rfl (am_lk_at hl h1) (kk ls hl)
  case lload k =>
    obtain ⟨x, h1, rfl, rfl⟩ := am_ldl_inv (n := 2) hP
    exact lv_lload hx hb hdg (am_lk_at hl h1) (kk ls hl)
  case lstore_n k =>
    obtain ⟨x, r, rfl, ⟨rfl, h1⟩, rfl⟩ := am_stl_inv (n := 1) hP
    exact lv_lstore_n hx hb hdg rfl hl h1 (am_stL_eq h lo k (.long x)) (fun ls hl => kk ls hl)
  case lstore k =>
    obtain ⟨x, r, rfl, ⟨rfl, h1⟩, rfl⟩ := am_stl_inv (n := 2) hP
    exact lv_lstore hx hb hdg hl h1 (am_stL_eq h lo k (.long x)) (fun ls hl => kk ls hl)
  case aload_n k =>
    obtain ⟨x, h1, rfl, rfl⟩ := am_lda_inv (n := 1) hP
    exact lv_aload_n hx hb hdg rfl (am_lk_at hl h1) (kk ls hl)
  case aload k =>
    obtain ⟨x, h1, rfl, rfl⟩ := am_lda_inv (n := 2) hP
    exact lv_aload hx hb hdg (am_lk_at hl h1) (kk ls hl)
  case astore_n k =>
    obtain ⟨x, r, rfl, ⟨rfl, h1⟩, rfl⟩ := am_sta_inv (n := 1) hP
    exact lv_astore_n hx hb hdg rfl hl h1 (am_st_eq h lo k (.ref x)) (fun ls hl => kk ls hl)
  case astore k =>
    obtain ⟨x, r, rfl, ⟨rfl, h1⟩, rfl⟩ := am_sta_inv (n := 2) hP
    exact lv_astore hx hb hdg hl h1 (am_st_eq h lo k (.ref x)) (fun ls hl => kk ls hl)
  case iinc i k =>
    obtain ⟨x, h1, ⟨rfl, h2⟩, rfl⟩ := am_inc_inv hP
    obtain ⟨j, hj⟩ := am_mem_ix (lo := am_lo h lo) (k := i) (v := .int x) (List.mem_map.mpr ⟨(i, .int x), am_lk_mem h1, rfl⟩)
    exact lv_iinc hx hb hdg hl hj rfl h2 (am_st_eq h lo i (.int (x + Int32.ofInt k))) (fun ls hl => kk ls hl)
  case iadd =>
    obtain ⟨y, x, r, rfl, rfl, rfl⟩ := am_i2_inv hP
    exact lv_iadd hx hb hdg (kk ls hl)
  case isub =>
    obtain ⟨y, x, r, rfl, rfl, rfl⟩ := am_i2_inv hP
    exact lv_isub hx hb hdg (kk ls hl)
  case imul =>
    obtain ⟨y, x, r, rfl, rfl, rfl⟩ := am_i2_inv hP
    exact lv_imul hx hb hdg (kk ls hl)
  case iand =>
    obtain ⟨y, x, r, rfl, rfl, rfl⟩ := am_i2_inv hP
    exact lv_iand hx hb hdg (kk ls hl)
  case ior =>
    obtain ⟨y, x, r, rfl, rfl, rfl⟩ := am_i2_inv hP
    exact lv_ior hx hb hdg (kk ls hl)
  case ixor =>
    obtain ⟨y, x, r, rfl, rfl, rfl⟩ := am_i2_inv hP
    exact lv_ixor hx hb hdg (kk ls hl)
  case ishl =>
    obtain ⟨y, x, r, rfl, rfl, rfl⟩ := am_i2_inv hP
    exact lv_ishl hx hb hdg (kk ls hl)
  case ishr =>
    obtain ⟨y, x, r, rfl, rfl, rfl⟩ := am_i2_inv hP
    exact lv_ishr hx hb hdg (kk ls hl)
  case idiv =>
    obtain ⟨y, x, r, rfl, ⟨rfl, h1⟩, rfl⟩ := am_i2d_inv hP
    exact lv_idiv hx hb hdg h1 (kk ls hl)
  case irem =>
    obtain ⟨y, x, r, rfl, ⟨rfl, h1⟩, rfl⟩ := am_i2d_inv hP
    exact lv_irem hx hb hdg h1 (kk ls hl)
  case ladd =>
    obtain ⟨y, x, r, rfl, rfl, rfl⟩ := am_l2_inv hP
    exact lv_ladd hx hb hdg (kk ls hl)
  case lsub =>
    obtain ⟨y, x, r, rfl, rfl, rfl⟩ := am_l2_inv hP
    exact lv_lsub hx hb hdg (kk ls hl)
  case lmul =>
    obtain ⟨y, x, r, rfl, rfl, rfl⟩ := am_l2_inv hP
    exact lv_lmul hx hb hdg (kk ls hl)
  case land =>
    obtain ⟨y, x, r, rfl, rfl, rfl⟩ := am_l2_inv hP
    exact lv_land hx hb hdg (kk ls hl)
  case lor =>
    obtain ⟨y, x, r, rfl, rfl, rfl⟩ := am_l2_inv hP
    exact lv_lor hx hb hdg (kk ls hl)
  case ldiv =>
    obtain ⟨y, x, r, rfl, ⟨rfl, h1⟩, rfl⟩ := am_l2d_inv hP
    exact lv_ldiv hx hb hdg h1 (kk ls hl)
  case lrem =>
    obtain ⟨y, x, r, rfl, ⟨rfl, h1⟩, rfl⟩ := am_l2d_inv hP
    exact lv_lrem hx hb hdg h1 (kk ls hl)
  case lshl =>
    obtain ⟨y, x, r, rfl, rfl, rfl⟩ := am_ls_inv hP
    exact lv_lshl hx hb hdg rfl (kk ls hl)
  case lshr =>
    obtain ⟨y, x, r, rfl, rfl, rfl⟩ := am_ls_inv hP
    exact lv_lshr hx hb hdg rfl (kk ls hl)
  case lushr =>
    obtain ⟨y, x, r, rfl, rfl, rfl⟩ := am_ls_inv hP
    exact lv_lushr hx hb hdg rfl (kk ls hl)
  case ineg =>
    obtain ⟨x, r, rfl, rfl, rfl⟩ := am_i1_inv hP
    exact lv_ineg hx hb hdg (kk ls hl)
  case lneg =>
    obtain ⟨x, r, rfl, rfl, rfl⟩ := am_l1_inv hP
    exact lv_lneg hx hb hdg (kk ls hl)
  case i2l =>
    obtain ⟨x, r, rfl, rfl, rfl⟩ := am_i1_inv hP
    exact lv_i2l hx hb hdg rfl (kk ls hl)
  case i2b =>
    obtain ⟨x, r, rfl, rfl, rfl⟩ := am_i1_inv hP
    exact lv_i2b hx hb hdg rfl (kk ls hl)
  case l2i =>
    obtain ⟨x, r, rfl, rfl, rfl⟩ := am_l1_inv hP
    exact lv_l2i hx hb hdg rfl (kk ls hl)
  case lcmp =>
    unfold am_P at hP
    dsimp only at hP
    split at hP
    · by_cases e1 : ln = 1
      · rw [if_pos e1] at hP
        cases hP
        subst e1
        exact W.lcmp hx hb hdg (kk ls hl)
      · rw [if_neg e1] at hP
        cases hP
    · cases hP
  case dup =>
    unfold am_P at hP
    dsimp only at hP
    split at hP
    · rename_i a r
      by_cases e1 : ln = 1 ∧ a.category = 1
      · rw [if_pos e1] at hP
        cases hP
        obtain ⟨rfl, ca⟩ := e1
        exact lv_dup hx hb hdg ((am_v_cat h a).trans ca) (kk ls hl)
      · rw [if_neg e1] at hP
        cases hP
    · cases hP
  case pop =>
    unfold am_P at hP
    dsimp only at hP
    split at hP
    · rename_i a r
      by_cases e1 : ln = 1 ∧ a.category = 1
      · rw [if_pos e1] at hP
        cases hP
        obtain ⟨rfl, ca⟩ := e1
        exact lv_pop hx hb hdg ((am_v_cat h a).trans ca) (kk ls hl)
      · rw [if_neg e1] at hP
        cases hP
    · cases hP
  case dup2 =>
    unfold am_P at hP
    dsimp only at hP
    split at hP
    · rename_i a b r
      by_cases e1 : ln = 1 ∧ a.category = 1 ∧ b.category = 1
      · rw [if_pos e1] at hP
        cases hP
        obtain ⟨rfl, ca, cb⟩ := e1
        exact lv_dup2_11 hx hb hdg ((am_v_cat h a).trans ca) ((am_v_cat h b).trans cb) (kk ls hl)
      · rw [if_neg e1] at hP
        cases hP
    · cases hP
  case dup_x1 =>
    unfold am_P at hP
    dsimp only at hP
    split at hP
    · rename_i a b r
      by_cases e1 : ln = 1 ∧ a.category = 1 ∧ b.category = 1
      · rw [if_pos e1] at hP
        cases hP
        obtain ⟨rfl, ca, cb⟩ := e1
        exact lv_dup_x1 hx hb hdg ((am_v_cat h a).trans ca) ((am_v_cat h b).trans cb) (kk ls hl)
      · rw [if_neg e1] at hP
        cases hP
    · cases hP
  case goto off =>
    unfold am_P at hP
    dsimp only at hP
    by_cases e1 : ln = 3
    · subst e1
      rw [if_pos rfl] at hP
      obtain ⟨t, ht, rfl⟩ := am_to_inv hP
      exact lv_goto hx hb hdg ht (kk ls hl)
    · rw [if_neg e1] at hP
      cases hP
  case ifCond k off =>
    unfold am_P am_if at hP
    dsimp only at hP
    split at hP
    · rename_i x r
      by_cases e1 : ln = 3
      · subst e1
        rw [if_pos rfl] at hP
        split at hP
        · rename_i t ht
          have ht := am_j_eq ht
          by_cases e2 : am_c k x 0 = true
          · rw [if_pos e2] at hP
            cases hP
            cases k
            · exact lv_if_eq hx hb hdg ht (fun _ => kk ls hl) (fun z => absurd (of_decide_eq_true e2) z)
            · exact lv_if_ne hx hb hdg ht (fun _ => kk ls hl) (fun z => absurd z (of_decide_eq_true e2))
            · exact lv_if_lt hx hb hdg ht (fun _ => kk ls hl) (fun z => absurd (of_decide_eq_true e2) z)
            · exact lv_if_ge hx hb hdg ht (fun _ => kk ls hl) (fun z => absurd (of_decide_eq_true e2) z)
            · exact lv_if_gt hx hb hdg ht (fun _ => kk ls hl) (fun z => absurd (of_decide_eq_true e2) z)
            · exact lv_if_le hx hb hdg ht (fun _ => kk ls hl) (fun z => absurd (of_decide_eq_true e2) z)
          · rw [if_neg e2] at hP
            cases hP
            have e3 : am_c k x 0 = false := by simpa using e2
            cases k
            · exact lv_if_eq hx hb hdg ht (fun z => absurd z (of_decide_eq_false e3)) (fun _ => kk ls hl)
            · exact lv_if_ne hx hb hdg ht (fun z => absurd z (of_decide_eq_false e3)) (fun _ => kk ls hl)
            · exact lv_if_lt hx hb hdg ht (fun z => absurd z (of_decide_eq_false e3)) (fun _ => kk ls hl)
            · exact lv_if_ge hx hb hdg ht (fun z => absurd z (of_decide_eq_false e3)) (fun _ => kk ls hl)
            · exact lv_if_gt hx hb hdg ht (fun z => absurd z (of_decide_eq_false e3)) (fun _ => kk ls hl)
            · exact lv_if_le hx hb hdg ht (fun z => absurd z (of_decide_eq_false e3)) (fun _ => kk ls hl)
        · cases hP
      · rw [if_neg e1] at hP
        cases hP
    · cases hP
  case if_icmp k off =>
    unfold am_P am_ic at hP
    dsimp only at hP
    split at hP
    · rename_i y x r
      by_cases e1 : ln = 3
      · subst e1
        rw [if_pos rfl] at hP
        split at hP
        · rename_i t ht
          have ht := am_j_eq ht
          by_cases e2 : am_c k x y = true
          · rw [if_pos e2] at hP
            cases hP
            cases k
            · exact lv_icmp_eq hx hb hdg ht (fun _ => kk ls hl) (fun z => absurd (of_decide_eq_true e2) z)
            · exact lv_icmp_ne hx hb hdg ht (fun _ => kk ls hl) (fun z => absurd z (of_decide_eq_true e2))
            · exact lv_icmp_lt hx hb hdg ht (fun _ => kk ls hl) (fun z => absurd (of_decide_eq_true e2) z)
            · exact lv_icmp_ge hx hb hdg ht (fun _ => kk ls hl) (fun z => absurd (of_decide_eq_true e2) z)
            · exact lv_icmp_gt hx hb hdg ht (fun _ => kk ls hl) (fun z => absurd (of_decide_eq_true e2) z)
            · exact lv_icmp_le hx hb hdg ht (fun _ => kk ls hl) (fun z => absurd (of_decide_eq_true e2) z)
          · rw [if_neg e2] at hP
            cases hP
            have e3 : am_c k x y = false := by simpa using e2
            cases k
            · exact lv_icmp_eq hx hb hdg ht (fun z => absurd z (of_decide_eq_false e3)) (fun _ => kk ls hl)
            · exact lv_icmp_ne hx hb hdg ht (fun z => absurd z (of_decide_eq_false e3)) (fun _ => kk ls hl)
            · exact lv_icmp_lt hx hb hdg ht (fun z => absurd z (of_decide_eq_false e3)) (fun _ => kk ls hl)
            · exact lv_icmp_ge hx hb hdg ht (fun z => absurd z (of_decide_eq_false e3)) (fun _ => kk ls hl)
            · exact lv_icmp_gt hx hb hdg ht (fun z => absurd z (of_decide_eq_false e3)) (fun _ => kk ls hl)
            · exact lv_icmp_le hx hb hdg ht (fun z => absurd z (of_decide_eq_false e3)) (fun _ => kk ls hl)
        · cases hP
      · rw [if_neg e1] at hP
        cases hP
    · cases hP
  case tableswitch d a b offs =>
    unfold am_P am_tsw at hP
    dsimp only at hP
    split at hP
    · rename_i x r
      by_cases e1 : x.toInt < a ∨ b < x.toInt
      · rw [if_pos e1] at hP
        obtain ⟨t, ht, rfl⟩ := am_to_inv hP
        exact lv_tableOut hx hb hdg e1 ht (kk ls hl)
      · rw [if_neg e1] at hP
        split at hP
        · rename_i off ho
          obtain ⟨t, ht, rfl⟩ := am_to_inv hP
          exact lv_tableIn hx hb hdg (fun z => e1 (Or.inl z)) (fun z => e1 (Or.inr z)) ho ht (kk ls hl)
        · cases hP
    · cases hP
end
