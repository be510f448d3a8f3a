/-! THE ABSTRACT MACHINE'S RUN -/
def okL (lo : ALo) : Prop := ∀ q ∈ lo, okV q.2
def okS (st : List Value) : Prop := ∀ v ∈ st, okV v
theorem okS.c {v : Value} {st : List Value} (h : okV v) (h' : okS st) : okS (v :: st) := fun x hx => by
  rcases List.mem_cons.mp hx with rfl | hx
  · exact h
  · exact h' x hx
theorem okS.t {v : Value} {st : List Value} (h : okS (v :: st)) : okS st := fun x hx => h x (List.mem_cons_of_mem _ hx)
theorem okS.h {v : Value} {st : List Value} (h : okS (v :: st)) : okV v := h v List.mem_cons_self
theorem okL.lk {lo : ALo} {k : Nat} {v : Value} (h : okL lo) (hk : am_lk lo k = some v) : okV v := h _ (am_lk_mem hk)
theorem okL.fil {lo : ALo} {f : Nat × Value → Bool} {i : Nat} {v : Value} (h : okL lo) (hv : okV v) : okL ((i, v) :: lo.filter f) := fun q hq => by
  rcases List.mem_cons.mp hq with rfl | hq
  · exact hv
  · exact h q (List.mem_filter.mp hq).1
theorem am_P_okv {nL : Nat} {ins : Jvm.ClassFile.Instr} {ln pc : Nat} {lo : ALo} {st : List Value} {q : Nat × ALo × List Value} (h : am_P nL ins ln pc lo st = some q) (hl : okL lo) (hs : okS st) : okL q.2.1 ∧ okS q.2.2 := by
  cases ins
  all_goals try (have h0 : (none : AR) = some q := h; exact nomatch h0)
  case iconst n =>
    unfold am_P at h
    by_cases e1 : ln = 1
    · dsimp only at h
      rw [if_pos e1] at h
      cases h
      exact ⟨hl, hs.c trivial⟩
    · dsimp only at h
      rw [if_neg e1] at h
      cases h
  case bipush n =>
    unfold am_P at h
    by_cases e1 : ln = 2
    · dsimp only at h
      rw [if_pos e1] at h
      cases h
      exact ⟨hl, hs.c trivial⟩
    · dsimp only at h
      rw [if_neg e1] at h
      cases h
  case sipush n =>
    unfold am_P at h
    by_cases e1 : ln = 3
    · dsimp only at h
      rw [if_pos e1] at h
      cases h
      exact ⟨hl, hs.c trivial⟩
    · dsimp only at h
      rw [if_neg e1] at h
      cases h
  case lconst n =>
    unfold am_P at h
    by_cases e1 : ln = 1
    · dsimp only at h
      rw [if_pos e1] at h
      cases h
      exact ⟨hl, hs.c trivial⟩
    · dsimp only at h
      rw [if_neg e1] at h
      cases h
  case iload_n k =>
    obtain ⟨x, h1, rfl, rfl⟩ := am_ldi_inv (n := 1) h
    exact ⟨hl, hs.c (hl.lk h1)⟩
  case iload k =>
    obtain ⟨x, h1, rfl, rfl⟩ := am_ldi_inv (n := 2) h
    exact ⟨hl, hs.c (hl.lk h1)⟩
  case istore_n k =>
    obtain ⟨x, r, rfl, ⟨rfl, h1⟩, rfl⟩ := am_sti_inv (n := 1) h
    exact ⟨okL.fil hl hs.h, hs.t⟩
  case istore k =>
    obtain ⟨x, r, rfl, ⟨rfl, h1⟩, rfl⟩ := am_sti_inv (n := 2) h
    exact ⟨okL.fil hl hs.h, hs.t⟩
  case lload_n k =>
    obtain ⟨x, h1, rfl, rfl⟩ := am_ldl_inv (n := 1) h
    exact ⟨hl, hs.c (hl.lk h1)⟩
  case lload k =>
    obtain ⟨x, h1, rfl, rfl⟩ := am_ldl_inv (n := 2) h
    exact ⟨hl, hs.c (hl.lk h1)⟩
  case lstore_n k =>
    obtain ⟨x, r, rfl, ⟨rfl, h1⟩, rfl⟩ := am_stl_inv (n := 1) h
    exact ⟨okL.fil hl hs.h, hs.t⟩
  case lstore k =>
    obtain ⟨x, r, rfl, ⟨rfl, h1⟩, rfl⟩ := am_stl_inv (n := 2) h
    exact ⟨okL.fil hl hs.h, hs.t⟩
  case aload_n k =>
    obtain ⟨x, h1, rfl, rfl⟩ := am_lda_inv (n := 1) h
    exact ⟨hl, hs.c (hl.lk h1)⟩
  case aload k =>
    obtain ⟨x, h1, rfl, rfl⟩ := am_lda_inv (n := 2) h
    exact ⟨hl, hs.c (hl.lk h1)⟩
  case astore_n k =>
    obtain ⟨x, r, rfl, ⟨rfl, h1⟩, rfl⟩ := am_sta_inv (n := 1) h
    exact ⟨okL.fil hl hs.h, hs.t⟩
  case astore k =>
    obtain ⟨x, r, rfl, ⟨rfl, h1⟩, rfl⟩ := am_sta_inv (n := 2) h
    exact ⟨okL.fil hl hs.h, hs.t⟩
  case iinc i k =>
    obtain ⟨x, h1, ⟨rfl, h2⟩, rfl⟩ := am_inc_inv h
    exact ⟨okL.fil hl trivial, hs⟩
  case iadd =>
    obtain ⟨y, x, r, rfl, rfl, rfl⟩ := am_i2_inv h
    exact ⟨hl, hs.t.t.c trivial⟩
  case isub =>
    obtain ⟨y, x, r, rfl, rfl, rfl⟩ := am_i2_inv h
    exact ⟨hl, hs.t.t.c trivial⟩
  case imul =>
    obtain ⟨y, x, r, rfl, rfl, rfl⟩ := am_i2_inv h
    exact ⟨hl, hs.t.t.c trivial⟩
  case iand =>
    obtain ⟨y, x, r, rfl, rfl, rfl⟩ := am_i2_inv h
    exact ⟨hl, hs.t.t.c trivial⟩
  case ior =>
    obtain ⟨y, x, r, rfl, rfl, rfl⟩ := am_i2_inv h
    exact ⟨hl, hs.t.t.c trivial⟩
  case ixor =>
    obtain ⟨y, x, r, rfl, rfl, rfl⟩ := am_i2_inv h
    exact ⟨hl, hs.t.t.c trivial⟩
  case ishl =>
    obtain ⟨y, x, r, rfl, rfl, rfl⟩ := am_i2_inv h
    exact ⟨hl, hs.t.t.c trivial⟩
  case ishr =>
    obtain ⟨y, x, r, rfl, rfl, rfl⟩ := am_i2_inv h
    exact ⟨hl, hs.t.t.c trivial⟩
  case idiv =>
    obtain ⟨y, x, r, rfl, ⟨rfl, h1⟩, rfl⟩ := am_i2d_inv h
    exact ⟨hl, hs.t.t.c trivial⟩
  case irem =>
    obtain ⟨y, x, r, rfl, ⟨rfl, h1⟩, rfl⟩ := am_i2d_inv h
    exact ⟨hl, hs.t.t.c trivial⟩
  case ladd =>
    obtain ⟨y, x, r, rfl, rfl, rfl⟩ := am_l2_inv h
    exact ⟨hl, hs.t.t.c trivial⟩
  case lsub =>
    obtain ⟨y, x, r, rfl, rfl, rfl⟩ := am_l2_inv h
    exact ⟨hl, hs.t.t.c trivial⟩
  case lmul =>
    obtain ⟨y, x, r, rfl, rfl, rfl⟩ := am_l2_inv h
    exact ⟨hl, hs.t.t.c trivial⟩
  case land =>
    obtain ⟨y, x, r, rfl, rfl, rfl⟩ := am_l2_inv h
    exact ⟨hl, hs.t.t.c trivial⟩
  case lor =>
    obtain ⟨y, x, r, rfl, rfl, rfl⟩ := am_l2_inv h
    exact ⟨hl, hs.t.t.c trivial⟩
  case ldiv =>
    obtain ⟨y, x, r, rfl, ⟨rfl, h1⟩, rfl⟩ := am_l2d_inv h
    exact ⟨hl, hs.t.t.c trivial⟩
  case lrem =>
    obtain ⟨y, x, r, rfl, ⟨rfl, h1⟩, rfl⟩ := am_l2d_inv h
    exact ⟨hl, hs.t.t.c trivial⟩
  case lshl =>
    obtain ⟨y, x, r, rfl, rfl, rfl⟩ := am_ls_inv h
    exact ⟨hl, hs.t.t.c trivial⟩
  case lshr =>
    obtain ⟨y, x, r, rfl, rfl, rfl⟩ := am_ls_inv h
    exact ⟨hl, hs.t.t.c trivial⟩
  case lushr =>
    obtain ⟨y, x, r, rfl, rfl, rfl⟩ := am_ls_inv h
    exact ⟨hl, hs.t.t.c trivial⟩
  case ineg =>
    obtain ⟨x, r, rfl, rfl, rfl⟩ := am_i1_inv h
    exact ⟨hl, hs.t.c trivial⟩
  case i2l =>
    obtain ⟨x, r, rfl, rfl, rfl⟩ := am_i1_inv h
    exact ⟨hl, hs.t.c trivial⟩
  case i2b =>
    obtain ⟨x, r, rfl, rfl, rfl⟩ := am_i1_inv h
    exact ⟨hl, hs.t.c trivial⟩
  case lneg =>
    obtain ⟨x, r, rfl, rfl, rfl⟩ := am_l1_inv h
    exact ⟨hl, hs.t.c trivial⟩
  case l2i =>
    obtain ⟨x, r, rfl, rfl, rfl⟩ := am_l1_inv h
    exact ⟨hl, hs.t.c trivial⟩
  case lcmp =>
    unfold am_P at h
    dsimp only at h
    split at h
    · by_cases e1 : ln = 1
      · rw [if_pos e1] at h
        cases h
        exact ⟨hl, hs.t.t.c trivial⟩
      · rw [if_neg e1] at h
        cases h
    · cases h
  case dup =>
    unfold am_P at h
    dsimp only at h
    split at h
    · rename_i a r
      by_cases e1 : ln = 1 ∧ a.category = 1
      · rw [if_pos e1] at h
        cases h
        exact ⟨hl, hs.c hs.h⟩
      · rw [if_neg e1] at h
        cases h
    · cases h
  case pop =>
    unfold am_P at h
    dsimp only at h
    split at h
    · rename_i a r
      by_cases e1 : ln = 1 ∧ a.category = 1
      · rw [if_pos e1] at h
        cases h
        exact ⟨hl, hs.t⟩
      · rw [if_neg e1] at h
        cases h
    · cases h
  case dup2 =>
    unfold am_P at h
    dsimp only at h
    split at h
    · rename_i a b r
      by_cases e1 : ln = 1 ∧ a.category = 1 ∧ b.category = 1
      · rw [if_pos e1] at h
        cases h
        exact ⟨hl, (hs.c hs.t.h).c hs.h⟩
      · rw [if_neg e1] at h
        cases h
    · cases h
  case dup_x1 =>
    unfold am_P at h
    dsimp only at h
    split at h
    · rename_i a b r
      by_cases e1 : ln = 1 ∧ a.category = 1 ∧ b.category = 1
      · rw [if_pos e1] at h
        cases h
        exact ⟨hl, ((hs.t.t.c hs.h).c hs.t.h).c hs.h⟩
      · rw [if_neg e1] at h
        cases h
    · cases h
  case goto off =>
    unfold am_P at h
    dsimp only at h
    by_cases e1 : ln = 3
    · rw [if_pos e1] at h
      obtain ⟨t, ht, rfl⟩ := am_to_inv h
      exact ⟨hl, hs⟩
    · rw [if_neg e1] at h
      cases h
  case ifCond k off =>
    unfold am_P am_if at h
    dsimp only at h
    split at h
    · rename_i x r
      by_cases e1 : ln = 3
      · rw [if_pos e1] at h
        split at h
        · rename_i t ht
          by_cases e2 : am_c k x 0 = true
          · rw [if_pos e2] at h
            cases h
            exact ⟨hl, hs.t⟩
          · rw [if_neg e2] at h
            cases h
            exact ⟨hl, hs.t⟩
        · cases h
      · rw [if_neg e1] at h
        cases h
    · cases h
  case if_icmp k off =>
    unfold am_P am_ic at h
    dsimp only at h
    split at h
    · rename_i y x r
      by_cases e1 : ln = 3
      · rw [if_pos e1] at h
        split at h
        · rename_i t ht
          by_cases e2 : am_c k x y = true
          · rw [if_pos e2] at h
            cases h
            exact ⟨hl, hs.t.t⟩
          · rw [if_neg e2] at h
            cases h
            exact ⟨hl, hs.t.t⟩
        · cases h
      · rw [if_neg e1] at h
        cases h
    · cases h
  case tableswitch d a b offs =>
    unfold am_P am_tsw at h
    dsimp only at h
    split at h
    · rename_i x r
      by_cases e1 : x.toInt < a ∨ b < x.toInt
      · rw [if_pos e1] at h
        obtain ⟨t, ht, rfl⟩ := am_to_inv h
        exact ⟨hl, hs.t⟩
      · rw [if_neg e1] at h
        split at h
        · rename_i off ho
          obtain ⟨t, ht, rfl⟩ := am_to_inv h
          exact ⟨hl, hs.t⟩
        · cases h
    · cases h
theorem rows_former : ∀ k, k < 6 → rowArr (10 + 2 * k) = false := by decide +kernel
theorem am_put_scr {σ σ' : SS} {ci z k : Nat} {v : Value} (h : am_put σ ci z k v = some σ') : sN σ' = sN σ ∧ sS σ' = sS σ := by
  unfold am_put at h
  split at h
  · split at h
    · split at h
      · split at h
        · split at h
          · cases h; exact ⟨rfl, rfl⟩
          · cases h
        · split at h
          · split at h
            · split at h
              · cases h; exact ⟨rfl, rfl⟩
              · cases h
            · cases h
          · cases h
      · cases h
    · split at h
      · cases h; exact ⟨rfl, rfl⟩
      · cases h
    · split at h
      · split at h
        · split at h
          · cases h; exact ⟨rfl, rfl⟩
          · cases h
        · cases h
      · cases h
    · cases h
  · cases h
theorem am_H_okv {G : Nat → ClassId} {ad : Nat → Nat} {cl : Nat → va_E} {law : Bool} {own : Nat} {ins : Jvm.ClassFile.Instr} {ln : Nat} {st : List Value} {σ : SS} {q : List Value × SS} (P : PIC G ad cl σ) (h : am_H law own ins ln st σ = some q) (hs : okS st) : okS q.1 ∧ sN q.2 = sN σ ∧ sS q.2 = sS σ := by
  cases ins
  all_goals try (have h0 : (none : HR) = some q := h; exact nomatch h0)
  case getfield idx =>
    unfold am_H am_getf at h
    dsimp only at h
    split at h
    · split at h
      · split at h
        · rename_i q1 hq
          split at h
          · rename_i v hv
            cases h
            exact ⟨hs.t.c (am_get_ok (b := 0) (t := ad) P (am_fl_ok hq).2.1 hv).2.2, rfl, rfl⟩
          · cases h
        · cases h
      · cases h
    · cases h
  case putfield idx =>
    unfold am_H am_putf at h
    dsimp only at h
    split at h
    · split at h
      · split at h
        · split at h
          · rename_i σ' hv
            cases h
            exact ⟨hs.t.t, am_put_scr hv⟩
          · cases h
        · cases h
      · cases h
    · cases h
  case iaload =>
    unfold am_H am_iald at h
    dsimp only at h
    split at h
    · split at h
      · split at h
        · split at h
          · cases h; exact ⟨hs.t.t.c trivial, rfl, rfl⟩
          · cases h
        · split at h
          · split at h
            · cases h; exact ⟨hs.t.t.c trivial, rfl, rfl⟩
            · cases h
          · cases h
      · cases h
    · cases h
  case baload =>
    unfold am_H am_bald at h
    dsimp only at h
    split at h
    · split at h
      · split at h
        · split at h
          · cases h; exact ⟨hs.t.t.c trivial, rfl, rfl⟩
          · cases h
        · cases h
      · cases h
    · cases h
  case iastore =>
    unfold am_H am_iast at h
    dsimp only at h
    split at h
    · split at h
      · split at h
        · split at h
          · cases h; exact ⟨hs.t.t.t, rfl, rfl⟩
          · cases h
        · cases h
      · cases h
    · cases h
  case bastore =>
    unfold am_H am_bast at h
    dsimp only at h
    split at h
    · split at h
      · split at h
        · split at h
          · split at h
            · cases h; exact ⟨hs.t.t.t, rfl, rfl⟩
            · split at h
              · cases h; exact ⟨hs.t.t.t, rfl, rfl⟩
              · cases h
          · cases h
        · cases h
      · cases h
    · cases h
  case laload =>
    unfold am_H am_lald at h
    dsimp only at h
    split at h
    · split at h
      · cases h; exact ⟨hs.t.t.c trivial, rfl, rfl⟩
      · cases h
    · cases h
  case lastore =>
    unfold am_H am_last at h
    dsimp only at h
    split at h
    · split at h
      · cases h; exact ⟨hs.t.t.t, rfl, rfl⟩
      · cases h
    · cases h
  case aaload =>
    unfold am_H am_aald at h
    dsimp only at h
    split at h
    · split at h
      · rename_i e
        cases h
        have hin := am_in_ok e.2.2
        exact ⟨hs.t.t.c (rows_former _ (Nat.not_le.mp fun q => hin (Or.inr q))), rfl, rfl⟩
      · cases h
    · cases h
  case arraylength =>
    unfold am_H am_alen at h
    dsimp only at h
    split at h
    · split at h
      · split at h
        · split at h
          · cases h; exact ⟨hs.t.c trivial, rfl, rfl⟩
          · cases h
        · split at h
          · split at h
            · cases h; exact ⟨hs.t.c trivial, rfl, rfl⟩
            · cases h
          · cases h
      · cases h
    · cases h
  case ldc idx =>
    unfold am_H at h
    dsimp only at h
    split at h
    · split at h
      · cases h; exact ⟨hs.c trivial, rfl, rfl⟩
      · cases h
    · cases h
  case ldc_w idx =>
    unfold am_H at h
    dsimp only at h
    split at h
    · split at h
      · cases h; exact ⟨hs.c trivial, rfl, rfl⟩
      · cases h
    · cases h
  case ldc2_w idx =>
    unfold am_H at h
    dsimp only at h
    split at h
    · split at h
      · cases h; exact ⟨hs.c trivial, rfl, rfl⟩
      · cases h
    · cases h
/-! returns -/
def am_R (T : Option FieldType) (ins : Jvm.ClassFile.Instr) (ln : Nat) (st : List Value) : Option (Option Int32) := match ins with
  | .ireturn => (match st with
    | [.int v] => if ln = 1 ∧ (T = some .int ∨ (T = some .boolean ∧ narrow .boolean (.int v) = .int v)) then some (some v) else none
    | _ => none)
  | .return_ => (match st with
    | [] => if ln = 1 ∧ T = none then some none else none
    | _ => none)
  | _ => none
def am_rs : Option Int32 → List Value
  | some v => [.int v]
  | none => []
def am_Rok (cc : ByteArray) (T : Option FieldType) (pc : Nat) : Option Int32 → Prop
  | some v => decode cc pc = .ok (.ireturn, 1) ∧ (T = some .int ∨ (T = some .boolean ∧ narrow .boolean (.int v) = .int v))
  | none => decode cc pc = .ok (.return_, 1) ∧ T = none
theorem am_R_ok {cc : ByteArray} {T : Option FieldType} {ins : Jvm.ClassFile.Instr} {ln pc : Nat} {st : List Value} {r : Option Int32} (hdg : decode cc pc = .ok (ins, ln)) (h : am_R T ins ln st = some r) : am_Rok cc T pc r ∧ st = am_rs r := by
  cases ins
  all_goals try (have h0 : (none : Option (Option Int32)) = some r := h; exact nomatch h0)
  case ireturn =>
    unfold am_R at h
    dsimp only at h
    split at h
    · split at h
      · rename_i e
        cases h
        obtain ⟨rfl, e⟩ := e
        exact ⟨⟨hdg, e⟩, rfl⟩
      · cases h
    · cases h
  case return_ =>
    unfold am_R at h
    dsimp only at h
    split at h
    · split at h
      · rename_i e
        cases h
        obtain ⟨rfl, e⟩ := e
        exact ⟨⟨hdg, e⟩, rfl⟩
      · cases h
    · cases h
/-! throws: new E, dup, its <init>, athrow -/
def NMS : List String := ["java/lang/RuntimeException", "java/lang/Exception"]
def THok (own : Nat) (q : Nat × Nat × String) : Prop := Bundle.fit q.2.2 = true ∧ Cond.classLink (rx own) q.1 q.2.2 ∈ tb ∧ Cond.initialized q.2.2 ∈ tb ∧ (∀ w ∈ (vx_at0 (rx own) q.2.1 q.2.2 ["java/lang/RuntimeException", "java/lang/Exception"]).filter goodWord, w ∈ tb) ∧ (∀ w ∈ (vx_at0 (rx own) q.2.1 q.2.2 ["java/lang/RuntimeException", "java/lang/Exception"]).filter (fun w => !goodWord w), w ∈ tables_1 ∧ isNest w = true) ∧ (∀ w ∈ Cond.classLink (rx own) q.1 q.2.2 :: Cond.initialized q.2.2 :: vx_at0 (rx own) q.2.1 q.2.2 ["java/lang/RuntimeException", "java/lang/Exception"], vx_ot w = true)
def thT_4 : List (Nat × Nat × String) := [(23, 25, "java/lang/IllegalStateException")]
def thT_11 : List (Nat × Nat × String) := [(150, 306, "java/lang/IllegalStateException"), (307, 309, "java/lang/IndexOutOfBoundsException"), (115, 117, "java/lang/IllegalArgumentException")]
theorem thT_4_ok : AllP (THok 4) thT_4 := ⟨⟨by decide +kernel, tk_4_23, ti_ISE, th_4_25, tx_4_25, to_4_25⟩, trivial⟩
theorem thT_11_ok : AllP (THok 11) thT_11 := ⟨⟨by decide +kernel, tk_11_150, ti_ISE, th_11_306, tx_11_306, to_11_306⟩, ⟨by decide +kernel, tk_11_307, ti_IOB, th_11_309, tx_11_309, to_11_309⟩, ⟨by decide +kernel, tk_11_115, ti_IAE, th_11_117, tx_11_117, to_11_117⟩, trivial⟩
def thT : Nat → List (Nat × Nat × String)
  | 4 => thT_4
  | 11 => thT_11
  | _ => []
theorem thT_ok (c : Nat) : AllP (THok c) (thT c) := by
  unfold thT
  split
  · exact thT_4_ok
  · exact thT_11_ok
  · exact trivial
def am_T (μ : Nat) (ins : Jvm.ClassFile.Instr) (pc ln : Nat) (st : List Value) : Option String := match ins with
  | .new ik => (match (thT (mO μ)).find? (fun q => q.1 == ik) with
    | some q => if ln = 3 ∧ mH μ = [] ∧ (st.map fun v => v.category).sum ≤ 8 ∧ decode (mC μ) (pc + 3) = .ok (.dup, 1) ∧ decode (mC μ) (pc + 4) = .ok (.invokespecial q.2.1, 3) ∧ decode (mC μ) (pc + 7) = .ok (.athrow, 1) then some q.2.2 else none
    | none => none)
  | _ => none
theorem am_T_ok {μ : Nat} {ins : Jvm.ClassFile.Instr} {pc ln : Nat} {st : List Value} {E : String} (h : am_T μ ins pc ln st = some E) : ∃ ik ic, ins = .new ik ∧ ln = 3 ∧ mH μ = [] ∧ (st.map fun v => v.category).sum ≤ 8 ∧ decode (mC μ) (pc + 3) = .ok (.dup, 1) ∧ decode (mC μ) (pc + 4) = .ok (.invokespecial ic, 3) ∧ decode (mC μ) (pc + 7) = .ok (.athrow, 1) ∧ THok (mO μ) (ik, ic, E) := by
  cases ins
  all_goals try (have h0 : (none : Option String) = some E := h; exact nomatch h0)
  case new ik =>
    unfold am_T at h
    dsimp only at h
    split at h
    · rename_i q hq
      split at h
      · rename_i e
        cases h
        have hm := AllP.mem (thT_ok (mO μ)) (List.mem_of_find?_eq_some hq)
        have he := List.find?_some hq
        simp at he
        obtain ⟨e1, e2, e3, e4, e5, e6⟩ := e
        refine ⟨ik, q.2.1, rfl, e1, e2, e3, e4, e5, e6, ?_⟩
        rw [← he]
        exact hm
      · cases h
    · cases h
/-! calls -/
def am_cls (z : Nat) : Option Nat := if z ∈ xRows then some 5 else if z = 246 then some 12 else (match am_ob z with
  | some q => some q.1
  | none => none)
theorem am_cls_ok {G : Nat → ClassId} {ad : Nat → Nat} {cl : Nat → va_E} {σ : SS} (P : PIC G ad cl σ) {z ci : Nat} (h : am_cls z = some ci) : z < 352 ∧ ∃ fs, cl z = .inr (ci, fs) := by
  unfold am_cls at h
  by_cases h1 : z ∈ xRows
  · rw [if_pos h1] at h
    cases h
    have hR := P.1.2.1 z h1
    exact ⟨by have := hR.1; omega, _, hR.2.1⟩
  · rw [if_neg h1] at h
    by_cases h2 : z = 246
    · rw [if_pos h2] at h
      cases h
      subst h2
      exact ⟨by decide, _, P.2.1.2.1⟩
    · rw [if_neg h2] at h
      split at h
      · rename_i q hq
        cases h
        have hm := am_ob_ok hq
        have : z < 246 := objs_lt _ hm
        exact ⟨by omega, _, P.1.o hm⟩
      · cases h
def am_ml (own idx : Nat) : Option Nat := match (mlT own).find? (fun q => q.1 == idx) with
  | some q => some q.2
  | none => none
theorem am_ml_ok {own idx ν : Nat} (h : am_ml own idx = some ν) : Cond.methodLink (rx own) idx (mY ν) ∈ tb := by
  unfold am_ml at h
  split at h
  · rename_i q hq
    have hm := AllP.mem (mlT_ok own) (List.mem_of_find?_eq_some hq)
    have he := List.find?_some hq
    simp at he
    cases h
    rw [← he]
    exact hm
  · cases h
abbrev CR : Type := Option (Nat × List Value × List Value)
def am_C (own : Nat) (ins : Jvm.ClassFile.Instr) (ln : Nat) (st : List Value) : CR := match ins with
  | .invokevirtual idx => (match am_ml own idx with
    | some ν => (match st.drop (mA ν) with
      | .ref z :: rest => if ln = 3 ∧ (mK ν = 0 ∨ mK ν = 2) ∧ (st.take (mA ν)).length = mA ν ∧ am_cls z = some (mO ν) ∧ (rest.map fun v => v.category).sum ≤ 8 then some (ν, .ref z :: (st.take (mA ν)).reverse, rest) else none
      | _ => none)
    | none => none)
  | .invokestatic idx => (match am_ml own idx with
    | some ν => if ln = 3 ∧ (mK ν = 1 ∨ mK ν = 3) ∧ (st.take (mA ν)).length = mA ν ∧ ((st.drop (mA ν)).map fun v => v.category).sum ≤ 8 then some (ν, (st.take (mA ν)).reverse, st.drop (mA ν)) else none
    | none => none)
  | _ => none
/-- what a call is -/
def CS (own : Nat) (ins : Jvm.ClassFile.Instr) (st : List Value) (ν : Nat) (av rest : List Value) : Prop := (rest.map fun v => v.category).sum ≤ 8 ∧ ((∃ idx z As, ins = .invokevirtual idx ∧ Cond.methodLink (rx own) idx (mY ν) ∈ tb ∧ (mK ν = 0 ∨ mK ν = 2) ∧ am_cls z = some (mO ν) ∧ av = .ref z :: As ∧ st = As.reverse ++ .ref z :: rest ∧ As.length = mA ν) ∨ (∃ idx, ins = .invokestatic idx ∧ Cond.methodLink (rx own) idx (mY ν) ∈ tb ∧ (mK ν = 1 ∨ mK ν = 3) ∧ st = av.reverse ++ rest ∧ av.length = mA ν))
theorem am_C_ok {own : Nat} {ins : Jvm.ClassFile.Instr} {ln : Nat} {st : List Value} {ν : Nat} {av rest : List Value} (h : am_C own ins ln st = some (ν, av, rest)) : ln = 3 ∧ CS own ins st ν av rest := by
  cases ins
  all_goals try (have h0 : (none : CR) = some (ν, av, rest) := h; exact nomatch h0)
  case invokevirtual idx =>
    unfold am_C at h
    dsimp only at h
    split at h
    · rename_i ν1 hν
      split at h
      · rename_i z rest1 hd
        split at h
        · rename_i e
          cases h
          obtain ⟨e1, e2, e3, e4, e5⟩ := e
          refine ⟨e1, e5, Or.inl ⟨idx, z, _, rfl, am_ml_ok hν, e2, e4, rfl, ?_, ?_⟩⟩
          · rw [List.reverse_reverse, ← hd, List.take_append_drop]
          · rw [List.length_reverse]; exact e3
        · cases h
      · cases h
    · cases h
  case invokestatic idx =>
    unfold am_C at h
    dsimp only at h
    split at h
    · rename_i ν1 hν
      split at h
      · rename_i e
        cases h
        obtain ⟨e1, e2, e3, e5⟩ := e
        refine ⟨e1, e5, Or.inr ⟨idx, rfl, am_ml_ok hν, e2, ?_, ?_⟩⟩
        · rw [List.reverse_reverse, List.take_append_drop]
        · rw [List.length_reverse]; exact e3
      · cases h
    · cases h
theorem CS.ok {own : Nat} {ins : Jvm.ClassFile.Instr} {st : List Value} {ν : Nat} {av rest : List Value} (h : CS own ins st ν av rest) (hs : okS st) : okS av ∧ okS rest := by
  rcases h.2 with ⟨idx, z, As, -, -, -, -, rfl, rfl, -⟩ | ⟨idx, -, -, -, rfl, -⟩
  · refine ⟨fun v hv => ?_, fun v hv => hs v (List.mem_append_right _ (List.mem_cons_of_mem _ hv))⟩
    rcases List.mem_cons.mp hv with rfl | hv
    · exact hs _ (List.mem_append_right _ List.mem_cons_self)
    · exact hs v (List.mem_append_left _ (List.mem_reverse.mpr hv))
  · exact ⟨fun v hv => hs v (List.mem_append_left _ (List.mem_reverse.mpr hv)), fun v hv => hs v (List.mem_append_right _ hv)⟩
/-! Math.min, Math.max -/
theorem wm_max : Cond.static Lib.Math.max.name ∈ tb := tb_4 (i := 121) (by decide +kernel) rfl
theorem wm_maxc : Cond.code Lib.Math.max.name Lib.Math.max.code 2 (some .int) ∈ tb := tb_4 (i := 122) (by decide +kernel) rfl
def MMok (own : Nat) (q : Nat × Nat) : Prop := (q.2 = 0 ∧ Cond.methodLink (rx own) q.1 Lib.Math.min.name ∈ tb) ∨ (q.2 = 1 ∧ Cond.methodLink (rx own) q.1 Lib.Math.max.name ∈ tb)
def mmT_0 : List (Nat × Nat) := [(73, 1), (136, 0)]
theorem mmT_0_ok : AllP (MMok 0) mmT_0 := ⟨Or.inr ⟨rfl, tb_5 (i := 111) (by decide +kernel) rfl⟩, Or.inl ⟨rfl, tb_5 (i := 116) (by decide +kernel) rfl⟩, trivial⟩
def mmT_3 : List (Nat × Nat) := [(101, 1), (107, 0)]
theorem mmT_3_ok : AllP (MMok 3) mmT_3 := ⟨Or.inr ⟨rfl, tb_7 (i := 14) (by decide +kernel) rfl⟩, Or.inl ⟨rfl, tb_7 (i := 17) (by decide +kernel) rfl⟩, trivial⟩
def mmT_7 : List (Nat × Nat) := [(165, 1), (266, 0)]
theorem mmT_7_ok : AllP (MMok 7) mmT_7 := ⟨Or.inr ⟨rfl, tb_4 (i := 120) (by decide +kernel) rfl⟩, Or.inl ⟨rfl, tb_5 (i := 169) (by decide +kernel) rfl⟩, trivial⟩
def mmT_9 : List (Nat × Nat) := [(92, 1)]
theorem mmT_9_ok : AllP (MMok 9) mmT_9 := ⟨Or.inr ⟨rfl, tb_6 (i := 135) (by decide +kernel) rfl⟩, trivial⟩
def mmT_10 : List (Nat × Nat) := [(229, 0)]
theorem mmT_10_ok : AllP (MMok 10) mmT_10 := ⟨Or.inl ⟨rfl, tb_6 (i := 11) (by decide +kernel) rfl⟩, trivial⟩
def mmT_11 : List (Nat × Nat) := [(281, 0)]
theorem mmT_11_ok : AllP (MMok 11) mmT_11 := ⟨Or.inl ⟨rfl, tb_3 (i := 187) (by decide +kernel) rfl⟩, trivial⟩
def mmT : Nat → List (Nat × Nat)
  | 0 => mmT_0
  | 3 => mmT_3
  | 7 => mmT_7
  | 9 => mmT_9
  | 10 => mmT_10
  | 11 => mmT_11
  | _ => []
theorem mmT_ok (c : Nat) : AllP (MMok c) (mmT c) := by
  unfold mmT
  split
  · exact mmT_0_ok
  · exact mmT_3_ok
  · exact mmT_7_ok
  · exact mmT_9_ok
  · exact mmT_10_ok
  · exact mmT_11_ok
  · exact trivial
def am_M (own : Nat) (ins : Jvm.ClassFile.Instr) (ln : Nat) (st : List Value) : Option (List Value) := match ins with
  | .invokestatic idx => (match st with
    | .int y :: .int x :: r => (match (mmT own).find? (fun q => q.1 == idx) with
      | some q => if ln = 3 ∧ (r.map fun v => v.category).sum ≤ 8 then some (.int (if q.2 = 0 then (if y < x then y else x) else (if x < y then y else x)) :: r) else none
      | none => none)
    | _ => none)
  | _ => none
def am_hd (μ : Nat) (x : ExceptionTableEntry) (pc : Nat) (E : String) (lo : ALo) : Option (Nat × ALo) := if covers x pc = true ∧ ((E = "java/lang/IllegalStateException" ∧ ((mO μ = 11 ∧ x.catchType = 150) ∨ (mO μ = 13 ∧ x.catchType = 19))) ∨ (E = "java/lang/IllegalArgumentException" ∧ mO μ = 13 ∧ x.catchType = 13)) then (match decode (mC μ) x.handlerPc with
  | .ok (.astore i, 2) => if i < mL μ then some (x.handlerPc + 2, lo.filter (fun q => !(q.1 == i) && !(q.1 + 1 == i && q.2.category == 2))) else none
  | .ok (.astore_n i, 1) => if (i : Nat) < mL μ then some (x.handlerPc + 1, lo.filter (fun q => !(q.1 == (i : Nat)) && !(q.1 + 1 == (i : Nat) && q.2.category == 2))) else none
  | _ => none) else none
def am_add (k s : Nat) : XR → XR
  | some q => some (q.1, q.2.1, k + q.2.2.1, s + q.2.2.2)
  | none => none
/-- the run: fuel, depth, method, place, locals, stack, state -/
def am_x : Nat → Nat → Nat → Nat → ALo → List Value → SS → XR
  | 0, _, _, _, _, _, _ => none
  | f + 1, d, μ, pc, lo, st, σ => match decode (mC μ) pc with
    | .error _ => none
    | .ok (ins, ln) => match am_P (mL μ) ins ln pc lo st with
      | some q => am_x f d μ q.1 q.2.1 q.2.2 σ
      | none => match am_H (mK μ == 9) (mO μ) ins ln st σ with
        | some q => am_x f d μ (pc + ln) lo q.1 q.2
        | none => match am_R (mT μ) ins ln st with
          | some r => some (.inl r, σ, 0, 0)
          | none => match am_T μ ins pc ln st with
            | some E => if 6 ≤ d then some (.inr E, σ, 1, 6) else none
            | none => match am_M (mO μ) ins ln st with
              | some st' => if 1 ≤ d then am_x f d μ (pc + ln) lo st' σ else none
              | none => match am_C (mO μ) ins ln st with
                | none => none
                | some (ν, av, rest) => if 1 ≤ d then (match (if ν ≤ 12 then am_prim ν (d - 1) av σ else if (lg_sl av).length ≤ mL ν then am_x f (d - 1) ν 0 (lv_args 0 av) [] σ else none) with
                  | none => none
                  | some (.inl none, σ1, k1, s1) => am_add k1 s1 (am_x f d μ (pc + 3) lo rest σ1)
                  | some (.inl (some v), σ1, k1, s1) => am_add k1 s1 (am_x f d μ (pc + 3) lo (.int v :: rest) σ1)
                  | some (.inr E, σ1, k1, s1) => (match tableOf (mH μ) with
                    | [] => some (.inr E, σ1, k1, s1)
                    | x :: _ => (match am_hd μ x pc E lo with
                      | some q => am_add k1 s1 (am_x f d μ q.1 q.2 [] σ1)
                      | none => none))) else none
