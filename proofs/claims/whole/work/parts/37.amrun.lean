/-! THE ABSTRACT MACHINE'S RUN -/
def okL (lo : ALo) : Prop := ∀ q ∈ lo, okV q.2
def okS (st : List Value) : Prop := ∀ v ∈ st, okV v
theorem okS.c {v : Value} {st : List Value} (h : okV v) (h' : okS st) : okS (v :: st) := fun x hx => by
  rcases List.mem_cons.mp hx with rfl | hx
  · exact h
  · exact h' x hx
theorem okS.t {v : Value} {st : List Value} (h : okS (v :: st)) : okS st := fun x hx => h x (List.mem_cons_of_mem _ hx)
theorem okS.h {v : Value} {st : List Value} (h : okS (v :: st)) : okV v := h v List.mem_cons_self
theorem okL.lk {lo : ALo} {k : Nat} {v : Value} (h : okL lo) (hk : am_lk lo k = some v) : okV v := h _ (am_lk_mem hk)
theorem okL.fil {lo : ALo} {f : Nat × Value → Bool} {i : Nat} {v : Value} (h : okL lo) (hv : okV v) : okL ((i, v) :: lo.filter f) := fun q hq => by
  rcases List.mem_cons.mp hq with rfl | hq
  · exact hv
  · exact h q (List.mem_filter.mp hq).1
theorem am_P_okv {nL : Nat} {ins : Jvm.ClassFile.Instr} {ln pc : Nat} {lo : ALo} {st : List Value} {q : Nat × ALo × List Value} (h : am_P nL ins ln pc lo st = some q) (hl : okL lo) (hs : okS st) : okL q.2.1 ∧ okS q.2.2 := by
  cases ins
  all_goals try (have h0 : (none : AR) = some q := h; exact nomatch h0)
  case iconst n =>
    unfold am_P at h
    by_cases e1 : ln = 1
    · dsimp only at h
      rw [if_pos e1] at h
      cases h
      exact ⟨hl, hs.c trivial⟩
    · dsimp only at h
      rw [if_neg e1] at h
      cases h
  case bipush n =>
    unfold am_P at h
    by_cases e1 : ln = 2
    · dsimp only at h
      rw [if_pos e1] at h
      cases h
      exact ⟨hl, hs.c trivial⟩
    · dsimp only at h
      rw [if_neg e1] at h
      cases h
  case sipush n =>
    unfold am_P at h
    by_cases e1 : ln = 3
    · dsimp only at h
      rw [if_pos e1] at h
      cases h
      exact ⟨hl, hs.c trivial⟩
    · dsimp only at h
      rw [if_neg e1] at h
      cases h
  case lconst n =>
    unfold am_P at h
    by_cases e1 : ln = 1
    · dsimp only at h
      rw [if_pos e1] at h
      cases h
      exact ⟨hl, hs.c trivial⟩
    · dsimp only at h
      rw [if_neg e1] at h
      cases h
  case iload_n k =>
    obtain ⟨x, h1, rfl, rfl⟩ := am_ldi_inv (n := 1) h
    exact ⟨hl, hs.c (hl.lk h1)⟩
  case iload k =>
    obtain ⟨x, h1, rfl, rfl⟩ := am_ldi_inv (n := 2) h
    exact ⟨hl, hs.c (hl.lk h1)⟩
  case istore_n k =>
    obtain ⟨x, r, rfl, ⟨rfl, h1⟩, rfl⟩ := am_sti_inv (n := 1) h
    exact ⟨okL.fil hl hs.h, hs.t⟩
  case istore k =>
    obtain ⟨x, r, rfl, ⟨rfl, h1⟩, rfl⟩ := am_sti_inv (n := 2) h
    exact ⟨okL.fil hl hs.h, hs.t⟩
  case lload_n k =>
    obtain ⟨x, h1, rfl, rfl⟩ := am_ldl_inv (n := 1) h
    exact ⟨hl, hs.c (hl.lk h1)⟩
  case lload k =>
    obtain ⟨x, h1, rfl, rfl⟩ := am_ldl_inv (n := 2) h
    exact ⟨hl, hs.c (hl.lk h1)⟩
  case lstore_n k =>
    obtain ⟨x, r, rfl, ⟨rfl, h1⟩, rfl⟩ := am_stl_inv (n := 1) h
    exact ⟨okL.fil hl hs.h, hs.t⟩
  case lstore k =>
    obtain ⟨x, r, rfl, ⟨rfl, h1⟩, rfl⟩ := am_stl_inv (n := 2) h
    exact ⟨okL.fil hl hs.h, hs.t⟩
  case aload_n k =>
    obtain ⟨x, h1, rfl, rfl⟩ := am_lda_inv (n := 1) h
    exact ⟨hl, hs.c (hl.lk h1)⟩
  case aload k =>
    obtain ⟨x, h1, rfl, rfl⟩ := am_lda_inv (n := 2) h
    exact ⟨hl, hs.c (hl.lk h1)⟩
  case astore_n k =>
    obtain ⟨x, r, rfl, ⟨rfl, h1⟩, rfl⟩ := am_sta_inv (n := 1) h
    exact ⟨okL.fil hl hs.h, hs.t⟩
  case astore k =>
    obtain ⟨x, r, rfl, ⟨rfl, h1⟩, rfl⟩ := am_sta_inv (n := 2) h
    exact ⟨okL.fil hl hs.h, hs.t⟩
  case iinc i k =>
    obtain ⟨x, h1, ⟨rfl, h2⟩, rfl⟩ := am_inc_inv h
    exact ⟨okL.fil hl trivial, hs⟩
  case iadd =>
    obtain ⟨y, x, r, rfl, rfl, rfl⟩ := am_i2_inv h
    exact ⟨hl, hs.t.t.c trivial⟩
  case isub =>
    obtain ⟨y, x, r, rfl, rfl, rfl⟩ := am_i2_inv h
    exact ⟨hl, hs.t.t.c trivial⟩
  case imul =>
    obtain ⟨y, x, r, rfl, rfl, rfl⟩ := am_i2_inv h
    exact ⟨hl, hs.t.t.c trivial⟩
  case iand =>
    obtain ⟨y, x, r, rfl, rfl, rfl⟩ := am_i2_inv h
    exact ⟨hl, hs.t.t.c trivial⟩
  case ior =>
    obtain ⟨y, x, r, rfl, rfl, rfl⟩ := am_i2_inv h
    exact ⟨hl, hs.t.t.c trivial⟩
  case ixor =>
    obtain ⟨y, x, r, rfl, rfl, rfl⟩ := am_i2_inv h
    exact ⟨hl, hs.t.t.c trivial⟩
  case ishl =>
    obtain ⟨y, x, r, rfl, rfl, rfl⟩ := am_i2_inv h
    exact ⟨hl, hs.t.t.c trivial⟩
  case ishr =>
    obtain ⟨y, x, r, rfl, rfl, rfl⟩ := am_i2_inv h
    exact ⟨hl, hs.t.t.c trivial⟩
  case idiv =>
    obtain ⟨y, x, r, rfl, ⟨rfl, h1⟩, rfl⟩ := am_i2d_inv h
    exact ⟨hl, hs.t.t.c trivial⟩
  case irem =>
    obtain ⟨y, x, r, rfl, ⟨rfl, h1⟩, rfl⟩ := am_i2d_inv h
    exact ⟨hl, hs.t.t.c trivial⟩
  case ladd =>
    obtain ⟨y, x, r, rfl, rfl, rfl⟩ := am_l2_inv h
    exact ⟨hl, hs.t.t.c trivial⟩
  case lsub =>
    obtain ⟨y, x, r, rfl, rfl, rfl⟩ := am_l2_inv h
    exact ⟨hl, hs.t.t.c trivial⟩
  case lmul =>
    obtain ⟨y, x, r, rfl, rfl, rfl⟩ := am_l2_inv h
    exact ⟨hl, hs.t.t.c trivial⟩
  case land =>
    obtain ⟨y, x, r, rfl, rfl, rfl⟩ := am_l2_inv h
    exact ⟨hl, hs.t.t.c trivial⟩
  case lor =>
    obtain ⟨y, x, r, rfl, rfl, rfl⟩ := am_l2_inv h
    exact ⟨hl, hs.t.t.c trivial⟩
  case ldiv =>
    obtain ⟨y, x, r, rfl, ⟨rfl, h1⟩, rfl⟩ := am_l2d_inv h
    exact ⟨hl, hs.t.t.c trivial⟩
  case lrem =>
    obtain ⟨y, x, r, rfl, ⟨rfl, h1⟩, rfl⟩ := am_l2d_inv h
    exact ⟨hl, hs.t.t.c trivial⟩
  case lshl =>
    obtain ⟨y, x, r, rfl, rfl, rfl⟩ := am_ls_inv h
    exact ⟨hl, hs.t.t.c trivial⟩
  case lshr =>
    obtain ⟨y, x, r, rfl, rfl, rfl⟩ := am_ls_inv h
    exact ⟨hl, hs.t.t.c trivial⟩
  case lushr =>
    obtain ⟨y, x, r, rfl, rfl, rfl⟩ := am_ls_inv h
    exact ⟨hl, hs.t.t.c trivial⟩
  case ineg =>
    obtain ⟨x, r, rfl, rfl, rfl⟩ := am_i1_inv h
    exact ⟨hl, hs.t.c trivial⟩
  case i2l =>
    obtain ⟨x, r, rfl, rfl, rfl⟩ := am_i1_inv h
    exact ⟨hl, hs.t.c trivial⟩
  case i2b =>
    obtain ⟨x, r, rfl, rfl, rfl⟩ := am_i1_inv h
    exact ⟨hl, hs.t.c trivial⟩
  case lneg =>
    obtain ⟨x, r, rfl, rfl, rfl⟩ := am_l1_inv h
    exact ⟨hl, hs.t.c trivial⟩
  case l2i =>
    obtain ⟨x, r, rfl, rfl, rfl⟩ := am_l1_inv h
    exact ⟨hl, hs.t.c trivial⟩
  case lcmp =>
    unfold am_P at h
    dsimp only at h
    split at h
    · by_cases e1 : ln = 1
      · rw [if_pos e1] at h
        cases h
        exact ⟨hl, hs.t.t.c trivial⟩
      · rw [if_neg e1] at h
        cases h
    · cases h
  case dup =>
    unfold am_P at h
    dsimp only at h
    split at h
    · rename_i a r
      by_cases e1 : ln = 1 ∧ a.category = 1
      · rw [if_pos e1] at h
        cases h
        exact ⟨hl, hs.c hs.h⟩
      · rw [if_neg e1] at h
        cases h
    · cases h
  case pop =>
    unfold am_P at h
    dsimp only at h
    split at h
    · rename_i a r
      by_cases e1 : ln = 1 ∧ a.category = 1
      · rw [if_pos e1] at h
        cases h
        exact ⟨hl, hs.t⟩
      · rw [if_neg e1] at h
        cases h
    · cases h
  case dup2 =>
    unfold am_P at h
    dsimp only at h
    split at h
    · rename_i a b r
      by_cases e1 : ln = 1 ∧ a.category = 1 ∧ b.category = 1
      · rw [if_pos e1] at h
        cases h
        exact ⟨hl, (hs.c hs.t.h).c hs.h⟩
      · rw [if_neg e1] at h
        cases h
    · cases h
  case dup_x1 =>
    unfold am_P at h
    dsimp only at h
    split at h
    · rename_i a b r
      by_cases e1 : ln = 1 ∧ a.category = 1 ∧ b.category = 1
      · rw [if_pos e1] at h
        cases h
        exact ⟨hl, ((hs.t.t.c hs.h).c hs.t.h).c hs.h⟩
      · rw [if_neg e1] at h
        cases h
    · cases h
  case goto off =>
    unfold am_P at h
    dsimp only at h
    by_cases e1 : ln = 3
    · rw [if_pos e1] at h
      obtain ⟨t, ht, rfl⟩ := am_to_inv h
      exact ⟨hl, hs⟩
    · rw [if_neg e1] at h
      cases h
  case ifCond k off =>
    unfold am_P am_if at h
    dsimp only at h
    split at h
    · rename_i x r
      by_cases e1 : ln = 3
      · rw [if_pos e1] at h
        split at h
        · rename_i t ht
          by_cases e2 : am_c k x 0 = true
          · rw [if_pos e2] at h
            cases h
            exact ⟨hl, hs.t⟩
          · rw [if_neg e2] at h
            cases h
            exact ⟨hl, hs.t⟩
        · cases h
      · rw [if_neg e1] at h
        cases h
    · cases h
  case if_icmp k off =>
    unfold am_P am_ic at h
    dsimp only at h
    split at h
    · rename_i y x r
      by_cases e1 : ln = 3
      · rw [if_pos e1] at h
        split at h
        · rename_i t ht
          by_cases e2 : am_c k x y = true
          · rw [if_pos e2] at h
            cases h
            exact ⟨hl, hs.t.t⟩
          · rw [if_neg e2] at h
            cases h
            exact ⟨hl, hs.t.t⟩
        · cases h
      · rw [if_neg e1] at h
        cases h
    · cases h
  case tableswitch d a b offs =>
    unfold am_P am_tsw at h
    dsimp only at h
    split at h
    · rename_i x r
      by_cases e1 : x.toInt < a ∨ b < x.toInt
      · rw [if_pos e1] at h
        obtain ⟨t, ht, rfl⟩ := am_to_inv h
        exact ⟨hl, hs.t⟩
      · rw [if_neg e1] at h
        split at h
        · rename_i off ho
          obtain ⟨t, ht, rfl⟩ := am_to_inv h
          exact ⟨hl, hs.t⟩
        · cases h
    · cases h
theorem rows_former : ∀ k, k < 6 → rowArr (10 + 2 * k) = false := by decide +kernel
theorem am_put_scr {σ σ' : SS} {ci z k : Nat} {v : Value} (h : am_put σ ci z k v = some σ') : sN σ' = sN σ ∧ sS σ' = sS σ := by
  unfold am_put at h
  split at h
  · split at h
    · split at h
      · split at h
        · split at h
          · cases h; exact ⟨rfl, rfl⟩
          · cases h
        · split at h
          · split at h
            · split at h
              · cases h; exact ⟨rfl, rfl⟩
              · cases h
            · cases h
          · cases h
      · cases h
    · split at h
      · cases h; exact ⟨rfl, rfl⟩
      · cases h
    · split at h
      · split at h
        · split at h
          · cases h; exact ⟨rfl, rfl⟩
          · cases h
        · cases h
      · cases h
    · cases h
  · cases h
theorem am_H_okv {G : Nat → ClassId} {ad : Nat → Nat} {cl : Nat → va_E} {law : Bool} {own : Nat} {ins : Jvm.ClassFile.Instr} {ln : Nat} {st : List Value} {σ : SS} {q : List Value × SS} (P : PIC G ad cl σ) (h : am_H law own ins ln st σ = some q) (hs : okS st) : okS q.1 ∧ sN q.2 = sN σ ∧ sS q.2 = sS σ := by
  cases ins
  all_goals try (have h0 : (none : HR) = some q := h; exact nomatch h0)
  case getfield idx =>
    unfold am_H am_getf at h
    dsimp only at h
    split at h
    · split at h
      · split at h
        · rename_i q1 hq
          split at h
          · rename_i v hv
            cases h
            exact ⟨hs.t.c (am_get_ok (b := 0) (t := ad) P (am_fl_ok hq).2.1 hv).2.2, rfl, rfl⟩
          · cases h
        · cases h
      · cases h
    · cases h
  case putfield idx =>
    unfold am_H am_putf at h
    dsimp only at h
    split at h
    · split at h
      · split at h
        · split at h
          · rename_i σ' hv
            cases h
            exact ⟨hs.t.t, am_put_scr hv⟩
          · cases h
        · cases h
      · cases h
    · cases h
  case iaload =>
    unfold am_H am_iald at h
    dsimp only at h
    split at h
    · split at h
      · split at h
        · split at h
          · cases h; exact ⟨hs.t.t.c trivial, rfl, rfl⟩
          · cases h
        · split at h
          · split at h
            · cases h; exact ⟨hs.t.t.c trivial, rfl, rfl⟩
            · cases h
          · cases h
      · cases h
    · cases h
  case baload =>
    unfold am_H am_bald at h
    dsimp only at h
    split at h
    · split at h
      · split at h
        · split at h
          · cases h; exact ⟨hs.t.t.c trivial, rfl, rfl⟩
          · cases h
        · cases h
      · cases h
    · cases h
  case iastore =>
    unfold am_H am_iast at h
    dsimp only at h
    split at h
    · split at h
      · split at h
        · split at h
          · cases h; exact ⟨hs.t.t.t, rfl, rfl⟩
          · cases h
        · cases h
      · cases h
    · cases h
  case bastore =>
    unfold am_H am_bast at h
    dsimp only at h
    split at h
    · split at h
      · split at h
        · split at h
          · split at h
            · cases h; exact ⟨hs.t.t.t, rfl, rfl⟩
            · split at h
              · cases h; exact ⟨hs.t.t.t, rfl, rfl⟩
              · cases h
          · cases h
        · cases h
      · cases h
    · cases h
  case laload =>
    unfold am_H am_lald at h
    dsimp only at h
    split at h
    · split at h
      · cases h; exact ⟨hs.t.t.c trivial, rfl, rfl⟩
      · cases h
    · cases h
  case lastore =>
    unfold am_H am_last at h
    dsimp only at h
    split at h
    · split at h
      · cases h; exact ⟨hs.t.t.t, rfl, rfl⟩
      · cases h
    · cases h
  case aaload =>
    unfold am_H am_aald at h
    dsimp only at h
    split at h
    · split at h
      · rename_i e
        cases h
        have hin := am_in_ok e.2.2
        exact ⟨hs.t.t.c (rows_former _ (Nat.not_le.mp fun q => hin (Or.inr q))), rfl, rfl⟩
      · cases h
    · cases h
  case arraylength =>
    unfold am_H am_alen at h
    dsimp only at h
    split at h
    · split at h
      · split at h
        · split at h
          · cases h; exact ⟨hs.t.c trivial, rfl, rfl⟩
          · cases h
        · split at h
          · split at h
            · cases h; exact ⟨hs.t.c trivial, rfl, rfl⟩
            · cases h
          · cases h
      · cases h
    · cases h
  case ldc idx =>
    unfold am_H at h
    dsimp only at h
    split at h
    · split at h
      · cases h; exact ⟨hs.c trivial, rfl, rfl⟩
      · cases h
    · cases h
  case ldc_w idx =>
    unfold am_H at h
    dsimp only at h
    split at h
    · split at h
      · cases h; exact ⟨hs.c trivial, rfl, rfl⟩
      · cases h
    · cases h
  case ldc2_w idx =>
    unfold am_H at h
    dsimp only at h
    split at h
    · split at h
      · cases h; exact ⟨hs.c trivial, rfl, rfl⟩
      · cases h
    · cases h
/-! returns -/
def am_R (T : Option FieldType) (ins : Jvm.ClassFile.Instr) (ln : Nat) (st : List Value) : Option (Option Int32) := match ins with
  | .ireturn => (match st with
    | [.int v] => if ln = 1 ∧ (T = some .int ∨ (T = some .boolean ∧ narrow .boolean (.int v) = .int v)) then some (some v) else none
    | _ => none)
  | .return_ => (match st with
    | [] => if ln = 1 ∧ T = none then some none else none
    | _ => none)
  | _ => none
def am_rs : Option Int32 → List Value
  | some v => [.int v]
  | none => []
def am_Rok (cc : ByteArray) (T : Option FieldType) (pc : Nat) : Option Int32 → Prop
  | some v => decode cc pc = .ok (.ireturn, 1) ∧ (T = some .int ∨ (T = some .boolean ∧ narrow .boolean (.int v) = .int v))
  | none => decode cc pc = .ok (.return_, 1) ∧ T = none
theorem am_R_ok {cc : ByteArray} {T : Option FieldType} {ins : Jvm.ClassFile.Instr} {ln pc : Nat} {st : List Value} {r : Option Int32} (hdg : decode cc pc = .ok (ins, ln)) (h : am_R T ins ln st = some r) : am_Rok cc T pc r ∧ st = am_rs r := by
  cases ins
  all_goals try (have h0 : (none : Option (Option Int32)) = some r := h; exact nomatch h0)
  case ireturn =>
    unfold am_R at h
    dsimp only at h
    split at h
    · split at h
      · rename_i e
        cases h
        obtain ⟨rfl, e⟩ := e
        exact ⟨⟨hdg, e⟩, rfl⟩
      · cases h
    · cases h
  case return_ =>
    unfold am_R at h
    dsimp only at h
    split at h
    · split at h
      · rename_i e
        cases h
        obtain ⟨rfl, e⟩ := e
        exact ⟨⟨hdg, e⟩, rfl⟩
      · cases h
    · cases h
/-! throws: new E, dup, its <init>, athrow -/
def NMS : List String := ["java/lang/RuntimeException", "java/lang/Exception"]
def THok (own : Nat) (q : Nat × Nat × String) : Prop := Bundle.fit q.2.2 = true ∧ Cond.classLink (rx own) q.1 q.2.2 ∈ tb ∧ Cond.initialized q.2.2 ∈ tb ∧ (∀ w ∈ (vx_at0 (rx own) q.2.1 q.2.2 ["java/lang/RuntimeException", "java/lang/Exception"]).filter goodWord, w ∈ tb) ∧ (∀ w ∈ (vx_at0 (rx own) q.2.1 q.2.2 ["java/lang/RuntimeException", "java/lang/Exception"]).filter (fun w => !goodWord w), w ∈ tables_1 ∧ isNest w = true) ∧ (∀ w ∈ Cond.classLink (rx own) q.1 q.2.2 :: Cond.initialized q.2.2 :: vx_at0 (rx own) q.2.1 q.2.2 ["java/lang/RuntimeException", "java/lang/Exception"], vx_ot w = true)
def thT_4 : List (Nat × Nat × String) := [(23, 25, "java/lang/IllegalStateException")]
def thT_11 : List (Nat × Nat × String) := [(150, 306, "java/lang/IllegalStateException"), (307, 309, "java/lang/IndexOutOfBoundsException"), (115, 117, "java/lang/IllegalArgumentException")]
theorem thT_4_ok : AllP (THok 4) thT_4 := ⟨⟨by decide +kernel, tk_4_23, ti_ISE, th_4_25, tx_4_25, to_4_25⟩, trivial⟩
theorem thT_11_ok : AllP (THok 11) thT_11 := ⟨⟨by decide +kernel, tk_11_150, ti_ISE, th_11_306, tx_11_306, to_11_306⟩, ⟨by decide +kernel, tk_11_307, ti_IOB, th_11_309, tx_11_309, to_11_309⟩, ⟨by decide +kernel, tk_11_115, ti_IAE, th_11_117, tx_11_117, to_11_117⟩, trivial⟩
def thT : Nat → List (Nat × Nat × String)
  | 4 => thT_4
  | 11 => thT_11
  | _ => []
theorem thT_ok (c : Nat) : AllP (THok c) (thT c) := by
  unfold thT
  split
  · exact thT_4_ok
  · exact thT_11_ok
  · exact trivial
def am_T (μ : Nat) (ins : Jvm.ClassFile.Instr) (pc ln : Nat) (st : List Value) : Option String := match ins with
  | .new ik => (match (thT (mO μ)).find? (fun q => q.1 == ik) with
    | some q => if ln = 3 ∧ mH μ = [] ∧ (st.map fun v => v.category).sum ≤ 8 ∧ decode (mC μ) (pc + 3) = .ok (.dup, 1) ∧ decode (mC μ) (pc + 4) = .ok (.invokespecial q.2.1, 3) ∧ decode (mC μ) (pc + 7) = .ok (.athrow, 1) then some q.2.2 else none
    | none => none)
  | _ => none
theorem am_T_ok {μ : Nat} {ins : Jvm.ClassFile.Instr} {pc ln : Nat} {st : List Value} {E : String} (h : am_T μ ins pc ln st = some E) : ∃ ik ic, ins = .new ik ∧ ln = 3 ∧ mH μ = [] ∧ (st.map fun v => v.category).sum ≤ 8 ∧ decode (mC μ) (pc + 3) = .ok (.dup, 1) ∧ decode (mC μ) (pc + 4) = .ok (.invokespecial ic, 3) ∧ decode (mC μ) (pc + 7) = .ok (.athrow, 1) ∧ THok (mO μ) (ik, ic, E) := by
  cases ins
  all_goals try (have h0 : (none : Option String) = some E := h; exact nomatch h0)
  case new ik =>
    unfold am_T at h
    dsimp only at h
    split at h
    · rename_i q hq
      split at h
      · rename_i e
        cases h
        have hm := AllP.mem (thT_ok (mO μ)) (List.mem_of_find?_eq_some hq)
        have he := List.find?_some hq
        simp at he
        obtain ⟨e1, e2, e3, e4, e5, e6⟩ := e
        refine ⟨ik, q.2.1, rfl, e1, e2, e3, e4, e5, e6, ?_⟩
        rw [← he]
        exact hm
      · cases h
    · cases h
/-! calls -/
def am_cls (z : Nat) : Option Nat := if z ∈ xRows then some 5 else if z = 246 then some 12 else (match am_ob z with
  | some q => some q.1
  | none => none)
theorem am_cls_ok {G : Nat → ClassId} {ad : Nat → Nat} {cl : Nat → va_E} {σ : SS} (P : PIC G ad cl σ) {z ci : Nat} (h : am_cls z = some ci) : z < 352 ∧ ∃ fs, cl z = .inr (ci, fs) := by
  unfold am_cls at h
  by_cases h1 : z ∈ xRows
  · rw [if_pos h1] at h
    cases h
    have hR := P.1.2.1 z h1
    exact ⟨by have := hR.1; omega, _, hR.2.1⟩
  · rw [if_neg h1] at h
    by_cases h2 : z = 246
    · rw [if_pos h2] at h
      cases h
      subst h2
      exact ⟨by decide, _, P.2.1.2.1⟩
    · rw [if_neg h2] at h
      split at h
      · rename_i q hq
        cases h
        have hm := am_ob_ok hq
        have : z < 246 := objs_lt _ hm
        exact ⟨by omega, _, P.1.o hm⟩
      · cases h
def am_ml (own idx : Nat) : Option Nat := match (mlT own).find? (fun q => q.1 == idx) with
  | some q => some q.2
  | none => none
theorem am_ml_ok {own idx ν : Nat} (h : am_ml own idx = some ν) : Cond.methodLink (rx own) idx (mY ν) ∈ tb := by
  unfold am_ml at h
  split at h
  · rename_i q hq
    have hm := AllP.mem (mlT_ok own) (List.mem_of_find?_eq_some hq)
    have he := List.find?_some hq
    simp at he
    cases h
    rw [← he]
    exact hm
  · cases h
def am_mn (own idx : Nat) : Option Nat := match (mnT own).find? (fun q => q.1 == idx) with
  | some q => some q.2
  | none => none
theorem am_mn_ok {own idx ν : Nat} (h : am_mn own idx = some ν) : ∃ host, Cond.methodLinkNest (rx own) idx (mY ν) host ∈ tables_1 := by
  unfold am_mn at h
  split at h
  · rename_i q hq
    have hm := AllP.mem (mnT_ok own) (List.mem_of_find?_eq_some hq)
    have he := List.find?_some hq
    simp at he
    cases h
    rw [← he]
    exact hm
  · cases h
abbrev CR : Type := Option (Nat × List Value × List Value)
def am_C (own : Nat) (ins : Jvm.ClassFile.Instr) (ln : Nat) (st : List Value) : CR := match ins with
  | .invokevirtual idx => (match am_ml own idx with
    | some ν => (match st.drop (mA ν) with
      | .ref z :: rest => if ln = 3 ∧ (mK ν = 0 ∨ mK ν = 2) ∧ (st.take (mA ν)).length = mA ν ∧ am_cls z = some (mO ν) ∧ (rest.map fun v => v.category).sum ≤ 8 then some (ν, .ref z :: (st.take (mA ν)).reverse, rest) else none
      | _ => none)
    | none => none)
  | .invokestatic idx => (match am_ml own idx with
    | some ν => if ln = 3 ∧ (mK ν = 1 ∨ mK ν = 3) ∧ (st.take (mA ν)).length = mA ν ∧ ((st.drop (mA ν)).map fun v => v.category).sum ≤ 8 then some (ν, (st.take (mA ν)).reverse, st.drop (mA ν)) else none
    | none => (match am_mn own idx with
      | some ν => if ln = 3 ∧ mK ν = 1 ∧ (st.take (mA ν)).length = mA ν ∧ ((st.drop (mA ν)).map fun v => v.category).sum ≤ 8 then some (ν, (st.take (mA ν)).reverse, st.drop (mA ν)) else none
      | none => none))
  | _ => none
/-- what a call is -/
def CS (own : Nat) (ins : Jvm.ClassFile.Instr) (st : List Value) (ν : Nat) (av rest : List Value) : Prop := (rest.map fun v => v.category).sum ≤ 8 ∧ ((∃ idx z As, ins = .invokevirtual idx ∧ Cond.methodLink (rx own) idx (mY ν) ∈ tb ∧ (mK ν = 0 ∨ mK ν = 2) ∧ am_cls z = some (mO ν) ∧ av = .ref z :: As ∧ st = As.reverse ++ .ref z :: rest ∧ As.length = mA ν) ∨ (∃ idx, ins = .invokestatic idx ∧ Cond.methodLink (rx own) idx (mY ν) ∈ tb ∧ (mK ν = 1 ∨ mK ν = 3) ∧ st = av.reverse ++ rest ∧ av.length = mA ν) ∨ (∃ idx host, ins = .invokestatic idx ∧ Cond.methodLinkNest (rx own) idx (mY ν) host ∈ tables_1 ∧ mK ν = 1 ∧ st = av.reverse ++ rest ∧ av.length = mA ν))
theorem am_C_ok {own : Nat} {ins : Jvm.ClassFile.Instr} {ln : Nat} {st : List Value} {ν : Nat} {av rest : List Value} (h : am_C own ins ln st = some (ν, av, rest)) : ln = 3 ∧ CS own ins st ν av rest := by
  cases ins
  all_goals try (have h0 : (none : CR) = some (ν, av, rest) := h; exact nomatch h0)
  case invokevirtual idx =>
    unfold am_C at h
    dsimp only at h
    split at h
    · rename_i ν1 hν
      split at h
      · rename_i z rest1 hd
        split at h
        · rename_i e
          cases h
          obtain ⟨e1, e2, e3, e4, e5⟩ := e
          refine ⟨e1, e5, Or.inl ⟨idx, z, _, rfl, am_ml_ok hν, e2, e4, rfl, ?_, ?_⟩⟩
          · rw [List.reverse_reverse, ← hd, List.take_append_drop]
          · rw [List.length_reverse]; exact e3
        · cases h
      · cases h
    · cases h
  case invokestatic idx =>
    unfold am_C at h
    dsimp only at h
    split at h
    · rename_i ν1 hν
      split at h
      · rename_i e
        cases h
        obtain ⟨e1, e2, e3, e5⟩ := e
        refine ⟨e1, e5, Or.inr (Or.inl ⟨idx, rfl, am_ml_ok hν, e2, ?_, ?_⟩)⟩
        · rw [List.reverse_reverse, List.take_append_drop]
        · rw [List.length_reverse]; exact e3
      · cases h
    · split at h
      · rename_i ν1 hν
        split at h
        · rename_i e
          cases h
          obtain ⟨e1, e2, e3, e5⟩ := e
          obtain ⟨host, hh⟩ := am_mn_ok hν
          refine ⟨e1, e5, Or.inr (Or.inr ⟨idx, host, rfl, hh, e2, ?_, ?_⟩)⟩
          · rw [List.reverse_reverse, List.take_append_drop]
          · rw [List.length_reverse]; exact e3
        · cases h
      · cases h
theorem CS.ok {own : Nat} {ins : Jvm.ClassFile.Instr} {st : List Value} {ν : Nat} {av rest : List Value} (h : CS own ins st ν av rest) (hs : okS st) : okS av ∧ okS rest := by
  rcases h.2 with ⟨idx, z, As, -, -, -, -, rfl, rfl, -⟩ | ⟨idx, -, -, -, rfl, -⟩ | ⟨idx, host, -, -, -, rfl, -⟩
  · refine ⟨fun v hv => ?_, fun v hv => hs v (List.mem_append_right _ (List.mem_cons_of_mem _ hv))⟩
    rcases List.mem_cons.mp hv with rfl | hv
    · exact hs _ (List.mem_append_right _ List.mem_cons_self)
    · exact hs v (List.mem_append_left _ (List.mem_reverse.mpr hv))
  · exact ⟨fun v hv => hs v (List.mem_append_left _ (List.mem_reverse.mpr hv)), fun v hv => hs v (List.mem_append_right _ hv)⟩
  · exact ⟨fun v hv => hs v (List.mem_append_left _ (List.mem_reverse.mpr hv)), fun v hv => hs v (List.mem_append_right _ hv)⟩
/-! Math.min, Math.max -/
theorem wm_max : Cond.static Lib.Math.max.name ∈ tb := tb_4 (i := 121) (by decide +kernel) rfl
theorem wm_maxc : Cond.code Lib.Math.max.name Lib.Math.max.code 2 (some .int) ∈ tb := tb_4 (i := 122) (by decide +kernel) rfl
def MMok (own : Nat) (q : Nat × Nat) : Prop := (q.2 = 0 ∧ Cond.methodLink (rx own) q.1 Lib.Math.min.name ∈ tb) ∨ (q.2 = 1 ∧ Cond.methodLink (rx own) q.1 Lib.Math.max.name ∈ tb)
def mmT_0 : List (Nat × Nat) := [(73, 1), (136, 0)]
theorem mmT_0_ok : AllP (MMok 0) mmT_0 := ⟨Or.inr ⟨rfl, tb_5 (i := 111) (by decide +kernel) rfl⟩, Or.inl ⟨rfl, tb_5 (i := 116) (by decide +kernel) rfl⟩, trivial⟩
def mmT_3 : List (Nat × Nat) := [(101, 1), (107, 0)]
theorem mmT_3_ok : AllP (MMok 3) mmT_3 := ⟨Or.inr ⟨rfl, tb_7 (i := 14) (by decide +kernel) rfl⟩, Or.inl ⟨rfl, tb_7 (i := 17) (by decide +kernel) rfl⟩, trivial⟩
def mmT_7 : List (Nat × Nat) := [(165, 1), (266, 0)]
theorem mmT_7_ok : AllP (MMok 7) mmT_7 := ⟨Or.inr ⟨rfl, tb_4 (i := 120) (by decide +kernel) rfl⟩, Or.inl ⟨rfl, tb_5 (i := 169) (by decide +kernel) rfl⟩, trivial⟩
def mmT_9 : List (Nat × Nat) := [(92, 1)]
theorem mmT_9_ok : AllP (MMok 9) mmT_9 := ⟨Or.inr ⟨rfl, tb_6 (i := 135) (by decide +kernel) rfl⟩, trivial⟩
def mmT_10 : List (Nat × Nat) := [(229, 0)]
theorem mmT_10_ok : AllP (MMok 10) mmT_10 := ⟨Or.inl ⟨rfl, tb_6 (i := 11) (by decide +kernel) rfl⟩, trivial⟩
def mmT_11 : List (Nat × Nat) := [(281, 0)]
theorem mmT_11_ok : AllP (MMok 11) mmT_11 := ⟨Or.inl ⟨rfl, tb_3 (i := 187) (by decide +kernel) rfl⟩, trivial⟩
def mmT : Nat → List (Nat × Nat)
  | 0 => mmT_0
  | 3 => mmT_3
  | 7 => mmT_7
  | 9 => mmT_9
  | 10 => mmT_10
  | 11 => mmT_11
  | _ => []
theorem mmT_ok (c : Nat) : AllP (MMok c) (mmT c) := by
  unfold mmT
  split
  · exact mmT_0_ok
  · exact mmT_3_ok
  · exact mmT_7_ok
  · exact mmT_9_ok
  · exact mmT_10_ok
  · exact mmT_11_ok
  · exact trivial
def stF : List (List Int32) := [[40, 2, 3, 1, 2, 2, 0, 2, 1, 24, 0, 1, 1], [12, 0, 0, 0, 1, 1, 0, 0, 0, 5, 0, 1, 1], [80, 8, 3, 1, 9, 9, 1, 3, 3, 60, 1, 999, 5], [1000, 900, 500, 400, 100, 90, 50, 40, 10, 9, 5, 4, 1], [1, 1, 1, 2, 1, 2, 3, 2, 1, 2, 2, 2, 2, 2, 2, 4, 1, 1, 1, 1, 1]]
def stC : List (String × String) := [("TypeRoom$Rules", "AT_FIRST"), ("TypeRoom$Rules", "LEAST"), ("TypeRoom$Rules", "MOST"), ("TypeRoom$Row", "ROMAN_VALUES"), ("TypeRoom$Texts", "ARITIES")]
abbrev stL (j : Nat) : Nat := (stF.getD j []).length
theorem st_row {t : Nat → Nat} {A : Nat → Prop} {U : State} {H : Heap} (h : SF t A U H) : ∀ j, j < 5 → sRow (stC.getD j ("", "")).1 (stC.getD j ("", "")).2 (t j) (stL j) (tOf (stF.getD j [])) A U H
  | 0, _ => h.1
  | 1, _ => h.2.1
  | 2, _ => h.2.2.1
  | 3, _ => h.2.2.2.1
  | 4, _ => h.2.2.2.2.1
  | n + 5, h => absurd h (by omega)
def GSok (own : Nat) (q : Nat × Nat) : Prop := q.2 < 5 ∧ Cond.fieldLink (rx own) q.1 (stC.getD q.2 ("", "")).1 (stC.getD q.2 ("", "")).2 "[I" ∈ tb
def SLok (own : Nat) (q : Nat × Nat) : Prop := (q.2 = 0 ∧ Cond.methodLink (rx own) q.1 yJ_len ∈ tb) ∨ (q.2 = 1 ∧ Cond.methodLink (rx own) q.1 yJ_cha ∈ tb)
def FMok (own : Nat) (q : Nat × Nat) : Prop := Cond.methodLink (rx own) q.1 yJ_fmd ∈ tb
def SRok (own : Nat) (q : Nat × Nat) : Prop := q.2 < 11 ∧ (rx own, q.1, q.2) ∈ strRefs
def gsT_5 : List (Nat × Nat) := [(51, 3)]
theorem gsT_5_ok : AllP (GSok 5) gsT_5 := ⟨⟨by decide, tb_5 (i := 35) (by decide +kernel) rfl⟩, trivial⟩
def gsT_6 : List (Nat × Nat) := [(19, 0), (131, 1), (134, 2)]
theorem gsT_6_ok : AllP (GSok 6) gsT_6 := ⟨⟨by decide, tb_1 (i := 84) (by decide +kernel) rfl⟩, ⟨by decide, tb_4 (i := 228) (by decide +kernel) rfl⟩, ⟨by decide, tb_4 (i := 230) (by decide +kernel) rfl⟩, trivial⟩
def gsT_10 : List (Nat × Nat) := [(215, 4)]
theorem gsT_10_ok : AllP (GSok 10) gsT_10 := ⟨⟨by decide, tb_5 (i := 207) (by decide +kernel) rfl⟩, trivial⟩
def gsT : Nat → List (Nat × Nat)
  | 5 => gsT_5
  | 6 => gsT_6
  | 10 => gsT_10
  | _ => []
theorem gsT_ok (c : Nat) : AllP (GSok c) (gsT c) := by
  unfold gsT
  split
  · exact gsT_5_ok
  · exact gsT_6_ok
  · exact gsT_10_ok
  · exact trivial
def slT_5 : List (Nat × Nat) := [(56, 0), (62, 1)]
theorem slT_5_ok : AllP (SLok 5) slT_5 := ⟨Or.inl ⟨rfl, tb_5 (i := 38) (by decide +kernel) rfl⟩, Or.inr ⟨rfl, tb_5 (i := 39) (by decide +kernel) rfl⟩, trivial⟩
def slT_6 : List (Nat × Nat) := [(58, 0), (64, 1)]
theorem slT_6_ok : AllP (SLok 6) slT_6 := ⟨Or.inl ⟨rfl, tb_4 (i := 132) (by decide +kernel) rfl⟩, Or.inr ⟨rfl, tb_4 (i := 142) (by decide +kernel) rfl⟩, trivial⟩
def slT_12 : List (Nat × Nat) := [(393, 0), (399, 1)]
theorem slT_12_ok : AllP (SLok 12) slT_12 := ⟨Or.inl ⟨rfl, tb_10 (i := 88) (by decide +kernel) rfl⟩, Or.inr ⟨rfl, tb_10 (i := 89) (by decide +kernel) rfl⟩, trivial⟩
def slT : Nat → List (Nat × Nat)
  | 5 => slT_5
  | 6 => slT_6
  | 12 => slT_12
  | _ => []
theorem slT_ok (c : Nat) : AllP (SLok c) (slT c) := by
  unfold slT
  split
  · exact slT_5_ok
  · exact slT_6_ok
  · exact slT_12_ok
  · exact trivial
def fmT_10 : List (Nat × Nat) := [(250, 0)]
theorem fmT_10_ok : AllP (FMok 10) fmT_10 := ⟨tb_6 (i := 24) (by decide +kernel) rfl, trivial⟩
def fmT : Nat → List (Nat × Nat)
  | 10 => fmT_10
  | _ => []
theorem fmT_ok (c : Nat) : AllP (FMok c) (fmT c) := by
  unfold fmT
  split
  · exact fmT_10_ok
  · exact trivial
def srT_5 : List (Nat × Nat) := [(54, 3)]
theorem srT_5_ok : AllP (SRok 5) srT_5 := ⟨⟨by decide, by decide +kernel⟩, trivial⟩
def srT_6 : List (Nat × Nat) := [(72, 0), (101, 1), (129, 2)]
theorem srT_6_ok : AllP (SRok 6) srT_6 := ⟨⟨by decide, by decide +kernel⟩, ⟨by decide, by decide +kernel⟩, ⟨by decide, by decide +kernel⟩, trivial⟩
def srT_10 : List (Nat × Nat) := [(148, 1)]
theorem srT_10_ok : AllP (SRok 10) srT_10 := ⟨⟨by decide, by decide +kernel⟩, trivial⟩
def srT_12 : List (Nat × Nat) := [(590, 4), (441, 1), (599, 5), (630, 2), (604, 6), (610, 7), (612, 8), (617, 9), (622, 10)]
theorem srT_12_ok : AllP (SRok 12) srT_12 := ⟨⟨by decide, by decide +kernel⟩, ⟨by decide, by decide +kernel⟩, ⟨by decide, by decide +kernel⟩, ⟨by decide, by decide +kernel⟩, ⟨by decide, by decide +kernel⟩, ⟨by decide, by decide +kernel⟩, ⟨by decide, by decide +kernel⟩, ⟨by decide, by decide +kernel⟩, ⟨by decide, by decide +kernel⟩, trivial⟩
def srT : Nat → List (Nat × Nat)
  | 5 => srT_5
  | 6 => srT_6
  | 10 => srT_10
  | 12 => srT_12
  | _ => []
theorem srT_ok (c : Nat) : AllP (SRok c) (srT c) := by
  unfold srT
  split
  · exact srT_5_ok
  · exact srT_6_ok
  · exact srT_10_ok
  · exact srT_12_ok
  · exact trivial
def am_tf (T : List (Nat × Nat)) (i : Nat) : Option Nat := match T.find? (fun q => q.1 == i) with
  | some q => some q.2
  | none => none
theorem am_tf_ok {P : Nat × Nat → Prop} {T : List (Nat × Nat)} {i j : Nat} (hT : AllP P T) (h : am_tf T i = some j) : P (i, j) := by
  unfold am_tf at h
  split at h
  · rename_i q hq
    have hm := AllP.mem hT (List.mem_of_find?_eq_some hq)
    have he := List.find?_some hq
    simp at he
    cases h
    rw [← he]
    exact hm
  · cases h
/-- a number below -/
def am_bl (i : Int32) (n : Nat) : Bool := decide (i = nI i.toNatClampNeg) && decide (i.toNatClampNeg < n)
theorem am_bl_ok {i : Int32} {n : Nat} (h : am_bl i n = true) : i = nI i.toNatClampNeg ∧ i.toNatClampNeg < n := by
  unfold am_bl at h
  simp at h
  exact h
def am_S (own : Nat) (ins : Jvm.ClassFile.Instr) (ln : Nat) (st : List Value) : Option (List Value) := match ins with
  | .getstatic idx => (match am_tf (gsT own) idx with
    | some j => if ln = 3 then some (.ref (353 + j) :: st) else none
    | none => none)
  | .ldc idx => (match am_tf (srT own) idx with
    | some j => if ln = 2 then some (.ref (360 + j) :: st) else none
    | none => none)
  | .ldc_w idx => (match am_tf (srT own) idx with
    | some j => if ln = 3 then some (.ref (360 + j) :: st) else none
    | none => none)
  | .iaload => (match st with
    | .int i :: .ref z :: r => if ln = 1 ∧ 353 ≤ z ∧ z < 358 ∧ am_bl i (stL (z - 353)) = true then some (.int ((stF.getD (z - 353) []).getD i.toNatClampNeg 0) :: r) else none
    | _ => none)
  | .arraylength => (match st with
    | .ref z :: r => if ln = 1 ∧ 353 ≤ z ∧ z < 358 then some (.int (nI (stL (z - 353))) :: r) else none
    | _ => none)
  | .invokevirtual idx => (match am_tf (slT own) idx with
    | some 0 => (match st with
      | .ref z :: r => if ln = 3 ∧ 360 ≤ z ∧ z < 371 ∧ (r.map fun v => v.category).sum ≤ 8 then some (.int (nI (strLn.getD (z - 360) 0)) :: r) else none
      | _ => none)
    | some 1 => (match st with
      | .int i :: .ref z :: r => if ln = 3 ∧ 360 ≤ z ∧ z < 371 ∧ am_bl i (strLn.getD (z - 360) 0) = true ∧ (r.map fun v => v.category).sum ≤ 8 then some (.int (strC (z - 360) i.toNatClampNeg) :: r) else none
      | _ => none)
    | _ => none)
  | .invokestatic idx => (match am_tf (fmT own) idx with
    | some _ => (match st with
      | .int y :: .int x :: r => if ln = 3 ∧ ¬ y = 0 ∧ (r.map fun v => v.category).sum ≤ 8 then some (.int (fmod x y) :: r) else none
      | _ => none)
    | none => none)
  | _ => none
def am_M (own : Nat) (ins : Jvm.ClassFile.Instr) (ln : Nat) (st : List Value) : Option (List Value) := match ins with
  | .invokestatic idx => (match st with
    | .int y :: .int x :: r => (match (mmT own).find? (fun q => q.1 == idx) with
      | some q => if ln = 3 ∧ (r.map fun v => v.category).sum ≤ 8 then some (.int (if q.2 = 0 then (if y < x then y else x) else (if x < y then y else x)) :: r) else none
      | none => none)
    | _ => none)
  | _ => none
def am_hd (μ : Nat) (x : ExceptionTableEntry) (pc : Nat) (E : String) (lo : ALo) : Option (Nat × ALo) := if covers x pc = true ∧ ((E = "java/lang/IllegalStateException" ∧ ((mO μ = 11 ∧ x.catchType = 150) ∨ (mO μ = 13 ∧ x.catchType = 19))) ∨ (E = "java/lang/IllegalArgumentException" ∧ mO μ = 13 ∧ x.catchType = 13)) then (match decode (mC μ) x.handlerPc with
  | .ok (.astore i, 2) => if i < mL μ then some (x.handlerPc + 2, lo.filter (fun q => !(q.1 == i) && !(q.1 + 1 == i && q.2.category == 2))) else none
  | .ok (.astore_n i, 1) => if (i : Nat) < mL μ then some (x.handlerPc + 1, lo.filter (fun q => !(q.1 == (i : Nat)) && !(q.1 + 1 == (i : Nat) && q.2.category == 2))) else none
  | _ => none) else none
/-- the second entry of a table, where the first one doesn't catch -/
def am_hd2 (μ : Nat) (x y : ExceptionTableEntry) (pc : Nat) (E : String) (lo : ALo) : Option (Nat × ALo) := if covers y pc = true ∧ mO μ = 13 ∧ x.catchType = 19 ∧ ((E = "java/lang/IndexOutOfBoundsException" ∧ y.catchType = 24) ∨ (E = "java/lang/IllegalArgumentException" ∧ y.catchType = 13)) then (match decode (mC μ) y.handlerPc with
  | .ok (.astore i, 2) => if i < mL μ then some (y.handlerPc + 2, lo.filter (fun q => !(q.1 == i) && !(q.1 + 1 == i && q.2.category == 2))) else none
  | .ok (.astore_n i, 1) => if (i : Nat) < mL μ then some (y.handlerPc + 1, lo.filter (fun q => !(q.1 == (i : Nat)) && !(q.1 + 1 == (i : Nat) && q.2.category == 2))) else none
  | _ => none) else none
def am_hq (μ : Nat) (x : ExceptionTableEntry) (xr : List ExceptionTableEntry) (pc : Nat) (E : String) (lo : ALo) : Option (Nat × ALo) := match am_hd μ x pc E lo with
  | some q => some q
  | none => match xr with
    | [] => none
    | y :: _ => am_hd2 μ x y pc E lo
def am_add (k s : Nat) : XR → XR
  | some q => some (q.1, q.2.1, k + q.2.2.1, s + q.2.2.2)
  | none => none
/-- the run: fuel, depth, method, place, locals, stack, state -/
def am_x : Nat → Nat → Nat → Nat → ALo → List Value → SS → XR
  | 0, _, _, _, _, _, _ => none
  | f + 1, d, μ, pc, lo, st, σ => match decode (mC μ) pc with
    | .error _ => none
    | .ok (ins, ln) => match am_P (mL μ) ins ln pc lo st with
      | some q => am_x f d μ q.1 q.2.1 q.2.2 σ
      | none => match am_H (mK μ == 9) (mO μ) ins ln st σ with
        | some q => am_x f d μ (pc + ln) lo q.1 q.2
        | none => match am_R (mT μ) ins ln st with
          | some r => some (.inl r, σ, 0, 0)
          | none => match am_T μ ins pc ln st with
            | some E => if 6 ≤ d then some (.inr E, σ, 1, 6) else none
            | none => match am_M (mO μ) ins ln st with
              | some st' => if 1 ≤ d then am_x f d μ (pc + ln) lo st' σ else none
              | none => match am_C (mO μ) ins ln st with
                | none => (match am_S (mO μ) ins ln st with
                  | some st' => if 5 ≤ d then am_x f d μ (pc + ln) lo st' σ else none
                  | none => none)
                | some (ν, av, rest) => if 1 ≤ d then (match (if ν ≤ 15 then am_prim ν (d - 1) av σ else if (lg_sl av).length ≤ mL ν then am_x f (d - 1) ν 0 (lv_args 0 av) [] σ else none) with
                  | none => none
                  | some (.inl none, σ1, k1, s1) => am_add k1 s1 (am_x f d μ (pc + 3) lo rest σ1)
                  | some (.inl (some v), σ1, k1, s1) => am_add k1 s1 (am_x f d μ (pc + 3) lo (.int v :: rest) σ1)
                  | some (.inr E, σ1, k1, s1) => (match tableOf (mH μ) with
                    | [] => some (.inr E, σ1, k1, s1)
                    | x :: xr => (match am_hq μ x xr pc E lo with
                      | some q => am_add k1 s1 (am_x f d μ q.1 q.2 [] σ1)
                      | none => none))) else none
