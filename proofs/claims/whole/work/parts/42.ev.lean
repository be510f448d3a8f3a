/-! RUNS OF THE ABSTRACT MACHINE, BY WHAT HOLDS AT THEIR END: more fuel and more locals change nothing -/
def kn (lo : ALo) : Prop := (lo.map Prod.fst).Nodup
abbrev EQ : Type := AO → SS → Nat → Nat → Prop
def Ev (d μ pc : Nat) (lo : ALo) (st : List Value) (σ : SS) (Q : EQ) : Prop :=
  ∃ f out σ' kc ks, Q out σ' kc ks ∧ ∀ f' lo', f ≤ f' → lo ⊆ lo' → kn lo' → am_x f' d μ pc lo' st σ = some (out, σ', kc, ks)
theorem lk_of_mem {k : Nat} {v : Value} : ∀ {lo : ALo}, kn lo → (k, v) ∈ lo → am_lk lo k = some v
  | [], _, h => absurd h List.not_mem_nil
  | q :: r, hn, h => by
    unfold am_lk
    have hn2 : q.1 ∉ r.map Prod.fst ∧ (r.map Prod.fst).Nodup := List.nodup_cons.mp hn
    rcases List.mem_cons.mp h with e | h2
    · subst e
      rw [if_pos rfl]
    · by_cases e : q.1 = k
      · exact absurd (List.mem_map.mpr ⟨(k, v), h2, e.symm⟩) hn2.1
      · rw [if_neg e]
        exact lk_of_mem hn2.2 h2
theorem lk_sub {k : Nat} {v : Value} {lo lo' : ALo} (hs : lo ⊆ lo') (hk : kn lo') (h : am_lk lo k = some v) : am_lk lo' k = some v := lk_of_mem hk (hs (am_lk_mem h))
theorem kn_filter {f : Nat × Value → Bool} {lo : ALo} (h : kn lo) : kn (lo.filter f) := List.Sublist.nodup (List.Sublist.map Prod.fst List.filter_sublist) h
theorem sub_filter {f : Nat × Value → Bool} {lo lo' : ALo} (hs : lo ⊆ lo') : lo.filter f ⊆ lo'.filter f := fun q hq => by
  obtain ⟨h1, h2⟩ := List.mem_filter.mp hq
  exact List.mem_filter.mpr ⟨hs h1, h2⟩
theorem kn_cons {i : Nat} {v : Value} {f : Nat × Value → Bool} {lo : ALo} (h : kn lo) (hf : ∀ q, q.1 = i → f q = false) : kn ((i, v) :: lo.filter f) := by
  refine List.nodup_cons.mpr ⟨fun hm => ?_, kn_filter h⟩
  obtain ⟨q, hq, e⟩ := List.mem_map.mp hm
  have := (List.mem_filter.mp hq).2
  rw [hf q e] at this
  cases this
theorem sub_cons {a : Nat × Value} {lo lo' : ALo} (hs : lo ⊆ lo') : a :: lo ⊆ a :: lo' := fun q hq => by
  rcases List.mem_cons.mp hq with e | h
  · exact e ▸ List.mem_cons_self
  · exact List.mem_cons_of_mem _ (hs h)
theorem st_mono {lo lo' : ALo} {i : Nat} {v : Value} (hs : lo ⊆ lo') (hk : kn lo') : am_st lo i v ⊆ am_st lo' i v ∧ kn (am_st lo' i v) := ⟨sub_cons (sub_filter hs), kn_cons hk (fun q e => by simp [e])⟩
theorem stL_mono {lo lo' : ALo} {i : Nat} {v : Value} (hs : lo ⊆ lo') (hk : kn lo') : am_stL lo i v ⊆ am_stL lo' i v ∧ kn (am_stL lo' i v) := ⟨sub_cons (sub_filter hs), kn_cons hk (fun q e => by simp [e])⟩
def PM (nL : Nat) (ins : Jvm.ClassFile.Instr) (ln pc : Nat) (lo' : ALo) (st : List Value) (q : Nat × ALo × List Value) : Prop := ∃ lo1, am_P nL ins ln pc lo' st = some (q.1, lo1, q.2.2) ∧ q.2.1 ⊆ lo1 ∧ kn lo1
section
variable {nL ln pc : Nat} {lo lo' : ALo} {st : List Value} {q : Nat × ALo × List Value}

theorem am_P_mono {ins : Jvm.ClassFile.Instr} (hs : lo ⊆ lo') (hk : kn lo') (h : am_P nL ins ln pc lo st = some q) : PM nL ins ln pc lo' st q := by
  cases ins
  case iconst n =>
    unfold am_P at h
    dsimp only at h
    by_cases e : ln = 1
    · rw [if_pos e] at h; cases h; exact ⟨lo', by unfold am_P; dsimp only; rw [if_pos e], hs, hk⟩
    · rw [if_neg e] at h; cases h
  case bipush n =>
    unfold am_P at h
    dsimp only at h
    by_cases e : ln = 2
    · rw [if_pos e] at h; cases h; exact ⟨lo', by unfold am_P; dsimp only; rw [if_pos e], hs, hk⟩
    · rw [if_neg e] at h; cases h
  case sipush n =>
    unfold am_P at h
    dsimp only at h
    by_cases e : ln = 3
    · rw [if_pos e] at h; cases h; exact ⟨lo', by unfold am_P; dsimp only; rw [if_pos e], hs, hk⟩
    · rw [if_neg e] at h; cases h
  case lconst n =>
    unfold am_P at h
    dsimp only at h
    by_cases e : ln = 1
    · rw [if_pos e] at h; cases h; exact ⟨lo', by unfold am_P; dsimp only; rw [if_pos e], hs, hk⟩
    · rw [if_neg e] at h; cases h
  case iload_n i =>
    obtain ⟨x, hx, e, rfl⟩ := am_ldi_inv h
    refine ⟨lo', ?_, hs, hk⟩
    unfold am_P am_ldi
    dsimp only
    rw [lk_sub hs hk hx]
    dsimp only
    rw [if_pos e]
  case iload i =>
    obtain ⟨x, hx, e, rfl⟩ := am_ldi_inv h
    refine ⟨lo', ?_, hs, hk⟩
    unfold am_P am_ldi
    dsimp only
    rw [lk_sub hs hk hx]
    dsimp only
    rw [if_pos e]
  case lload_n i =>
    obtain ⟨x, hx, e, rfl⟩ := am_ldl_inv h
    refine ⟨lo', ?_, hs, hk⟩
    unfold am_P am_ldl
    dsimp only
    rw [lk_sub hs hk hx]
    dsimp only
    rw [if_pos e]
  case lload i =>
    obtain ⟨x, hx, e, rfl⟩ := am_ldl_inv h
    refine ⟨lo', ?_, hs, hk⟩
    unfold am_P am_ldl
    dsimp only
    rw [lk_sub hs hk hx]
    dsimp only
    rw [if_pos e]
  case aload_n i =>
    obtain ⟨x, hx, e, rfl⟩ := am_lda_inv h
    refine ⟨lo', ?_, hs, hk⟩
    unfold am_P am_lda
    dsimp only
    rw [lk_sub hs hk hx]
    dsimp only
    rw [if_pos e]
  case aload i =>
    obtain ⟨x, hx, e, rfl⟩ := am_lda_inv h
    refine ⟨lo', ?_, hs, hk⟩
    unfold am_P am_lda
    dsimp only
    rw [lk_sub hs hk hx]
    dsimp only
    rw [if_pos e]
  case istore_n i =>
    obtain ⟨x, r, rfl, e, rfl⟩ := am_sti_inv h
    obtain ⟨m1, m2⟩ := st_mono hs hk
    refine ⟨_, ?_, m1, m2⟩
    unfold am_P am_sti
    dsimp only
    rw [if_pos e]
  case istore i =>
    obtain ⟨x, r, rfl, e, rfl⟩ := am_sti_inv h
    obtain ⟨m1, m2⟩ := st_mono hs hk
    refine ⟨_, ?_, m1, m2⟩
    unfold am_P am_sti
    dsimp only
    rw [if_pos e]
  case lstore_n i =>
    obtain ⟨x, r, rfl, e, rfl⟩ := am_stl_inv h
    obtain ⟨m1, m2⟩ := stL_mono hs hk
    refine ⟨_, ?_, m1, m2⟩
    unfold am_P am_stl
    dsimp only
    rw [if_pos e]
  case lstore i =>
    obtain ⟨x, r, rfl, e, rfl⟩ := am_stl_inv h
    obtain ⟨m1, m2⟩ := stL_mono hs hk
    refine ⟨_, ?_, m1, m2⟩
    unfold am_P am_stl
    dsimp only
    rw [if_pos e]
  case astore_n i =>
    obtain ⟨x, r, rfl, e, rfl⟩ := am_sta_inv h
    obtain ⟨m1, m2⟩ := st_mono hs hk
    refine ⟨_, ?_, m1, m2⟩
    unfold am_P am_sta
    dsimp only
    rw [if_pos e]
  case astore i =>
    obtain ⟨x, r, rfl, e, rfl⟩ := am_sta_inv h
    obtain ⟨m1, m2⟩ := st_mono hs hk
    refine ⟨_, ?_, m1, m2⟩
    unfold am_P am_sta
    dsimp only
    rw [if_pos e]
  case iinc i k =>
    obtain ⟨x, hx, e, rfl⟩ := am_inc_inv h
    obtain ⟨m1, m2⟩ := st_mono hs hk
    refine ⟨_, ?_, m1, m2⟩
    unfold am_P am_inc
    dsimp only
    rw [lk_sub hs hk hx]
    dsimp only
    rw [if_pos e]
  case iadd =>
    obtain ⟨y, x, r, rfl, e, rfl⟩ := am_i2_inv h
    refine ⟨lo', ?_, hs, hk⟩
    unfold am_P am_i2
    dsimp only
    rw [if_pos e]
  case isub =>
    obtain ⟨y, x, r, rfl, e, rfl⟩ := am_i2_inv h
    refine ⟨lo', ?_, hs, hk⟩
    unfold am_P am_i2
    dsimp only
    rw [if_pos e]
  case imul =>
    obtain ⟨y, x, r, rfl, e, rfl⟩ := am_i2_inv h
    refine ⟨lo', ?_, hs, hk⟩
    unfold am_P am_i2
    dsimp only
    rw [if_pos e]
  case iand =>
    obtain ⟨y, x, r, rfl, e, rfl⟩ := am_i2_inv h
    refine ⟨lo', ?_, hs, hk⟩
    unfold am_P am_i2
    dsimp only
    rw [if_pos e]
  case ior =>
    obtain ⟨y, x, r, rfl, e, rfl⟩ := am_i2_inv h
    refine ⟨lo', ?_, hs, hk⟩
    unfold am_P am_i2
    dsimp only
    rw [if_pos e]
  case ixor =>
    obtain ⟨y, x, r, rfl, e, rfl⟩ := am_i2_inv h
    refine ⟨lo', ?_, hs, hk⟩
    unfold am_P am_i2
    dsimp only
    rw [if_pos e]
  case ishl =>
    obtain ⟨y, x, r, rfl, e, rfl⟩ := am_i2_inv h
    refine ⟨lo', ?_, hs, hk⟩
    unfold am_P am_i2
    dsimp only
    rw [if_pos e]
  case ishr =>
    obtain ⟨y, x, r, rfl, e, rfl⟩ := am_i2_inv h
    refine ⟨lo', ?_, hs, hk⟩
    unfold am_P am_i2
    dsimp only
    rw [if_pos e]
  case idiv =>
    obtain ⟨y, x, r, rfl, e, rfl⟩ := am_i2d_inv h
    refine ⟨lo', ?_, hs, hk⟩
    unfold am_P am_i2d
    dsimp only
    rw [if_pos e]
  case irem =>
    obtain ⟨y, x, r, rfl, e, rfl⟩ := am_i2d_inv h
    refine ⟨lo', ?_, hs, hk⟩
    unfold am_P am_i2d
    dsimp only
    rw [if_pos e]
  case ladd =>
    obtain ⟨y, x, r, rfl, e, rfl⟩ := am_l2_inv h
    refine ⟨lo', ?_, hs, hk⟩
    unfold am_P am_l2
    dsimp only
    rw [if_pos e]
  case lsub =>
    obtain ⟨y, x, r, rfl, e, rfl⟩ := am_l2_inv h
    refine ⟨lo', ?_, hs, hk⟩
    unfold am_P am_l2
    dsimp only
    rw [if_pos e]
  case lmul =>
    obtain ⟨y, x, r, rfl, e, rfl⟩ := am_l2_inv h
    refine ⟨lo', ?_, hs, hk⟩
    unfold am_P am_l2
    dsimp only
    rw [if_pos e]
  case land =>
    obtain ⟨y, x, r, rfl, e, rfl⟩ := am_l2_inv h
    refine ⟨lo', ?_, hs, hk⟩
    unfold am_P am_l2
    dsimp only
    rw [if_pos e]
  case lor =>
    obtain ⟨y, x, r, rfl, e, rfl⟩ := am_l2_inv h
    refine ⟨lo', ?_, hs, hk⟩
    unfold am_P am_l2
    dsimp only
    rw [if_pos e]
  case ldiv =>
    obtain ⟨y, x, r, rfl, e, rfl⟩ := am_l2d_inv h
    refine ⟨lo', ?_, hs, hk⟩
    unfold am_P am_l2d
    dsimp only
    rw [if_pos e]
  case lrem =>
    obtain ⟨y, x, r, rfl, e, rfl⟩ := am_l2d_inv h
    refine ⟨lo', ?_, hs, hk⟩
    unfold am_P am_l2d
    dsimp only
    rw [if_pos e]
  case lshl =>
    obtain ⟨y, x, r, rfl, e, rfl⟩ := am_ls_inv h
    refine ⟨lo', ?_, hs, hk⟩
    unfold am_P am_ls
    dsimp only
    rw [if_pos e]
  case lshr =>
    obtain ⟨y, x, r, rfl, e, rfl⟩ := am_ls_inv h
    refine ⟨lo', ?_, hs, hk⟩
    unfold am_P am_ls
    dsimp only
    rw [if_pos e]
  case lushr =>
    obtain ⟨y, x, r, rfl, e, rfl⟩ := am_ls_inv h
    refine ⟨lo', ?_, hs, hk⟩
    unfold am_P am_ls
    dsimp only
    rw [if_pos e]
  case ineg =>
    obtain ⟨x, r, rfl, e, rfl⟩ := am_i1_inv h
    refine ⟨lo', ?_, hs, hk⟩
    unfold am_P am_i1
    dsimp only
    rw [if_pos e]
  case i2l =>
    obtain ⟨x, r, rfl, e, rfl⟩ := am_i1_inv h
    refine ⟨lo', ?_, hs, hk⟩
    unfold am_P am_i1
    dsimp only
    rw [if_pos e]
  case i2b =>
    obtain ⟨x, r, rfl, e, rfl⟩ := am_i1_inv h
    refine ⟨lo', ?_, hs, hk⟩
    unfold am_P am_i1
    dsimp only
    rw [if_pos e]
  case lneg =>
    obtain ⟨x, r, rfl, e, rfl⟩ := am_l1_inv h
    refine ⟨lo', ?_, hs, hk⟩
    unfold am_P am_l1
    dsimp only
    rw [if_pos e]
  case l2i =>
    obtain ⟨x, r, rfl, e, rfl⟩ := am_l1_inv h
    refine ⟨lo', ?_, hs, hk⟩
    unfold am_P am_l1
    dsimp only
    rw [if_pos e]
  case lcmp =>
    unfold am_P at h
    dsimp only at h
    split at h
    · by_cases e : ln = 1
      · rw [if_pos e] at h; cases h; exact ⟨lo', by unfold am_P; dsimp only; rw [if_pos e], hs, hk⟩
      · rw [if_neg e] at h; cases h
    · cases h
  case dup =>
    unfold am_P at h
    dsimp only at h
    split at h
    · rename_i a r
      by_cases e : ln = 1 ∧ a.category = 1
      · rw [if_pos e] at h; cases h; exact ⟨lo', by unfold am_P; dsimp only; rw [if_pos e], hs, hk⟩
      · rw [if_neg e] at h; cases h
    · cases h
  case pop =>
    unfold am_P at h
    dsimp only at h
    split at h
    · rename_i a r
      by_cases e : ln = 1 ∧ a.category = 1
      · rw [if_pos e] at h; cases h; exact ⟨lo', by unfold am_P; dsimp only; rw [if_pos e], hs, hk⟩
      · rw [if_neg e] at h; cases h
    · cases h
  case dup2 =>
    unfold am_P at h
    dsimp only at h
    split at h
    · rename_i a b r
      by_cases e : ln = 1 ∧ a.category = 1 ∧ b.category = 1
      · rw [if_pos e] at h; cases h; exact ⟨lo', by unfold am_P; dsimp only; rw [if_pos e], hs, hk⟩
      · rw [if_neg e] at h; cases h
    · cases h
  case dup_x1 =>
    unfold am_P at h
    dsimp only at h
    split at h
    · rename_i a b r
      by_cases e : ln = 1 ∧ a.category = 1 ∧ b.category = 1
      · rw [if_pos e] at h; cases h; exact ⟨lo', by unfold am_P; dsimp only; rw [if_pos e], hs, hk⟩
      · rw [if_neg e] at h; cases h
    · cases h
  case goto off =>
    unfold am_P at h
    dsimp only at h
    by_cases e : ln = 3
    · rw [if_pos e] at h
      unfold am_to at h
      split at h
      · rename_i t ht
        cases h
        exact ⟨lo', by unfold am_P am_to; dsimp only; rw [if_pos e, ht], hs, hk⟩
      · cases h
    · rw [if_neg e] at h; cases h
  case ifCond k off =>
    unfold am_P am_if at h
    dsimp only at h
    split at h
    · rename_i x r
      by_cases e : ln = 3
      · rw [if_pos e] at h
        split at h
        · rename_i t ht
          by_cases e2 : am_c k x 0 = true
          · rw [if_pos e2] at h; cases h; exact ⟨lo', by unfold am_P am_if; dsimp only; rw [if_pos e, ht]; dsimp only; rw [if_pos e2], hs, hk⟩
          · rw [if_neg e2] at h; cases h; exact ⟨lo', by unfold am_P am_if; dsimp only; rw [if_pos e, ht]; dsimp only; rw [if_neg e2], hs, hk⟩
        · cases h
      · rw [if_neg e] at h; cases h
    · cases h
  case if_icmp k off =>
    unfold am_P am_ic at h
    dsimp only at h
    split at h
    · rename_i y x r
      by_cases e : ln = 3
      · rw [if_pos e] at h
        split at h
        · rename_i t ht
          by_cases e2 : am_c k x y = true
          · rw [if_pos e2] at h; cases h; exact ⟨lo', by unfold am_P am_ic; dsimp only; rw [if_pos e, ht]; dsimp only; rw [if_pos e2], hs, hk⟩
          · rw [if_neg e2] at h; cases h; exact ⟨lo', by unfold am_P am_ic; dsimp only; rw [if_pos e, ht]; dsimp only; rw [if_neg e2], hs, hk⟩
        · cases h
      · rw [if_neg e] at h; cases h
    · cases h
  case tableswitch dd a b offs =>
    unfold am_P am_tsw at h
    dsimp only at h
    split at h
    · rename_i x r
      by_cases e : x.toInt < a ∨ b < x.toInt
      · rw [if_pos e] at h
        unfold am_to at h
        split at h
        · rename_i t ht
          cases h
          exact ⟨lo', by unfold am_P am_tsw am_to; dsimp only; rw [if_pos e, ht], hs, hk⟩
        · cases h
      · rw [if_neg e] at h
        split at h
        · rename_i off ho
          unfold am_to at h
          split at h
          · rename_i t ht
            cases h
            exact ⟨lo', by unfold am_P am_tsw; dsimp only; rw [if_neg e, ho]; dsimp only; unfold am_to; rw [ht], hs, hk⟩
          · cases h
        · cases h
    · cases h
  all_goals (unfold am_P at h; cases h)
end
section
variable {d μ pc ln : Nat} {lo lo2 : ALo} {st st2 : List Value} {σ σ2 : SS} {Q Q2 : EQ} {ins : Jvm.ClassFile.Instr}
theorem Ev.sub (hs : lo2 ⊆ lo) (h : Ev d μ pc lo2 st σ Q) : Ev d μ pc lo st σ Q := by
  obtain ⟨f, out, σ', kc, ks, hQ, h⟩ := h
  exact ⟨f, out, σ', kc, ks, hQ, fun f' lo' h1 h2 h3 => h f' lo' h1 (fun q hq => h2 (hs hq)) h3⟩
theorem Ev.mono (h : Ev d μ pc lo st σ Q) (hQ : ∀ o s k n, Q o s k n → Q2 o s k n) : Ev d μ pc lo st σ Q2 := by
  obtain ⟨f, out, σ', kc, ks, hQ1, h⟩ := h
  exact ⟨f, out, σ', kc, ks, hQ _ _ _ _ hQ1, h⟩
theorem ev_P (nL : Nat) (hL : mL μ = nL) (hd : decode (mC μ) pc = .ok (ins, ln)) {pc' : Nat} (hP : am_P nL ins ln pc lo st = some (pc', lo2, st2)) (kk : Ev d μ pc' lo2 st2 σ Q) : Ev d μ pc lo st σ Q := by
  subst hL
  obtain ⟨f, out, σ', kc, ks, hQ, h⟩ := kk
  refine ⟨f + 1, out, σ', kc, ks, hQ, fun f' lo' h1 h2 h3 => ?_⟩
  obtain ⟨n, rfl⟩ : ∃ n, f' = n + 1 := ⟨f' - 1, by omega⟩
  obtain ⟨lo1, e1, e2, e3⟩ := am_P_mono h2 h3 hP
  unfold am_x
  rw [hd]
  dsimp only
  rw [e1]
  dsimp only
  exact h n lo1 (by omega) e2 e3
/-- no step over locals and stack alone -/
def npB : Jvm.ClassFile.Instr → Bool
  | .getfield _ => true
  | .putfield _ => true
  | .iaload => true
  | .baload => true
  | .iastore => true
  | .bastore => true
  | .laload => true
  | .lastore => true
  | .aaload => true
  | .arraylength => true
  | .ldc _ => true
  | .ldc_w _ => true
  | .ldc2_w _ => true
  | .ireturn => true
  | .return_ => true
  | .new _ => true
  | .invokevirtual _ => true
  | .invokestatic _ => true
  | .getstatic _ => true
  | _ => false
theorem np_P (h : npB ins = true) (nL pc : Nat) (lo : ALo) : am_P nL ins ln pc lo st = none := by
  cases ins <;> first | rfl | cases h
theorem ev_H (law : Bool) (own : Nat) (hK : (mK μ == 9) = law) (hO : mO μ = own) (hd : decode (mC μ) pc = .ok (ins, ln)) (hH : am_H law own ins ln st σ = some (st2, σ2)) (kk : Ev d μ (pc + ln) lo st2 σ2 Q) (hn : npB ins = true := by rfl) : Ev d μ pc lo st σ Q := by
  subst hK hO
  obtain ⟨f, out, σ', kc, ks, hQ, h⟩ := kk
  refine ⟨f + 1, out, σ', kc, ks, hQ, fun f' lo' h1 h2 h3 => ?_⟩
  obtain ⟨n, rfl⟩ : ∃ n, f' = n + 1 := ⟨f' - 1, by omega⟩
  unfold am_x
  rw [hd]
  dsimp only
  rw [np_P hn]
  dsimp only
  rw [hH]
  dsimp only
  exact h n lo' (by omega) h2 h3
/-- no step over the heap either -/
def nhB : Jvm.ClassFile.Instr → Bool
  | .ireturn => true
  | .return_ => true
  | .new _ => true
  | .invokevirtual _ => true
  | .invokestatic _ => true
  | _ => false
theorem nh_np (h : nhB ins = true) : npB ins = true := by
  cases ins <;> first | rfl | cases h
theorem nh_H (h : nhB ins = true) (law : Bool) (own : Nat) : am_H law own ins ln st σ = none := by
  cases ins <;> first | rfl | cases h
theorem ev_R (T : Option FieldType) (hT : mT μ = T) (hd : decode (mC μ) pc = .ok (ins, ln)) {r : Option Int32} (hR : am_R T ins ln st = some r) (hn : nhB ins = true) (hQ : Q (.inl r) σ 0 0) : Ev d μ pc lo st σ Q := by
  subst hT
  refine ⟨1, .inl r, σ, 0, 0, hQ, fun f' lo' h1 h2 h3 => ?_⟩
  obtain ⟨n, rfl⟩ : ∃ n, f' = n + 1 := ⟨f' - 1, by omega⟩
  unfold am_x
  rw [hd]
  dsimp only
  rw [np_P (nh_np hn)]
  dsimp only
  rw [nh_H hn]
  dsimp only
  rw [hR]
theorem ev_iret (hT : mT μ = some .int) (hd : decode (mC μ) pc = .ok (.ireturn, 1)) {v : Int32} (hQ : Q (.inl (some v)) σ 0 0) : Ev d μ pc lo [.int v] σ Q :=
  ev_R (some .int) hT hd (r := some v) (by simp [am_R]) rfl hQ
theorem ev_zret (hT : mT μ = some .boolean) (hd : decode (mC μ) pc = .ok (.ireturn, 1)) {v : Int32} (hv : v = 0 ∨ v = 1) (hQ : Q (.inl (some v)) σ 0 0) : Ev d μ pc lo [.int v] σ Q :=
  ev_R (some .boolean) hT hd (r := some v) (by
    have : narrow .boolean (.int v) = .int v := by rcases hv with rfl | rfl <;> rfl
    simp [am_R, this]) rfl hQ
theorem ev_vret (hT : mT μ = none) (hd : decode (mC μ) pc = .ok (.return_, 1)) (hQ : Q (.inl none) σ 0 0) : Ev d μ pc lo [] σ Q :=
  ev_R none hT hd (r := none) (by simp [am_R]) rfl hQ
theorem ev_T {E : String} (hd : decode (mC μ) pc = .ok (ins, ln)) (hR : am_R (mT μ) ins ln st = none) (hT : am_T μ ins pc ln st = some E) (h6 : 6 ≤ d) (hn : nhB ins = true) (hQ : Q (.inr E) σ 1 6) : Ev d μ pc lo st σ Q := by
  refine ⟨1, .inr E, σ, 1, 6, hQ, fun f' lo' h1 h2 h3 => ?_⟩
  obtain ⟨n, rfl⟩ : ∃ n, f' = n + 1 := ⟨f' - 1, by omega⟩
  unfold am_x
  rw [hd]
  dsimp only
  rw [np_P (nh_np hn)]
  dsimp only
  rw [nh_H hn]
  dsimp only
  rw [hR]
  dsimp only
  rw [hT]
  dsimp only
  rw [if_pos h6]
theorem ev_S (own : Nat) (hO : mO μ = own) (hd : decode (mC μ) pc = .ok (ins, ln)) (hn : npB ins = true) (hH : am_H (mK μ == 9) own ins ln st σ = none) (hR : am_R (mT μ) ins ln st = none) (hT : am_T μ ins pc ln st = none) (hM : am_M own ins ln st = none) (hC : am_C own ins ln st = none) (hS : am_S own ins ln st = some st2) (h5d : 5 ≤ d) (kk : Ev d μ (pc + ln) lo st2 σ Q) : Ev d μ pc lo st σ Q := by
  subst hO
  obtain ⟨f, out, σ', kc, ks, hQ, h⟩ := kk
  refine ⟨f + 1, out, σ', kc, ks, hQ, fun f' lo' h1 h2 h3 => ?_⟩
  obtain ⟨n, rfl⟩ : ∃ n, f' = n + 1 := ⟨f' - 1, by omega⟩
  unfold am_x
  rw [hd]
  dsimp only
  rw [np_P hn]
  dsimp only
  rw [hH]
  dsimp only
  rw [hR]
  dsimp only
  rw [hT]
  dsimp only
  rw [hM]
  dsimp only
  rw [hC]
  dsimp only
  rw [hS]
  dsimp only
  rw [if_pos h5d]
  exact h n lo' (by omega) h2 h3
theorem ev_M (own : Nat) (hO : mO μ = own) {idx : Nat} (hd : decode (mC μ) pc = .ok (.invokestatic idx, ln)) (hM : am_M own (.invokestatic idx) ln st = some st2) (h1d : 1 ≤ d) (kk : Ev d μ (pc + ln) lo st2 σ Q) : Ev d μ pc lo st σ Q := by
  subst hO
  obtain ⟨f, out, σ', kc, ks, hQ, h⟩ := kk
  refine ⟨f + 1, out, σ', kc, ks, hQ, fun f' lo' h1 h2 h3 => ?_⟩
  obtain ⟨n, rfl⟩ : ∃ n, f' = n + 1 := ⟨f' - 1, by omega⟩
  unfold am_x
  rw [hd]
  dsimp only
  rw [np_P rfl]
  dsimp only
  rw [nh_H rfl]
  dsimp only
  have hR : am_R (mT μ) (.invokestatic idx) ln st = none := rfl
  have hT : am_T μ (.invokestatic idx) pc ln st = none := rfl
  rw [hR]
  dsimp only
  rw [hT]
  dsimp only
  rw [hM]
  dsimp only
  rw [if_pos h1d]
  exact h n lo' (by omega) h2 h3
def isCall : Jvm.ClassFile.Instr → Bool
  | .invokevirtual _ => true
  | .invokestatic _ => true
  | _ => false
/-- what a caller does with what its callee has come to -/
def EvC (d μ pc : Nat) (lo : ALo) (rest : List Value) (Q : EQ) : EQ := fun out σ1 k1 s1 => match out with
  | .inl none => Ev d μ (pc + 3) lo rest σ1 (fun o s k n => Q o s (k1 + k) (s1 + n))
  | .inl (some v) => Ev d μ (pc + 3) lo (.int v :: rest) σ1 (fun o s k n => Q o s (k1 + k) (s1 + n))
  | .inr E => match tableOf (mH μ) with
    | [] => Q (.inr E) σ1 k1 s1
    | x :: xr => match am_hq μ x xr pc E lo with
      | some q => Ev d μ q.1 q.2 [] σ1 (fun o s k n => Q o s (k1 + k) (s1 + n))
      | none => False
theorem hd_mono {x : ExceptionTableEntry} {E : String} {q : Nat × ALo} {lo' : ALo} (hs : lo ⊆ lo') (hk : kn lo') (h : am_hd μ x pc E lo = some q) : ∃ lo1, am_hd μ x pc E lo' = some (q.1, lo1) ∧ q.2 ⊆ lo1 ∧ kn lo1 := by
  unfold am_hd at h
  by_cases e : covers x pc = true ∧ ((E = "java/lang/IllegalStateException" ∧ ((mO μ = 11 ∧ x.catchType = 150) ∨ (mO μ = 13 ∧ x.catchType = 19))) ∨ (E = "java/lang/IllegalArgumentException" ∧ mO μ = 13 ∧ x.catchType = 13))
  · rw [if_pos e] at h
    split at h
    · rename_i i hd
      by_cases e2 : i < mL μ
      · rw [if_pos e2] at h
        cases h
        refine ⟨_, ?_, sub_filter hs, kn_filter hk⟩
        unfold am_hd
        rw [if_pos e, hd]
        exact if_pos e2
      · rw [if_neg e2] at h; cases h
    · rename_i i hd
      by_cases e2 : (i : Nat) < mL μ
      · rw [if_pos e2] at h
        cases h
        refine ⟨_, ?_, sub_filter hs, kn_filter hk⟩
        unfold am_hd
        rw [if_pos e, hd]
        exact if_pos e2
      · rw [if_neg e2] at h; cases h
    · cases h
  · rw [if_neg e] at h; cases h
theorem hd2_mono {x y : ExceptionTableEntry} {E : String} {q : Nat × ALo} {lo' : ALo} (hs : lo ⊆ lo') (hk : kn lo') (h : am_hd2 μ x y pc E lo = some q) : ∃ lo1, am_hd2 μ x y pc E lo' = some (q.1, lo1) ∧ q.2 ⊆ lo1 ∧ kn lo1 := by
  unfold am_hd2 at h
  by_cases e : covers y pc = true ∧ mO μ = 13 ∧ x.catchType = 19 ∧ ((E = "java/lang/IndexOutOfBoundsException" ∧ y.catchType = 24) ∨ (E = "java/lang/IllegalArgumentException" ∧ y.catchType = 13))
  · rw [if_pos e] at h
    split at h
    · rename_i i hd
      by_cases e2 : i < mL μ
      · rw [if_pos e2] at h
        cases h
        refine ⟨_, ?_, sub_filter hs, kn_filter hk⟩
        unfold am_hd2
        rw [if_pos e, hd]
        exact if_pos e2
      · rw [if_neg e2] at h; cases h
    · rename_i i hd
      by_cases e2 : (i : Nat) < mL μ
      · rw [if_pos e2] at h
        cases h
        refine ⟨_, ?_, sub_filter hs, kn_filter hk⟩
        unfold am_hd2
        rw [if_pos e, hd]
        exact if_pos e2
      · rw [if_neg e2] at h; cases h
    · cases h
  · rw [if_neg e] at h; cases h
theorem hd_none {x : ExceptionTableEntry} {E : String} {lo' : ALo} (h : am_hd μ x pc E lo = none) : am_hd μ x pc E lo' = none := by
  unfold am_hd at h ⊢
  split at h
  · rename_i e
    rw [if_pos e]
    split at h
    · rename_i i hd
      split at h
      · cases h
      · rename_i e2
        exact if_neg e2
    · rename_i i hd
      split at h
      · cases h
      · rename_i e2
        exact if_neg e2
    · rfl
  · rename_i e
    exact if_neg e
theorem hq_mono {x : ExceptionTableEntry} {xr : List ExceptionTableEntry} {E : String} {q : Nat × ALo} {lo' : ALo} (hs : lo ⊆ lo') (hk : kn lo') (h : am_hq μ x xr pc E lo = some q) : ∃ lo1, am_hq μ x xr pc E lo' = some (q.1, lo1) ∧ q.2 ⊆ lo1 ∧ kn lo1 := by
  unfold am_hq at h
  split at h
  · rename_i q9 h9
    cases h
    obtain ⟨lo1, e1, e2, e3⟩ := hd_mono hs hk h9
    refine ⟨lo1, ?_, e2, e3⟩
    unfold am_hq
    rw [e1]
  · rename_i h9
    split at h
    · cases h
    · rename_i y yr
      obtain ⟨lo1, e1, e2, e3⟩ := hd2_mono hs hk h
      refine ⟨lo1, ?_, e2, e3⟩
      unfold am_hq
      rw [hd_none h9]
      exact e1
theorem add_some {k s kc ks : Nat} {x : XR} {out : AO} {σ' : SS} (h : x = some (out, σ', kc, ks)) : am_add k s x = some (out, σ', k + kc, s + ks) := by subst h; rfl
/-- what the callee's run is, by fuel -/
def am_ce (f d ν : Nat) (av : List Value) (σ : SS) : XR := if ν ≤ 15 then am_prim ν d av σ else if (lg_sl av).length ≤ mL ν then am_x f d ν 0 (lv_args 0 av) [] σ else none
theorem ev_C0 (own : Nat) (hO : mO μ = own) (hd : decode (mC μ) pc = .ok (ins, ln)) (hi : isCall ins = true) (hM : am_M own ins ln st = none) {ν : Nat} {av rest : List Value} (hC : am_C own ins ln st = some (ν, av, rest)) (h1d : 1 ≤ d) {f0 : Nat} {out : AO} {σ1 : SS} {k1 s1 : Nat} (hE : ∀ f', f0 ≤ f' → am_ce f' (d - 1) ν av σ = some (out, σ1, k1, s1)) (kk : EvC d μ pc lo rest Q out σ1 k1 s1) : Ev d μ pc lo st σ Q := by
  subst hO
  have hn : nhB ins = true := by cases ins <;> first | rfl | cases hi
  have hR : am_R (mT μ) ins ln st = none := by cases ins <;> first | rfl | cases hi
  have hT : am_T μ ins pc ln st = none := by cases ins <;> first | rfl | cases hi
  have key : ∀ n lo', f0 ≤ n → am_x (n + 1) d μ pc lo' st σ = (match (some (out, σ1, k1, s1) : XR) with
                  | none => none
                  | some (.inl none, σ1, k1, s1) => am_add k1 s1 (am_x n d μ (pc + 3) lo' rest σ1)
                  | some (.inl (some v), σ1, k1, s1) => am_add k1 s1 (am_x n d μ (pc + 3) lo' (.int v :: rest) σ1)
                  | some (.inr E, σ1, k1, s1) => (match tableOf (mH μ) with
                    | [] => some (.inr E, σ1, k1, s1)
                    | x :: xr => (match am_hq μ x xr pc E lo' with
                      | some q => am_add k1 s1 (am_x n d μ q.1 q.2 [] σ1)
                      | none => none))) := by
    intro n lo' hn0
    rw [am_x, hd]
    dsimp only
    rw [np_P (nh_np hn)]
    dsimp only
    rw [nh_H hn]
    dsimp only
    rw [hR]
    dsimp only
    rw [hT]
    dsimp only
    rw [hM]
    dsimp only
    rw [hC]
    dsimp only
    rw [if_pos h1d]
    have := hE n hn0
    unfold am_ce at this
    rw [this]
    rfl
  unfold EvC at kk
  split at kk
  · obtain ⟨f, o2, σ', kc, ks, hQ, h⟩ := kk
    refine ⟨max f f0 + 1, o2, σ', k1 + kc, s1 + ks, hQ, fun f' lo' h1 h2 h3 => ?_⟩
    obtain ⟨n, rfl⟩ : ∃ n, f' = n + 1 := ⟨f' - 1, by omega⟩
    rw [key n lo' (by omega)]
    exact add_some (h n lo' (by omega) h2 h3)
  · obtain ⟨f, o2, σ', kc, ks, hQ, h⟩ := kk
    refine ⟨max f f0 + 1, o2, σ', k1 + kc, s1 + ks, hQ, fun f' lo' h1 h2 h3 => ?_⟩
    obtain ⟨n, rfl⟩ : ∃ n, f' = n + 1 := ⟨f' - 1, by omega⟩
    rw [key n lo' (by omega)]
    exact add_some (h n lo' (by omega) h2 h3)
  · rename_i E
    split at kk
    · rename_i ht
      refine ⟨f0 + 1, _, σ1, k1, s1, kk, fun f' lo' h1 h2 h3 => ?_⟩
      obtain ⟨n, rfl⟩ : ∃ n, f' = n + 1 := ⟨f' - 1, by omega⟩
      rw [key n lo' (by omega)]
      dsimp only
      rw [ht]
    · rename_i x r ht
      split at kk
      · rename_i q hq
        obtain ⟨f, o2, σ', kc, ks, hQ, h⟩ := kk
        refine ⟨max f f0 + 1, o2, σ', k1 + kc, s1 + ks, hQ, fun f' lo' h1 h2 h3 => ?_⟩
        obtain ⟨n, rfl⟩ : ∃ n, f' = n + 1 := ⟨f' - 1, by omega⟩
        obtain ⟨lo1, e1, e2, e3⟩ := hq_mono h2 h3 hq
        rw [key n lo' (by omega)]
        dsimp only
        rw [ht]
        dsimp only
        rw [e1]
        exact add_some (h n lo1 (by omega) e2 e3)
      · exact kk.elim
/-- a call of a method that is run -/
theorem ev_C (own : Nat) (hO : mO μ = own) (hd : decode (mC μ) pc = .ok (ins, ln)) (hi : isCall ins = true) (hM : am_M own ins ln st = none) {ν : Nat} {av rest : List Value} (hC : am_C own ins ln st = some (ν, av, rest)) (h1d : 1 ≤ d) (hν : ¬ ν ≤ 15) (hsl : (lg_sl av).length ≤ mL ν) (hkn : kn (lv_args 0 av)) (kk : Ev (d - 1) ν 0 (lv_args 0 av) [] σ (EvC d μ pc lo rest Q)) : Ev d μ pc lo st σ Q := by
  obtain ⟨f, out, σ1, k1, s1, hQ, h⟩ := kk
  refine ev_C0 own hO hd hi hM hC h1d (f0 := f) (fun f' hf => ?_) hQ
  unfold am_ce
  rw [if_neg hν, if_pos hsl]
  exact h f' _ hf (fun _ h => h) hkn
/-- a call of a single step -/
theorem ev_Cp (own : Nat) (hO : mO μ = own) (hd : decode (mC μ) pc = .ok (ins, ln)) (hi : isCall ins = true) (hM : am_M own ins ln st = none) {ν : Nat} {av rest : List Value} (hC : am_C own ins ln st = some (ν, av, rest)) (h1d : 1 ≤ d) (hν : ν ≤ 15) {out : AO} {σ1 : SS} {k1 s1 : Nat} (hp : am_prim ν (d - 1) av σ = some (out, σ1, k1, s1)) (kk : EvC d μ pc lo rest Q out σ1 k1 s1) : Ev d μ pc lo st σ Q := by
  refine ev_C0 own hO hd hi hM hC h1d (f0 := 0) (fun f' hf => ?_) kk
  unfold am_ce
  rw [if_pos hν]
  exact hp
end
