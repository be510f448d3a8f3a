/-! THE ABSTRACT MACHINE IS THE MACHINE: the induction -/
theorem am_H_scr {law : Bool} {own : Nat} {ins : Jvm.ClassFile.Instr} {ln : Nat} {st : List Value} {σ : SS} {q : List Value × SS} {G : Nat → ClassId} {ad : Nat → Nat} {cl : Nat → va_E} (P : PIC G ad cl σ) (h : am_H law own ins ln st σ = some q) (hs : okS st) : sN q.2 = sN σ ∧ sS q.2 = sS σ := (am_H_okv P h hs).2
theorem am_H_scr0 {law : Bool} {own : Nat} {ins : Jvm.ClassFile.Instr} {ln : Nat} {st : List Value} {σ : SS} {q : List Value × SS} (h : am_H law own ins ln st σ = some q) : sN q.2 = sN σ ∧ sS q.2 = sS σ := by
  unfold am_H at h
  split at h
  all_goals first
    | (cases h; done)
    | (unfold am_putf at h
       split at h
       · split at h
         · split at h
           · split at h
             · rename_i hv
               cases h
               exact am_put_scr hv
             · cases h
           · cases h
         · cases h
       · cases h)
    | (first | unfold am_getf at h | unfold am_iald at h | unfold am_bald at h | unfold am_iast at h | unfold am_bast at h | unfold am_lald at h | unfold am_last at h | unfold am_aald at h | unfold am_alen at h | skip
       repeat' (first | (cases h; first | exact ⟨rfl, rfl⟩ | done) | split at h))
theorem am_scr {f d μ pc : Nat} {lo : ALo} {st : List Value} {σ σ' : SS} {out : AO} {kc ks : Nat} (h : am_x f d μ pc lo st σ = some (out, σ', kc, ks)) : sN σ' = sN σ ∧ sS σ' = sS σ := am_x_scr f d μ pc lo st σ σ' out kc ks h (fun _ _ _ _ _ _ _ hq => am_H_scr0 hq)
section
variable {p : Program} {l : Launch} {e : Env} {R : Room} {s : State} {m : MethodId} {args : Array Value} {below : List Frame} {meth : Method} {c : Code} {H : Heap} {locs : List Loc} {cells slots : Nat} {Q : State → Prop}
variable {cc : ByteArray} {nL pc : Nat} {own : Nat} {ls : Array Slot} {D : va_G} {G : Nat → ClassId} {t : Nat → Nat} {A : Nat → Prop} {h : Nat → Nat}
theorem am_M_ok (X : Cx p s m args meth c cc nL (rx own) D G t A) (hls : ls.size = nL) {ins : Jvm.ClassFile.Instr} {ln : Nat} {st st' : List Value} (hM : am_M own ins ln st = some st') (hdg : decode cc pc = .ok (ins, ln)) (hR : 1 ≤ R.frames ∧ 60 ≤ R.locals) (hc : cells ≤ R.cells) (hs : slots ≤ R.slots)
    (kk : W p l e R s m args below meth c H locs cells slots Q (F0 m (pc + ln) ls (am_sk h st'))) : W p l e R s m args below meth c H locs cells slots Q (F0 m pc ls (am_sk h st)) := by
  obtain ⟨hx, hb, hml, hown, hts, -⟩ := id X
  cases ins
  all_goals try (have h0 : (none : Option (List Value)) = some st' := hM; exact nomatch h0)
  case invokestatic idx =>
    unfold am_M at hM
    dsimp only at hM
    split at hM
    · rename_i y x r
      split at hM
      · rename_i q hq
        split at hM
        · rename_i e1
          obtain ⟨rfl, h8⟩ := e1
          cases hM
          have h8 : ((am_sk h r).map fun v => v.category).sum ≤ 8 := by rw [am_sk_cat]; exact h8
          have hm := AllP.mem (mmT_ok own) (List.mem_of_find?_eq_some hq)
          have he := List.find?_some hq
          simp at he
          rcases hm with ⟨k, hl⟩ | ⟨k, hl⟩
          · rw [he] at hl
            rw [if_pos k] at kk
            exact va_mmin hx hb (hml.trans hls.symm) hown (hts _ hl) (hts _ wm_min) (hts _ wm_ini) (hts _ wm_minc) hR.1 (by have := hR.2; have h8' : (((r.map (am_v h))).map fun v => v.category).sum ≤ 8 := h8; omega) hc hs hdg kk
          · rw [he] at hl
            rw [if_neg (by omega)] at kk
            exact va_mmax hx hb (hml.trans hls.symm) hown (hts _ hl) (hts _ wm_max) (hts _ wm_ini) (hts _ wm_maxc) hR.1 (by have := hR.2; have h8' : (((r.map (am_v h))).map fun v => v.category).sum ≤ 8 := h8; omega) hc hs hdg kk
        · cases hM
      · cases hM
    · cases hM
theorem am_M_okv {ins : Jvm.ClassFile.Instr} {ln : Nat} {st st' : List Value} (hM : am_M own ins ln st = some st') (hs : okS st) : okS st' := by
  cases ins
  all_goals try (have h0 : (none : Option (List Value)) = some st' := hM; exact nomatch h0)
  case invokestatic idx =>
    unfold am_M at hM
    dsimp only at hM
    split at hM
    · split at hM
      · split at hM
        · cases hM; exact hs.t.t.c trivial
        · cases hM
      · cases hM
    · cases hM
theorem adx_st {b : Nat} {t ad : Nat → Nat} (j : Nat) : adx b t ad (353 + j) = t j := by
  unfold adx
  rw [if_neg (by omega), if_neg (by omega), Nat.add_sub_cancel_left]
theorem adx_st2 {b : Nat} {t ad : Nat → Nat} {z : Nat} (h : 353 ≤ z) : adx b t ad z = t (z - 353) := by
  unfold adx
  rw [if_neg (by omega), if_neg (by omega)]
theorem adx_sr {b : Nat} {t ad : Nat → Nat} (j : Nat) : adx b t ad (360 + j) = t (7 + j) := by
  unfold adx
  rw [if_neg (by omega), if_neg (by omega), show 360 + j - 353 = 7 + j by omega]
theorem adx_sr2 {b : Nat} {t ad : Nat → Nat} {z : Nat} (h : 360 ≤ z) : adx b t ad z = t (7 + (z - 360)) := by
  unfold adx
  rw [if_neg (by omega), if_neg (by omega), show z - 353 = 7 + (z - 360) by omega]
theorem sub5 {z : Nat} (h1 : 353 ≤ z) (h2 : z < 358) : z - 353 < 5 := by omega
theorem sub11 {z : Nat} (h1 : 360 ≤ z) (h2 : z < 371) : z - 360 < 11 := by omega
theorem stL_le : ∀ j, j < 5 → stL j ≤ 100 := by decide +kernel
theorem am_S_ok {b : Nat} {ad : Nat → Nat} {cl : Nat → va_E} (X : Cx p s m args meth c cc nL (rx own) D G t A) (w : Wd D A s H locs 352 ad cl) (hls : ls.size = nL) {ins : Jvm.ClassFile.Instr} {ln : Nat} {st st' : List Value} (hS : am_S own ins ln st = some st') (hdg : decode cc pc = .ok (ins, ln)) (hR : 5 ≤ R.frames ∧ 300 ≤ R.locals) (hc : cells ≤ R.cells) (hs : slots ≤ R.slots)
    (kk : ∀ (H : Heap) (locs : List Loc), Wd D A s H locs 352 ad cl → W p l e R s m args below meth c H locs cells slots Q (F0 m (pc + ln) ls (am_sk (adx b t ad) st'))) : W p l e R s m args below meth c H locs cells slots Q (F0 m pc ls (am_sk (adx b t ad) st)) := by
  obtain ⟨hx, hb, hml, hown, hts, hK, hA, hZ, hN, hlo⟩ := id X
  cases ins
  all_goals try (have h0 : (none : Option (List Value)) = some st' := hS; exact nomatch h0)
  case getstatic idx =>
    unfold am_S at hS
    dsimp only at hS
    split at hS
    · rename_i j hj
      split at hS
      · rename_i e1
        subst e1
        cases hS
        have hq := am_tf_ok (gsT_ok own) hj
        have hr := st_row hZ j hq.1
        have k1 := kk H locs w
        have k1 : W p l e R s m args below meth c H locs cells slots Q (F0 m (pc + 3) ls (.ref (adx b t ad (353 + j)) :: am_sk (adx b t ad) st)) := k1
        rw [adx_st] at k1
        exact va_gets hx hb hr.1 w.2.2 hown (hts _ hq.2) (fun _ h => h) hdg k1
      · cases hS
    · cases hS
  case ldc idx =>
    unfold am_S at hS
    dsimp only at hS
    split at hS
    · rename_i j hj
      split at hS
      · rename_i e1
        subst e1
        cases hS
        have hq := am_tf_ok (srT_ok own) hj
        have k1 : W p l e R s m args below meth c H locs cells slots Q (F0 m (pc + 2) ls (.ref (adx b t ad (360 + j)) :: am_sk (adx b t ad) st)) := kk H locs w
        rw [adx_sr] at k1
        have hZ9 : vk_R (rx own) idx (strTx.getD j "") (t (7 + j)) s := hN.2.2.1 (rx own, idx, j) hq.2
        exact va_ldcS (own := rx own) (tx := strTx.getD j "") (index := idx) (q := t (7 + j)) hx hb hown hZ9 hdg k1
      · cases hS
    · cases hS
  case ldc_w idx =>
    unfold am_S at hS
    dsimp only at hS
    split at hS
    · rename_i j hj
      split at hS
      · rename_i e1
        subst e1
        cases hS
        have hq := am_tf_ok (srT_ok own) hj
        have k1 : W p l e R s m args below meth c H locs cells slots Q (F0 m (pc + 3) ls (.ref (adx b t ad (360 + j)) :: am_sk (adx b t ad) st)) := kk H locs w
        rw [adx_sr] at k1
        have hZ9 : vk_R (rx own) idx (strTx.getD j "") (t (7 + j)) s := hN.2.2.1 (rx own, idx, j) hq.2
        intro T hT Y
        obtain ⟨t9, a1, b1⟩ := k1 T hT Y
        exact ⟨t9, Y.ldcStringW hx (own := rx own) (text := strTx.getD j "") (index := idx) (a := t (7 + j)) hown hZ9.1 hZ9.2 (g := F0 m pc ls (am_sk (adx b t ad) st)) rfl (by rw [hb]; exact hdg) t9 a1, b1⟩
      · cases hS
    · cases hS
  case iaload =>
    unfold am_S at hS
    dsimp only at hS
    split at hS
    · rename_i i z r
      split at hS
      · rename_i e1
        obtain ⟨rfl, z1, z2, hb1⟩ := e1
        cases hS
        have z1 : (353 : Nat) ≤ (z : Nat) := z1
        have z2 : (z : Nat) < (358 : Nat) := z2
        obtain ⟨b1, b2⟩ := am_bl_ok hb1
        have hr := st_row hZ (z - 353) (sub5 z1 z2)
        have hn := stL_le (z - 353) (sub5 z1 z2)
        show W p l e R s m args below meth c H locs cells slots Q (F0 m pc ls (.int i :: .ref (adx b t ad z) :: am_sk (adx b t ad) r))
        rw [adx_st2 z1]
        exact va_ti hx hb hr.2 w.2.2 (by rw [b1]; exact nI_in b2 (by omega)) (v := .int ((stF.getD (z - 353) []).getD i.toNatClampNeg 0)) rfl hdg (kk H locs w)
      · cases hS
    · cases hS
  case arraylength =>
    unfold am_S at hS
    dsimp only at hS
    split at hS
    · rename_i z r
      split at hS
      · rename_i e1
        obtain ⟨rfl, z1, z2⟩ := e1
        cases hS
        have z1 : (353 : Nat) ≤ (z : Nat) := z1
        have z2 : (z : Nat) < (358 : Nat) := z2
        have hr := st_row hZ (z - 353) (sub5 z1 z2)
        show W p l e R s m args below meth c H locs cells slots Q (F0 m pc ls (.ref (adx b t ad z) :: am_sk (adx b t ad) r))
        rw [adx_st2 z1]
        exact va_tlen hx hb hr.2 w.2.2 rfl hdg (kk H locs w)
      · cases hS
    · cases hS
  case invokevirtual idx =>
    unfold am_S at hS
    dsimp only at hS
    split at hS
    · rename_i hj
      have hq := am_tf_ok (slT_ok own) hj
      split at hS
      · rename_i z r
        split at hS
        · rename_i e1
          obtain ⟨rfl, z1, z2, h8⟩ := e1
          cases hS
          have z1 : (360 : Nat) ≤ (z : Nat) := z1
          have z2 : (z : Nat) < (371 : Nat) := z2
          have h8 : ((am_sk (adx b t ad) r).map fun v => v.category).sum ≤ 8 := by rw [am_sk_cat]; exact h8
          rcases hq with ⟨-, hl⟩ | ⟨hl, -⟩
          · show W p l e R s m args below meth c H locs cells slots Q (F0 m pc ls (.ref (adx b t ad z) :: am_sk (adx b t ad) r))
            rw [adx_sr2 z1]
            refine c_RV (d := 1) X w (ct_len l D G t 352 ad cl 1 (z - 360) (sub11 z1 z2) (by omega)) YJ_len rfl hl (sub11 z1 z2) (As := []) rfl rfl rfl hls ⟨by omega, by omega⟩ h8 hdg ⟨by omega, by omega⟩ (fun r9 u' H locs hp w => ?_)
            obtain ⟨h9, rfl⟩ := hp
            rw [h9]
            exact kk H locs w
          · exact absurd (show (0 : Nat) = 1 from hl) (by decide)
        · cases hS
      · cases hS
    · rename_i hj
      have hq := am_tf_ok (slT_ok own) hj
      split at hS
      · rename_i i z r
        split at hS
        · rename_i e1
          obtain ⟨rfl, z1, z2, hb1, h8⟩ := e1
          cases hS
          have z1 : (360 : Nat) ≤ (z : Nat) := z1
          have z2 : (z : Nat) < (371 : Nat) := z2
          obtain ⟨b1, b2⟩ := am_bl_ok hb1
          have h8 : ((am_sk (adx b t ad) r).map fun v => v.category).sum ≤ 8 := by rw [am_sk_cat]; exact h8
          rcases hq with ⟨hl, -⟩ | ⟨-, hl⟩
          · exact absurd (show (1 : Nat) = 0 from hl) (by decide)
          · show W p l e R s m args below meth c H locs cells slots Q (F0 m pc ls (.int i :: .ref (adx b t ad z) :: am_sk (adx b t ad) r))
            rw [adx_sr2 z1]
            refine c_RV (d := 3) X w (ct_cha l D G t 352 ad cl 3 (z - 360) i.toNatClampNeg (sub11 z1 z2) b2 (by omega)) YJ_cha rfl hl (sub11 z1 z2) (As := [.int (nI i.toNatClampNeg)]) rfl (by rw [← b1]; rfl) rfl hls ⟨by omega, by omega⟩ h8 hdg ⟨by omega, by omega⟩ (fun r9 u' H locs hp w => ?_)
            obtain ⟨h9, rfl⟩ := hp
            rw [h9]
            exact kk H locs w
        · cases hS
      · cases hS
    · cases hS
  case invokestatic idx =>
    unfold am_S at hS
    dsimp only at hS
    split at hS
    · rename_i j hj
      have hl := am_tf_ok (fmT_ok own) hj
      split at hS
      · rename_i y x r
        split at hS
        · rename_i e1
          obtain ⟨rfl, y0, h8⟩ := e1
          cases hS
          have h8 : ((am_sk (adx b t ad) r).map fun v => v.category).sum ≤ 8 := by rw [am_sk_cat]; exact h8
          exact va_fmod X w hls hl ⟨by omega, by omega⟩ h8 hc hs y0 hdg (fun H locs w => kk H locs w)
        · cases hS
      · cases hS
    · cases hS
theorem am_S_okv {ins : Jvm.ClassFile.Instr} {ln : Nat} {st st' : List Value} (hS : am_S own ins ln st = some st') (hs : okS st) : okS st' := by
  cases ins
  all_goals try (have h0 : (none : Option (List Value)) = some st' := hS; exact nomatch h0)
  all_goals
    unfold am_S at hS
    dsimp only at hS
    split at hS
    all_goals first
      | (cases hS; done)
      | (split at hS
         · cases hS
           first
             | exact hs.c (row_hi (by omega))
             | exact hs.t.t.c trivial
             | exact hs.t.c trivial
         · cases hS)
      | (split at hS
         · split at hS
           · cases hS
             first
               | exact hs.t.t.c trivial
               | exact hs.t.c trivial
           · cases hS
         · cases hS)
end
theorem lv_less {ls : Array Slot} {nL : Nat} {q : Nat × Value} {l : List (Nat × Value)} (h : lv_has ls nL (q :: l)) : lv_has ls nL l := ⟨h.1, h.2.1, fun x hx => h.2.2 x (List.mem_cons_of_mem _ hx)⟩
theorem k13_13 : Cond.classLink (rx 13) 13 "java/lang/IllegalArgumentException" ∈ tb := tb_7 (i := 85) (by decide +kernel) rfl
theorem k13_24 : Cond.classLink (rx 13) 24 "java/lang/IndexOutOfBoundsException" ∈ tb := tb_7 (i := 139) (by decide +kernel) rfl
set_option maxHeartbeats 1000000 in
theorem FL_succ {l : Launch} {D : va_G} {G : Nat → ClassId} {t : Nat → Nat} {b f : Nat} (hst : l.stackTraces = false) (IH : FL l D G t b f) : FL l D G t b (f + 1) := by
  intro d μ pc lo st σ σ' out kc ks h p e R s m args below meth c H locs cells slots Q A ls ad cl X htb w P hS hlv hL hOS hf1 hf2 hc hs kret kthr
  have X0 := X
  obtain ⟨hx, hb, hml, hown, hts, hK, hA, hZ, hN, hlo⟩ := X
  unfold am_x at h
  split at h
  · cases h
  rename_i ins ln hdg
  split at h
  · rename_i q hq
    obtain ⟨l1, s1⟩ := am_P_okv hq hL hOS
    exact am_P_ok hx hb hdg hlv hq (fun ls hlv => IH _ _ _ _ _ _ _ _ _ _ h _ _ _ _ _ _ _ _ _ _ _ _ _ _ _ _ _ _ X0 htb w P hS hlv l1 s1 hf1 hf2 hc hs kret kthr)
  split at h
  · rename_i q hq
    obtain ⟨s1, n1, n2⟩ := am_H_okv P hq hOS
    exact am_H_ok X0 w P hS hq hdg (fun H locs cl' w P' => IH _ _ _ _ _ _ _ _ _ _ h _ _ _ _ _ _ _ _ _ _ _ _ _ _ _ _ _ _ X0 htb w P' (fun k => by rw [n1, n2]; exact hS k) hlv hL s1 hf1 hf2 hc hs kret kthr)
  split at h
  · rename_i r hr
    cases h
    obtain ⟨r1, rfl⟩ := am_R_ok (T := mT μ) hdg hr
    rw [am_rs_sk]
    exact kret r rfl pc ls H locs ad cl w P AdR.rf r1
  split at h
  · rename_i E hE
    split at h
    · rename_i h6
      cases h
      obtain ⟨ik, ic, rfl, rfl, hno, h8, d3, d4, d7, T1, T2, T3, T4, T5, T6⟩ := am_T_ok hE
      obtain ⟨Qc, pX, mc, ms, rfl, c1, c2, hp⟩ := kthr E rfl
      have h8 : ((am_sk (adx b t ad) st).map fun v => v.category).sum ≤ 8 := by rw [am_sk_cat]; exact h8
      exact x_throw hst X0 hlv.1 (by rw [htb, hno]; intro x hx; cases hx) w (hp ad cl P AdR.rf) T1 T2 T3 T4 T5 T6 hdg d3 d4 d7 h8 ⟨by omega, by omega⟩ hc hs c1 c2
    · cases h
  split at h
  · rename_i st' hM
    split at h
    · rename_i h1
      exact am_M_ok X0 hlv.1 hM hdg ⟨by omega, by omega⟩ (by omega) (by omega) (IH _ _ _ _ _ _ _ _ _ _ h _ _ _ _ _ _ _ _ _ _ _ _ _ _ _ _ _ _ X0 htb w P hS hlv hL (am_M_okv hM hOS) hf1 hf2 hc hs kret kthr)
    · cases h
  split at h
  · split at h
    · rename_i st' hM
      split at h
      · rename_i h5
        exact am_S_ok X0 w hlv.1 hM hdg ⟨by omega, by omega⟩ (by omega) (by omega) (fun H locs w => IH _ _ _ _ _ _ _ _ _ _ h _ _ _ _ _ _ _ _ _ _ _ _ _ _ _ _ _ _ X0 htb w P hS hlv hL (am_S_okv hM hOS) hf1 hf2 hc hs kret kthr)
      · cases h
    · cases h
  rename_i ν av rest hC
  obtain ⟨rfl, CS0⟩ := am_C_ok hC
  obtain ⟨okA, okR⟩ := CS0.ok hOS
  have hk9 : mK ν ≠ 9 := by
    rcases CS0.2 with ⟨_, _, _, _, _, k | k, _⟩ | ⟨_, _, _, k | k, _⟩ | ⟨_, _, _, _, k, _⟩ <;> omega
  split at h
  · rename_i h1
    have con : ∀ (o1 : AO) (σ1 : SS) (k1 s1 : Nat), (if ν ≤ 15 then am_prim ν (d - 1) av σ else if (lg_sl av).length ≤ mL ν then am_x f (d - 1) ν 0 (lv_args 0 av) [] σ else none) = some (o1, σ1, k1, s1) → CtAM l ν (d - 1) k1 s1 D G t ad cl (am_sk (adx b t ad) av) σ1 o1 ∧ ((mK μ == 9) = true → va_X b (sN σ1) (sS σ1) s s.heap ∧ b < s.heap.size ∧ ¬ A b) := by
      intro o1 σ1 k1 s1 hr
      by_cases hp : ν ≤ 15
      · rw [if_pos hp] at hr
        refine ⟨am_prim_ok P hr, fun k => ?_⟩
        obtain ⟨n1, n2⟩ := am_prim_scr hr
        rw [n1, n2]; exact hS k
      · rw [if_neg hp] at hr
        split at hr
        · rename_i hlen
          refine ⟨am_callee IH hr hlen hk9 okA P, fun k => ?_⟩
          obtain ⟨n1, n2⟩ := am_scr hr
          rw [n1, n2]; exact hS k
        · cases hr
    have hR : d - 1 + 1 ≤ R.frames ∧ 60 * (d - 1 + 1) ≤ R.locals := by
      rw [show d - 1 + 1 = d by omega]; exact ⟨hf1, hf2⟩
    split at h
    · cases h
    · rename_i σ1 k1 s1 hr
      obtain ⟨k2, s2, h5, rfl, rfl⟩ := am_add_inv h
      obtain ⟨M, hS1⟩ := con _ _ _ _ hr
      refine c_AV X0 w P CS0 M.2 hlv.1 hR hdg ⟨by omega, by omega⟩ (fun H locs ad' cl' w P' AR => ?_)
      rw [← am_sk_cg AR okR]
      refine IH _ _ _ _ _ _ _ _ _ _ h5 _ _ _ _ _ _ _ _ _ _ _ _ _ _ _ _ _ _ X0 htb w P' hS1 (by rw [am_lo_cg AR hL]; exact hlv) hL okR hf1 hf2 (by omega) (by omega) (fun r hr0 pc' ls' H' locs' ad2 cl2 w2 P2 R2 ok => ?_) (fun E hE => ?_)
      · rw [Nat.add_assoc, Nat.add_assoc]
        exact kret r hr0 pc' ls' H' locs' ad2 cl2 w2 P2 (AR.tr R2) ok
      · obtain ⟨Qc, pX, mc, ms, q1, q2, q3, q4⟩ := kthr E hE
        exact ⟨Qc, pX, mc, ms, q1, by omega, by omega, fun ad2 cl2 P2 R2 => q4 ad2 cl2 P2 (AR.tr R2)⟩
    · rename_i v σ1 k1 s1 hr
      obtain ⟨k2, s2, h5, rfl, rfl⟩ := am_add_inv h
      obtain ⟨M, hS1⟩ := con _ _ _ _ hr
      refine c_AI X0 w P CS0 M.2 hlv.1 hR hdg ⟨by omega, by omega⟩ (fun H locs ad' cl' w P' AR => ?_)
      rw [← am_sk_cg AR okR]
      refine IH _ _ _ _ _ _ _ _ _ _ h5 _ _ _ _ _ _ _ _ _ _ _ _ _ _ _ _ _ _ X0 htb w P' hS1 (by rw [am_lo_cg AR hL]; exact hlv) hL (okR.c trivial) hf1 hf2 (by omega) (by omega) (fun r hr0 pc' ls' H' locs' ad2 cl2 w2 P2 R2 ok => ?_) (fun E hE => ?_)
      · rw [Nat.add_assoc, Nat.add_assoc]
        exact kret r hr0 pc' ls' H' locs' ad2 cl2 w2 P2 (AR.tr R2) ok
      · obtain ⟨Qc, pX, mc, ms, q1, q2, q3, q4⟩ := kthr E hE
        exact ⟨Qc, pX, mc, ms, q1, by omega, by omega, fun ad2 cl2 P2 R2 => q4 ad2 cl2 P2 (AR.tr R2)⟩
    · rename_i E σ1 k1 s1 hr
      obtain ⟨M, hS1⟩ := con _ _ _ _ hr
      split at h
      · rename_i hno
        cases h
        obtain ⟨Qc, pX, mc, ms, rfl, q2, q3, q4⟩ := kthr E rfl
        refine c_AX X0 w P CS0 M hlv.1 hR hdg ⟨by omega, by omega⟩ (fun ce q H locs ad' cl' w P' AR h1 h2 h3 => ?_)
        exact x_out X0 (by rw [htb, hno]; intro x hx; cases hx) w (q4 ad' cl' P' AR) h1 h2 h3 q2 q3
      · rename_i x xr hx1
        split at h
        · rename_i q hq
          obtain ⟨k2, s2, h5, rfl, rfl⟩ := am_add_inv h
          refine c_AX X0 w P CS0 M hlv.1 hR hdg ⟨by omega, by omega⟩ (fun ce q0 H locs ad' cl' w P' AR h1 h2 h3 => ?_)
          have go : ∀ (pc2 : Nat) (lo2 : ALo) (ls2 : Array Slot), q = (pc2, lo2) → okL lo2 → lv_has ls2 (mL μ) (am_lo (adx b t ad) lo2) → W p l e R s m args below meth c H locs (cells + k1) (slots + s1) Q (F0 m pc2 ls2 []) := by
            intro pc2 lo2 ls2 e1 ok2 hl2
            subst e1
            refine IH _ _ _ _ _ _ _ _ _ _ h5 _ _ _ _ _ _ _ _ _ _ _ _ _ _ _ ls2 ad' cl' X0 htb w P' hS1 (by rw [am_lo_cg AR ok2]; exact hl2) ok2 (fun _ h => absurd h List.not_mem_nil) hf1 hf2 (by omega) (by omega) (fun r hr0 pc' ls' H' locs' ad2 cl2 w2 P2 R2 ok => ?_) (fun E hE => ?_)
            · rw [Nat.add_assoc, Nat.add_assoc]
              exact kret r hr0 pc' ls' H' locs' ad2 cl2 w2 P2 (AR.tr R2) ok
            · obtain ⟨Qc, pX, mc, ms, q1, q2, q3, q4⟩ := kthr E hE
              exact ⟨Qc, pX, mc, ms, q1, by omega, by omega, fun ad2 cl2 P2 R2 => q4 ad2 cl2 P2 (AR.tr R2)⟩
          have hq2 : am_hd μ x pc E lo = some q ∨ ∃ y yr, xr = y :: yr ∧ am_hd2 μ x y pc E lo = some q := by
            unfold am_hq at hq
            split at hq
            · rename_i q9 h9
              exact Or.inl (h9.trans hq)
            · split at hq
              · cases hq
              · rename_i y yr
                exact Or.inr ⟨y, yr, rfl, hq⟩
          clear hq
          rcases hq2 with hq | ⟨y, yr, hxr, hq⟩
          · unfold am_hd at hq
            split at hq
            · rename_i hcov
              have link : ∃ nm, Cond.classLink (rx (mO μ)) x.catchType nm ∈ tb ∧ Cond.castable E nm ∈ tables_1 ∧ x.catchType ≠ 0 := by
                rcases hcov.2 with ⟨rfl, ⟨a1, a2⟩ | ⟨a1, a2⟩⟩ | ⟨rfl, a1, a2⟩
                · rw [a1, a2]; exact ⟨_, tk_11_150, tc_ISE, by decide⟩
                · rw [a1, a2]; exact ⟨_, tk_L_19, tc_ISE, by decide⟩
                · rw [a1, a2]; exact ⟨_, k13_13, tc_IAE, by decide⟩
              obtain ⟨nm, k1', k2', k3'⟩ := link
              refine vx_catch (name := nm) hown [] x xr (by rw [htb, hx1]; rfl) (fun z hz => absurd hz List.not_mem_nil) hcov.1 k3' (hts _ k1') (nest_use rfl (hN.1 _ k2' rfl)) h1 h2 h3 ?_
              split at hq
              · rename_i i hd
                split at hq
                · rename_i hi
                  have e1 := (Option.some.inj hq).symm
                  refine lv_astore hx hb hd hlv hi rfl (fun ls2 hl2 => go _ _ ls2 e1 (fun q hq => hL q (List.mem_filter.mp hq).1) ?_)
                  have h3 := lv_less hl2
                  rw [am_fil _ _ (fun q => by simp only [am_v_cat])] at h3
                  exact h3
                · cases hq
              · rename_i i hd
                split at hq
                · rename_i hi
                  have e1 := (Option.some.inj hq).symm
                  refine lv_astore_n hx hb hd rfl hlv hi rfl (fun ls2 hl2 => go _ _ ls2 e1 (fun q hq => hL q (List.mem_filter.mp hq).1) ?_)
                  have h3 := lv_less hl2
                  rw [am_fil _ _ (fun q => by simp only [am_v_cat])] at h3
                  exact h3
                · cases hq
              · cases hq
            · cases hq
          · unfold am_hd2 at hq
            split at hq
            · rename_i hcov
              have link : ∃ nm, Cond.classLink (rx (mO μ)) y.catchType nm ∈ tb ∧ Cond.castable E nm ∈ tables_1 ∧ y.catchType ≠ 0 ∧ va_Nc E "java/lang/IllegalStateException" s := by
                rcases hcov.2.2.2 with ⟨rfl, a2⟩ | ⟨rfl, a2⟩
                · rw [hcov.2.1, a2]; exact ⟨_, k13_24, tc_IOB, by decide, hN.2.2.2.2⟩
                · rw [hcov.2.1, a2]; exact ⟨_, k13_13, tc_IAE, by decide, hN.2.2.2.1⟩
              obtain ⟨nm, k1', k2', k3', k4'⟩ := link
              have k5' : Cond.classLink (rx (mO μ)) 19 "java/lang/IllegalStateException" ∈ tb := by
                rw [hcov.2.1]
                exact tk_L_19
              refine vx_catch (name := nm) hown [x] y yr (by rw [htb, hx1, hxr]; rfl) (fun z hz => ?_) hcov.1 k3' (hts _ k1') (nest_use rfl (hN.1 _ k2' rfl)) h1 h2 h3 ?_
              · rw [List.mem_singleton.mp hz]
                refine Or.inr ⟨?_, "java/lang/IllegalStateException", ?_, k4'⟩
                · rw [hcov.2.2.1]
                  decide
                · rw [hcov.2.2.1]
                  exact hts _ k5'
              split at hq
              · rename_i i hd
                split at hq
                · rename_i hi
                  have e1 := (Option.some.inj hq).symm
                  refine lv_astore hx hb hd hlv hi rfl (fun ls2 hl2 => go _ _ ls2 e1 (fun q hq => hL q (List.mem_filter.mp hq).1) ?_)
                  have h3 := lv_less hl2
                  rw [am_fil _ _ (fun q => by simp only [am_v_cat])] at h3
                  exact h3
                · cases hq
              · rename_i i hd
                split at hq
                · rename_i hi
                  have e1 := (Option.some.inj hq).symm
                  refine lv_astore_n hx hb hd rfl hlv hi rfl (fun ls2 hl2 => go _ _ ls2 e1 (fun q hq => hL q (List.mem_filter.mp hq).1) ?_)
                  have h3 := lv_less hl2
                  rw [am_fil _ _ (fun q => by simp only [am_v_cat])] at h3
                  exact h3
                · cases hq
              · cases hq
            · cases hq
        · cases h
  · cases h
theorem FL_all {l : Launch} {D : va_G} {G : Nat → ClassId} {t : Nat → Nat} {b : Nat} (hst : l.stackTraces = false) : ∀ f, FL l D G t b f
  | 0 => fun d μ pc lo st σ σ' out kc ks h => by simp [am_x] at h
  | f + 1 => FL_succ hst (FL_all hst f)
