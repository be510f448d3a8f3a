/-! THE LAW -/
abbrev KK : Type := SS → Nat → Nat → Prop
def lw (i : Int32) : ALo := [(4, .int i), (3, .ref 351), (2, .ref 246), (1, .ref 0), (0, .ref 352)]
/-- both answer the same int -/
def Pair (νx νm : Nat) (ax : List Value) (σ : SS) (K : KK) : Prop :=
  Ev 999 νx 0 (lv_args 0 (.ref 0 :: ax)) [] σ (fun o σ1 k s => ∃ v, o = .inl (some v) ∧ sN σ1 = sN σ ∧ sS σ1 = sS σ ∧ Ev 999 νm 0 (lv_args 0 (.ref 246 :: ax)) [] σ1 (fun o2 σ2 k2 s2 => o2 = .inl (some v) ∧ K σ2 (k + k2) (s + s2)))
def outp (σ : SS) (v : Int32) : SS := uO σ (vp_updL (sO σ) 0 v.toInt64)
/-- both answer the same int, or the class throws and the reference says so -/
def PairT (νx νm : Nat) (E : String) (ax : List Value) (σ : SS) (K : KK) : Prop :=
  Ev 998 νx 0 (lv_args 0 (.ref 0 :: ax)) [] σ (fun o σ1 k s => sN σ1 = sN σ ∧ sS σ1 = sS σ ∧
    ((∃ v, o = .inl (some v) ∧ Ev 999 νm 0 (lv_args 0 (.ref 246 :: ax)) [] (outp σ1 v) (fun o2 σ2 k2 s2 => o2 = .inl (some v) ∧ sI σ2 246 0 = 0 ∧ sO σ2 0 = v.toInt64 ∧ K σ2 (k + k2) (s + s2))) ∨
     (o = .inr E ∧ Ev 999 νm 0 (lv_args 0 (.ref 246 :: ax)) [] σ1 (fun o2 σ2 k2 s2 => (∃ b, o2 = .inl (some b)) ∧ sI σ2 246 0 = 1 ∧ K σ2 (k + k2) (s + s2)))))
/-- the same, with two throws -/
def PairU (νx νm : Nat) (E E2 : String) (ax : List Value) (σ : SS) (K : KK) : Prop :=
  Ev 998 νx 0 (lv_args 0 (.ref 0 :: ax)) [] σ (fun o σ1 k s => sN σ1 = sN σ ∧ sS σ1 = sS σ ∧
    ((∃ v, o = .inl (some v) ∧ Ev 999 νm 0 (lv_args 0 (.ref 246 :: ax)) [] (outp σ1 v) (fun o2 σ2 k2 s2 => o2 = .inl (some v) ∧ sI σ2 246 0 = 0 ∧ sO σ2 0 = v.toInt64 ∧ K σ2 (k + k2) (s + s2))) ∨
     (o = .inr E ∧ Ev 999 νm 0 (lv_args 0 (.ref 246 :: ax)) [] σ1 (fun o2 σ2 k2 s2 => (∃ b, o2 = .inl (some b)) ∧ sI σ2 246 0 = 1 ∧ K σ2 (k + k2) (s + s2))) ∨
     (o = .inr E2 ∧ Ev 999 νm 0 (lv_args 0 (.ref 246 :: ax)) [] σ1 (fun o2 σ2 k2 s2 => (∃ b, o2 = .inl (some b)) ∧ sI σ2 246 0 = 2 ∧ K σ2 (k + k2) (s + s2)))))
theorem ev_scrv {d μ pc n : Nat} {lo : ALo} {st : List Value} {σ : SS} {Q : EQ} {x v : Int32} (hK : (mK μ == 9) = true) (hd : decode (mC μ) pc = .ok (.iaload, 1)) (hi : am_in x (sN σ) = true) (hv : sS σ x.toNatClampNeg = v) (hn : pc + 1 = n) (kk : Ev d μ n lo (.int v :: st) σ Q) : Ev d μ pc lo (.int x :: .ref 352 :: st) σ Q := by
  subst hv
  exact ev_scr hK hd hi hn kk
theorem lg_cmp_self (a : Int64) : lg_cmp a a = 0 := by
  unfold lg_cmp
  simp
/-- what the seven ints at i are -/
def Wn (σ : SS) (i : Int32) (w : Nat → Int32) : Prop := (am_in i (sN σ) = true ∧ sS σ i.toNatClampNeg = w 0) ∧ (am_in (i + 1) (sN σ) = true ∧ sS σ (i + 1).toNatClampNeg = w 1) ∧ (am_in (i + 2) (sN σ) = true ∧ sS σ (i + 2).toNatClampNeg = w 2) ∧ (am_in (i + 3) (sN σ) = true ∧ sS σ (i + 3).toNatClampNeg = w 3) ∧ (am_in (i + 4) (sN σ) = true ∧ sS σ (i + 4).toNatClampNeg = w 4) ∧ (am_in (i + 5) (sN σ) = true ∧ sS σ (i + 5).toNatClampNeg = w 5) ∧ (am_in (i + 6) (sN σ) = true ∧ sS σ (i + 6).toNatClampNeg = w 6)
def lgw (a b : Int32) : Int64 := (a.toInt64 <<< ((32 : Int32).toInt64 &&& 63)) ||| (b.toInt64 &&& 4294967295)
theorem d334_0 : decode (mC 334) 0 = .ok (.aload_n 2, 1) := by decide +kernel
theorem ci_0 : Int32.ofInt (0) = 0 := by decide
theorem d334_1 : decode (mC 334) 1 = .ok (.iconst 0, 1) := by decide +kernel
theorem d334_2 : decode (mC 334) 2 = .ok (.aload_n 0, 1) := by decide +kernel
theorem d334_3 : decode (mC 334) 3 = .ok (.iload_n 1, 1) := by decide +kernel
theorem d334_4 : decode (mC 334) 4 = .ok (.invokevirtual 7, 3) := by decide +kernel
theorem ml_13_7 : am_ml 13 7 = some 149 := by decide +kernel
theorem mK_149 : mK 149 = 0 := by decide +kernel
theorem cz_0_149 : am_cls 0 = some (mO 149) := by decide +kernel
theorem mA_149 : 1 = mA 149 := by decide +kernel
theorem sl_149 : 2 ≤ mL 149 := by decide +kernel
theorem nu_149 : ¬ 149 ≤ 15 := by decide
theorem mO_334 : mO 334 = 13 := by decide +kernel
theorem d334_7 : decode (mC 334) 7 = .ok (.i2l, 1) := by decide +kernel
theorem d334_8 : decode (mC 334) 8 = .ok (.lastore, 1) := by decide +kernel
theorem d334_9 : decode (mC 334) 9 = .ok (.goto 6, 3) := by decide +kernel
theorem d334_15 : decode (mC 334) 15 = .ok (.iconst 0, 1) := by decide +kernel
theorem mT_334 : mT 334 = (some .int) := by decide +kernel
theorem d334_16 : decode (mC 334) 16 = .ok (.ireturn, 1) := by decide +kernel
theorem tabl_334 : tableOf (mH 334) = [⟨0, 9, 12, 13⟩] := by decide +kernel
theorem d334_12 : decode (mC 334) 12 = .ok (.astore_n 3, 1) := by decide +kernel
theorem amhd_334 {a1 : Int32} : am_hd 334 ⟨0, 9, 12, 13⟩ 4 "java/lang/IllegalArgumentException" [(0, .ref 0), (1, .int a1), (2, .ref 351)] = some (13, [(0, .ref 0), (1, .int a1), (2, .ref 351)]) := by
  unfold am_hd
  rw [if_pos (by refine ⟨by decide, ?_⟩; first | exact Or.inl ⟨rfl, Or.inr ⟨by decide +kernel, rfl⟩⟩ | exact Or.inr ⟨rfl, by decide +kernel, rfl⟩), d334_12]
  exact if_pos (by decide +kernel)
theorem ci_1 : Int32.ofInt (1) = 1 := by decide
theorem d334_13 : decode (mC 334) 13 = .ok (.iconst 1, 1) := by decide +kernel
theorem d334_14 : decode (mC 334) 14 = .ok (.ireturn, 1) := by decide +kernel
theorem sp_L_replace {σ : SS} {K : Int32 → KK} {a1 : Int32} (h : Ev 998 149 0 [(0, .ref 0), (1, .int a1)] [] σ (fun o σ1 k s => (∃ v, o = .inl (some v) ∧ K 0 (outp σ1 v) k s) ∨ (o = .inr "java/lang/IllegalArgumentException" ∧ K 1 σ1 k s))) : Ev 999 334 0 [(0, .ref 0), (1, .int a1), (2, .ref 351)] [] σ (fun o σ1 k s => ∃ c, o = .inl (some c) ∧ K c σ1 k s) := by
  refine ev_aload_n d334_0 rfl m2 rfl ?_
  refine ev_iconst d334_1 ci_0 rfl ?_
  refine ev_aload_n d334_2 rfl m0 rfl ?_
  refine ev_iload_n d334_3 rfl m1 rfl ?_
  refine ev_call mO_334 d334_4 (cm_v1 ml_13_7 (Or.inl mK_149) mA_149 cz_0_149 (Nat.le_of_ble_eq_true rfl)) (by decide) nu_149 sl_149 (kn_of rfl nd_2) h (fun o σ1 k s hh => ?_)
  rcases hh with ⟨v, rfl, hK⟩ | ⟨rfl, hK⟩
  · refine evc_i ?_
    refine ev_i2l d334_7 rfl ?_
    refine ev_last d334_8 rfl ?_
    refine ev_goto d334_9 (t := 15) (aj rfl) ?_
    refine ev_iconst d334_15 ci_0 rfl ?_
    exact ev_iret mT_334 d334_16 ⟨_, rfl, hK⟩
  · refine evc_h tabl_334 amhd_334 ?_
    refine ev_iconst d334_13 ci_1 rfl ?_
    exact ev_iret mT_334 d334_14 ⟨_, rfl, hK⟩
theorem d335_0 : decode (mC 335) 0 = .ok (.aload_n 1, 1) := by decide +kernel
theorem d335_1 : decode (mC 335) 1 = .ok (.iconst 0, 1) := by decide +kernel
theorem d335_2 : decode (mC 335) 2 = .ok (.aload_n 0, 1) := by decide +kernel
theorem d335_3 : decode (mC 335) 3 = .ok (.invokevirtual 15, 3) := by decide +kernel
theorem ml_13_15 : am_ml 13 15 = some 154 := by decide +kernel
theorem mK_154 : mK 154 = 0 := by decide +kernel
theorem cz_0_154 : am_cls 0 = some (mO 154) := by decide +kernel
theorem mA_154 : 0 = mA 154 := by decide +kernel
theorem sl_154 : 1 ≤ mL 154 := by decide +kernel
theorem nu_154 : ¬ 154 ≤ 15 := by decide
theorem mO_335 : mO 335 = 13 := by decide +kernel
theorem d335_6 : decode (mC 335) 6 = .ok (.i2l, 1) := by decide +kernel
theorem d335_7 : decode (mC 335) 7 = .ok (.lastore, 1) := by decide +kernel
theorem d335_8 : decode (mC 335) 8 = .ok (.goto 6, 3) := by decide +kernel
theorem d335_14 : decode (mC 335) 14 = .ok (.iconst 0, 1) := by decide +kernel
theorem mT_335 : mT 335 = (some .int) := by decide +kernel
theorem d335_15 : decode (mC 335) 15 = .ok (.ireturn, 1) := by decide +kernel
theorem tabl_335 : tableOf (mH 335) = [⟨0, 8, 11, 19⟩] := by decide +kernel
theorem d335_11 : decode (mC 335) 11 = .ok (.astore_n 2, 1) := by decide +kernel
theorem amhd_335  : am_hd 335 ⟨0, 8, 11, 19⟩ 3 "java/lang/IllegalStateException" [(0, .ref 0), (1, .ref 351)] = some (12, [(0, .ref 0), (1, .ref 351)]) := by
  unfold am_hd
  rw [if_pos (by refine ⟨by decide, ?_⟩; first | exact Or.inl ⟨rfl, Or.inr ⟨by decide +kernel, rfl⟩⟩ | exact Or.inr ⟨rfl, by decide +kernel, rfl⟩), d335_11]
  exact if_pos (by decide +kernel)
theorem d335_12 : decode (mC 335) 12 = .ok (.iconst 1, 1) := by decide +kernel
theorem d335_13 : decode (mC 335) 13 = .ok (.ireturn, 1) := by decide +kernel
theorem sp_L_pages {σ : SS} {K : Int32 → KK} (h : Ev 998 154 0 [(0, .ref 0)] [] σ (fun o σ1 k s => (∃ v, o = .inl (some v) ∧ K 0 (outp σ1 v) k s) ∨ (o = .inr "java/lang/IllegalStateException" ∧ K 1 σ1 k s))) : Ev 999 335 0 [(0, .ref 0), (1, .ref 351)] [] σ (fun o σ1 k s => ∃ c, o = .inl (some c) ∧ K c σ1 k s) := by
  refine ev_aload_n d335_0 rfl m1 rfl ?_
  refine ev_iconst d335_1 ci_0 rfl ?_
  refine ev_aload_n d335_2 rfl m0 rfl ?_
  refine ev_call mO_335 d335_3 (cm_v0 ml_13_15 (Or.inl mK_154) mA_154 cz_0_154 (Nat.le_of_ble_eq_true rfl)) (by decide) nu_154 sl_154 (kn_of rfl nd_1) h (fun o σ1 k s hh => ?_)
  rcases hh with ⟨v, rfl, hK⟩ | ⟨rfl, hK⟩
  · refine evc_i ?_
    refine ev_i2l d335_6 rfl ?_
    refine ev_last d335_7 rfl ?_
    refine ev_goto d335_8 (t := 14) (aj rfl) ?_
    refine ev_iconst d335_14 ci_0 rfl ?_
    exact ev_iret mT_335 d335_15 ⟨_, rfl, hK⟩
  · refine evc_h tabl_335 amhd_335 ?_
    refine ev_iconst d335_12 ci_1 rfl ?_
    exact ev_iret mT_335 d335_13 ⟨_, rfl, hK⟩
theorem d336_0 : decode (mC 336) 0 = .ok (.aload_n 2, 1) := by decide +kernel
theorem d336_1 : decode (mC 336) 1 = .ok (.iconst 0, 1) := by decide +kernel
theorem d336_2 : decode (mC 336) 2 = .ok (.aload_n 0, 1) := by decide +kernel
theorem d336_3 : decode (mC 336) 3 = .ok (.iload_n 1, 1) := by decide +kernel
theorem d336_4 : decode (mC 336) 4 = .ok (.invokevirtual 21, 3) := by decide +kernel
theorem ml_13_21 : am_ml 13 21 = some 155 := by decide +kernel
theorem mK_155 : mK 155 = 0 := by decide +kernel
theorem cz_0_155 : am_cls 0 = some (mO 155) := by decide +kernel
theorem mA_155 : 1 = mA 155 := by decide +kernel
theorem sl_155 : 2 ≤ mL 155 := by decide +kernel
theorem nu_155 : ¬ 155 ≤ 15 := by decide
theorem mO_336 : mO 336 = 13 := by decide +kernel
theorem d336_7 : decode (mC 336) 7 = .ok (.i2l, 1) := by decide +kernel
theorem d336_8 : decode (mC 336) 8 = .ok (.lastore, 1) := by decide +kernel
theorem d336_9 : decode (mC 336) 9 = .ok (.goto 9, 3) := by decide +kernel
theorem d336_18 : decode (mC 336) 18 = .ok (.iconst 0, 1) := by decide +kernel
theorem mT_336 : mT 336 = (some .int) := by decide +kernel
theorem d336_19 : decode (mC 336) 19 = .ok (.ireturn, 1) := by decide +kernel
theorem tabl_336 : tableOf (mH 336) = [⟨0, 9, 12, 19⟩, ⟨0, 9, 15, 24⟩] := by decide +kernel
theorem d336_12 : decode (mC 336) 12 = .ok (.astore_n 3, 1) := by decide +kernel
theorem amhd_336 {a1 : Int32} : am_hd 336 ⟨0, 9, 12, 19⟩ 4 "java/lang/IllegalStateException" [(0, .ref 0), (1, .int a1), (2, .ref 351)] = some (13, [(0, .ref 0), (1, .int a1), (2, .ref 351)]) := by
  unfold am_hd
  rw [if_pos (by refine ⟨by decide, ?_⟩; first | exact Or.inl ⟨rfl, Or.inr ⟨by decide +kernel, rfl⟩⟩ | exact Or.inr ⟨rfl, by decide +kernel, rfl⟩), d336_12]
  exact if_pos (by decide +kernel)
theorem d336_13 : decode (mC 336) 13 = .ok (.iconst 1, 1) := by decide +kernel
theorem d336_14 : decode (mC 336) 14 = .ok (.ireturn, 1) := by decide +kernel
theorem amhn_336 {a1 : Int32} : am_hd 336 ⟨0, 9, 12, 19⟩ 4 "java/lang/IndexOutOfBoundsException" [(0, .ref 0), (1, .int a1), (2, .ref 351)] = none := by
  unfold am_hd
  exact if_neg (fun h => h.2.elim (fun h => absurd h.1 (by decide)) (fun h => absurd h (fun h => absurd h.1 (by decide))))
theorem d336_15 : decode (mC 336) 15 = .ok (.astore_n 3, 1) := by decide +kernel
theorem amh2_336 {a1 : Int32} : am_hd2 336 ⟨0, 9, 12, 19⟩ ⟨0, 9, 15, 24⟩ 4 "java/lang/IndexOutOfBoundsException" [(0, .ref 0), (1, .int a1), (2, .ref 351)] = some (16, [(0, .ref 0), (1, .int a1), (2, .ref 351)]) := by
  unfold am_hd2
  rw [if_pos (by refine ⟨by decide, by decide +kernel, rfl, ?_⟩; first | exact Or.inl ⟨rfl, rfl⟩ | exact Or.inr ⟨rfl, rfl⟩), d336_15]
  exact if_pos (by decide +kernel)
theorem ci_2 : Int32.ofInt (2) = 2 := by decide
theorem d336_16 : decode (mC 336) 16 = .ok (.iconst 2, 1) := by decide +kernel
theorem d336_17 : decode (mC 336) 17 = .ok (.ireturn, 1) := by decide +kernel
theorem sp_L_lines {σ : SS} {K : Int32 → KK} {a1 : Int32} (h : Ev 998 155 0 [(0, .ref 0), (1, .int a1)] [] σ (fun o σ1 k s => (∃ v, o = .inl (some v) ∧ K 0 (outp σ1 v) k s) ∨ (o = .inr "java/lang/IllegalStateException" ∧ K 1 σ1 k s) ∨ (o = .inr "java/lang/IndexOutOfBoundsException" ∧ K 2 σ1 k s))) : Ev 999 336 0 [(0, .ref 0), (1, .int a1), (2, .ref 351)] [] σ (fun o σ1 k s => ∃ c, o = .inl (some c) ∧ K c σ1 k s) := by
  refine ev_aload_n d336_0 rfl m2 rfl ?_
  refine ev_iconst d336_1 ci_0 rfl ?_
  refine ev_aload_n d336_2 rfl m0 rfl ?_
  refine ev_iload_n d336_3 rfl m1 rfl ?_
  refine ev_call mO_336 d336_4 (cm_v1 ml_13_21 (Or.inl mK_155) mA_155 cz_0_155 (Nat.le_of_ble_eq_true rfl)) (by decide) nu_155 sl_155 (kn_of rfl nd_2) h (fun o σ1 k s hh => ?_)
  rcases hh with ⟨v, rfl, hK⟩ | ⟨rfl, hK⟩ | ⟨rfl, hK⟩
  · refine evc_i ?_
    refine ev_i2l d336_7 rfl ?_
    refine ev_last d336_8 rfl ?_
    refine ev_goto d336_9 (t := 18) (aj rfl) ?_
    refine ev_iconst d336_18 ci_0 rfl ?_
    exact ev_iret mT_336 d336_19 ⟨_, rfl, hK⟩
  · refine evc_h tabl_336 amhd_336 ?_
    refine ev_iconst d336_13 ci_1 rfl ?_
    exact ev_iret mT_336 d336_14 ⟨_, rfl, hK⟩
  · refine evc_h2 tabl_336 amhn_336 amh2_336 ?_
    refine ev_iconst d336_16 ci_2 rfl ?_
    exact ev_iret mT_336 d336_17 ⟨_, rfl, hK⟩
theorem d337_0 : decode (mC 337) 0 = .ok (.aload_n 3, 1) := by decide +kernel
theorem d337_1 : decode (mC 337) 1 = .ok (.iconst 0, 1) := by decide +kernel
theorem d337_2 : decode (mC 337) 2 = .ok (.aload_n 0, 1) := by decide +kernel
theorem d337_3 : decode (mC 337) 3 = .ok (.iload_n 1, 1) := by decide +kernel
theorem d337_4 : decode (mC 337) 4 = .ok (.iload_n 2, 1) := by decide +kernel
theorem d337_5 : decode (mC 337) 5 = .ok (.invokevirtual 26, 3) := by decide +kernel
theorem ml_13_26 : am_ml 13 26 = some 156 := by decide +kernel
theorem mK_156 : mK 156 = 0 := by decide +kernel
theorem cz_0_156 : am_cls 0 = some (mO 156) := by decide +kernel
theorem mA_156 : 2 = mA 156 := by decide +kernel
theorem sl_156 : 3 ≤ mL 156 := by decide +kernel
theorem nu_156 : ¬ 156 ≤ 15 := by decide
theorem mO_337 : mO 337 = 13 := by decide +kernel
theorem d337_8 : decode (mC 337) 8 = .ok (.i2l, 1) := by decide +kernel
theorem d337_9 : decode (mC 337) 9 = .ok (.lastore, 1) := by decide +kernel
theorem d337_10 : decode (mC 337) 10 = .ok (.goto 11, 3) := by decide +kernel
theorem d337_21 : decode (mC 337) 21 = .ok (.iconst 0, 1) := by decide +kernel
theorem mT_337 : mT 337 = (some .int) := by decide +kernel
theorem d337_22 : decode (mC 337) 22 = .ok (.ireturn, 1) := by decide +kernel
theorem tabl_337 : tableOf (mH 337) = [⟨0, 10, 13, 19⟩, ⟨0, 10, 17, 24⟩] := by decide +kernel
theorem d337_13 : decode (mC 337) 13 = .ok (.astore 4, 2) := by decide +kernel
theorem amhd_337 {a1 a2 : Int32} : am_hd 337 ⟨0, 10, 13, 19⟩ 5 "java/lang/IllegalStateException" [(0, .ref 0), (1, .int a1), (2, .int a2), (3, .ref 351)] = some (15, [(0, .ref 0), (1, .int a1), (2, .int a2), (3, .ref 351)]) := by
  unfold am_hd
  rw [if_pos (by refine ⟨by decide, ?_⟩; first | exact Or.inl ⟨rfl, Or.inr ⟨by decide +kernel, rfl⟩⟩ | exact Or.inr ⟨rfl, by decide +kernel, rfl⟩), d337_13]
  exact if_pos (by decide +kernel)
theorem d337_15 : decode (mC 337) 15 = .ok (.iconst 1, 1) := by decide +kernel
theorem d337_16 : decode (mC 337) 16 = .ok (.ireturn, 1) := by decide +kernel
theorem amhn_337 {a1 a2 : Int32} : am_hd 337 ⟨0, 10, 13, 19⟩ 5 "java/lang/IndexOutOfBoundsException" [(0, .ref 0), (1, .int a1), (2, .int a2), (3, .ref 351)] = none := by
  unfold am_hd
  exact if_neg (fun h => h.2.elim (fun h => absurd h.1 (by decide)) (fun h => absurd h (fun h => absurd h.1 (by decide))))
theorem d337_17 : decode (mC 337) 17 = .ok (.astore 4, 2) := by decide +kernel
theorem amh2_337 {a1 a2 : Int32} : am_hd2 337 ⟨0, 10, 13, 19⟩ ⟨0, 10, 17, 24⟩ 5 "java/lang/IndexOutOfBoundsException" [(0, .ref 0), (1, .int a1), (2, .int a2), (3, .ref 351)] = some (19, [(0, .ref 0), (1, .int a1), (2, .int a2), (3, .ref 351)]) := by
  unfold am_hd2
  rw [if_pos (by refine ⟨by decide, by decide +kernel, rfl, ?_⟩; first | exact Or.inl ⟨rfl, rfl⟩ | exact Or.inr ⟨rfl, rfl⟩), d337_17]
  exact if_pos (by decide +kernel)
theorem d337_19 : decode (mC 337) 19 = .ok (.iconst 2, 1) := by decide +kernel
theorem d337_20 : decode (mC 337) 20 = .ok (.ireturn, 1) := by decide +kernel
theorem sp_L_length {σ : SS} {K : Int32 → KK} {a1 a2 : Int32} (h : Ev 998 156 0 [(0, .ref 0), (1, .int a1), (2, .int a2)] [] σ (fun o σ1 k s => (∃ v, o = .inl (some v) ∧ K 0 (outp σ1 v) k s) ∨ (o = .inr "java/lang/IllegalStateException" ∧ K 1 σ1 k s) ∨ (o = .inr "java/lang/IndexOutOfBoundsException" ∧ K 2 σ1 k s))) : Ev 999 337 0 [(0, .ref 0), (1, .int a1), (2, .int a2), (3, .ref 351)] [] σ (fun o σ1 k s => ∃ c, o = .inl (some c) ∧ K c σ1 k s) := by
  refine ev_aload_n d337_0 rfl m3 rfl ?_
  refine ev_iconst d337_1 ci_0 rfl ?_
  refine ev_aload_n d337_2 rfl m0 rfl ?_
  refine ev_iload_n d337_3 rfl m1 rfl ?_
  refine ev_iload_n d337_4 rfl m2 rfl ?_
  refine ev_call mO_337 d337_5 (cm_v2 ml_13_26 (Or.inl mK_156) mA_156 cz_0_156 (Nat.le_of_ble_eq_true rfl)) (by decide) nu_156 sl_156 (kn_of rfl nd_3) h (fun o σ1 k s hh => ?_)
  rcases hh with ⟨v, rfl, hK⟩ | ⟨rfl, hK⟩ | ⟨rfl, hK⟩
  · refine evc_i ?_
    refine ev_i2l d337_8 rfl ?_
    refine ev_last d337_9 rfl ?_
    refine ev_goto d337_10 (t := 21) (aj rfl) ?_
    refine ev_iconst d337_21 ci_0 rfl ?_
    exact ev_iret mT_337 d337_22 ⟨_, rfl, hK⟩
  · refine evc_h tabl_337 amhd_337 ?_
    refine ev_iconst d337_15 ci_1 rfl ?_
    exact ev_iret mT_337 d337_16 ⟨_, rfl, hK⟩
  · refine evc_h2 tabl_337 amhn_337 amh2_337 ?_
    refine ev_iconst d337_19 ci_2 rfl ?_
    exact ev_iret mT_337 d337_20 ⟨_, rfl, hK⟩
theorem d338_0 : decode (mC 338) 0 = .ok (.aload 4, 2) := by decide +kernel
theorem d338_2 : decode (mC 338) 2 = .ok (.iconst 0, 1) := by decide +kernel
theorem d338_3 : decode (mC 338) 3 = .ok (.aload_n 0, 1) := by decide +kernel
theorem d338_4 : decode (mC 338) 4 = .ok (.iload_n 1, 1) := by decide +kernel
theorem d338_5 : decode (mC 338) 5 = .ok (.iload_n 2, 1) := by decide +kernel
theorem d338_6 : decode (mC 338) 6 = .ok (.iload_n 3, 1) := by decide +kernel
theorem d338_7 : decode (mC 338) 7 = .ok (.invokevirtual 30, 3) := by decide +kernel
theorem ml_13_30 : am_ml 13 30 = some 157 := by decide +kernel
theorem mK_157 : mK 157 = 0 := by decide +kernel
theorem cz_0_157 : am_cls 0 = some (mO 157) := by decide +kernel
theorem mA_157 : 3 = mA 157 := by decide +kernel
theorem sl_157 : 4 ≤ mL 157 := by decide +kernel
theorem nu_157 : ¬ 157 ≤ 15 := by decide
theorem mO_338 : mO 338 = 13 := by decide +kernel
theorem d338_10 : decode (mC 338) 10 = .ok (.i2l, 1) := by decide +kernel
theorem d338_11 : decode (mC 338) 11 = .ok (.lastore, 1) := by decide +kernel
theorem d338_12 : decode (mC 338) 12 = .ok (.goto 11, 3) := by decide +kernel
theorem d338_23 : decode (mC 338) 23 = .ok (.iconst 0, 1) := by decide +kernel
theorem mT_338 : mT 338 = (some .int) := by decide +kernel
theorem d338_24 : decode (mC 338) 24 = .ok (.ireturn, 1) := by decide +kernel
theorem tabl_338 : tableOf (mH 338) = [⟨0, 12, 15, 19⟩, ⟨0, 12, 19, 24⟩] := by decide +kernel
theorem d338_15 : decode (mC 338) 15 = .ok (.astore 5, 2) := by decide +kernel
theorem amhd_338 {a1 a2 a3 : Int32} : am_hd 338 ⟨0, 12, 15, 19⟩ 7 "java/lang/IllegalStateException" [(0, .ref 0), (1, .int a1), (2, .int a2), (3, .int a3), (4, .ref 351)] = some (17, [(0, .ref 0), (1, .int a1), (2, .int a2), (3, .int a3), (4, .ref 351)]) := by
  unfold am_hd
  rw [if_pos (by refine ⟨by decide, ?_⟩; first | exact Or.inl ⟨rfl, Or.inr ⟨by decide +kernel, rfl⟩⟩ | exact Or.inr ⟨rfl, by decide +kernel, rfl⟩), d338_15]
  exact if_pos (by decide +kernel)
theorem d338_17 : decode (mC 338) 17 = .ok (.iconst 1, 1) := by decide +kernel
theorem d338_18 : decode (mC 338) 18 = .ok (.ireturn, 1) := by decide +kernel
theorem amhn_338 {a1 a2 a3 : Int32} : am_hd 338 ⟨0, 12, 15, 19⟩ 7 "java/lang/IndexOutOfBoundsException" [(0, .ref 0), (1, .int a1), (2, .int a2), (3, .int a3), (4, .ref 351)] = none := by
  unfold am_hd
  exact if_neg (fun h => h.2.elim (fun h => absurd h.1 (by decide)) (fun h => absurd h (fun h => absurd h.1 (by decide))))
theorem d338_19 : decode (mC 338) 19 = .ok (.astore 5, 2) := by decide +kernel
theorem amh2_338 {a1 a2 a3 : Int32} : am_hd2 338 ⟨0, 12, 15, 19⟩ ⟨0, 12, 19, 24⟩ 7 "java/lang/IndexOutOfBoundsException" [(0, .ref 0), (1, .int a1), (2, .int a2), (3, .int a3), (4, .ref 351)] = some (21, [(0, .ref 0), (1, .int a1), (2, .int a2), (3, .int a3), (4, .ref 351)]) := by
  unfold am_hd2
  rw [if_pos (by refine ⟨by decide, by decide +kernel, rfl, ?_⟩; first | exact Or.inl ⟨rfl, rfl⟩ | exact Or.inr ⟨rfl, rfl⟩), d338_19]
  exact if_pos (by decide +kernel)
theorem d338_21 : decode (mC 338) 21 = .ok (.iconst 2, 1) := by decide +kernel
theorem d338_22 : decode (mC 338) 22 = .ok (.ireturn, 1) := by decide +kernel
theorem sp_L_sign {σ : SS} {K : Int32 → KK} {a1 a2 a3 : Int32} (h : Ev 998 157 0 [(0, .ref 0), (1, .int a1), (2, .int a2), (3, .int a3)] [] σ (fun o σ1 k s => (∃ v, o = .inl (some v) ∧ K 0 (outp σ1 v) k s) ∨ (o = .inr "java/lang/IllegalStateException" ∧ K 1 σ1 k s) ∨ (o = .inr "java/lang/IndexOutOfBoundsException" ∧ K 2 σ1 k s))) : Ev 999 338 0 [(0, .ref 0), (1, .int a1), (2, .int a2), (3, .int a3), (4, .ref 351)] [] σ (fun o σ1 k s => ∃ c, o = .inl (some c) ∧ K c σ1 k s) := by
  refine ev_aload d338_0 rfl m4 rfl ?_
  refine ev_iconst d338_2 ci_0 rfl ?_
  refine ev_aload_n d338_3 rfl m0 rfl ?_
  refine ev_iload_n d338_4 rfl m1 rfl ?_
  refine ev_iload_n d338_5 rfl m2 rfl ?_
  refine ev_iload_n d338_6 rfl m3 rfl ?_
  refine ev_call mO_338 d338_7 (cm_v3 ml_13_30 (Or.inl mK_157) mA_157 cz_0_157 (Nat.le_of_ble_eq_true rfl)) (by decide) nu_157 sl_157 (kn_of rfl nd_4) h (fun o σ1 k s hh => ?_)
  rcases hh with ⟨v, rfl, hK⟩ | ⟨rfl, hK⟩ | ⟨rfl, hK⟩
  · refine evc_i ?_
    refine ev_i2l d338_10 rfl ?_
    refine ev_last d338_11 rfl ?_
    refine ev_goto d338_12 (t := 23) (aj rfl) ?_
    refine ev_iconst d338_23 ci_0 rfl ?_
    exact ev_iret mT_338 d338_24 ⟨_, rfl, hK⟩
  · refine evc_h tabl_338 amhd_338 ?_
    refine ev_iconst d338_17 ci_1 rfl ?_
    exact ev_iret mT_338 d338_18 ⟨_, rfl, hK⟩
  · refine evc_h2 tabl_338 amhn_338 amh2_338 ?_
    refine ev_iconst d338_21 ci_2 rfl ?_
    exact ev_iret mT_338 d338_22 ⟨_, rfl, hK⟩
theorem d339_0 : decode (mC 339) 0 = .ok (.aload 4, 2) := by decide +kernel
theorem d339_2 : decode (mC 339) 2 = .ok (.iconst 0, 1) := by decide +kernel
theorem d339_3 : decode (mC 339) 3 = .ok (.aload_n 0, 1) := by decide +kernel
theorem d339_4 : decode (mC 339) 4 = .ok (.iload_n 1, 1) := by decide +kernel
theorem d339_5 : decode (mC 339) 5 = .ok (.iload_n 2, 1) := by decide +kernel
theorem d339_6 : decode (mC 339) 6 = .ok (.iload_n 3, 1) := by decide +kernel
theorem d339_7 : decode (mC 339) 7 = .ok (.invokevirtual 34, 3) := by decide +kernel
theorem ml_13_34 : am_ml 13 34 = some 158 := by decide +kernel
theorem mK_158 : mK 158 = 0 := by decide +kernel
theorem cz_0_158 : am_cls 0 = some (mO 158) := by decide +kernel
theorem mA_158 : 3 = mA 158 := by decide +kernel
theorem sl_158 : 4 ≤ mL 158 := by decide +kernel
theorem nu_158 : ¬ 158 ≤ 15 := by decide
theorem mO_339 : mO 339 = 13 := by decide +kernel
theorem d339_10 : decode (mC 339) 10 = .ok (.i2l, 1) := by decide +kernel
theorem d339_11 : decode (mC 339) 11 = .ok (.lastore, 1) := by decide +kernel
theorem d339_12 : decode (mC 339) 12 = .ok (.goto 11, 3) := by decide +kernel
theorem d339_23 : decode (mC 339) 23 = .ok (.iconst 0, 1) := by decide +kernel
theorem mT_339 : mT 339 = (some .int) := by decide +kernel
theorem d339_24 : decode (mC 339) 24 = .ok (.ireturn, 1) := by decide +kernel
theorem tabl_339 : tableOf (mH 339) = [⟨0, 12, 15, 19⟩, ⟨0, 12, 19, 24⟩] := by decide +kernel
theorem d339_15 : decode (mC 339) 15 = .ok (.astore 5, 2) := by decide +kernel
theorem amhd_339 {a1 a2 a3 : Int32} : am_hd 339 ⟨0, 12, 15, 19⟩ 7 "java/lang/IllegalStateException" [(0, .ref 0), (1, .int a1), (2, .int a2), (3, .int a3), (4, .ref 351)] = some (17, [(0, .ref 0), (1, .int a1), (2, .int a2), (3, .int a3), (4, .ref 351)]) := by
  unfold am_hd
  rw [if_pos (by refine ⟨by decide, ?_⟩; first | exact Or.inl ⟨rfl, Or.inr ⟨by decide +kernel, rfl⟩⟩ | exact Or.inr ⟨rfl, by decide +kernel, rfl⟩), d339_15]
  exact if_pos (by decide +kernel)
theorem d339_17 : decode (mC 339) 17 = .ok (.iconst 1, 1) := by decide +kernel
theorem d339_18 : decode (mC 339) 18 = .ok (.ireturn, 1) := by decide +kernel
theorem amhn_339 {a1 a2 a3 : Int32} : am_hd 339 ⟨0, 12, 15, 19⟩ 7 "java/lang/IndexOutOfBoundsException" [(0, .ref 0), (1, .int a1), (2, .int a2), (3, .int a3), (4, .ref 351)] = none := by
  unfold am_hd
  exact if_neg (fun h => h.2.elim (fun h => absurd h.1 (by decide)) (fun h => absurd h (fun h => absurd h.1 (by decide))))
theorem d339_19 : decode (mC 339) 19 = .ok (.astore 5, 2) := by decide +kernel
theorem amh2_339 {a1 a2 a3 : Int32} : am_hd2 339 ⟨0, 12, 15, 19⟩ ⟨0, 12, 19, 24⟩ 7 "java/lang/IndexOutOfBoundsException" [(0, .ref 0), (1, .int a1), (2, .int a2), (3, .int a3), (4, .ref 351)] = some (21, [(0, .ref 0), (1, .int a1), (2, .int a2), (3, .int a3), (4, .ref 351)]) := by
  unfold am_hd2
  rw [if_pos (by refine ⟨by decide, by decide +kernel, rfl, ?_⟩; first | exact Or.inl ⟨rfl, rfl⟩ | exact Or.inr ⟨rfl, rfl⟩), d339_19]
  exact if_pos (by decide +kernel)
theorem d339_21 : decode (mC 339) 21 = .ok (.iconst 2, 1) := by decide +kernel
theorem d339_22 : decode (mC 339) 22 = .ok (.ireturn, 1) := by decide +kernel
theorem sp_L_style {σ : SS} {K : Int32 → KK} {a1 a2 a3 : Int32} (h : Ev 998 158 0 [(0, .ref 0), (1, .int a1), (2, .int a2), (3, .int a3)] [] σ (fun o σ1 k s => (∃ v, o = .inl (some v) ∧ K 0 (outp σ1 v) k s) ∨ (o = .inr "java/lang/IllegalStateException" ∧ K 1 σ1 k s) ∨ (o = .inr "java/lang/IndexOutOfBoundsException" ∧ K 2 σ1 k s))) : Ev 999 339 0 [(0, .ref 0), (1, .int a1), (2, .int a2), (3, .int a3), (4, .ref 351)] [] σ (fun o σ1 k s => ∃ c, o = .inl (some c) ∧ K c σ1 k s) := by
  refine ev_aload d339_0 rfl m4 rfl ?_
  refine ev_iconst d339_2 ci_0 rfl ?_
  refine ev_aload_n d339_3 rfl m0 rfl ?_
  refine ev_iload_n d339_4 rfl m1 rfl ?_
  refine ev_iload_n d339_5 rfl m2 rfl ?_
  refine ev_iload_n d339_6 rfl m3 rfl ?_
  refine ev_call mO_339 d339_7 (cm_v3 ml_13_34 (Or.inl mK_158) mA_158 cz_0_158 (Nat.le_of_ble_eq_true rfl)) (by decide) nu_158 sl_158 (kn_of rfl nd_4) h (fun o σ1 k s hh => ?_)
  rcases hh with ⟨v, rfl, hK⟩ | ⟨rfl, hK⟩ | ⟨rfl, hK⟩
  · refine evc_i ?_
    refine ev_i2l d339_10 rfl ?_
    refine ev_last d339_11 rfl ?_
    refine ev_goto d339_12 (t := 23) (aj rfl) ?_
    refine ev_iconst d339_23 ci_0 rfl ?_
    exact ev_iret mT_339 d339_24 ⟨_, rfl, hK⟩
  · refine evc_h tabl_339 amhd_339 ?_
    refine ev_iconst d339_17 ci_1 rfl ?_
    exact ev_iret mT_339 d339_18 ⟨_, rfl, hK⟩
  · refine evc_h2 tabl_339 amhn_339 amh2_339 ?_
    refine ev_iconst d339_21 ci_2 rfl ?_
    exact ev_iret mT_339 d339_22 ⟨_, rfl, hK⟩
theorem d340_0 : decode (mC 340) 0 = .ok (.aload_n 3, 1) := by decide +kernel
theorem d340_1 : decode (mC 340) 1 = .ok (.iconst 0, 1) := by decide +kernel
theorem d340_2 : decode (mC 340) 2 = .ok (.aload_n 0, 1) := by decide +kernel
theorem d340_3 : decode (mC 340) 3 = .ok (.iload_n 1, 1) := by decide +kernel
theorem d340_4 : decode (mC 340) 4 = .ok (.iload_n 2, 1) := by decide +kernel
theorem d340_5 : decode (mC 340) 5 = .ok (.invokevirtual 37, 3) := by decide +kernel
theorem ml_13_37 : am_ml 13 37 = some 159 := by decide +kernel
theorem mK_159 : mK 159 = 0 := by decide +kernel
theorem cz_0_159 : am_cls 0 = some (mO 159) := by decide +kernel
theorem mA_159 : 2 = mA 159 := by decide +kernel
theorem sl_159 : 3 ≤ mL 159 := by decide +kernel
theorem nu_159 : ¬ 159 ≤ 15 := by decide
theorem mO_340 : mO 340 = 13 := by decide +kernel
theorem d340_8 : decode (mC 340) 8 = .ok (.i2l, 1) := by decide +kernel
theorem d340_9 : decode (mC 340) 9 = .ok (.lastore, 1) := by decide +kernel
theorem d340_10 : decode (mC 340) 10 = .ok (.goto 11, 3) := by decide +kernel
theorem d340_21 : decode (mC 340) 21 = .ok (.iconst 0, 1) := by decide +kernel
theorem mT_340 : mT 340 = (some .int) := by decide +kernel
theorem d340_22 : decode (mC 340) 22 = .ok (.ireturn, 1) := by decide +kernel
theorem tabl_340 : tableOf (mH 340) = [⟨0, 10, 13, 19⟩, ⟨0, 10, 17, 24⟩] := by decide +kernel
theorem d340_13 : decode (mC 340) 13 = .ok (.astore 4, 2) := by decide +kernel
theorem amhd_340 {a1 a2 : Int32} : am_hd 340 ⟨0, 10, 13, 19⟩ 5 "java/lang/IllegalStateException" [(0, .ref 0), (1, .int a1), (2, .int a2), (3, .ref 351)] = some (15, [(0, .ref 0), (1, .int a1), (2, .int a2), (3, .ref 351)]) := by
  unfold am_hd
  rw [if_pos (by refine ⟨by decide, ?_⟩; first | exact Or.inl ⟨rfl, Or.inr ⟨by decide +kernel, rfl⟩⟩ | exact Or.inr ⟨rfl, by decide +kernel, rfl⟩), d340_13]
  exact if_pos (by decide +kernel)
theorem d340_15 : decode (mC 340) 15 = .ok (.iconst 1, 1) := by decide +kernel
theorem d340_16 : decode (mC 340) 16 = .ok (.ireturn, 1) := by decide +kernel
theorem amhn_340 {a1 a2 : Int32} : am_hd 340 ⟨0, 10, 13, 19⟩ 5 "java/lang/IndexOutOfBoundsException" [(0, .ref 0), (1, .int a1), (2, .int a2), (3, .ref 351)] = none := by
  unfold am_hd
  exact if_neg (fun h => h.2.elim (fun h => absurd h.1 (by decide)) (fun h => absurd h (fun h => absurd h.1 (by decide))))
theorem d340_17 : decode (mC 340) 17 = .ok (.astore 4, 2) := by decide +kernel
theorem amh2_340 {a1 a2 : Int32} : am_hd2 340 ⟨0, 10, 13, 19⟩ ⟨0, 10, 17, 24⟩ 5 "java/lang/IndexOutOfBoundsException" [(0, .ref 0), (1, .int a1), (2, .int a2), (3, .ref 351)] = some (19, [(0, .ref 0), (1, .int a1), (2, .int a2), (3, .ref 351)]) := by
  unfold am_hd2
  rw [if_pos (by refine ⟨by decide, by decide +kernel, rfl, ?_⟩; first | exact Or.inl ⟨rfl, rfl⟩ | exact Or.inr ⟨rfl, rfl⟩), d340_17]
  exact if_pos (by decide +kernel)
theorem d340_19 : decode (mC 340) 19 = .ok (.iconst 2, 1) := by decide +kernel
theorem d340_20 : decode (mC 340) 20 = .ok (.ireturn, 1) := by decide +kernel
theorem sp_L_origin {σ : SS} {K : Int32 → KK} {a1 a2 : Int32} (h : Ev 998 159 0 [(0, .ref 0), (1, .int a1), (2, .int a2)] [] σ (fun o σ1 k s => (∃ v, o = .inl (some v) ∧ K 0 (outp σ1 v) k s) ∨ (o = .inr "java/lang/IllegalStateException" ∧ K 1 σ1 k s) ∨ (o = .inr "java/lang/IndexOutOfBoundsException" ∧ K 2 σ1 k s))) : Ev 999 340 0 [(0, .ref 0), (1, .int a1), (2, .int a2), (3, .ref 351)] [] σ (fun o σ1 k s => ∃ c, o = .inl (some c) ∧ K c σ1 k s) := by
  refine ev_aload_n d340_0 rfl m3 rfl ?_
  refine ev_iconst d340_1 ci_0 rfl ?_
  refine ev_aload_n d340_2 rfl m0 rfl ?_
  refine ev_iload_n d340_3 rfl m1 rfl ?_
  refine ev_iload_n d340_4 rfl m2 rfl ?_
  refine ev_call mO_340 d340_5 (cm_v2 ml_13_37 (Or.inl mK_159) mA_159 cz_0_159 (Nat.le_of_ble_eq_true rfl)) (by decide) nu_159 sl_159 (kn_of rfl nd_3) h (fun o σ1 k s hh => ?_)
  rcases hh with ⟨v, rfl, hK⟩ | ⟨rfl, hK⟩ | ⟨rfl, hK⟩
  · refine evc_i ?_
    refine ev_i2l d340_8 rfl ?_
    refine ev_last d340_9 rfl ?_
    refine ev_goto d340_10 (t := 21) (aj rfl) ?_
    refine ev_iconst d340_21 ci_0 rfl ?_
    exact ev_iret mT_340 d340_22 ⟨_, rfl, hK⟩
  · refine evc_h tabl_340 amhd_340 ?_
    refine ev_iconst d340_15 ci_1 rfl ?_
    exact ev_iret mT_340 d340_16 ⟨_, rfl, hK⟩
  · refine evc_h2 tabl_340 amhn_340 amh2_340 ?_
    refine ev_iconst d340_19 ci_2 rfl ?_
    exact ev_iret mT_340 d340_20 ⟨_, rfl, hK⟩
theorem d341_0 : decode (mC 341) 0 = .ok (.aload_n 1, 1) := by decide +kernel
theorem d341_1 : decode (mC 341) 1 = .ok (.iconst 0, 1) := by decide +kernel
theorem d341_2 : decode (mC 341) 2 = .ok (.aload_n 0, 1) := by decide +kernel
theorem d341_3 : decode (mC 341) 3 = .ok (.invokevirtual 40, 3) := by decide +kernel
theorem ml_13_40 : am_ml 13 40 = some 164 := by decide +kernel
theorem mK_164 : mK 164 = 0 := by decide +kernel
theorem cz_0_164 : am_cls 0 = some (mO 164) := by decide +kernel
theorem mA_164 : 0 = mA 164 := by decide +kernel
theorem sl_164 : 1 ≤ mL 164 := by decide +kernel
theorem nu_164 : ¬ 164 ≤ 15 := by decide
theorem mO_341 : mO 341 = 13 := by decide +kernel
theorem d341_6 : decode (mC 341) 6 = .ok (.i2l, 1) := by decide +kernel
theorem d341_7 : decode (mC 341) 7 = .ok (.lastore, 1) := by decide +kernel
theorem d341_8 : decode (mC 341) 8 = .ok (.goto 6, 3) := by decide +kernel
theorem d341_14 : decode (mC 341) 14 = .ok (.iconst 0, 1) := by decide +kernel
theorem mT_341 : mT 341 = (some .int) := by decide +kernel
theorem d341_15 : decode (mC 341) 15 = .ok (.ireturn, 1) := by decide +kernel
theorem tabl_341 : tableOf (mH 341) = [⟨0, 8, 11, 19⟩] := by decide +kernel
theorem d341_11 : decode (mC 341) 11 = .ok (.astore_n 2, 1) := by decide +kernel
theorem amhd_341  : am_hd 341 ⟨0, 8, 11, 19⟩ 3 "java/lang/IllegalStateException" [(0, .ref 0), (1, .ref 351)] = some (12, [(0, .ref 0), (1, .ref 351)]) := by
  unfold am_hd
  rw [if_pos (by refine ⟨by decide, ?_⟩; first | exact Or.inl ⟨rfl, Or.inr ⟨by decide +kernel, rfl⟩⟩ | exact Or.inr ⟨rfl, by decide +kernel, rfl⟩), d341_11]
  exact if_pos (by decide +kernel)
theorem d341_12 : decode (mC 341) 12 = .ok (.iconst 1, 1) := by decide +kernel
theorem d341_13 : decode (mC 341) 13 = .ok (.ireturn, 1) := by decide +kernel
theorem sp_L_keep {σ : SS} {K : Int32 → KK} (h : Ev 998 164 0 [(0, .ref 0)] [] σ (fun o σ1 k s => (∃ v, o = .inl (some v) ∧ K 0 (outp σ1 v) k s) ∨ (o = .inr "java/lang/IllegalStateException" ∧ K 1 σ1 k s))) : Ev 999 341 0 [(0, .ref 0), (1, .ref 351)] [] σ (fun o σ1 k s => ∃ c, o = .inl (some c) ∧ K c σ1 k s) := by
  refine ev_aload_n d341_0 rfl m1 rfl ?_
  refine ev_iconst d341_1 ci_0 rfl ?_
  refine ev_aload_n d341_2 rfl m0 rfl ?_
  refine ev_call mO_341 d341_3 (cm_v0 ml_13_40 (Or.inl mK_164) mA_164 cz_0_164 (Nat.le_of_ble_eq_true rfl)) (by decide) nu_164 sl_164 (kn_of rfl nd_1) h (fun o σ1 k s hh => ?_)
  rcases hh with ⟨v, rfl, hK⟩ | ⟨rfl, hK⟩
  · refine evc_i ?_
    refine ev_i2l d341_6 rfl ?_
    refine ev_last d341_7 rfl ?_
    refine ev_goto d341_8 (t := 14) (aj rfl) ?_
    refine ev_iconst d341_14 ci_0 rfl ?_
    exact ev_iret mT_341 d341_15 ⟨_, rfl, hK⟩
  · refine evc_h tabl_341 amhd_341 ?_
    refine ev_iconst d341_12 ci_1 rfl ?_
    exact ev_iret mT_341 d341_13 ⟨_, rfl, hK⟩
theorem d342_0 : decode (mC 342) 0 = .ok (.aload_n 2, 1) := by decide +kernel
theorem d342_1 : decode (mC 342) 1 = .ok (.iconst 0, 1) := by decide +kernel
theorem d342_2 : decode (mC 342) 2 = .ok (.aload_n 0, 1) := by decide +kernel
theorem d342_3 : decode (mC 342) 3 = .ok (.iload_n 1, 1) := by decide +kernel
theorem d342_4 : decode (mC 342) 4 = .ok (.invokevirtual 43, 3) := by decide +kernel
theorem ml_13_43 : am_ml 13 43 = some 165 := by decide +kernel
theorem mK_165 : mK 165 = 0 := by decide +kernel
theorem cz_0_165 : am_cls 0 = some (mO 165) := by decide +kernel
theorem mA_165 : 1 = mA 165 := by decide +kernel
theorem sl_165 : 2 ≤ mL 165 := by decide +kernel
theorem nu_165 : ¬ 165 ≤ 15 := by decide
theorem mO_342 : mO 342 = 13 := by decide +kernel
theorem d342_7 : decode (mC 342) 7 = .ok (.i2l, 1) := by decide +kernel
theorem d342_8 : decode (mC 342) 8 = .ok (.lastore, 1) := by decide +kernel
theorem d342_9 : decode (mC 342) 9 = .ok (.goto 9, 3) := by decide +kernel
theorem d342_18 : decode (mC 342) 18 = .ok (.iconst 0, 1) := by decide +kernel
theorem mT_342 : mT 342 = (some .int) := by decide +kernel
theorem d342_19 : decode (mC 342) 19 = .ok (.ireturn, 1) := by decide +kernel
theorem tabl_342 : tableOf (mH 342) = [⟨0, 9, 12, 19⟩, ⟨0, 9, 15, 13⟩] := by decide +kernel
theorem d342_12 : decode (mC 342) 12 = .ok (.astore_n 3, 1) := by decide +kernel
theorem amhd_342 {a1 : Int32} : am_hd 342 ⟨0, 9, 12, 19⟩ 4 "java/lang/IllegalStateException" [(0, .ref 0), (1, .int a1), (2, .ref 351)] = some (13, [(0, .ref 0), (1, .int a1), (2, .ref 351)]) := by
  unfold am_hd
  rw [if_pos (by refine ⟨by decide, ?_⟩; first | exact Or.inl ⟨rfl, Or.inr ⟨by decide +kernel, rfl⟩⟩ | exact Or.inr ⟨rfl, by decide +kernel, rfl⟩), d342_12]
  exact if_pos (by decide +kernel)
theorem d342_13 : decode (mC 342) 13 = .ok (.iconst 1, 1) := by decide +kernel
theorem d342_14 : decode (mC 342) 14 = .ok (.ireturn, 1) := by decide +kernel
theorem amhn_342 {a1 : Int32} : am_hd 342 ⟨0, 9, 12, 19⟩ 4 "java/lang/IllegalArgumentException" [(0, .ref 0), (1, .int a1), (2, .ref 351)] = none := by
  unfold am_hd
  exact if_neg (fun h => h.2.elim (fun h => absurd h.1 (by decide)) (fun h => absurd h (fun h => absurd h.2.2 (by decide))))
theorem d342_15 : decode (mC 342) 15 = .ok (.astore_n 3, 1) := by decide +kernel
theorem amh2_342 {a1 : Int32} : am_hd2 342 ⟨0, 9, 12, 19⟩ ⟨0, 9, 15, 13⟩ 4 "java/lang/IllegalArgumentException" [(0, .ref 0), (1, .int a1), (2, .ref 351)] = some (16, [(0, .ref 0), (1, .int a1), (2, .ref 351)]) := by
  unfold am_hd2
  rw [if_pos (by refine ⟨by decide, by decide +kernel, rfl, ?_⟩; first | exact Or.inl ⟨rfl, rfl⟩ | exact Or.inr ⟨rfl, rfl⟩), d342_15]
  exact if_pos (by decide +kernel)
theorem d342_16 : decode (mC 342) 16 = .ok (.iconst 2, 1) := by decide +kernel
theorem d342_17 : decode (mC 342) 17 = .ok (.ireturn, 1) := by decide +kernel
theorem sp_L_changed {σ : SS} {K : Int32 → KK} {a1 : Int32} (h : Ev 998 165 0 [(0, .ref 0), (1, .int a1)] [] σ (fun o σ1 k s => (∃ v, o = .inl (some v) ∧ K 0 (outp σ1 v) k s) ∨ (o = .inr "java/lang/IllegalStateException" ∧ K 1 σ1 k s) ∨ (o = .inr "java/lang/IllegalArgumentException" ∧ K 2 σ1 k s))) : Ev 999 342 0 [(0, .ref 0), (1, .int a1), (2, .ref 351)] [] σ (fun o σ1 k s => ∃ c, o = .inl (some c) ∧ K c σ1 k s) := by
  refine ev_aload_n d342_0 rfl m2 rfl ?_
  refine ev_iconst d342_1 ci_0 rfl ?_
  refine ev_aload_n d342_2 rfl m0 rfl ?_
  refine ev_iload_n d342_3 rfl m1 rfl ?_
  refine ev_call mO_342 d342_4 (cm_v1 ml_13_43 (Or.inl mK_165) mA_165 cz_0_165 (Nat.le_of_ble_eq_true rfl)) (by decide) nu_165 sl_165 (kn_of rfl nd_2) h (fun o σ1 k s hh => ?_)
  rcases hh with ⟨v, rfl, hK⟩ | ⟨rfl, hK⟩ | ⟨rfl, hK⟩
  · refine evc_i ?_
    refine ev_i2l d342_7 rfl ?_
    refine ev_last d342_8 rfl ?_
    refine ev_goto d342_9 (t := 18) (aj rfl) ?_
    refine ev_iconst d342_18 ci_0 rfl ?_
    exact ev_iret mT_342 d342_19 ⟨_, rfl, hK⟩
  · refine evc_h tabl_342 amhd_342 ?_
    refine ev_iconst d342_13 ci_1 rfl ?_
    exact ev_iret mT_342 d342_14 ⟨_, rfl, hK⟩
  · refine evc_h2 tabl_342 amhn_342 amh2_342 ?_
    refine ev_iconst d342_16 ci_2 rfl ?_
    exact ev_iret mT_342 d342_17 ⟨_, rfl, hK⟩
theorem d0_140 : decode (mC 0) 140 = .ok (.aload_n 1, 1) := by decide +kernel
theorem d0_141 : decode (mC 0) 141 = .ok (.aload_n 0, 1) := by decide +kernel
theorem d0_142 : decode (mC 0) 142 = .ok (.iload 4, 2) := by decide +kernel
theorem d0_144 : decode (mC 0) 144 = .ok (.iconst 1, 1) := by decide +kernel
theorem d0_145 : decode (mC 0) 145 = .ok (.iadd, 1) := by decide +kernel
theorem mK9_0 : (mK 0 == 9) = true := by decide +kernel
theorem d0_146 : decode (mC 0) 146 = .ok (.iaload, 1) := by decide +kernel
theorem d0_147 : decode (mC 0) 147 = .ok (.i2l, 1) := by decide +kernel
theorem cb_32 : (Int8.ofInt (32)).toInt32 = 32 := by decide
theorem d0_148 : decode (mC 0) 148 = .ok (.bipush 32, 2) := by decide +kernel
theorem d0_150 : decode (mC 0) 150 = .ok (.lshl, 1) := by decide +kernel
theorem d0_151 : decode (mC 0) 151 = .ok (.aload_n 0, 1) := by decide +kernel
theorem d0_152 : decode (mC 0) 152 = .ok (.iload 4, 2) := by decide +kernel
theorem d0_154 : decode (mC 0) 154 = .ok (.iconst 2, 1) := by decide +kernel
theorem d0_155 : decode (mC 0) 155 = .ok (.iadd, 1) := by decide +kernel
theorem d0_156 : decode (mC 0) 156 = .ok (.iaload, 1) := by decide +kernel
theorem d0_157 : decode (mC 0) 157 = .ok (.i2l, 1) := by decide +kernel
theorem mO_0 : mO 0 = 13 := by decide +kernel
theorem d0_158 : decode (mC 0) 158 = .ok (.ldc2_w 50, 3) := by decide +kernel
theorem kl_13_50 : am_kl (clT 13) 50 = some 4294967295 := by decide +kernel
theorem d0_161 : decode (mC 0) 161 = .ok (.land, 1) := by decide +kernel
theorem d0_162 : decode (mC 0) 162 = .ok (.lor, 1) := by decide +kernel
theorem d0_163 : decode (mC 0) 163 = .ok (.aload_n 0, 1) := by decide +kernel
theorem d0_164 : decode (mC 0) 164 = .ok (.iload 4, 2) := by decide +kernel
theorem ci_3 : Int32.ofInt (3) = 3 := by decide
theorem d0_166 : decode (mC 0) 166 = .ok (.iconst 3, 1) := by decide +kernel
theorem d0_167 : decode (mC 0) 167 = .ok (.iadd, 1) := by decide +kernel
theorem d0_168 : decode (mC 0) 168 = .ok (.iaload, 1) := by decide +kernel
theorem d0_169 : decode (mC 0) 169 = .ok (.i2l, 1) := by decide +kernel
theorem d0_170 : decode (mC 0) 170 = .ok (.bipush 32, 2) := by decide +kernel
theorem d0_172 : decode (mC 0) 172 = .ok (.lshl, 1) := by decide +kernel
theorem d0_173 : decode (mC 0) 173 = .ok (.aload_n 0, 1) := by decide +kernel
theorem d0_174 : decode (mC 0) 174 = .ok (.iload 4, 2) := by decide +kernel
theorem ci_4 : Int32.ofInt (4) = 4 := by decide
theorem d0_176 : decode (mC 0) 176 = .ok (.iconst 4, 1) := by decide +kernel
theorem d0_177 : decode (mC 0) 177 = .ok (.iadd, 1) := by decide +kernel
theorem d0_178 : decode (mC 0) 178 = .ok (.iaload, 1) := by decide +kernel
theorem d0_179 : decode (mC 0) 179 = .ok (.i2l, 1) := by decide +kernel
theorem d0_180 : decode (mC 0) 180 = .ok (.ldc2_w 50, 3) := by decide +kernel
theorem d0_183 : decode (mC 0) 183 = .ok (.land, 1) := by decide +kernel
theorem d0_184 : decode (mC 0) 184 = .ok (.lor, 1) := by decide +kernel
theorem d0_185 : decode (mC 0) 185 = .ok (.aload_n 0, 1) := by decide +kernel
theorem d0_186 : decode (mC 0) 186 = .ok (.iload 4, 2) := by decide +kernel
theorem ci_5 : Int32.ofInt (5) = 5 := by decide
theorem d0_188 : decode (mC 0) 188 = .ok (.iconst 5, 1) := by decide +kernel
theorem d0_189 : decode (mC 0) 189 = .ok (.iadd, 1) := by decide +kernel
theorem d0_190 : decode (mC 0) 190 = .ok (.iaload, 1) := by decide +kernel
theorem d0_191 : decode (mC 0) 191 = .ok (.i2l, 1) := by decide +kernel
theorem d0_192 : decode (mC 0) 192 = .ok (.bipush 32, 2) := by decide +kernel
theorem d0_194 : decode (mC 0) 194 = .ok (.lshl, 1) := by decide +kernel
theorem d0_195 : decode (mC 0) 195 = .ok (.aload_n 0, 1) := by decide +kernel
theorem d0_196 : decode (mC 0) 196 = .ok (.iload 4, 2) := by decide +kernel
theorem cb_6 : (Int8.ofInt (6)).toInt32 = 6 := by decide
theorem d0_198 : decode (mC 0) 198 = .ok (.bipush 6, 2) := by decide +kernel
theorem d0_200 : decode (mC 0) 200 = .ok (.iadd, 1) := by decide +kernel
theorem d0_201 : decode (mC 0) 201 = .ok (.iaload, 1) := by decide +kernel
theorem d0_202 : decode (mC 0) 202 = .ok (.i2l, 1) := by decide +kernel
theorem d0_203 : decode (mC 0) 203 = .ok (.ldc2_w 50, 3) := by decide +kernel
theorem d0_206 : decode (mC 0) 206 = .ok (.land, 1) := by decide +kernel
theorem d0_207 : decode (mC 0) 207 = .ok (.lor, 1) := by decide +kernel
theorem d0_208 : decode (mC 0) 208 = .ok (.invokevirtual 52, 3) := by decide +kernel
theorem ml_13_52 : am_ml 13 52 = some 146 := by decide +kernel
theorem mK_146 : mK 146 = 0 := by decide +kernel
theorem cz_0_146 : am_cls 0 = some (mO 146) := by decide +kernel
theorem mA_146 : 3 = mA 146 := by decide +kernel
theorem sl_146 : 7 ≤ mL 146 := by decide +kernel
theorem nu_146 : ¬ 146 ≤ 15 := by decide
theorem d0_211 : decode (mC 0) 211 = .ok (.aload_n 2, 1) := by decide +kernel
theorem d0_212 : decode (mC 0) 212 = .ok (.aload_n 0, 1) := by decide +kernel
theorem d0_213 : decode (mC 0) 213 = .ok (.iload 4, 2) := by decide +kernel
theorem d0_215 : decode (mC 0) 215 = .ok (.iconst 1, 1) := by decide +kernel
theorem d0_216 : decode (mC 0) 216 = .ok (.iadd, 1) := by decide +kernel
theorem d0_217 : decode (mC 0) 217 = .ok (.iaload, 1) := by decide +kernel
theorem d0_218 : decode (mC 0) 218 = .ok (.i2l, 1) := by decide +kernel
theorem d0_219 : decode (mC 0) 219 = .ok (.bipush 32, 2) := by decide +kernel
theorem d0_221 : decode (mC 0) 221 = .ok (.lshl, 1) := by decide +kernel
theorem d0_222 : decode (mC 0) 222 = .ok (.aload_n 0, 1) := by decide +kernel
theorem d0_223 : decode (mC 0) 223 = .ok (.iload 4, 2) := by decide +kernel
theorem d0_225 : decode (mC 0) 225 = .ok (.iconst 2, 1) := by decide +kernel
theorem d0_226 : decode (mC 0) 226 = .ok (.iadd, 1) := by decide +kernel
theorem d0_227 : decode (mC 0) 227 = .ok (.iaload, 1) := by decide +kernel
theorem d0_228 : decode (mC 0) 228 = .ok (.i2l, 1) := by decide +kernel
theorem d0_229 : decode (mC 0) 229 = .ok (.ldc2_w 50, 3) := by decide +kernel
theorem d0_232 : decode (mC 0) 232 = .ok (.land, 1) := by decide +kernel
theorem d0_233 : decode (mC 0) 233 = .ok (.lor, 1) := by decide +kernel
theorem d0_234 : decode (mC 0) 234 = .ok (.aload_n 0, 1) := by decide +kernel
theorem d0_235 : decode (mC 0) 235 = .ok (.iload 4, 2) := by decide +kernel
theorem d0_237 : decode (mC 0) 237 = .ok (.iconst 3, 1) := by decide +kernel
theorem d0_238 : decode (mC 0) 238 = .ok (.iadd, 1) := by decide +kernel
theorem d0_239 : decode (mC 0) 239 = .ok (.iaload, 1) := by decide +kernel
theorem d0_240 : decode (mC 0) 240 = .ok (.i2l, 1) := by decide +kernel
theorem d0_241 : decode (mC 0) 241 = .ok (.bipush 32, 2) := by decide +kernel
theorem d0_243 : decode (mC 0) 243 = .ok (.lshl, 1) := by decide +kernel
theorem d0_244 : decode (mC 0) 244 = .ok (.aload_n 0, 1) := by decide +kernel
theorem d0_245 : decode (mC 0) 245 = .ok (.iload 4, 2) := by decide +kernel
theorem d0_247 : decode (mC 0) 247 = .ok (.iconst 4, 1) := by decide +kernel
theorem d0_248 : decode (mC 0) 248 = .ok (.iadd, 1) := by decide +kernel
theorem d0_249 : decode (mC 0) 249 = .ok (.iaload, 1) := by decide +kernel
theorem d0_250 : decode (mC 0) 250 = .ok (.i2l, 1) := by decide +kernel
theorem d0_251 : decode (mC 0) 251 = .ok (.ldc2_w 50, 3) := by decide +kernel
theorem d0_254 : decode (mC 0) 254 = .ok (.land, 1) := by decide +kernel
theorem d0_255 : decode (mC 0) 255 = .ok (.lor, 1) := by decide +kernel
theorem d0_256 : decode (mC 0) 256 = .ok (.aload_n 0, 1) := by decide +kernel
theorem d0_257 : decode (mC 0) 257 = .ok (.iload 4, 2) := by decide +kernel
theorem d0_259 : decode (mC 0) 259 = .ok (.iconst 5, 1) := by decide +kernel
theorem d0_260 : decode (mC 0) 260 = .ok (.iadd, 1) := by decide +kernel
theorem d0_261 : decode (mC 0) 261 = .ok (.iaload, 1) := by decide +kernel
theorem d0_262 : decode (mC 0) 262 = .ok (.i2l, 1) := by decide +kernel
theorem d0_263 : decode (mC 0) 263 = .ok (.bipush 32, 2) := by decide +kernel
theorem d0_265 : decode (mC 0) 265 = .ok (.lshl, 1) := by decide +kernel
theorem d0_266 : decode (mC 0) 266 = .ok (.aload_n 0, 1) := by decide +kernel
theorem d0_267 : decode (mC 0) 267 = .ok (.iload 4, 2) := by decide +kernel
theorem d0_269 : decode (mC 0) 269 = .ok (.bipush 6, 2) := by decide +kernel
theorem d0_271 : decode (mC 0) 271 = .ok (.iadd, 1) := by decide +kernel
theorem d0_272 : decode (mC 0) 272 = .ok (.iaload, 1) := by decide +kernel
theorem d0_273 : decode (mC 0) 273 = .ok (.i2l, 1) := by decide +kernel
theorem d0_274 : decode (mC 0) 274 = .ok (.ldc2_w 50, 3) := by decide +kernel
theorem d0_277 : decode (mC 0) 277 = .ok (.land, 1) := by decide +kernel
theorem d0_278 : decode (mC 0) 278 = .ok (.lor, 1) := by decide +kernel
theorem d0_279 : decode (mC 0) 279 = .ok (.invokevirtual 56, 3) := by decide +kernel
theorem ml_13_56 : am_ml 13 56 = some 303 := by decide +kernel
theorem mK_303 : mK 303 = 0 := by decide +kernel
theorem cz_246_303 : am_cls 246 = some (mO 303) := by decide +kernel
theorem mA_303 : 3 = mA 303 := by decide +kernel
theorem sl_303 : 7 ≤ mL 303 := by decide +kernel
theorem nu_303 : ¬ 303 ≤ 15 := by decide
theorem d0_282 : decode (mC 0) 282 = .ok (.if_icmp .eq 748, 3) := by decide +kernel
set_option maxRecDepth 4000 in
theorem lc_0 {i : Int32} {w : Nat → Int32} {σ : SS} {K : KK} {Q : EQ} (hw : Wn σ i w) (h : Pair 146 303 [.long (lgw (w 1) (w 2)), .long (lgw (w 3) (w 4)), .long (lgw (w 5) (w 6))] σ K) (kk : ∀ σ2 k s, K σ2 k s → Ev 1000 0 1030 (lw i) [] σ2 (fun o s9 k9 n9 => Q o s9 (k + k9) (s + n9))) : Ev 1000 0 140 (lw i) [] σ Q := by
  refine ev_aload_n d0_140 rfl m3 rfl ?_
  refine ev_aload_n d0_141 rfl m4 rfl ?_
  refine ev_iload d0_142 rfl m0 rfl ?_
  refine ev_iconst d0_144 ci_1 rfl ?_
  refine ev_iadd d0_145 rfl ?_
  refine ev_scrv (v := w 1) mK9_0 d0_146 hw.2.1.1 hw.2.1.2 rfl ?_
  refine ev_i2l d0_147 rfl ?_
  refine ev_bipush d0_148 cb_32 rfl ?_
  refine ev_lshl d0_150 rfl ?_
  refine ev_aload_n d0_151 rfl m4 rfl ?_
  refine ev_iload d0_152 rfl m0 rfl ?_
  refine ev_iconst d0_154 ci_2 rfl ?_
  refine ev_iadd d0_155 rfl ?_
  refine ev_scrv (v := w 2) mK9_0 d0_156 hw.2.2.1.1 hw.2.2.1.2 rfl ?_
  refine ev_i2l d0_157 rfl ?_
  refine ev_ldc2 mO_0 d0_158 kl_13_50 rfl ?_
  refine ev_land d0_161 rfl ?_
  refine ev_lor d0_162 rfl ?_
  refine ev_aload_n d0_163 rfl m4 rfl ?_
  refine ev_iload d0_164 rfl m0 rfl ?_
  refine ev_iconst d0_166 ci_3 rfl ?_
  refine ev_iadd d0_167 rfl ?_
  refine ev_scrv (v := w 3) mK9_0 d0_168 hw.2.2.2.1.1 hw.2.2.2.1.2 rfl ?_
  refine ev_i2l d0_169 rfl ?_
  refine ev_bipush d0_170 cb_32 rfl ?_
  refine ev_lshl d0_172 rfl ?_
  refine ev_aload_n d0_173 rfl m4 rfl ?_
  refine ev_iload d0_174 rfl m0 rfl ?_
  refine ev_iconst d0_176 ci_4 rfl ?_
  refine ev_iadd d0_177 rfl ?_
  refine ev_scrv (v := w 4) mK9_0 d0_178 hw.2.2.2.2.1.1 hw.2.2.2.2.1.2 rfl ?_
  refine ev_i2l d0_179 rfl ?_
  refine ev_ldc2 mO_0 d0_180 kl_13_50 rfl ?_
  refine ev_land d0_183 rfl ?_
  refine ev_lor d0_184 rfl ?_
  refine ev_aload_n d0_185 rfl m4 rfl ?_
  refine ev_iload d0_186 rfl m0 rfl ?_
  refine ev_iconst d0_188 ci_5 rfl ?_
  refine ev_iadd d0_189 rfl ?_
  refine ev_scrv (v := w 5) mK9_0 d0_190 hw.2.2.2.2.2.1.1 hw.2.2.2.2.2.1.2 rfl ?_
  refine ev_i2l d0_191 rfl ?_
  refine ev_bipush d0_192 cb_32 rfl ?_
  refine ev_lshl d0_194 rfl ?_
  refine ev_aload_n d0_195 rfl m4 rfl ?_
  refine ev_iload d0_196 rfl m0 rfl ?_
  refine ev_bipush d0_198 cb_6 rfl ?_
  refine ev_iadd d0_200 rfl ?_
  refine ev_scrv (v := w 6) mK9_0 d0_201 hw.2.2.2.2.2.2.1 hw.2.2.2.2.2.2.2 rfl ?_
  refine ev_i2l d0_202 rfl ?_
  refine ev_ldc2 mO_0 d0_203 kl_13_50 rfl ?_
  refine ev_land d0_206 rfl ?_
  refine ev_lor d0_207 rfl ?_
  refine ev_call mO_0 d0_208 (cm_v3 ml_13_52 (Or.inl mK_146) mA_146 cz_0_146 (Nat.le_of_ble_eq_true rfl)) (by decide) nu_146 sl_146 (kn_of rfl (by decide : ([0, 1, 3, 5] : List Nat).Nodup)) h (fun o σ1 k s hh => ?_)
  obtain ⟨v, rfl, hN, hS, h2⟩ := hh
  refine evc_i ?_
  refine ev_aload_n d0_211 rfl m2 rfl ?_
  refine ev_aload_n d0_212 rfl m4 rfl ?_
  refine ev_iload d0_213 rfl m0 rfl ?_
  refine ev_iconst d0_215 ci_1 rfl ?_
  refine ev_iadd d0_216 rfl ?_
  refine ev_scrv (v := w 1) mK9_0 d0_217 (by rw [hN]; exact hw.2.1.1) (by rw [hS]; exact hw.2.1.2) rfl ?_
  refine ev_i2l d0_218 rfl ?_
  refine ev_bipush d0_219 cb_32 rfl ?_
  refine ev_lshl d0_221 rfl ?_
  refine ev_aload_n d0_222 rfl m4 rfl ?_
  refine ev_iload d0_223 rfl m0 rfl ?_
  refine ev_iconst d0_225 ci_2 rfl ?_
  refine ev_iadd d0_226 rfl ?_
  refine ev_scrv (v := w 2) mK9_0 d0_227 (by rw [hN]; exact hw.2.2.1.1) (by rw [hS]; exact hw.2.2.1.2) rfl ?_
  refine ev_i2l d0_228 rfl ?_
  refine ev_ldc2 mO_0 d0_229 kl_13_50 rfl ?_
  refine ev_land d0_232 rfl ?_
  refine ev_lor d0_233 rfl ?_
  refine ev_aload_n d0_234 rfl m4 rfl ?_
  refine ev_iload d0_235 rfl m0 rfl ?_
  refine ev_iconst d0_237 ci_3 rfl ?_
  refine ev_iadd d0_238 rfl ?_
  refine ev_scrv (v := w 3) mK9_0 d0_239 (by rw [hN]; exact hw.2.2.2.1.1) (by rw [hS]; exact hw.2.2.2.1.2) rfl ?_
  refine ev_i2l d0_240 rfl ?_
  refine ev_bipush d0_241 cb_32 rfl ?_
  refine ev_lshl d0_243 rfl ?_
  refine ev_aload_n d0_244 rfl m4 rfl ?_
  refine ev_iload d0_245 rfl m0 rfl ?_
  refine ev_iconst d0_247 ci_4 rfl ?_
  refine ev_iadd d0_248 rfl ?_
  refine ev_scrv (v := w 4) mK9_0 d0_249 (by rw [hN]; exact hw.2.2.2.2.1.1) (by rw [hS]; exact hw.2.2.2.2.1.2) rfl ?_
  refine ev_i2l d0_250 rfl ?_
  refine ev_ldc2 mO_0 d0_251 kl_13_50 rfl ?_
  refine ev_land d0_254 rfl ?_
  refine ev_lor d0_255 rfl ?_
  refine ev_aload_n d0_256 rfl m4 rfl ?_
  refine ev_iload d0_257 rfl m0 rfl ?_
  refine ev_iconst d0_259 ci_5 rfl ?_
  refine ev_iadd d0_260 rfl ?_
  refine ev_scrv (v := w 5) mK9_0 d0_261 (by rw [hN]; exact hw.2.2.2.2.2.1.1) (by rw [hS]; exact hw.2.2.2.2.2.1.2) rfl ?_
  refine ev_i2l d0_262 rfl ?_
  refine ev_bipush d0_263 cb_32 rfl ?_
  refine ev_lshl d0_265 rfl ?_
  refine ev_aload_n d0_266 rfl m4 rfl ?_
  refine ev_iload d0_267 rfl m0 rfl ?_
  refine ev_bipush d0_269 cb_6 rfl ?_
  refine ev_iadd d0_271 rfl ?_
  refine ev_scrv (v := w 6) mK9_0 d0_272 (by rw [hN]; exact hw.2.2.2.2.2.2.1) (by rw [hS]; exact hw.2.2.2.2.2.2.2) rfl ?_
  refine ev_i2l d0_273 rfl ?_
  refine ev_ldc2 mO_0 d0_274 kl_13_50 rfl ?_
  refine ev_land d0_277 rfl ?_
  refine ev_lor d0_278 rfl ?_
  refine ev_call mO_0 d0_279 (cm_v3 ml_13_56 (Or.inl mK_303) mA_303 cz_246_303 (Nat.le_of_ble_eq_true rfl)) (by decide) nu_303 sl_303 (kn_of rfl (by decide : ([0, 1, 3, 5] : List Nat).Nodup)) h2 (fun o2 σ2 k2 s2 hh2 => ?_)
  obtain ⟨rfl, hK⟩ := hh2
  refine evc_i ?_
  refine ev_ic_eq d0_282 (t := 1030) (aj rfl) rfl (fun _ => ?_) (fun z => absurd rfl z)
  refine Ev.mono (kk σ2 _ _ hK) (fun o s9 k9 n9 hq => ?_)
  simp only [Nat.add_assoc, Nat.zero_add] at hq ⊢; exact hq
theorem d0_287 : decode (mC 0) 287 = .ok (.aload_n 1, 1) := by decide +kernel
theorem d0_288 : decode (mC 0) 288 = .ok (.invokevirtual 57, 3) := by decide +kernel
theorem ml_13_57 : am_ml 13 57 = some 147 := by decide +kernel
theorem mK_147 : mK 147 = 0 := by decide +kernel
theorem cz_0_147 : am_cls 0 = some (mO 147) := by decide +kernel
theorem mA_147 : 0 = mA 147 := by decide +kernel
theorem sl_147 : 1 ≤ mL 147 := by decide +kernel
theorem nu_147 : ¬ 147 ≤ 15 := by decide
theorem d0_291 : decode (mC 0) 291 = .ok (.aload_n 2, 1) := by decide +kernel
theorem d0_292 : decode (mC 0) 292 = .ok (.invokevirtual 60, 3) := by decide +kernel
theorem ml_13_60 : am_ml 13 60 = some 306 := by decide +kernel
theorem mK_306 : mK 306 = 0 := by decide +kernel
theorem cz_246_306 : am_cls 246 = some (mO 306) := by decide +kernel
theorem mA_306 : 0 = mA 306 := by decide +kernel
theorem sl_306 : 1 ≤ mL 306 := by decide +kernel
theorem nu_306 : ¬ 306 ≤ 15 := by decide
theorem d0_295 : decode (mC 0) 295 = .ok (.if_icmp .eq 735, 3) := by decide +kernel
set_option maxRecDepth 4000 in
theorem lc_1 {i : Int32} {w : Nat → Int32} {σ : SS} {K : KK} {Q : EQ} (hw : Wn σ i w) (h : Pair 147 306 [] σ K) (kk : ∀ σ2 k s, K σ2 k s → Ev 1000 0 1030 (lw i) [] σ2 (fun o s9 k9 n9 => Q o s9 (k + k9) (s + n9))) : Ev 1000 0 287 (lw i) [] σ Q := by
  refine ev_aload_n d0_287 rfl m3 rfl ?_
  refine ev_call mO_0 d0_288 (cm_v0 ml_13_57 (Or.inl mK_147) mA_147 cz_0_147 (Nat.le_of_ble_eq_true rfl)) (by decide) nu_147 sl_147 (kn_of rfl nd_1) h (fun o σ1 k s hh => ?_)
  obtain ⟨v, rfl, hN, hS, h2⟩ := hh
  refine evc_i ?_
  refine ev_aload_n d0_291 rfl m2 rfl ?_
  refine ev_call mO_0 d0_292 (cm_v0 ml_13_60 (Or.inl mK_306) mA_306 cz_246_306 (Nat.le_of_ble_eq_true rfl)) (by decide) nu_306 sl_306 (kn_of rfl nd_1) h2 (fun o2 σ2 k2 s2 hh2 => ?_)
  obtain ⟨rfl, hK⟩ := hh2
  refine evc_i ?_
  refine ev_ic_eq d0_295 (t := 1030) (aj rfl) rfl (fun _ => ?_) (fun z => absurd rfl z)
  refine Ev.mono (kk σ2 _ _ hK) (fun o s9 k9 n9 hq => ?_)
  simp only [Nat.add_assoc, Nat.zero_add] at hq ⊢; exact hq
theorem d0_300 : decode (mC 0) 300 = .ok (.aload_n 1, 1) := by decide +kernel
theorem d0_301 : decode (mC 0) 301 = .ok (.invokevirtual 61, 3) := by decide +kernel
theorem ml_13_61 : am_ml 13 61 = some 148 := by decide +kernel
theorem mK_148 : mK 148 = 0 := by decide +kernel
theorem cz_0_148 : am_cls 0 = some (mO 148) := by decide +kernel
theorem mA_148 : 0 = mA 148 := by decide +kernel
theorem sl_148 : 1 ≤ mL 148 := by decide +kernel
theorem nu_148 : ¬ 148 ≤ 15 := by decide
theorem d0_304 : decode (mC 0) 304 = .ok (.aload_n 2, 1) := by decide +kernel
theorem d0_305 : decode (mC 0) 305 = .ok (.invokevirtual 64, 3) := by decide +kernel
theorem ml_13_64 : am_ml 13 64 = some 308 := by decide +kernel
theorem mK_308 : mK 308 = 0 := by decide +kernel
theorem cz_246_308 : am_cls 246 = some (mO 308) := by decide +kernel
theorem mA_308 : 0 = mA 308 := by decide +kernel
theorem sl_308 : 1 ≤ mL 308 := by decide +kernel
theorem nu_308 : ¬ 308 ≤ 15 := by decide
theorem d0_308 : decode (mC 0) 308 = .ok (.if_icmp .eq 722, 3) := by decide +kernel
set_option maxRecDepth 4000 in
theorem lc_2 {i : Int32} {w : Nat → Int32} {σ : SS} {K : KK} {Q : EQ} (hw : Wn σ i w) (h : Pair 148 308 [] σ K) (kk : ∀ σ2 k s, K σ2 k s → Ev 1000 0 1030 (lw i) [] σ2 (fun o s9 k9 n9 => Q o s9 (k + k9) (s + n9))) : Ev 1000 0 300 (lw i) [] σ Q := by
  refine ev_aload_n d0_300 rfl m3 rfl ?_
  refine ev_call mO_0 d0_301 (cm_v0 ml_13_61 (Or.inl mK_148) mA_148 cz_0_148 (Nat.le_of_ble_eq_true rfl)) (by decide) nu_148 sl_148 (kn_of rfl nd_1) h (fun o σ1 k s hh => ?_)
  obtain ⟨v, rfl, hN, hS, h2⟩ := hh
  refine evc_i ?_
  refine ev_aload_n d0_304 rfl m2 rfl ?_
  refine ev_call mO_0 d0_305 (cm_v0 ml_13_64 (Or.inl mK_308) mA_308 cz_246_308 (Nat.le_of_ble_eq_true rfl)) (by decide) nu_308 sl_308 (kn_of rfl nd_1) h2 (fun o2 σ2 k2 s2 hh2 => ?_)
  obtain ⟨rfl, hK⟩ := hh2
  refine evc_i ?_
  refine ev_ic_eq d0_308 (t := 1030) (aj rfl) rfl (fun _ => ?_) (fun z => absurd rfl z)
  refine Ev.mono (kk σ2 _ _ hK) (fun o s9 k9 n9 hq => ?_)
  simp only [Nat.add_assoc, Nat.zero_add] at hq ⊢; exact hq
theorem d0_313 : decode (mC 0) 313 = .ok (.aload_n 1, 1) := by decide +kernel
theorem d0_314 : decode (mC 0) 314 = .ok (.aload_n 0, 1) := by decide +kernel
theorem d0_315 : decode (mC 0) 315 = .ok (.iload 4, 2) := by decide +kernel
theorem d0_317 : decode (mC 0) 317 = .ok (.iconst 1, 1) := by decide +kernel
theorem d0_318 : decode (mC 0) 318 = .ok (.iadd, 1) := by decide +kernel
theorem d0_319 : decode (mC 0) 319 = .ok (.iaload, 1) := by decide +kernel
theorem d0_320 : decode (mC 0) 320 = .ok (.aload_n 3, 1) := by decide +kernel
theorem d0_321 : decode (mC 0) 321 = .ok (.invokestatic 65, 3) := by decide +kernel
theorem ml_13_65 : am_ml 13 65 = some 334 := by decide +kernel
theorem mK_334 : mK 334 = 3 := by decide +kernel
theorem mm_13_65 : (mmT 13).find? (fun q => q.1 == 65) = none := by decide +kernel
theorem mA_334 : 3 = mA 334 := by decide +kernel
theorem sl_334 : 3 ≤ mL 334 := by decide +kernel
theorem nu_334 : ¬ 334 ≤ 15 := by decide
theorem mL_0 : mL 0 = 7 := by decide +kernel
theorem d0_324 : decode (mC 0) 324 = .ok (.istore 5, 2) := by decide +kernel
theorem d0_326 : decode (mC 0) 326 = .ok (.aload_n 2, 1) := by decide +kernel
theorem d0_327 : decode (mC 0) 327 = .ok (.aload_n 0, 1) := by decide +kernel
theorem d0_328 : decode (mC 0) 328 = .ok (.iload 4, 2) := by decide +kernel
theorem d0_330 : decode (mC 0) 330 = .ok (.iconst 1, 1) := by decide +kernel
theorem d0_331 : decode (mC 0) 331 = .ok (.iadd, 1) := by decide +kernel
theorem d0_332 : decode (mC 0) 332 = .ok (.iaload, 1) := by decide +kernel
theorem d0_333 : decode (mC 0) 333 = .ok (.invokevirtual 70, 3) := by decide +kernel
theorem ml_13_70 : am_ml 13 70 = some 311 := by decide +kernel
theorem mK_311 : mK 311 = 0 := by decide +kernel
theorem cz_246_311 : am_cls 246 = some (mO 311) := by decide +kernel
theorem mA_311 : 1 = mA 311 := by decide +kernel
theorem sl_311 : 2 ≤ mL 311 := by decide +kernel
theorem nu_311 : ¬ 311 ≤ 15 := by decide
theorem d0_336 : decode (mC 0) 336 = .ok (.istore 6, 2) := by decide +kernel
theorem d0_338 : decode (mC 0) 338 = .ok (.aload_n 2, 1) := by decide +kernel
theorem d0_339 : decode (mC 0) 339 = .ok (.invokevirtual 71, 3) := by decide +kernel
theorem ml_13_71 : am_ml 13 71 = some 185 := by decide +kernel
theorem mK_185 : mK 185 = 0 := by decide +kernel
theorem cz_246_185 : am_cls 246 = some (mO 185) := by decide +kernel
theorem mA_185 : 0 = mA 185 := by decide +kernel
theorem sl_185 : 1 ≤ mL 185 := by decide +kernel
theorem nu_185 : ¬ 185 ≤ 15 := by decide
theorem d0_342 : decode (mC 0) 342 = .ok (.iload 5, 2) := by decide +kernel
theorem d0_344 : decode (mC 0) 344 = .ok (.if_icmp .eq 5, 3) := by decide +kernel
theorem d0_349 : decode (mC 0) 349 = .ok (.iload 5, 2) := by decide +kernel
theorem d0_351 : decode (mC 0) 351 = .ok (.ifCond .ne 15, 3) := by decide +kernel
theorem d0_354 : decode (mC 0) 354 = .ok (.aload_n 3, 1) := by decide +kernel
theorem d0_355 : decode (mC 0) 355 = .ok (.iconst 0, 1) := by decide +kernel
theorem d0_356 : decode (mC 0) 356 = .ok (.laload, 1) := by decide +kernel
theorem d0_357 : decode (mC 0) 357 = .ok (.iload 6, 2) := by decide +kernel
theorem d0_359 : decode (mC 0) 359 = .ok (.i2l, 1) := by decide +kernel
theorem d0_360 : decode (mC 0) 360 = .ok (.lcmp, 1) := by decide +kernel
theorem d0_361 : decode (mC 0) 361 = .ok (.ifCond .eq 5, 3) := by decide +kernel
theorem d0_366 : decode (mC 0) 366 = .ok (.goto 664, 3) := by decide +kernel
set_option maxRecDepth 4000 in
theorem lc_3 {i : Int32} {w : Nat → Int32} {σ : SS} {K : KK} {Q : EQ} (hw : Wn σ i w) (h : PairT 149 311 "java/lang/IllegalArgumentException" [.int (w 1)] σ K) (kk : ∀ σ2 k s, K σ2 k s → Ev 1000 0 1030 (lw i) [] σ2 (fun o s9 k9 n9 => Q o s9 (k + k9) (s + n9))) : Ev 1000 0 313 (lw i) [] σ Q := by
  refine ev_aload_n d0_313 rfl m3 rfl ?_
  refine ev_aload_n d0_314 rfl m4 rfl ?_
  refine ev_iload d0_315 rfl m0 rfl ?_
  refine ev_iconst d0_317 ci_1 rfl ?_
  refine ev_iadd d0_318 rfl ?_
  refine ev_scrv (v := w 1) mK9_0 d0_319 hw.2.1.1 hw.2.1.2 rfl ?_
  refine ev_aload_n d0_320 rfl m1 rfl ?_
  refine ev_call mO_0 d0_321 (cm_s3 mm_13_65 ml_13_65 (Or.inr mK_334) mA_334 (Nat.le_of_ble_eq_true rfl)) (by decide) nu_334 sl_334 (kn_of rfl nd_3) (sp_L_replace (K := fun c σ1 k s => sN σ1 = sN σ ∧ sS σ1 = sS σ ∧ ((c = 0 ∧ ∃ v, Ev 999 311 0 (lv_args 0 (.ref 246 :: [.int (w 1)])) [] σ1 (fun o2 σ2 k2 s2 => o2 = .inl (some v) ∧ sI σ2 246 0 = 0 ∧ sO σ2 0 = v.toInt64 ∧ K σ2 (k + k2) (s + s2))) ∨ (c = 1 ∧ Ev 999 311 0 (lv_args 0 (.ref 246 :: [.int (w 1)])) [] σ1 (fun o2 σ2 k2 s2 => (∃ b, o2 = .inl (some b)) ∧ sI σ2 246 0 = 1 ∧ K σ2 (k + k2) (s + s2))))) (h.mono (fun o σ1 k s hh => ?_))) (fun o σ1 k s hh => ?_)
  · obtain ⟨hN, hS, hh⟩ := hh
    rcases hh with ⟨v, rfl, hh⟩ | ⟨rfl, hh⟩
    · exact Or.inl ⟨v, rfl, hN, hS, Or.inl ⟨rfl, v, hh⟩⟩
    · exact Or.inr ⟨rfl, hN, hS, Or.inr ⟨rfl, hh⟩⟩
  obtain ⟨c, rfl, hN, hS, hh⟩ := hh
  refine evc_i ?_
  rcases hh with ⟨rfl, v, h2⟩ | ⟨rfl, h2⟩
  · refine ev_istore mL_0 d0_324 rfl (by decide) (lo2 := [(5, .int 0), (4, .int i), (3, .ref 351), (2, .ref 246), (1, .ref 0), (0, .ref 352)]) rfl rfl ?_
    refine ev_aload_n d0_326 rfl m3 rfl ?_
    refine ev_aload_n d0_327 rfl m5 rfl ?_
    refine ev_iload d0_328 rfl m1 rfl ?_
    refine ev_iconst d0_330 ci_1 rfl ?_
    refine ev_iadd d0_331 rfl ?_
    refine ev_scrv (v := w 1) mK9_0 d0_332 (by rw [hN]; exact hw.2.1.1) (by rw [hS]; exact hw.2.1.2) rfl ?_
    refine ev_call mO_0 d0_333 (cm_v1 ml_13_70 (Or.inl mK_311) mA_311 cz_246_311 (Nat.le_of_ble_eq_true rfl)) (by decide) nu_311 sl_311 (kn_of rfl nd_2) h2 (fun o2 σ2 k2 s2 hh2 => ?_)
    obtain ⟨rfl, ht, hO, hK⟩ := hh2
    refine evc_i ?_
    refine ev_istore mL_0 d0_336 rfl (by decide) (lo2 := [(6, .int v), (5, .int 0), (4, .int i), (3, .ref 351), (2, .ref 246), (1, .ref 0), (0, .ref 352)]) rfl rfl ?_
    refine ev_aload_n d0_338 rfl m4 rfl ?_
    refine ev_ci mO_0 d0_339 (cm_v0 ml_13_71 (Or.inl mK_185) mA_185 cz_246_185 (Nat.le_of_ble_eq_true rfl)) (by decide) nu_185 sl_185 (kn_of rfl nd_1) (sp_X12_thrown σ2) rfl ?_
    rw [ht]
    refine ev_iload d0_342 rfl m1 rfl ?_
    refine ev_ic_eq d0_344 (t := 349) (aj rfl) rfl (fun _ => ?_) (fun z => absurd rfl z)
    refine ev_iload d0_349 rfl m1 rfl ?_
    refine ev_if_ne d0_351 (t := 366) (aj rfl) rfl (fun z => absurd rfl z) (fun _ => ?_)
    refine ev_aload_n d0_354 rfl m3 rfl ?_
    refine ev_iconst d0_355 ci_0 rfl ?_
    refine ev_lald d0_356 rfl ?_
    rw [hO]
    refine ev_iload d0_357 rfl m0 rfl ?_
    refine ev_i2l d0_359 rfl ?_
    refine ev_lcmp d0_360 rfl ?_
    rw [lg_cmp_self]
    refine ev_if_eq d0_361 (t := 366) (aj rfl) rfl (fun _ => ?_) (fun z => absurd rfl z)
    refine ev_goto d0_366 (t := 1030) (aj rfl) ?_
    refine Ev.sub (lo2 := lw i) (fun q hq => ?_) ?_
    · exact .tail _ (.tail _ hq)
    refine Ev.mono (kk σ2 _ _ hK) (fun o s9 k9 n9 hq => ?_)
    simp only [Nat.add_assoc, Nat.zero_add] at hq ⊢; exact hq
  · refine ev_istore mL_0 d0_324 rfl (by decide) (lo2 := [(5, .int 1), (4, .int i), (3, .ref 351), (2, .ref 246), (1, .ref 0), (0, .ref 352)]) rfl rfl ?_
    refine ev_aload_n d0_326 rfl m3 rfl ?_
    refine ev_aload_n d0_327 rfl m5 rfl ?_
    refine ev_iload d0_328 rfl m1 rfl ?_
    refine ev_iconst d0_330 ci_1 rfl ?_
    refine ev_iadd d0_331 rfl ?_
    refine ev_scrv (v := w 1) mK9_0 d0_332 (by rw [hN]; exact hw.2.1.1) (by rw [hS]; exact hw.2.1.2) rfl ?_
    refine ev_call mO_0 d0_333 (cm_v1 ml_13_70 (Or.inl mK_311) mA_311 cz_246_311 (Nat.le_of_ble_eq_true rfl)) (by decide) nu_311 sl_311 (kn_of rfl nd_2) h2 (fun o2 σ2 k2 s2 hh2 => ?_)
    obtain ⟨⟨b, rfl⟩, ht, hK⟩ := hh2
    refine evc_i ?_
    refine ev_istore mL_0 d0_336 rfl (by decide) (lo2 := [(6, .int b), (5, .int 1), (4, .int i), (3, .ref 351), (2, .ref 246), (1, .ref 0), (0, .ref 352)]) rfl rfl ?_
    refine ev_aload_n d0_338 rfl m4 rfl ?_
    refine ev_ci mO_0 d0_339 (cm_v0 ml_13_71 (Or.inl mK_185) mA_185 cz_246_185 (Nat.le_of_ble_eq_true rfl)) (by decide) nu_185 sl_185 (kn_of rfl nd_1) (sp_X12_thrown σ2) rfl ?_
    rw [ht]
    refine ev_iload d0_342 rfl m1 rfl ?_
    refine ev_ic_eq d0_344 (t := 349) (aj rfl) rfl (fun _ => ?_) (fun z => absurd rfl z)
    refine ev_iload d0_349 rfl m1 rfl ?_
    refine ev_if_ne d0_351 (t := 366) (aj rfl) rfl (fun _ => ?_) (fun z => absurd z (by decide))
    refine ev_goto d0_366 (t := 1030) (aj rfl) ?_
    refine Ev.sub (lo2 := lw i) (fun q hq => ?_) ?_
    · exact .tail _ (.tail _ hq)
    refine Ev.mono (kk σ2 _ _ hK) (fun o s9 k9 n9 hq => ?_)
    simp only [Nat.add_assoc, Nat.zero_add] at hq ⊢; exact hq
theorem d0_369 : decode (mC 0) 369 = .ok (.aload_n 1, 1) := by decide +kernel
theorem d0_370 : decode (mC 0) 370 = .ok (.invokevirtual 74, 3) := by decide +kernel
theorem ml_13_74 : am_ml 13 74 = some 150 := by decide +kernel
theorem mK_150 : mK 150 = 0 := by decide +kernel
theorem cz_0_150 : am_cls 0 = some (mO 150) := by decide +kernel
theorem mA_150 : 0 = mA 150 := by decide +kernel
theorem sl_150 : 1 ≤ mL 150 := by decide +kernel
theorem nu_150 : ¬ 150 ≤ 15 := by decide
theorem d0_373 : decode (mC 0) 373 = .ok (.aload_n 2, 1) := by decide +kernel
theorem d0_374 : decode (mC 0) 374 = .ok (.invokevirtual 78, 3) := by decide +kernel
theorem ml_13_78 : am_ml 13 78 = some 312 := by decide +kernel
theorem mK_312 : mK 312 = 0 := by decide +kernel
theorem cz_246_312 : am_cls 246 = some (mO 312) := by decide +kernel
theorem mA_312 : 0 = mA 312 := by decide +kernel
theorem sl_312 : 1 ≤ mL 312 := by decide +kernel
theorem nu_312 : ¬ 312 ≤ 15 := by decide
theorem d0_377 : decode (mC 0) 377 = .ok (.if_icmp .eq 653, 3) := by decide +kernel
set_option maxRecDepth 4000 in
theorem lc_4 {i : Int32} {w : Nat → Int32} {σ : SS} {K : KK} {Q : EQ} (hw : Wn σ i w) (h : Pair 150 312 [] σ K) (kk : ∀ σ2 k s, K σ2 k s → Ev 1000 0 1030 (lw i) [] σ2 (fun o s9 k9 n9 => Q o s9 (k + k9) (s + n9))) : Ev 1000 0 369 (lw i) [] σ Q := by
  refine ev_aload_n d0_369 rfl m3 rfl ?_
  refine ev_call mO_0 d0_370 (cm_v0 ml_13_74 (Or.inl mK_150) mA_150 cz_0_150 (Nat.le_of_ble_eq_true rfl)) (by decide) nu_150 sl_150 (kn_of rfl nd_1) h (fun o σ1 k s hh => ?_)
  obtain ⟨v, rfl, hN, hS, h2⟩ := hh
  refine evc_i ?_
  refine ev_aload_n d0_373 rfl m2 rfl ?_
  refine ev_call mO_0 d0_374 (cm_v0 ml_13_78 (Or.inl mK_312) mA_312 cz_246_312 (Nat.le_of_ble_eq_true rfl)) (by decide) nu_312 sl_312 (kn_of rfl nd_1) h2 (fun o2 σ2 k2 s2 hh2 => ?_)
  obtain ⟨rfl, hK⟩ := hh2
  refine evc_i ?_
  refine ev_ic_eq d0_377 (t := 1030) (aj rfl) rfl (fun _ => ?_) (fun z => absurd rfl z)
  refine Ev.mono (kk σ2 _ _ hK) (fun o s9 k9 n9 hq => ?_)
  simp only [Nat.add_assoc, Nat.zero_add] at hq ⊢; exact hq
theorem d0_382 : decode (mC 0) 382 = .ok (.aload_n 1, 1) := by decide +kernel
theorem d0_383 : decode (mC 0) 383 = .ok (.aload_n 0, 1) := by decide +kernel
theorem d0_384 : decode (mC 0) 384 = .ok (.iload 4, 2) := by decide +kernel
theorem d0_386 : decode (mC 0) 386 = .ok (.iconst 1, 1) := by decide +kernel
theorem d0_387 : decode (mC 0) 387 = .ok (.iadd, 1) := by decide +kernel
theorem d0_388 : decode (mC 0) 388 = .ok (.iaload, 1) := by decide +kernel
theorem d0_389 : decode (mC 0) 389 = .ok (.invokevirtual 79, 3) := by decide +kernel
theorem ml_13_79 : am_ml 13 79 = some 151 := by decide +kernel
theorem mK_151 : mK 151 = 0 := by decide +kernel
theorem cz_0_151 : am_cls 0 = some (mO 151) := by decide +kernel
theorem mA_151 : 1 = mA 151 := by decide +kernel
theorem sl_151 : 2 ≤ mL 151 := by decide +kernel
theorem nu_151 : ¬ 151 ≤ 15 := by decide
theorem d0_392 : decode (mC 0) 392 = .ok (.aload_n 2, 1) := by decide +kernel
theorem d0_393 : decode (mC 0) 393 = .ok (.aload_n 0, 1) := by decide +kernel
theorem d0_394 : decode (mC 0) 394 = .ok (.iload 4, 2) := by decide +kernel
theorem d0_396 : decode (mC 0) 396 = .ok (.iconst 1, 1) := by decide +kernel
theorem d0_397 : decode (mC 0) 397 = .ok (.iadd, 1) := by decide +kernel
theorem d0_398 : decode (mC 0) 398 = .ok (.iaload, 1) := by decide +kernel
theorem d0_399 : decode (mC 0) 399 = .ok (.invokevirtual 82, 3) := by decide +kernel
theorem ml_13_82 : am_ml 13 82 = some 313 := by decide +kernel
theorem mK_313 : mK 313 = 0 := by decide +kernel
theorem cz_246_313 : am_cls 246 = some (mO 313) := by decide +kernel
theorem mA_313 : 1 = mA 313 := by decide +kernel
theorem sl_313 : 2 ≤ mL 313 := by decide +kernel
theorem nu_313 : ¬ 313 ≤ 15 := by decide
theorem d0_402 : decode (mC 0) 402 = .ok (.if_icmp .eq 628, 3) := by decide +kernel
set_option maxRecDepth 4000 in
theorem lc_5 {i : Int32} {w : Nat → Int32} {σ : SS} {K : KK} {Q : EQ} (hw : Wn σ i w) (h : Pair 151 313 [.int (w 1)] σ K) (kk : ∀ σ2 k s, K σ2 k s → Ev 1000 0 1030 (lw i) [] σ2 (fun o s9 k9 n9 => Q o s9 (k + k9) (s + n9))) : Ev 1000 0 382 (lw i) [] σ Q := by
  refine ev_aload_n d0_382 rfl m3 rfl ?_
  refine ev_aload_n d0_383 rfl m4 rfl ?_
  refine ev_iload d0_384 rfl m0 rfl ?_
  refine ev_iconst d0_386 ci_1 rfl ?_
  refine ev_iadd d0_387 rfl ?_
  refine ev_scrv (v := w 1) mK9_0 d0_388 hw.2.1.1 hw.2.1.2 rfl ?_
  refine ev_call mO_0 d0_389 (cm_v1 ml_13_79 (Or.inl mK_151) mA_151 cz_0_151 (Nat.le_of_ble_eq_true rfl)) (by decide) nu_151 sl_151 (kn_of rfl nd_2) h (fun o σ1 k s hh => ?_)
  obtain ⟨v, rfl, hN, hS, h2⟩ := hh
  refine evc_i ?_
  refine ev_aload_n d0_392 rfl m2 rfl ?_
  refine ev_aload_n d0_393 rfl m4 rfl ?_
  refine ev_iload d0_394 rfl m0 rfl ?_
  refine ev_iconst d0_396 ci_1 rfl ?_
  refine ev_iadd d0_397 rfl ?_
  refine ev_scrv (v := w 1) mK9_0 d0_398 (by rw [hN]; exact hw.2.1.1) (by rw [hS]; exact hw.2.1.2) rfl ?_
  refine ev_call mO_0 d0_399 (cm_v1 ml_13_82 (Or.inl mK_313) mA_313 cz_246_313 (Nat.le_of_ble_eq_true rfl)) (by decide) nu_313 sl_313 (kn_of rfl nd_2) h2 (fun o2 σ2 k2 s2 hh2 => ?_)
  obtain ⟨rfl, hK⟩ := hh2
  refine evc_i ?_
  refine ev_ic_eq d0_402 (t := 1030) (aj rfl) rfl (fun _ => ?_) (fun z => absurd rfl z)
  refine Ev.mono (kk σ2 _ _ hK) (fun o s9 k9 n9 hq => ?_)
  simp only [Nat.add_assoc, Nat.zero_add] at hq ⊢; exact hq
theorem d0_407 : decode (mC 0) 407 = .ok (.aload_n 1, 1) := by decide +kernel
theorem d0_408 : decode (mC 0) 408 = .ok (.aload_n 0, 1) := by decide +kernel
theorem d0_409 : decode (mC 0) 409 = .ok (.iload 4, 2) := by decide +kernel
theorem d0_411 : decode (mC 0) 411 = .ok (.iconst 1, 1) := by decide +kernel
theorem d0_412 : decode (mC 0) 412 = .ok (.iadd, 1) := by decide +kernel
theorem d0_413 : decode (mC 0) 413 = .ok (.iaload, 1) := by decide +kernel
theorem d0_414 : decode (mC 0) 414 = .ok (.invokevirtual 83, 3) := by decide +kernel
theorem ml_13_83 : am_ml 13 83 = some 152 := by decide +kernel
theorem mK_152 : mK 152 = 0 := by decide +kernel
theorem cz_0_152 : am_cls 0 = some (mO 152) := by decide +kernel
theorem mA_152 : 1 = mA 152 := by decide +kernel
theorem sl_152 : 2 ≤ mL 152 := by decide +kernel
theorem nu_152 : ¬ 152 ≤ 15 := by decide
theorem d0_417 : decode (mC 0) 417 = .ok (.aload_n 2, 1) := by decide +kernel
theorem d0_418 : decode (mC 0) 418 = .ok (.aload_n 0, 1) := by decide +kernel
theorem d0_419 : decode (mC 0) 419 = .ok (.iload 4, 2) := by decide +kernel
theorem d0_421 : decode (mC 0) 421 = .ok (.iconst 1, 1) := by decide +kernel
theorem d0_422 : decode (mC 0) 422 = .ok (.iadd, 1) := by decide +kernel
theorem d0_423 : decode (mC 0) 423 = .ok (.iaload, 1) := by decide +kernel
theorem d0_424 : decode (mC 0) 424 = .ok (.invokevirtual 86, 3) := by decide +kernel
theorem ml_13_86 : am_ml 13 86 = some 314 := by decide +kernel
theorem mK_314 : mK 314 = 0 := by decide +kernel
theorem cz_246_314 : am_cls 246 = some (mO 314) := by decide +kernel
theorem mA_314 : 1 = mA 314 := by decide +kernel
theorem sl_314 : 2 ≤ mL 314 := by decide +kernel
theorem nu_314 : ¬ 314 ≤ 15 := by decide
theorem d0_427 : decode (mC 0) 427 = .ok (.if_icmp .eq 603, 3) := by decide +kernel
set_option maxRecDepth 4000 in
theorem lc_6 {i : Int32} {w : Nat → Int32} {σ : SS} {K : KK} {Q : EQ} (hw : Wn σ i w) (h : Pair 152 314 [.int (w 1)] σ K) (kk : ∀ σ2 k s, K σ2 k s → Ev 1000 0 1030 (lw i) [] σ2 (fun o s9 k9 n9 => Q o s9 (k + k9) (s + n9))) : Ev 1000 0 407 (lw i) [] σ Q := by
  refine ev_aload_n d0_407 rfl m3 rfl ?_
  refine ev_aload_n d0_408 rfl m4 rfl ?_
  refine ev_iload d0_409 rfl m0 rfl ?_
  refine ev_iconst d0_411 ci_1 rfl ?_
  refine ev_iadd d0_412 rfl ?_
  refine ev_scrv (v := w 1) mK9_0 d0_413 hw.2.1.1 hw.2.1.2 rfl ?_
  refine ev_call mO_0 d0_414 (cm_v1 ml_13_83 (Or.inl mK_152) mA_152 cz_0_152 (Nat.le_of_ble_eq_true rfl)) (by decide) nu_152 sl_152 (kn_of rfl nd_2) h (fun o σ1 k s hh => ?_)
  obtain ⟨v, rfl, hN, hS, h2⟩ := hh
  refine evc_i ?_
  refine ev_aload_n d0_417 rfl m2 rfl ?_
  refine ev_aload_n d0_418 rfl m4 rfl ?_
  refine ev_iload d0_419 rfl m0 rfl ?_
  refine ev_iconst d0_421 ci_1 rfl ?_
  refine ev_iadd d0_422 rfl ?_
  refine ev_scrv (v := w 1) mK9_0 d0_423 (by rw [hN]; exact hw.2.1.1) (by rw [hS]; exact hw.2.1.2) rfl ?_
  refine ev_call mO_0 d0_424 (cm_v1 ml_13_86 (Or.inl mK_314) mA_314 cz_246_314 (Nat.le_of_ble_eq_true rfl)) (by decide) nu_314 sl_314 (kn_of rfl nd_2) h2 (fun o2 σ2 k2 s2 hh2 => ?_)
  obtain ⟨rfl, hK⟩ := hh2
  refine evc_i ?_
  refine ev_ic_eq d0_427 (t := 1030) (aj rfl) rfl (fun _ => ?_) (fun z => absurd rfl z)
  refine Ev.mono (kk σ2 _ _ hK) (fun o s9 k9 n9 hq => ?_)
  simp only [Nat.add_assoc, Nat.zero_add] at hq ⊢; exact hq
theorem d0_432 : decode (mC 0) 432 = .ok (.aload_n 1, 1) := by decide +kernel
theorem d0_433 : decode (mC 0) 433 = .ok (.invokevirtual 87, 3) := by decide +kernel
theorem ml_13_87 : am_ml 13 87 = some 153 := by decide +kernel
theorem mK_153 : mK 153 = 2 := by decide +kernel
theorem cz_0_153 : am_cls 0 = some (mO 153) := by decide +kernel
theorem mA_153 : 0 = mA 153 := by decide +kernel
theorem sl_153 : 1 ≤ mL 153 := by decide +kernel
theorem nu_153 : ¬ 153 ≤ 15 := by decide
theorem d0_436 : decode (mC 0) 436 = .ok (.aload_n 2, 1) := by decide +kernel
theorem d0_437 : decode (mC 0) 437 = .ok (.invokevirtual 90, 3) := by decide +kernel
theorem ml_13_90 : am_ml 13 90 = some 302 := by decide +kernel
theorem mK_302 : mK 302 = 0 := by decide +kernel
theorem cz_246_302 : am_cls 246 = some (mO 302) := by decide +kernel
theorem mA_302 : 0 = mA 302 := by decide +kernel
theorem sl_302 : 1 ≤ mL 302 := by decide +kernel
theorem nu_302 : ¬ 302 ≤ 15 := by decide
theorem d0_440 : decode (mC 0) 440 = .ok (.if_icmp .eq 590, 3) := by decide +kernel
set_option maxRecDepth 4000 in
theorem lc_7 {i : Int32} {w : Nat → Int32} {σ : SS} {K : KK} {Q : EQ} (hw : Wn σ i w) (h : Pair 153 302 [] σ K) (kk : ∀ σ2 k s, K σ2 k s → Ev 1000 0 1030 (lw i) [] σ2 (fun o s9 k9 n9 => Q o s9 (k + k9) (s + n9))) : Ev 1000 0 432 (lw i) [] σ Q := by
  refine ev_aload_n d0_432 rfl m3 rfl ?_
  refine ev_call mO_0 d0_433 (cm_v0 ml_13_87 (Or.inr mK_153) mA_153 cz_0_153 (Nat.le_of_ble_eq_true rfl)) (by decide) nu_153 sl_153 (kn_of rfl nd_1) h (fun o σ1 k s hh => ?_)
  obtain ⟨v, rfl, hN, hS, h2⟩ := hh
  refine evc_i ?_
  refine ev_aload_n d0_436 rfl m2 rfl ?_
  refine ev_call mO_0 d0_437 (cm_v0 ml_13_90 (Or.inl mK_302) mA_302 cz_246_302 (Nat.le_of_ble_eq_true rfl)) (by decide) nu_302 sl_302 (kn_of rfl nd_1) h2 (fun o2 σ2 k2 s2 hh2 => ?_)
  obtain ⟨rfl, hK⟩ := hh2
  refine evc_i ?_
  refine ev_ic_eq d0_440 (t := 1030) (aj rfl) rfl (fun _ => ?_) (fun z => absurd rfl z)
  refine Ev.mono (kk σ2 _ _ hK) (fun o s9 k9 n9 hq => ?_)
  simp only [Nat.add_assoc, Nat.zero_add] at hq ⊢; exact hq
theorem d0_445 : decode (mC 0) 445 = .ok (.aload_n 1, 1) := by decide +kernel
theorem d0_446 : decode (mC 0) 446 = .ok (.aload_n 3, 1) := by decide +kernel
theorem d0_447 : decode (mC 0) 447 = .ok (.invokestatic 91, 3) := by decide +kernel
theorem ml_13_91 : am_ml 13 91 = some 335 := by decide +kernel
theorem mK_335 : mK 335 = 3 := by decide +kernel
theorem mm_13_91 : (mmT 13).find? (fun q => q.1 == 91) = none := by decide +kernel
theorem mA_335 : 2 = mA 335 := by decide +kernel
theorem sl_335 : 2 ≤ mL 335 := by decide +kernel
theorem nu_335 : ¬ 335 ≤ 15 := by decide
theorem d0_450 : decode (mC 0) 450 = .ok (.istore 5, 2) := by decide +kernel
theorem d0_452 : decode (mC 0) 452 = .ok (.aload_n 2, 1) := by decide +kernel
theorem d0_453 : decode (mC 0) 453 = .ok (.invokevirtual 94, 3) := by decide +kernel
theorem ml_13_94 : am_ml 13 94 = some 317 := by decide +kernel
theorem mK_317 : mK 317 = 0 := by decide +kernel
theorem cz_246_317 : am_cls 246 = some (mO 317) := by decide +kernel
theorem mA_317 : 0 = mA 317 := by decide +kernel
theorem sl_317 : 1 ≤ mL 317 := by decide +kernel
theorem nu_317 : ¬ 317 ≤ 15 := by decide
theorem d0_456 : decode (mC 0) 456 = .ok (.istore 6, 2) := by decide +kernel
theorem d0_458 : decode (mC 0) 458 = .ok (.aload_n 2, 1) := by decide +kernel
theorem d0_459 : decode (mC 0) 459 = .ok (.invokevirtual 71, 3) := by decide +kernel
theorem d0_462 : decode (mC 0) 462 = .ok (.iload 5, 2) := by decide +kernel
theorem d0_464 : decode (mC 0) 464 = .ok (.if_icmp .eq 5, 3) := by decide +kernel
theorem d0_469 : decode (mC 0) 469 = .ok (.iload 5, 2) := by decide +kernel
theorem d0_471 : decode (mC 0) 471 = .ok (.ifCond .ne 15, 3) := by decide +kernel
theorem d0_474 : decode (mC 0) 474 = .ok (.aload_n 3, 1) := by decide +kernel
theorem d0_475 : decode (mC 0) 475 = .ok (.iconst 0, 1) := by decide +kernel
theorem d0_476 : decode (mC 0) 476 = .ok (.laload, 1) := by decide +kernel
theorem d0_477 : decode (mC 0) 477 = .ok (.iload 6, 2) := by decide +kernel
theorem d0_479 : decode (mC 0) 479 = .ok (.i2l, 1) := by decide +kernel
theorem d0_480 : decode (mC 0) 480 = .ok (.lcmp, 1) := by decide +kernel
theorem d0_481 : decode (mC 0) 481 = .ok (.ifCond .eq 5, 3) := by decide +kernel
theorem d0_486 : decode (mC 0) 486 = .ok (.goto 544, 3) := by decide +kernel
set_option maxRecDepth 4000 in
theorem lc_8 {i : Int32} {w : Nat → Int32} {σ : SS} {K : KK} {Q : EQ} (hw : Wn σ i w) (h : PairT 154 317 "java/lang/IllegalStateException" [] σ K) (kk : ∀ σ2 k s, K σ2 k s → Ev 1000 0 1030 (lw i) [] σ2 (fun o s9 k9 n9 => Q o s9 (k + k9) (s + n9))) : Ev 1000 0 445 (lw i) [] σ Q := by
  refine ev_aload_n d0_445 rfl m3 rfl ?_
  refine ev_aload_n d0_446 rfl m1 rfl ?_
  refine ev_call mO_0 d0_447 (cm_s2 mm_13_91 ml_13_91 (Or.inr mK_335) mA_335 (Nat.le_of_ble_eq_true rfl)) (by decide) nu_335 sl_335 (kn_of rfl nd_2) (sp_L_pages (K := fun c σ1 k s => sN σ1 = sN σ ∧ sS σ1 = sS σ ∧ ((c = 0 ∧ ∃ v, Ev 999 317 0 (lv_args 0 (.ref 246 :: [])) [] σ1 (fun o2 σ2 k2 s2 => o2 = .inl (some v) ∧ sI σ2 246 0 = 0 ∧ sO σ2 0 = v.toInt64 ∧ K σ2 (k + k2) (s + s2))) ∨ (c = 1 ∧ Ev 999 317 0 (lv_args 0 (.ref 246 :: [])) [] σ1 (fun o2 σ2 k2 s2 => (∃ b, o2 = .inl (some b)) ∧ sI σ2 246 0 = 1 ∧ K σ2 (k + k2) (s + s2))))) (h.mono (fun o σ1 k s hh => ?_))) (fun o σ1 k s hh => ?_)
  · obtain ⟨hN, hS, hh⟩ := hh
    rcases hh with ⟨v, rfl, hh⟩ | ⟨rfl, hh⟩
    · exact Or.inl ⟨v, rfl, hN, hS, Or.inl ⟨rfl, v, hh⟩⟩
    · exact Or.inr ⟨rfl, hN, hS, Or.inr ⟨rfl, hh⟩⟩
  obtain ⟨c, rfl, hN, hS, hh⟩ := hh
  refine evc_i ?_
  rcases hh with ⟨rfl, v, h2⟩ | ⟨rfl, h2⟩
  · refine ev_istore mL_0 d0_450 rfl (by decide) (lo2 := [(5, .int 0), (4, .int i), (3, .ref 351), (2, .ref 246), (1, .ref 0), (0, .ref 352)]) rfl rfl ?_
    refine ev_aload_n d0_452 rfl m3 rfl ?_
    refine ev_call mO_0 d0_453 (cm_v0 ml_13_94 (Or.inl mK_317) mA_317 cz_246_317 (Nat.le_of_ble_eq_true rfl)) (by decide) nu_317 sl_317 (kn_of rfl nd_1) h2 (fun o2 σ2 k2 s2 hh2 => ?_)
    obtain ⟨rfl, ht, hO, hK⟩ := hh2
    refine evc_i ?_
    refine ev_istore mL_0 d0_456 rfl (by decide) (lo2 := [(6, .int v), (5, .int 0), (4, .int i), (3, .ref 351), (2, .ref 246), (1, .ref 0), (0, .ref 352)]) rfl rfl ?_
    refine ev_aload_n d0_458 rfl m4 rfl ?_
    refine ev_ci mO_0 d0_459 (cm_v0 ml_13_71 (Or.inl mK_185) mA_185 cz_246_185 (Nat.le_of_ble_eq_true rfl)) (by decide) nu_185 sl_185 (kn_of rfl nd_1) (sp_X12_thrown σ2) rfl ?_
    rw [ht]
    refine ev_iload d0_462 rfl m1 rfl ?_
    refine ev_ic_eq d0_464 (t := 469) (aj rfl) rfl (fun _ => ?_) (fun z => absurd rfl z)
    refine ev_iload d0_469 rfl m1 rfl ?_
    refine ev_if_ne d0_471 (t := 486) (aj rfl) rfl (fun z => absurd rfl z) (fun _ => ?_)
    refine ev_aload_n d0_474 rfl m3 rfl ?_
    refine ev_iconst d0_475 ci_0 rfl ?_
    refine ev_lald d0_476 rfl ?_
    rw [hO]
    refine ev_iload d0_477 rfl m0 rfl ?_
    refine ev_i2l d0_479 rfl ?_
    refine ev_lcmp d0_480 rfl ?_
    rw [lg_cmp_self]
    refine ev_if_eq d0_481 (t := 486) (aj rfl) rfl (fun _ => ?_) (fun z => absurd rfl z)
    refine ev_goto d0_486 (t := 1030) (aj rfl) ?_
    refine Ev.sub (lo2 := lw i) (fun q hq => ?_) ?_
    · exact .tail _ (.tail _ hq)
    refine Ev.mono (kk σ2 _ _ hK) (fun o s9 k9 n9 hq => ?_)
    simp only [Nat.add_assoc, Nat.zero_add] at hq ⊢; exact hq
  · refine ev_istore mL_0 d0_450 rfl (by decide) (lo2 := [(5, .int 1), (4, .int i), (3, .ref 351), (2, .ref 246), (1, .ref 0), (0, .ref 352)]) rfl rfl ?_
    refine ev_aload_n d0_452 rfl m3 rfl ?_
    refine ev_call mO_0 d0_453 (cm_v0 ml_13_94 (Or.inl mK_317) mA_317 cz_246_317 (Nat.le_of_ble_eq_true rfl)) (by decide) nu_317 sl_317 (kn_of rfl nd_1) h2 (fun o2 σ2 k2 s2 hh2 => ?_)
    obtain ⟨⟨b, rfl⟩, ht, hK⟩ := hh2
    refine evc_i ?_
    refine ev_istore mL_0 d0_456 rfl (by decide) (lo2 := [(6, .int b), (5, .int 1), (4, .int i), (3, .ref 351), (2, .ref 246), (1, .ref 0), (0, .ref 352)]) rfl rfl ?_
    refine ev_aload_n d0_458 rfl m4 rfl ?_
    refine ev_ci mO_0 d0_459 (cm_v0 ml_13_71 (Or.inl mK_185) mA_185 cz_246_185 (Nat.le_of_ble_eq_true rfl)) (by decide) nu_185 sl_185 (kn_of rfl nd_1) (sp_X12_thrown σ2) rfl ?_
    rw [ht]
    refine ev_iload d0_462 rfl m1 rfl ?_
    refine ev_ic_eq d0_464 (t := 469) (aj rfl) rfl (fun _ => ?_) (fun z => absurd rfl z)
    refine ev_iload d0_469 rfl m1 rfl ?_
    refine ev_if_ne d0_471 (t := 486) (aj rfl) rfl (fun _ => ?_) (fun z => absurd z (by decide))
    refine ev_goto d0_486 (t := 1030) (aj rfl) ?_
    refine Ev.sub (lo2 := lw i) (fun q hq => ?_) ?_
    · exact .tail _ (.tail _ hq)
    refine Ev.mono (kk σ2 _ _ hK) (fun o s9 k9 n9 hq => ?_)
    simp only [Nat.add_assoc, Nat.zero_add] at hq ⊢; exact hq
theorem d0_489 : decode (mC 0) 489 = .ok (.aload_n 1, 1) := by decide +kernel
theorem d0_490 : decode (mC 0) 490 = .ok (.aload_n 0, 1) := by decide +kernel
theorem d0_491 : decode (mC 0) 491 = .ok (.iload 4, 2) := by decide +kernel
theorem d0_493 : decode (mC 0) 493 = .ok (.iconst 1, 1) := by decide +kernel
theorem d0_494 : decode (mC 0) 494 = .ok (.iadd, 1) := by decide +kernel
theorem d0_495 : decode (mC 0) 495 = .ok (.iaload, 1) := by decide +kernel
theorem d0_496 : decode (mC 0) 496 = .ok (.aload_n 3, 1) := by decide +kernel
theorem d0_497 : decode (mC 0) 497 = .ok (.invokestatic 95, 3) := by decide +kernel
theorem ml_13_95 : am_ml 13 95 = some 336 := by decide +kernel
theorem mK_336 : mK 336 = 3 := by decide +kernel
theorem mm_13_95 : (mmT 13).find? (fun q => q.1 == 95) = none := by decide +kernel
theorem mA_336 : 3 = mA 336 := by decide +kernel
theorem sl_336 : 3 ≤ mL 336 := by decide +kernel
theorem nu_336 : ¬ 336 ≤ 15 := by decide
theorem d0_500 : decode (mC 0) 500 = .ok (.istore 5, 2) := by decide +kernel
theorem d0_502 : decode (mC 0) 502 = .ok (.aload_n 2, 1) := by decide +kernel
theorem d0_503 : decode (mC 0) 503 = .ok (.aload_n 0, 1) := by decide +kernel
theorem d0_504 : decode (mC 0) 504 = .ok (.iload 4, 2) := by decide +kernel
theorem d0_506 : decode (mC 0) 506 = .ok (.iconst 1, 1) := by decide +kernel
theorem d0_507 : decode (mC 0) 507 = .ok (.iadd, 1) := by decide +kernel
theorem d0_508 : decode (mC 0) 508 = .ok (.iaload, 1) := by decide +kernel
theorem d0_509 : decode (mC 0) 509 = .ok (.invokevirtual 97, 3) := by decide +kernel
theorem ml_13_97 : am_ml 13 97 = some 318 := by decide +kernel
theorem mK_318 : mK 318 = 0 := by decide +kernel
theorem cz_246_318 : am_cls 246 = some (mO 318) := by decide +kernel
theorem mA_318 : 1 = mA 318 := by decide +kernel
theorem sl_318 : 2 ≤ mL 318 := by decide +kernel
theorem nu_318 : ¬ 318 ≤ 15 := by decide
theorem d0_512 : decode (mC 0) 512 = .ok (.istore 6, 2) := by decide +kernel
theorem d0_514 : decode (mC 0) 514 = .ok (.aload_n 2, 1) := by decide +kernel
theorem d0_515 : decode (mC 0) 515 = .ok (.invokevirtual 71, 3) := by decide +kernel
theorem d0_518 : decode (mC 0) 518 = .ok (.iload 5, 2) := by decide +kernel
theorem d0_520 : decode (mC 0) 520 = .ok (.if_icmp .eq 5, 3) := by decide +kernel
theorem d0_525 : decode (mC 0) 525 = .ok (.iload 5, 2) := by decide +kernel
theorem d0_527 : decode (mC 0) 527 = .ok (.ifCond .ne 15, 3) := by decide +kernel
theorem d0_530 : decode (mC 0) 530 = .ok (.aload_n 3, 1) := by decide +kernel
theorem d0_531 : decode (mC 0) 531 = .ok (.iconst 0, 1) := by decide +kernel
theorem d0_532 : decode (mC 0) 532 = .ok (.laload, 1) := by decide +kernel
theorem d0_533 : decode (mC 0) 533 = .ok (.iload 6, 2) := by decide +kernel
theorem d0_535 : decode (mC 0) 535 = .ok (.i2l, 1) := by decide +kernel
theorem d0_536 : decode (mC 0) 536 = .ok (.lcmp, 1) := by decide +kernel
theorem d0_537 : decode (mC 0) 537 = .ok (.ifCond .eq 5, 3) := by decide +kernel
theorem d0_542 : decode (mC 0) 542 = .ok (.goto 488, 3) := by decide +kernel
set_option maxRecDepth 4000 in
theorem lc_9 {i : Int32} {w : Nat → Int32} {σ : SS} {K : KK} {Q : EQ} (hw : Wn σ i w) (h : PairU 155 318 "java/lang/IllegalStateException" "java/lang/IndexOutOfBoundsException" [.int (w 1)] σ K) (kk : ∀ σ2 k s, K σ2 k s → Ev 1000 0 1030 (lw i) [] σ2 (fun o s9 k9 n9 => Q o s9 (k + k9) (s + n9))) : Ev 1000 0 489 (lw i) [] σ Q := by
  refine ev_aload_n d0_489 rfl m3 rfl ?_
  refine ev_aload_n d0_490 rfl m4 rfl ?_
  refine ev_iload d0_491 rfl m0 rfl ?_
  refine ev_iconst d0_493 ci_1 rfl ?_
  refine ev_iadd d0_494 rfl ?_
  refine ev_scrv (v := w 1) mK9_0 d0_495 hw.2.1.1 hw.2.1.2 rfl ?_
  refine ev_aload_n d0_496 rfl m1 rfl ?_
  refine ev_call mO_0 d0_497 (cm_s3 mm_13_95 ml_13_95 (Or.inr mK_336) mA_336 (Nat.le_of_ble_eq_true rfl)) (by decide) nu_336 sl_336 (kn_of rfl nd_3) (sp_L_lines (K := fun c σ1 k s => sN σ1 = sN σ ∧ sS σ1 = sS σ ∧ ((c = 0 ∧ ∃ v, Ev 999 318 0 (lv_args 0 (.ref 246 :: [.int (w 1)])) [] σ1 (fun o2 σ2 k2 s2 => o2 = .inl (some v) ∧ sI σ2 246 0 = 0 ∧ sO σ2 0 = v.toInt64 ∧ K σ2 (k + k2) (s + s2))) ∨ (c = 1 ∧ Ev 999 318 0 (lv_args 0 (.ref 246 :: [.int (w 1)])) [] σ1 (fun o2 σ2 k2 s2 => (∃ b, o2 = .inl (some b)) ∧ sI σ2 246 0 = 1 ∧ K σ2 (k + k2) (s + s2))) ∨ (c = 2 ∧ Ev 999 318 0 (lv_args 0 (.ref 246 :: [.int (w 1)])) [] σ1 (fun o2 σ2 k2 s2 => (∃ b, o2 = .inl (some b)) ∧ sI σ2 246 0 = 2 ∧ K σ2 (k + k2) (s + s2))))) (h.mono (fun o σ1 k s hh => ?_))) (fun o σ1 k s hh => ?_)
  · obtain ⟨hN, hS, hh⟩ := hh
    rcases hh with ⟨v, rfl, hh⟩ | ⟨rfl, hh⟩ | ⟨rfl, hh⟩
    · exact Or.inl ⟨v, rfl, hN, hS, Or.inl ⟨rfl, v, hh⟩⟩
    · exact Or.inr (Or.inl ⟨rfl, hN, hS, Or.inr (Or.inl ⟨rfl, hh⟩)⟩)
    · exact Or.inr (Or.inr ⟨rfl, hN, hS, Or.inr (Or.inr ⟨rfl, hh⟩)⟩)
  obtain ⟨c, rfl, hN, hS, hh⟩ := hh
  refine evc_i ?_
  rcases hh with ⟨rfl, v, h2⟩ | ⟨rfl, h2⟩ | ⟨rfl, h2⟩
  · refine ev_istore mL_0 d0_500 rfl (by decide) (lo2 := [(5, .int 0), (4, .int i), (3, .ref 351), (2, .ref 246), (1, .ref 0), (0, .ref 352)]) rfl rfl ?_
    refine ev_aload_n d0_502 rfl m3 rfl ?_
    refine ev_aload_n d0_503 rfl m5 rfl ?_
    refine ev_iload d0_504 rfl m1 rfl ?_
    refine ev_iconst d0_506 ci_1 rfl ?_
    refine ev_iadd d0_507 rfl ?_
    refine ev_scrv (v := w 1) mK9_0 d0_508 (by rw [hN]; exact hw.2.1.1) (by rw [hS]; exact hw.2.1.2) rfl ?_
    refine ev_call mO_0 d0_509 (cm_v1 ml_13_97 (Or.inl mK_318) mA_318 cz_246_318 (Nat.le_of_ble_eq_true rfl)) (by decide) nu_318 sl_318 (kn_of rfl nd_2) h2 (fun o2 σ2 k2 s2 hh2 => ?_)
    obtain ⟨rfl, ht, hO, hK⟩ := hh2
    refine evc_i ?_
    refine ev_istore mL_0 d0_512 rfl (by decide) (lo2 := [(6, .int v), (5, .int 0), (4, .int i), (3, .ref 351), (2, .ref 246), (1, .ref 0), (0, .ref 352)]) rfl rfl ?_
    refine ev_aload_n d0_514 rfl m4 rfl ?_
    refine ev_ci mO_0 d0_515 (cm_v0 ml_13_71 (Or.inl mK_185) mA_185 cz_246_185 (Nat.le_of_ble_eq_true rfl)) (by decide) nu_185 sl_185 (kn_of rfl nd_1) (sp_X12_thrown σ2) rfl ?_
    rw [ht]
    refine ev_iload d0_518 rfl m1 rfl ?_
    refine ev_ic_eq d0_520 (t := 525) (aj rfl) rfl (fun _ => ?_) (fun z => absurd rfl z)
    refine ev_iload d0_525 rfl m1 rfl ?_
    refine ev_if_ne d0_527 (t := 542) (aj rfl) rfl (fun z => absurd rfl z) (fun _ => ?_)
    refine ev_aload_n d0_530 rfl m3 rfl ?_
    refine ev_iconst d0_531 ci_0 rfl ?_
    refine ev_lald d0_532 rfl ?_
    rw [hO]
    refine ev_iload d0_533 rfl m0 rfl ?_
    refine ev_i2l d0_535 rfl ?_
    refine ev_lcmp d0_536 rfl ?_
    rw [lg_cmp_self]
    refine ev_if_eq d0_537 (t := 542) (aj rfl) rfl (fun _ => ?_) (fun z => absurd rfl z)
    refine ev_goto d0_542 (t := 1030) (aj rfl) ?_
    refine Ev.sub (lo2 := lw i) (fun q hq => ?_) ?_
    · exact .tail _ (.tail _ hq)
    refine Ev.mono (kk σ2 _ _ hK) (fun o s9 k9 n9 hq => ?_)
    simp only [Nat.add_assoc, Nat.zero_add] at hq ⊢; exact hq
  · refine ev_istore mL_0 d0_500 rfl (by decide) (lo2 := [(5, .int 1), (4, .int i), (3, .ref 351), (2, .ref 246), (1, .ref 0), (0, .ref 352)]) rfl rfl ?_
    refine ev_aload_n d0_502 rfl m3 rfl ?_
    refine ev_aload_n d0_503 rfl m5 rfl ?_
    refine ev_iload d0_504 rfl m1 rfl ?_
    refine ev_iconst d0_506 ci_1 rfl ?_
    refine ev_iadd d0_507 rfl ?_
    refine ev_scrv (v := w 1) mK9_0 d0_508 (by rw [hN]; exact hw.2.1.1) (by rw [hS]; exact hw.2.1.2) rfl ?_
    refine ev_call mO_0 d0_509 (cm_v1 ml_13_97 (Or.inl mK_318) mA_318 cz_246_318 (Nat.le_of_ble_eq_true rfl)) (by decide) nu_318 sl_318 (kn_of rfl nd_2) h2 (fun o2 σ2 k2 s2 hh2 => ?_)
    obtain ⟨⟨b, rfl⟩, ht, hK⟩ := hh2
    refine evc_i ?_
    refine ev_istore mL_0 d0_512 rfl (by decide) (lo2 := [(6, .int b), (5, .int 1), (4, .int i), (3, .ref 351), (2, .ref 246), (1, .ref 0), (0, .ref 352)]) rfl rfl ?_
    refine ev_aload_n d0_514 rfl m4 rfl ?_
    refine ev_ci mO_0 d0_515 (cm_v0 ml_13_71 (Or.inl mK_185) mA_185 cz_246_185 (Nat.le_of_ble_eq_true rfl)) (by decide) nu_185 sl_185 (kn_of rfl nd_1) (sp_X12_thrown σ2) rfl ?_
    rw [ht]
    refine ev_iload d0_518 rfl m1 rfl ?_
    refine ev_ic_eq d0_520 (t := 525) (aj rfl) rfl (fun _ => ?_) (fun z => absurd rfl z)
    refine ev_iload d0_525 rfl m1 rfl ?_
    refine ev_if_ne d0_527 (t := 542) (aj rfl) rfl (fun _ => ?_) (fun z => absurd z (by decide))
    refine ev_goto d0_542 (t := 1030) (aj rfl) ?_
    refine Ev.sub (lo2 := lw i) (fun q hq => ?_) ?_
    · exact .tail _ (.tail _ hq)
    refine Ev.mono (kk σ2 _ _ hK) (fun o s9 k9 n9 hq => ?_)
    simp only [Nat.add_assoc, Nat.zero_add] at hq ⊢; exact hq
  · refine ev_istore mL_0 d0_500 rfl (by decide) (lo2 := [(5, .int 2), (4, .int i), (3, .ref 351), (2, .ref 246), (1, .ref 0), (0, .ref 352)]) rfl rfl ?_
    refine ev_aload_n d0_502 rfl m3 rfl ?_
    refine ev_aload_n d0_503 rfl m5 rfl ?_
    refine ev_iload d0_504 rfl m1 rfl ?_
    refine ev_iconst d0_506 ci_1 rfl ?_
    refine ev_iadd d0_507 rfl ?_
    refine ev_scrv (v := w 1) mK9_0 d0_508 (by rw [hN]; exact hw.2.1.1) (by rw [hS]; exact hw.2.1.2) rfl ?_
    refine ev_call mO_0 d0_509 (cm_v1 ml_13_97 (Or.inl mK_318) mA_318 cz_246_318 (Nat.le_of_ble_eq_true rfl)) (by decide) nu_318 sl_318 (kn_of rfl nd_2) h2 (fun o2 σ2 k2 s2 hh2 => ?_)
    obtain ⟨⟨b, rfl⟩, ht, hK⟩ := hh2
    refine evc_i ?_
    refine ev_istore mL_0 d0_512 rfl (by decide) (lo2 := [(6, .int b), (5, .int 2), (4, .int i), (3, .ref 351), (2, .ref 246), (1, .ref 0), (0, .ref 352)]) rfl rfl ?_
    refine ev_aload_n d0_514 rfl m4 rfl ?_
    refine ev_ci mO_0 d0_515 (cm_v0 ml_13_71 (Or.inl mK_185) mA_185 cz_246_185 (Nat.le_of_ble_eq_true rfl)) (by decide) nu_185 sl_185 (kn_of rfl nd_1) (sp_X12_thrown σ2) rfl ?_
    rw [ht]
    refine ev_iload d0_518 rfl m1 rfl ?_
    refine ev_ic_eq d0_520 (t := 525) (aj rfl) rfl (fun _ => ?_) (fun z => absurd rfl z)
    refine ev_iload d0_525 rfl m1 rfl ?_
    refine ev_if_ne d0_527 (t := 542) (aj rfl) rfl (fun _ => ?_) (fun z => absurd z (by decide))
    refine ev_goto d0_542 (t := 1030) (aj rfl) ?_
    refine Ev.sub (lo2 := lw i) (fun q hq => ?_) ?_
    · exact .tail _ (.tail _ hq)
    refine Ev.mono (kk σ2 _ _ hK) (fun o s9 k9 n9 hq => ?_)
    simp only [Nat.add_assoc, Nat.zero_add] at hq ⊢; exact hq
theorem d0_545 : decode (mC 0) 545 = .ok (.aload_n 1, 1) := by decide +kernel
theorem d0_546 : decode (mC 0) 546 = .ok (.aload_n 0, 1) := by decide +kernel
theorem d0_547 : decode (mC 0) 547 = .ok (.iload 4, 2) := by decide +kernel
theorem d0_549 : decode (mC 0) 549 = .ok (.iconst 1, 1) := by decide +kernel
theorem d0_550 : decode (mC 0) 550 = .ok (.iadd, 1) := by decide +kernel
theorem d0_551 : decode (mC 0) 551 = .ok (.iaload, 1) := by decide +kernel
theorem d0_552 : decode (mC 0) 552 = .ok (.aload_n 0, 1) := by decide +kernel
theorem d0_553 : decode (mC 0) 553 = .ok (.iload 4, 2) := by decide +kernel
theorem d0_555 : decode (mC 0) 555 = .ok (.iconst 2, 1) := by decide +kernel
theorem d0_556 : decode (mC 0) 556 = .ok (.iadd, 1) := by decide +kernel
theorem d0_557 : decode (mC 0) 557 = .ok (.iaload, 1) := by decide +kernel
theorem d0_558 : decode (mC 0) 558 = .ok (.aload_n 3, 1) := by decide +kernel
theorem d0_559 : decode (mC 0) 559 = .ok (.invokestatic 98, 3) := by decide +kernel
theorem ml_13_98 : am_ml 13 98 = some 337 := by decide +kernel
theorem mK_337 : mK 337 = 3 := by decide +kernel
theorem mm_13_98 : (mmT 13).find? (fun q => q.1 == 98) = none := by decide +kernel
theorem mA_337 : 4 = mA 337 := by decide +kernel
theorem sl_337 : 4 ≤ mL 337 := by decide +kernel
theorem nu_337 : ¬ 337 ≤ 15 := by decide
theorem d0_562 : decode (mC 0) 562 = .ok (.istore 5, 2) := by decide +kernel
theorem d0_564 : decode (mC 0) 564 = .ok (.aload_n 2, 1) := by decide +kernel
theorem d0_565 : decode (mC 0) 565 = .ok (.aload_n 0, 1) := by decide +kernel
theorem d0_566 : decode (mC 0) 566 = .ok (.iload 4, 2) := by decide +kernel
theorem d0_568 : decode (mC 0) 568 = .ok (.iconst 1, 1) := by decide +kernel
theorem d0_569 : decode (mC 0) 569 = .ok (.iadd, 1) := by decide +kernel
theorem d0_570 : decode (mC 0) 570 = .ok (.iaload, 1) := by decide +kernel
theorem d0_571 : decode (mC 0) 571 = .ok (.aload_n 0, 1) := by decide +kernel
theorem d0_572 : decode (mC 0) 572 = .ok (.iload 4, 2) := by decide +kernel
theorem d0_574 : decode (mC 0) 574 = .ok (.iconst 2, 1) := by decide +kernel
theorem d0_575 : decode (mC 0) 575 = .ok (.iadd, 1) := by decide +kernel
theorem d0_576 : decode (mC 0) 576 = .ok (.iaload, 1) := by decide +kernel
theorem d0_577 : decode (mC 0) 577 = .ok (.invokevirtual 101, 3) := by decide +kernel
theorem ml_13_101 : am_ml 13 101 = some 319 := by decide +kernel
theorem mK_319 : mK 319 = 0 := by decide +kernel
theorem cz_246_319 : am_cls 246 = some (mO 319) := by decide +kernel
theorem mA_319 : 2 = mA 319 := by decide +kernel
theorem sl_319 : 3 ≤ mL 319 := by decide +kernel
theorem nu_319 : ¬ 319 ≤ 15 := by decide
theorem d0_580 : decode (mC 0) 580 = .ok (.istore 6, 2) := by decide +kernel
theorem d0_582 : decode (mC 0) 582 = .ok (.aload_n 2, 1) := by decide +kernel
theorem d0_583 : decode (mC 0) 583 = .ok (.invokevirtual 71, 3) := by decide +kernel
theorem d0_586 : decode (mC 0) 586 = .ok (.iload 5, 2) := by decide +kernel
theorem d0_588 : decode (mC 0) 588 = .ok (.if_icmp .eq 5, 3) := by decide +kernel
theorem d0_593 : decode (mC 0) 593 = .ok (.iload 5, 2) := by decide +kernel
theorem d0_595 : decode (mC 0) 595 = .ok (.ifCond .ne 15, 3) := by decide +kernel
theorem d0_598 : decode (mC 0) 598 = .ok (.aload_n 3, 1) := by decide +kernel
theorem d0_599 : decode (mC 0) 599 = .ok (.iconst 0, 1) := by decide +kernel
theorem d0_600 : decode (mC 0) 600 = .ok (.laload, 1) := by decide +kernel
theorem d0_601 : decode (mC 0) 601 = .ok (.iload 6, 2) := by decide +kernel
theorem d0_603 : decode (mC 0) 603 = .ok (.i2l, 1) := by decide +kernel
theorem d0_604 : decode (mC 0) 604 = .ok (.lcmp, 1) := by decide +kernel
theorem d0_605 : decode (mC 0) 605 = .ok (.ifCond .eq 5, 3) := by decide +kernel
theorem d0_610 : decode (mC 0) 610 = .ok (.goto 420, 3) := by decide +kernel
set_option maxRecDepth 4000 in
theorem lc_10 {i : Int32} {w : Nat → Int32} {σ : SS} {K : KK} {Q : EQ} (hw : Wn σ i w) (h : PairU 156 319 "java/lang/IllegalStateException" "java/lang/IndexOutOfBoundsException" [.int (w 1), .int (w 2)] σ K) (kk : ∀ σ2 k s, K σ2 k s → Ev 1000 0 1030 (lw i) [] σ2 (fun o s9 k9 n9 => Q o s9 (k + k9) (s + n9))) : Ev 1000 0 545 (lw i) [] σ Q := by
  refine ev_aload_n d0_545 rfl m3 rfl ?_
  refine ev_aload_n d0_546 rfl m4 rfl ?_
  refine ev_iload d0_547 rfl m0 rfl ?_
  refine ev_iconst d0_549 ci_1 rfl ?_
  refine ev_iadd d0_550 rfl ?_
  refine ev_scrv (v := w 1) mK9_0 d0_551 hw.2.1.1 hw.2.1.2 rfl ?_
  refine ev_aload_n d0_552 rfl m4 rfl ?_
  refine ev_iload d0_553 rfl m0 rfl ?_
  refine ev_iconst d0_555 ci_2 rfl ?_
  refine ev_iadd d0_556 rfl ?_
  refine ev_scrv (v := w 2) mK9_0 d0_557 hw.2.2.1.1 hw.2.2.1.2 rfl ?_
  refine ev_aload_n d0_558 rfl m1 rfl ?_
  refine ev_call mO_0 d0_559 (cm_s4 mm_13_98 ml_13_98 (Or.inr mK_337) mA_337 (Nat.le_of_ble_eq_true rfl)) (by decide) nu_337 sl_337 (kn_of rfl nd_4) (sp_L_length (K := fun c σ1 k s => sN σ1 = sN σ ∧ sS σ1 = sS σ ∧ ((c = 0 ∧ ∃ v, Ev 999 319 0 (lv_args 0 (.ref 246 :: [.int (w 1), .int (w 2)])) [] σ1 (fun o2 σ2 k2 s2 => o2 = .inl (some v) ∧ sI σ2 246 0 = 0 ∧ sO σ2 0 = v.toInt64 ∧ K σ2 (k + k2) (s + s2))) ∨ (c = 1 ∧ Ev 999 319 0 (lv_args 0 (.ref 246 :: [.int (w 1), .int (w 2)])) [] σ1 (fun o2 σ2 k2 s2 => (∃ b, o2 = .inl (some b)) ∧ sI σ2 246 0 = 1 ∧ K σ2 (k + k2) (s + s2))) ∨ (c = 2 ∧ Ev 999 319 0 (lv_args 0 (.ref 246 :: [.int (w 1), .int (w 2)])) [] σ1 (fun o2 σ2 k2 s2 => (∃ b, o2 = .inl (some b)) ∧ sI σ2 246 0 = 2 ∧ K σ2 (k + k2) (s + s2))))) (h.mono (fun o σ1 k s hh => ?_))) (fun o σ1 k s hh => ?_)
  · obtain ⟨hN, hS, hh⟩ := hh
    rcases hh with ⟨v, rfl, hh⟩ | ⟨rfl, hh⟩ | ⟨rfl, hh⟩
    · exact Or.inl ⟨v, rfl, hN, hS, Or.inl ⟨rfl, v, hh⟩⟩
    · exact Or.inr (Or.inl ⟨rfl, hN, hS, Or.inr (Or.inl ⟨rfl, hh⟩)⟩)
    · exact Or.inr (Or.inr ⟨rfl, hN, hS, Or.inr (Or.inr ⟨rfl, hh⟩)⟩)
  obtain ⟨c, rfl, hN, hS, hh⟩ := hh
  refine evc_i ?_
  rcases hh with ⟨rfl, v, h2⟩ | ⟨rfl, h2⟩ | ⟨rfl, h2⟩
  · refine ev_istore mL_0 d0_562 rfl (by decide) (lo2 := [(5, .int 0), (4, .int i), (3, .ref 351), (2, .ref 246), (1, .ref 0), (0, .ref 352)]) rfl rfl ?_
    refine ev_aload_n d0_564 rfl m3 rfl ?_
    refine ev_aload_n d0_565 rfl m5 rfl ?_
    refine ev_iload d0_566 rfl m1 rfl ?_
    refine ev_iconst d0_568 ci_1 rfl ?_
    refine ev_iadd d0_569 rfl ?_
    refine ev_scrv (v := w 1) mK9_0 d0_570 (by rw [hN]; exact hw.2.1.1) (by rw [hS]; exact hw.2.1.2) rfl ?_
    refine ev_aload_n d0_571 rfl m5 rfl ?_
    refine ev_iload d0_572 rfl m1 rfl ?_
    refine ev_iconst d0_574 ci_2 rfl ?_
    refine ev_iadd d0_575 rfl ?_
    refine ev_scrv (v := w 2) mK9_0 d0_576 (by rw [hN]; exact hw.2.2.1.1) (by rw [hS]; exact hw.2.2.1.2) rfl ?_
    refine ev_call mO_0 d0_577 (cm_v2 ml_13_101 (Or.inl mK_319) mA_319 cz_246_319 (Nat.le_of_ble_eq_true rfl)) (by decide) nu_319 sl_319 (kn_of rfl nd_3) h2 (fun o2 σ2 k2 s2 hh2 => ?_)
    obtain ⟨rfl, ht, hO, hK⟩ := hh2
    refine evc_i ?_
    refine ev_istore mL_0 d0_580 rfl (by decide) (lo2 := [(6, .int v), (5, .int 0), (4, .int i), (3, .ref 351), (2, .ref 246), (1, .ref 0), (0, .ref 352)]) rfl rfl ?_
    refine ev_aload_n d0_582 rfl m4 rfl ?_
    refine ev_ci mO_0 d0_583 (cm_v0 ml_13_71 (Or.inl mK_185) mA_185 cz_246_185 (Nat.le_of_ble_eq_true rfl)) (by decide) nu_185 sl_185 (kn_of rfl nd_1) (sp_X12_thrown σ2) rfl ?_
    rw [ht]
    refine ev_iload d0_586 rfl m1 rfl ?_
    refine ev_ic_eq d0_588 (t := 593) (aj rfl) rfl (fun _ => ?_) (fun z => absurd rfl z)
    refine ev_iload d0_593 rfl m1 rfl ?_
    refine ev_if_ne d0_595 (t := 610) (aj rfl) rfl (fun z => absurd rfl z) (fun _ => ?_)
    refine ev_aload_n d0_598 rfl m3 rfl ?_
    refine ev_iconst d0_599 ci_0 rfl ?_
    refine ev_lald d0_600 rfl ?_
    rw [hO]
    refine ev_iload d0_601 rfl m0 rfl ?_
    refine ev_i2l d0_603 rfl ?_
    refine ev_lcmp d0_604 rfl ?_
    rw [lg_cmp_self]
    refine ev_if_eq d0_605 (t := 610) (aj rfl) rfl (fun _ => ?_) (fun z => absurd rfl z)
    refine ev_goto d0_610 (t := 1030) (aj rfl) ?_
    refine Ev.sub (lo2 := lw i) (fun q hq => ?_) ?_
    · exact .tail _ (.tail _ hq)
    refine Ev.mono (kk σ2 _ _ hK) (fun o s9 k9 n9 hq => ?_)
    simp only [Nat.add_assoc, Nat.zero_add] at hq ⊢; exact hq
  · refine ev_istore mL_0 d0_562 rfl (by decide) (lo2 := [(5, .int 1), (4, .int i), (3, .ref 351), (2, .ref 246), (1, .ref 0), (0, .ref 352)]) rfl rfl ?_
    refine ev_aload_n d0_564 rfl m3 rfl ?_
    refine ev_aload_n d0_565 rfl m5 rfl ?_
    refine ev_iload d0_566 rfl m1 rfl ?_
    refine ev_iconst d0_568 ci_1 rfl ?_
    refine ev_iadd d0_569 rfl ?_
    refine ev_scrv (v := w 1) mK9_0 d0_570 (by rw [hN]; exact hw.2.1.1) (by rw [hS]; exact hw.2.1.2) rfl ?_
    refine ev_aload_n d0_571 rfl m5 rfl ?_
    refine ev_iload d0_572 rfl m1 rfl ?_
    refine ev_iconst d0_574 ci_2 rfl ?_
    refine ev_iadd d0_575 rfl ?_
    refine ev_scrv (v := w 2) mK9_0 d0_576 (by rw [hN]; exact hw.2.2.1.1) (by rw [hS]; exact hw.2.2.1.2) rfl ?_
    refine ev_call mO_0 d0_577 (cm_v2 ml_13_101 (Or.inl mK_319) mA_319 cz_246_319 (Nat.le_of_ble_eq_true rfl)) (by decide) nu_319 sl_319 (kn_of rfl nd_3) h2 (fun o2 σ2 k2 s2 hh2 => ?_)
    obtain ⟨⟨b, rfl⟩, ht, hK⟩ := hh2
    refine evc_i ?_
    refine ev_istore mL_0 d0_580 rfl (by decide) (lo2 := [(6, .int b), (5, .int 1), (4, .int i), (3, .ref 351), (2, .ref 246), (1, .ref 0), (0, .ref 352)]) rfl rfl ?_
    refine ev_aload_n d0_582 rfl m4 rfl ?_
    refine ev_ci mO_0 d0_583 (cm_v0 ml_13_71 (Or.inl mK_185) mA_185 cz_246_185 (Nat.le_of_ble_eq_true rfl)) (by decide) nu_185 sl_185 (kn_of rfl nd_1) (sp_X12_thrown σ2) rfl ?_
    rw [ht]
    refine ev_iload d0_586 rfl m1 rfl ?_
    refine ev_ic_eq d0_588 (t := 593) (aj rfl) rfl (fun _ => ?_) (fun z => absurd rfl z)
    refine ev_iload d0_593 rfl m1 rfl ?_
    refine ev_if_ne d0_595 (t := 610) (aj rfl) rfl (fun _ => ?_) (fun z => absurd z (by decide))
    refine ev_goto d0_610 (t := 1030) (aj rfl) ?_
    refine Ev.sub (lo2 := lw i) (fun q hq => ?_) ?_
    · exact .tail _ (.tail _ hq)
    refine Ev.mono (kk σ2 _ _ hK) (fun o s9 k9 n9 hq => ?_)
    simp only [Nat.add_assoc, Nat.zero_add] at hq ⊢; exact hq
  · refine ev_istore mL_0 d0_562 rfl (by decide) (lo2 := [(5, .int 2), (4, .int i), (3, .ref 351), (2, .ref 246), (1, .ref 0), (0, .ref 352)]) rfl rfl ?_
    refine ev_aload_n d0_564 rfl m3 rfl ?_
    refine ev_aload_n d0_565 rfl m5 rfl ?_
    refine ev_iload d0_566 rfl m1 rfl ?_
    refine ev_iconst d0_568 ci_1 rfl ?_
    refine ev_iadd d0_569 rfl ?_
    refine ev_scrv (v := w 1) mK9_0 d0_570 (by rw [hN]; exact hw.2.1.1) (by rw [hS]; exact hw.2.1.2) rfl ?_
    refine ev_aload_n d0_571 rfl m5 rfl ?_
    refine ev_iload d0_572 rfl m1 rfl ?_
    refine ev_iconst d0_574 ci_2 rfl ?_
    refine ev_iadd d0_575 rfl ?_
    refine ev_scrv (v := w 2) mK9_0 d0_576 (by rw [hN]; exact hw.2.2.1.1) (by rw [hS]; exact hw.2.2.1.2) rfl ?_
    refine ev_call mO_0 d0_577 (cm_v2 ml_13_101 (Or.inl mK_319) mA_319 cz_246_319 (Nat.le_of_ble_eq_true rfl)) (by decide) nu_319 sl_319 (kn_of rfl nd_3) h2 (fun o2 σ2 k2 s2 hh2 => ?_)
    obtain ⟨⟨b, rfl⟩, ht, hK⟩ := hh2
    refine evc_i ?_
    refine ev_istore mL_0 d0_580 rfl (by decide) (lo2 := [(6, .int b), (5, .int 2), (4, .int i), (3, .ref 351), (2, .ref 246), (1, .ref 0), (0, .ref 352)]) rfl rfl ?_
    refine ev_aload_n d0_582 rfl m4 rfl ?_
    refine ev_ci mO_0 d0_583 (cm_v0 ml_13_71 (Or.inl mK_185) mA_185 cz_246_185 (Nat.le_of_ble_eq_true rfl)) (by decide) nu_185 sl_185 (kn_of rfl nd_1) (sp_X12_thrown σ2) rfl ?_
    rw [ht]
    refine ev_iload d0_586 rfl m1 rfl ?_
    refine ev_ic_eq d0_588 (t := 593) (aj rfl) rfl (fun _ => ?_) (fun z => absurd rfl z)
    refine ev_iload d0_593 rfl m1 rfl ?_
    refine ev_if_ne d0_595 (t := 610) (aj rfl) rfl (fun _ => ?_) (fun z => absurd z (by decide))
    refine ev_goto d0_610 (t := 1030) (aj rfl) ?_
    refine Ev.sub (lo2 := lw i) (fun q hq => ?_) ?_
    · exact .tail _ (.tail _ hq)
    refine Ev.mono (kk σ2 _ _ hK) (fun o s9 k9 n9 hq => ?_)
    simp only [Nat.add_assoc, Nat.zero_add] at hq ⊢; exact hq
theorem d0_613 : decode (mC 0) 613 = .ok (.aload_n 1, 1) := by decide +kernel
theorem d0_614 : decode (mC 0) 614 = .ok (.aload_n 0, 1) := by decide +kernel
theorem d0_615 : decode (mC 0) 615 = .ok (.iload 4, 2) := by decide +kernel
theorem d0_617 : decode (mC 0) 617 = .ok (.iconst 1, 1) := by decide +kernel
theorem d0_618 : decode (mC 0) 618 = .ok (.iadd, 1) := by decide +kernel
theorem d0_619 : decode (mC 0) 619 = .ok (.iaload, 1) := by decide +kernel
theorem d0_620 : decode (mC 0) 620 = .ok (.aload_n 0, 1) := by decide +kernel
theorem d0_621 : decode (mC 0) 621 = .ok (.iload 4, 2) := by decide +kernel
theorem d0_623 : decode (mC 0) 623 = .ok (.iconst 2, 1) := by decide +kernel
theorem d0_624 : decode (mC 0) 624 = .ok (.iadd, 1) := by decide +kernel
theorem d0_625 : decode (mC 0) 625 = .ok (.iaload, 1) := by decide +kernel
theorem d0_626 : decode (mC 0) 626 = .ok (.aload_n 0, 1) := by decide +kernel
theorem d0_627 : decode (mC 0) 627 = .ok (.iload 4, 2) := by decide +kernel
theorem d0_629 : decode (mC 0) 629 = .ok (.iconst 3, 1) := by decide +kernel
theorem d0_630 : decode (mC 0) 630 = .ok (.iadd, 1) := by decide +kernel
theorem d0_631 : decode (mC 0) 631 = .ok (.iaload, 1) := by decide +kernel
theorem d0_632 : decode (mC 0) 632 = .ok (.aload_n 3, 1) := by decide +kernel
theorem d0_633 : decode (mC 0) 633 = .ok (.invokestatic 102, 3) := by decide +kernel
theorem ml_13_102 : am_ml 13 102 = some 338 := by decide +kernel
theorem mK_338 : mK 338 = 3 := by decide +kernel
theorem mm_13_102 : (mmT 13).find? (fun q => q.1 == 102) = none := by decide +kernel
theorem mA_338 : 5 = mA 338 := by decide +kernel
theorem sl_338 : 5 ≤ mL 338 := by decide +kernel
theorem nu_338 : ¬ 338 ≤ 15 := by decide
theorem d0_636 : decode (mC 0) 636 = .ok (.istore 5, 2) := by decide +kernel
theorem d0_638 : decode (mC 0) 638 = .ok (.aload_n 2, 1) := by decide +kernel
theorem d0_639 : decode (mC 0) 639 = .ok (.aload_n 0, 1) := by decide +kernel
theorem d0_640 : decode (mC 0) 640 = .ok (.iload 4, 2) := by decide +kernel
theorem d0_642 : decode (mC 0) 642 = .ok (.iconst 1, 1) := by decide +kernel
theorem d0_643 : decode (mC 0) 643 = .ok (.iadd, 1) := by decide +kernel
theorem d0_644 : decode (mC 0) 644 = .ok (.iaload, 1) := by decide +kernel
theorem d0_645 : decode (mC 0) 645 = .ok (.aload_n 0, 1) := by decide +kernel
theorem d0_646 : decode (mC 0) 646 = .ok (.iload 4, 2) := by decide +kernel
theorem d0_648 : decode (mC 0) 648 = .ok (.iconst 2, 1) := by decide +kernel
theorem d0_649 : decode (mC 0) 649 = .ok (.iadd, 1) := by decide +kernel
theorem d0_650 : decode (mC 0) 650 = .ok (.iaload, 1) := by decide +kernel
theorem d0_651 : decode (mC 0) 651 = .ok (.aload_n 0, 1) := by decide +kernel
theorem d0_652 : decode (mC 0) 652 = .ok (.iload 4, 2) := by decide +kernel
theorem d0_654 : decode (mC 0) 654 = .ok (.iconst 3, 1) := by decide +kernel
theorem d0_655 : decode (mC 0) 655 = .ok (.iadd, 1) := by decide +kernel
theorem d0_656 : decode (mC 0) 656 = .ok (.iaload, 1) := by decide +kernel
theorem d0_657 : decode (mC 0) 657 = .ok (.invokevirtual 105, 3) := by decide +kernel
theorem ml_13_105 : am_ml 13 105 = some 320 := by decide +kernel
theorem mK_320 : mK 320 = 0 := by decide +kernel
theorem cz_246_320 : am_cls 246 = some (mO 320) := by decide +kernel
theorem mA_320 : 3 = mA 320 := by decide +kernel
theorem sl_320 : 4 ≤ mL 320 := by decide +kernel
theorem nu_320 : ¬ 320 ≤ 15 := by decide
theorem d0_660 : decode (mC 0) 660 = .ok (.istore 6, 2) := by decide +kernel
theorem d0_662 : decode (mC 0) 662 = .ok (.aload_n 2, 1) := by decide +kernel
theorem d0_663 : decode (mC 0) 663 = .ok (.invokevirtual 71, 3) := by decide +kernel
theorem d0_666 : decode (mC 0) 666 = .ok (.iload 5, 2) := by decide +kernel
theorem d0_668 : decode (mC 0) 668 = .ok (.if_icmp .eq 5, 3) := by decide +kernel
theorem d0_673 : decode (mC 0) 673 = .ok (.iload 5, 2) := by decide +kernel
theorem d0_675 : decode (mC 0) 675 = .ok (.ifCond .ne 15, 3) := by decide +kernel
theorem d0_678 : decode (mC 0) 678 = .ok (.aload_n 3, 1) := by decide +kernel
theorem d0_679 : decode (mC 0) 679 = .ok (.iconst 0, 1) := by decide +kernel
theorem d0_680 : decode (mC 0) 680 = .ok (.laload, 1) := by decide +kernel
theorem d0_681 : decode (mC 0) 681 = .ok (.iload 6, 2) := by decide +kernel
theorem d0_683 : decode (mC 0) 683 = .ok (.i2l, 1) := by decide +kernel
theorem d0_684 : decode (mC 0) 684 = .ok (.lcmp, 1) := by decide +kernel
theorem d0_685 : decode (mC 0) 685 = .ok (.ifCond .eq 5, 3) := by decide +kernel
theorem d0_690 : decode (mC 0) 690 = .ok (.goto 340, 3) := by decide +kernel
set_option maxRecDepth 4000 in
theorem lc_11 {i : Int32} {w : Nat → Int32} {σ : SS} {K : KK} {Q : EQ} (hw : Wn σ i w) (h : PairU 157 320 "java/lang/IllegalStateException" "java/lang/IndexOutOfBoundsException" [.int (w 1), .int (w 2), .int (w 3)] σ K) (kk : ∀ σ2 k s, K σ2 k s → Ev 1000 0 1030 (lw i) [] σ2 (fun o s9 k9 n9 => Q o s9 (k + k9) (s + n9))) : Ev 1000 0 613 (lw i) [] σ Q := by
  refine ev_aload_n d0_613 rfl m3 rfl ?_
  refine ev_aload_n d0_614 rfl m4 rfl ?_
  refine ev_iload d0_615 rfl m0 rfl ?_
  refine ev_iconst d0_617 ci_1 rfl ?_
  refine ev_iadd d0_618 rfl ?_
  refine ev_scrv (v := w 1) mK9_0 d0_619 hw.2.1.1 hw.2.1.2 rfl ?_
  refine ev_aload_n d0_620 rfl m4 rfl ?_
  refine ev_iload d0_621 rfl m0 rfl ?_
  refine ev_iconst d0_623 ci_2 rfl ?_
  refine ev_iadd d0_624 rfl ?_
  refine ev_scrv (v := w 2) mK9_0 d0_625 hw.2.2.1.1 hw.2.2.1.2 rfl ?_
  refine ev_aload_n d0_626 rfl m4 rfl ?_
  refine ev_iload d0_627 rfl m0 rfl ?_
  refine ev_iconst d0_629 ci_3 rfl ?_
  refine ev_iadd d0_630 rfl ?_
  refine ev_scrv (v := w 3) mK9_0 d0_631 hw.2.2.2.1.1 hw.2.2.2.1.2 rfl ?_
  refine ev_aload_n d0_632 rfl m1 rfl ?_
  refine ev_call mO_0 d0_633 (cm_s5 mm_13_102 ml_13_102 (Or.inr mK_338) mA_338 (Nat.le_of_ble_eq_true rfl)) (by decide) nu_338 sl_338 (kn_of rfl nd_5) (sp_L_sign (K := fun c σ1 k s => sN σ1 = sN σ ∧ sS σ1 = sS σ ∧ ((c = 0 ∧ ∃ v, Ev 999 320 0 (lv_args 0 (.ref 246 :: [.int (w 1), .int (w 2), .int (w 3)])) [] σ1 (fun o2 σ2 k2 s2 => o2 = .inl (some v) ∧ sI σ2 246 0 = 0 ∧ sO σ2 0 = v.toInt64 ∧ K σ2 (k + k2) (s + s2))) ∨ (c = 1 ∧ Ev 999 320 0 (lv_args 0 (.ref 246 :: [.int (w 1), .int (w 2), .int (w 3)])) [] σ1 (fun o2 σ2 k2 s2 => (∃ b, o2 = .inl (some b)) ∧ sI σ2 246 0 = 1 ∧ K σ2 (k + k2) (s + s2))) ∨ (c = 2 ∧ Ev 999 320 0 (lv_args 0 (.ref 246 :: [.int (w 1), .int (w 2), .int (w 3)])) [] σ1 (fun o2 σ2 k2 s2 => (∃ b, o2 = .inl (some b)) ∧ sI σ2 246 0 = 2 ∧ K σ2 (k + k2) (s + s2))))) (h.mono (fun o σ1 k s hh => ?_))) (fun o σ1 k s hh => ?_)
  · obtain ⟨hN, hS, hh⟩ := hh
    rcases hh with ⟨v, rfl, hh⟩ | ⟨rfl, hh⟩ | ⟨rfl, hh⟩
    · exact Or.inl ⟨v, rfl, hN, hS, Or.inl ⟨rfl, v, hh⟩⟩
    · exact Or.inr (Or.inl ⟨rfl, hN, hS, Or.inr (Or.inl ⟨rfl, hh⟩)⟩)
    · exact Or.inr (Or.inr ⟨rfl, hN, hS, Or.inr (Or.inr ⟨rfl, hh⟩)⟩)
  obtain ⟨c, rfl, hN, hS, hh⟩ := hh
  refine evc_i ?_
  rcases hh with ⟨rfl, v, h2⟩ | ⟨rfl, h2⟩ | ⟨rfl, h2⟩
  · refine ev_istore mL_0 d0_636 rfl (by decide) (lo2 := [(5, .int 0), (4, .int i), (3, .ref 351), (2, .ref 246), (1, .ref 0), (0, .ref 352)]) rfl rfl ?_
    refine ev_aload_n d0_638 rfl m3 rfl ?_
    refine ev_aload_n d0_639 rfl m5 rfl ?_
    refine ev_iload d0_640 rfl m1 rfl ?_
    refine ev_iconst d0_642 ci_1 rfl ?_
    refine ev_iadd d0_643 rfl ?_
    refine ev_scrv (v := w 1) mK9_0 d0_644 (by rw [hN]; exact hw.2.1.1) (by rw [hS]; exact hw.2.1.2) rfl ?_
    refine ev_aload_n d0_645 rfl m5 rfl ?_
    refine ev_iload d0_646 rfl m1 rfl ?_
    refine ev_iconst d0_648 ci_2 rfl ?_
    refine ev_iadd d0_649 rfl ?_
    refine ev_scrv (v := w 2) mK9_0 d0_650 (by rw [hN]; exact hw.2.2.1.1) (by rw [hS]; exact hw.2.2.1.2) rfl ?_
    refine ev_aload_n d0_651 rfl m5 rfl ?_
    refine ev_iload d0_652 rfl m1 rfl ?_
    refine ev_iconst d0_654 ci_3 rfl ?_
    refine ev_iadd d0_655 rfl ?_
    refine ev_scrv (v := w 3) mK9_0 d0_656 (by rw [hN]; exact hw.2.2.2.1.1) (by rw [hS]; exact hw.2.2.2.1.2) rfl ?_
    refine ev_call mO_0 d0_657 (cm_v3 ml_13_105 (Or.inl mK_320) mA_320 cz_246_320 (Nat.le_of_ble_eq_true rfl)) (by decide) nu_320 sl_320 (kn_of rfl nd_4) h2 (fun o2 σ2 k2 s2 hh2 => ?_)
    obtain ⟨rfl, ht, hO, hK⟩ := hh2
    refine evc_i ?_
    refine ev_istore mL_0 d0_660 rfl (by decide) (lo2 := [(6, .int v), (5, .int 0), (4, .int i), (3, .ref 351), (2, .ref 246), (1, .ref 0), (0, .ref 352)]) rfl rfl ?_
    refine ev_aload_n d0_662 rfl m4 rfl ?_
    refine ev_ci mO_0 d0_663 (cm_v0 ml_13_71 (Or.inl mK_185) mA_185 cz_246_185 (Nat.le_of_ble_eq_true rfl)) (by decide) nu_185 sl_185 (kn_of rfl nd_1) (sp_X12_thrown σ2) rfl ?_
    rw [ht]
    refine ev_iload d0_666 rfl m1 rfl ?_
    refine ev_ic_eq d0_668 (t := 673) (aj rfl) rfl (fun _ => ?_) (fun z => absurd rfl z)
    refine ev_iload d0_673 rfl m1 rfl ?_
    refine ev_if_ne d0_675 (t := 690) (aj rfl) rfl (fun z => absurd rfl z) (fun _ => ?_)
    refine ev_aload_n d0_678 rfl m3 rfl ?_
    refine ev_iconst d0_679 ci_0 rfl ?_
    refine ev_lald d0_680 rfl ?_
    rw [hO]
    refine ev_iload d0_681 rfl m0 rfl ?_
    refine ev_i2l d0_683 rfl ?_
    refine ev_lcmp d0_684 rfl ?_
    rw [lg_cmp_self]
    refine ev_if_eq d0_685 (t := 690) (aj rfl) rfl (fun _ => ?_) (fun z => absurd rfl z)
    refine ev_goto d0_690 (t := 1030) (aj rfl) ?_
    refine Ev.sub (lo2 := lw i) (fun q hq => ?_) ?_
    · exact .tail _ (.tail _ hq)
    refine Ev.mono (kk σ2 _ _ hK) (fun o s9 k9 n9 hq => ?_)
    simp only [Nat.add_assoc, Nat.zero_add] at hq ⊢; exact hq
  · refine ev_istore mL_0 d0_636 rfl (by decide) (lo2 := [(5, .int 1), (4, .int i), (3, .ref 351), (2, .ref 246), (1, .ref 0), (0, .ref 352)]) rfl rfl ?_
    refine ev_aload_n d0_638 rfl m3 rfl ?_
    refine ev_aload_n d0_639 rfl m5 rfl ?_
    refine ev_iload d0_640 rfl m1 rfl ?_
    refine ev_iconst d0_642 ci_1 rfl ?_
    refine ev_iadd d0_643 rfl ?_
    refine ev_scrv (v := w 1) mK9_0 d0_644 (by rw [hN]; exact hw.2.1.1) (by rw [hS]; exact hw.2.1.2) rfl ?_
    refine ev_aload_n d0_645 rfl m5 rfl ?_
    refine ev_iload d0_646 rfl m1 rfl ?_
    refine ev_iconst d0_648 ci_2 rfl ?_
    refine ev_iadd d0_649 rfl ?_
    refine ev_scrv (v := w 2) mK9_0 d0_650 (by rw [hN]; exact hw.2.2.1.1) (by rw [hS]; exact hw.2.2.1.2) rfl ?_
    refine ev_aload_n d0_651 rfl m5 rfl ?_
    refine ev_iload d0_652 rfl m1 rfl ?_
    refine ev_iconst d0_654 ci_3 rfl ?_
    refine ev_iadd d0_655 rfl ?_
    refine ev_scrv (v := w 3) mK9_0 d0_656 (by rw [hN]; exact hw.2.2.2.1.1) (by rw [hS]; exact hw.2.2.2.1.2) rfl ?_
    refine ev_call mO_0 d0_657 (cm_v3 ml_13_105 (Or.inl mK_320) mA_320 cz_246_320 (Nat.le_of_ble_eq_true rfl)) (by decide) nu_320 sl_320 (kn_of rfl nd_4) h2 (fun o2 σ2 k2 s2 hh2 => ?_)
    obtain ⟨⟨b, rfl⟩, ht, hK⟩ := hh2
    refine evc_i ?_
    refine ev_istore mL_0 d0_660 rfl (by decide) (lo2 := [(6, .int b), (5, .int 1), (4, .int i), (3, .ref 351), (2, .ref 246), (1, .ref 0), (0, .ref 352)]) rfl rfl ?_
    refine ev_aload_n d0_662 rfl m4 rfl ?_
    refine ev_ci mO_0 d0_663 (cm_v0 ml_13_71 (Or.inl mK_185) mA_185 cz_246_185 (Nat.le_of_ble_eq_true rfl)) (by decide) nu_185 sl_185 (kn_of rfl nd_1) (sp_X12_thrown σ2) rfl ?_
    rw [ht]
    refine ev_iload d0_666 rfl m1 rfl ?_
    refine ev_ic_eq d0_668 (t := 673) (aj rfl) rfl (fun _ => ?_) (fun z => absurd rfl z)
    refine ev_iload d0_673 rfl m1 rfl ?_
    refine ev_if_ne d0_675 (t := 690) (aj rfl) rfl (fun _ => ?_) (fun z => absurd z (by decide))
    refine ev_goto d0_690 (t := 1030) (aj rfl) ?_
    refine Ev.sub (lo2 := lw i) (fun q hq => ?_) ?_
    · exact .tail _ (.tail _ hq)
    refine Ev.mono (kk σ2 _ _ hK) (fun o s9 k9 n9 hq => ?_)
    simp only [Nat.add_assoc, Nat.zero_add] at hq ⊢; exact hq
  · refine ev_istore mL_0 d0_636 rfl (by decide) (lo2 := [(5, .int 2), (4, .int i), (3, .ref 351), (2, .ref 246), (1, .ref 0), (0, .ref 352)]) rfl rfl ?_
    refine ev_aload_n d0_638 rfl m3 rfl ?_
    refine ev_aload_n d0_639 rfl m5 rfl ?_
    refine ev_iload d0_640 rfl m1 rfl ?_
    refine ev_iconst d0_642 ci_1 rfl ?_
    refine ev_iadd d0_643 rfl ?_
    refine ev_scrv (v := w 1) mK9_0 d0_644 (by rw [hN]; exact hw.2.1.1) (by rw [hS]; exact hw.2.1.2) rfl ?_
    refine ev_aload_n d0_645 rfl m5 rfl ?_
    refine ev_iload d0_646 rfl m1 rfl ?_
    refine ev_iconst d0_648 ci_2 rfl ?_
    refine ev_iadd d0_649 rfl ?_
    refine ev_scrv (v := w 2) mK9_0 d0_650 (by rw [hN]; exact hw.2.2.1.1) (by rw [hS]; exact hw.2.2.1.2) rfl ?_
    refine ev_aload_n d0_651 rfl m5 rfl ?_
    refine ev_iload d0_652 rfl m1 rfl ?_
    refine ev_iconst d0_654 ci_3 rfl ?_
    refine ev_iadd d0_655 rfl ?_
    refine ev_scrv (v := w 3) mK9_0 d0_656 (by rw [hN]; exact hw.2.2.2.1.1) (by rw [hS]; exact hw.2.2.2.1.2) rfl ?_
    refine ev_call mO_0 d0_657 (cm_v3 ml_13_105 (Or.inl mK_320) mA_320 cz_246_320 (Nat.le_of_ble_eq_true rfl)) (by decide) nu_320 sl_320 (kn_of rfl nd_4) h2 (fun o2 σ2 k2 s2 hh2 => ?_)
    obtain ⟨⟨b, rfl⟩, ht, hK⟩ := hh2
    refine evc_i ?_
    refine ev_istore mL_0 d0_660 rfl (by decide) (lo2 := [(6, .int b), (5, .int 2), (4, .int i), (3, .ref 351), (2, .ref 246), (1, .ref 0), (0, .ref 352)]) rfl rfl ?_
    refine ev_aload_n d0_662 rfl m4 rfl ?_
    refine ev_ci mO_0 d0_663 (cm_v0 ml_13_71 (Or.inl mK_185) mA_185 cz_246_185 (Nat.le_of_ble_eq_true rfl)) (by decide) nu_185 sl_185 (kn_of rfl nd_1) (sp_X12_thrown σ2) rfl ?_
    rw [ht]
    refine ev_iload d0_666 rfl m1 rfl ?_
    refine ev_ic_eq d0_668 (t := 673) (aj rfl) rfl (fun _ => ?_) (fun z => absurd rfl z)
    refine ev_iload d0_673 rfl m1 rfl ?_
    refine ev_if_ne d0_675 (t := 690) (aj rfl) rfl (fun _ => ?_) (fun z => absurd z (by decide))
    refine ev_goto d0_690 (t := 1030) (aj rfl) ?_
    refine Ev.sub (lo2 := lw i) (fun q hq => ?_) ?_
    · exact .tail _ (.tail _ hq)
    refine Ev.mono (kk σ2 _ _ hK) (fun o s9 k9 n9 hq => ?_)
    simp only [Nat.add_assoc, Nat.zero_add] at hq ⊢; exact hq
theorem d0_693 : decode (mC 0) 693 = .ok (.aload_n 1, 1) := by decide +kernel
theorem d0_694 : decode (mC 0) 694 = .ok (.aload_n 0, 1) := by decide +kernel
theorem d0_695 : decode (mC 0) 695 = .ok (.iload 4, 2) := by decide +kernel
theorem d0_697 : decode (mC 0) 697 = .ok (.iconst 1, 1) := by decide +kernel
theorem d0_698 : decode (mC 0) 698 = .ok (.iadd, 1) := by decide +kernel
theorem d0_699 : decode (mC 0) 699 = .ok (.iaload, 1) := by decide +kernel
theorem d0_700 : decode (mC 0) 700 = .ok (.aload_n 0, 1) := by decide +kernel
theorem d0_701 : decode (mC 0) 701 = .ok (.iload 4, 2) := by decide +kernel
theorem d0_703 : decode (mC 0) 703 = .ok (.iconst 2, 1) := by decide +kernel
theorem d0_704 : decode (mC 0) 704 = .ok (.iadd, 1) := by decide +kernel
theorem d0_705 : decode (mC 0) 705 = .ok (.iaload, 1) := by decide +kernel
theorem d0_706 : decode (mC 0) 706 = .ok (.aload_n 0, 1) := by decide +kernel
theorem d0_707 : decode (mC 0) 707 = .ok (.iload 4, 2) := by decide +kernel
theorem d0_709 : decode (mC 0) 709 = .ok (.iconst 3, 1) := by decide +kernel
theorem d0_710 : decode (mC 0) 710 = .ok (.iadd, 1) := by decide +kernel
theorem d0_711 : decode (mC 0) 711 = .ok (.iaload, 1) := by decide +kernel
theorem d0_712 : decode (mC 0) 712 = .ok (.aload_n 3, 1) := by decide +kernel
theorem d0_713 : decode (mC 0) 713 = .ok (.invokestatic 106, 3) := by decide +kernel
theorem ml_13_106 : am_ml 13 106 = some 339 := by decide +kernel
theorem mK_339 : mK 339 = 3 := by decide +kernel
theorem mm_13_106 : (mmT 13).find? (fun q => q.1 == 106) = none := by decide +kernel
theorem mA_339 : 5 = mA 339 := by decide +kernel
theorem sl_339 : 5 ≤ mL 339 := by decide +kernel
theorem nu_339 : ¬ 339 ≤ 15 := by decide
theorem d0_716 : decode (mC 0) 716 = .ok (.istore 5, 2) := by decide +kernel
theorem d0_718 : decode (mC 0) 718 = .ok (.aload_n 2, 1) := by decide +kernel
theorem d0_719 : decode (mC 0) 719 = .ok (.aload_n 0, 1) := by decide +kernel
theorem d0_720 : decode (mC 0) 720 = .ok (.iload 4, 2) := by decide +kernel
theorem d0_722 : decode (mC 0) 722 = .ok (.iconst 1, 1) := by decide +kernel
theorem d0_723 : decode (mC 0) 723 = .ok (.iadd, 1) := by decide +kernel
theorem d0_724 : decode (mC 0) 724 = .ok (.iaload, 1) := by decide +kernel
theorem d0_725 : decode (mC 0) 725 = .ok (.aload_n 0, 1) := by decide +kernel
theorem d0_726 : decode (mC 0) 726 = .ok (.iload 4, 2) := by decide +kernel
theorem d0_728 : decode (mC 0) 728 = .ok (.iconst 2, 1) := by decide +kernel
theorem d0_729 : decode (mC 0) 729 = .ok (.iadd, 1) := by decide +kernel
theorem d0_730 : decode (mC 0) 730 = .ok (.iaload, 1) := by decide +kernel
theorem d0_731 : decode (mC 0) 731 = .ok (.aload_n 0, 1) := by decide +kernel
theorem d0_732 : decode (mC 0) 732 = .ok (.iload 4, 2) := by decide +kernel
theorem d0_734 : decode (mC 0) 734 = .ok (.iconst 3, 1) := by decide +kernel
theorem d0_735 : decode (mC 0) 735 = .ok (.iadd, 1) := by decide +kernel
theorem d0_736 : decode (mC 0) 736 = .ok (.iaload, 1) := by decide +kernel
theorem d0_737 : decode (mC 0) 737 = .ok (.invokevirtual 108, 3) := by decide +kernel
theorem ml_13_108 : am_ml 13 108 = some 321 := by decide +kernel
theorem mK_321 : mK 321 = 0 := by decide +kernel
theorem cz_246_321 : am_cls 246 = some (mO 321) := by decide +kernel
theorem mA_321 : 3 = mA 321 := by decide +kernel
theorem sl_321 : 4 ≤ mL 321 := by decide +kernel
theorem nu_321 : ¬ 321 ≤ 15 := by decide
theorem d0_740 : decode (mC 0) 740 = .ok (.istore 6, 2) := by decide +kernel
theorem d0_742 : decode (mC 0) 742 = .ok (.aload_n 2, 1) := by decide +kernel
theorem d0_743 : decode (mC 0) 743 = .ok (.invokevirtual 71, 3) := by decide +kernel
theorem d0_746 : decode (mC 0) 746 = .ok (.iload 5, 2) := by decide +kernel
theorem d0_748 : decode (mC 0) 748 = .ok (.if_icmp .eq 5, 3) := by decide +kernel
theorem d0_753 : decode (mC 0) 753 = .ok (.iload 5, 2) := by decide +kernel
theorem d0_755 : decode (mC 0) 755 = .ok (.ifCond .ne 15, 3) := by decide +kernel
theorem d0_758 : decode (mC 0) 758 = .ok (.aload_n 3, 1) := by decide +kernel
theorem d0_759 : decode (mC 0) 759 = .ok (.iconst 0, 1) := by decide +kernel
theorem d0_760 : decode (mC 0) 760 = .ok (.laload, 1) := by decide +kernel
theorem d0_761 : decode (mC 0) 761 = .ok (.iload 6, 2) := by decide +kernel
theorem d0_763 : decode (mC 0) 763 = .ok (.i2l, 1) := by decide +kernel
theorem d0_764 : decode (mC 0) 764 = .ok (.lcmp, 1) := by decide +kernel
theorem d0_765 : decode (mC 0) 765 = .ok (.ifCond .eq 5, 3) := by decide +kernel
theorem d0_770 : decode (mC 0) 770 = .ok (.goto 260, 3) := by decide +kernel
set_option maxRecDepth 4000 in
theorem lc_12 {i : Int32} {w : Nat → Int32} {σ : SS} {K : KK} {Q : EQ} (hw : Wn σ i w) (h : PairU 158 321 "java/lang/IllegalStateException" "java/lang/IndexOutOfBoundsException" [.int (w 1), .int (w 2), .int (w 3)] σ K) (kk : ∀ σ2 k s, K σ2 k s → Ev 1000 0 1030 (lw i) [] σ2 (fun o s9 k9 n9 => Q o s9 (k + k9) (s + n9))) : Ev 1000 0 693 (lw i) [] σ Q := by
  refine ev_aload_n d0_693 rfl m3 rfl ?_
  refine ev_aload_n d0_694 rfl m4 rfl ?_
  refine ev_iload d0_695 rfl m0 rfl ?_
  refine ev_iconst d0_697 ci_1 rfl ?_
  refine ev_iadd d0_698 rfl ?_
  refine ev_scrv (v := w 1) mK9_0 d0_699 hw.2.1.1 hw.2.1.2 rfl ?_
  refine ev_aload_n d0_700 rfl m4 rfl ?_
  refine ev_iload d0_701 rfl m0 rfl ?_
  refine ev_iconst d0_703 ci_2 rfl ?_
  refine ev_iadd d0_704 rfl ?_
  refine ev_scrv (v := w 2) mK9_0 d0_705 hw.2.2.1.1 hw.2.2.1.2 rfl ?_
  refine ev_aload_n d0_706 rfl m4 rfl ?_
  refine ev_iload d0_707 rfl m0 rfl ?_
  refine ev_iconst d0_709 ci_3 rfl ?_
  refine ev_iadd d0_710 rfl ?_
  refine ev_scrv (v := w 3) mK9_0 d0_711 hw.2.2.2.1.1 hw.2.2.2.1.2 rfl ?_
  refine ev_aload_n d0_712 rfl m1 rfl ?_
  refine ev_call mO_0 d0_713 (cm_s5 mm_13_106 ml_13_106 (Or.inr mK_339) mA_339 (Nat.le_of_ble_eq_true rfl)) (by decide) nu_339 sl_339 (kn_of rfl nd_5) (sp_L_style (K := fun c σ1 k s => sN σ1 = sN σ ∧ sS σ1 = sS σ ∧ ((c = 0 ∧ ∃ v, Ev 999 321 0 (lv_args 0 (.ref 246 :: [.int (w 1), .int (w 2), .int (w 3)])) [] σ1 (fun o2 σ2 k2 s2 => o2 = .inl (some v) ∧ sI σ2 246 0 = 0 ∧ sO σ2 0 = v.toInt64 ∧ K σ2 (k + k2) (s + s2))) ∨ (c = 1 ∧ Ev 999 321 0 (lv_args 0 (.ref 246 :: [.int (w 1), .int (w 2), .int (w 3)])) [] σ1 (fun o2 σ2 k2 s2 => (∃ b, o2 = .inl (some b)) ∧ sI σ2 246 0 = 1 ∧ K σ2 (k + k2) (s + s2))) ∨ (c = 2 ∧ Ev 999 321 0 (lv_args 0 (.ref 246 :: [.int (w 1), .int (w 2), .int (w 3)])) [] σ1 (fun o2 σ2 k2 s2 => (∃ b, o2 = .inl (some b)) ∧ sI σ2 246 0 = 2 ∧ K σ2 (k + k2) (s + s2))))) (h.mono (fun o σ1 k s hh => ?_))) (fun o σ1 k s hh => ?_)
  · obtain ⟨hN, hS, hh⟩ := hh
    rcases hh with ⟨v, rfl, hh⟩ | ⟨rfl, hh⟩ | ⟨rfl, hh⟩
    · exact Or.inl ⟨v, rfl, hN, hS, Or.inl ⟨rfl, v, hh⟩⟩
    · exact Or.inr (Or.inl ⟨rfl, hN, hS, Or.inr (Or.inl ⟨rfl, hh⟩)⟩)
    · exact Or.inr (Or.inr ⟨rfl, hN, hS, Or.inr (Or.inr ⟨rfl, hh⟩)⟩)
  obtain ⟨c, rfl, hN, hS, hh⟩ := hh
  refine evc_i ?_
  rcases hh with ⟨rfl, v, h2⟩ | ⟨rfl, h2⟩ | ⟨rfl, h2⟩
  · refine ev_istore mL_0 d0_716 rfl (by decide) (lo2 := [(5, .int 0), (4, .int i), (3, .ref 351), (2, .ref 246), (1, .ref 0), (0, .ref 352)]) rfl rfl ?_
    refine ev_aload_n d0_718 rfl m3 rfl ?_
    refine ev_aload_n d0_719 rfl m5 rfl ?_
    refine ev_iload d0_720 rfl m1 rfl ?_
    refine ev_iconst d0_722 ci_1 rfl ?_
    refine ev_iadd d0_723 rfl ?_
    refine ev_scrv (v := w 1) mK9_0 d0_724 (by rw [hN]; exact hw.2.1.1) (by rw [hS]; exact hw.2.1.2) rfl ?_
    refine ev_aload_n d0_725 rfl m5 rfl ?_
    refine ev_iload d0_726 rfl m1 rfl ?_
    refine ev_iconst d0_728 ci_2 rfl ?_
    refine ev_iadd d0_729 rfl ?_
    refine ev_scrv (v := w 2) mK9_0 d0_730 (by rw [hN]; exact hw.2.2.1.1) (by rw [hS]; exact hw.2.2.1.2) rfl ?_
    refine ev_aload_n d0_731 rfl m5 rfl ?_
    refine ev_iload d0_732 rfl m1 rfl ?_
    refine ev_iconst d0_734 ci_3 rfl ?_
    refine ev_iadd d0_735 rfl ?_
    refine ev_scrv (v := w 3) mK9_0 d0_736 (by rw [hN]; exact hw.2.2.2.1.1) (by rw [hS]; exact hw.2.2.2.1.2) rfl ?_
    refine ev_call mO_0 d0_737 (cm_v3 ml_13_108 (Or.inl mK_321) mA_321 cz_246_321 (Nat.le_of_ble_eq_true rfl)) (by decide) nu_321 sl_321 (kn_of rfl nd_4) h2 (fun o2 σ2 k2 s2 hh2 => ?_)
    obtain ⟨rfl, ht, hO, hK⟩ := hh2
    refine evc_i ?_
    refine ev_istore mL_0 d0_740 rfl (by decide) (lo2 := [(6, .int v), (5, .int 0), (4, .int i), (3, .ref 351), (2, .ref 246), (1, .ref 0), (0, .ref 352)]) rfl rfl ?_
    refine ev_aload_n d0_742 rfl m4 rfl ?_
    refine ev_ci mO_0 d0_743 (cm_v0 ml_13_71 (Or.inl mK_185) mA_185 cz_246_185 (Nat.le_of_ble_eq_true rfl)) (by decide) nu_185 sl_185 (kn_of rfl nd_1) (sp_X12_thrown σ2) rfl ?_
    rw [ht]
    refine ev_iload d0_746 rfl m1 rfl ?_
    refine ev_ic_eq d0_748 (t := 753) (aj rfl) rfl (fun _ => ?_) (fun z => absurd rfl z)
    refine ev_iload d0_753 rfl m1 rfl ?_
    refine ev_if_ne d0_755 (t := 770) (aj rfl) rfl (fun z => absurd rfl z) (fun _ => ?_)
    refine ev_aload_n d0_758 rfl m3 rfl ?_
    refine ev_iconst d0_759 ci_0 rfl ?_
    refine ev_lald d0_760 rfl ?_
    rw [hO]
    refine ev_iload d0_761 rfl m0 rfl ?_
    refine ev_i2l d0_763 rfl ?_
    refine ev_lcmp d0_764 rfl ?_
    rw [lg_cmp_self]
    refine ev_if_eq d0_765 (t := 770) (aj rfl) rfl (fun _ => ?_) (fun z => absurd rfl z)
    refine ev_goto d0_770 (t := 1030) (aj rfl) ?_
    refine Ev.sub (lo2 := lw i) (fun q hq => ?_) ?_
    · exact .tail _ (.tail _ hq)
    refine Ev.mono (kk σ2 _ _ hK) (fun o s9 k9 n9 hq => ?_)
    simp only [Nat.add_assoc, Nat.zero_add] at hq ⊢; exact hq
  · refine ev_istore mL_0 d0_716 rfl (by decide) (lo2 := [(5, .int 1), (4, .int i), (3, .ref 351), (2, .ref 246), (1, .ref 0), (0, .ref 352)]) rfl rfl ?_
    refine ev_aload_n d0_718 rfl m3 rfl ?_
    refine ev_aload_n d0_719 rfl m5 rfl ?_
    refine ev_iload d0_720 rfl m1 rfl ?_
    refine ev_iconst d0_722 ci_1 rfl ?_
    refine ev_iadd d0_723 rfl ?_
    refine ev_scrv (v := w 1) mK9_0 d0_724 (by rw [hN]; exact hw.2.1.1) (by rw [hS]; exact hw.2.1.2) rfl ?_
    refine ev_aload_n d0_725 rfl m5 rfl ?_
    refine ev_iload d0_726 rfl m1 rfl ?_
    refine ev_iconst d0_728 ci_2 rfl ?_
    refine ev_iadd d0_729 rfl ?_
    refine ev_scrv (v := w 2) mK9_0 d0_730 (by rw [hN]; exact hw.2.2.1.1) (by rw [hS]; exact hw.2.2.1.2) rfl ?_
    refine ev_aload_n d0_731 rfl m5 rfl ?_
    refine ev_iload d0_732 rfl m1 rfl ?_
    refine ev_iconst d0_734 ci_3 rfl ?_
    refine ev_iadd d0_735 rfl ?_
    refine ev_scrv (v := w 3) mK9_0 d0_736 (by rw [hN]; exact hw.2.2.2.1.1) (by rw [hS]; exact hw.2.2.2.1.2) rfl ?_
    refine ev_call mO_0 d0_737 (cm_v3 ml_13_108 (Or.inl mK_321) mA_321 cz_246_321 (Nat.le_of_ble_eq_true rfl)) (by decide) nu_321 sl_321 (kn_of rfl nd_4) h2 (fun o2 σ2 k2 s2 hh2 => ?_)
    obtain ⟨⟨b, rfl⟩, ht, hK⟩ := hh2
    refine evc_i ?_
    refine ev_istore mL_0 d0_740 rfl (by decide) (lo2 := [(6, .int b), (5, .int 1), (4, .int i), (3, .ref 351), (2, .ref 246), (1, .ref 0), (0, .ref 352)]) rfl rfl ?_
    refine ev_aload_n d0_742 rfl m4 rfl ?_
    refine ev_ci mO_0 d0_743 (cm_v0 ml_13_71 (Or.inl mK_185) mA_185 cz_246_185 (Nat.le_of_ble_eq_true rfl)) (by decide) nu_185 sl_185 (kn_of rfl nd_1) (sp_X12_thrown σ2) rfl ?_
    rw [ht]
    refine ev_iload d0_746 rfl m1 rfl ?_
    refine ev_ic_eq d0_748 (t := 753) (aj rfl) rfl (fun _ => ?_) (fun z => absurd rfl z)
    refine ev_iload d0_753 rfl m1 rfl ?_
    refine ev_if_ne d0_755 (t := 770) (aj rfl) rfl (fun _ => ?_) (fun z => absurd z (by decide))
    refine ev_goto d0_770 (t := 1030) (aj rfl) ?_
    refine Ev.sub (lo2 := lw i) (fun q hq => ?_) ?_
    · exact .tail _ (.tail _ hq)
    refine Ev.mono (kk σ2 _ _ hK) (fun o s9 k9 n9 hq => ?_)
    simp only [Nat.add_assoc, Nat.zero_add] at hq ⊢; exact hq
  · refine ev_istore mL_0 d0_716 rfl (by decide) (lo2 := [(5, .int 2), (4, .int i), (3, .ref 351), (2, .ref 246), (1, .ref 0), (0, .ref 352)]) rfl rfl ?_
    refine ev_aload_n d0_718 rfl m3 rfl ?_
    refine ev_aload_n d0_719 rfl m5 rfl ?_
    refine ev_iload d0_720 rfl m1 rfl ?_
    refine ev_iconst d0_722 ci_1 rfl ?_
    refine ev_iadd d0_723 rfl ?_
    refine ev_scrv (v := w 1) mK9_0 d0_724 (by rw [hN]; exact hw.2.1.1) (by rw [hS]; exact hw.2.1.2) rfl ?_
    refine ev_aload_n d0_725 rfl m5 rfl ?_
    refine ev_iload d0_726 rfl m1 rfl ?_
    refine ev_iconst d0_728 ci_2 rfl ?_
    refine ev_iadd d0_729 rfl ?_
    refine ev_scrv (v := w 2) mK9_0 d0_730 (by rw [hN]; exact hw.2.2.1.1) (by rw [hS]; exact hw.2.2.1.2) rfl ?_
    refine ev_aload_n d0_731 rfl m5 rfl ?_
    refine ev_iload d0_732 rfl m1 rfl ?_
    refine ev_iconst d0_734 ci_3 rfl ?_
    refine ev_iadd d0_735 rfl ?_
    refine ev_scrv (v := w 3) mK9_0 d0_736 (by rw [hN]; exact hw.2.2.2.1.1) (by rw [hS]; exact hw.2.2.2.1.2) rfl ?_
    refine ev_call mO_0 d0_737 (cm_v3 ml_13_108 (Or.inl mK_321) mA_321 cz_246_321 (Nat.le_of_ble_eq_true rfl)) (by decide) nu_321 sl_321 (kn_of rfl nd_4) h2 (fun o2 σ2 k2 s2 hh2 => ?_)
    obtain ⟨⟨b, rfl⟩, ht, hK⟩ := hh2
    refine evc_i ?_
    refine ev_istore mL_0 d0_740 rfl (by decide) (lo2 := [(6, .int b), (5, .int 2), (4, .int i), (3, .ref 351), (2, .ref 246), (1, .ref 0), (0, .ref 352)]) rfl rfl ?_
    refine ev_aload_n d0_742 rfl m4 rfl ?_
    refine ev_ci mO_0 d0_743 (cm_v0 ml_13_71 (Or.inl mK_185) mA_185 cz_246_185 (Nat.le_of_ble_eq_true rfl)) (by decide) nu_185 sl_185 (kn_of rfl nd_1) (sp_X12_thrown σ2) rfl ?_
    rw [ht]
    refine ev_iload d0_746 rfl m1 rfl ?_
    refine ev_ic_eq d0_748 (t := 753) (aj rfl) rfl (fun _ => ?_) (fun z => absurd rfl z)
    refine ev_iload d0_753 rfl m1 rfl ?_
    refine ev_if_ne d0_755 (t := 770) (aj rfl) rfl (fun _ => ?_) (fun z => absurd z (by decide))
    refine ev_goto d0_770 (t := 1030) (aj rfl) ?_
    refine Ev.sub (lo2 := lw i) (fun q hq => ?_) ?_
    · exact .tail _ (.tail _ hq)
    refine Ev.mono (kk σ2 _ _ hK) (fun o s9 k9 n9 hq => ?_)
    simp only [Nat.add_assoc, Nat.zero_add] at hq ⊢; exact hq
theorem d0_773 : decode (mC 0) 773 = .ok (.aload_n 1, 1) := by decide +kernel
theorem d0_774 : decode (mC 0) 774 = .ok (.aload_n 0, 1) := by decide +kernel
theorem d0_775 : decode (mC 0) 775 = .ok (.iload 4, 2) := by decide +kernel
theorem d0_777 : decode (mC 0) 777 = .ok (.iconst 1, 1) := by decide +kernel
theorem d0_778 : decode (mC 0) 778 = .ok (.iadd, 1) := by decide +kernel
theorem d0_779 : decode (mC 0) 779 = .ok (.iaload, 1) := by decide +kernel
theorem d0_780 : decode (mC 0) 780 = .ok (.aload_n 0, 1) := by decide +kernel
theorem d0_781 : decode (mC 0) 781 = .ok (.iload 4, 2) := by decide +kernel
theorem d0_783 : decode (mC 0) 783 = .ok (.iconst 2, 1) := by decide +kernel
theorem d0_784 : decode (mC 0) 784 = .ok (.iadd, 1) := by decide +kernel
theorem d0_785 : decode (mC 0) 785 = .ok (.iaload, 1) := by decide +kernel
theorem d0_786 : decode (mC 0) 786 = .ok (.aload_n 3, 1) := by decide +kernel
theorem d0_787 : decode (mC 0) 787 = .ok (.invokestatic 109, 3) := by decide +kernel
theorem ml_13_109 : am_ml 13 109 = some 340 := by decide +kernel
theorem mK_340 : mK 340 = 3 := by decide +kernel
theorem mm_13_109 : (mmT 13).find? (fun q => q.1 == 109) = none := by decide +kernel
theorem mA_340 : 4 = mA 340 := by decide +kernel
theorem sl_340 : 4 ≤ mL 340 := by decide +kernel
theorem nu_340 : ¬ 340 ≤ 15 := by decide
theorem d0_790 : decode (mC 0) 790 = .ok (.istore 5, 2) := by decide +kernel
theorem d0_792 : decode (mC 0) 792 = .ok (.aload_n 2, 1) := by decide +kernel
theorem d0_793 : decode (mC 0) 793 = .ok (.aload_n 0, 1) := by decide +kernel
theorem d0_794 : decode (mC 0) 794 = .ok (.iload 4, 2) := by decide +kernel
theorem d0_796 : decode (mC 0) 796 = .ok (.iconst 1, 1) := by decide +kernel
theorem d0_797 : decode (mC 0) 797 = .ok (.iadd, 1) := by decide +kernel
theorem d0_798 : decode (mC 0) 798 = .ok (.iaload, 1) := by decide +kernel
theorem d0_799 : decode (mC 0) 799 = .ok (.aload_n 0, 1) := by decide +kernel
theorem d0_800 : decode (mC 0) 800 = .ok (.iload 4, 2) := by decide +kernel
theorem d0_802 : decode (mC 0) 802 = .ok (.iconst 2, 1) := by decide +kernel
theorem d0_803 : decode (mC 0) 803 = .ok (.iadd, 1) := by decide +kernel
theorem d0_804 : decode (mC 0) 804 = .ok (.iaload, 1) := by decide +kernel
theorem d0_805 : decode (mC 0) 805 = .ok (.invokevirtual 111, 3) := by decide +kernel
theorem ml_13_111 : am_ml 13 111 = some 322 := by decide +kernel
theorem mK_322 : mK 322 = 0 := by decide +kernel
theorem cz_246_322 : am_cls 246 = some (mO 322) := by decide +kernel
theorem mA_322 : 2 = mA 322 := by decide +kernel
theorem sl_322 : 3 ≤ mL 322 := by decide +kernel
theorem nu_322 : ¬ 322 ≤ 15 := by decide
theorem d0_808 : decode (mC 0) 808 = .ok (.istore 6, 2) := by decide +kernel
theorem d0_810 : decode (mC 0) 810 = .ok (.aload_n 2, 1) := by decide +kernel
theorem d0_811 : decode (mC 0) 811 = .ok (.invokevirtual 71, 3) := by decide +kernel
theorem d0_814 : decode (mC 0) 814 = .ok (.iload 5, 2) := by decide +kernel
theorem d0_816 : decode (mC 0) 816 = .ok (.if_icmp .eq 5, 3) := by decide +kernel
theorem d0_821 : decode (mC 0) 821 = .ok (.iload 5, 2) := by decide +kernel
theorem d0_823 : decode (mC 0) 823 = .ok (.ifCond .ne 15, 3) := by decide +kernel
theorem d0_826 : decode (mC 0) 826 = .ok (.aload_n 3, 1) := by decide +kernel
theorem d0_827 : decode (mC 0) 827 = .ok (.iconst 0, 1) := by decide +kernel
theorem d0_828 : decode (mC 0) 828 = .ok (.laload, 1) := by decide +kernel
theorem d0_829 : decode (mC 0) 829 = .ok (.iload 6, 2) := by decide +kernel
theorem d0_831 : decode (mC 0) 831 = .ok (.i2l, 1) := by decide +kernel
theorem d0_832 : decode (mC 0) 832 = .ok (.lcmp, 1) := by decide +kernel
theorem d0_833 : decode (mC 0) 833 = .ok (.ifCond .eq 5, 3) := by decide +kernel
theorem d0_838 : decode (mC 0) 838 = .ok (.goto 192, 3) := by decide +kernel
set_option maxRecDepth 4000 in
theorem lc_13 {i : Int32} {w : Nat → Int32} {σ : SS} {K : KK} {Q : EQ} (hw : Wn σ i w) (h : PairU 159 322 "java/lang/IllegalStateException" "java/lang/IndexOutOfBoundsException" [.int (w 1), .int (w 2)] σ K) (kk : ∀ σ2 k s, K σ2 k s → Ev 1000 0 1030 (lw i) [] σ2 (fun o s9 k9 n9 => Q o s9 (k + k9) (s + n9))) : Ev 1000 0 773 (lw i) [] σ Q := by
  refine ev_aload_n d0_773 rfl m3 rfl ?_
  refine ev_aload_n d0_774 rfl m4 rfl ?_
  refine ev_iload d0_775 rfl m0 rfl ?_
  refine ev_iconst d0_777 ci_1 rfl ?_
  refine ev_iadd d0_778 rfl ?_
  refine ev_scrv (v := w 1) mK9_0 d0_779 hw.2.1.1 hw.2.1.2 rfl ?_
  refine ev_aload_n d0_780 rfl m4 rfl ?_
  refine ev_iload d0_781 rfl m0 rfl ?_
  refine ev_iconst d0_783 ci_2 rfl ?_
  refine ev_iadd d0_784 rfl ?_
  refine ev_scrv (v := w 2) mK9_0 d0_785 hw.2.2.1.1 hw.2.2.1.2 rfl ?_
  refine ev_aload_n d0_786 rfl m1 rfl ?_
  refine ev_call mO_0 d0_787 (cm_s4 mm_13_109 ml_13_109 (Or.inr mK_340) mA_340 (Nat.le_of_ble_eq_true rfl)) (by decide) nu_340 sl_340 (kn_of rfl nd_4) (sp_L_origin (K := fun c σ1 k s => sN σ1 = sN σ ∧ sS σ1 = sS σ ∧ ((c = 0 ∧ ∃ v, Ev 999 322 0 (lv_args 0 (.ref 246 :: [.int (w 1), .int (w 2)])) [] σ1 (fun o2 σ2 k2 s2 => o2 = .inl (some v) ∧ sI σ2 246 0 = 0 ∧ sO σ2 0 = v.toInt64 ∧ K σ2 (k + k2) (s + s2))) ∨ (c = 1 ∧ Ev 999 322 0 (lv_args 0 (.ref 246 :: [.int (w 1), .int (w 2)])) [] σ1 (fun o2 σ2 k2 s2 => (∃ b, o2 = .inl (some b)) ∧ sI σ2 246 0 = 1 ∧ K σ2 (k + k2) (s + s2))) ∨ (c = 2 ∧ Ev 999 322 0 (lv_args 0 (.ref 246 :: [.int (w 1), .int (w 2)])) [] σ1 (fun o2 σ2 k2 s2 => (∃ b, o2 = .inl (some b)) ∧ sI σ2 246 0 = 2 ∧ K σ2 (k + k2) (s + s2))))) (h.mono (fun o σ1 k s hh => ?_))) (fun o σ1 k s hh => ?_)
  · obtain ⟨hN, hS, hh⟩ := hh
    rcases hh with ⟨v, rfl, hh⟩ | ⟨rfl, hh⟩ | ⟨rfl, hh⟩
    · exact Or.inl ⟨v, rfl, hN, hS, Or.inl ⟨rfl, v, hh⟩⟩
    · exact Or.inr (Or.inl ⟨rfl, hN, hS, Or.inr (Or.inl ⟨rfl, hh⟩)⟩)
    · exact Or.inr (Or.inr ⟨rfl, hN, hS, Or.inr (Or.inr ⟨rfl, hh⟩)⟩)
  obtain ⟨c, rfl, hN, hS, hh⟩ := hh
  refine evc_i ?_
  rcases hh with ⟨rfl, v, h2⟩ | ⟨rfl, h2⟩ | ⟨rfl, h2⟩
  · refine ev_istore mL_0 d0_790 rfl (by decide) (lo2 := [(5, .int 0), (4, .int i), (3, .ref 351), (2, .ref 246), (1, .ref 0), (0, .ref 352)]) rfl rfl ?_
    refine ev_aload_n d0_792 rfl m3 rfl ?_
    refine ev_aload_n d0_793 rfl m5 rfl ?_
    refine ev_iload d0_794 rfl m1 rfl ?_
    refine ev_iconst d0_796 ci_1 rfl ?_
    refine ev_iadd d0_797 rfl ?_
    refine ev_scrv (v := w 1) mK9_0 d0_798 (by rw [hN]; exact hw.2.1.1) (by rw [hS]; exact hw.2.1.2) rfl ?_
    refine ev_aload_n d0_799 rfl m5 rfl ?_
    refine ev_iload d0_800 rfl m1 rfl ?_
    refine ev_iconst d0_802 ci_2 rfl ?_
    refine ev_iadd d0_803 rfl ?_
    refine ev_scrv (v := w 2) mK9_0 d0_804 (by rw [hN]; exact hw.2.2.1.1) (by rw [hS]; exact hw.2.2.1.2) rfl ?_
    refine ev_call mO_0 d0_805 (cm_v2 ml_13_111 (Or.inl mK_322) mA_322 cz_246_322 (Nat.le_of_ble_eq_true rfl)) (by decide) nu_322 sl_322 (kn_of rfl nd_3) h2 (fun o2 σ2 k2 s2 hh2 => ?_)
    obtain ⟨rfl, ht, hO, hK⟩ := hh2
    refine evc_i ?_
    refine ev_istore mL_0 d0_808 rfl (by decide) (lo2 := [(6, .int v), (5, .int 0), (4, .int i), (3, .ref 351), (2, .ref 246), (1, .ref 0), (0, .ref 352)]) rfl rfl ?_
    refine ev_aload_n d0_810 rfl m4 rfl ?_
    refine ev_ci mO_0 d0_811 (cm_v0 ml_13_71 (Or.inl mK_185) mA_185 cz_246_185 (Nat.le_of_ble_eq_true rfl)) (by decide) nu_185 sl_185 (kn_of rfl nd_1) (sp_X12_thrown σ2) rfl ?_
    rw [ht]
    refine ev_iload d0_814 rfl m1 rfl ?_
    refine ev_ic_eq d0_816 (t := 821) (aj rfl) rfl (fun _ => ?_) (fun z => absurd rfl z)
    refine ev_iload d0_821 rfl m1 rfl ?_
    refine ev_if_ne d0_823 (t := 838) (aj rfl) rfl (fun z => absurd rfl z) (fun _ => ?_)
    refine ev_aload_n d0_826 rfl m3 rfl ?_
    refine ev_iconst d0_827 ci_0 rfl ?_
    refine ev_lald d0_828 rfl ?_
    rw [hO]
    refine ev_iload d0_829 rfl m0 rfl ?_
    refine ev_i2l d0_831 rfl ?_
    refine ev_lcmp d0_832 rfl ?_
    rw [lg_cmp_self]
    refine ev_if_eq d0_833 (t := 838) (aj rfl) rfl (fun _ => ?_) (fun z => absurd rfl z)
    refine ev_goto d0_838 (t := 1030) (aj rfl) ?_
    refine Ev.sub (lo2 := lw i) (fun q hq => ?_) ?_
    · exact .tail _ (.tail _ hq)
    refine Ev.mono (kk σ2 _ _ hK) (fun o s9 k9 n9 hq => ?_)
    simp only [Nat.add_assoc, Nat.zero_add] at hq ⊢; exact hq
  · refine ev_istore mL_0 d0_790 rfl (by decide) (lo2 := [(5, .int 1), (4, .int i), (3, .ref 351), (2, .ref 246), (1, .ref 0), (0, .ref 352)]) rfl rfl ?_
    refine ev_aload_n d0_792 rfl m3 rfl ?_
    refine ev_aload_n d0_793 rfl m5 rfl ?_
    refine ev_iload d0_794 rfl m1 rfl ?_
    refine ev_iconst d0_796 ci_1 rfl ?_
    refine ev_iadd d0_797 rfl ?_
    refine ev_scrv (v := w 1) mK9_0 d0_798 (by rw [hN]; exact hw.2.1.1) (by rw [hS]; exact hw.2.1.2) rfl ?_
    refine ev_aload_n d0_799 rfl m5 rfl ?_
    refine ev_iload d0_800 rfl m1 rfl ?_
    refine ev_iconst d0_802 ci_2 rfl ?_
    refine ev_iadd d0_803 rfl ?_
    refine ev_scrv (v := w 2) mK9_0 d0_804 (by rw [hN]; exact hw.2.2.1.1) (by rw [hS]; exact hw.2.2.1.2) rfl ?_
    refine ev_call mO_0 d0_805 (cm_v2 ml_13_111 (Or.inl mK_322) mA_322 cz_246_322 (Nat.le_of_ble_eq_true rfl)) (by decide) nu_322 sl_322 (kn_of rfl nd_3) h2 (fun o2 σ2 k2 s2 hh2 => ?_)
    obtain ⟨⟨b, rfl⟩, ht, hK⟩ := hh2
    refine evc_i ?_
    refine ev_istore mL_0 d0_808 rfl (by decide) (lo2 := [(6, .int b), (5, .int 1), (4, .int i), (3, .ref 351), (2, .ref 246), (1, .ref 0), (0, .ref 352)]) rfl rfl ?_
    refine ev_aload_n d0_810 rfl m4 rfl ?_
    refine ev_ci mO_0 d0_811 (cm_v0 ml_13_71 (Or.inl mK_185) mA_185 cz_246_185 (Nat.le_of_ble_eq_true rfl)) (by decide) nu_185 sl_185 (kn_of rfl nd_1) (sp_X12_thrown σ2) rfl ?_
    rw [ht]
    refine ev_iload d0_814 rfl m1 rfl ?_
    refine ev_ic_eq d0_816 (t := 821) (aj rfl) rfl (fun _ => ?_) (fun z => absurd rfl z)
    refine ev_iload d0_821 rfl m1 rfl ?_
    refine ev_if_ne d0_823 (t := 838) (aj rfl) rfl (fun _ => ?_) (fun z => absurd z (by decide))
    refine ev_goto d0_838 (t := 1030) (aj rfl) ?_
    refine Ev.sub (lo2 := lw i) (fun q hq => ?_) ?_
    · exact .tail _ (.tail _ hq)
    refine Ev.mono (kk σ2 _ _ hK) (fun o s9 k9 n9 hq => ?_)
    simp only [Nat.add_assoc, Nat.zero_add] at hq ⊢; exact hq
  · refine ev_istore mL_0 d0_790 rfl (by decide) (lo2 := [(5, .int 2), (4, .int i), (3, .ref 351), (2, .ref 246), (1, .ref 0), (0, .ref 352)]) rfl rfl ?_
    refine ev_aload_n d0_792 rfl m3 rfl ?_
    refine ev_aload_n d0_793 rfl m5 rfl ?_
    refine ev_iload d0_794 rfl m1 rfl ?_
    refine ev_iconst d0_796 ci_1 rfl ?_
    refine ev_iadd d0_797 rfl ?_
    refine ev_scrv (v := w 1) mK9_0 d0_798 (by rw [hN]; exact hw.2.1.1) (by rw [hS]; exact hw.2.1.2) rfl ?_
    refine ev_aload_n d0_799 rfl m5 rfl ?_
    refine ev_iload d0_800 rfl m1 rfl ?_
    refine ev_iconst d0_802 ci_2 rfl ?_
    refine ev_iadd d0_803 rfl ?_
    refine ev_scrv (v := w 2) mK9_0 d0_804 (by rw [hN]; exact hw.2.2.1.1) (by rw [hS]; exact hw.2.2.1.2) rfl ?_
    refine ev_call mO_0 d0_805 (cm_v2 ml_13_111 (Or.inl mK_322) mA_322 cz_246_322 (Nat.le_of_ble_eq_true rfl)) (by decide) nu_322 sl_322 (kn_of rfl nd_3) h2 (fun o2 σ2 k2 s2 hh2 => ?_)
    obtain ⟨⟨b, rfl⟩, ht, hK⟩ := hh2
    refine evc_i ?_
    refine ev_istore mL_0 d0_808 rfl (by decide) (lo2 := [(6, .int b), (5, .int 2), (4, .int i), (3, .ref 351), (2, .ref 246), (1, .ref 0), (0, .ref 352)]) rfl rfl ?_
    refine ev_aload_n d0_810 rfl m4 rfl ?_
    refine ev_ci mO_0 d0_811 (cm_v0 ml_13_71 (Or.inl mK_185) mA_185 cz_246_185 (Nat.le_of_ble_eq_true rfl)) (by decide) nu_185 sl_185 (kn_of rfl nd_1) (sp_X12_thrown σ2) rfl ?_
    rw [ht]
    refine ev_iload d0_814 rfl m1 rfl ?_
    refine ev_ic_eq d0_816 (t := 821) (aj rfl) rfl (fun _ => ?_) (fun z => absurd rfl z)
    refine ev_iload d0_821 rfl m1 rfl ?_
    refine ev_if_ne d0_823 (t := 838) (aj rfl) rfl (fun _ => ?_) (fun z => absurd z (by decide))
    refine ev_goto d0_838 (t := 1030) (aj rfl) ?_
    refine Ev.sub (lo2 := lw i) (fun q hq => ?_) ?_
    · exact .tail _ (.tail _ hq)
    refine Ev.mono (kk σ2 _ _ hK) (fun o s9 k9 n9 hq => ?_)
    simp only [Nat.add_assoc, Nat.zero_add] at hq ⊢; exact hq
theorem d0_841 : decode (mC 0) 841 = .ok (.aload_n 1, 1) := by decide +kernel
theorem d0_842 : decode (mC 0) 842 = .ok (.invokevirtual 112, 3) := by decide +kernel
theorem ml_13_112 : am_ml 13 112 = some 160 := by decide +kernel
theorem mK_160 : mK 160 = 0 := by decide +kernel
theorem cz_0_160 : am_cls 0 = some (mO 160) := by decide +kernel
theorem mA_160 : 0 = mA 160 := by decide +kernel
theorem sl_160 : 1 ≤ mL 160 := by decide +kernel
theorem nu_160 : ¬ 160 ≤ 15 := by decide
theorem d0_845 : decode (mC 0) 845 = .ok (.aload_n 2, 1) := by decide +kernel
theorem d0_846 : decode (mC 0) 846 = .ok (.invokevirtual 115, 3) := by decide +kernel
theorem ml_13_115 : am_ml 13 115 = some 323 := by decide +kernel
theorem mK_323 : mK 323 = 0 := by decide +kernel
theorem cz_246_323 : am_cls 246 = some (mO 323) := by decide +kernel
theorem mA_323 : 0 = mA 323 := by decide +kernel
theorem sl_323 : 1 ≤ mL 323 := by decide +kernel
theorem nu_323 : ¬ 323 ≤ 15 := by decide
theorem d0_849 : decode (mC 0) 849 = .ok (.if_icmp .eq 181, 3) := by decide +kernel
set_option maxRecDepth 4000 in
theorem lc_14 {i : Int32} {w : Nat → Int32} {σ : SS} {K : KK} {Q : EQ} (hw : Wn σ i w) (h : Pair 160 323 [] σ K) (kk : ∀ σ2 k s, K σ2 k s → Ev 1000 0 1030 (lw i) [] σ2 (fun o s9 k9 n9 => Q o s9 (k + k9) (s + n9))) : Ev 1000 0 841 (lw i) [] σ Q := by
  refine ev_aload_n d0_841 rfl m3 rfl ?_
  refine ev_call mO_0 d0_842 (cm_v0 ml_13_112 (Or.inl mK_160) mA_160 cz_0_160 (Nat.le_of_ble_eq_true rfl)) (by decide) nu_160 sl_160 (kn_of rfl nd_1) h (fun o σ1 k s hh => ?_)
  obtain ⟨v, rfl, hN, hS, h2⟩ := hh
  refine evc_i ?_
  refine ev_aload_n d0_845 rfl m2 rfl ?_
  refine ev_call mO_0 d0_846 (cm_v0 ml_13_115 (Or.inl mK_323) mA_323 cz_246_323 (Nat.le_of_ble_eq_true rfl)) (by decide) nu_323 sl_323 (kn_of rfl nd_1) h2 (fun o2 σ2 k2 s2 hh2 => ?_)
  obtain ⟨rfl, hK⟩ := hh2
  refine evc_i ?_
  refine ev_ic_eq d0_849 (t := 1030) (aj rfl) rfl (fun _ => ?_) (fun z => absurd rfl z)
  refine Ev.mono (kk σ2 _ _ hK) (fun o s9 k9 n9 hq => ?_)
  simp only [Nat.add_assoc, Nat.zero_add] at hq ⊢; exact hq
theorem d0_854 : decode (mC 0) 854 = .ok (.aload_n 1, 1) := by decide +kernel
theorem d0_855 : decode (mC 0) 855 = .ok (.invokevirtual 116, 3) := by decide +kernel
theorem ml_13_116 : am_ml 13 116 = some 161 := by decide +kernel
theorem mK_161 : mK 161 = 2 := by decide +kernel
theorem cz_0_161 : am_cls 0 = some (mO 161) := by decide +kernel
theorem mA_161 : 0 = mA 161 := by decide +kernel
theorem sl_161 : 1 ≤ mL 161 := by decide +kernel
theorem nu_161 : ¬ 161 ≤ 15 := by decide
theorem d0_858 : decode (mC 0) 858 = .ok (.aload_n 2, 1) := by decide +kernel
theorem d0_859 : decode (mC 0) 859 = .ok (.invokevirtual 119, 3) := by decide +kernel
theorem ml_13_119 : am_ml 13 119 = some 324 := by decide +kernel
theorem mK_324 : mK 324 = 0 := by decide +kernel
theorem cz_246_324 : am_cls 246 = some (mO 324) := by decide +kernel
theorem mA_324 : 0 = mA 324 := by decide +kernel
theorem sl_324 : 1 ≤ mL 324 := by decide +kernel
theorem nu_324 : ¬ 324 ≤ 15 := by decide
theorem d0_862 : decode (mC 0) 862 = .ok (.if_icmp .eq 168, 3) := by decide +kernel
set_option maxRecDepth 4000 in
theorem lc_15 {i : Int32} {w : Nat → Int32} {σ : SS} {K : KK} {Q : EQ} (hw : Wn σ i w) (h : Pair 161 324 [] σ K) (kk : ∀ σ2 k s, K σ2 k s → Ev 1000 0 1030 (lw i) [] σ2 (fun o s9 k9 n9 => Q o s9 (k + k9) (s + n9))) : Ev 1000 0 854 (lw i) [] σ Q := by
  refine ev_aload_n d0_854 rfl m3 rfl ?_
  refine ev_call mO_0 d0_855 (cm_v0 ml_13_116 (Or.inr mK_161) mA_161 cz_0_161 (Nat.le_of_ble_eq_true rfl)) (by decide) nu_161 sl_161 (kn_of rfl nd_1) h (fun o σ1 k s hh => ?_)
  obtain ⟨v, rfl, hN, hS, h2⟩ := hh
  refine evc_i ?_
  refine ev_aload_n d0_858 rfl m2 rfl ?_
  refine ev_call mO_0 d0_859 (cm_v0 ml_13_119 (Or.inl mK_324) mA_324 cz_246_324 (Nat.le_of_ble_eq_true rfl)) (by decide) nu_324 sl_324 (kn_of rfl nd_1) h2 (fun o2 σ2 k2 s2 hh2 => ?_)
  obtain ⟨rfl, hK⟩ := hh2
  refine evc_i ?_
  refine ev_ic_eq d0_862 (t := 1030) (aj rfl) rfl (fun _ => ?_) (fun z => absurd rfl z)
  refine Ev.mono (kk σ2 _ _ hK) (fun o s9 k9 n9 hq => ?_)
  simp only [Nat.add_assoc, Nat.zero_add] at hq ⊢; exact hq
theorem d0_867 : decode (mC 0) 867 = .ok (.aload_n 1, 1) := by decide +kernel
theorem d0_868 : decode (mC 0) 868 = .ok (.invokevirtual 120, 3) := by decide +kernel
theorem ml_13_120 : am_ml 13 120 = some 162 := by decide +kernel
theorem mK_162 : mK 162 = 0 := by decide +kernel
theorem cz_0_162 : am_cls 0 = some (mO 162) := by decide +kernel
theorem mA_162 : 0 = mA 162 := by decide +kernel
theorem sl_162 : 1 ≤ mL 162 := by decide +kernel
theorem nu_162 : ¬ 162 ≤ 15 := by decide
theorem d0_871 : decode (mC 0) 871 = .ok (.aload_n 2, 1) := by decide +kernel
theorem d0_872 : decode (mC 0) 872 = .ok (.invokevirtual 123, 3) := by decide +kernel
theorem ml_13_123 : am_ml 13 123 = some 325 := by decide +kernel
theorem mK_325 : mK 325 = 0 := by decide +kernel
theorem cz_246_325 : am_cls 246 = some (mO 325) := by decide +kernel
theorem mA_325 : 0 = mA 325 := by decide +kernel
theorem sl_325 : 1 ≤ mL 325 := by decide +kernel
theorem nu_325 : ¬ 325 ≤ 15 := by decide
theorem d0_875 : decode (mC 0) 875 = .ok (.if_icmp .eq 155, 3) := by decide +kernel
set_option maxRecDepth 4000 in
theorem lc_16 {i : Int32} {w : Nat → Int32} {σ : SS} {K : KK} {Q : EQ} (hw : Wn σ i w) (h : Pair 162 325 [] σ K) (kk : ∀ σ2 k s, K σ2 k s → Ev 1000 0 1030 (lw i) [] σ2 (fun o s9 k9 n9 => Q o s9 (k + k9) (s + n9))) : Ev 1000 0 867 (lw i) [] σ Q := by
  refine ev_aload_n d0_867 rfl m3 rfl ?_
  refine ev_call mO_0 d0_868 (cm_v0 ml_13_120 (Or.inl mK_162) mA_162 cz_0_162 (Nat.le_of_ble_eq_true rfl)) (by decide) nu_162 sl_162 (kn_of rfl nd_1) h (fun o σ1 k s hh => ?_)
  obtain ⟨v, rfl, hN, hS, h2⟩ := hh
  refine evc_i ?_
  refine ev_aload_n d0_871 rfl m2 rfl ?_
  refine ev_call mO_0 d0_872 (cm_v0 ml_13_123 (Or.inl mK_325) mA_325 cz_246_325 (Nat.le_of_ble_eq_true rfl)) (by decide) nu_325 sl_325 (kn_of rfl nd_1) h2 (fun o2 σ2 k2 s2 hh2 => ?_)
  obtain ⟨rfl, hK⟩ := hh2
  refine evc_i ?_
  refine ev_ic_eq d0_875 (t := 1030) (aj rfl) rfl (fun _ => ?_) (fun z => absurd rfl z)
  refine Ev.mono (kk σ2 _ _ hK) (fun o s9 k9 n9 hq => ?_)
  simp only [Nat.add_assoc, Nat.zero_add] at hq ⊢; exact hq
theorem d0_880 : decode (mC 0) 880 = .ok (.aload_n 1, 1) := by decide +kernel
theorem d0_881 : decode (mC 0) 881 = .ok (.aload_n 0, 1) := by decide +kernel
theorem d0_882 : decode (mC 0) 882 = .ok (.iload 4, 2) := by decide +kernel
theorem d0_884 : decode (mC 0) 884 = .ok (.iconst 1, 1) := by decide +kernel
theorem d0_885 : decode (mC 0) 885 = .ok (.iadd, 1) := by decide +kernel
theorem d0_886 : decode (mC 0) 886 = .ok (.iaload, 1) := by decide +kernel
theorem d0_887 : decode (mC 0) 887 = .ok (.invokevirtual 124, 3) := by decide +kernel
theorem ml_13_124 : am_ml 13 124 = some 163 := by decide +kernel
theorem mK_163 : mK 163 = 0 := by decide +kernel
theorem cz_0_163 : am_cls 0 = some (mO 163) := by decide +kernel
theorem mA_163 : 1 = mA 163 := by decide +kernel
theorem sl_163 : 2 ≤ mL 163 := by decide +kernel
theorem nu_163 : ¬ 163 ≤ 15 := by decide
theorem d0_890 : decode (mC 0) 890 = .ok (.aload_n 2, 1) := by decide +kernel
theorem d0_891 : decode (mC 0) 891 = .ok (.aload_n 0, 1) := by decide +kernel
theorem d0_892 : decode (mC 0) 892 = .ok (.iload 4, 2) := by decide +kernel
theorem d0_894 : decode (mC 0) 894 = .ok (.iconst 1, 1) := by decide +kernel
theorem d0_895 : decode (mC 0) 895 = .ok (.iadd, 1) := by decide +kernel
theorem d0_896 : decode (mC 0) 896 = .ok (.iaload, 1) := by decide +kernel
theorem d0_897 : decode (mC 0) 897 = .ok (.invokevirtual 127, 3) := by decide +kernel
theorem ml_13_127 : am_ml 13 127 = some 326 := by decide +kernel
theorem mK_326 : mK 326 = 0 := by decide +kernel
theorem cz_246_326 : am_cls 246 = some (mO 326) := by decide +kernel
theorem mA_326 : 1 = mA 326 := by decide +kernel
theorem sl_326 : 2 ≤ mL 326 := by decide +kernel
theorem nu_326 : ¬ 326 ≤ 15 := by decide
theorem d0_900 : decode (mC 0) 900 = .ok (.if_icmp .eq 130, 3) := by decide +kernel
set_option maxRecDepth 4000 in
theorem lc_17 {i : Int32} {w : Nat → Int32} {σ : SS} {K : KK} {Q : EQ} (hw : Wn σ i w) (h : Pair 163 326 [.int (w 1)] σ K) (kk : ∀ σ2 k s, K σ2 k s → Ev 1000 0 1030 (lw i) [] σ2 (fun o s9 k9 n9 => Q o s9 (k + k9) (s + n9))) : Ev 1000 0 880 (lw i) [] σ Q := by
  refine ev_aload_n d0_880 rfl m3 rfl ?_
  refine ev_aload_n d0_881 rfl m4 rfl ?_
  refine ev_iload d0_882 rfl m0 rfl ?_
  refine ev_iconst d0_884 ci_1 rfl ?_
  refine ev_iadd d0_885 rfl ?_
  refine ev_scrv (v := w 1) mK9_0 d0_886 hw.2.1.1 hw.2.1.2 rfl ?_
  refine ev_call mO_0 d0_887 (cm_v1 ml_13_124 (Or.inl mK_163) mA_163 cz_0_163 (Nat.le_of_ble_eq_true rfl)) (by decide) nu_163 sl_163 (kn_of rfl nd_2) h (fun o σ1 k s hh => ?_)
  obtain ⟨v, rfl, hN, hS, h2⟩ := hh
  refine evc_i ?_
  refine ev_aload_n d0_890 rfl m2 rfl ?_
  refine ev_aload_n d0_891 rfl m4 rfl ?_
  refine ev_iload d0_892 rfl m0 rfl ?_
  refine ev_iconst d0_894 ci_1 rfl ?_
  refine ev_iadd d0_895 rfl ?_
  refine ev_scrv (v := w 1) mK9_0 d0_896 (by rw [hN]; exact hw.2.1.1) (by rw [hS]; exact hw.2.1.2) rfl ?_
  refine ev_call mO_0 d0_897 (cm_v1 ml_13_127 (Or.inl mK_326) mA_326 cz_246_326 (Nat.le_of_ble_eq_true rfl)) (by decide) nu_326 sl_326 (kn_of rfl nd_2) h2 (fun o2 σ2 k2 s2 hh2 => ?_)
  obtain ⟨rfl, hK⟩ := hh2
  refine evc_i ?_
  refine ev_ic_eq d0_900 (t := 1030) (aj rfl) rfl (fun _ => ?_) (fun z => absurd rfl z)
  refine Ev.mono (kk σ2 _ _ hK) (fun o s9 k9 n9 hq => ?_)
  simp only [Nat.add_assoc, Nat.zero_add] at hq ⊢; exact hq
theorem d0_905 : decode (mC 0) 905 = .ok (.aload_n 1, 1) := by decide +kernel
theorem d0_906 : decode (mC 0) 906 = .ok (.aload_n 3, 1) := by decide +kernel
theorem d0_907 : decode (mC 0) 907 = .ok (.invokestatic 128, 3) := by decide +kernel
theorem ml_13_128 : am_ml 13 128 = some 341 := by decide +kernel
theorem mK_341 : mK 341 = 3 := by decide +kernel
theorem mm_13_128 : (mmT 13).find? (fun q => q.1 == 128) = none := by decide +kernel
theorem mA_341 : 2 = mA 341 := by decide +kernel
theorem sl_341 : 2 ≤ mL 341 := by decide +kernel
theorem nu_341 : ¬ 341 ≤ 15 := by decide
theorem d0_910 : decode (mC 0) 910 = .ok (.istore 5, 2) := by decide +kernel
theorem d0_912 : decode (mC 0) 912 = .ok (.aload_n 2, 1) := by decide +kernel
theorem d0_913 : decode (mC 0) 913 = .ok (.invokevirtual 130, 3) := by decide +kernel
theorem ml_13_130 : am_ml 13 130 = some 327 := by decide +kernel
theorem mK_327 : mK 327 = 0 := by decide +kernel
theorem cz_246_327 : am_cls 246 = some (mO 327) := by decide +kernel
theorem mA_327 : 0 = mA 327 := by decide +kernel
theorem sl_327 : 1 ≤ mL 327 := by decide +kernel
theorem nu_327 : ¬ 327 ≤ 15 := by decide
theorem d0_916 : decode (mC 0) 916 = .ok (.istore 6, 2) := by decide +kernel
theorem d0_918 : decode (mC 0) 918 = .ok (.aload_n 2, 1) := by decide +kernel
theorem d0_919 : decode (mC 0) 919 = .ok (.invokevirtual 71, 3) := by decide +kernel
theorem d0_922 : decode (mC 0) 922 = .ok (.iload 5, 2) := by decide +kernel
theorem d0_924 : decode (mC 0) 924 = .ok (.if_icmp .eq 5, 3) := by decide +kernel
theorem d0_929 : decode (mC 0) 929 = .ok (.iload 5, 2) := by decide +kernel
theorem d0_931 : decode (mC 0) 931 = .ok (.ifCond .ne 15, 3) := by decide +kernel
theorem d0_934 : decode (mC 0) 934 = .ok (.aload_n 3, 1) := by decide +kernel
theorem d0_935 : decode (mC 0) 935 = .ok (.iconst 0, 1) := by decide +kernel
theorem d0_936 : decode (mC 0) 936 = .ok (.laload, 1) := by decide +kernel
theorem d0_937 : decode (mC 0) 937 = .ok (.iload 6, 2) := by decide +kernel
theorem d0_939 : decode (mC 0) 939 = .ok (.i2l, 1) := by decide +kernel
theorem d0_940 : decode (mC 0) 940 = .ok (.lcmp, 1) := by decide +kernel
theorem d0_941 : decode (mC 0) 941 = .ok (.ifCond .eq 5, 3) := by decide +kernel
theorem d0_946 : decode (mC 0) 946 = .ok (.goto 84, 3) := by decide +kernel
set_option maxRecDepth 4000 in
theorem lc_18 {i : Int32} {w : Nat → Int32} {σ : SS} {K : KK} {Q : EQ} (hw : Wn σ i w) (h : PairT 164 327 "java/lang/IllegalStateException" [] σ K) (kk : ∀ σ2 k s, K σ2 k s → Ev 1000 0 1030 (lw i) [] σ2 (fun o s9 k9 n9 => Q o s9 (k + k9) (s + n9))) : Ev 1000 0 905 (lw i) [] σ Q := by
  refine ev_aload_n d0_905 rfl m3 rfl ?_
  refine ev_aload_n d0_906 rfl m1 rfl ?_
  refine ev_call mO_0 d0_907 (cm_s2 mm_13_128 ml_13_128 (Or.inr mK_341) mA_341 (Nat.le_of_ble_eq_true rfl)) (by decide) nu_341 sl_341 (kn_of rfl nd_2) (sp_L_keep (K := fun c σ1 k s => sN σ1 = sN σ ∧ sS σ1 = sS σ ∧ ((c = 0 ∧ ∃ v, Ev 999 327 0 (lv_args 0 (.ref 246 :: [])) [] σ1 (fun o2 σ2 k2 s2 => o2 = .inl (some v) ∧ sI σ2 246 0 = 0 ∧ sO σ2 0 = v.toInt64 ∧ K σ2 (k + k2) (s + s2))) ∨ (c = 1 ∧ Ev 999 327 0 (lv_args 0 (.ref 246 :: [])) [] σ1 (fun o2 σ2 k2 s2 => (∃ b, o2 = .inl (some b)) ∧ sI σ2 246 0 = 1 ∧ K σ2 (k + k2) (s + s2))))) (h.mono (fun o σ1 k s hh => ?_))) (fun o σ1 k s hh => ?_)
  · obtain ⟨hN, hS, hh⟩ := hh
    rcases hh with ⟨v, rfl, hh⟩ | ⟨rfl, hh⟩
    · exact Or.inl ⟨v, rfl, hN, hS, Or.inl ⟨rfl, v, hh⟩⟩
    · exact Or.inr ⟨rfl, hN, hS, Or.inr ⟨rfl, hh⟩⟩
  obtain ⟨c, rfl, hN, hS, hh⟩ := hh
  refine evc_i ?_
  rcases hh with ⟨rfl, v, h2⟩ | ⟨rfl, h2⟩
  · refine ev_istore mL_0 d0_910 rfl (by decide) (lo2 := [(5, .int 0), (4, .int i), (3, .ref 351), (2, .ref 246), (1, .ref 0), (0, .ref 352)]) rfl rfl ?_
    refine ev_aload_n d0_912 rfl m3 rfl ?_
    refine ev_call mO_0 d0_913 (cm_v0 ml_13_130 (Or.inl mK_327) mA_327 cz_246_327 (Nat.le_of_ble_eq_true rfl)) (by decide) nu_327 sl_327 (kn_of rfl nd_1) h2 (fun o2 σ2 k2 s2 hh2 => ?_)
    obtain ⟨rfl, ht, hO, hK⟩ := hh2
    refine evc_i ?_
    refine ev_istore mL_0 d0_916 rfl (by decide) (lo2 := [(6, .int v), (5, .int 0), (4, .int i), (3, .ref 351), (2, .ref 246), (1, .ref 0), (0, .ref 352)]) rfl rfl ?_
    refine ev_aload_n d0_918 rfl m4 rfl ?_
    refine ev_ci mO_0 d0_919 (cm_v0 ml_13_71 (Or.inl mK_185) mA_185 cz_246_185 (Nat.le_of_ble_eq_true rfl)) (by decide) nu_185 sl_185 (kn_of rfl nd_1) (sp_X12_thrown σ2) rfl ?_
    rw [ht]
    refine ev_iload d0_922 rfl m1 rfl ?_
    refine ev_ic_eq d0_924 (t := 929) (aj rfl) rfl (fun _ => ?_) (fun z => absurd rfl z)
    refine ev_iload d0_929 rfl m1 rfl ?_
    refine ev_if_ne d0_931 (t := 946) (aj rfl) rfl (fun z => absurd rfl z) (fun _ => ?_)
    refine ev_aload_n d0_934 rfl m3 rfl ?_
    refine ev_iconst d0_935 ci_0 rfl ?_
    refine ev_lald d0_936 rfl ?_
    rw [hO]
    refine ev_iload d0_937 rfl m0 rfl ?_
    refine ev_i2l d0_939 rfl ?_
    refine ev_lcmp d0_940 rfl ?_
    rw [lg_cmp_self]
    refine ev_if_eq d0_941 (t := 946) (aj rfl) rfl (fun _ => ?_) (fun z => absurd rfl z)
    refine ev_goto d0_946 (t := 1030) (aj rfl) ?_
    refine Ev.sub (lo2 := lw i) (fun q hq => ?_) ?_
    · exact .tail _ (.tail _ hq)
    refine Ev.mono (kk σ2 _ _ hK) (fun o s9 k9 n9 hq => ?_)
    simp only [Nat.add_assoc, Nat.zero_add] at hq ⊢; exact hq
  · refine ev_istore mL_0 d0_910 rfl (by decide) (lo2 := [(5, .int 1), (4, .int i), (3, .ref 351), (2, .ref 246), (1, .ref 0), (0, .ref 352)]) rfl rfl ?_
    refine ev_aload_n d0_912 rfl m3 rfl ?_
    refine ev_call mO_0 d0_913 (cm_v0 ml_13_130 (Or.inl mK_327) mA_327 cz_246_327 (Nat.le_of_ble_eq_true rfl)) (by decide) nu_327 sl_327 (kn_of rfl nd_1) h2 (fun o2 σ2 k2 s2 hh2 => ?_)
    obtain ⟨⟨b, rfl⟩, ht, hK⟩ := hh2
    refine evc_i ?_
    refine ev_istore mL_0 d0_916 rfl (by decide) (lo2 := [(6, .int b), (5, .int 1), (4, .int i), (3, .ref 351), (2, .ref 246), (1, .ref 0), (0, .ref 352)]) rfl rfl ?_
    refine ev_aload_n d0_918 rfl m4 rfl ?_
    refine ev_ci mO_0 d0_919 (cm_v0 ml_13_71 (Or.inl mK_185) mA_185 cz_246_185 (Nat.le_of_ble_eq_true rfl)) (by decide) nu_185 sl_185 (kn_of rfl nd_1) (sp_X12_thrown σ2) rfl ?_
    rw [ht]
    refine ev_iload d0_922 rfl m1 rfl ?_
    refine ev_ic_eq d0_924 (t := 929) (aj rfl) rfl (fun _ => ?_) (fun z => absurd rfl z)
    refine ev_iload d0_929 rfl m1 rfl ?_
    refine ev_if_ne d0_931 (t := 946) (aj rfl) rfl (fun _ => ?_) (fun z => absurd z (by decide))
    refine ev_goto d0_946 (t := 1030) (aj rfl) ?_
    refine Ev.sub (lo2 := lw i) (fun q hq => ?_) ?_
    · exact .tail _ (.tail _ hq)
    refine Ev.mono (kk σ2 _ _ hK) (fun o s9 k9 n9 hq => ?_)
    simp only [Nat.add_assoc, Nat.zero_add] at hq ⊢; exact hq
theorem d0_949 : decode (mC 0) 949 = .ok (.aload_n 1, 1) := by decide +kernel
theorem d0_950 : decode (mC 0) 950 = .ok (.aload_n 0, 1) := by decide +kernel
theorem d0_951 : decode (mC 0) 951 = .ok (.iload 4, 2) := by decide +kernel
theorem d0_953 : decode (mC 0) 953 = .ok (.iconst 1, 1) := by decide +kernel
theorem d0_954 : decode (mC 0) 954 = .ok (.iadd, 1) := by decide +kernel
theorem d0_955 : decode (mC 0) 955 = .ok (.iaload, 1) := by decide +kernel
theorem d0_956 : decode (mC 0) 956 = .ok (.aload_n 3, 1) := by decide +kernel
theorem d0_957 : decode (mC 0) 957 = .ok (.invokestatic 131, 3) := by decide +kernel
theorem ml_13_131 : am_ml 13 131 = some 342 := by decide +kernel
theorem mK_342 : mK 342 = 3 := by decide +kernel
theorem mm_13_131 : (mmT 13).find? (fun q => q.1 == 131) = none := by decide +kernel
theorem mA_342 : 3 = mA 342 := by decide +kernel
theorem sl_342 : 3 ≤ mL 342 := by decide +kernel
theorem nu_342 : ¬ 342 ≤ 15 := by decide
theorem d0_960 : decode (mC 0) 960 = .ok (.istore 5, 2) := by decide +kernel
theorem d0_962 : decode (mC 0) 962 = .ok (.aload_n 2, 1) := by decide +kernel
theorem d0_963 : decode (mC 0) 963 = .ok (.aload_n 0, 1) := by decide +kernel
theorem d0_964 : decode (mC 0) 964 = .ok (.iload 4, 2) := by decide +kernel
theorem d0_966 : decode (mC 0) 966 = .ok (.iconst 1, 1) := by decide +kernel
theorem d0_967 : decode (mC 0) 967 = .ok (.iadd, 1) := by decide +kernel
theorem d0_968 : decode (mC 0) 968 = .ok (.iaload, 1) := by decide +kernel
theorem d0_969 : decode (mC 0) 969 = .ok (.invokevirtual 133, 3) := by decide +kernel
theorem ml_13_133 : am_ml 13 133 = some 332 := by decide +kernel
theorem mK_332 : mK 332 = 0 := by decide +kernel
theorem cz_246_332 : am_cls 246 = some (mO 332) := by decide +kernel
theorem mA_332 : 1 = mA 332 := by decide +kernel
theorem sl_332 : 2 ≤ mL 332 := by decide +kernel
theorem nu_332 : ¬ 332 ≤ 15 := by decide
theorem d0_972 : decode (mC 0) 972 = .ok (.istore 6, 2) := by decide +kernel
theorem d0_974 : decode (mC 0) 974 = .ok (.aload_n 2, 1) := by decide +kernel
theorem d0_975 : decode (mC 0) 975 = .ok (.invokevirtual 71, 3) := by decide +kernel
theorem d0_978 : decode (mC 0) 978 = .ok (.iload 5, 2) := by decide +kernel
theorem d0_980 : decode (mC 0) 980 = .ok (.if_icmp .eq 5, 3) := by decide +kernel
theorem d0_985 : decode (mC 0) 985 = .ok (.iload 5, 2) := by decide +kernel
theorem d0_987 : decode (mC 0) 987 = .ok (.ifCond .ne 15, 3) := by decide +kernel
theorem d0_990 : decode (mC 0) 990 = .ok (.aload_n 3, 1) := by decide +kernel
theorem d0_991 : decode (mC 0) 991 = .ok (.iconst 0, 1) := by decide +kernel
theorem d0_992 : decode (mC 0) 992 = .ok (.laload, 1) := by decide +kernel
theorem d0_993 : decode (mC 0) 993 = .ok (.iload 6, 2) := by decide +kernel
theorem d0_995 : decode (mC 0) 995 = .ok (.i2l, 1) := by decide +kernel
theorem d0_996 : decode (mC 0) 996 = .ok (.lcmp, 1) := by decide +kernel
theorem d0_997 : decode (mC 0) 997 = .ok (.ifCond .eq 5, 3) := by decide +kernel
theorem d0_1002 : decode (mC 0) 1002 = .ok (.goto 28, 3) := by decide +kernel
set_option maxRecDepth 4000 in
theorem lc_19 {i : Int32} {w : Nat → Int32} {σ : SS} {K : KK} {Q : EQ} (hw : Wn σ i w) (h : PairU 165 332 "java/lang/IllegalStateException" "java/lang/IllegalArgumentException" [.int (w 1)] σ K) (kk : ∀ σ2 k s, K σ2 k s → Ev 1000 0 1030 (lw i) [] σ2 (fun o s9 k9 n9 => Q o s9 (k + k9) (s + n9))) : Ev 1000 0 949 (lw i) [] σ Q := by
  refine ev_aload_n d0_949 rfl m3 rfl ?_
  refine ev_aload_n d0_950 rfl m4 rfl ?_
  refine ev_iload d0_951 rfl m0 rfl ?_
  refine ev_iconst d0_953 ci_1 rfl ?_
  refine ev_iadd d0_954 rfl ?_
  refine ev_scrv (v := w 1) mK9_0 d0_955 hw.2.1.1 hw.2.1.2 rfl ?_
  refine ev_aload_n d0_956 rfl m1 rfl ?_
  refine ev_call mO_0 d0_957 (cm_s3 mm_13_131 ml_13_131 (Or.inr mK_342) mA_342 (Nat.le_of_ble_eq_true rfl)) (by decide) nu_342 sl_342 (kn_of rfl nd_3) (sp_L_changed (K := fun c σ1 k s => sN σ1 = sN σ ∧ sS σ1 = sS σ ∧ ((c = 0 ∧ ∃ v, Ev 999 332 0 (lv_args 0 (.ref 246 :: [.int (w 1)])) [] σ1 (fun o2 σ2 k2 s2 => o2 = .inl (some v) ∧ sI σ2 246 0 = 0 ∧ sO σ2 0 = v.toInt64 ∧ K σ2 (k + k2) (s + s2))) ∨ (c = 1 ∧ Ev 999 332 0 (lv_args 0 (.ref 246 :: [.int (w 1)])) [] σ1 (fun o2 σ2 k2 s2 => (∃ b, o2 = .inl (some b)) ∧ sI σ2 246 0 = 1 ∧ K σ2 (k + k2) (s + s2))) ∨ (c = 2 ∧ Ev 999 332 0 (lv_args 0 (.ref 246 :: [.int (w 1)])) [] σ1 (fun o2 σ2 k2 s2 => (∃ b, o2 = .inl (some b)) ∧ sI σ2 246 0 = 2 ∧ K σ2 (k + k2) (s + s2))))) (h.mono (fun o σ1 k s hh => ?_))) (fun o σ1 k s hh => ?_)
  · obtain ⟨hN, hS, hh⟩ := hh
    rcases hh with ⟨v, rfl, hh⟩ | ⟨rfl, hh⟩ | ⟨rfl, hh⟩
    · exact Or.inl ⟨v, rfl, hN, hS, Or.inl ⟨rfl, v, hh⟩⟩
    · exact Or.inr (Or.inl ⟨rfl, hN, hS, Or.inr (Or.inl ⟨rfl, hh⟩)⟩)
    · exact Or.inr (Or.inr ⟨rfl, hN, hS, Or.inr (Or.inr ⟨rfl, hh⟩)⟩)
  obtain ⟨c, rfl, hN, hS, hh⟩ := hh
  refine evc_i ?_
  rcases hh with ⟨rfl, v, h2⟩ | ⟨rfl, h2⟩ | ⟨rfl, h2⟩
  · refine ev_istore mL_0 d0_960 rfl (by decide) (lo2 := [(5, .int 0), (4, .int i), (3, .ref 351), (2, .ref 246), (1, .ref 0), (0, .ref 352)]) rfl rfl ?_
    refine ev_aload_n d0_962 rfl m3 rfl ?_
    refine ev_aload_n d0_963 rfl m5 rfl ?_
    refine ev_iload d0_964 rfl m1 rfl ?_
    refine ev_iconst d0_966 ci_1 rfl ?_
    refine ev_iadd d0_967 rfl ?_
    refine ev_scrv (v := w 1) mK9_0 d0_968 (by rw [hN]; exact hw.2.1.1) (by rw [hS]; exact hw.2.1.2) rfl ?_
    refine ev_call mO_0 d0_969 (cm_v1 ml_13_133 (Or.inl mK_332) mA_332 cz_246_332 (Nat.le_of_ble_eq_true rfl)) (by decide) nu_332 sl_332 (kn_of rfl nd_2) h2 (fun o2 σ2 k2 s2 hh2 => ?_)
    obtain ⟨rfl, ht, hO, hK⟩ := hh2
    refine evc_i ?_
    refine ev_istore mL_0 d0_972 rfl (by decide) (lo2 := [(6, .int v), (5, .int 0), (4, .int i), (3, .ref 351), (2, .ref 246), (1, .ref 0), (0, .ref 352)]) rfl rfl ?_
    refine ev_aload_n d0_974 rfl m4 rfl ?_
    refine ev_ci mO_0 d0_975 (cm_v0 ml_13_71 (Or.inl mK_185) mA_185 cz_246_185 (Nat.le_of_ble_eq_true rfl)) (by decide) nu_185 sl_185 (kn_of rfl nd_1) (sp_X12_thrown σ2) rfl ?_
    rw [ht]
    refine ev_iload d0_978 rfl m1 rfl ?_
    refine ev_ic_eq d0_980 (t := 985) (aj rfl) rfl (fun _ => ?_) (fun z => absurd rfl z)
    refine ev_iload d0_985 rfl m1 rfl ?_
    refine ev_if_ne d0_987 (t := 1002) (aj rfl) rfl (fun z => absurd rfl z) (fun _ => ?_)
    refine ev_aload_n d0_990 rfl m3 rfl ?_
    refine ev_iconst d0_991 ci_0 rfl ?_
    refine ev_lald d0_992 rfl ?_
    rw [hO]
    refine ev_iload d0_993 rfl m0 rfl ?_
    refine ev_i2l d0_995 rfl ?_
    refine ev_lcmp d0_996 rfl ?_
    rw [lg_cmp_self]
    refine ev_if_eq d0_997 (t := 1002) (aj rfl) rfl (fun _ => ?_) (fun z => absurd rfl z)
    refine ev_goto d0_1002 (t := 1030) (aj rfl) ?_
    refine Ev.sub (lo2 := lw i) (fun q hq => ?_) ?_
    · exact .tail _ (.tail _ hq)
    refine Ev.mono (kk σ2 _ _ hK) (fun o s9 k9 n9 hq => ?_)
    simp only [Nat.add_assoc, Nat.zero_add] at hq ⊢; exact hq
  · refine ev_istore mL_0 d0_960 rfl (by decide) (lo2 := [(5, .int 1), (4, .int i), (3, .ref 351), (2, .ref 246), (1, .ref 0), (0, .ref 352)]) rfl rfl ?_
    refine ev_aload_n d0_962 rfl m3 rfl ?_
    refine ev_aload_n d0_963 rfl m5 rfl ?_
    refine ev_iload d0_964 rfl m1 rfl ?_
    refine ev_iconst d0_966 ci_1 rfl ?_
    refine ev_iadd d0_967 rfl ?_
    refine ev_scrv (v := w 1) mK9_0 d0_968 (by rw [hN]; exact hw.2.1.1) (by rw [hS]; exact hw.2.1.2) rfl ?_
    refine ev_call mO_0 d0_969 (cm_v1 ml_13_133 (Or.inl mK_332) mA_332 cz_246_332 (Nat.le_of_ble_eq_true rfl)) (by decide) nu_332 sl_332 (kn_of rfl nd_2) h2 (fun o2 σ2 k2 s2 hh2 => ?_)
    obtain ⟨⟨b, rfl⟩, ht, hK⟩ := hh2
    refine evc_i ?_
    refine ev_istore mL_0 d0_972 rfl (by decide) (lo2 := [(6, .int b), (5, .int 1), (4, .int i), (3, .ref 351), (2, .ref 246), (1, .ref 0), (0, .ref 352)]) rfl rfl ?_
    refine ev_aload_n d0_974 rfl m4 rfl ?_
    refine ev_ci mO_0 d0_975 (cm_v0 ml_13_71 (Or.inl mK_185) mA_185 cz_246_185 (Nat.le_of_ble_eq_true rfl)) (by decide) nu_185 sl_185 (kn_of rfl nd_1) (sp_X12_thrown σ2) rfl ?_
    rw [ht]
    refine ev_iload d0_978 rfl m1 rfl ?_
    refine ev_ic_eq d0_980 (t := 985) (aj rfl) rfl (fun _ => ?_) (fun z => absurd rfl z)
    refine ev_iload d0_985 rfl m1 rfl ?_
    refine ev_if_ne d0_987 (t := 1002) (aj rfl) rfl (fun _ => ?_) (fun z => absurd z (by decide))
    refine ev_goto d0_1002 (t := 1030) (aj rfl) ?_
    refine Ev.sub (lo2 := lw i) (fun q hq => ?_) ?_
    · exact .tail _ (.tail _ hq)
    refine Ev.mono (kk σ2 _ _ hK) (fun o s9 k9 n9 hq => ?_)
    simp only [Nat.add_assoc, Nat.zero_add] at hq ⊢; exact hq
  · refine ev_istore mL_0 d0_960 rfl (by decide) (lo2 := [(5, .int 2), (4, .int i), (3, .ref 351), (2, .ref 246), (1, .ref 0), (0, .ref 352)]) rfl rfl ?_
    refine ev_aload_n d0_962 rfl m3 rfl ?_
    refine ev_aload_n d0_963 rfl m5 rfl ?_
    refine ev_iload d0_964 rfl m1 rfl ?_
    refine ev_iconst d0_966 ci_1 rfl ?_
    refine ev_iadd d0_967 rfl ?_
    refine ev_scrv (v := w 1) mK9_0 d0_968 (by rw [hN]; exact hw.2.1.1) (by rw [hS]; exact hw.2.1.2) rfl ?_
    refine ev_call mO_0 d0_969 (cm_v1 ml_13_133 (Or.inl mK_332) mA_332 cz_246_332 (Nat.le_of_ble_eq_true rfl)) (by decide) nu_332 sl_332 (kn_of rfl nd_2) h2 (fun o2 σ2 k2 s2 hh2 => ?_)
    obtain ⟨⟨b, rfl⟩, ht, hK⟩ := hh2
    refine evc_i ?_
    refine ev_istore mL_0 d0_972 rfl (by decide) (lo2 := [(6, .int b), (5, .int 2), (4, .int i), (3, .ref 351), (2, .ref 246), (1, .ref 0), (0, .ref 352)]) rfl rfl ?_
    refine ev_aload_n d0_974 rfl m4 rfl ?_
    refine ev_ci mO_0 d0_975 (cm_v0 ml_13_71 (Or.inl mK_185) mA_185 cz_246_185 (Nat.le_of_ble_eq_true rfl)) (by decide) nu_185 sl_185 (kn_of rfl nd_1) (sp_X12_thrown σ2) rfl ?_
    rw [ht]
    refine ev_iload d0_978 rfl m1 rfl ?_
    refine ev_ic_eq d0_980 (t := 985) (aj rfl) rfl (fun _ => ?_) (fun z => absurd rfl z)
    refine ev_iload d0_985 rfl m1 rfl ?_
    refine ev_if_ne d0_987 (t := 1002) (aj rfl) rfl (fun _ => ?_) (fun z => absurd z (by decide))
    refine ev_goto d0_1002 (t := 1030) (aj rfl) ?_
    refine Ev.sub (lo2 := lw i) (fun q hq => ?_) ?_
    · exact .tail _ (.tail _ hq)
    refine Ev.mono (kk σ2 _ _ hK) (fun o s9 k9 n9 hq => ?_)
    simp only [Nat.add_assoc, Nat.zero_add] at hq ⊢; exact hq
theorem d0_1005 : decode (mC 0) 1005 = .ok (.aload_n 1, 1) := by decide +kernel
theorem d0_1006 : decode (mC 0) 1006 = .ok (.aload_n 0, 1) := by decide +kernel
theorem d0_1007 : decode (mC 0) 1007 = .ok (.iload 4, 2) := by decide +kernel
theorem d0_1009 : decode (mC 0) 1009 = .ok (.iconst 1, 1) := by decide +kernel
theorem d0_1010 : decode (mC 0) 1010 = .ok (.iadd, 1) := by decide +kernel
theorem d0_1011 : decode (mC 0) 1011 = .ok (.iaload, 1) := by decide +kernel
theorem d0_1012 : decode (mC 0) 1012 = .ok (.invokevirtual 134, 3) := by decide +kernel
theorem ml_13_134 : am_ml 13 134 = some 166 := by decide +kernel
theorem mK_166 : mK 166 = 0 := by decide +kernel
theorem cz_0_166 : am_cls 0 = some (mO 166) := by decide +kernel
theorem mA_166 : 1 = mA 166 := by decide +kernel
theorem sl_166 : 2 ≤ mL 166 := by decide +kernel
theorem nu_166 : ¬ 166 ≤ 15 := by decide
theorem d0_1015 : decode (mC 0) 1015 = .ok (.aload_n 2, 1) := by decide +kernel
theorem d0_1016 : decode (mC 0) 1016 = .ok (.aload_n 0, 1) := by decide +kernel
theorem d0_1017 : decode (mC 0) 1017 = .ok (.iload 4, 2) := by decide +kernel
theorem d0_1019 : decode (mC 0) 1019 = .ok (.iconst 1, 1) := by decide +kernel
theorem d0_1020 : decode (mC 0) 1020 = .ok (.iadd, 1) := by decide +kernel
theorem d0_1021 : decode (mC 0) 1021 = .ok (.iaload, 1) := by decide +kernel
theorem d0_1022 : decode (mC 0) 1022 = .ok (.invokevirtual 137, 3) := by decide +kernel
theorem ml_13_137 : am_ml 13 137 = some 333 := by decide +kernel
theorem mK_333 : mK 333 = 0 := by decide +kernel
theorem cz_246_333 : am_cls 246 = some (mO 333) := by decide +kernel
theorem mA_333 : 1 = mA 333 := by decide +kernel
theorem sl_333 : 2 ≤ mL 333 := by decide +kernel
theorem nu_333 : ¬ 333 ≤ 15 := by decide
theorem d0_1025 : decode (mC 0) 1025 = .ok (.if_icmp .eq 5, 3) := by decide +kernel
set_option maxRecDepth 4000 in
theorem lc_20 {i : Int32} {w : Nat → Int32} {σ : SS} {K : KK} {Q : EQ} (hw : Wn σ i w) (h : Pair 166 333 [.int (w 1)] σ K) (kk : ∀ σ2 k s, K σ2 k s → Ev 1000 0 1030 (lw i) [] σ2 (fun o s9 k9 n9 => Q o s9 (k + k9) (s + n9))) : Ev 1000 0 1005 (lw i) [] σ Q := by
  refine ev_aload_n d0_1005 rfl m3 rfl ?_
  refine ev_aload_n d0_1006 rfl m4 rfl ?_
  refine ev_iload d0_1007 rfl m0 rfl ?_
  refine ev_iconst d0_1009 ci_1 rfl ?_
  refine ev_iadd d0_1010 rfl ?_
  refine ev_scrv (v := w 1) mK9_0 d0_1011 hw.2.1.1 hw.2.1.2 rfl ?_
  refine ev_call mO_0 d0_1012 (cm_v1 ml_13_134 (Or.inl mK_166) mA_166 cz_0_166 (Nat.le_of_ble_eq_true rfl)) (by decide) nu_166 sl_166 (kn_of rfl nd_2) h (fun o σ1 k s hh => ?_)
  obtain ⟨v, rfl, hN, hS, h2⟩ := hh
  refine evc_i ?_
  refine ev_aload_n d0_1015 rfl m2 rfl ?_
  refine ev_aload_n d0_1016 rfl m4 rfl ?_
  refine ev_iload d0_1017 rfl m0 rfl ?_
  refine ev_iconst d0_1019 ci_1 rfl ?_
  refine ev_iadd d0_1020 rfl ?_
  refine ev_scrv (v := w 1) mK9_0 d0_1021 (by rw [hN]; exact hw.2.1.1) (by rw [hS]; exact hw.2.1.2) rfl ?_
  refine ev_call mO_0 d0_1022 (cm_v1 ml_13_137 (Or.inl mK_333) mA_333 cz_246_333 (Nat.le_of_ble_eq_true rfl)) (by decide) nu_333 sl_333 (kn_of rfl nd_2) h2 (fun o2 σ2 k2 s2 hh2 => ?_)
  obtain ⟨rfl, hK⟩ := hh2
  refine evc_i ?_
  refine ev_ic_eq d0_1025 (t := 1030) (aj rfl) rfl (fun _ => ?_) (fun z => absurd rfl z)
  refine Ev.mono (kk σ2 _ _ hK) (fun o s9 k9 n9 hq => ?_)
  simp only [Nat.add_assoc, Nat.zero_add] at hq ⊢; exact hq
def CallOK (op : Nat) (w : Nat → Int32) (σ : SS) (K : KK) : Prop := match op with
  | 0 => Pair 146 303 [.long (lgw (w 1) (w 2)), .long (lgw (w 3) (w 4)), .long (lgw (w 5) (w 6))] σ K
  | 1 => Pair 147 306 [] σ K
  | 2 => Pair 148 308 [] σ K
  | 3 => PairT 149 311 "java/lang/IllegalArgumentException" [.int (w 1)] σ K
  | 4 => Pair 150 312 [] σ K
  | 5 => Pair 151 313 [.int (w 1)] σ K
  | 6 => Pair 152 314 [.int (w 1)] σ K
  | 7 => Pair 153 302 [] σ K
  | 8 => PairT 154 317 "java/lang/IllegalStateException" [] σ K
  | 9 => PairU 155 318 "java/lang/IllegalStateException" "java/lang/IndexOutOfBoundsException" [.int (w 1)] σ K
  | 10 => PairU 156 319 "java/lang/IllegalStateException" "java/lang/IndexOutOfBoundsException" [.int (w 1), .int (w 2)] σ K
  | 11 => PairU 157 320 "java/lang/IllegalStateException" "java/lang/IndexOutOfBoundsException" [.int (w 1), .int (w 2), .int (w 3)] σ K
  | 12 => PairU 158 321 "java/lang/IllegalStateException" "java/lang/IndexOutOfBoundsException" [.int (w 1), .int (w 2), .int (w 3)] σ K
  | 13 => PairU 159 322 "java/lang/IllegalStateException" "java/lang/IndexOutOfBoundsException" [.int (w 1), .int (w 2)] σ K
  | 14 => Pair 160 323 [] σ K
  | 15 => Pair 161 324 [] σ K
  | 16 => Pair 162 325 [] σ K
  | 17 => Pair 163 326 [.int (w 1)] σ K
  | 18 => PairT 164 327 "java/lang/IllegalStateException" [] σ K
  | 19 => PairU 165 332 "java/lang/IllegalStateException" "java/lang/IllegalArgumentException" [.int (w 1)] σ K
  | 20 => Pair 166 333 [.int (w 1)] σ K
  | _ => K σ 0 0
