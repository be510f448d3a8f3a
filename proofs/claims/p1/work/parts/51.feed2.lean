theorem d146_0 : decode (mC 146) 0 = .ok (.aload_n 0, 1) := by decide +kernel
theorem d146_1 : decode (mC 146) 1 = .ok (.lload_n 1, 1) := by decide +kernel
theorem d146_2 : decode (mC 146) 2 = .ok (.invokevirtual 85, 3) := by decide +kernel
theorem ml_11_85 : am_ml 11 85 = some 167 := by decide +kernel
theorem mK_167 : mK 167 = 0 := by decide +kernel
theorem cz_0_167 : am_cls 0 = some (mO 167) := by decide +kernel
theorem mA_167 : 1 = mA 167 := by decide +kernel
theorem sl_167 : 3 ≤ mL 167 := by decide +kernel
theorem nu_167 : ¬ 167 ≤ 12 := by decide
theorem mO_146 : mO 146 = 11 := by decide +kernel
theorem d146_5 : decode (mC 146) 5 = .ok (.aload_n 0, 1) := by decide +kernel
theorem d146_6 : decode (mC 146) 6 = .ok (.lload_n 3, 1) := by decide +kernel
theorem d146_7 : decode (mC 146) 7 = .ok (.invokevirtual 85, 3) := by decide +kernel
theorem d146_10 : decode (mC 146) 10 = .ok (.aload_n 0, 1) := by decide +kernel
theorem d146_11 : decode (mC 146) 11 = .ok (.lload 5, 2) := by decide +kernel
theorem d146_13 : decode (mC 146) 13 = .ok (.invokevirtual 85, 3) := by decide +kernel
theorem d146_16 : decode (mC 146) 16 = .ok (.aload_n 0, 1) := by decide +kernel
theorem d146_17 : decode (mC 146) 17 = .ok (.getfield 12, 3) := by decide +kernel
theorem d146_20 : decode (mC 146) 20 = .ok (.getfield 89, 3) := by decide +kernel
theorem mT_146 : mT 146 = (some .int) := by decide +kernel
theorem d146_23 : decode (mC 146) 23 = .ok (.ireturn, 1) := by decide +kernel
def fdL (a b c : Int64) (T : List Int32) : List Int32 := fbn c 8 (fbn b 8 (fbn a 8 T))
theorem fdL_len {a b c : Int64} {T : List Int32} (h : T.length ≤ 4000) : (fdL a b c T).length ≤ 4000 := fbn_len 8 (fbn_len 8 (fbn_len 8 h))
set_option maxRecDepth 4000 in
theorem sp_X11_feed {a b c : Int64} {d : Nat} {σ : SS} (hd : 3 ≤ d) (hl : (sX σ 1).length ≤ 4000) (hc : 1 ≤ sC σ 1) : Ev d 146 0 [(0, .ref 0), (1, .long a), (3, .long b), (5, .long c)] [] σ (fun o σ' k s => o = .inl (some (nI (fdL a b c (sX σ 1)).length)) ∧ ∃ c', Grow 8000 (sC σ 1) c' k s ∧ σ' = uX σ 1 c' (fdL a b c (sX σ 1))) := by
  refine ev_aload_n d146_0 rfl m0 rfl ?_
  refine ev_lload_n d146_1 rfl m1 rfl ?_
  refine ev_call mO_146 d146_2 (cm_v1 ml_11_85 (Or.inl mK_167) mA_167 cz_0_167 (Nat.le_of_ble_eq_true rfl)) (by omega) nu_167 sl_167 (kn_of rfl nd_2) (sp_feedBytes (by omega) (by first | exact hl | exact fbn_len 8 hl | exact fbn_len 8 (fbn_len 8 hl)) (by first | exact hc | (have := hG0.1; rw [sC_uX]; omega) | (have := hG0.1; have := hG1.1; rw [sC_uX]; omega))) (fun o s9 k0 n0 hh => ?_)
  obtain ⟨rfl, c0, hG0, rfl⟩ := hh
  refine evc_v ?_
  refine ev_aload_n d146_5 rfl m0 rfl ?_
  refine ev_lload_n d146_6 rfl m2 rfl ?_
  refine ev_call mO_146 d146_7 (cm_v1 ml_11_85 (Or.inl mK_167) mA_167 cz_0_167 (Nat.le_of_ble_eq_true rfl)) (by omega) nu_167 sl_167 (kn_of rfl nd_2) (sp_feedBytes (by omega) (by first | exact hl | exact fbn_len 8 hl | exact fbn_len 8 (fbn_len 8 hl)) (by first | exact hc | (have := hG0.1; rw [sC_uX]; omega) | (have := hG0.1; have := hG1.1; rw [sC_uX]; omega))) (fun o s9 k1 n1 hh => ?_)
  obtain ⟨rfl, c1, hG1, rfl⟩ := hh
  rw [sC_uX] at hG1
  rw [uX_uX, sX_uX]
  refine evc_v ?_
  refine ev_aload_n d146_10 rfl m0 rfl ?_
  refine ev_lload d146_11 rfl m3 rfl ?_
  refine ev_call mO_146 d146_13 (cm_v1 ml_11_85 (Or.inl mK_167) mA_167 cz_0_167 (Nat.le_of_ble_eq_true rfl)) (by omega) nu_167 sl_167 (kn_of rfl nd_2) (sp_feedBytes (by omega) (by first | exact hl | exact fbn_len 8 hl | exact fbn_len 8 (fbn_len 8 hl)) (by first | exact hc | (have := hG0.1; rw [sC_uX]; omega) | (have := hG0.1; have := hG1.1; rw [sC_uX]; omega))) (fun o s9 k2 n2 hh => ?_)
  obtain ⟨rfl, c2, hG2, rfl⟩ := hh
  rw [sC_uX] at hG2
  rw [uX_uX, sX_uX]
  refine evc_v ?_
  refine ev_aload_n d146_16 rfl m0 rfl ?_
  refine ev_gf (v := .ref 1) mO_146 d146_17 fl_11_12 g_0_0 rfl ?_
  refine ev_gf (v := .int (nI (fbn c 8 (fbn b 8 (fbn a 8 (sX σ 1)))).length)) mO_146 d146_20 fl_11_89 (gt_row rw_1) rfl ?_
  exact ev_iret mT_146 d146_23 ⟨rfl, c2, (hG0.tr (hG1.tr hG2)), rfl⟩
def byM (w : Int64) (k : Int32) : Int32 := (w >>> ((56 - 8 * (k - k / 8 * 8)).toInt64 &&& 63)).toInt32 &&& 255
def rfb (σ : SS) (s : Int32) : SS := if ¬ 4000 ≤ sI σ 246 6 ∧ (s = 10 ∨ (¬ s < 32 ∧ ¬ 126 < s)) then ip (ip σ 247 (sI σ 246 6).toNatClampNeg (vp_nar .byte s.toInt8.toInt32)) 246 6 (sI σ 246 6 + 1) else σ
theorem mL_303 : mL 303 = 11 := by decide +kernel
theorem d303_39 : decode (mC 303) 39 = .ok (.lstore 8, 2) := by decide +kernel
theorem d303_41 : decode (mC 303) 41 = .ok (.lload 8, 2) := by decide +kernel
theorem d303_43 : decode (mC 303) 43 = .ok (.bipush 56, 2) := by decide +kernel
theorem cb_8 : (Int8.ofInt (8)).toInt32 = 8 := by decide
theorem d303_45 : decode (mC 303) 45 = .ok (.bipush 8, 2) := by decide +kernel
theorem d303_47 : decode (mC 303) 47 = .ok (.iload 7, 2) := by decide +kernel
theorem d303_49 : decode (mC 303) 49 = .ok (.bipush 8, 2) := by decide +kernel
theorem d303_51 : decode (mC 303) 51 = .ok (.irem, 1) := by decide +kernel
theorem d303_52 : decode (mC 303) 52 = .ok (.imul, 1) := by decide +kernel
theorem d303_53 : decode (mC 303) 53 = .ok (.isub, 1) := by decide +kernel
theorem d303_54 : decode (mC 303) 54 = .ok (.lshr, 1) := by decide +kernel
theorem d303_55 : decode (mC 303) 55 = .ok (.l2i, 1) := by decide +kernel
theorem d303_56 : decode (mC 303) 56 = .ok (.sipush 255, 3) := by decide +kernel
theorem d303_59 : decode (mC 303) 59 = .ok (.iand, 1) := by decide +kernel
theorem d303_60 : decode (mC 303) 60 = .ok (.istore 10, 2) := by decide +kernel
theorem d303_62 : decode (mC 303) 62 = .ok (.aload_n 0, 1) := by decide +kernel
theorem mO_303 : mO 303 = 12 := by decide +kernel
theorem d303_63 : decode (mC 303) 63 = .ok (.getfield 901, 3) := by decide +kernel
theorem d303_66 : decode (mC 303) 66 = .ok (.sipush 4000, 3) := by decide +kernel
theorem d303_69 : decode (mC 303) 69 = .ok (.if_icmp .ge 46, 3) := by decide +kernel
theorem d303_115 : decode (mC 303) 115 = .ok (.iinc 7 1, 3) := by decide +kernel
theorem d303_118 : decode (mC 303) 118 = .ok (.goto (-110), 3) := by decide +kernel
theorem d303_72 : decode (mC 303) 72 = .ok (.iload 10, 2) := by decide +kernel
theorem d303_74 : decode (mC 303) 74 = .ok (.bipush 10, 2) := by decide +kernel
theorem d303_76 : decode (mC 303) 76 = .ok (.if_icmp .eq 17, 3) := by decide +kernel
theorem d303_93 : decode (mC 303) 93 = .ok (.aload_n 0, 1) := by decide +kernel
theorem fl_12_7 : am_fl 12 7 = some (12, 1) := by decide +kernel
theorem gm_1 {σ : SS} : am_get σ 12 246 1 = some (.ref 247) := gt_mref (j := 0) (by decide +kernel)
theorem d303_94 : decode (mC 303) 94 = .ok (.getfield 7, 3) := by decide +kernel
theorem d303_97 : decode (mC 303) 97 = .ok (.aload_n 0, 1) := by decide +kernel
theorem d303_98 : decode (mC 303) 98 = .ok (.getfield 901, 3) := by decide +kernel
theorem d303_101 : decode (mC 303) 101 = .ok (.iload 10, 2) := by decide +kernel
theorem d303_103 : decode (mC 303) 103 = .ok (.i2b, 1) := by decide +kernel
theorem ar_247 : am_ar 247 = some (1, 4000) := by decide +kernel
theorem d303_104 : decode (mC 303) 104 = .ok (.bastore, 1) := by decide +kernel
theorem d303_105 : decode (mC 303) 105 = .ok (.aload_n 0, 1) := by decide +kernel
theorem d303_106 : decode (mC 303) 106 = .ok (.dup, 1) := by decide +kernel
theorem d303_107 : decode (mC 303) 107 = .ok (.getfield 901, 3) := by decide +kernel
theorem d303_110 : decode (mC 303) 110 = .ok (.iconst 1, 1) := by decide +kernel
theorem d303_111 : decode (mC 303) 111 = .ok (.iadd, 1) := by decide +kernel
theorem d303_112 : decode (mC 303) 112 = .ok (.putfield 901, 3) := by decide +kernel
theorem d303_79 : decode (mC 303) 79 = .ok (.iload 10, 2) := by decide +kernel
theorem d303_81 : decode (mC 303) 81 = .ok (.bipush 32, 2) := by decide +kernel
theorem d303_83 : decode (mC 303) 83 = .ok (.if_icmp .lt 32, 3) := by decide +kernel
theorem d303_86 : decode (mC 303) 86 = .ok (.iload 10, 2) := by decide +kernel
theorem d303_88 : decode (mC 303) 88 = .ok (.bipush 126, 2) := by decide +kernel
theorem d303_90 : decode (mC 303) 90 = .ok (.if_icmp .gt 25, 3) := by decide +kernel
set_option maxRecDepth 4000 in
theorem rf_it {σ : SS} {a b c w : Int64} {k : Int32} {d : Nat} {Q : EQ} (hb : ¬ 4000 ≤ sI σ 246 6 → am_in (sI σ 246 6) 4000 = true) (kk : Ev d 303 8 [(7, .int (k + 1)), (0, .ref 246), (1, .long a), (3, .long b), (5, .long c)] [] (rfb σ (byM w k)) Q) : Ev d 303 39 [(7, .int k), (0, .ref 246), (1, .long a), (3, .long b), (5, .long c)] [.long w] σ Q := by
  refine ev_lstore mL_303 d303_39 rfl (by decide) (lo2 := [(8, .long w), (7, .int k), (0, .ref 246), (1, .long a), (3, .long b), (5, .long c)]) rfl rfl ?_
  refine ev_lload d303_41 rfl m0 rfl ?_
  refine ev_bipush d303_43 cb_56 rfl ?_
  refine ev_bipush d303_45 cb_8 rfl ?_
  refine ev_iload d303_47 rfl m1 rfl ?_
  refine ev_bipush d303_49 cb_8 rfl ?_
  refine ev_irem d303_51 (by decide) rfl ?_
  refine ev_imul d303_52 rfl ?_
  refine ev_isub d303_53 rfl ?_
  refine ev_lshr d303_54 rfl ?_
  refine ev_l2i d303_55 rfl ?_
  refine ev_sipush d303_56 cs_255 rfl ?_
  refine ev_iand d303_59 rfl ?_
  show Ev _ _ _ _ [.int (byM w k)] _ _
  refine ev_istore mL_303 d303_60 rfl (by decide) (lo2 := [(10, .int (byM w k)), (8, .long w), (7, .int k), (0, .ref 246), (1, .long a), (3, .long b), (5, .long c)]) rfl rfl ?_
  refine ev_aload_n d303_62 rfl m3 rfl ?_
  refine ev_gf (v := .int (sI σ 246 6)) mO_303 d303_63 fl_12_901 gm_6 rfl ?_
  refine ev_sipush d303_66 cs_4000 rfl ?_
  refine ev_ic_ge d303_69 (t := 115) (aj rfl) rfl (fun c1 => ?_) (fun c1 => ?_)
  · refine Ev.sub (lo2 := [(7, .int k), (0, .ref 246), (1, .long a), (3, .long b), (5, .long c)]) (fun q hq => ?_) ?_
    · exact .tail _ (.tail _ hq)
    refine ev_iinc mL_303 d303_115 m0 (kn_of (ks := [7, 0, 1, 3, 5]) rfl (by decide)) (by decide) (w := k + 1) (lo2 := [(7, .int (k + 1)), (0, .ref 246), (1, .long a), (3, .long b), (5, .long c)]) rfl rfl rfl ?_
    refine ev_goto d303_118 (t := 8) (aj rfl) ?_
    have e : rfb σ (byM w k) = σ := if_neg (fun h => ?_)
    · rw [e] at kk
      exact kk
    · rcases h with ⟨h3, h | ⟨h, h2⟩⟩ <;> contradiction
  · refine ev_iload d303_72 rfl m0 rfl ?_
    refine ev_bipush d303_74 cb_10 rfl ?_
    refine ev_ic_eq d303_76 (t := 93) (aj rfl) rfl (fun c2 => ?_) (fun c2 => ?_)
    · refine ev_aload_n d303_93 rfl m3 rfl ?_
      refine ev_gf (v := .ref 247) mO_303 d303_94 fl_12_7 gm_1 rfl ?_
      refine ev_aload_n d303_97 rfl m3 rfl ?_
      refine ev_gf (v := .int (sI σ 246 6)) mO_303 d303_98 fl_12_901 gm_6 rfl ?_
      refine ev_iload d303_101 rfl m0 rfl ?_
      refine ev_i2b d303_103 rfl ?_
      refine ev_bast d303_104 ar_247 (hb (by assumption)) rfl ?_
      refine ev_aload_n d303_105 rfl m3 rfl ?_
      refine ev_dup d303_106 rfl rfl ?_
      refine ev_gf (v := .int (sI σ 246 6)) mO_303 d303_107 fl_12_901 gm_6 rfl ?_
      refine ev_iconst d303_110 ci_1 rfl ?_
      refine ev_iadd d303_111 rfl ?_
      refine ev_pf mO_303 d303_112 fl_12_901 (pm_6 nf_int) rfl ?_
      refine Ev.sub (lo2 := [(7, .int k), (0, .ref 246), (1, .long a), (3, .long b), (5, .long c)]) (fun q hq => ?_) ?_
      · exact .tail _ (.tail _ hq)
      refine ev_iinc mL_303 d303_115 m0 (kn_of (ks := [7, 0, 1, 3, 5]) rfl (by decide)) (by decide) (w := k + 1) (lo2 := [(7, .int (k + 1)), (0, .ref 246), (1, .long a), (3, .long b), (5, .long c)]) rfl rfl rfl ?_
      refine ev_goto d303_118 (t := 8) (aj rfl) ?_
      have e : rfb σ (byM w k) = ip (ip σ 247 (sI σ 246 6).toNatClampNeg (vp_nar .byte ((byM w k).toInt8.toInt32))) 246 6 ((sI σ 246 6) + 1) := if_pos ⟨by assumption, by first | exact Or.inl (by assumption) | exact Or.inr ⟨by assumption, by assumption⟩⟩
      rw [e] at kk
      exact kk
    · refine ev_iload d303_79 rfl m0 rfl ?_
      refine ev_bipush d303_81 cb_32 rfl ?_
      refine ev_ic_lt d303_83 (t := 115) (aj rfl) rfl (fun c3 => ?_) (fun c3 => ?_)
      · refine Ev.sub (lo2 := [(7, .int k), (0, .ref 246), (1, .long a), (3, .long b), (5, .long c)]) (fun q hq => ?_) ?_
        · exact .tail _ (.tail _ hq)
        refine ev_iinc mL_303 d303_115 m0 (kn_of (ks := [7, 0, 1, 3, 5]) rfl (by decide)) (by decide) (w := k + 1) (lo2 := [(7, .int (k + 1)), (0, .ref 246), (1, .long a), (3, .long b), (5, .long c)]) rfl rfl rfl ?_
        refine ev_goto d303_118 (t := 8) (aj rfl) ?_
        have e : rfb σ (byM w k) = σ := if_neg (fun h => ?_)
        · rw [e] at kk
          exact kk
        · rcases h with ⟨h3, h | ⟨h, h2⟩⟩ <;> contradiction
      · refine ev_iload d303_86 rfl m0 rfl ?_
        refine ev_bipush d303_88 cb_126 rfl ?_
        refine ev_ic_gt d303_90 (t := 115) (aj rfl) rfl (fun c4 => ?_) (fun c4 => ?_)
        · refine Ev.sub (lo2 := [(7, .int k), (0, .ref 246), (1, .long a), (3, .long b), (5, .long c)]) (fun q hq => ?_) ?_
          · exact .tail _ (.tail _ hq)
          refine ev_iinc mL_303 d303_115 m0 (kn_of (ks := [7, 0, 1, 3, 5]) rfl (by decide)) (by decide) (w := k + 1) (lo2 := [(7, .int (k + 1)), (0, .ref 246), (1, .long a), (3, .long b), (5, .long c)]) rfl rfl rfl ?_
          refine ev_goto d303_118 (t := 8) (aj rfl) ?_
          have e : rfb σ (byM w k) = σ := if_neg (fun h => ?_)
          · rw [e] at kk
            exact kk
          · rcases h with ⟨h3, h | ⟨h, h2⟩⟩ <;> contradiction
        · refine ev_aload_n d303_93 rfl m3 rfl ?_
          refine ev_gf (v := .ref 247) mO_303 d303_94 fl_12_7 gm_1 rfl ?_
          refine ev_aload_n d303_97 rfl m3 rfl ?_
          refine ev_gf (v := .int (sI σ 246 6)) mO_303 d303_98 fl_12_901 gm_6 rfl ?_
          refine ev_iload d303_101 rfl m0 rfl ?_
          refine ev_i2b d303_103 rfl ?_
          refine ev_bast d303_104 ar_247 (hb (by assumption)) rfl ?_
          refine ev_aload_n d303_105 rfl m3 rfl ?_
          refine ev_dup d303_106 rfl rfl ?_
          refine ev_gf (v := .int (sI σ 246 6)) mO_303 d303_107 fl_12_901 gm_6 rfl ?_
          refine ev_iconst d303_110 ci_1 rfl ?_
          refine ev_iadd d303_111 rfl ?_
          refine ev_pf mO_303 d303_112 fl_12_901 (pm_6 nf_int) rfl ?_
          refine Ev.sub (lo2 := [(7, .int k), (0, .ref 246), (1, .long a), (3, .long b), (5, .long c)]) (fun q hq => ?_) ?_
          · exact .tail _ (.tail _ hq)
          refine ev_iinc mL_303 d303_115 m0 (kn_of (ks := [7, 0, 1, 3, 5]) rfl (by decide)) (by decide) (w := k + 1) (lo2 := [(7, .int (k + 1)), (0, .ref 246), (1, .long a), (3, .long b), (5, .long c)]) rfl rfl rfl ?_
          refine ev_goto d303_118 (t := 8) (aj rfl) ?_
          have e : rfb σ (byM w k) = ip (ip σ 247 (sI σ 246 6).toNatClampNeg (vp_nar .byte ((byM w k).toInt8.toInt32))) 246 6 ((sI σ 246 6) + 1) := if_pos ⟨by assumption, by first | exact Or.inl (by assumption) | exact Or.inr ⟨by assumption, by assumption⟩⟩
          rw [e] at kk
          exact kk
theorem d303_8 : decode (mC 303) 8 = .ok (.iload 7, 2) := by decide +kernel
theorem d303_10 : decode (mC 303) 10 = .ok (.bipush 24, 2) := by decide +kernel
theorem d303_12 : decode (mC 303) 12 = .ok (.if_icmp .ge 109, 3) := by decide +kernel
theorem d303_15 : decode (mC 303) 15 = .ok (.iload 7, 2) := by decide +kernel
theorem d303_17 : decode (mC 303) 17 = .ok (.bipush 8, 2) := by decide +kernel
theorem d303_19 : decode (mC 303) 19 = .ok (.if_icmp .ge 7, 3) := by decide +kernel
theorem d303_22 : decode (mC 303) 22 = .ok (.lload_n 1, 1) := by decide +kernel
theorem d303_23 : decode (mC 303) 23 = .ok (.goto 16, 3) := by decide +kernel
theorem d303_26 : decode (mC 303) 26 = .ok (.iload 7, 2) := by decide +kernel
theorem d303_28 : decode (mC 303) 28 = .ok (.bipush 16, 2) := by decide +kernel
theorem d303_30 : decode (mC 303) 30 = .ok (.if_icmp .ge 7, 3) := by decide +kernel
theorem d303_33 : decode (mC 303) 33 = .ok (.lload_n 3, 1) := by decide +kernel
theorem d303_34 : decode (mC 303) 34 = .ok (.goto 5, 3) := by decide +kernel
theorem d303_37 : decode (mC 303) 37 = .ok (.lload 5, 2) := by decide +kernel
theorem d303_121 : decode (mC 303) 121 = .ok (.aload_n 0, 1) := by decide +kernel
theorem d303_122 : decode (mC 303) 122 = .ok (.getfield 901, 3) := by decide +kernel
theorem d303_125 : decode (mC 303) 125 = .ok (.ireturn, 1) := by decide +kernel
theorem mT_303 : mT 303 = (some .int) := by decide +kernel
theorem cb_24 : (Int8.ofInt (24)).toInt32 = 24 := by decide
theorem cb_16 : (Int8.ofInt (16)).toInt32 = 16 := by decide
def wdL (a b c : Int64) (k : Nat) : Int64 := if k < 8 then a else if k < 16 then b else c
def rfn (a b c : Int64) : Nat → Nat → SS → SS
  | 0, _, σ => σ
  | m + 1, k, σ => rfn a b c m (k + 1) (rfb σ (byM (wdL a b c k) (nI k)))
/-- a counter that lies between 0 and 4000 -/
def TpOK (σ : SS) : Prop := ∃ j : Nat, j ≤ 4000 ∧ sI σ 246 6 = nI j
theorem TpOK.b {σ : SS} (h : TpOK σ) : ¬ 4000 ≤ sI σ 246 6 → am_in (sI σ 246 6) 4000 = true := by
  obtain ⟨j, hj, e⟩ := h
  rw [e]
  intro hh
  refine am_in_nI (Nat.lt_of_not_le (fun z => hh ?_)) (by omega)
  exact nI_le (a := 4000) z (by omega)
theorem TpOK.n {σ : SS} (h : TpOK σ) (s : Int32) : TpOK (rfb σ s) := by
  unfold rfb
  split
  · rename_i hh
    obtain ⟨j, hj, e⟩ := h
    refine ⟨j + 1, ?_, ?_⟩
    · rw [e] at hh
      refine Nat.lt_of_not_le (fun z => hh.1 ?_)
      exact nI_le (a := 4000) z (by omega)
    · show sI σ 246 6 + 1 = _
      rw [e, nI_1]
  · exact h
theorem rf_loop {a b c : Int64} {d : Nat} : ∀ (m k : Nat) (σ : SS), k + m = 24 → TpOK σ → Ev d 303 8 [(7, .int (nI k)), (0, .ref 246), (1, .long a), (3, .long b), (5, .long c)] [] σ (Ret (some (sI (rfn a b c m k σ) 246 6)) (rfn a b c m k σ) 0 0)
  | 0, k, σ, hk, ht => by
    refine ev_iload d303_8 rfl m0 rfl ?_
    refine ev_bipush d303_10 cb_24 rfl ?_
    refine ev_ic_ge d303_12 (t := 121) (aj rfl) rfl (fun _ => ?_) (fun z => absurd (nI_le (a := 24) (by omega) (by omega)) z)
    refine ev_aload_n d303_121 rfl m1 rfl ?_
    refine ev_gf (v := .int (sI σ 246 6)) mO_303 d303_122 fl_12_901 gm_6 rfl ?_
    exact ev_iret mT_303 d303_125 ⟨rfl, rfl, rfl, rfl⟩
  | m + 1, k, σ, hk, ht => by
    have hrec := rf_loop (a := a) (b := b) (c := c) (d := d) m (k + 1) (rfb σ (byM (wdL a b c k) (nI k))) (by omega) (ht.n _)
    rw [← nI_1] at hrec
    have hg : rfn a b c (m + 1) k σ = rfn a b c m (k + 1) (rfb σ (byM (wdL a b c k) (nI k))) := rfl
    rw [hg]
    generalize hw : wdL a b c k = w at hrec ⊢
    refine ev_iload d303_8 rfl m0 rfl ?_
    refine ev_bipush d303_10 cb_24 rfl ?_
    refine ev_ic_ge d303_12 (t := 121) (aj rfl) rfl (fun z => absurd z (nI_ge (b := 24) (by omega) (by omega))) (fun _ => ?_)
    refine ev_iload d303_15 rfl m0 rfl ?_
    refine ev_bipush d303_17 cb_8 rfl ?_
    refine ev_ic_ge d303_19 (t := 26) (aj rfl) rfl (fun h8 => ?_) (fun h8 => ?_)
    · have g8 : ¬ k < 8 := fun z => nI_ge (b := 8) z (by omega) h8
      refine ev_iload d303_26 rfl m0 rfl ?_
      refine ev_bipush d303_28 cb_16 rfl ?_
      refine ev_ic_ge d303_30 (t := 37) (aj rfl) rfl (fun h16 => ?_) (fun h16 => ?_)
      · have g16 : ¬ k < 16 := fun z => nI_ge (b := 16) z (by omega) h16
        have e : w = c := by rw [← hw]; unfold wdL; rw [if_neg g8, if_neg g16]
        refine ev_lload d303_37 rfl m4 rfl ?_
        rw [e] at hrec ⊢
        exact rf_it ht.b hrec
      · have g16 : k < 16 := Nat.lt_of_not_le (fun z => h16 (nI_le (a := 16) z (by omega)))
        have e : w = b := by rw [← hw]; unfold wdL; rw [if_neg g8, if_pos g16]
        refine ev_lload_n d303_33 rfl m3 rfl ?_
        refine ev_goto d303_34 (t := 39) (aj rfl) ?_
        rw [e] at hrec ⊢
        exact rf_it ht.b hrec
    · have g8 : k < 8 := Nat.lt_of_not_le (fun z => h8 (nI_le (a := 8) z (by omega)))
      have e : w = a := by rw [← hw]; unfold wdL; rw [if_pos g8]
      refine ev_lload_n d303_22 rfl m2 rfl ?_
      refine ev_goto d303_23 (t := 39) (aj rfl) ?_
      rw [e] at hrec ⊢
      exact rf_it ht.b hrec
theorem d303_0 : decode (mC 303) 0 = .ok (.aload_n 0, 1) := by decide +kernel
theorem d303_1 : decode (mC 303) 1 = .ok (.iconst 0, 1) := by decide +kernel
theorem d303_2 : decode (mC 303) 2 = .ok (.putfield 349, 3) := by decide +kernel
theorem d303_5 : decode (mC 303) 5 = .ok (.iconst 0, 1) := by decide +kernel
theorem d303_6 : decode (mC 303) 6 = .ok (.istore 7, 2) := by decide +kernel
theorem sp_X12_feed {a b c : Int64} {d : Nat} {σ : SS} (ht : TpOK (ip σ 246 0 0)) : Ev d 303 0 [(0, .ref 246), (1, .long a), (3, .long b), (5, .long c)] [] σ (Ret (some (sI (rfn a b c 24 0 (ip σ 246 0 0)) 246 6)) (rfn a b c 24 0 (ip σ 246 0 0)) 0 0) := by
  refine ev_aload_n d303_0 rfl m0 rfl ?_
  refine ev_iconst d303_1 ci_0 rfl ?_
  refine ev_pf mO_303 d303_2 fl_12_349 (pm_0 nf_int) rfl ?_
  refine ev_iconst d303_5 ci_0 rfl ?_
  refine ev_istore mL_303 d303_6 rfl (by decide) (lo2 := [(7, .int 0), (0, .ref 246), (1, .long a), (3, .long b), (5, .long c)]) rfl rfl ?_
  exact Ev.sub (lo2 := [(7, .int (nI 0)), (0, .ref 246), (1, .long a), (3, .long b), (5, .long c)]) (fun _ h => h) (rf_loop 24 0 _ rfl ht)
