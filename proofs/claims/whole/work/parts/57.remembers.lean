/-! THE REFERENCE'S FORMER MANUSCRIPTS -/
def nb (F : Nat → Int32) : Nat → Int32 := fun j => vp_nar .byte (F j)
theorem d305_11 : decode (mC 305) 11 = .ok (.iload_n 1, 1) := by decide +kernel
theorem cs_20000 : (Int16.ofInt (20000)).toInt32 = 20000 := by decide
theorem d305_12 : decode (mC 305) 12 = .ok (.sipush 20000, 3) := by decide +kernel
theorem d305_15 : decode (mC 305) 15 = .ok (.if_icmp .ge 25, 3) := by decide +kernel
theorem d305_18 : decode (mC 305) 18 = .ok (.aload_n 0, 1) := by decide +kernel
theorem fl_12_19 : am_fl 12 19 = some (12, 4) := by decide +kernel
theorem gm_4 {σ : SS} : am_get σ 12 246 4 = some (.ref 250) := gt_mref (j := 3) (by decide +kernel)
theorem mO_305 : mO 305 = 12 := by decide +kernel
theorem d305_19 : decode (mC 305) 19 = .ok (.getfield 19, 3) := by decide +kernel
theorem d305_22 : decode (mC 305) 22 = .ok (.iload_n 1, 1) := by decide +kernel
theorem d305_23 : decode (mC 305) 23 = .ok (.aload_n 0, 1) := by decide +kernel
theorem d305_24 : decode (mC 305) 24 = .ok (.getfield 19, 3) := by decide +kernel
theorem d305_27 : decode (mC 305) 27 = .ok (.iload_n 1, 1) := by decide +kernel
theorem d305_28 : decode (mC 305) 28 = .ok (.sipush 4000, 3) := by decide +kernel
theorem d305_31 : decode (mC 305) 31 = .ok (.iadd, 1) := by decide +kernel
theorem ar_250 : am_ar 250 = some (1, 24000) := by decide +kernel
theorem d305_32 : decode (mC 305) 32 = .ok (.baload, 1) := by decide +kernel
theorem d305_33 : decode (mC 305) 33 = .ok (.bastore, 1) := by decide +kernel
theorem mL_305 : mL 305 = 2 := by decide +kernel
theorem d305_34 : decode (mC 305) 34 = .ok (.iinc 1 1, 3) := by decide +kernel
theorem d305_37 : decode (mC 305) 37 = .ok (.goto (-26), 3) := by decide +kernel
set_option maxRecDepth 4000 in
theorem lq_rem_A {σ : SS} {d : Nat} {Q : EQ}  (kk : Ev d 305 40 [(0, .ref 246), (1, .int (nI 20000))] [] (ar σ 250 (fst_ 20000 0 4000 (sI σ 250) (nb (sI σ 250)))) Q) : ∀ (m i : Nat), i + m = 20000 → Ev d 305 11 [(0, .ref 246), (1, .int (nI i))] [] (ar σ 250 (fst_ i 0 4000 (sI σ 250) (nb (sI σ 250)))) Q
  | 0, i, hi => by
    refine ev_iload_n d305_11 rfl m1 rfl ?_
    refine ev_sipush d305_12 cs_20000 rfl ?_
    refine ev_ic_ge d305_15 (t := 40) (aj rfl) rfl (fun c1 => ?_) (fun z => by have z : ¬ 20000 ≤ i := fun q => z ((nI_leI (a := 20000) (b := i) (by omega) (by omega)).mpr q); omega)
    have c1 : 20000 ≤ i := (nI_leI (a := 20000) (b := i) (by omega) (by omega)).mp c1
    (have e : i = 20000 := by omega); subst e; exact kk
  | m + 1, i, hi => by
    refine ev_iload_n d305_11 rfl m1 rfl ?_
    refine ev_sipush d305_12 cs_20000 rfl ?_
    refine ev_ic_ge d305_15 (t := 40) (aj rfl) rfl (fun z => by have z : 20000 ≤ i := (nI_leI (a := 20000) (b := i) (by omega) (by omega)).mp z; omega) (fun c1 => ?_)
    have c1 : ¬ 20000 ≤ i := fun q => c1 ((nI_leI (a := 20000) (b := i) (by omega) (by omega)).mpr q)
    refine ev_aload_n d305_18 rfl m0 rfl ?_
    refine ev_gf (v := .ref 250) mO_305 d305_19 fl_12_19 gm_4 rfl ?_
    refine ev_iload_n d305_22 rfl m1 rfl ?_
    refine ev_aload_n d305_23 rfl m0 rfl ?_
    refine ev_gf (v := .ref 250) mO_305 d305_24 fl_12_19 gm_4 rfl ?_
    refine ev_iload_n d305_27 rfl m1 rfl ?_
    refine ev_sipush d305_28 cs_4000 rfl ?_
    refine ev_iadd d305_31 rfl ?_
    rw [show nI i + 4000 = nI (i + 4000) from nI_add i 4000]
    refine ev_bald d305_32 ar_250 (by decide) (am_in_nI (by omega) (by decide)) rfl ?_
    rw [nI_clamp (n := i + 4000) (by omega)]
    rw [show (fst_ i 0 4000 (sI σ 250) (nb (sI σ 250))) (i + 4000) = sI σ 250 (i + 4000) from if_neg (by omega)]
    refine ev_bast d305_33 ar_250 (am_in_nI (by omega) (by decide)) rfl ?_
    rw [nI_clamp (n := i) (by omega)]
    refine ev_iincS mL_305 d305_34 m1 (kn_of (ks := [0, 1]) rfl (by decide)) (by decide) (w := nI (i + 1)) (lo2 := [(0, .ref 246), (1, .int (nI (i + 1)))]) (nI_add _ _) (sb2 m1 m0) rfl ?_
    refine ev_goto d305_37 (t := 11) (aj rfl) ?_
    have e := fst_s (n := i) (a := 0) (b := 4000) (F := sI σ 250) (G := nb (sI σ 250))
    rw [Nat.zero_add] at e
    rw [ip_ar]
    have ih := lq_rem_A kk m (i + 1) (by omega)
    rw [← e] at ih
    exact ih
theorem d305_42 : decode (mC 305) 42 = .ok (.iload_n 1, 1) := by decide +kernel
theorem d305_43 : decode (mC 305) 43 = .ok (.iconst 5, 1) := by decide +kernel
theorem d305_44 : decode (mC 305) 44 = .ok (.if_icmp .ge 23, 3) := by decide +kernel
theorem d305_47 : decode (mC 305) 47 = .ok (.aload_n 0, 1) := by decide +kernel
theorem fl_12_22 : am_fl 12 22 = some (12, 5) := by decide +kernel
theorem gm_5 {σ : SS} : am_get σ 12 246 5 = some (.ref 251) := gt_mref (j := 4) (by decide +kernel)
theorem d305_48 : decode (mC 305) 48 = .ok (.getfield 22, 3) := by decide +kernel
theorem d305_51 : decode (mC 305) 51 = .ok (.iload_n 1, 1) := by decide +kernel
theorem d305_52 : decode (mC 305) 52 = .ok (.aload_n 0, 1) := by decide +kernel
theorem d305_53 : decode (mC 305) 53 = .ok (.getfield 22, 3) := by decide +kernel
theorem d305_56 : decode (mC 305) 56 = .ok (.iload_n 1, 1) := by decide +kernel
theorem d305_57 : decode (mC 305) 57 = .ok (.iconst 1, 1) := by decide +kernel
theorem d305_58 : decode (mC 305) 58 = .ok (.iadd, 1) := by decide +kernel
theorem ar_251 : am_ar 251 = some (0, 6) := by decide +kernel
theorem d305_59 : decode (mC 305) 59 = .ok (.iaload, 1) := by decide +kernel
theorem d305_60 : decode (mC 305) 60 = .ok (.iastore, 1) := by decide +kernel
theorem d305_61 : decode (mC 305) 61 = .ok (.iinc 1 1, 3) := by decide +kernel
theorem d305_64 : decode (mC 305) 64 = .ok (.goto (-22), 3) := by decide +kernel
set_option maxRecDepth 4000 in
theorem lq_rem_B {σ : SS} {d : Nat} {Q : EQ}  (kk : Ev d 305 67 [(0, .ref 246), (1, .int (nI 5))] [] (ar σ 251 (fst_ 5 0 1 (sI σ 251) (sI σ 251))) Q) : ∀ (m i : Nat), i + m = 5 → Ev d 305 42 [(0, .ref 246), (1, .int (nI i))] [] (ar σ 251 (fst_ i 0 1 (sI σ 251) (sI σ 251))) Q
  | 0, i, hi => by
    refine ev_iload_n d305_42 rfl m1 rfl ?_
    refine ev_iconst d305_43 ci_5 rfl ?_
    refine ev_ic_ge d305_44 (t := 67) (aj rfl) rfl (fun c1 => ?_) (fun z => by have z : ¬ 5 ≤ i := fun q => z ((nI_leI (a := 5) (b := i) (by omega) (by omega)).mpr q); omega)
    have c1 : 5 ≤ i := (nI_leI (a := 5) (b := i) (by omega) (by omega)).mp c1
    (have e : i = 5 := by omega); subst e; exact kk
  | m + 1, i, hi => by
    refine ev_iload_n d305_42 rfl m1 rfl ?_
    refine ev_iconst d305_43 ci_5 rfl ?_
    refine ev_ic_ge d305_44 (t := 67) (aj rfl) rfl (fun z => by have z : 5 ≤ i := (nI_leI (a := 5) (b := i) (by omega) (by omega)).mp z; omega) (fun c1 => ?_)
    have c1 : ¬ 5 ≤ i := fun q => c1 ((nI_leI (a := 5) (b := i) (by omega) (by omega)).mpr q)
    refine ev_aload_n d305_47 rfl m0 rfl ?_
    refine ev_gf (v := .ref 251) mO_305 d305_48 fl_12_22 gm_5 rfl ?_
    refine ev_iload_n d305_51 rfl m1 rfl ?_
    refine ev_aload_n d305_52 rfl m0 rfl ?_
    refine ev_gf (v := .ref 251) mO_305 d305_53 fl_12_22 gm_5 rfl ?_
    refine ev_iload_n d305_56 rfl m1 rfl ?_
    refine ev_iconst d305_57 ci_1 rfl ?_
    refine ev_iadd d305_58 rfl ?_
    rw [show nI i + 1 = nI (i + 1) from nI_add i 1]
    refine ev_iald d305_59 (by decide) ar_251 (am_in_nI (by omega) (by decide)) rfl ?_
    rw [nI_clamp (n := i + 1) (by omega)]
    rw [show (fst_ i 0 1 (sI σ 251) (sI σ 251)) (i + 1) = sI σ 251 (i + 1) from if_neg (by omega)]
    refine ev_iast d305_60 ar_251 (am_in_nI (by omega) (by decide)) rfl ?_
    rw [nI_clamp (n := i) (by omega)]
    refine ev_iincS mL_305 d305_61 m1 (kn_of (ks := [0, 1]) rfl (by decide)) (by decide) (w := nI (i + 1)) (lo2 := [(0, .ref 246), (1, .int (nI (i + 1)))]) (nI_add _ _) (sb2 m1 m0) rfl ?_
    refine ev_goto d305_64 (t := 42) (aj rfl) ?_
    have e := fst_s (n := i) (a := 0) (b := 1) (F := sI σ 251) (G := sI σ 251)
    rw [Nat.zero_add] at e
    rw [ip_ar]
    have ih := lq_rem_B kk m (i + 1) (by omega)
    rw [← e] at ih
    exact ih
theorem d305_74 : decode (mC 305) 74 = .ok (.iload_n 1, 1) := by decide +kernel
theorem d305_75 : decode (mC 305) 75 = .ok (.aload_n 0, 1) := by decide +kernel
theorem d305_76 : decode (mC 305) 76 = .ok (.getfield 868, 3) := by decide +kernel
theorem d305_79 : decode (mC 305) 79 = .ok (.if_icmp .ge 30, 3) := by decide +kernel
theorem d305_82 : decode (mC 305) 82 = .ok (.aload_n 0, 1) := by decide +kernel
theorem d305_83 : decode (mC 305) 83 = .ok (.getfield 19, 3) := by decide +kernel
theorem d305_86 : decode (mC 305) 86 = .ok (.sipush 4000, 3) := by decide +kernel
theorem d305_89 : decode (mC 305) 89 = .ok (.aload_n 0, 1) := by decide +kernel
theorem fl_12_904 : am_fl 12 904 = some (12, 8) := by decide +kernel
theorem gm_8 {σ : SS} : am_get σ 12 246 8 = some (.int (sI σ 246 8)) := gt_mint (by decide +kernel) (by decide)
theorem d305_90 : decode (mC 305) 90 = .ok (.getfield 904, 3) := by decide +kernel
theorem d305_93 : decode (mC 305) 93 = .ok (.imul, 1) := by decide +kernel
theorem d305_94 : decode (mC 305) 94 = .ok (.iload_n 1, 1) := by decide +kernel
theorem d305_95 : decode (mC 305) 95 = .ok (.iadd, 1) := by decide +kernel
theorem d305_96 : decode (mC 305) 96 = .ok (.aload_n 0, 1) := by decide +kernel
theorem d305_97 : decode (mC 305) 97 = .ok (.getfield 13, 3) := by decide +kernel
theorem d305_100 : decode (mC 305) 100 = .ok (.iload_n 1, 1) := by decide +kernel
theorem d305_101 : decode (mC 305) 101 = .ok (.baload, 1) := by decide +kernel
theorem d305_102 : decode (mC 305) 102 = .ok (.bastore, 1) := by decide +kernel
theorem d305_103 : decode (mC 305) 103 = .ok (.iinc 1 1, 3) := by decide +kernel
theorem d305_106 : decode (mC 305) 106 = .ok (.goto (-32), 3) := by decide +kernel
set_option maxRecDepth 4000 in
theorem lq_rem_C {σ : SS} {d n z : Nat} {Q : EQ} (hn : sI σ 246 8 = nI n) (hn5 : n ≤ 5) (hz : sI σ 246 7 = nI z) (hz4 : z ≤ 4000) (kk : Ev d 305 109 [(0, .ref 246), (1, .int (nI z))] [] (ar σ 250 (fst_ z (4000 * n) 0 (sI σ 250) (nb (sI σ 248)))) Q) : ∀ (m i : Nat), i + m = z → Ev d 305 74 [(0, .ref 246), (1, .int (nI i))] [] (ar σ 250 (fst_ i (4000 * n) 0 (sI σ 250) (nb (sI σ 248)))) Q
  | 0, i, hi => by
    refine ev_iload_n d305_74 rfl m1 rfl ?_
    refine ev_aload_n d305_75 rfl m0 rfl ?_
    refine ev_gf (v := .int (sI σ 246 7)) mO_305 d305_76 fl_12_868 gm_7 rfl ?_
    rw [hz]
    refine ev_ic_ge d305_79 (t := 109) (aj rfl) rfl (fun c1 => ?_) (fun z => by have z : ¬ z ≤ i := fun q => z ((nI_leI (a := z) (b := i) (by omega) (by omega)).mpr q); omega)
    have c1 : z ≤ i := (nI_leI (a := z) (b := i) (by omega) (by omega)).mp c1
    (have e : i = z := by omega); subst e; exact kk
  | m + 1, i, hi => by
    refine ev_iload_n d305_74 rfl m1 rfl ?_
    refine ev_aload_n d305_75 rfl m0 rfl ?_
    refine ev_gf (v := .int (sI σ 246 7)) mO_305 d305_76 fl_12_868 gm_7 rfl ?_
    rw [hz]
    refine ev_ic_ge d305_79 (t := 109) (aj rfl) rfl (fun z => by have z : z ≤ i := (nI_leI (a := z) (b := i) (by omega) (by omega)).mp z; omega) (fun c1 => ?_)
    have c1 : ¬ z ≤ i := fun q => c1 ((nI_leI (a := z) (b := i) (by omega) (by omega)).mpr q)
    refine ev_aload_n d305_82 rfl m0 rfl ?_
    refine ev_gf (v := .ref 250) mO_305 d305_83 fl_12_19 gm_4 rfl ?_
    refine ev_sipush d305_86 cs_4000 rfl ?_
    refine ev_aload_n d305_89 rfl m0 rfl ?_
    refine ev_gf (v := .int (sI σ 246 8)) mO_305 d305_90 fl_12_904 gm_8 rfl ?_
    rw [hn]
    refine ev_imul d305_93 rfl ?_
    rw [show (4000 : Int32) * nI n = nI (4000 * n) from pk_mul 4000 n]
    refine ev_iload_n d305_94 rfl m1 rfl ?_
    refine ev_iadd d305_95 rfl ?_
    rw [show nI (4000 * n) + nI i = nI (4000 * n + i) from nI_add (4000 * n) i]
    refine ev_aload_n d305_96 rfl m0 rfl ?_
    refine ev_gf (v := .ref 248) mO_305 d305_97 fl_12_13 gm_2 rfl ?_
    refine ev_iload_n d305_100 rfl m1 rfl ?_
    refine ev_bald d305_101 ar_248 (by decide) (am_in_nI (by omega) (by decide)) rfl ?_
    rw [nI_clamp (n := i) (by omega)]
    refine ev_bast d305_102 ar_250 (am_in_nI (by omega) (by decide)) rfl ?_
    rw [nI_clamp (n := 4000 * n + i) (by omega)]
    refine ev_iincS mL_305 d305_103 m1 (kn_of (ks := [0, 1]) rfl (by decide)) (by decide) (w := nI (i + 1)) (lo2 := [(0, .ref 246), (1, .int (nI (i + 1)))]) (nI_add _ _) (sb2 m1 m0) rfl ?_
    refine ev_goto d305_106 (t := 74) (aj rfl) ?_
    have e := fst_s (n := i) (a := 4000 * n) (b := 0) (F := sI σ 250) (G := nb (sI σ 248))
    rw [Nat.add_zero] at e
    rw [ip_ar]
    have ih := lq_rem_C hn hn5 hz hz4 kk m (i + 1) (by omega)
    rw [← e] at ih
    exact ih
def remC (σ : SS) (n z : Nat) : SS := ip (ip (ar σ 250 (fst_ z (4000 * n) 0 (sI σ 250) (nb (sI σ 248)))) 251 n (nI z)) 246 8 (nI (n + 1))
def remA (σ : SS) : SS := ip (ar (ar σ 250 (fst_ 20000 0 4000 (sI σ 250) (nb (sI σ 250)))) 251 (fst_ 5 0 1 (sI σ 251) (sI σ 251))) 246 8 5
def remM (σ : SS) (n z : Nat) : SS := if n = 6 then remC (remA σ) 5 z else remC σ n z
theorem d305_72 : decode (mC 305) 72 = .ok (.iconst 0, 1) := by decide +kernel
theorem d305_73 : decode (mC 305) 73 = .ok (.istore_n 1, 1) := by decide +kernel
theorem d305_109 : decode (mC 305) 109 = .ok (.aload_n 0, 1) := by decide +kernel
theorem d305_110 : decode (mC 305) 110 = .ok (.getfield 22, 3) := by decide +kernel
theorem d305_113 : decode (mC 305) 113 = .ok (.aload_n 0, 1) := by decide +kernel
theorem d305_114 : decode (mC 305) 114 = .ok (.getfield 904, 3) := by decide +kernel
theorem d305_117 : decode (mC 305) 117 = .ok (.aload_n 0, 1) := by decide +kernel
theorem d305_118 : decode (mC 305) 118 = .ok (.getfield 868, 3) := by decide +kernel
theorem d305_121 : decode (mC 305) 121 = .ok (.iastore, 1) := by decide +kernel
theorem d305_122 : decode (mC 305) 122 = .ok (.aload_n 0, 1) := by decide +kernel
theorem d305_123 : decode (mC 305) 123 = .ok (.dup, 1) := by decide +kernel
theorem d305_124 : decode (mC 305) 124 = .ok (.getfield 904, 3) := by decide +kernel
theorem d305_127 : decode (mC 305) 127 = .ok (.iconst 1, 1) := by decide +kernel
theorem d305_128 : decode (mC 305) 128 = .ok (.iadd, 1) := by decide +kernel
theorem fn_12_8 : (tx 12 8).2.2.2 = false := by decide +kernel
theorem pm_8 {σ : SS} {x : Int32} (hx : narrow .int (.int x) = .int x ∧ fits .int (.int x) = true) : am_put σ 12 246 8 (.int x) = some (ip σ 246 8 x) := pt_mint fn_12_8 (by decide +kernel) (by decide) hx
theorem d305_129 : decode (mC 305) 129 = .ok (.putfield 904, 3) := by decide +kernel
theorem mT_305 : mT 305 = none := by decide +kernel
theorem d305_132 : decode (mC 305) 132 = .ok (.return_, 1) := by decide +kernel
set_option maxRecDepth 4000 in
theorem sq_rem_D {σ : SS} {d n z : Nat} (hn : sI σ 246 8 = nI n) (hn5 : n ≤ 5) (hz : sI σ 246 7 = nI z) (hz4 : z ≤ 4000) : Ev d 305 72 [(0, .ref 246)] [] σ (Ret none (remC σ n z) 0 0) := by
  refine ev_iconst d305_72 ci_0 rfl ?_
  refine ev_istore_nS mL_305 d305_73 rfl (by decide) (lo2 := [(0, .ref 246), (1, .int 0)]) (sb2 m1 m0) rfl ?_
  have e0 : fst_ 0 (4000 * n) 0 (sI σ 250) (nb (sI σ 248)) = sI σ 250 := fst_0
  have kk := lq_rem_C (d := d) (Q := Ret none (remC σ n z) 0 0) hn hn5 hz hz4 ?_ z 0 (by omega)
  · rw [e0, ar_self] at kk
    exact kk
  · refine ev_aload_n d305_109 rfl m0 rfl ?_
    refine ev_gf (v := .ref 251) mO_305 d305_110 fl_12_22 gm_5 rfl ?_
    refine ev_aload_n d305_113 rfl m0 rfl ?_
    refine ev_gf (v := .int (sI σ 246 8)) mO_305 d305_114 fl_12_904 gm_8 rfl ?_
    rw [hn]
    refine ev_aload_n d305_117 rfl m0 rfl ?_
    refine ev_gf (v := .int (sI σ 246 7)) mO_305 d305_118 fl_12_868 gm_7 rfl ?_
    rw [hz]
    refine ev_iast d305_121 ar_251 (am_in_nI (by omega) (by decide)) rfl ?_
    rw [nI_clamp (n := n) (by omega)]
    refine ev_aload_n d305_122 rfl m0 rfl ?_
    refine ev_dup d305_123 rfl rfl ?_
    refine ev_gf (v := .int (sI σ 246 8)) mO_305 d305_124 fl_12_904 gm_8 rfl ?_
    rw [hn]
    refine ev_iconst d305_127 ci_1 rfl ?_
    refine ev_iadd d305_128 rfl ?_
    rw [show nI n + 1 = nI (n + 1) from nI_add n 1]
    refine ev_pf mO_305 d305_129 fl_12_904 (pm_8 nf_int) rfl ?_
    exact ev_vret mT_305 d305_132 ⟨rfl, rfl, rfl, rfl⟩
theorem d305_0 : decode (mC 305) 0 = .ok (.aload_n 0, 1) := by decide +kernel
theorem d305_1 : decode (mC 305) 1 = .ok (.getfield 904, 3) := by decide +kernel
theorem d305_4 : decode (mC 305) 4 = .ok (.bipush 6, 2) := by decide +kernel
theorem d305_6 : decode (mC 305) 6 = .ok (.if_icmp .ne 66, 3) := by decide +kernel
theorem d305_9 : decode (mC 305) 9 = .ok (.iconst 0, 1) := by decide +kernel
theorem d305_10 : decode (mC 305) 10 = .ok (.istore_n 1, 1) := by decide +kernel
theorem d305_40 : decode (mC 305) 40 = .ok (.iconst 0, 1) := by decide +kernel
theorem d305_41 : decode (mC 305) 41 = .ok (.istore_n 1, 1) := by decide +kernel
theorem d305_67 : decode (mC 305) 67 = .ok (.aload_n 0, 1) := by decide +kernel
theorem d305_68 : decode (mC 305) 68 = .ok (.iconst 5, 1) := by decide +kernel
theorem d305_69 : decode (mC 305) 69 = .ok (.putfield 904, 3) := by decide +kernel
set_option maxRecDepth 4000 in
theorem sq_X12_remembers {σ : SS} {d n z : Nat} (hn : sI σ 246 8 = nI n) (hn6 : n ≤ 6) (hz : sI σ 246 7 = nI z) (hz4 : z ≤ 4000) : Ev d 305 0 [(0, .ref 246)] [] σ (Ret none (remM σ n z) 0 0) := by
  refine ev_aload_n d305_0 rfl m0 rfl ?_
  refine ev_gf (v := .int (sI σ 246 8)) mO_305 d305_1 fl_12_904 gm_8 rfl ?_
  rw [hn]
  refine ev_bipush d305_4 cb_6 rfl ?_
  refine ev_ic_ne d305_6 (t := 72) (aj rfl) rfl (fun c1 => ?_) (fun c1 => ?_)
  · have c1 : ¬ n = 6 := fun q => c1 ((nI_eq (a := n) (b := 6) (by omega) (by omega)).mpr q)
    rw [show remM σ n z = remC σ n z from if_neg c1]
    exact sq_rem_D hn (by omega) hz hz4
  · have c1 : n = 6 := (nI_eq (a := n) (b := 6) (by omega) (by omega)).mp c1
    refine ev_iconst d305_9 ci_0 rfl ?_
    refine ev_istore_nS mL_305 d305_10 rfl (by decide) (lo2 := [(0, .ref 246), (1, .int 0)]) (sb2 m1 m0) rfl ?_
    subst c1
    rw [show remM σ 6 z = remC (remA σ) 5 z from if_pos rfl]
    have e0 : fst_ 0 0 4000 (sI σ 250) (nb (sI σ 250)) = sI σ 250 := fst_0
    have kk := lq_rem_A (σ := σ) (d := d) (Q := Ret none (remC (remA σ) 5 z) 0 0) ?_ 20000 0 (by omega)
    · rw [e0, ar_self] at kk
      exact kk
    generalize hA : ar σ 250 (fst_ 20000 0 4000 (sI σ 250) (nb (sI σ 250))) = σA
    have a1 : sI σA 251 = sI σ 251 := by rw [← hA]; rfl
    have a2 : remA σ = ip (ar σA 251 (fst_ 5 0 1 (sI σA 251) (sI σA 251))) 246 8 5 := by unfold remA; rw [hA, a1]
    rw [a2]
    refine ev_iconst d305_40 ci_0 rfl ?_
    refine ev_istore_nS mL_305 d305_41 rfl (by decide) (lo2 := [(0, .ref 246), (1, .int 0)]) (sb2 m1 m0) rfl ?_
    have e0 : fst_ 0 0 1 (sI σA 251) (sI σA 251) = sI σA 251 := fst_0
    have kk := lq_rem_B (σ := σA) (d := d) (Q := Ret none (remC (ip (ar σA 251 (fst_ 5 0 1 (sI σA 251) (sI σA 251))) 246 8 5) 5 z) 0 0) ?_ 5 0 (by omega)
    · rw [e0, ar_self] at kk
      exact kk
    refine ev_aload_n d305_67 rfl m0 rfl ?_
    refine ev_iconst d305_68 ci_5 rfl ?_
    refine ev_pf mO_305 d305_69 fl_12_904 (pm_8 nf_int) rfl ?_
    refine Ev.sub (lo2 := [(0, .ref 246)]) (sb1 m0) ?_
    exact sq_rem_D rfl (by decide) (show sI (ip (ar σA 251 (fst_ 5 0 1 (sI σA 251) (sI σA 251))) 246 8 5) 246 7 = nI z by show sI σA 246 7 = nI z; rw [← hA]; exact hz) hz4
