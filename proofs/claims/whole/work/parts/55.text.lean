/-! ARRAYS THAT ARE WRITTEN IN A LOOP -/
def ar (σ : SS) (z : Nat) (F : Nat → Int32) : SS := uI σ (va_up (sI σ) z F)
theorem ip_ar {σ : SS} {z k : Nat} {F : Nat → Int32} {v : Int32} : ip (ar σ z F) z k v = ar σ z (va_up F k v) := by
  unfold ip ar uI vset sI
  dsimp only
  rw [va_up_self, up_up]
theorem ar_self {σ : SS} {z : Nat} : ar σ z (sI σ z) = σ := by
  have e1 : va_up (sI σ) z (sI σ z) = sI σ := by funext j; unfold va_up; split <;> simp [*]
  unfold ar uI
  rw [e1]
theorem ar_ar {σ : SS} {z : Nat} {F G : Nat → Int32} : ar (ar σ z F) z G = ar σ z G := by
  unfold ar uI sI
  dsimp only
  rw [up_up]
/-- so many first ones from elsewhere -/
def fst_ (n a b : Nat) (F G : Nat → Int32) : Nat → Int32 := fun j => if a ≤ j ∧ j < a + n then G (j - a + b) else F j
theorem fst_0 {a b : Nat} {F G : Nat → Int32} : fst_ 0 a b F G = F := by
  funext j
  unfold fst_
  rw [if_neg (by omega)]
theorem fst_s {n a b : Nat} {F G : Nat → Int32} : va_up (fst_ n a b F G) (a + n) (G (n + b)) = fst_ (n + 1) a b F G := by
  funext j
  unfold fst_ va_up
  by_cases h : j = a + n
  · rw [if_pos h, if_pos (by omega), show j - a + b = n + b by omega]
  · rw [if_neg h]
    show (if a ≤ j ∧ j < a + n then G (j - a + b) else F j) = _
    by_cases h2 : a ≤ j ∧ j < a + n
    · rw [if_pos h2, if_pos (by omega)]
    · rw [if_neg h2, if_neg (by omega)]
def cntP (P : Nat → Bool) : Nat → Nat
  | 0 => 0
  | n + 1 => cntP P n + (if P n = true then 1 else 0)
theorem cntP_s {P : Nat → Bool} {n : Nat} : cntP P (n + 1) = cntP P n + (if P n = true then 1 else 0) := rfl
theorem cntP_le {P : Nat → Bool} : ∀ n, cntP P n ≤ n
  | 0 => Nat.le_refl _
  | n + 1 => by
    have := cntP_le (P := P) n
    unfold cntP
    split <;> omega
def lineP (T : List Int32) (j : Nat) : Bool := decide (T.getD j 0 = 10) || decide (j + 1 = T.length)
theorem bin {x : Int32} {n N : Nat} (e : x = nI n) (h : n < N) (hN : N < 2 ^ 31 := by decide) : am_in x N = true := by rw [e]; exact am_in_nI h hN
/-- a byte stays a byte -/
def isB (x : Int32) : Prop := vp_nar .byte x = x
theorem d168_4 : decode (mC 168) 4 = .ok (.iload_n 2, 1) := by decide +kernel
theorem d168_5 : decode (mC 168) 5 = .ok (.aload_n 0, 1) := by decide +kernel
theorem mO_168 : mO 168 = 11 := by decide +kernel
theorem d168_6 : decode (mC 168) 6 = .ok (.getfield 16, 3) := by decide +kernel
theorem d168_9 : decode (mC 168) 9 = .ok (.getfield 89, 3) := by decide +kernel
theorem d168_12 : decode (mC 168) 12 = .ok (.if_icmp .ge 38, 3) := by decide +kernel
theorem d168_15 : decode (mC 168) 15 = .ok (.aload_n 0, 1) := by decide +kernel
theorem d168_16 : decode (mC 168) 16 = .ok (.getfield 16, 3) := by decide +kernel
theorem d168_19 : decode (mC 168) 19 = .ok (.iload_n 2, 1) := by decide +kernel
theorem d168_20 : decode (mC 168) 20 = .ok (.invokevirtual 132, 3) := by decide +kernel
theorem d168_23 : decode (mC 168) 23 = .ok (.bipush 10, 2) := by decide +kernel
theorem d168_25 : decode (mC 168) 25 = .ok (.if_icmp .eq 16, 3) := by decide +kernel
theorem mL_168 : mL 168 = 3 := by decide +kernel
theorem d168_41 : decode (mC 168) 41 = .ok (.iinc 1 1, 3) := by decide +kernel
theorem d168_44 : decode (mC 168) 44 = .ok (.iinc 2 1, 3) := by decide +kernel
theorem d168_47 : decode (mC 168) 47 = .ok (.goto (-43), 3) := by decide +kernel
theorem d168_28 : decode (mC 168) 28 = .ok (.iload_n 2, 1) := by decide +kernel
theorem d168_29 : decode (mC 168) 29 = .ok (.iconst 1, 1) := by decide +kernel
theorem d168_30 : decode (mC 168) 30 = .ok (.iadd, 1) := by decide +kernel
theorem d168_31 : decode (mC 168) 31 = .ok (.aload_n 0, 1) := by decide +kernel
theorem d168_32 : decode (mC 168) 32 = .ok (.getfield 16, 3) := by decide +kernel
theorem d168_35 : decode (mC 168) 35 = .ok (.getfield 89, 3) := by decide +kernel
theorem d168_38 : decode (mC 168) 38 = .ok (.if_icmp .ne 6, 3) := by decide +kernel
set_option maxRecDepth 4000 in
theorem lq_X11_lineCount {σ : SS} {d : Nat} {Q : EQ} (hd : 2 ≤ d) (hl : (sX σ 3).length ≤ 4000) (kk : Ev d 168 50 [(0, .ref 0), (1, .int (nI (cntP (lineP (sX σ 3)) (((sX σ 3).length))))), (2, .int (nI ((sX σ 3).length)))] [] (σ) Q) : ∀ (m i : Nat), i + m = (sX σ 3).length → Ev d 168 4 [(0, .ref 0), (1, .int (nI (cntP (lineP (sX σ 3)) i))), (2, .int (nI i))] [] (σ) Q
  | 0, i, hi => by
    refine ev_iload_n d168_4 rfl m2 rfl ?_
    refine ev_aload_n d168_5 rfl m0 rfl ?_
    refine ev_gf (v := .ref 3) mO_168 d168_6 fl_11_16 g_0_1 rfl ?_
    refine ev_gf (v := .int (nI (sX σ 3).length)) mO_168 d168_9 fl_11_89 (gt_row rw_3) rfl ?_
    refine ev_ic_ge d168_12 (t := 50) (aj rfl) rfl (fun c1 => ?_) (fun z => absurd (nI_le (by omega) (by omega)) z)
    (have e : i = (sX σ 3).length := by omega); subst e; exact kk
  | m + 1, i, hi => by
    refine ev_iload_n d168_4 rfl m2 rfl ?_
    refine ev_aload_n d168_5 rfl m0 rfl ?_
    refine ev_gf (v := .ref 3) mO_168 d168_6 fl_11_16 g_0_1 rfl ?_
    refine ev_gf (v := .int (nI (sX σ 3).length)) mO_168 d168_9 fl_11_89 (gt_row rw_3) rfl ?_
    refine ev_ic_ge d168_12 (t := 50) (aj rfl) rfl (fun z => absurd z (nI_ge (by omega) (by omega))) (fun c1 => ?_)
    refine ev_aload_n d168_15 rfl m0 rfl ?_
    refine ev_gf (v := .ref 3) mO_168 d168_16 fl_11_16 g_0_1 rfl ?_
    refine ev_iload_n d168_19 rfl m2 rfl ?_
    refine ev_rget mO_168 d168_20 rw_3 (cm_v1 ml_11_132 (Or.inl mK_1) mA_1 cz_3_1 (Nat.le_of_ble_eq_true rfl)) (by omega) rfl ?_
    rw [rget_at (by omega) (by omega)]
    refine ev_bipush d168_23 cb_10 rfl ?_
    refine ev_ic_eq d168_25 (t := 41) (aj rfl) rfl (fun c2 => ?_) (fun c2 => ?_)
    · refine ev_iincS mL_168 d168_41 m1 (kn_of (ks := [0, 1, 2]) rfl (by decide)) (by decide) (w := (nI (cntP (lineP (sX σ 3)) i)) + 1) (lo2 := [(0, .ref 0), (1, .int ((nI (cntP (lineP (sX σ 3)) i)) + 1)), (2, .int (nI i))]) rfl (sb3 m1 m0 m2) rfl ?_
      refine ev_iincS mL_168 d168_44 m2 (kn_of (ks := [0, 1, 2]) rfl (by decide)) (by decide) (w := (nI i) + 1) (lo2 := [(0, .ref 0), (1, .int ((nI (cntP (lineP (sX σ 3)) i)) + 1)), (2, .int ((nI i) + 1))]) rfl (sb3 m1 m2 m0) rfl ?_
      refine ev_goto d168_47 (t := 4) (aj rfl) ?_
      have e : cntP (lineP (sX σ 3)) (i + 1) = cntP (lineP (sX σ 3)) i + 1 := by rw [cntP_s, if_pos (by unfold lineP; first | (rw [decide_eq_true (by assumption)]; rfl) | (rw [decide_eq_true (p := i + 1 = _) (by assumption), Bool.or_true]))]
      have ih := lq_X11_lineCount hd hl kk m (i + 1) (by omega)
      rw [e, ← nI_1, ← nI_1] at ih
      exact ih
    · refine ev_iload_n d168_28 rfl m2 rfl ?_
      refine ev_iconst d168_29 ci_1 rfl ?_
      refine ev_iadd d168_30 rfl ?_
      rw [nI_1]
      refine ev_aload_n d168_31 rfl m0 rfl ?_
      refine ev_gf (v := .ref 3) mO_168 d168_32 fl_11_16 g_0_1 rfl ?_
      refine ev_gf (v := .int (nI (sX σ 3).length)) mO_168 d168_35 fl_11_89 (gt_row rw_3) rfl ?_
      refine ev_ic_ne d168_38 (t := 44) (aj rfl) rfl (fun c9 => ?_) (fun c9 => ?_)
      · have c9 : ¬ i + 1 = (sX σ 3).length := fun z => c9 (by rw [z])
        refine ev_iincS mL_168 d168_44 m2 (kn_of (ks := [0, 1, 2]) rfl (by decide)) (by decide) (w := (nI i) + 1) (lo2 := [(0, .ref 0), (1, .int (nI (cntP (lineP (sX σ 3)) i))), (2, .int ((nI i) + 1))]) rfl (sb3 m1 m2 m0) rfl ?_
        refine ev_goto d168_47 (t := 4) (aj rfl) ?_
        have e : cntP (lineP (sX σ 3)) (i + 1) = cntP (lineP (sX σ 3)) i := by rw [cntP_s, if_neg (by unfold lineP; rw [decide_eq_false (by assumption), decide_eq_false (p := i + 1 = _) (by assumption)]; decide), Nat.add_zero]
        have ih := lq_X11_lineCount hd hl kk m (i + 1) (by omega)
        rw [e, ← nI_1] at ih
        exact ih
      · have c9 : i + 1 = (sX σ 3).length := (nI_eq (by omega) (by omega)).mp c9
        refine ev_iincS mL_168 d168_41 m1 (kn_of (ks := [0, 1, 2]) rfl (by decide)) (by decide) (w := (nI (cntP (lineP (sX σ 3)) i)) + 1) (lo2 := [(0, .ref 0), (1, .int ((nI (cntP (lineP (sX σ 3)) i)) + 1)), (2, .int (nI i))]) rfl (sb3 m1 m0 m2) rfl ?_
        refine ev_iincS mL_168 d168_44 m2 (kn_of (ks := [0, 1, 2]) rfl (by decide)) (by decide) (w := (nI i) + 1) (lo2 := [(0, .ref 0), (1, .int ((nI (cntP (lineP (sX σ 3)) i)) + 1)), (2, .int ((nI i) + 1))]) rfl (sb3 m1 m2 m0) rfl ?_
        refine ev_goto d168_47 (t := 4) (aj rfl) ?_
        have e : cntP (lineP (sX σ 3)) (i + 1) = cntP (lineP (sX σ 3)) i + 1 := by rw [cntP_s, if_pos (by unfold lineP; first | (rw [decide_eq_true (by assumption)]; rfl) | (rw [decide_eq_true (p := i + 1 = _) (by assumption), Bool.or_true]))]
        have ih := lq_X11_lineCount hd hl kk m (i + 1) (by omega)
        rw [e, ← nI_1, ← nI_1] at ih
        exact ih
theorem d168_0 : decode (mC 168) 0 = .ok (.iconst 0, 1) := by decide +kernel
theorem d168_1 : decode (mC 168) 1 = .ok (.istore_n 1, 1) := by decide +kernel
theorem d168_2 : decode (mC 168) 2 = .ok (.iconst 0, 1) := by decide +kernel
theorem d168_3 : decode (mC 168) 3 = .ok (.istore_n 2, 1) := by decide +kernel
theorem d168_50 : decode (mC 168) 50 = .ok (.iload_n 1, 1) := by decide +kernel
theorem mT_168 : mT 168 = (some .int) := by decide +kernel
theorem d168_51 : decode (mC 168) 51 = .ok (.ireturn, 1) := by decide +kernel
set_option maxRecDepth 4000 in
theorem sq_X11_lineCount (σ : SS) {d : Nat} (hd : 2 ≤ d) (hl : (sX σ 3).length ≤ 4000) : Ev d 168 0 [(0, .ref 0)] [] σ (Ret (some (nI (cntP (lineP (sX σ 3)) (sX σ 3).length))) σ 0 0) := by
  refine ev_iconst d168_0 ci_0 rfl ?_
  refine ev_istore_nS mL_168 d168_1 rfl (by decide) (lo2 := [(0, .ref 0), (1, .int 0)]) (sb2 m1 m0) rfl ?_
  refine ev_iconst d168_2 ci_0 rfl ?_
  refine ev_istore_nS mL_168 d168_3 rfl (by decide) (lo2 := [(0, .ref 0), (1, .int 0), (2, .int 0)]) (sb3 m1 m2 m0) rfl ?_
  refine lq_X11_lineCount hd hl ?_ (sX σ 3).length 0 (by omega)
  refine ev_iload_n d168_50 rfl m1 rfl ?_
  exact ev_iret mT_168 d168_51 ⟨rfl, rfl, rfl, rfl⟩
theorem d304_4 : decode (mC 304) 4 = .ok (.iload_n 2, 1) := by decide +kernel
theorem d304_5 : decode (mC 304) 5 = .ok (.aload_n 0, 1) := by decide +kernel
theorem mO_304 : mO 304 = 12 := by decide +kernel
theorem d304_6 : decode (mC 304) 6 = .ok (.getfield 868, 3) := by decide +kernel
theorem d304_9 : decode (mC 304) 9 = .ok (.if_icmp .ge 38, 3) := by decide +kernel
theorem d304_12 : decode (mC 304) 12 = .ok (.iload_n 1, 1) := by decide +kernel
theorem d304_13 : decode (mC 304) 13 = .ok (.aload_n 0, 1) := by decide +kernel
theorem d304_14 : decode (mC 304) 14 = .ok (.getfield 13, 3) := by decide +kernel
theorem d304_17 : decode (mC 304) 17 = .ok (.iload_n 2, 1) := by decide +kernel
theorem d304_18 : decode (mC 304) 18 = .ok (.baload, 1) := by decide +kernel
theorem d304_19 : decode (mC 304) 19 = .ok (.bipush 10, 2) := by decide +kernel
theorem d304_21 : decode (mC 304) 21 = .ok (.if_icmp .eq 13, 3) := by decide +kernel
theorem d304_34 : decode (mC 304) 34 = .ok (.iconst 1, 1) := by decide +kernel
theorem d304_35 : decode (mC 304) 35 = .ok (.goto 4, 3) := by decide +kernel
theorem d304_39 : decode (mC 304) 39 = .ok (.iadd, 1) := by decide +kernel
theorem mL_304 : mL 304 = 3 := by decide +kernel
theorem d304_40 : decode (mC 304) 40 = .ok (.istore_n 1, 1) := by decide +kernel
theorem d304_41 : decode (mC 304) 41 = .ok (.iinc 2 1, 3) := by decide +kernel
theorem d304_44 : decode (mC 304) 44 = .ok (.goto (-40), 3) := by decide +kernel
theorem d304_24 : decode (mC 304) 24 = .ok (.iload_n 2, 1) := by decide +kernel
theorem d304_25 : decode (mC 304) 25 = .ok (.aload_n 0, 1) := by decide +kernel
theorem d304_26 : decode (mC 304) 26 = .ok (.getfield 868, 3) := by decide +kernel
theorem d304_29 : decode (mC 304) 29 = .ok (.iconst 1, 1) := by decide +kernel
theorem d304_30 : decode (mC 304) 30 = .ok (.isub, 1) := by decide +kernel
theorem d304_31 : decode (mC 304) 31 = .ok (.if_icmp .ne 7, 3) := by decide +kernel
theorem d304_38 : decode (mC 304) 38 = .ok (.iconst 0, 1) := by decide +kernel
set_option maxRecDepth 4000 in
theorem lq_X12_linesOf {σ : SS} {d : Nat} {T : List Int32} {Q : EQ} (hM : RA 4000 7 248 σ T) (kk : Ev d 304 47 [(0, .ref 246), (1, .int (nI (cntP (lineP T) T.length))), (2, .int (nI T.length))] [] (σ) Q) : ∀ (m i : Nat), i + m = T.length → Ev d 304 4 [(0, .ref 246), (1, .int (nI (cntP (lineP T) i))), (2, .int (nI i))] [] (σ) Q
  | 0, i, hi => by
    have hl := hM.1
    refine ev_iload_n d304_4 rfl m2 rfl ?_
    refine ev_aload_n d304_5 rfl m0 rfl ?_
    refine ev_gf (v := .int (sI σ 246 7)) mO_304 d304_6 fl_12_868 gm_7 rfl ?_
    rw [hM.2.1]
    refine ev_ic_ge d304_9 (t := 47) (aj rfl) rfl (fun c1 => ?_) (fun z => absurd (nI_le (by omega) (by omega)) z)
    (have e : i = T.length := by omega); subst e; exact kk
  | m + 1, i, hi => by
    have hl := hM.1
    refine ev_iload_n d304_4 rfl m2 rfl ?_
    refine ev_aload_n d304_5 rfl m0 rfl ?_
    refine ev_gf (v := .int (sI σ 246 7)) mO_304 d304_6 fl_12_868 gm_7 rfl ?_
    rw [hM.2.1]
    refine ev_ic_ge d304_9 (t := 47) (aj rfl) rfl (fun z => absurd z (nI_ge (by omega) (by omega))) (fun c1 => ?_)
    refine ev_iload_n d304_12 rfl m1 rfl ?_
    refine ev_aload_n d304_13 rfl m0 rfl ?_
    refine ev_gf (v := .ref 248) mO_304 d304_14 fl_12_13 gm_2 rfl ?_
    refine ev_iload_n d304_17 rfl m2 rfl ?_
    refine ev_bald d304_18 ar_248 (by decide) (am_in_nI (by omega) (by decide)) rfl ?_
    rw [nI_clamp (n := i) (by omega)]
    rw [hM.2.2 i (by omega)]
    refine ev_bipush d304_19 cb_10 rfl ?_
    refine ev_ic_eq d304_21 (t := 34) (aj rfl) rfl (fun c2 => ?_) (fun c2 => ?_)
    · refine ev_iconst d304_34 ci_1 rfl ?_
      refine ev_goto d304_35 (t := 39) (aj rfl) ?_
      refine ev_iadd d304_39 rfl ?_
      refine ev_istore_nS mL_304 d304_40 rfl (by decide) (lo2 := [(0, .ref 246), (1, .int ((nI (cntP (lineP T) i)) + 1)), (2, .int (nI i))]) (sb3 m1 m0 m2) rfl ?_
      refine ev_iincS mL_304 d304_41 m2 (kn_of (ks := [0, 1, 2]) rfl (by decide)) (by decide) (w := (nI i) + 1) (lo2 := [(0, .ref 246), (1, .int ((nI (cntP (lineP T) i)) + 1)), (2, .int ((nI i) + 1))]) rfl (sb3 m1 m2 m0) rfl ?_
      refine ev_goto d304_44 (t := 4) (aj rfl) ?_
      have e : cntP (lineP T) (i + 1) = cntP (lineP T) i + 1 := by rw [cntP_s, if_pos (by unfold lineP; first | (rw [decide_eq_true (by assumption)]; rfl) | (rw [decide_eq_true (p := i + 1 = _) (by assumption), Bool.or_true]))]
      have ih := lq_X12_linesOf hM kk m (i + 1) (by omega)
      rw [e, ← nI_1, ← nI_1] at ih
      exact ih
    · refine ev_iload_n d304_24 rfl m2 rfl ?_
      refine ev_aload_n d304_25 rfl m0 rfl ?_
      refine ev_gf (v := .int (sI σ 246 7)) mO_304 d304_26 fl_12_868 gm_7 rfl ?_
      rw [hM.2.1]
      refine ev_iconst d304_29 ci_1 rfl ?_
      refine ev_isub d304_30 rfl ?_
      rw [show nI T.length - 1 = nI (T.length - 1) from pk_sub (b := 1) (by omega)]
      refine ev_ic_ne d304_31 (t := 38) (aj rfl) rfl (fun c9 => ?_) (fun c9 => ?_)
      · have c9 : ¬ i + 1 = T.length := fun z => c9 (by rw [show i = T.length - 1 by omega])
        refine ev_iconst d304_38 ci_0 rfl ?_
        refine ev_iadd d304_39 rfl ?_
        refine ev_istore_nS mL_304 d304_40 rfl (by decide) (lo2 := [(0, .ref 246), (1, .int ((nI (cntP (lineP T) i)) + 0)), (2, .int (nI i))]) (sb3 m1 m0 m2) rfl ?_
        refine ev_iincS mL_304 d304_41 m2 (kn_of (ks := [0, 1, 2]) rfl (by decide)) (by decide) (w := (nI i) + 1) (lo2 := [(0, .ref 246), (1, .int ((nI (cntP (lineP T) i)) + 0)), (2, .int ((nI i) + 1))]) rfl (sb3 m1 m2 m0) rfl ?_
        refine ev_goto d304_44 (t := 4) (aj rfl) ?_
        have e : cntP (lineP T) (i + 1) = cntP (lineP T) i := by rw [cntP_s, if_neg (by unfold lineP; rw [decide_eq_false (by assumption), decide_eq_false (p := i + 1 = _) (by assumption)]; decide), Nat.add_zero]
        have ih := lq_X12_linesOf hM kk m (i + 1) (by omega)
        rw [e, ← nI_1] at ih
        rw [Int32.add_zero]
        exact ih
      · have c9 : i + 1 = T.length := by have := (nI_eq (by omega) (by omega)).mp c9; omega
        refine ev_iconst d304_34 ci_1 rfl ?_
        refine ev_goto d304_35 (t := 39) (aj rfl) ?_
        refine ev_iadd d304_39 rfl ?_
        refine ev_istore_nS mL_304 d304_40 rfl (by decide) (lo2 := [(0, .ref 246), (1, .int ((nI (cntP (lineP T) i)) + 1)), (2, .int (nI i))]) (sb3 m1 m0 m2) rfl ?_
        refine ev_iincS mL_304 d304_41 m2 (kn_of (ks := [0, 1, 2]) rfl (by decide)) (by decide) (w := (nI i) + 1) (lo2 := [(0, .ref 246), (1, .int ((nI (cntP (lineP T) i)) + 1)), (2, .int ((nI i) + 1))]) rfl (sb3 m1 m2 m0) rfl ?_
        refine ev_goto d304_44 (t := 4) (aj rfl) ?_
        have e : cntP (lineP T) (i + 1) = cntP (lineP T) i + 1 := by rw [cntP_s, if_pos (by unfold lineP; first | (rw [decide_eq_true (by assumption)]; rfl) | (rw [decide_eq_true (p := i + 1 = _) (by assumption), Bool.or_true]))]
        have ih := lq_X12_linesOf hM kk m (i + 1) (by omega)
        rw [e, ← nI_1, ← nI_1] at ih
        exact ih
theorem d304_0 : decode (mC 304) 0 = .ok (.iconst 0, 1) := by decide +kernel
theorem d304_1 : decode (mC 304) 1 = .ok (.istore_n 1, 1) := by decide +kernel
theorem d304_2 : decode (mC 304) 2 = .ok (.iconst 0, 1) := by decide +kernel
theorem d304_3 : decode (mC 304) 3 = .ok (.istore_n 2, 1) := by decide +kernel
theorem d304_47 : decode (mC 304) 47 = .ok (.iload_n 1, 1) := by decide +kernel
theorem mT_304 : mT 304 = (some .int) := by decide +kernel
theorem d304_48 : decode (mC 304) 48 = .ok (.ireturn, 1) := by decide +kernel
set_option maxRecDepth 4000 in
theorem sq_X12_linesOf (σ : SS) {d : Nat} {T : List Int32} (hM : RA 4000 7 248 σ T) : Ev d 304 0 [(0, .ref 246)] [] σ (Ret (some (nI (cntP (lineP T) T.length))) σ 0 0) := by
  refine ev_iconst d304_0 ci_0 rfl ?_
  refine ev_istore_nS mL_304 d304_1 rfl (by decide) (lo2 := [(0, .ref 246), (1, .int 0)]) (sb2 m1 m0) rfl ?_
  refine ev_iconst d304_2 ci_0 rfl ?_
  refine ev_istore_nS mL_304 d304_3 rfl (by decide) (lo2 := [(0, .ref 246), (1, .int 0), (2, .int 0)]) (sb3 m1 m2 m0) rfl ?_
  refine lq_X12_linesOf hM ?_ T.length 0 (by omega)
  refine ev_iload_n d304_47 rfl m1 rfl ?_
  exact ev_iret mT_304 d304_48 ⟨rfl, rfl, rfl, rfl⟩
