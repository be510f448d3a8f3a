theorem no_cnt {a : Int32} (h1 : ¬ a < 3) (h2 : ¬ 12 < a) : ¬ (a.toInt < 0 ∨ 19 < a.toInt) := by
  rw [Int32.lt_iff_toInt_lt] at h1 h2
  have e1 : (3 : Int32).toInt = 3 := rfl
  have e2 : (12 : Int32).toInt = 12 := rfl
  rw [e1] at h1
  rw [e2] at h2
  omega
theorem d173_0 : decode (mC 173) 0 = .ok (.aload_n 0, 1) := by decide +kernel
theorem fl_11_78 : am_fl 11 78 = some (11, 12) := by decide +kernel
theorem g_0_12 {σ : SS} : am_get σ 11 0 12 = some (.ref 212) := gt_ob (f := .inl 212) (by decide) (by decide) ob_0 rfl
theorem mO_173 : mO 173 = 11 := by decide +kernel
theorem d173_1 : decode (mC 173) 1 = .ok (.getfield 78, 3) := by decide +kernel
theorem fl_11_199 : am_fl 11 199 = some (3, 0) := by decide +kernel
theorem ob_212 : am_ob 212 = some (3, [.inr (.inl ()), .inl 213, .inl 218, .inl 220, .inl 222, .inl 224, .inl 226, .inl 228]) := by decide +kernel
theorem g_212_0 {σ : SS} : am_get σ 3 212 0 = some (.int (sI σ 212 0)) := gt_ob (f := .inr (.inl ())) (by decide) (by decide) ob_212 rfl
theorem d173_4 : decode (mC 173) 4 = .ok (.getfield 199, 3) := by decide +kernel
theorem d173_7 : decode (mC 173) 7 = .ok (.ifCond .ne 11, 3) := by decide +kernel
theorem d173_10 : decode (mC 173) 10 = .ok (.new 150, 3) := by decide +kernel
theorem th_173_10 : am_T 173 (.new 150) 10 3 [] = some "java/lang/IllegalStateException" := by decide +kernel
set_option maxRecDepth 4000 in
theorem np_X11_needProof {σ : SS} {d : Nat} (hp : sI σ 212 0 = 0) (hd : 6 ≤ d) : Ev d 173 0 [(0, .ref 0)] [] σ (Thr "java/lang/IllegalStateException" σ 1 6) := by
  refine ev_aload_n d173_0 rfl m0 rfl ?_
  refine ev_gf (v := .ref 212) mO_173 d173_1 fl_11_78 g_0_12 rfl ?_
  refine ev_gf (v := .int (sI σ 212 0)) mO_173 d173_4 fl_11_199 g_212_0 rfl ?_
  refine ev_if_ne d173_7 (t := 18) (aj rfl) rfl (fun z => absurd hp z) (fun c1 => ?_)
  exact ev_T d173_10 rfl th_173_10 (by omega) rfl ⟨rfl, rfl, rfl, rfl⟩
theorem d175_0 : decode (mC 175) 0 = .ok (.aload_n 0, 1) := by decide +kernel
theorem d175_1 : decode (mC 175) 1 = .ok (.invokevirtual 169, 3) := by decide +kernel
theorem ml_11_169 : am_ml 11 169 = some 173 := by decide +kernel
theorem mK_173 : mK 173 = 0 := by decide +kernel
theorem cz_0_173 : am_cls 0 = some (mO 173) := by decide +kernel
theorem mA_173 : 0 = mA 173 := by decide +kernel
theorem sl_173 : 1 ≤ mL 173 := by decide +kernel
theorem nu_173 : ¬ 173 ≤ 12 := by decide
theorem mO_175 : mO 175 = 11 := by decide +kernel
theorem mH_175 : mH 175 = [] := by decide +kernel
set_option maxRecDepth 4000 in
theorem np_X11_needPage {σ : SS} {d : Nat} (hp : sI σ 212 0 = 0) {a1 : Int32} (hd : 7 ≤ d) : Ev d 175 0 [(0, .ref 0), (1, .int a1)] [] σ (Thr "java/lang/IllegalStateException" σ 1 6) := by
  refine ev_aload_n d175_0 rfl m0 rfl ?_
  exact ev_ct mO_175 d175_1 (cm_v0 ml_11_169 (Or.inl mK_173) mA_173 cz_0_173 (Nat.le_of_ble_eq_true rfl)) (by omega) nu_173 sl_173 (kn_of rfl nd_1) (np_X11_needProof hp (by omega)) mH_175 ⟨rfl, rfl, rfl, rfl⟩
theorem d176_0 : decode (mC 176) 0 = .ok (.aload_n 0, 1) := by decide +kernel
theorem d176_1 : decode (mC 176) 1 = .ok (.iload_n 1, 1) := by decide +kernel
theorem d176_2 : decode (mC 176) 2 = .ok (.invokevirtual 175, 3) := by decide +kernel
theorem ml_11_175 : am_ml 11 175 = some 175 := by decide +kernel
theorem mK_175 : mK 175 = 0 := by decide +kernel
theorem cz_0_175 : am_cls 0 = some (mO 175) := by decide +kernel
theorem mA_175 : 1 = mA 175 := by decide +kernel
theorem sl_175 : 2 ≤ mL 175 := by decide +kernel
theorem nu_175 : ¬ 175 ≤ 12 := by decide
theorem mO_176 : mO 176 = 11 := by decide +kernel
theorem mH_176 : mH 176 = [] := by decide +kernel
set_option maxRecDepth 4000 in
theorem np_X11_needLine {σ : SS} {d : Nat} (hp : sI σ 212 0 = 0) {a1 a2 : Int32} (hd : 8 ≤ d) : Ev d 176 0 [(0, .ref 0), (1, .int a1), (2, .int a2)] [] σ (Thr "java/lang/IllegalStateException" σ 1 6) := by
  refine ev_aload_n d176_0 rfl m0 rfl ?_
  refine ev_iload_n d176_1 rfl m1 rfl ?_
  exact ev_ct mO_176 d176_2 (cm_v1 ml_11_175 (Or.inl mK_175) mA_175 cz_0_175 (Nat.le_of_ble_eq_true rfl)) (by omega) nu_175 sl_175 (kn_of rfl nd_2) (np_X11_needPage hp (by omega)) mH_176 ⟨rfl, rfl, rfl, rfl⟩
theorem d177_0 : decode (mC 177) 0 = .ok (.aload_n 0, 1) := by decide +kernel
theorem d177_1 : decode (mC 177) 1 = .ok (.iload_n 1, 1) := by decide +kernel
theorem d177_2 : decode (mC 177) 2 = .ok (.iload_n 2, 1) := by decide +kernel
theorem d177_3 : decode (mC 177) 3 = .ok (.invokevirtual 181, 3) := by decide +kernel
theorem ml_11_181 : am_ml 11 181 = some 176 := by decide +kernel
theorem mK_176 : mK 176 = 0 := by decide +kernel
theorem cz_0_176 : am_cls 0 = some (mO 176) := by decide +kernel
theorem mA_176 : 2 = mA 176 := by decide +kernel
theorem sl_176 : 3 ≤ mL 176 := by decide +kernel
theorem nu_176 : ¬ 176 ≤ 12 := by decide
theorem mO_177 : mO 177 = 11 := by decide +kernel
theorem mH_177 : mH 177 = [] := by decide +kernel
set_option maxRecDepth 4000 in
theorem np_X11_needSign {σ : SS} {d : Nat} (hp : sI σ 212 0 = 0) {a1 a2 a3 : Int32} (hd : 9 ≤ d) : Ev d 177 0 [(0, .ref 0), (1, .int a1), (2, .int a2), (3, .int a3)] [] σ (Thr "java/lang/IllegalStateException" σ 1 6) := by
  refine ev_aload_n d177_0 rfl m0 rfl ?_
  refine ev_iload_n d177_1 rfl m1 rfl ?_
  refine ev_iload_n d177_2 rfl m2 rfl ?_
  exact ev_ct mO_177 d177_3 (cm_v2 ml_11_181 (Or.inl mK_176) mA_176 cz_0_176 (Nat.le_of_ble_eq_true rfl)) (by omega) nu_176 sl_176 (kn_of rfl nd_3) (np_X11_needLine hp (by omega)) mH_177 ⟨rfl, rfl, rfl, rfl⟩
theorem d154_0 : decode (mC 154) 0 = .ok (.aload_n 0, 1) := by decide +kernel
theorem d154_1 : decode (mC 154) 1 = .ok (.invokevirtual 169, 3) := by decide +kernel
theorem mO_154 : mO 154 = 11 := by decide +kernel
theorem mH_154 : mH 154 = [] := by decide +kernel
set_option maxRecDepth 4000 in
theorem np_X11_pages {σ : SS} {d : Nat} (hp : sI σ 212 0 = 0) (hd : 7 ≤ d) : Ev d 154 0 [(0, .ref 0)] [] σ (Thr "java/lang/IllegalStateException" σ 1 6) := by
  refine ev_aload_n d154_0 rfl m0 rfl ?_
  exact ev_ct mO_154 d154_1 (cm_v0 ml_11_169 (Or.inl mK_173) mA_173 cz_0_173 (Nat.le_of_ble_eq_true rfl)) (by omega) nu_173 sl_173 (kn_of rfl nd_1) (np_X11_needProof hp (by omega)) mH_154 ⟨rfl, rfl, rfl, rfl⟩
theorem d164_0 : decode (mC 164) 0 = .ok (.aload_n 0, 1) := by decide +kernel
theorem d164_1 : decode (mC 164) 1 = .ok (.invokevirtual 169, 3) := by decide +kernel
theorem mO_164 : mO 164 = 11 := by decide +kernel
theorem mH_164 : mH 164 = [] := by decide +kernel
set_option maxRecDepth 4000 in
theorem np_X11_keep {σ : SS} {d : Nat} (hp : sI σ 212 0 = 0) (hd : 7 ≤ d) : Ev d 164 0 [(0, .ref 0)] [] σ (Thr "java/lang/IllegalStateException" σ 1 6) := by
  refine ev_aload_n d164_0 rfl m0 rfl ?_
  exact ev_ct mO_164 d164_1 (cm_v0 ml_11_169 (Or.inl mK_173) mA_173 cz_0_173 (Nat.le_of_ble_eq_true rfl)) (by omega) nu_173 sl_173 (kn_of rfl nd_1) (np_X11_needProof hp (by omega)) mH_164 ⟨rfl, rfl, rfl, rfl⟩
theorem d155_0 : decode (mC 155) 0 = .ok (.aload_n 0, 1) := by decide +kernel
theorem d155_1 : decode (mC 155) 1 = .ok (.iload_n 1, 1) := by decide +kernel
theorem d155_2 : decode (mC 155) 2 = .ok (.invokevirtual 175, 3) := by decide +kernel
theorem mO_155 : mO 155 = 11 := by decide +kernel
theorem mH_155 : mH 155 = [] := by decide +kernel
set_option maxRecDepth 4000 in
theorem np_X11_lines {σ : SS} {d : Nat} (hp : sI σ 212 0 = 0) {a1 : Int32} (hd : 8 ≤ d) : Ev d 155 0 [(0, .ref 0), (1, .int a1)] [] σ (Thr "java/lang/IllegalStateException" σ 1 6) := by
  refine ev_aload_n d155_0 rfl m0 rfl ?_
  refine ev_iload_n d155_1 rfl m1 rfl ?_
  exact ev_ct mO_155 d155_2 (cm_v1 ml_11_175 (Or.inl mK_175) mA_175 cz_0_175 (Nat.le_of_ble_eq_true rfl)) (by omega) nu_175 sl_175 (kn_of rfl nd_2) (np_X11_needPage hp (by omega)) mH_155 ⟨rfl, rfl, rfl, rfl⟩
theorem d156_0 : decode (mC 156) 0 = .ok (.aload_n 0, 1) := by decide +kernel
theorem mO_156 : mO 156 = 11 := by decide +kernel
theorem d156_1 : decode (mC 156) 1 = .ok (.getfield 78, 3) := by decide +kernel
theorem d156_4 : decode (mC 156) 4 = .ok (.aload_n 0, 1) := by decide +kernel
theorem d156_5 : decode (mC 156) 5 = .ok (.iload_n 1, 1) := by decide +kernel
theorem d156_6 : decode (mC 156) 6 = .ok (.iload_n 2, 1) := by decide +kernel
theorem d156_7 : decode (mC 156) 7 = .ok (.invokevirtual 181, 3) := by decide +kernel
theorem mH_156 : mH 156 = [] := by decide +kernel
set_option maxRecDepth 4000 in
theorem np_X11_length {σ : SS} {d : Nat} (hp : sI σ 212 0 = 0) {a1 a2 : Int32} (hd : 9 ≤ d) : Ev d 156 0 [(0, .ref 0), (1, .int a1), (2, .int a2)] [] σ (Thr "java/lang/IllegalStateException" σ 1 6) := by
  refine ev_aload_n d156_0 rfl m0 rfl ?_
  refine ev_gf (v := .ref 212) mO_156 d156_1 fl_11_78 g_0_12 rfl ?_
  refine ev_aload_n d156_4 rfl m0 rfl ?_
  refine ev_iload_n d156_5 rfl m1 rfl ?_
  refine ev_iload_n d156_6 rfl m2 rfl ?_
  exact ev_ct mO_156 d156_7 (cm_v2 ml_11_181 (Or.inl mK_176) mA_176 cz_0_176 (Nat.le_of_ble_eq_true rfl)) (by omega) nu_176 sl_176 (kn_of rfl nd_3) (np_X11_needLine hp (by omega)) mH_156 ⟨rfl, rfl, rfl, rfl⟩
theorem d157_0 : decode (mC 157) 0 = .ok (.aload_n 0, 1) := by decide +kernel
theorem d157_1 : decode (mC 157) 1 = .ok (.iload_n 1, 1) := by decide +kernel
theorem d157_2 : decode (mC 157) 2 = .ok (.iload_n 2, 1) := by decide +kernel
theorem d157_3 : decode (mC 157) 3 = .ok (.iload_n 3, 1) := by decide +kernel
theorem d157_4 : decode (mC 157) 4 = .ok (.invokevirtual 188, 3) := by decide +kernel
theorem ml_11_188 : am_ml 11 188 = some 177 := by decide +kernel
theorem mK_177 : mK 177 = 0 := by decide +kernel
theorem cz_0_177 : am_cls 0 = some (mO 177) := by decide +kernel
theorem mA_177 : 3 = mA 177 := by decide +kernel
theorem sl_177 : 4 ≤ mL 177 := by decide +kernel
theorem nu_177 : ¬ 177 ≤ 12 := by decide
theorem mO_157 : mO 157 = 11 := by decide +kernel
theorem mH_157 : mH 157 = [] := by decide +kernel
set_option maxRecDepth 4000 in
theorem np_X11_sign {σ : SS} {d : Nat} (hp : sI σ 212 0 = 0) {a1 a2 a3 : Int32} (hd : 10 ≤ d) : Ev d 157 0 [(0, .ref 0), (1, .int a1), (2, .int a2), (3, .int a3)] [] σ (Thr "java/lang/IllegalStateException" σ 1 6) := by
  refine ev_aload_n d157_0 rfl m0 rfl ?_
  refine ev_iload_n d157_1 rfl m1 rfl ?_
  refine ev_iload_n d157_2 rfl m2 rfl ?_
  refine ev_iload_n d157_3 rfl m3 rfl ?_
  exact ev_ct mO_157 d157_4 (cm_v3 ml_11_188 (Or.inl mK_177) mA_177 cz_0_177 (Nat.le_of_ble_eq_true rfl)) (by omega) nu_177 sl_177 (kn_of rfl nd_4) (np_X11_needSign hp (by omega)) mH_157 ⟨rfl, rfl, rfl, rfl⟩
theorem d158_0 : decode (mC 158) 0 = .ok (.aload_n 0, 1) := by decide +kernel
theorem d158_1 : decode (mC 158) 1 = .ok (.iload_n 1, 1) := by decide +kernel
theorem d158_2 : decode (mC 158) 2 = .ok (.iload_n 2, 1) := by decide +kernel
theorem d158_3 : decode (mC 158) 3 = .ok (.iload_n 3, 1) := by decide +kernel
theorem d158_4 : decode (mC 158) 4 = .ok (.invokevirtual 188, 3) := by decide +kernel
theorem mO_158 : mO 158 = 11 := by decide +kernel
theorem mH_158 : mH 158 = [] := by decide +kernel
set_option maxRecDepth 4000 in
theorem np_X11_style {σ : SS} {d : Nat} (hp : sI σ 212 0 = 0) {a1 a2 a3 : Int32} (hd : 10 ≤ d) : Ev d 158 0 [(0, .ref 0), (1, .int a1), (2, .int a2), (3, .int a3)] [] σ (Thr "java/lang/IllegalStateException" σ 1 6) := by
  refine ev_aload_n d158_0 rfl m0 rfl ?_
  refine ev_iload_n d158_1 rfl m1 rfl ?_
  refine ev_iload_n d158_2 rfl m2 rfl ?_
  refine ev_iload_n d158_3 rfl m3 rfl ?_
  exact ev_ct mO_158 d158_4 (cm_v3 ml_11_188 (Or.inl mK_177) mA_177 cz_0_177 (Nat.le_of_ble_eq_true rfl)) (by omega) nu_177 sl_177 (kn_of rfl nd_4) (np_X11_needSign hp (by omega)) mH_158 ⟨rfl, rfl, rfl, rfl⟩
theorem d159_0 : decode (mC 159) 0 = .ok (.aload_n 0, 1) := by decide +kernel
theorem mO_159 : mO 159 = 11 := by decide +kernel
theorem d159_1 : decode (mC 159) 1 = .ok (.getfield 78, 3) := by decide +kernel
theorem fl_11_192 : am_fl 11 192 = some (3, 2) := by decide +kernel
theorem g_212_2 {σ : SS} : am_get σ 3 212 2 = some (.ref 218) := gt_ob (f := .inl 218) (by decide) (by decide) ob_212 rfl
theorem d159_4 : decode (mC 159) 4 = .ok (.getfield 192, 3) := by decide +kernel
theorem d159_7 : decode (mC 159) 7 = .ok (.aload_n 0, 1) := by decide +kernel
theorem d159_8 : decode (mC 159) 8 = .ok (.iload_n 1, 1) := by decide +kernel
theorem d159_9 : decode (mC 159) 9 = .ok (.iload_n 2, 1) := by decide +kernel
theorem d159_10 : decode (mC 159) 10 = .ok (.invokevirtual 181, 3) := by decide +kernel
theorem mH_159 : mH 159 = [] := by decide +kernel
set_option maxRecDepth 4000 in
theorem np_X11_origin {σ : SS} {d : Nat} (hp : sI σ 212 0 = 0) {a1 a2 : Int32} (hd : 9 ≤ d) : Ev d 159 0 [(0, .ref 0), (1, .int a1), (2, .int a2)] [] σ (Thr "java/lang/IllegalStateException" σ 1 6) := by
  refine ev_aload_n d159_0 rfl m0 rfl ?_
  refine ev_gf (v := .ref 212) mO_159 d159_1 fl_11_78 g_0_12 rfl ?_
  refine ev_gf (v := .ref 218) mO_159 d159_4 fl_11_192 g_212_2 rfl ?_
  refine ev_aload_n d159_7 rfl m0 rfl ?_
  refine ev_iload_n d159_8 rfl m1 rfl ?_
  refine ev_iload_n d159_9 rfl m2 rfl ?_
  exact ev_ct mO_159 d159_10 (cm_v2 ml_11_181 (Or.inl mK_176) mA_176 cz_0_176 (Nat.le_of_ble_eq_true rfl)) (by omega) nu_176 sl_176 (kn_of rfl nd_3) (np_X11_needLine hp (by omega)) mH_159 ⟨rfl, rfl, rfl, rfl⟩
theorem d165_0 : decode (mC 165) 0 = .ok (.aload_n 0, 1) := by decide +kernel
theorem d165_1 : decode (mC 165) 1 = .ok (.invokevirtual 169, 3) := by decide +kernel
theorem mO_165 : mO 165 = 11 := by decide +kernel
theorem mH_165 : mH 165 = [] := by decide +kernel
set_option maxRecDepth 4000 in
theorem np_X11_changed {σ : SS} {d : Nat} (hp : sI σ 212 0 = 0) {a1 : Int32} (hd : 7 ≤ d) : Ev d 165 0 [(0, .ref 0), (1, .int a1)] [] σ (Thr "java/lang/IllegalStateException" σ 1 6) := by
  refine ev_aload_n d165_0 rfl m0 rfl ?_
  exact ev_ct mO_165 d165_1 (cm_v0 ml_11_169 (Or.inl mK_173) mA_173 cz_0_173 (Nat.le_of_ble_eq_true rfl)) (by omega) nu_173 sl_173 (kn_of rfl nd_1) (np_X11_needProof hp (by omega)) mH_165 ⟨rfl, rfl, rfl, rfl⟩
theorem fl_12_874 : am_fl 12 874 = some (12, 114) := by decide +kernel
theorem d315_0 : decode (mC 315) 0 = .ok (.aload_n 0, 1) := by decide +kernel
theorem d315_1 : decode (mC 315) 1 = .ok (.aload_n 0, 1) := by decide +kernel
theorem gm_114 {σ : SS} : am_get σ 12 246 114 = some (.int (sI σ 246 114)) := gt_mint (by decide +kernel) (by decide)
theorem mO_315 : mO 315 = 12 := by decide +kernel
theorem d315_2 : decode (mC 315) 2 = .ok (.getfield 874, 3) := by decide +kernel
theorem d315_5 : decode (mC 315) 5 = .ok (.ifCond .ne 7, 3) := by decide +kernel
theorem d315_8 : decode (mC 315) 8 = .ok (.iconst 1, 1) := by decide +kernel
theorem d315_9 : decode (mC 315) 9 = .ok (.goto 47, 3) := by decide +kernel
theorem fn_12_0 : (tx 12 0).2.2.2 = false := by decide +kernel
theorem pm_0 {σ : SS} {x : Int32} (hx : narrow .int (.int x) = .int x ∧ fits .int (.int x) = true) : am_put σ 12 246 0 (.int x) = some (ip σ 246 0 x) := pt_mint fn_12_0 (by decide +kernel) (by decide) hx
theorem d315_56 : decode (mC 315) 56 = .ok (.putfield 349, 3) := by decide +kernel
theorem d315_59 : decode (mC 315) 59 = .ok (.aload_n 0, 1) := by decide +kernel
theorem d315_60 : decode (mC 315) 60 = .ok (.getfield 349, 3) := by decide +kernel
theorem d315_63 : decode (mC 315) 63 = .ok (.ifCond .ne 7, 3) := by decide +kernel
theorem d315_70 : decode (mC 315) 70 = .ok (.iconst 0, 1) := by decide +kernel
theorem mT_315 : mT 315 = (some .boolean) := by decide +kernel
theorem d315_71 : decode (mC 315) 71 = .ok (.ireturn, 1) := by decide +kernel
set_option maxRecDepth 4000 in
theorem nm_X12_isThere {σ : SS} {d : Nat} (hp : sI σ 246 114 = 0) {a1 a2 a3 : Int32} : Ev d 315 0 [(0, .ref 246), (1, .int a1), (2, .int a2), (3, .int a3)] [] σ (Ret (some 0) (ip σ 246 0 1) 0 0) := by
  refine ev_aload_n d315_0 rfl m0 rfl ?_
  refine ev_aload_n d315_1 rfl m0 rfl ?_
  refine ev_gf (v := .int (sI σ 246 114)) mO_315 d315_2 fl_12_874 gm_114 rfl ?_
  refine ev_if_ne d315_5 (t := 12) (aj rfl) rfl (fun z => absurd hp z) (fun c1 => ?_)
  refine ev_iconst d315_8 ci_1 rfl ?_
  refine ev_goto d315_9 (t := 56) (aj rfl) ?_
  refine ev_pf mO_315 d315_56 fl_12_349 (pm_0 nf_int) rfl ?_
  refine ev_aload_n d315_59 rfl m0 rfl ?_
  refine ev_gf (v := .int 1) mO_315 d315_60 fl_12_349 gm_0 rfl ?_
  refine ev_if_ne d315_63 (t := 70) (aj rfl) rfl (fun c2 => ?_) (fun z => absurd z (by decide))
  refine ev_iconst d315_70 ci_0 rfl ?_
  exact ev_zret mT_315 d315_71 (Or.inl rfl) ⟨rfl, rfl, rfl, rfl⟩
theorem d316_0 : decode (mC 316) 0 = .ok (.aload_n 0, 1) := by decide +kernel
theorem d316_1 : decode (mC 316) 1 = .ok (.iload_n 1, 1) := by decide +kernel
theorem d316_2 : decode (mC 316) 2 = .ok (.iload_n 2, 1) := by decide +kernel
theorem d316_3 : decode (mC 316) 3 = .ok (.iconst 1, 1) := by decide +kernel
theorem d316_4 : decode (mC 316) 4 = .ok (.invokevirtual 922, 3) := by decide +kernel
theorem ml_12_922 : am_ml 12 922 = some 315 := by decide +kernel
theorem mK_315 : mK 315 = 0 := by decide +kernel
theorem cz_246_315 : am_cls 246 = some (mO 315) := by decide +kernel
theorem mA_315 : 3 = mA 315 := by decide +kernel
theorem sl_315 : 4 ≤ mL 315 := by decide +kernel
theorem nu_315 : ¬ 315 ≤ 12 := by decide
theorem mO_316 : mO 316 = 12 := by decide +kernel
theorem d316_7 : decode (mC 316) 7 = .ok (.ifCond .ne 5, 3) := by decide +kernel
theorem d316_10 : decode (mC 316) 10 = .ok (.iconst 0, 1) := by decide +kernel
theorem mT_316 : mT 316 = (some .boolean) := by decide +kernel
theorem d316_11 : decode (mC 316) 11 = .ok (.ireturn, 1) := by decide +kernel
set_option maxRecDepth 4000 in
theorem nm_X12_isSign {σ : SS} {d : Nat} (hp : sI σ 246 114 = 0) {a1 a2 a3 : Int32} (hd : 1 ≤ d) : Ev d 316 0 [(0, .ref 246), (1, .int a1), (2, .int a2), (3, .int a3)] [] σ (Ret (some 0) (ip σ 246 0 1) 0 0) := by
  refine ev_aload_n d316_0 rfl m0 rfl ?_
  refine ev_iload_n d316_1 rfl m1 rfl ?_
  refine ev_iload_n d316_2 rfl m2 rfl ?_
  refine ev_iconst d316_3 ci_1 rfl ?_
  refine ev_ci mO_316 d316_4 (cm_v3 ml_12_922 (Or.inl mK_315) mA_315 cz_246_315 (Nat.le_of_ble_eq_true rfl)) (by omega) nu_315 sl_315 (kn_of rfl nd_4) (nm_X12_isThere hp) rfl ?_
  refine ev_if_ne d316_7 (t := 12) (aj rfl) rfl (fun z => absurd z (by decide)) (fun c1 => ?_)
  refine ev_iconst d316_10 ci_0 rfl ?_
  exact ev_zret mT_316 d316_11 (Or.inl rfl) ⟨rfl, rfl, rfl, rfl⟩
theorem d318_0 : decode (mC 318) 0 = .ok (.aload_n 0, 1) := by decide +kernel
theorem d318_1 : decode (mC 318) 1 = .ok (.iload_n 1, 1) := by decide +kernel
theorem d318_2 : decode (mC 318) 2 = .ok (.iconst 0, 1) := by decide +kernel
theorem d318_3 : decode (mC 318) 3 = .ok (.iconst 0, 1) := by decide +kernel
theorem d318_4 : decode (mC 318) 4 = .ok (.invokevirtual 922, 3) := by decide +kernel
theorem mO_318 : mO 318 = 12 := by decide +kernel
theorem d318_7 : decode (mC 318) 7 = .ok (.ifCond .eq 21, 3) := by decide +kernel
theorem d318_28 : decode (mC 318) 28 = .ok (.iconst 0, 1) := by decide +kernel
theorem mT_318 : mT 318 = (some .int) := by decide +kernel
theorem d318_29 : decode (mC 318) 29 = .ok (.ireturn, 1) := by decide +kernel
set_option maxRecDepth 4000 in
theorem nm_X12_lines {σ : SS} {d : Nat} (hp : sI σ 246 114 = 0) {a1 : Int32} (hd : 2 ≤ d) : Ev d 318 0 [(0, .ref 246), (1, .int a1)] [] σ (Ret (some 0) (ip σ 246 0 1) 0 0) := by
  refine ev_aload_n d318_0 rfl m0 rfl ?_
  refine ev_iload_n d318_1 rfl m1 rfl ?_
  refine ev_iconst d318_2 ci_0 rfl ?_
  refine ev_iconst d318_3 ci_0 rfl ?_
  refine ev_ci mO_318 d318_4 (cm_v3 ml_12_922 (Or.inl mK_315) mA_315 cz_246_315 (Nat.le_of_ble_eq_true rfl)) (by omega) nu_315 sl_315 (kn_of rfl nd_4) (nm_X12_isThere hp) rfl ?_
  refine ev_if_eq d318_7 (t := 28) (aj rfl) rfl (fun c1 => ?_) (fun z => absurd (by decide) z)
  refine ev_iconst d318_28 ci_0 rfl ?_
  exact ev_iret mT_318 d318_29 ⟨rfl, rfl, rfl, rfl⟩
theorem d319_0 : decode (mC 319) 0 = .ok (.aload_n 0, 1) := by decide +kernel
theorem d319_1 : decode (mC 319) 1 = .ok (.iload_n 1, 1) := by decide +kernel
theorem d319_2 : decode (mC 319) 2 = .ok (.iload_n 2, 1) := by decide +kernel
theorem d319_3 : decode (mC 319) 3 = .ok (.iconst 1, 1) := by decide +kernel
theorem d319_4 : decode (mC 319) 4 = .ok (.invokevirtual 922, 3) := by decide +kernel
theorem mO_319 : mO 319 = 12 := by decide +kernel
theorem d319_7 : decode (mC 319) 7 = .ok (.ifCond .eq 19, 3) := by decide +kernel
theorem d319_26 : decode (mC 319) 26 = .ok (.iconst 0, 1) := by decide +kernel
theorem mT_319 : mT 319 = (some .int) := by decide +kernel
theorem d319_27 : decode (mC 319) 27 = .ok (.ireturn, 1) := by decide +kernel
set_option maxRecDepth 4000 in
theorem nm_X12_length {σ : SS} {d : Nat} (hp : sI σ 246 114 = 0) {a1 a2 : Int32} (hd : 2 ≤ d) : Ev d 319 0 [(0, .ref 246), (1, .int a1), (2, .int a2)] [] σ (Ret (some 0) (ip σ 246 0 1) 0 0) := by
  refine ev_aload_n d319_0 rfl m0 rfl ?_
  refine ev_iload_n d319_1 rfl m1 rfl ?_
  refine ev_iload_n d319_2 rfl m2 rfl ?_
  refine ev_iconst d319_3 ci_1 rfl ?_
  refine ev_ci mO_319 d319_4 (cm_v3 ml_12_922 (Or.inl mK_315) mA_315 cz_246_315 (Nat.le_of_ble_eq_true rfl)) (by omega) nu_315 sl_315 (kn_of rfl nd_4) (nm_X12_isThere hp) rfl ?_
  refine ev_if_eq d319_7 (t := 26) (aj rfl) rfl (fun c1 => ?_) (fun z => absurd (by decide) z)
  refine ev_iconst d319_26 ci_0 rfl ?_
  exact ev_iret mT_319 d319_27 ⟨rfl, rfl, rfl, rfl⟩
theorem d320_0 : decode (mC 320) 0 = .ok (.aload_n 0, 1) := by decide +kernel
theorem d320_1 : decode (mC 320) 1 = .ok (.iload_n 1, 1) := by decide +kernel
theorem d320_2 : decode (mC 320) 2 = .ok (.iload_n 2, 1) := by decide +kernel
theorem d320_3 : decode (mC 320) 3 = .ok (.iload_n 3, 1) := by decide +kernel
theorem d320_4 : decode (mC 320) 4 = .ok (.invokevirtual 925, 3) := by decide +kernel
theorem ml_12_925 : am_ml 12 925 = some 316 := by decide +kernel
theorem mK_316 : mK 316 = 0 := by decide +kernel
theorem cz_246_316 : am_cls 246 = some (mO 316) := by decide +kernel
theorem mA_316 : 3 = mA 316 := by decide +kernel
theorem sl_316 : 4 ≤ mL 316 := by decide +kernel
theorem nu_316 : ¬ 316 ≤ 12 := by decide
theorem mO_320 : mO 320 = 12 := by decide +kernel
theorem d320_7 : decode (mC 320) 7 = .ok (.ifCond .eq 26, 3) := by decide +kernel
theorem d320_33 : decode (mC 320) 33 = .ok (.iconst 0, 1) := by decide +kernel
theorem mT_320 : mT 320 = (some .int) := by decide +kernel
theorem d320_34 : decode (mC 320) 34 = .ok (.ireturn, 1) := by decide +kernel
set_option maxRecDepth 4000 in
theorem nm_X12_sign {σ : SS} {d : Nat} (hp : sI σ 246 114 = 0) {a1 a2 a3 : Int32} (hd : 2 ≤ d) : Ev d 320 0 [(0, .ref 246), (1, .int a1), (2, .int a2), (3, .int a3)] [] σ (Ret (some 0) (ip σ 246 0 1) 0 0) := by
  refine ev_aload_n d320_0 rfl m0 rfl ?_
  refine ev_iload_n d320_1 rfl m1 rfl ?_
  refine ev_iload_n d320_2 rfl m2 rfl ?_
  refine ev_iload_n d320_3 rfl m3 rfl ?_
  refine ev_ci mO_320 d320_4 (cm_v3 ml_12_925 (Or.inl mK_316) mA_316 cz_246_316 (Nat.le_of_ble_eq_true rfl)) (by omega) nu_316 sl_316 (kn_of rfl nd_4) (nm_X12_isSign hp (by omega)) rfl ?_
  refine ev_if_eq d320_7 (t := 33) (aj rfl) rfl (fun c1 => ?_) (fun z => absurd (by decide) z)
  refine ev_iconst d320_33 ci_0 rfl ?_
  exact ev_iret mT_320 d320_34 ⟨rfl, rfl, rfl, rfl⟩
theorem d321_0 : decode (mC 321) 0 = .ok (.aload_n 0, 1) := by decide +kernel
theorem d321_1 : decode (mC 321) 1 = .ok (.iload_n 1, 1) := by decide +kernel
theorem d321_2 : decode (mC 321) 2 = .ok (.iload_n 2, 1) := by decide +kernel
theorem d321_3 : decode (mC 321) 3 = .ok (.iload_n 3, 1) := by decide +kernel
theorem d321_4 : decode (mC 321) 4 = .ok (.invokevirtual 925, 3) := by decide +kernel
theorem mO_321 : mO 321 = 12 := by decide +kernel
theorem d321_7 : decode (mC 321) 7 = .ok (.ifCond .eq 26, 3) := by decide +kernel
theorem d321_33 : decode (mC 321) 33 = .ok (.iconst 0, 1) := by decide +kernel
theorem mT_321 : mT 321 = (some .int) := by decide +kernel
theorem d321_34 : decode (mC 321) 34 = .ok (.ireturn, 1) := by decide +kernel
set_option maxRecDepth 4000 in
theorem nm_X12_style {σ : SS} {d : Nat} (hp : sI σ 246 114 = 0) {a1 a2 a3 : Int32} (hd : 2 ≤ d) : Ev d 321 0 [(0, .ref 246), (1, .int a1), (2, .int a2), (3, .int a3)] [] σ (Ret (some 0) (ip σ 246 0 1) 0 0) := by
  refine ev_aload_n d321_0 rfl m0 rfl ?_
  refine ev_iload_n d321_1 rfl m1 rfl ?_
  refine ev_iload_n d321_2 rfl m2 rfl ?_
  refine ev_iload_n d321_3 rfl m3 rfl ?_
  refine ev_ci mO_321 d321_4 (cm_v3 ml_12_925 (Or.inl mK_316) mA_316 cz_246_316 (Nat.le_of_ble_eq_true rfl)) (by omega) nu_316 sl_316 (kn_of rfl nd_4) (nm_X12_isSign hp (by omega)) rfl ?_
  refine ev_if_eq d321_7 (t := 33) (aj rfl) rfl (fun c1 => ?_) (fun z => absurd (by decide) z)
  refine ev_iconst d321_33 ci_0 rfl ?_
  exact ev_iret mT_321 d321_34 ⟨rfl, rfl, rfl, rfl⟩
theorem d322_0 : decode (mC 322) 0 = .ok (.aload_n 0, 1) := by decide +kernel
theorem d322_1 : decode (mC 322) 1 = .ok (.iload_n 1, 1) := by decide +kernel
theorem d322_2 : decode (mC 322) 2 = .ok (.iload_n 2, 1) := by decide +kernel
theorem d322_3 : decode (mC 322) 3 = .ok (.iconst 1, 1) := by decide +kernel
theorem d322_4 : decode (mC 322) 4 = .ok (.invokevirtual 922, 3) := by decide +kernel
theorem mO_322 : mO 322 = 12 := by decide +kernel
theorem d322_7 : decode (mC 322) 7 = .ok (.ifCond .eq 19, 3) := by decide +kernel
theorem d322_26 : decode (mC 322) 26 = .ok (.iconst 0, 1) := by decide +kernel
theorem mT_322 : mT 322 = (some .int) := by decide +kernel
theorem d322_27 : decode (mC 322) 27 = .ok (.ireturn, 1) := by decide +kernel
set_option maxRecDepth 4000 in
theorem nm_X12_origin {σ : SS} {d : Nat} (hp : sI σ 246 114 = 0) {a1 a2 : Int32} (hd : 2 ≤ d) : Ev d 322 0 [(0, .ref 246), (1, .int a1), (2, .int a2)] [] σ (Ret (some 0) (ip σ 246 0 1) 0 0) := by
  refine ev_aload_n d322_0 rfl m0 rfl ?_
  refine ev_iload_n d322_1 rfl m1 rfl ?_
  refine ev_iload_n d322_2 rfl m2 rfl ?_
  refine ev_iconst d322_3 ci_1 rfl ?_
  refine ev_ci mO_322 d322_4 (cm_v3 ml_12_922 (Or.inl mK_315) mA_315 cz_246_315 (Nat.le_of_ble_eq_true rfl)) (by omega) nu_315 sl_315 (kn_of rfl nd_4) (nm_X12_isThere hp) rfl ?_
  refine ev_if_eq d322_7 (t := 26) (aj rfl) rfl (fun c1 => ?_) (fun z => absurd (by decide) z)
  refine ev_iconst d322_26 ci_0 rfl ?_
  exact ev_iret mT_322 d322_27 ⟨rfl, rfl, rfl, rfl⟩
theorem d332_0 : decode (mC 332) 0 = .ok (.aload_n 0, 1) := by decide +kernel
theorem d332_1 : decode (mC 332) 1 = .ok (.aload_n 0, 1) := by decide +kernel
theorem mO_332 : mO 332 = 12 := by decide +kernel
theorem d332_2 : decode (mC 332) 2 = .ok (.getfield 874, 3) := by decide +kernel
theorem d332_5 : decode (mC 332) 5 = .ok (.ifCond .eq 10, 3) := by decide +kernel
theorem d332_15 : decode (mC 332) 15 = .ok (.iconst 1, 1) := by decide +kernel
theorem d332_16 : decode (mC 332) 16 = .ok (.goto 17, 3) := by decide +kernel
theorem d332_33 : decode (mC 332) 33 = .ok (.putfield 349, 3) := by decide +kernel
theorem d332_36 : decode (mC 332) 36 = .ok (.aload_n 0, 1) := by decide +kernel
theorem d332_37 : decode (mC 332) 37 = .ok (.getfield 349, 3) := by decide +kernel
theorem d332_40 : decode (mC 332) 40 = .ok (.ifCond .eq 5, 3) := by decide +kernel
theorem d332_43 : decode (mC 332) 43 = .ok (.iconst 0, 1) := by decide +kernel
theorem mT_332 : mT 332 = (some .int) := by decide +kernel
theorem d332_44 : decode (mC 332) 44 = .ok (.ireturn, 1) := by decide +kernel
set_option maxRecDepth 4000 in
theorem nm_X12_changed {σ : SS} {d : Nat} (hp : sI σ 246 114 = 0) {a1 : Int32} : Ev d 332 0 [(0, .ref 246), (1, .int a1)] [] σ (Ret (some 0) (ip σ 246 0 1) 0 0) := by
  refine ev_aload_n d332_0 rfl m0 rfl ?_
  refine ev_aload_n d332_1 rfl m0 rfl ?_
  refine ev_gf (v := .int (sI σ 246 114)) mO_332 d332_2 fl_12_874 gm_114 rfl ?_
  refine ev_if_eq d332_5 (t := 15) (aj rfl) rfl (fun c1 => ?_) (fun z => absurd hp z)
  refine ev_iconst d332_15 ci_1 rfl ?_
  refine ev_goto d332_16 (t := 33) (aj rfl) ?_
  refine ev_pf mO_332 d332_33 fl_12_349 (pm_0 nf_int) rfl ?_
  refine ev_aload_n d332_36 rfl m0 rfl ?_
  refine ev_gf (v := .int 1) mO_332 d332_37 fl_12_349 gm_0 rfl ?_
  refine ev_if_eq d332_40 (t := 45) (aj rfl) rfl (fun z => absurd z (by decide)) (fun c2 => ?_)
  refine ev_iconst d332_43 ci_0 rfl ?_
  exact ev_iret mT_332 d332_44 ⟨rfl, rfl, rfl, rfl⟩
theorem fl_12_901 : am_fl 12 901 = some (12, 6) := by decide +kernel
theorem d149_0 : decode (mC 149) 0 = .ok (.iload_n 1, 1) := by decide +kernel
theorem d149_1 : decode (mC 149) 1 = .ok (.ifCond .lt 9, 3) := by decide +kernel
theorem d149_10 : decode (mC 149) 10 = .ok (.aload_n 0, 1) := by decide +kernel
theorem fl_11_12 : am_fl 11 12 = some (11, 0) := by decide +kernel
theorem g_0_0 {σ : SS} : am_get σ 11 0 0 = some (.ref 1) := gt_ob (f := .inl 1) (by decide) (by decide) ob_0 rfl
theorem mO_149 : mO 149 = 11 := by decide +kernel
theorem d149_11 : decode (mC 149) 11 = .ok (.getfield 12, 3) := by decide +kernel
theorem d149_14 : decode (mC 149) 14 = .ok (.invokevirtual 100, 3) := by decide +kernel
theorem ml_11_100 : am_ml 11 100 = some 3 := by decide +kernel
theorem mK_3 : mK 3 = 0 := by decide +kernel
theorem cz_1_3 : am_cls 1 = some (mO 3) := by decide +kernel
theorem mA_3 : 0 = mA 3 := by decide +kernel
theorem rw_1 : 1 ∈ xRows := by decide +kernel
theorem d149_17 : decode (mC 149) 17 = .ok (.new 115, 3) := by decide +kernel
theorem th_149_17 : am_T 149 (.new 115) 17 3 [] = some "java/lang/IllegalArgumentException" := by decide +kernel
theorem d149_4 : decode (mC 149) 4 = .ok (.iload_n 1, 1) := by decide +kernel
theorem d149_5 : decode (mC 149) 5 = .ok (.bipush 7, 2) := by decide +kernel
theorem d149_7 : decode (mC 149) 7 = .ok (.if_icmp .le 18, 3) := by decide +kernel
set_option maxRecDepth 4000 in
theorem no_X11_replace {σ : SS} {d : Nat} {a1 : Int32} (h : a1 < 0 ∨ ¬ a1 ≤ 7) (hd : 6 ≤ d) : Ev d 149 0 [(0, .ref 0), (1, .int a1)] [] σ (Thr "java/lang/IllegalArgumentException" (uX σ 1 (sC σ 1) []) 1 6) := by
  refine ev_iload_n d149_0 rfl m1 rfl ?_
  refine ev_if_lt d149_1 (t := 10) (aj rfl) rfl (fun c1 => ?_) (fun c1 => ?_)
  · refine ev_aload_n d149_10 rfl m0 rfl ?_
    refine ev_gf (v := .ref 1) mO_149 d149_11 fl_11_12 g_0_0 rfl ?_
    refine ev_rclear mO_149 d149_14 rw_1 (cm_v0 ml_11_100 (Or.inl mK_3) mA_3 cz_1_3 (Nat.le_of_ble_eq_true rfl)) (by omega) rfl ?_
    exact ev_T d149_17 rfl th_149_17 (by omega) rfl ⟨rfl, rfl, rfl, rfl⟩
  · refine ev_iload_n d149_4 rfl m1 rfl ?_
    refine ev_bipush d149_5 cb_7 rfl ?_
    refine ev_ic_le d149_7 (t := 25) (aj rfl) rfl (fun z => absurd (h.resolve_left c1) (fun q => q z)) (fun c2 => ?_)
    refine ev_aload_n d149_10 rfl m0 rfl ?_
    refine ev_gf (v := .ref 1) mO_149 d149_11 fl_11_12 g_0_0 rfl ?_
    refine ev_rclear mO_149 d149_14 rw_1 (cm_v0 ml_11_100 (Or.inl mK_3) mA_3 cz_1_3 (Nat.le_of_ble_eq_true rfl)) (by omega) rfl ?_
    exact ev_T d149_17 rfl th_149_17 (by omega) rfl ⟨rfl, rfl, rfl, rfl⟩
theorem d311_0 : decode (mC 311) 0 = .ok (.aload_n 0, 1) := by decide +kernel
theorem d311_1 : decode (mC 311) 1 = .ok (.iconst 0, 1) := by decide +kernel
theorem mO_311 : mO 311 = 12 := by decide +kernel
theorem d311_2 : decode (mC 311) 2 = .ok (.putfield 349, 3) := by decide +kernel
theorem d311_5 : decode (mC 311) 5 = .ok (.aload_n 0, 1) := by decide +kernel
theorem gm_6 {σ : SS} : am_get σ 12 246 6 = some (.int (sI σ 246 6)) := gt_mint (by decide +kernel) (by decide)
theorem d311_6 : decode (mC 311) 6 = .ok (.getfield 901, 3) := by decide +kernel
theorem mL_311 : mL 311 = 13 := by decide +kernel
theorem d311_9 : decode (mC 311) 9 = .ok (.istore_n 2, 1) := by decide +kernel
theorem d311_10 : decode (mC 311) 10 = .ok (.aload_n 0, 1) := by decide +kernel
theorem d311_11 : decode (mC 311) 11 = .ok (.iconst 0, 1) := by decide +kernel
theorem fn_12_6 : (tx 12 6).2.2.2 = false := by decide +kernel
theorem pm_6 {σ : SS} {x : Int32} (hx : narrow .int (.int x) = .int x ∧ fits .int (.int x) = true) : am_put σ 12 246 6 (.int x) = some (ip σ 246 6 x) := pt_mint fn_12_6 (by decide +kernel) (by decide) hx
theorem d311_12 : decode (mC 311) 12 = .ok (.putfield 901, 3) := by decide +kernel
theorem d311_15 : decode (mC 311) 15 = .ok (.iload_n 1, 1) := by decide +kernel
theorem d311_16 : decode (mC 311) 16 = .ok (.ifCond .lt 9, 3) := by decide +kernel
theorem d311_25 : decode (mC 311) 25 = .ok (.aload_n 0, 1) := by decide +kernel
theorem d311_26 : decode (mC 311) 26 = .ok (.iconst 1, 1) := by decide +kernel
theorem d311_27 : decode (mC 311) 27 = .ok (.putfield 349, 3) := by decide +kernel
theorem d311_30 : decode (mC 311) 30 = .ok (.iconst 0, 1) := by decide +kernel
theorem mT_311 : mT 311 = (some .int) := by decide +kernel
theorem d311_31 : decode (mC 311) 31 = .ok (.ireturn, 1) := by decide +kernel
theorem d311_19 : decode (mC 311) 19 = .ok (.iload_n 1, 1) := by decide +kernel
theorem d311_20 : decode (mC 311) 20 = .ok (.bipush 7, 2) := by decide +kernel
theorem d311_22 : decode (mC 311) 22 = .ok (.if_icmp .le 10, 3) := by decide +kernel
set_option maxRecDepth 4000 in
theorem no_X12_replace {σ : SS} {d : Nat} {a1 : Int32} (h : a1 < 0 ∨ ¬ a1 ≤ 7) : Ev d 311 0 [(0, .ref 246), (1, .int a1)] [] σ (Ret (some 0) (ip (ip (ip σ 246 0 0) 246 6 0) 246 0 1) 0 0) := by
  refine ev_aload_n d311_0 rfl m0 rfl ?_
  refine ev_iconst d311_1 ci_0 rfl ?_
  refine ev_pf mO_311 d311_2 fl_12_349 (pm_0 nf_int) rfl ?_
  refine ev_aload_n d311_5 rfl m0 rfl ?_
  refine ev_gf (v := .int (sI σ 246 6)) mO_311 d311_6 fl_12_901 gm_6 rfl ?_
  refine ev_istore_n mL_311 d311_9 rfl (by decide) (lo2 := [(2, .int (sI σ 246 6)), (0, .ref 246), (1, .int a1)]) rfl rfl ?_
  refine ev_aload_n d311_10 rfl m1 rfl ?_
  refine ev_iconst d311_11 ci_0 rfl ?_
  refine ev_pf mO_311 d311_12 fl_12_901 (pm_6 nf_int) rfl ?_
  refine ev_iload_n d311_15 rfl m2 rfl ?_
  refine ev_if_lt d311_16 (t := 25) (aj rfl) rfl (fun c1 => ?_) (fun c1 => ?_)
  · refine ev_aload_n d311_25 rfl m1 rfl ?_
    refine ev_iconst d311_26 ci_1 rfl ?_
    refine ev_pf mO_311 d311_27 fl_12_349 (pm_0 nf_int) rfl ?_
    refine ev_iconst d311_30 ci_0 rfl ?_
    exact ev_iret mT_311 d311_31 ⟨rfl, rfl, rfl, rfl⟩
  · refine ev_iload_n d311_19 rfl m2 rfl ?_
    refine ev_bipush d311_20 cb_7 rfl ?_
    refine ev_ic_le d311_22 (t := 32) (aj rfl) rfl (fun z => absurd (h.resolve_left c1) (fun q => q z)) (fun c2 => ?_)
    refine ev_aload_n d311_25 rfl m1 rfl ?_
    refine ev_iconst d311_26 ci_1 rfl ?_
    refine ev_pf mO_311 d311_27 fl_12_349 (pm_0 nf_int) rfl ?_
    refine ev_iconst d311_30 ci_0 rfl ?_
    exact ev_iret mT_311 d311_31 ⟨rfl, rfl, rfl, rfl⟩
theorem ci_m1 : Int32.ofInt (-1) = (-1) := by decide
theorem d151_0 : decode (mC 151) 0 = .ok (.iconst (-1), 1) := by decide +kernel
theorem mL_151 : mL 151 = 4 := by decide +kernel
theorem d151_1 : decode (mC 151) 1 = .ok (.istore_n 2, 1) := by decide +kernel
theorem d151_2 : decode (mC 151) 2 = .ok (.aload_n 0, 1) := by decide +kernel
theorem mO_151 : mO 151 = 11 := by decide +kernel
theorem d151_3 : decode (mC 151) 3 = .ok (.getfield 12, 3) := by decide +kernel
theorem fl_11_89 : am_fl 11 89 = some (5, 1) := by decide +kernel
theorem d151_6 : decode (mC 151) 6 = .ok (.getfield 89, 3) := by decide +kernel
theorem d151_9 : decode (mC 151) 9 = .ok (.ifCond .le 75, 3) := by decide +kernel
theorem d151_84 : decode (mC 151) 84 = .ok (.aload_n 0, 1) := by decide +kernel
theorem d151_85 : decode (mC 151) 85 = .ok (.getfield 12, 3) := by decide +kernel
theorem d151_88 : decode (mC 151) 88 = .ok (.invokevirtual 100, 3) := by decide +kernel
theorem d151_91 : decode (mC 151) 91 = .ok (.iload_n 2, 1) := by decide +kernel
theorem mT_151 : mT 151 = (some .int) := by decide +kernel
theorem d151_92 : decode (mC 151) 92 = .ok (.ireturn, 1) := by decide +kernel
set_option maxRecDepth 4000 in
theorem ne_X11_find {σ : SS} {d : Nat} {a1 : Int32} (ht : sX σ 1 = []) (hd : 1 ≤ d) : Ev d 151 0 [(0, .ref 0), (1, .int a1)] [] σ (Ret (some (-1)) (uX σ 1 (sC σ 1) []) 0 0) := by
  refine ev_iconst d151_0 ci_m1 rfl ?_
  refine ev_istore_n mL_151 d151_1 rfl (by decide) (lo2 := [(2, .int ((-1))), (0, .ref 0), (1, .int a1)]) rfl rfl ?_
  refine ev_aload_n d151_2 rfl m1 rfl ?_
  refine ev_gf (v := .ref 1) mO_151 d151_3 fl_11_12 g_0_0 rfl ?_
  refine ev_gf (v := .int (nI (sX σ 1).length)) mO_151 d151_6 fl_11_89 (gt_row rw_1) rfl ?_
  refine ev_if_le d151_9 (t := 84) (aj rfl) rfl (fun c1 => ?_) (fun z => absurd (by rw [ht]; decide) z)
  refine ev_aload_n d151_84 rfl m1 rfl ?_
  refine ev_gf (v := .ref 1) mO_151 d151_85 fl_11_12 g_0_0 rfl ?_
  refine ev_rclear mO_151 d151_88 rw_1 (cm_v0 ml_11_100 (Or.inl mK_3) mA_3 cz_1_3 (Nat.le_of_ble_eq_true rfl)) (by omega) rfl ?_
  refine ev_iload_n d151_91 rfl m0 rfl ?_
  exact ev_iret mT_151 d151_92 ⟨rfl, rfl, rfl, rfl⟩
theorem d313_0 : decode (mC 313) 0 = .ok (.aload_n 0, 1) := by decide +kernel
theorem d313_1 : decode (mC 313) 1 = .ok (.iconst 0, 1) := by decide +kernel
theorem mO_313 : mO 313 = 12 := by decide +kernel
theorem d313_2 : decode (mC 313) 2 = .ok (.putfield 349, 3) := by decide +kernel
theorem d313_5 : decode (mC 313) 5 = .ok (.aload_n 0, 1) := by decide +kernel
theorem d313_6 : decode (mC 313) 6 = .ok (.getfield 901, 3) := by decide +kernel
theorem mL_313 : mL 313 = 4 := by decide +kernel
theorem d313_9 : decode (mC 313) 9 = .ok (.istore_n 2, 1) := by decide +kernel
theorem d313_10 : decode (mC 313) 10 = .ok (.aload_n 0, 1) := by decide +kernel
theorem d313_11 : decode (mC 313) 11 = .ok (.iconst 0, 1) := by decide +kernel
theorem d313_12 : decode (mC 313) 12 = .ok (.putfield 901, 3) := by decide +kernel
theorem d313_15 : decode (mC 313) 15 = .ok (.iload_n 2, 1) := by decide +kernel
theorem d313_16 : decode (mC 313) 16 = .ok (.ifCond .eq 15, 3) := by decide +kernel
theorem d313_31 : decode (mC 313) 31 = .ok (.iconst (-1), 1) := by decide +kernel
theorem mT_313 : mT 313 = (some .int) := by decide +kernel
theorem d313_32 : decode (mC 313) 32 = .ok (.ireturn, 1) := by decide +kernel
set_option maxRecDepth 4000 in
theorem ne_X12_find {σ : SS} {d : Nat} {a1 : Int32} (ht : sI σ 246 6 = 0) : Ev d 313 0 [(0, .ref 246), (1, .int a1)] [] σ (Ret (some (-1)) (ip (ip σ 246 0 0) 246 6 0) 0 0) := by
  refine ev_aload_n d313_0 rfl m0 rfl ?_
  refine ev_iconst d313_1 ci_0 rfl ?_
  refine ev_pf mO_313 d313_2 fl_12_349 (pm_0 nf_int) rfl ?_
  refine ev_aload_n d313_5 rfl m0 rfl ?_
  refine ev_gf (v := .int (sI σ 246 6)) mO_313 d313_6 fl_12_901 gm_6 rfl ?_
  refine ev_istore_n mL_313 d313_9 rfl (by decide) (lo2 := [(2, .int (sI σ 246 6)), (0, .ref 246), (1, .int a1)]) rfl rfl ?_
  refine ev_aload_n d313_10 rfl m1 rfl ?_
  refine ev_iconst d313_11 ci_0 rfl ?_
  refine ev_pf mO_313 d313_12 fl_12_901 (pm_6 nf_int) rfl ?_
  refine ev_iload_n d313_15 rfl m0 rfl ?_
  refine ev_if_eq d313_16 (t := 31) (aj rfl) rfl (fun c1 => ?_) (fun z => absurd ht z)
  refine ev_iconst d313_31 ci_m1 rfl ?_
  exact ev_iret mT_313 d313_32 ⟨rfl, rfl, rfl, rfl⟩
theorem fl_12_868 : am_fl 12 868 = some (12, 7) := by decide +kernel
theorem d314_0 : decode (mC 314) 0 = .ok (.aload_n 0, 1) := by decide +kernel
theorem d314_1 : decode (mC 314) 1 = .ok (.iconst 0, 1) := by decide +kernel
theorem mO_314 : mO 314 = 12 := by decide +kernel
theorem d314_2 : decode (mC 314) 2 = .ok (.putfield 349, 3) := by decide +kernel
theorem d314_5 : decode (mC 314) 5 = .ok (.iload_n 1, 1) := by decide +kernel
theorem d314_6 : decode (mC 314) 6 = .ok (.ifCond .lt 20, 3) := by decide +kernel
theorem d314_26 : decode (mC 314) 26 = .ok (.iconst (-1), 1) := by decide +kernel
theorem mT_314 : mT 314 = (some .int) := by decide +kernel
theorem d314_27 : decode (mC 314) 27 = .ok (.ireturn, 1) := by decide +kernel
theorem d314_9 : decode (mC 314) 9 = .ok (.iload_n 1, 1) := by decide +kernel
theorem d314_10 : decode (mC 314) 10 = .ok (.aload_n 0, 1) := by decide +kernel
theorem gm_7 {σ : SS} : am_get σ 12 246 7 = some (.int (sI σ 246 7)) := gt_mint (by decide +kernel) (by decide)
theorem d314_11 : decode (mC 314) 11 = .ok (.getfield 868, 3) := by decide +kernel
theorem d314_14 : decode (mC 314) 14 = .ok (.if_icmp .ge 12, 3) := by decide +kernel
theorem d314_17 : decode (mC 314) 17 = .ok (.aload_n 0, 1) := by decide +kernel
theorem fl_12_13 : am_fl 12 13 = some (12, 2) := by decide +kernel
theorem gm_2 {σ : SS} : am_get σ 12 246 2 = some (.ref 248) := gt_mref (j := 1) (by decide +kernel)
theorem d314_18 : decode (mC 314) 18 = .ok (.getfield 13, 3) := by decide +kernel
theorem d314_21 : decode (mC 314) 21 = .ok (.iload_n 1, 1) := by decide +kernel
theorem ar_248 : am_ar 248 = some (1, 4000) := by decide +kernel
theorem d314_22 : decode (mC 314) 22 = .ok (.baload, 1) := by decide +kernel
theorem d314_23 : decode (mC 314) 23 = .ok (.goto 4, 3) := by decide +kernel
set_option maxRecDepth 4000 in
theorem sp_X12_letter (σ : SS) (a1 : Int32) {d : Nat} (hb : ¬ a1 < 0 → ¬ sI σ 246 7 ≤ a1 → am_in a1 4000 = true) : Ev d 314 0 [(0, .ref 246), (1, .int a1)] [] σ (Ret (some (if a1 < 0 then -1 else if sI σ 246 7 ≤ a1 then -1 else sI σ 248 a1.toNatClampNeg)) (ip σ 246 0 0) 0 0) := by
  refine ev_aload_n d314_0 rfl m0 rfl ?_
  refine ev_iconst d314_1 ci_0 rfl ?_
  refine ev_pf mO_314 d314_2 fl_12_349 (pm_0 nf_int) rfl ?_
  refine ev_iload_n d314_5 rfl m1 rfl ?_
  refine ev_if_lt d314_6 (t := 26) (aj rfl) rfl (fun c1 => ?_) (fun c1 => ?_)
  · refine ev_iconst d314_26 ci_m1 rfl ?_
    exact ev_iret mT_314 d314_27 ⟨by first | (simp only [*, if_true, if_false]; done) | (simp only [*, if_true, if_false]; rfl), rfl, rfl, rfl⟩
  · refine ev_iload_n d314_9 rfl m1 rfl ?_
    refine ev_aload_n d314_10 rfl m0 rfl ?_
    refine ev_gf (v := .int (sI σ 246 7)) mO_314 d314_11 fl_12_868 gm_7 rfl ?_
    refine ev_ic_ge d314_14 (t := 26) (aj rfl) rfl (fun c2 => ?_) (fun c2 => ?_)
    · refine ev_iconst d314_26 ci_m1 rfl ?_
      exact ev_iret mT_314 d314_27 ⟨by first | (simp only [*, if_true, if_false]; done) | (simp only [*, if_true, if_false]; rfl), rfl, rfl, rfl⟩
    · refine ev_aload_n d314_17 rfl m0 rfl ?_
      refine ev_gf (v := .ref 248) mO_314 d314_18 fl_12_13 gm_2 rfl ?_
      refine ev_iload_n d314_21 rfl m1 rfl ?_
      refine ev_bald d314_22 ar_248 (by decide) (hb c1 c2) rfl ?_
      refine ev_goto d314_23 (t := 27) (aj rfl) ?_
      exact ev_iret mT_314 d314_27 ⟨by first | (simp only [*, if_true, if_false]; done) | (simp only [*, if_true, if_false]; rfl), rfl, rfl, rfl⟩
theorem fl_12_928 : am_fl 12 928 = some (12, 141) := by decide +kernel
theorem fl_12_295 : am_fl 12 295 = some (12, 140) := by decide +kernel
theorem d326_0 : decode (mC 326) 0 = .ok (.aload_n 0, 1) := by decide +kernel
theorem d326_1 : decode (mC 326) 1 = .ok (.iconst 0, 1) := by decide +kernel
theorem mO_326 : mO 326 = 12 := by decide +kernel
theorem d326_2 : decode (mC 326) 2 = .ok (.putfield 349, 3) := by decide +kernel
theorem d326_5 : decode (mC 326) 5 = .ok (.iload_n 1, 1) := by decide +kernel
theorem d326_6 : decode (mC 326) 6 = .ok (.ifCond .lt 20, 3) := by decide +kernel
theorem d326_26 : decode (mC 326) 26 = .ok (.iconst (-1), 1) := by decide +kernel
theorem mT_326 : mT 326 = (some .int) := by decide +kernel
theorem d326_27 : decode (mC 326) 27 = .ok (.ireturn, 1) := by decide +kernel
theorem d326_9 : decode (mC 326) 9 = .ok (.iload_n 1, 1) := by decide +kernel
theorem d326_10 : decode (mC 326) 10 = .ok (.aload_n 0, 1) := by decide +kernel
theorem gm_141 {σ : SS} : am_get σ 12 246 141 = some (.int (sI σ 246 141)) := gt_mint (by decide +kernel) (by decide)
theorem d326_11 : decode (mC 326) 11 = .ok (.getfield 928, 3) := by decide +kernel
theorem d326_14 : decode (mC 326) 14 = .ok (.if_icmp .ge 12, 3) := by decide +kernel
theorem d326_17 : decode (mC 326) 17 = .ok (.aload_n 0, 1) := by decide +kernel
theorem gm_140 {σ : SS} : am_get σ 12 246 140 = some (.ref 336) := gt_mref (j := 89) (by decide +kernel)
theorem d326_18 : decode (mC 326) 18 = .ok (.getfield 295, 3) := by decide +kernel
theorem d326_21 : decode (mC 326) 21 = .ok (.iload_n 1, 1) := by decide +kernel
theorem ar_336 : am_ar 336 = some (1, 70000) := by decide +kernel
theorem d326_22 : decode (mC 326) 22 = .ok (.baload, 1) := by decide +kernel
theorem d326_23 : decode (mC 326) 23 = .ok (.goto 4, 3) := by decide +kernel
set_option maxRecDepth 4000 in
theorem sp_X12_answer (σ : SS) (a1 : Int32) {d : Nat} (hb : ¬ a1 < 0 → ¬ sI σ 246 141 ≤ a1 → am_in a1 70000 = true) : Ev d 326 0 [(0, .ref 246), (1, .int a1)] [] σ (Ret (some (if a1 < 0 then -1 else if sI σ 246 141 ≤ a1 then -1 else sI σ 336 a1.toNatClampNeg)) (ip σ 246 0 0) 0 0) := by
  refine ev_aload_n d326_0 rfl m0 rfl ?_
  refine ev_iconst d326_1 ci_0 rfl ?_
  refine ev_pf mO_326 d326_2 fl_12_349 (pm_0 nf_int) rfl ?_
  refine ev_iload_n d326_5 rfl m1 rfl ?_
  refine ev_if_lt d326_6 (t := 26) (aj rfl) rfl (fun c1 => ?_) (fun c1 => ?_)
  · refine ev_iconst d326_26 ci_m1 rfl ?_
    exact ev_iret mT_326 d326_27 ⟨by first | (simp only [*, if_true, if_false]; done) | (simp only [*, if_true, if_false]; rfl), rfl, rfl, rfl⟩
  · refine ev_iload_n d326_9 rfl m1 rfl ?_
    refine ev_aload_n d326_10 rfl m0 rfl ?_
    refine ev_gf (v := .int (sI σ 246 141)) mO_326 d326_11 fl_12_928 gm_141 rfl ?_
    refine ev_ic_ge d326_14 (t := 26) (aj rfl) rfl (fun c2 => ?_) (fun c2 => ?_)
    · refine ev_iconst d326_26 ci_m1 rfl ?_
      exact ev_iret mT_326 d326_27 ⟨by first | (simp only [*, if_true, if_false]; done) | (simp only [*, if_true, if_false]; rfl), rfl, rfl, rfl⟩
    · refine ev_aload_n d326_17 rfl m0 rfl ?_
      refine ev_gf (v := .ref 336) mO_326 d326_18 fl_12_295 gm_140 rfl ?_
      refine ev_iload_n d326_21 rfl m1 rfl ?_
      refine ev_bald d326_22 ar_336 (by decide) (hb c1 c2) rfl ?_
      refine ev_goto d326_23 (t := 27) (aj rfl) ?_
      exact ev_iret mT_326 d326_27 ⟨by first | (simp only [*, if_true, if_false]; done) | (simp only [*, if_true, if_false]; rfl), rfl, rfl, rfl⟩
theorem d166_0 : decode (mC 166) 0 = .ok (.iload_n 1, 1) := by decide +kernel
theorem d166_1 : decode (mC 166) 1 = .ok (.iconst 3, 1) := by decide +kernel
theorem d166_2 : decode (mC 166) 2 = .ok (.if_icmp .lt 32, 3) := by decide +kernel
theorem d166_34 : decode (mC 166) 34 = .ok (.iload_n 1, 1) := by decide +kernel
theorem d166_35 : decode (mC 166) 35 = .ok (.tableswitch 173 0 19 #[93, 101, 109, 173, 173, 173, 173, 173, 173, 173, 173, 173, 173, 114, 119, 127, 132, 143, 154, 165], 93) := by decide +kernel
theorem d166_208 : decode (mC 166) 208 = .ok (.iconst (-1), 1) := by decide +kernel
theorem mT_166 : mT 166 = (some .int) := by decide +kernel
theorem d166_209 : decode (mC 166) 209 = .ok (.ireturn, 1) := by decide +kernel
theorem d166_5 : decode (mC 166) 5 = .ok (.iload_n 1, 1) := by decide +kernel
theorem cb_12 : (Int8.ofInt (12)).toInt32 = 12 := by decide
theorem d166_6 : decode (mC 166) 6 = .ok (.bipush 12, 2) := by decide +kernel
theorem d166_8 : decode (mC 166) 8 = .ok (.if_icmp .gt 26, 3) := by decide +kernel
set_option maxRecDepth 4000 in
theorem no_X11_count {σ : SS} {d : Nat} {a1 : Int32} (h : a1 < 0 ∨ ¬ a1 ≤ 19) (ht : a1.toInt < 0 ∨ 19 < a1.toInt) : Ev d 166 0 [(0, .ref 0), (1, .int a1)] [] σ (Ret (some (-1)) σ 0 0) := by
  refine ev_iload_n d166_0 rfl m1 rfl ?_
  refine ev_iconst d166_1 ci_3 rfl ?_
  refine ev_ic_lt d166_2 (t := 34) (aj rfl) rfl (fun c1 => ?_) (fun c1 => ?_)
  · refine ev_iload_n d166_34 rfl m1 rfl ?_
    refine ev_tout d166_35 (t := 208) ht (aj rfl) ?_
    refine ev_iconst d166_208 ci_m1 rfl ?_
    exact ev_iret mT_166 d166_209 ⟨rfl, rfl, rfl, rfl⟩
  · refine ev_iload_n d166_5 rfl m1 rfl ?_
    refine ev_bipush d166_6 cb_12 rfl ?_
    refine ev_ic_gt d166_8 (t := 34) (aj rfl) rfl (fun c2 => ?_) (fun z => absurd ht (no_cnt c1 z))
    refine ev_iload_n d166_34 rfl m1 rfl ?_
    refine ev_tout d166_35 (t := 208) ht (aj rfl) ?_
    refine ev_iconst d166_208 ci_m1 rfl ?_
    exact ev_iret mT_166 d166_209 ⟨rfl, rfl, rfl, rfl⟩
theorem d333_0 : decode (mC 333) 0 = .ok (.aload_n 0, 1) := by decide +kernel
theorem d333_1 : decode (mC 333) 1 = .ok (.iconst 0, 1) := by decide +kernel
theorem mO_333 : mO 333 = 12 := by decide +kernel
theorem d333_2 : decode (mC 333) 2 = .ok (.putfield 349, 3) := by decide +kernel
theorem d333_5 : decode (mC 333) 5 = .ok (.iconst 0, 1) := by decide +kernel
theorem mL_333 : mL 333 = 4 := by decide +kernel
theorem d333_6 : decode (mC 333) 6 = .ok (.istore_n 2, 1) := by decide +kernel
theorem d333_7 : decode (mC 333) 7 = .ok (.iload_n 1, 1) := by decide +kernel
theorem d333_8 : decode (mC 333) 8 = .ok (.tableswitch 146 0 19 #[96, 101, 106, 146, 146, 146, 146, 146, 146, 146, 146, 146, 146, 111, 116, 121, 126, 131, 136, 141], 96) := by decide +kernel
theorem d333_154 : decode (mC 333) 154 = .ok (.iload_n 1, 1) := by decide +kernel
theorem d333_155 : decode (mC 333) 155 = .ok (.ifCond .lt 9, 3) := by decide +kernel
theorem d333_164 : decode (mC 333) 164 = .ok (.iconst (-1), 1) := by decide +kernel
theorem mT_333 : mT 333 = (some .int) := by decide +kernel
theorem d333_165 : decode (mC 333) 165 = .ok (.ireturn, 1) := by decide +kernel
theorem d333_158 : decode (mC 333) 158 = .ok (.iload_n 1, 1) := by decide +kernel
theorem cb_19 : (Int8.ofInt (19)).toInt32 = 19 := by decide
theorem d333_159 : decode (mC 333) 159 = .ok (.bipush 19, 2) := by decide +kernel
theorem d333_161 : decode (mC 333) 161 = .ok (.if_icmp .le 5, 3) := by decide +kernel
set_option maxRecDepth 4000 in
theorem no_X12_count {σ : SS} {d : Nat} {a1 : Int32} (h : a1 < 0 ∨ ¬ a1 ≤ 19) (ht : a1.toInt < 0 ∨ 19 < a1.toInt) : Ev d 333 0 [(0, .ref 246), (1, .int a1)] [] σ (Ret (some (-1)) (ip σ 246 0 0) 0 0) := by
  refine ev_aload_n d333_0 rfl m0 rfl ?_
  refine ev_iconst d333_1 ci_0 rfl ?_
  refine ev_pf mO_333 d333_2 fl_12_349 (pm_0 nf_int) rfl ?_
  refine ev_iconst d333_5 ci_0 rfl ?_
  refine ev_istore_n mL_333 d333_6 rfl (by decide) (lo2 := [(2, .int 0), (0, .ref 246), (1, .int a1)]) rfl rfl ?_
  refine ev_iload_n d333_7 rfl m2 rfl ?_
  refine ev_tout d333_8 (t := 154) ht (aj rfl) ?_
  refine ev_iload_n d333_154 rfl m2 rfl ?_
  refine ev_if_lt d333_155 (t := 164) (aj rfl) rfl (fun c1 => ?_) (fun c1 => ?_)
  · refine ev_iconst d333_164 ci_m1 rfl ?_
    exact ev_iret mT_333 d333_165 ⟨rfl, rfl, rfl, rfl⟩
  · refine ev_iload_n d333_158 rfl m2 rfl ?_
    refine ev_bipush d333_159 cb_19 rfl ?_
    refine ev_ic_le d333_161 (t := 166) (aj rfl) rfl (fun z => absurd (h.resolve_left c1) (fun q => q z)) (fun c2 => ?_)
    refine ev_iconst d333_164 ci_m1 rfl ?_
    exact ev_iret mT_333 d333_165 ⟨rfl, rfl, rfl, rfl⟩
