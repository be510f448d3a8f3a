theorem d152_0 : decode (mC 152) 0 = .ok (.aload_n 0, 1) := by decide +kernel
theorem fl_11_16 : am_fl 11 16 = some (11, 1) := by decide +kernel
theorem ob_0 : am_ob 0 = some (11, [.inl 1, .inl 3, .inl 5, .inl 7, .inl 9, .inr (.inl ()), .inr (.inl ()), .inl 22, .inl 23, .inl 86, .inl 111, .inl 127, .inl 212, .inl 229, .inr (.inl ())]) := by decide +kernel
theorem g_0_1 {σ : SS} : am_get σ 11 0 1 = some (.ref 3) := gt_ob (f := .inl 3) (by decide) (by decide) ob_0 rfl
theorem mO_152 : mO 152 = 11 := by decide +kernel
theorem d152_1 : decode (mC 152) 1 = .ok (.getfield 16, 3) := by decide +kernel
theorem d152_4 : decode (mC 152) 4 = .ok (.iload_n 1, 1) := by decide +kernel
theorem d152_5 : decode (mC 152) 5 = .ok (.invokevirtual 132, 3) := by decide +kernel
theorem ml_11_132 : am_ml 11 132 = some 1 := by decide +kernel
theorem mK_1 : mK 1 = 0 := by decide +kernel
theorem cz_3_1 : am_cls 3 = some (mO 1) := by decide +kernel
theorem mA_1 : 1 = mA 1 := by decide +kernel
theorem rw_3 : 3 ∈ xRows := by decide +kernel
theorem mT_152 : mT 152 = (some .int) := by decide +kernel
theorem d152_8 : decode (mC 152) 8 = .ok (.ireturn, 1) := by decide +kernel
theorem d163_0 : decode (mC 163) 0 = .ok (.aload_n 0, 1) := by decide +kernel
theorem fl_11_19 : am_fl 11 19 = some (11, 2) := by decide +kernel
theorem g_0_2 {σ : SS} : am_get σ 11 0 2 = some (.ref 5) := gt_ob (f := .inl 5) (by decide) (by decide) ob_0 rfl
theorem mO_163 : mO 163 = 11 := by decide +kernel
theorem d163_1 : decode (mC 163) 1 = .ok (.getfield 19, 3) := by decide +kernel
theorem d163_4 : decode (mC 163) 4 = .ok (.iload_n 1, 1) := by decide +kernel
theorem d163_5 : decode (mC 163) 5 = .ok (.invokevirtual 132, 3) := by decide +kernel
theorem cz_5_1 : am_cls 5 = some (mO 1) := by decide +kernel
theorem rw_5 : 5 ∈ xRows := by decide +kernel
theorem mT_163 : mT 163 = (some .int) := by decide +kernel
theorem d163_8 : decode (mC 163) 8 = .ok (.ireturn, 1) := by decide +kernel
theorem d185_0 : decode (mC 185) 0 = .ok (.aload_n 0, 1) := by decide +kernel
theorem fl_12_349 : am_fl 12 349 = some (12, 0) := by decide +kernel
theorem gm_0 {σ : SS} : am_get σ 12 246 0 = some (.int (sI σ 246 0)) := gt_mint (by decide +kernel) (by decide)
theorem mO_185 : mO 185 = 12 := by decide +kernel
theorem d185_1 : decode (mC 185) 1 = .ok (.getfield 349, 3) := by decide +kernel
theorem mT_185 : mT 185 = (some .int) := by decide +kernel
theorem d185_4 : decode (mC 185) 4 = .ok (.ireturn, 1) := by decide +kernel
set_option maxRecDepth 4000 in
theorem sp_X11_letter (σ : SS) (x : Int32) {d : Nat} (hd : 2 ≤ d) : Ev d 152 0 [(0, .ref 0), (1, .int x)] [] σ (Ret (some (rget (sX σ 3) x)) σ 0 0) := by
  refine ev_aload_n d152_0 rfl m0 rfl ?_
  refine ev_gf (v := .ref 3) mO_152 d152_1 fl_11_16 g_0_1 rfl ?_
  refine ev_iload_n d152_4 rfl m1 rfl ?_
  refine ev_rget mO_152 d152_5 rw_3 (cm_v1 ml_11_132 (Or.inl mK_1) mA_1 cz_3_1 (Nat.le_of_ble_eq_true rfl)) (by omega) rfl ?_
  exact ev_iret mT_152 d152_8 ⟨rfl, rfl, rfl, rfl⟩
set_option maxRecDepth 4000 in
theorem sp_X11_answer (σ : SS) (x : Int32) {d : Nat} (hd : 2 ≤ d) : Ev d 163 0 [(0, .ref 0), (1, .int x)] [] σ (Ret (some (rget (sX σ 5) x)) σ 0 0) := by
  refine ev_aload_n d163_0 rfl m0 rfl ?_
  refine ev_gf (v := .ref 5) mO_163 d163_1 fl_11_19 g_0_2 rfl ?_
  refine ev_iload_n d163_4 rfl m1 rfl ?_
  refine ev_rget mO_163 d163_5 rw_5 (cm_v1 ml_11_132 (Or.inl mK_1) mA_1 cz_5_1 (Nat.le_of_ble_eq_true rfl)) (by omega) rfl ?_
  exact ev_iret mT_163 d163_8 ⟨rfl, rfl, rfl, rfl⟩
set_option maxRecDepth 4000 in
theorem sp_X12_thrown (σ : SS) {d : Nat} : Ev d 185 0 [(0, .ref 246)] [] σ (Ret (some (sI σ 246 0)) σ 0 0) := by
  refine ev_aload_n d185_0 rfl m0 rfl ?_
  refine ev_gf (v := .int (sI σ 246 0)) mO_185 d185_1 fl_12_349 gm_0 rfl ?_
  exact ev_iret mT_185 d185_4 ⟨rfl, rfl, rfl, rfl⟩
