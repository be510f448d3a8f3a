/-! BLOCKS -/
def mt_196 : MT := (0, .aload_n 0, 1, []) :: (1, .getfield 33, 3, [12, 13, 1, 254, 246]) :: (4, .iload_n 1, 1, []) :: (5, .baload, 1, [140000]) :: (6, .sipush 255, 3, []) :: (9, .iand, 1, []) :: (10, .ireturn, 1, []) :: []
def mu_196 : MC := []
theorem mb_196 : tabB 196 2 12 mt_196 mu_196 = true := by decide +kernel
set_option maxRecDepth 20000 in
theorem R_at.i {l1 : Int} {σ : MS} {Q : MQ9} (h : 0 ≤ l1 ∧ l1 < 140000 ∧ Q (.inl (some ((mV σ 254 l1.toNat) % 256))) σ) : R_at l1 σ Q := wp_run 9 mt_196 mu_196 mf_196 mh_196 mb_196 h
def mt_231 : MT := (0, .aload_n 0, 1, []) :: (1, .getfield 380, 3, [12, 16, 0, 0, 246]) :: (4, .iconst 1, 1, []) :: (5, .isub, 1, []) :: (6, .istore_n 1, 1, []) :: (7, .iload_n 1, 1, []) :: (8, .ifCond .lt 22, 3, [30]) :: (11, .aload_n 0, 1, []) :: (12, .iload_n 1, 1, []) :: (13, .invokevirtual 558, 3, [196, 1, 2, 6, 1, 12, 246]) :: (16, .invokestatic 533, 3, [195, 1, 1, 6, 1]) :: (19, .bipush 32, 2, []) :: (21, .if_icmp .ne 9, 3, [30]) :: (24, .iinc 1 (-1), 3, []) :: (27, .goto (-20), 3, [7]) :: (30, .iload_n 1, 1, []) :: (31, .ireturn, 1, []) :: []
def mu_231 : MC := [(7, [(0, false), (1, false)], [])]
theorem mb_231 : tabB 231 2 12 mt_231 mu_231 = true := by decide +kernel
set_option maxRecDepth 20000 in
theorem R_latest.i {σ : MS} {Q : MQ9} (h : R_latest_7 ((mV σ 246 16) - 1) σ Q) : R_latest σ Q := wp_run 7 mt_231 mu_231 mf_231 mh_231 mb_231 h
set_option maxRecDepth 20000 in
theorem R_latest_7.i {l1 : Int} {σ : MS} {Q : MQ9} (h : (Rg l1 ∧ (l1 < (0 : Int) → Rg l1 ∧ Q (.inl (some l1)) σ) ∧ ((0 : Int) ≤ l1 → R_at l1 σ (kI (thQ Q) fun r1 σ1 => R_shown r1 σ1 (kI (thQ Q) fun r2 σ2 => ((¬ r2 = (32 : Int) → Rg l1 ∧ Q (.inl (some l1)) σ2) ∧ (r2 = (32 : Int) → R_latest_7 (l1 + (-1)) σ2 Q))))))) : R_latest_7 l1 σ Q := wp_run 12 mt_231 mu_231 mf_231 mh_231 mb_231 h
