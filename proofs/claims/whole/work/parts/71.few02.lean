/-! BLOCKS -/
def mt_48 : MT := (0, .iload_n 1, 1, []) :: (1, .iconst 1, 1, []) :: (2, .iadd, 1, []) :: (3, .aload_n 0, 1, []) :: (4, .getfield 25, 3, [3, 3]) :: (7, .getfield 60, 3, [5, 1]) :: (10, .if_icmp .ge 16, 3, [26]) :: (13, .aload_n 0, 1, []) :: (14, .getfield 25, 3, [3, 3]) :: (17, .iload_n 1, 1, []) :: (18, .iconst 1, 1, []) :: (19, .iadd, 1, []) :: (20, .invokevirtual 64, 3, [1, 1, 2, 0, 1, 5, 0]) :: (23, .goto 10, 3, [33]) :: (26, .aload_n 0, 1, []) :: (27, .getfield 12, 3, [3, 1]) :: (30, .invokevirtual 56, 3, [101, 0, 1, 6, 1, 8, 0]) :: (33, .istore_n 2, 1, []) :: (34, .iload_n 2, 1, []) :: (35, .aload_n 0, 1, []) :: (36, .getfield 25, 3, [3, 3]) :: (39, .iload_n 1, 1, []) :: (40, .invokevirtual 64, 3, [1, 1, 2, 0, 1, 5, 0]) :: (43, .isub, 1, []) :: (44, .ireturn, 1, []) :: []
def mu_48 : MC := [(33, [(0, false), (1, false)], [true])]
theorem mb_48 : tabB 48 3 3 mt_48 mu_48 = true := by decide +kernel
set_option maxRecDepth 20000 in
theorem Proof_linesOf.i {l0 : Nat} {l1 : Int} {σ : MS} {Q : MQ9} (h : tB (isProof l0) (tB (isRow (l0 + 8)) ((Rg (l1 + 1) ∧ (((mX σ (l0 + 8)).length : Int) ≤ (l1 + 1) → tB (isProof l0) (tB (isShelf (l0 + 1)) (Shelf_rows (l0 + 1) σ (kI (thQ Q) fun r1 σ1 => Proof_linesOf_33 l0 l1 r1 σ1 Q)))) ∧ ((l1 + 1) < ((mX σ (l0 + 8)).length : Int) → tB (isProof l0) (tB (isRow (l0 + 8)) (tB (isRow (l0 + 8)) (Rg (l1 + 1) ∧ Proof_linesOf_33 l0 l1 (rgt (mX σ (l0 + 8)) (l1 + 1)) σ Q)))))))) : Proof_linesOf l0 l1 σ Q := wp_run 16 mt_48 mu_48 mf_48 mh_48 mb_48 h
set_option maxRecDepth 20000 in
theorem Proof_linesOf_33.i {l0 : Nat} {l1 : Int} {s0 : Int} {σ : MS} {Q : MQ9} (h : tB (isProof l0) (tB (isRow (l0 + 8)) (tB (isRow (l0 + 8)) (Rg l1 ∧ Rg (s0 - (rgt (mX σ (l0 + 8)) l1)) ∧ Q (.inl (some (s0 - (rgt (mX σ (l0 + 8)) l1)))) σ)))) : Proof_linesOf_33 l0 l1 s0 σ Q := wp_run 10 mt_48 mu_48 mf_48 mh_48 mb_48 h
def mt_49 : MT := (0, .aload_n 0, 1, []) :: (1, .getfield 12, 3, [3, 1]) :: (4, .iload_n 1, 1, []) :: (5, .invokevirtual 68, 3, [14, 1, 2, 0, 1, 8, 0]) :: (8, .aload_n 0, 1, []) :: (9, .getfield 12, 3, [3, 1]) :: (12, .iload_n 1, 1, []) :: (13, .invokevirtual 71, 3, [13, 1, 2, 0, 1, 8, 0]) :: (16, .isub, 1, []) :: (17, .ireturn, 1, []) :: []
def mu_49 : MC := []
theorem mb_49 : tabB 49 2 3 mt_49 mu_49 = true := by decide +kernel
set_option maxRecDepth 20000 in
theorem Proof_lengthOf.i {l0 : Nat} {l1 : Int} {σ : MS} {Q : MQ9} (h : tB (isProof l0) (tB (isShelf (l0 + 1)) (tB (isShelf (l0 + 1)) (Rg l1 ∧ tB (isProof l0) (tB (isShelf (l0 + 1)) (tB (isShelf (l0 + 1)) (Rg l1 ∧ Rg ((stoM (mX σ ((l0 + 1) + 3)) l1) - (sfrM (mX σ ((l0 + 1) + 3)) l1)) ∧ Q (.inl (some ((stoM (mX σ ((l0 + 1) + 3)) l1) - (sfrM (mX σ ((l0 + 1) + 3)) l1)))) σ))))))) : Proof_lengthOf l0 l1 σ Q := wp_run 12 mt_49 mu_49 mf_49 mh_49 mb_49 h
def mt_101 : MT := (0, .aload_n 0, 1, []) :: (1, .getfield 18, 3, [8, 1]) :: (4, .getfield 24, 3, [5, 1]) :: (7, .ireturn, 1, []) :: []
def mu_101 : MC := []
theorem mb_101 : tabB 101 1 8 mt_101 mu_101 = true := by decide +kernel
set_option maxRecDepth 20000 in
theorem Shelf_rows.i {l0 : Nat} {σ : MS} {Q : MQ9} (h : tB (isShelf l0) (tB (isRow (l0 + 3)) (Q (.inl (some ((mX σ (l0 + 3)).length : Int))) σ))) : Shelf_rows l0 σ Q := wp_run 6 mt_101 mu_101 mf_101 mh_101 mb_101 h
def mt_154 : MT := (0, .aload_n 0, 1, []) :: (1, .invokevirtual 169, 3, [173, 0, 1, 6, 0, 11, 0]) :: (4, .aload_n 0, 1, []) :: (5, .getfield 78, 3, [11, 12, 1, 212, 0]) :: (8, .getfield 172, 3, [3, 3]) :: (11, .getfield 89, 3, [5, 1]) :: (14, .ireturn, 1, []) :: []
def mu_154 : MC := []
theorem mb_154 : tabB 154 1 11 mt_154 mu_154 = true := by decide +kernel
set_option maxRecDepth 20000 in
theorem T_pages.i {σ : MS} {Q : MQ9} (h : T_needProof  σ (kV (thQ Q) fun σ1 => Q (.inl (some ((mX σ1 220).length : Int))) σ1)) : T_pages σ Q := wp_run 9 mt_154 mu_154 mf_154 mh_154 mb_154 h
def mt_155 : MT := (0, .aload_n 0, 1, []) :: (1, .iload_n 1, 1, []) :: (2, .invokevirtual 175, 3, [175, 1, 2, 7, 0, 11, 0]) :: (5, .aload_n 0, 1, []) :: (6, .getfield 78, 3, [11, 12, 1, 212, 0]) :: (9, .iload_n 1, 1, []) :: (10, .invokevirtual 178, 3, [48, 1, 3, 7, 1, 3, 0]) :: (13, .ireturn, 1, []) :: []
def mu_155 : MC := []
theorem mb_155 : tabB 155 2 11 mt_155 mu_155 = true := by decide +kernel
set_option maxRecDepth 20000 in
theorem T_lines.i {l1 : Int} {σ : MS} {Q : MQ9} (h : T_needPage l1 σ (kV (thQ Q) fun σ1 => Proof_linesOf 212 l1 σ1 (kI (thQ Q) fun r2 σ2 => Q (.inl (some r2)) σ2))) : T_lines l1 σ Q := wp_run 10 mt_155 mu_155 mf_155 mh_155 mb_155 h
def mt_156 : MT := (0, .aload_n 0, 1, []) :: (1, .getfield 78, 3, [11, 12, 1, 212, 0]) :: (4, .aload_n 0, 1, []) :: (5, .iload_n 1, 1, []) :: (6, .iload_n 2, 1, []) :: (7, .invokevirtual 181, 3, [176, 2, 3, 8, 1, 11, 0]) :: (10, .invokevirtual 185, 3, [49, 1, 2, 6, 1, 3, 0]) :: (13, .ireturn, 1, []) :: []
def mu_156 : MC := []
theorem mb_156 : tabB 156 3 11 mt_156 mu_156 = true := by decide +kernel
set_option maxRecDepth 20000 in
theorem T_length.i {l1 : Int} {l2 : Int} {σ : MS} {Q : MQ9} (h : T_needLine l1 l2 σ (kI (thQ Q) fun r1 σ1 => Proof_lengthOf 212 r1 σ1 (kI (thQ Q) fun r2 σ2 => Q (.inl (some r2)) σ2))) : T_length l1 l2 σ Q := wp_run 10 mt_156 mu_156 mf_156 mh_156 mb_156 h
def mt_157 : MT := (0, .aload_n 0, 1, []) :: (1, .iload_n 1, 1, []) :: (2, .iload_n 2, 1, []) :: (3, .iload_n 3, 1, []) :: (4, .invokevirtual 188, 3, [177, 3, 5, 9, 1, 11, 0]) :: (7, .bipush 127, 2, []) :: (9, .iand, 1, []) :: (10, .ireturn, 1, []) :: []
def mu_157 : MC := []
theorem mb_157 : tabB 157 4 11 mt_157 mu_157 = true := by decide +kernel
set_option maxRecDepth 20000 in
theorem T_sign.i {l1 : Int} {l2 : Int} {l3 : Int} {σ : MS} {Q : MQ9} (h : T_needSign l1 l2 l3 σ (kI (thQ Q) fun r1 σ1 => Q (.inl (some (r1 % 128))) σ1)) : T_sign l1 l2 l3 σ Q := wp_run 10 mt_157 mu_157 mf_157 mh_157 mb_157 h
def mt_158 : MT := (0, .aload_n 0, 1, []) :: (1, .iload_n 1, 1, []) :: (2, .iload_n 2, 1, []) :: (3, .iload_n 3, 1, []) :: (4, .invokevirtual 188, 3, [177, 3, 5, 9, 1, 11, 0]) :: (7, .sipush 384, 3, []) :: (10, .iand, 1, []) :: (11, .bipush 7, 2, []) :: (13, .ishr, 1, []) :: (14, .ireturn, 1, []) :: []
def mu_158 : MC := []
theorem mb_158 : tabB 158 4 11 mt_158 mu_158 = true := by decide +kernel
set_option maxRecDepth 20000 in
theorem T_style.i {l1 : Int} {l2 : Int} {l3 : Int} {σ : MS} {Q : MQ9} (h : T_needSign l1 l2 l3 σ (kI (thQ Q) fun r1 σ1 => Q (.inl (some ((r1 % 512 - r1 % 128) / 128))) σ1)) : T_style l1 l2 l3 σ Q := wp_run 12 mt_158 mu_158 mf_158 mh_158 mb_158 h
def mt_159 : MT := (0, .aload_n 0, 1, []) :: (1, .getfield 78, 3, [11, 12, 1, 212, 0]) :: (4, .getfield 192, 3, [3, 2]) :: (7, .aload_n 0, 1, []) :: (8, .iload_n 1, 1, []) :: (9, .iload_n 2, 1, []) :: (10, .invokevirtual 181, 3, [176, 2, 3, 8, 1, 11, 0]) :: (13, .invokevirtual 132, 3, [1, 1, 2, 0, 1, 5, 0]) :: (16, .ireturn, 1, []) :: []
def mu_159 : MC := []
theorem mb_159 : tabB 159 3 11 mt_159 mu_159 = true := by decide +kernel
set_option maxRecDepth 20000 in
theorem T_origin.i {l1 : Int} {l2 : Int} {σ : MS} {Q : MQ9} (h : T_needLine l1 l2 σ (kI (thQ Q) fun r1 σ1 => Q (.inl (some (rgt (mX σ1 218) r1))) σ1)) : T_origin l1 l2 σ Q := wp_run 11 mt_159 mu_159 mf_159 mh_159 mb_159 h
def mt_163 : MT := (0, .aload_n 0, 1, []) :: (1, .getfield 19, 3, [11, 2, 1, 5, 0]) :: (4, .iload_n 1, 1, []) :: (5, .invokevirtual 132, 3, [1, 1, 2, 0, 1, 5, 0]) :: (8, .ireturn, 1, []) :: []
def mu_163 : MC := []
theorem mb_163 : tabB 163 2 11 mt_163 mu_163 = true := by decide +kernel
set_option maxRecDepth 20000 in
theorem T_answer.i {l1 : Int} {σ : MS} {Q : MQ9} (h : Rg l1 ∧ Q (.inl (some (rgt (mX σ 5) l1))) σ) : T_answer l1 σ Q := wp_run 7 mt_163 mu_163 mf_163 mh_163 mb_163 h
def mt_173 : MT := (0, .aload_n 0, 1, []) :: (1, .getfield 78, 3, [11, 12, 1, 212, 0]) :: (4, .getfield 199, 3, [3, 0]) :: (7, .ifCond .ne 11, 3, [18]) :: (10, .new 150, 3, [0]) :: (18, .return_, 1, []) :: []
def mu_173 : MC := []
theorem mb_173 : tabB 173 1 11 mt_173 mu_173 = true := by decide +kernel
set_option maxRecDepth 20000 in
theorem T_needProof.i {σ : MS} {Q : MQ9} (h : ((¬ (mV σ 212 0) = (0 : Int) → Q (.inl none) σ) ∧ ((mV σ 212 0) = (0 : Int) → Q (.inr (exN 0)) σ))) : T_needProof σ Q := wp_run 7 mt_173 mu_173 mf_173 mh_173 mb_173 h
def mt_175 : MT := (0, .aload_n 0, 1, []) :: (1, .invokevirtual 169, 3, [173, 0, 1, 6, 0, 11, 0]) :: (4, .iload_n 1, 1, []) :: (5, .ifCond .lt 17, 3, [22]) :: (8, .iload_n 1, 1, []) :: (9, .aload_n 0, 1, []) :: (10, .getfield 78, 3, [11, 12, 1, 212, 0]) :: (13, .getfield 172, 3, [3, 3]) :: (16, .getfield 89, 3, [5, 1]) :: (19, .if_icmp .lt 11, 3, [30]) :: (22, .new 307, 3, [1]) :: (30, .return_, 1, []) :: []
def mu_175 : MC := [(22, [], [])]
theorem mb_175 : tabB 175 2 11 mt_175 mu_175 = true := by decide +kernel
set_option maxRecDepth 20000 in
theorem T_needPage.i {l1 : Int} {σ : MS} {Q : MQ9} (h : T_needProof  σ (kV (thQ Q) fun σ1 => (Rg l1 ∧ (l1 < (0 : Int) → T_needPage_22 σ1 Q) ∧ ((0 : Int) ≤ l1 → (Rg l1 ∧ (l1 < ((mX σ1 220).length : Int) → Q (.inl none) σ1) ∧ (((mX σ1 220).length : Int) ≤ l1 → T_needPage_22 σ1 Q)))))) : T_needPage l1 σ Q := wp_run 13 mt_175 mu_175 mf_175 mh_175 mb_175 h
set_option maxRecDepth 20000 in
theorem T_needPage_22.i {σ : MS} {Q : MQ9} (h : Q (.inr (exN 1)) σ) : T_needPage_22 σ Q := wp_run 3 mt_175 mu_175 mf_175 mh_175 mb_175 h
def mt_176 : MT := (0, .aload_n 0, 1, []) :: (1, .iload_n 1, 1, []) :: (2, .invokevirtual 175, 3, [175, 1, 2, 7, 0, 11, 0]) :: (5, .iload_n 2, 1, []) :: (6, .ifCond .lt 15, 3, [21]) :: (9, .iload_n 2, 1, []) :: (10, .aload_n 0, 1, []) :: (11, .getfield 78, 3, [11, 12, 1, 212, 0]) :: (14, .iload_n 1, 1, []) :: (15, .invokevirtual 178, 3, [48, 1, 3, 7, 1, 3, 0]) :: (18, .if_icmp .lt 11, 3, [29]) :: (21, .new 307, 3, [1]) :: (29, .aload_n 0, 1, []) :: (30, .getfield 78, 3, [11, 12, 1, 212, 0]) :: (33, .getfield 172, 3, [3, 3]) :: (36, .iload_n 1, 1, []) :: (37, .invokevirtual 132, 3, [1, 1, 2, 0, 1, 5, 0]) :: (40, .iload_n 2, 1, []) :: (41, .iadd, 1, []) :: (42, .ireturn, 1, []) :: []
def mu_176 : MC := [(21, [], [])]
theorem mb_176 : tabB 176 3 11 mt_176 mu_176 = true := by decide +kernel
set_option maxRecDepth 20000 in
theorem T_needLine.i {l1 : Int} {l2 : Int} {σ : MS} {Q : MQ9} (h : T_needPage l1 σ (kV (thQ Q) fun σ1 => (Rg l2 ∧ (l2 < (0 : Int) → T_needLine_21 σ1 Q) ∧ ((0 : Int) ≤ l2 → Proof_linesOf 212 l1 σ1 (kI (thQ Q) fun r2 σ2 => (Rg l2 ∧ (l2 < r2 → Rg l1 ∧ Rg ((rgt (mX σ2 220) l1) + l2) ∧ Q (.inl (some ((rgt (mX σ2 220) l1) + l2))) σ2) ∧ (r2 ≤ l2 → T_needLine_21 σ2 Q))))))) : T_needLine l1 l2 σ Q := wp_run 21 mt_176 mu_176 mf_176 mh_176 mb_176 h
set_option maxRecDepth 20000 in
theorem T_needLine_21.i {σ : MS} {Q : MQ9} (h : Q (.inr (exN 1)) σ) : T_needLine_21 σ Q := wp_run 3 mt_176 mu_176 mf_176 mh_176 mb_176 h
def mt_177 : MT := (0, .aload_n 0, 1, []) :: (1, .iload_n 1, 1, []) :: (2, .iload_n 2, 1, []) :: (3, .invokevirtual 181, 3, [176, 2, 3, 8, 1, 11, 0]) :: (6, .istore 4, 2, []) :: (8, .iload_n 3, 1, []) :: (9, .ifCond .lt 16, 3, [25]) :: (12, .iload_n 3, 1, []) :: (13, .aload_n 0, 1, []) :: (14, .getfield 78, 3, [11, 12, 1, 212, 0]) :: (17, .iload 4, 2, []) :: (19, .invokevirtual 185, 3, [49, 1, 2, 6, 1, 3, 0]) :: (22, .if_icmp .lt 11, 3, [33]) :: (25, .new 307, 3, [1]) :: (33, .aload_n 0, 1, []) :: (34, .getfield 78, 3, [11, 12, 1, 212, 0]) :: (37, .getfield 310, 3, [3, 1]) :: (40, .getfield 215, 3, [8, 0]) :: (43, .aload_n 0, 1, []) :: (44, .getfield 78, 3, [11, 12, 1, 212, 0]) :: (47, .getfield 310, 3, [3, 1]) :: (50, .iload 4, 2, []) :: (52, .invokevirtual 218, 3, [13, 1, 2, 0, 1, 8, 0]) :: (55, .iload_n 3, 1, []) :: (56, .iadd, 1, []) :: (57, .invokevirtual 132, 3, [1, 1, 2, 0, 1, 5, 0]) :: (60, .ireturn, 1, []) :: []
def mu_177 : MC := [(25, [], [])]
theorem mb_177 : tabB 177 5 11 mt_177 mu_177 = true := by decide +kernel
set_option maxRecDepth 20000 in
theorem T_needSign.i {l1 : Int} {l2 : Int} {l3 : Int} {σ : MS} {Q : MQ9} (h : T_needLine l1 l2 σ (kI (thQ Q) fun r1 σ1 => (Rg l3 ∧ (l3 < (0 : Int) → T_needSign_25 σ1 Q) ∧ ((0 : Int) ≤ l3 → Proof_lengthOf 212 r1 σ1 (kI (thQ Q) fun r2 σ2 => (Rg l3 ∧ (l3 < r2 → Rg ((sfrM (mX σ2 216) r1) + l3) ∧ Q (.inl (some (rgt (mX σ2 214) ((sfrM (mX σ2 216) r1) + l3)))) σ2) ∧ (r2 ≤ l3 → T_needSign_25 σ2 Q))))))) : T_needSign l1 l2 l3 σ Q := wp_run 28 mt_177 mu_177 mf_177 mh_177 mb_177 h
set_option maxRecDepth 20000 in
theorem T_needSign_25.i {σ : MS} {Q : MQ9} (h : Q (.inr (exN 1)) σ) : T_needSign_25 σ Q := wp_run 3 mt_177 mu_177 mf_177 mh_177 mb_177 h
def mt_315 : MT := (0, .aload_n 0, 1, []) :: (1, .aload_n 0, 1, []) :: (2, .getfield 874, 3, [12, 114, 0, 0, 246]) :: (5, .ifCond .ne 7, 3, [12]) :: (8, .iconst 1, 1, []) :: (9, .goto 47, 3, [56]) :: (12, .iload_n 1, 1, []) :: (13, .ifCond .lt 38, 3, [51]) :: (16, .iload_n 1, 1, []) :: (17, .aload_n 0, 1, []) :: (18, .getfield 835, 3, [12, 123, 0, 0, 246]) :: (21, .if_icmp .ge 30, 3, [51]) :: (24, .iload_n 3, 1, []) :: (25, .ifCond .eq 30, 3, [55]) :: (28, .iload_n 2, 1, []) :: (29, .ifCond .lt 22, 3, [51]) :: (32, .iload_n 2, 1, []) :: (33, .aload_n 0, 1, []) :: (34, .getfield 265, 3, [12, 122, 1, 328, 246]) :: (37, .iload_n 1, 1, []) :: (38, .iconst 1, 1, []) :: (39, .iadd, 1, []) :: (40, .iaload, 1, [101]) :: (41, .aload_n 0, 1, []) :: (42, .getfield 265, 3, [12, 122, 1, 328, 246]) :: (45, .iload_n 1, 1, []) :: (46, .iaload, 1, [101]) :: (47, .isub, 1, []) :: (48, .if_icmp .lt 7, 3, [55]) :: (51, .iconst 2, 1, []) :: (52, .goto 4, 3, [56]) :: (55, .iconst 0, 1, []) :: (56, .putfield 349, 3, [12, 0, 0, 0, 246]) :: (59, .aload_n 0, 1, []) :: (60, .getfield 349, 3, [12, 0, 0, 0, 246]) :: (63, .ifCond .ne 7, 3, [70]) :: (66, .iconst 1, 1, []) :: (67, .goto 4, 3, [71]) :: (70, .iconst 0, 1, []) :: (71, .ireturn, 1, []) :: []
def mu_315 : MC := [(51, [(0, false)], [false]), (55, [(0, false)], [false]), (56, [(0, false)], [true, false])]
theorem mb_315 : tabB 315 4 12 mt_315 mu_315 = true := by decide +kernel
set_option maxRecDepth 20000 in
theorem R_isThere.i {l1 : Int} {l2 : Int} {l3 : Int} {σ : MS} {Q : MQ9} (h : ((¬ (mV σ 246 114) = (0 : Int) → (Rg l1 ∧ (l1 < (0 : Int) → R_isThere_51 σ Q) ∧ ((0 : Int) ≤ l1 → (Rg l1 ∧ ((mV σ 246 123) ≤ l1 → R_isThere_51 σ Q) ∧ (l1 < (mV σ 246 123) → (Rg l3 ∧ (l3 = (0 : Int) → R_isThere_55 σ Q) ∧ (¬ l3 = (0 : Int) → (Rg l2 ∧ (l2 < (0 : Int) → R_isThere_51 σ Q) ∧ ((0 : Int) ≤ l2 → 0 ≤ (l1 + 1) ∧ (l1 + 1) < 101 ∧ 0 ≤ l1 ∧ l1 < 101 ∧ (Rg l2 ∧ Rg ((mV σ 328 ((l1 + 1).toNat)) - (mV σ 328 l1.toNat)) ∧ (l2 < ((mV σ 328 ((l1 + 1).toNat)) - (mV σ 328 l1.toNat)) → R_isThere_55 σ Q) ∧ (((mV σ 328 ((l1 + 1).toNat)) - (mV σ 328 l1.toNat)) ≤ l2 → R_isThere_51 σ Q))))))))))) ∧ ((mV σ 246 114) = (0 : Int) → R_isThere_56 1 σ Q))) : R_isThere l1 l2 l3 σ Q := wp_run 29 mt_315 mu_315 mf_315 mh_315 mb_315 h
set_option maxRecDepth 20000 in
theorem R_isThere_51.i {σ : MS} {Q : MQ9} (h : R_isThere_56 2 σ Q) : R_isThere_51 σ Q := wp_run 4 mt_315 mu_315 mf_315 mh_315 mb_315 h
set_option maxRecDepth 20000 in
theorem R_isThere_55.i {σ : MS} {Q : MQ9} (h : R_isThere_56 0 σ Q) : R_isThere_55 σ Q := wp_run 3 mt_315 mu_315 mf_315 mh_315 mb_315 h
set_option maxRecDepth 20000 in
theorem R_isThere_56.i {s1 : Int} {σ : MS} {Q : MQ9} (h : ((¬ s1 = (0 : Int) → Q (.inl (some 0)) (wV σ 246 0 s1)) ∧ (s1 = (0 : Int) → Q (.inl (some 1)) (wV σ 246 0 s1)))) : R_isThere_56 s1 σ Q := wp_run 9 mt_315 mu_315 mf_315 mh_315 mb_315 h
def mt_316 : MT := (0, .aload_n 0, 1, []) :: (1, .iload_n 1, 1, []) :: (2, .iload_n 2, 1, []) :: (3, .iconst 1, 1, []) :: (4, .invokevirtual 922, 3, [315, 3, 4, 6, 1, 12, 246]) :: (7, .ifCond .ne 5, 3, [12]) :: (10, .iconst 0, 1, []) :: (11, .ireturn, 1, []) :: (12, .iload_n 3, 1, []) :: (13, .ifCond .lt 20, 3, [33]) :: (16, .iload_n 3, 1, []) :: (17, .aload_n 0, 1, []) :: (18, .getfield 256, 3, [12, 119, 1, 325, 246]) :: (21, .aload_n 0, 1, []) :: (22, .getfield 265, 3, [12, 122, 1, 328, 246]) :: (25, .iload_n 1, 1, []) :: (26, .iaload, 1, [101]) :: (27, .iload_n 2, 1, []) :: (28, .iadd, 1, []) :: (29, .iaload, 1, [6100]) :: (30, .if_icmp .lt 8, 3, [38]) :: (33, .aload_n 0, 1, []) :: (34, .iconst 2, 1, []) :: (35, .putfield 349, 3, [12, 0, 0, 0, 246]) :: (38, .aload_n 0, 1, []) :: (39, .getfield 349, 3, [12, 0, 0, 0, 246]) :: (42, .ifCond .ne 7, 3, [49]) :: (45, .iconst 1, 1, []) :: (46, .goto 4, 3, [50]) :: (49, .iconst 0, 1, []) :: (50, .ireturn, 1, []) :: []
def mu_316 : MC := [(33, [(0, false)], []), (38, [(0, false)], [])]
theorem mb_316 : tabB 316 4 12 mt_316 mu_316 = true := by decide +kernel
set_option maxRecDepth 20000 in
theorem R_isSign.i {l1 : Int} {l2 : Int} {l3 : Int} {σ : MS} {Q : MQ9} (h : R_isThere l1 l2 1 σ (kI (thQ Q) fun r1 σ1 => ((¬ r1 = (0 : Int) → (Rg l3 ∧ (l3 < (0 : Int) → R_isSign_33 σ1 Q) ∧ ((0 : Int) ≤ l3 → 0 ≤ l1 ∧ l1 < 101 ∧ 0 ≤ ((mV σ1 328 l1.toNat) + l2) ∧ ((mV σ1 328 l1.toNat) + l2) < 6100 ∧ (Rg l3 ∧ (l3 < (mV σ1 325 (((mV σ1 328 l1.toNat) + l2).toNat)) → R_isSign_38 σ1 Q) ∧ ((mV σ1 325 (((mV σ1 328 l1.toNat) + l2).toNat)) ≤ l3 → R_isSign_33 σ1 Q))))) ∧ (r1 = (0 : Int) → Q (.inl (some 0)) σ1)))) : R_isSign l1 l2 l3 σ Q := wp_run 21 mt_316 mu_316 mf_316 mh_316 mb_316 h
set_option maxRecDepth 20000 in
theorem R_isSign_33.i {σ : MS} {Q : MQ9} (h : R_isSign_38 (wV σ 246 0 2) Q) : R_isSign_33 σ Q := wp_run 5 mt_316 mu_316 mf_316 mh_316 mb_316 h
set_option maxRecDepth 20000 in
theorem R_isSign_38.i {σ : MS} {Q : MQ9} (h : ((¬ (mV σ 246 0) = (0 : Int) → Q (.inl (some 0)) σ) ∧ ((mV σ 246 0) = (0 : Int) → Q (.inl (some 1)) σ))) : R_isSign_38 σ Q := wp_run 8 mt_316 mu_316 mf_316 mh_316 mb_316 h
def mt_317 : MT := (0, .aload_n 0, 1, []) :: (1, .aload_n 0, 1, []) :: (2, .getfield 874, 3, [12, 114, 0, 0, 246]) :: (5, .ifCond .eq 7, 3, [12]) :: (8, .iconst 0, 1, []) :: (9, .goto 4, 3, [13]) :: (12, .iconst 1, 1, []) :: (13, .putfield 349, 3, [12, 0, 0, 0, 246]) :: (16, .aload_n 0, 1, []) :: (17, .getfield 874, 3, [12, 114, 0, 0, 246]) :: (20, .ifCond .eq 10, 3, [30]) :: (23, .aload_n 0, 1, []) :: (24, .getfield 835, 3, [12, 123, 0, 0, 246]) :: (27, .goto 4, 3, [31]) :: (30, .iconst 0, 1, []) :: (31, .ireturn, 1, []) :: []
def mu_317 : MC := [(13, [(0, false)], [true, false])]
theorem mb_317 : tabB 317 1 12 mt_317 mu_317 = true := by decide +kernel
set_option maxRecDepth 20000 in
theorem R_pages.i {σ : MS} {Q : MQ9} (h : (((mV σ 246 114) = (0 : Int) → R_pages_13 1 σ Q) ∧ (¬ (mV σ 246 114) = (0 : Int) → R_pages_13 0 σ Q))) : R_pages σ Q := wp_run 8 mt_317 mu_317 mf_317 mh_317 mb_317 h
set_option maxRecDepth 20000 in
theorem R_pages_13.i {s1 : Int} {σ : MS} {Q : MQ9} (h : (((mV σ 246 114) = (0 : Int) → Q (.inl (some 0)) (wV σ 246 0 s1)) ∧ (¬ (mV σ 246 114) = (0 : Int) → Q (.inl (some (mV σ 246 123))) (wV σ 246 0 s1)))) : R_pages_13 s1 σ Q := wp_run 10 mt_317 mu_317 mf_317 mh_317 mb_317 h
def mt_318 : MT := (0, .aload_n 0, 1, []) :: (1, .iload_n 1, 1, []) :: (2, .iconst 0, 1, []) :: (3, .iconst 0, 1, []) :: (4, .invokevirtual 922, 3, [315, 3, 4, 6, 1, 12, 246]) :: (7, .ifCond .eq 21, 3, [28]) :: (10, .aload_n 0, 1, []) :: (11, .getfield 265, 3, [12, 122, 1, 328, 246]) :: (14, .iload_n 1, 1, []) :: (15, .iconst 1, 1, []) :: (16, .iadd, 1, []) :: (17, .iaload, 1, [101]) :: (18, .aload_n 0, 1, []) :: (19, .getfield 265, 3, [12, 122, 1, 328, 246]) :: (22, .iload_n 1, 1, []) :: (23, .iaload, 1, [101]) :: (24, .isub, 1, []) :: (25, .goto 4, 3, [29]) :: (28, .iconst 0, 1, []) :: (29, .ireturn, 1, []) :: []
def mu_318 : MC := []
theorem mb_318 : tabB 318 2 12 mt_318 mu_318 = true := by decide +kernel
set_option maxRecDepth 20000 in
theorem R_lines.i {l1 : Int} {σ : MS} {Q : MQ9} (h : R_isThere l1 0 0 σ (kI (thQ Q) fun r1 σ1 => ((r1 = (0 : Int) → Q (.inl (some 0)) σ1) ∧ (¬ r1 = (0 : Int) → 0 ≤ (l1 + 1) ∧ (l1 + 1) < 101 ∧ 0 ≤ l1 ∧ l1 < 101 ∧ Rg ((mV σ1 328 ((l1 + 1).toNat)) - (mV σ1 328 l1.toNat)) ∧ Q (.inl (some ((mV σ1 328 ((l1 + 1).toNat)) - (mV σ1 328 l1.toNat)))) σ1)))) : R_lines l1 σ Q := wp_run 21 mt_318 mu_318 mf_318 mh_318 mb_318 h
def mt_319 : MT := (0, .aload_n 0, 1, []) :: (1, .iload_n 1, 1, []) :: (2, .iload_n 2, 1, []) :: (3, .iconst 1, 1, []) :: (4, .invokevirtual 922, 3, [315, 3, 4, 6, 1, 12, 246]) :: (7, .ifCond .eq 19, 3, [26]) :: (10, .aload_n 0, 1, []) :: (11, .getfield 256, 3, [12, 119, 1, 325, 246]) :: (14, .aload_n 0, 1, []) :: (15, .getfield 265, 3, [12, 122, 1, 328, 246]) :: (18, .iload_n 1, 1, []) :: (19, .iaload, 1, [101]) :: (20, .iload_n 2, 1, []) :: (21, .iadd, 1, []) :: (22, .iaload, 1, [6100]) :: (23, .goto 4, 3, [27]) :: (26, .iconst 0, 1, []) :: (27, .ireturn, 1, []) :: []
def mu_319 : MC := []
theorem mb_319 : tabB 319 3 12 mt_319 mu_319 = true := by decide +kernel
set_option maxRecDepth 20000 in
theorem R_length.i {l1 : Int} {l2 : Int} {σ : MS} {Q : MQ9} (h : R_isThere l1 l2 1 σ (kI (thQ Q) fun r1 σ1 => ((r1 = (0 : Int) → Q (.inl (some 0)) σ1) ∧ (¬ r1 = (0 : Int) → 0 ≤ l1 ∧ l1 < 101 ∧ 0 ≤ ((mV σ1 328 l1.toNat) + l2) ∧ ((mV σ1 328 l1.toNat) + l2) < 6100 ∧ Q (.inl (some (mV σ1 325 (((mV σ1 328 l1.toNat) + l2).toNat)))) σ1)))) : R_length l1 l2 σ Q := wp_run 19 mt_319 mu_319 mf_319 mh_319 mb_319 h
def mt_320 : MT := (0, .aload_n 0, 1, []) :: (1, .iload_n 1, 1, []) :: (2, .iload_n 2, 1, []) :: (3, .iload_n 3, 1, []) :: (4, .invokevirtual 925, 3, [316, 3, 4, 7, 1, 12, 246]) :: (7, .ifCond .eq 26, 3, [33]) :: (10, .aload_n 0, 1, []) :: (11, .getfield 247, 3, [12, 116, 1, 322, 246]) :: (14, .aload_n 0, 1, []) :: (15, .getfield 253, 3, [12, 118, 1, 324, 246]) :: (18, .aload_n 0, 1, []) :: (19, .getfield 265, 3, [12, 122, 1, 328, 246]) :: (22, .iload_n 1, 1, []) :: (23, .iaload, 1, [101]) :: (24, .iload_n 2, 1, []) :: (25, .iadd, 1, []) :: (26, .iaload, 1, [6100]) :: (27, .iload_n 3, 1, []) :: (28, .iadd, 1, []) :: (29, .baload, 1, [80000]) :: (30, .goto 4, 3, [34]) :: (33, .iconst 0, 1, []) :: (34, .ireturn, 1, []) :: []
def mu_320 : MC := []
theorem mb_320 : tabB 320 4 12 mt_320 mu_320 = true := by decide +kernel
set_option maxRecDepth 20000 in
theorem R_sign.i {l1 : Int} {l2 : Int} {l3 : Int} {σ : MS} {Q : MQ9} (h : R_isSign l1 l2 l3 σ (kI (thQ Q) fun r1 σ1 => ((r1 = (0 : Int) → Q (.inl (some 0)) σ1) ∧ (¬ r1 = (0 : Int) → 0 ≤ l1 ∧ l1 < 101 ∧ 0 ≤ ((mV σ1 328 l1.toNat) + l2) ∧ ((mV σ1 328 l1.toNat) + l2) < 6100 ∧ 0 ≤ ((mV σ1 324 (((mV σ1 328 l1.toNat) + l2).toNat)) + l3) ∧ ((mV σ1 324 (((mV σ1 328 l1.toNat) + l2).toNat)) + l3) < 80000 ∧ Q (.inl (some (mV σ1 322 (((mV σ1 324 (((mV σ1 328 l1.toNat) + l2).toNat)) + l3).toNat)))) σ1)))) : R_sign l1 l2 l3 σ Q := wp_run 24 mt_320 mu_320 mf_320 mh_320 mb_320 h
def mt_321 : MT := (0, .aload_n 0, 1, []) :: (1, .iload_n 1, 1, []) :: (2, .iload_n 2, 1, []) :: (3, .iload_n 3, 1, []) :: (4, .invokevirtual 925, 3, [316, 3, 4, 7, 1, 12, 246]) :: (7, .ifCond .eq 26, 3, [33]) :: (10, .aload_n 0, 1, []) :: (11, .getfield 250, 3, [12, 117, 1, 323, 246]) :: (14, .aload_n 0, 1, []) :: (15, .getfield 253, 3, [12, 118, 1, 324, 246]) :: (18, .aload_n 0, 1, []) :: (19, .getfield 265, 3, [12, 122, 1, 328, 246]) :: (22, .iload_n 1, 1, []) :: (23, .iaload, 1, [101]) :: (24, .iload_n 2, 1, []) :: (25, .iadd, 1, []) :: (26, .iaload, 1, [6100]) :: (27, .iload_n 3, 1, []) :: (28, .iadd, 1, []) :: (29, .baload, 1, [80000]) :: (30, .goto 4, 3, [34]) :: (33, .iconst 0, 1, []) :: (34, .ireturn, 1, []) :: []
def mu_321 : MC := []
theorem mb_321 : tabB 321 4 12 mt_321 mu_321 = true := by decide +kernel
set_option maxRecDepth 20000 in
theorem R_style.i {l1 : Int} {l2 : Int} {l3 : Int} {σ : MS} {Q : MQ9} (h : R_isSign l1 l2 l3 σ (kI (thQ Q) fun r1 σ1 => ((r1 = (0 : Int) → Q (.inl (some 0)) σ1) ∧ (¬ r1 = (0 : Int) → 0 ≤ l1 ∧ l1 < 101 ∧ 0 ≤ ((mV σ1 328 l1.toNat) + l2) ∧ ((mV σ1 328 l1.toNat) + l2) < 6100 ∧ 0 ≤ ((mV σ1 324 (((mV σ1 328 l1.toNat) + l2).toNat)) + l3) ∧ ((mV σ1 324 (((mV σ1 328 l1.toNat) + l2).toNat)) + l3) < 80000 ∧ Q (.inl (some (mV σ1 323 (((mV σ1 324 (((mV σ1 328 l1.toNat) + l2).toNat)) + l3).toNat)))) σ1)))) : R_style l1 l2 l3 σ Q := wp_run 24 mt_321 mu_321 mf_321 mh_321 mb_321 h
def mt_322 : MT := (0, .aload_n 0, 1, []) :: (1, .iload_n 1, 1, []) :: (2, .iload_n 2, 1, []) :: (3, .iconst 1, 1, []) :: (4, .invokevirtual 922, 3, [315, 3, 4, 6, 1, 12, 246]) :: (7, .ifCond .eq 19, 3, [26]) :: (10, .aload_n 0, 1, []) :: (11, .getfield 259, 3, [12, 120, 1, 326, 246]) :: (14, .aload_n 0, 1, []) :: (15, .getfield 265, 3, [12, 122, 1, 328, 246]) :: (18, .iload_n 1, 1, []) :: (19, .iaload, 1, [101]) :: (20, .iload_n 2, 1, []) :: (21, .iadd, 1, []) :: (22, .iaload, 1, [6100]) :: (23, .goto 4, 3, [27]) :: (26, .iconst 0, 1, []) :: (27, .ireturn, 1, []) :: []
def mu_322 : MC := []
theorem mb_322 : tabB 322 3 12 mt_322 mu_322 = true := by decide +kernel
set_option maxRecDepth 20000 in
theorem R_origin.i {l1 : Int} {l2 : Int} {σ : MS} {Q : MQ9} (h : R_isThere l1 l2 1 σ (kI (thQ Q) fun r1 σ1 => ((r1 = (0 : Int) → Q (.inl (some 0)) σ1) ∧ (¬ r1 = (0 : Int) → 0 ≤ l1 ∧ l1 < 101 ∧ 0 ≤ ((mV σ1 328 l1.toNat) + l2) ∧ ((mV σ1 328 l1.toNat) + l2) < 6100 ∧ Q (.inl (some (mV σ1 326 (((mV σ1 328 l1.toNat) + l2).toNat)))) σ1)))) : R_origin l1 l2 σ Q := wp_run 19 mt_322 mu_322 mf_322 mh_322 mb_322 h
def mt_326 : MT := (0, .aload_n 0, 1, []) :: (1, .iconst 0, 1, []) :: (2, .putfield 349, 3, [12, 0, 0, 0, 246]) :: (5, .iload_n 1, 1, []) :: (6, .ifCond .lt 20, 3, [26]) :: (9, .iload_n 1, 1, []) :: (10, .aload_n 0, 1, []) :: (11, .getfield 928, 3, [12, 141, 0, 0, 246]) :: (14, .if_icmp .ge 12, 3, [26]) :: (17, .aload_n 0, 1, []) :: (18, .getfield 295, 3, [12, 140, 1, 336, 246]) :: (21, .iload_n 1, 1, []) :: (22, .baload, 1, [70000]) :: (23, .goto 4, 3, [27]) :: (26, .iconst (-1), 1, []) :: (27, .ireturn, 1, []) :: []
def mu_326 : MC := []
theorem mb_326 : tabB 326 2 12 mt_326 mu_326 = true := by decide +kernel
set_option maxRecDepth 20000 in
theorem R_answer.i {l1 : Int} {σ : MS} {Q : MQ9} (h : (Rg l1 ∧ (l1 < (0 : Int) → Q (.inl (some (-1))) (wV σ 246 0 0)) ∧ ((0 : Int) ≤ l1 → (Rg l1 ∧ ((mV σ 246 141) ≤ l1 → Q (.inl (some (-1))) (wV σ 246 0 0)) ∧ (l1 < (mV σ 246 141) → 0 ≤ l1 ∧ l1 < 70000 ∧ Q (.inl (some (mV σ 336 l1.toNat))) (wV σ 246 0 0)))))) : R_answer l1 σ Q := wp_run 17 mt_326 mu_326 mf_326 mh_326 mb_326 h
