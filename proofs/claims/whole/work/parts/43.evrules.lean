/-! RULES OF Ev, A ROW AN INSTRUCTION -/
/-- the state with an int put, with a row put -/
def ip (σ : SS) (z k : Nat) (x : Int32) : SS := uI σ (vset (sI σ) z k x)
def Ret (r : Option Int32) (σ1 : SS) (k s : Nat) : EQ := fun o σ' kc ks => o = .inl r ∧ σ' = σ1 ∧ kc = k ∧ ks = s
def Thr (E : String) (σ1 : SS) (k s : Nat) : EQ := fun o σ' kc ks => o = .inr E ∧ σ' = σ1 ∧ kc = k ∧ ks = s
section
variable {d μ pc ln n t : Nat} {lo lo2 : ALo} {st st2 rest : List Value} {σ σ2 : SS} {Q Q2 : EQ} {ins : Jvm.ClassFile.Instr} {off : Int} {x y : Int32}
theorem ev_iconst {c : Int} {v : Int32} (hd : decode (mC μ) pc = .ok (.iconst c, 1)) (hv : Int32.ofInt c = v) (hn : pc + 1 = n) (kk : Ev d μ n lo (.int v :: st) σ Q) : Ev d μ pc lo st σ Q := by
  subst hv hn
  exact ev_P (mL μ) rfl hd (by unfold am_P; dsimp only; rw [if_pos rfl]) kk
theorem ev_bipush {c : Int} {v : Int32} (hd : decode (mC μ) pc = .ok (.bipush c, 2)) (hv : (Int8.ofInt c).toInt32 = v) (hn : pc + 2 = n) (kk : Ev d μ n lo (.int v :: st) σ Q) : Ev d μ pc lo st σ Q := by
  subst hv hn
  exact ev_P (mL μ) rfl hd (by unfold am_P; dsimp only; rw [if_pos rfl]) kk
theorem ev_sipush {c : Int} {v : Int32} (hd : decode (mC μ) pc = .ok (.sipush c, 3)) (hv : (Int16.ofInt c).toInt32 = v) (hn : pc + 3 = n) (kk : Ev d μ n lo (.int v :: st) σ Q) : Ev d μ pc lo st σ Q := by
  subst hv hn
  exact ev_P (mL μ) rfl hd (by unfold am_P; dsimp only; rw [if_pos rfl]) kk
theorem ev_if0 {c : Jvm.ClassFile.Cond} (hd : decode (mC μ) pc = .ok (.ifCond c off, 3)) (hj : am_j pc off = some t) (hn : pc + 3 = n) (h1 : am_c c x 0 = true → Ev d μ t lo st σ Q) (h2 : ¬ am_c c x 0 = true → Ev d μ n lo st σ Q) : Ev d μ pc lo (.int x :: st) σ Q := by
  subst hn
  by_cases e : am_c c x 0 = true
  · exact ev_P (mL μ) rfl hd (by unfold am_P am_if; dsimp only; rw [if_pos rfl, hj]; dsimp only; rw [if_pos e]) (h1 e)
  · exact ev_P (mL μ) rfl hd (by unfold am_P am_if; dsimp only; rw [if_pos rfl, hj]; dsimp only; rw [if_neg e]) (h2 e)
theorem ev_ic0 {c : Jvm.ClassFile.Cond} (hd : decode (mC μ) pc = .ok (.if_icmp c off, 3)) (hj : am_j pc off = some t) (hn : pc + 3 = n) (h1 : am_c c x y = true → Ev d μ t lo st σ Q) (h2 : ¬ am_c c x y = true → Ev d μ n lo st σ Q) : Ev d μ pc lo (.int y :: .int x :: st) σ Q := by
  subst hn
  by_cases e : am_c c x y = true
  · exact ev_P (mL μ) rfl hd (by unfold am_P am_ic; dsimp only; rw [if_pos rfl, hj]; dsimp only; rw [if_pos e]) (h1 e)
  · exact ev_P (mL μ) rfl hd (by unfold am_P am_ic; dsimp only; rw [if_pos rfl, hj]; dsimp only; rw [if_neg e]) (h2 e)

theorem ev_if_eq (hd : decode (mC μ) pc = .ok (.ifCond .eq off, 3)) (hj : am_j pc off = some t) (hn : pc + 3 = n) (h1 : x = 0 → Ev d μ t lo st σ Q) (h2 : ¬ x = 0 → Ev d μ n lo st σ Q) : Ev d μ pc lo (.int x :: st) σ Q := ev_if0 hd hj hn (fun e => h1 (of_decide_eq_true e)) (fun e => h2 (fun z => e (decide_eq_true z)))
theorem ev_ic_eq (hd : decode (mC μ) pc = .ok (.if_icmp .eq off, 3)) (hj : am_j pc off = some t) (hn : pc + 3 = n) (h1 : x = y → Ev d μ t lo st σ Q) (h2 : ¬ x = y → Ev d μ n lo st σ Q) : Ev d μ pc lo (.int y :: .int x :: st) σ Q := ev_ic0 hd hj hn (fun e => h1 (of_decide_eq_true e)) (fun e => h2 (fun z => e (decide_eq_true z)))
theorem ev_if_ne (hd : decode (mC μ) pc = .ok (.ifCond .ne off, 3)) (hj : am_j pc off = some t) (hn : pc + 3 = n) (h1 : ¬ x = 0 → Ev d μ t lo st σ Q) (h2 : x = 0 → Ev d μ n lo st σ Q) : Ev d μ pc lo (.int x :: st) σ Q := ev_if0 hd hj hn (fun e => h1 (of_decide_eq_true e)) (fun e => h2 (Classical.byContradiction (fun z => e (decide_eq_true z))))
theorem ev_ic_ne (hd : decode (mC μ) pc = .ok (.if_icmp .ne off, 3)) (hj : am_j pc off = some t) (hn : pc + 3 = n) (h1 : ¬ x = y → Ev d μ t lo st σ Q) (h2 : x = y → Ev d μ n lo st σ Q) : Ev d μ pc lo (.int y :: .int x :: st) σ Q := ev_ic0 hd hj hn (fun e => h1 (of_decide_eq_true e)) (fun e => h2 (Classical.byContradiction (fun z => e (decide_eq_true z))))
theorem ev_if_lt (hd : decode (mC μ) pc = .ok (.ifCond .lt off, 3)) (hj : am_j pc off = some t) (hn : pc + 3 = n) (h1 : x < 0 → Ev d μ t lo st σ Q) (h2 : ¬ x < 0 → Ev d μ n lo st σ Q) : Ev d μ pc lo (.int x :: st) σ Q := ev_if0 hd hj hn (fun e => h1 (of_decide_eq_true e)) (fun e => h2 (fun z => e (decide_eq_true z)))
theorem ev_ic_lt (hd : decode (mC μ) pc = .ok (.if_icmp .lt off, 3)) (hj : am_j pc off = some t) (hn : pc + 3 = n) (h1 : x < y → Ev d μ t lo st σ Q) (h2 : ¬ x < y → Ev d μ n lo st σ Q) : Ev d μ pc lo (.int y :: .int x :: st) σ Q := ev_ic0 hd hj hn (fun e => h1 (of_decide_eq_true e)) (fun e => h2 (fun z => e (decide_eq_true z)))
theorem ev_if_ge (hd : decode (mC μ) pc = .ok (.ifCond .ge off, 3)) (hj : am_j pc off = some t) (hn : pc + 3 = n) (h1 : 0 ≤ x → Ev d μ t lo st σ Q) (h2 : ¬ 0 ≤ x → Ev d μ n lo st σ Q) : Ev d μ pc lo (.int x :: st) σ Q := ev_if0 hd hj hn (fun e => h1 (of_decide_eq_true e)) (fun e => h2 (fun z => e (decide_eq_true z)))
theorem ev_ic_ge (hd : decode (mC μ) pc = .ok (.if_icmp .ge off, 3)) (hj : am_j pc off = some t) (hn : pc + 3 = n) (h1 : y ≤ x → Ev d μ t lo st σ Q) (h2 : ¬ y ≤ x → Ev d μ n lo st σ Q) : Ev d μ pc lo (.int y :: .int x :: st) σ Q := ev_ic0 hd hj hn (fun e => h1 (of_decide_eq_true e)) (fun e => h2 (fun z => e (decide_eq_true z)))
theorem ev_if_gt (hd : decode (mC μ) pc = .ok (.ifCond .gt off, 3)) (hj : am_j pc off = some t) (hn : pc + 3 = n) (h1 : 0 < x → Ev d μ t lo st σ Q) (h2 : ¬ 0 < x → Ev d μ n lo st σ Q) : Ev d μ pc lo (.int x :: st) σ Q := ev_if0 hd hj hn (fun e => h1 (of_decide_eq_true e)) (fun e => h2 (fun z => e (decide_eq_true z)))
theorem ev_ic_gt (hd : decode (mC μ) pc = .ok (.if_icmp .gt off, 3)) (hj : am_j pc off = some t) (hn : pc + 3 = n) (h1 : y < x → Ev d μ t lo st σ Q) (h2 : ¬ y < x → Ev d μ n lo st σ Q) : Ev d μ pc lo (.int y :: .int x :: st) σ Q := ev_ic0 hd hj hn (fun e => h1 (of_decide_eq_true e)) (fun e => h2 (fun z => e (decide_eq_true z)))
theorem ev_if_le (hd : decode (mC μ) pc = .ok (.ifCond .le off, 3)) (hj : am_j pc off = some t) (hn : pc + 3 = n) (h1 : x ≤ 0 → Ev d μ t lo st σ Q) (h2 : ¬ x ≤ 0 → Ev d μ n lo st σ Q) : Ev d μ pc lo (.int x :: st) σ Q := ev_if0 hd hj hn (fun e => h1 (of_decide_eq_true e)) (fun e => h2 (fun z => e (decide_eq_true z)))
theorem ev_ic_le (hd : decode (mC μ) pc = .ok (.if_icmp .le off, 3)) (hj : am_j pc off = some t) (hn : pc + 3 = n) (h1 : x ≤ y → Ev d μ t lo st σ Q) (h2 : ¬ x ≤ y → Ev d μ n lo st σ Q) : Ev d μ pc lo (.int y :: .int x :: st) σ Q := ev_ic0 hd hj hn (fun e => h1 (of_decide_eq_true e)) (fun e => h2 (fun z => e (decide_eq_true z)))
theorem ev_tin {dd a b : Int} {offs : Array Int} (hd : decode (mC μ) pc = .ok (.tableswitch dd a b offs, ln)) (h1 : ¬ x.toInt < a) (h2 : ¬ b < x.toInt) (ho : offs[(x.toInt - a).toNat]? = some off) (hj : am_j pc off = some t) (kk : Ev d μ t lo st σ Q) : Ev d μ pc lo (.int x :: st) σ Q :=
  ev_P (mL μ) rfl hd (by unfold am_P am_tsw; dsimp only; rw [if_neg (fun h => h.elim h1 h2), ho]; dsimp only; unfold am_to; rw [hj]) kk
theorem ev_tout {dd a b : Int} {offs : Array Int} (hd : decode (mC μ) pc = .ok (.tableswitch dd a b offs, ln)) (h1 : x.toInt < a ∨ b < x.toInt) (hj : am_j pc dd = some t) (kk : Ev d μ t lo st σ Q) : Ev d μ pc lo (.int x :: st) σ Q :=
  ev_P (mL μ) rfl hd (by unfold am_P am_tsw; dsimp only; rw [if_pos h1]; unfold am_to; rw [hj]) kk
/-- a field is read -/
theorem ev_gf {own idx ci z k : Nat} {v : Value} (hO : mO μ = own) (hd : decode (mC μ) pc = .ok (.getfield idx, 3)) (hf : am_fl own idx = some (ci, k)) (hg : am_get σ ci z k = some v) (hn : pc + 3 = n) (kk : Ev d μ n lo (v :: st) σ Q) : Ev d μ pc lo (.ref z :: st) σ Q := by
  subst hn
  refine ev_H (mK μ == 9) own rfl hO hd ?_ kk
  unfold am_H am_getf
  dsimp only
  rw [if_pos rfl, hf]
  dsimp only
  rw [hg]
theorem ev_pf {own idx ci z k : Nat} {v : Value} (hO : mO μ = own) (hd : decode (mC μ) pc = .ok (.putfield idx, 3)) (hf : am_fl own idx = some (ci, k)) (hg : am_put σ ci z k v = some σ2) (hn : pc + 3 = n) (kk : Ev d μ n lo st σ2 Q) : Ev d μ pc lo (v :: .ref z :: st) σ Q := by
  subst hn
  refine ev_H (mK μ == 9) own rfl hO hd ?_ kk
  unfold am_H am_putf
  dsimp only
  rw [if_pos rfl, hf]
  dsimp only
  rw [hg]
theorem gt_row {z : Nat} (hz : z ∈ xRows) : am_get σ 5 z 1 = some (.int (nI (sX σ z).length)) := by
  unfold am_get
  rw [if_pos rfl, if_pos ⟨rfl, hz⟩]
theorem gt_mint {k : Nat} (hm : mOff k = none) (hk : k ≠ 159) : am_get σ 12 246 k = some (.int (sI σ 246 k)) := by
  unfold am_get
  rw [if_neg (by decide), if_pos rfl, if_pos rfl, hm]
  dsimp only
  rw [if_neg hk]
theorem gt_mref {k j : Nat} (hm : mOff k = some j) : am_get σ 12 246 k = some (.ref (247 + j)) := by
  unfold am_get
  rw [if_neg (by decide), if_pos rfl, if_pos rfl, hm]
def fvO (σ : SS) (z k : Nat) : FS → Option Value
  | .inl r => some (.ref r)
  | .inr (.inl _) => some (.int (sI σ z k))
  | .inr (.inr j) => some (.ref (sB σ j))
theorem gt_ob {ci z k : Nat} {fs : List FS} {f : FS} (h5 : ci ≠ 5) (h12 : ci ≠ 12) (ho : am_ob z = some (ci, fs)) (hf : fs[k]? = some f) : am_get σ ci z k = fvO σ z k f := by
  unfold am_get
  rw [if_neg h5, if_neg h12, ho]
  dsimp only
  rw [if_pos rfl, hf]
  rcases f with r | u | j <;> rfl
theorem pt_mint {k : Nat} (hf : (tx 12 k).2.2.2 = false) (hm : mOff k = none) (hk : k ≠ 159) (hx : narrow (tyx 12 k) (.int x) = .int x ∧ fits (tyx 12 k) (.int x) = true) : am_put σ 12 246 k (.int x) = some (ip σ 246 k x) := by
  unfold am_put
  rw [if_pos hf]
  dsimp only
  rw [if_pos hx, if_pos rfl, if_pos ⟨rfl, hm, hk⟩]
  rfl
theorem pt_ob {ci z k : Nat} {fs : List FS} (hf : (tx ci k).2.2.2 = false) (h12 : ci ≠ 12) (ho : am_ob z = some (ci, fs)) (hk : fs[k]? = some (.inr (.inl ()))) (hx : narrow (tyx ci k) (.int x) = .int x ∧ fits (tyx ci k) (.int x) = true) : am_put σ ci z k (.int x) = some (ip σ z k x) := by
  unfold am_put
  rw [if_pos hf]
  dsimp only
  rw [if_pos hx, if_neg h12, ho]
  dsimp only
  rw [if_pos rfl, hk]
  rfl
theorem nf_int : narrow .int (.int x) = .int x ∧ fits .int (.int x) = true := ⟨rfl, rfl⟩
theorem nf_bool (h : x = 0 ∨ x = 1) : narrow .boolean (.int x) = .int x ∧ fits .boolean (.int x) = true := by rcases h with rfl | rfl <;> exact ⟨rfl, rfl⟩
/-- arrays -/
theorem ev_iald {z N : Nat} (hd : decode (mC μ) pc = .ok (.iaload, 1)) (hz : z ≠ 352) (ha : am_ar z = some (0, N)) (hi : am_in x N = true) (hn : pc + 1 = n) (kk : Ev d μ n lo (.int (sI σ z x.toNatClampNeg) :: st) σ Q) : Ev d μ pc lo (.int x :: .ref z :: st) σ Q := by
  subst hn
  refine ev_H (mK μ == 9) (mO μ) rfl rfl hd ?_ kk
  unfold am_H am_iald
  dsimp only
  rw [if_pos rfl, if_neg hz, ha]
  dsimp only
  rw [if_pos ⟨rfl, hi⟩]
theorem ev_scr (hK : (mK μ == 9) = true) (hd : decode (mC μ) pc = .ok (.iaload, 1)) (hi : am_in x (sN σ) = true) (hn : pc + 1 = n) (kk : Ev d μ n lo (.int (sS σ x.toNatClampNeg) :: st) σ Q) : Ev d μ pc lo (.int x :: .ref 352 :: st) σ Q := by
  subst hn
  refine ev_H true (mO μ) hK rfl hd ?_ kk
  unfold am_H am_iald
  dsimp only
  rw [if_pos rfl, if_pos rfl, if_pos ⟨rfl, hi⟩]
theorem ev_slen (hK : (mK μ == 9) = true) (hd : decode (mC μ) pc = .ok (.arraylength, 1)) (hn : pc + 1 = n) (kk : Ev d μ n lo (.int (Int32.ofNat (sN σ)) :: st) σ Q) : Ev d μ pc lo (.ref 352 :: st) σ Q := by
  subst hn
  refine ev_H true (mO μ) hK rfl hd ?_ kk
  unfold am_H am_alen
  dsimp only
  rw [if_pos rfl, if_pos rfl, if_pos rfl]
theorem ev_bald {z N K : Nat} (hd : decode (mC μ) pc = .ok (.baload, 1)) (ha : am_ar z = some (K, N)) (hK : K = 1 ∨ K = 2) (hi : am_in x N = true) (hn : pc + 1 = n) (kk : Ev d μ n lo (.int (sI σ z x.toNatClampNeg) :: st) σ Q) : Ev d μ pc lo (.int x :: .ref z :: st) σ Q := by
  subst hn
  refine ev_H (mK μ == 9) (mO μ) rfl rfl hd ?_ kk
  unfold am_H am_bald
  dsimp only
  rw [if_pos rfl, ha]
  dsimp only
  rw [if_pos ⟨hK, hi⟩]
theorem upd_ip {z i : Nat} : uI σ (va_up (sI σ) z (upd (sI σ z) i y)) = ip σ z i y := rfl
theorem ev_iast {z N : Nat} (hd : decode (mC μ) pc = .ok (.iastore, 1)) (ha : am_ar z = some (0, N)) (hi : am_in x N = true) (hn : pc + 1 = n) (kk : Ev d μ n lo st (ip σ z x.toNatClampNeg y) Q) : Ev d μ pc lo (.int y :: .int x :: .ref z :: st) σ Q := by
  subst hn
  refine ev_H (mK μ == 9) (mO μ) rfl rfl hd ?_ kk
  unfold am_H am_iast
  dsimp only
  rw [if_pos rfl, ha]
  dsimp only
  rw [if_pos ⟨rfl, hi⟩]
  rfl
theorem ev_bast {z N : Nat} (hd : decode (mC μ) pc = .ok (.bastore, 1)) (ha : am_ar z = some (1, N)) (hi : am_in x N = true) (hn : pc + 1 = n) (kk : Ev d μ n lo st (ip σ z x.toNatClampNeg (vp_nar .byte y)) Q) : Ev d μ pc lo (.int y :: .int x :: .ref z :: st) σ Q := by
  subst hn
  refine ev_H (mK μ == 9) (mO μ) rfl rfl hd ?_ kk
  unfold am_H am_bast
  dsimp only
  rw [if_pos rfl, ha]
  dsimp only
  rw [if_pos hi, if_pos rfl]
  rfl
theorem ev_bastZ {z N : Nat} (hd : decode (mC μ) pc = .ok (.bastore, 1)) (ha : am_ar z = some (2, N)) (hi : am_in x N = true) (hn : pc + 1 = n) (kk : Ev d μ n lo st (ip σ z x.toNatClampNeg (vp_nar .boolean y)) Q) : Ev d μ pc lo (.int y :: .int x :: .ref z :: st) σ Q := by
  subst hn
  refine ev_H (mK μ == 9) (mO μ) rfl rfl hd ?_ kk
  unfold am_H am_bast
  dsimp only
  rw [if_pos rfl, ha]
  dsimp only
  rw [if_pos hi, if_neg (by decide), if_pos rfl]
  rfl
theorem ev_lald (hd : decode (mC μ) pc = .ok (.laload, 1)) (hn : pc + 1 = n) (kk : Ev d μ n lo (.long (sO σ 0) :: st) σ Q) : Ev d μ pc lo (.int 0 :: .ref 351 :: st) σ Q := by
  subst hn
  refine ev_H (mK μ == 9) (mO μ) rfl rfl hd ?_ kk
  unfold am_H am_lald
  dsimp only
  rw [if_pos ⟨rfl, rfl, rfl⟩]
  rfl
theorem ev_last {l : Int64} (hd : decode (mC μ) pc = .ok (.lastore, 1)) (hn : pc + 1 = n) (kk : Ev d μ n lo st (uO σ (vp_updL (sO σ) 0 l)) Q) : Ev d μ pc lo (.long l :: .int 0 :: .ref 351 :: st) σ Q := by
  subst hn
  refine ev_H (mK μ == 9) (mO μ) rfl rfl hd ?_ kk
  unfold am_H am_last
  dsimp only
  rw [if_pos ⟨rfl, rfl, rfl⟩]
  rfl
theorem ev_aald (hd : decode (mC μ) pc = .ok (.aaload, 1)) (hi : am_in x 6 = true) (hn : pc + 1 = n) (kk : Ev d μ n lo (.ref (10 + 2 * x.toNatClampNeg) :: st) σ Q) : Ev d μ pc lo (.int x :: .ref 9 :: st) σ Q := by
  subst hn
  refine ev_H (mK μ == 9) (mO μ) rfl rfl hd ?_ kk
  unfold am_H am_aald
  dsimp only
  rw [if_pos ⟨rfl, rfl, hi⟩]
theorem ev_alen {z K N : Nat} (hd : decode (mC μ) pc = .ok (.arraylength, 1)) (hz : z ≠ 352) (ha : am_ar z = some (K, N)) (hK : K < 3) (hn : pc + 1 = n) (kk : Ev d μ n lo (.int (nI N) :: st) σ Q) : Ev d μ pc lo (.ref z :: st) σ Q := by
  subst hn
  refine ev_H (mK μ == 9) (mO μ) rfl rfl hd ?_ kk
  unfold am_H am_alen
  dsimp only
  rw [if_pos rfl, if_neg hz, ha]
  dsimp only
  rw [if_pos hK]
theorem ev_ldc {own idx : Nat} {v : Int32} (hO : mO μ = own) (hd : decode (mC μ) pc = .ok (.ldc idx, 2)) (hk : am_k (ckT own) idx = some v) (hn : pc + 2 = n) (kk : Ev d μ n lo (.int v :: st) σ Q) : Ev d μ pc lo st σ Q := by
  subst hn
  refine ev_H (mK μ == 9) own rfl hO hd ?_ kk
  unfold am_H
  dsimp only
  rw [if_pos rfl, hk]
theorem ev_ldc_w {own idx : Nat} {v : Int32} (hO : mO μ = own) (hd : decode (mC μ) pc = .ok (.ldc_w idx, 3)) (hk : am_k (ckT own) idx = some v) (hn : pc + 3 = n) (kk : Ev d μ n lo (.int v :: st) σ Q) : Ev d μ pc lo st σ Q := by
  subst hn
  refine ev_H (mK μ == 9) own rfl hO hd ?_ kk
  unfold am_H
  dsimp only
  rw [if_pos rfl, hk]
theorem ev_ldc2 {own idx : Nat} {v : Int64} (hO : mO μ = own) (hd : decode (mC μ) pc = .ok (.ldc2_w idx, 3)) (hk : am_kl (clT own) idx = some v) (hn : pc + 3 = n) (kk : Ev d μ n lo (.long v :: st) σ Q) : Ev d μ pc lo st σ Q := by
  subst hn
  refine ev_H (mK μ == 9) own rfl hO hd ?_ kk
  unfold am_H
  dsimp only
  rw [if_pos rfl, hk]
/-- calls -/
def CM (own : Nat) (ins : Jvm.ClassFile.Instr) (st : List Value) (ν : Nat) (av rest : List Value) : Prop := isCall ins = true ∧ am_M own ins 3 st = none ∧ am_C own ins 3 st = some (ν, av, rest)
theorem cm_v {own idx ν z : Nat} {st As rest : List Value} (hm : am_ml own idx = some ν) (hk : mK ν = 0 ∨ mK ν = 2) (hA : As.length = mA ν) (hz : am_cls z = some (mO ν)) (hr : (rest.map fun v => v.category).sum ≤ 8) (he : st = As ++ .ref z :: rest) : CM own (.invokevirtual idx) st ν (.ref z :: As.reverse) rest := by
  subst he
  refine ⟨rfl, rfl, ?_⟩
  unfold am_C
  dsimp only
  rw [hm]
  dsimp only
  rw [← hA, List.drop_left, List.take_left]
  dsimp only
  rw [if_pos ⟨rfl, hk, rfl, hz, hr⟩]
theorem cm_s {own idx ν : Nat} {st As rest : List Value} (hmm : (mmT own).find? (fun q => q.1 == idx) = none) (hm : am_ml own idx = some ν) (hk : mK ν = 1 ∨ mK ν = 3) (hA : As.length = mA ν) (hr : (rest.map fun v => v.category).sum ≤ 8) (he : st = As ++ rest) : CM own (.invokestatic idx) st ν As.reverse rest := by
  subst he
  refine ⟨rfl, ?_, ?_⟩
  · unfold am_M
    dsimp only
    split
    · rw [hmm]
    · rfl
  · unfold am_C
    dsimp only
    rw [hm]
    dsimp only
    rw [← hA, List.drop_left, List.take_left]
    rw [if_pos ⟨rfl, hk, rfl, hr⟩]
theorem ev_call {own ν : Nat} {av : List Value} {R : EQ} (hO : mO μ = own) (hd : decode (mC μ) pc = .ok (ins, 3)) (hc : CM own ins st ν av rest) (h1d : 1 ≤ d) (hν : ¬ ν ≤ 15) (hsl : (lg_sl av).length ≤ mL ν) (hkn : kn (lv_args 0 av)) (hs : Ev (d - 1) ν 0 (lv_args 0 av) [] σ R) (kk : ∀ o s k n, R o s k n → EvC d μ pc lo rest Q o s k n) : Ev d μ pc lo st σ Q :=
  ev_C own hO hd hc.1 hc.2.1 hc.2.2 h1d hν hsl hkn (hs.mono kk)
theorem evc_i {v : Int32} {k1 s1 : Nat} (h : Ev d μ (pc + 3) lo (.int v :: rest) σ (fun o s k n => Q o s (k1 + k) (s1 + n))) : EvC d μ pc lo rest Q (.inl (some v)) σ k1 s1 := h
theorem evc_i0 {v : Int32} (h : Ev d μ (pc + 3) lo (.int v :: rest) σ Q) : EvC d μ pc lo rest Q (.inl (some v)) σ 0 0 := by
  refine Ev.mono h (fun o s k n hq => ?_)
  rw [Nat.zero_add, Nat.zero_add]; exact hq
theorem evc_v {k1 s1 : Nat} (h : Ev d μ (pc + 3) lo rest σ (fun o s k n => Q o s (k1 + k) (s1 + n))) : EvC d μ pc lo rest Q (.inl none) σ k1 s1 := h
theorem evc_v0 (h : Ev d μ (pc + 3) lo rest σ Q) : EvC d μ pc lo rest Q (.inl none) σ 0 0 := by
  refine Ev.mono h (fun o s k n hq => ?_)
  rw [Nat.zero_add, Nat.zero_add]; exact hq
theorem evc_t {E : String} {k1 s1 : Nat} (ht : mH μ = []) (h : Q (.inr E) σ k1 s1) : EvC d μ pc lo rest Q (.inr E) σ k1 s1 := by
  unfold EvC
  dsimp only
  rw [ht]
  exact h
theorem evc_h {E : String} {k1 s1 : Nat} {q : Nat × ALo} {x : ExceptionTableEntry} {r : List ExceptionTableEntry} (ht : tableOf (mH μ) = x :: r) (hh : am_hd μ x pc E lo = some q) (h : Ev d μ q.1 q.2 [] σ (fun o s k n => Q o s (k1 + k) (s1 + n))) : EvC d μ pc lo rest Q (.inr E) σ k1 s1 := by
  unfold EvC
  dsimp only
  rw [ht]
  dsimp only
  rw [show am_hq μ x r pc E lo = some q by unfold am_hq; rw [hh]]
  exact h
theorem evc_h2 {E : String} {k1 s1 : Nat} {q : Nat × ALo} {x y : ExceptionTableEntry} {r : List ExceptionTableEntry} (ht : tableOf (mH μ) = x :: y :: r) (h9 : am_hd μ x pc E lo = none) (hh : am_hd2 μ x y pc E lo = some q) (h : Ev d μ q.1 q.2 [] σ (fun o s k n => Q o s (k1 + k) (s1 + n))) : EvC d μ pc lo rest Q (.inr E) σ k1 s1 := by
  unfold EvC
  dsimp only
  rw [ht]
  dsimp only
  rw [show am_hq μ x (y :: r) pc E lo = some q by unfold am_hq; rw [h9]; exact hh]
  exact h
/-- a call whose outcome is known: an int, nothing, a throw -/
theorem ev_ci {own ν : Nat} {av : List Value} {v : Int32} {σ1 : SS} (hO : mO μ = own) (hd : decode (mC μ) pc = .ok (ins, 3)) (hc : CM own ins st ν av rest) (h1d : 1 ≤ d) (hν : ¬ ν ≤ 15) (hsl : (lg_sl av).length ≤ mL ν) (hkn : kn (lv_args 0 av)) (hs : Ev (d - 1) ν 0 (lv_args 0 av) [] σ (Ret (some v) σ1 0 0)) (hn : pc + 3 = n) (kk : Ev d μ n lo (.int v :: rest) σ1 Q) : Ev d μ pc lo st σ Q := by
  subst hn
  refine ev_call hO hd hc h1d hν hsl hkn hs (fun o s k n h => ?_)
  obtain ⟨rfl, rfl, rfl, rfl⟩ := h
  exact evc_i0 kk
theorem ev_cv {own ν : Nat} {av : List Value} {σ1 : SS} (hO : mO μ = own) (hd : decode (mC μ) pc = .ok (ins, 3)) (hc : CM own ins st ν av rest) (h1d : 1 ≤ d) (hν : ¬ ν ≤ 15) (hsl : (lg_sl av).length ≤ mL ν) (hkn : kn (lv_args 0 av)) (hs : Ev (d - 1) ν 0 (lv_args 0 av) [] σ (Ret none σ1 0 0)) (hn : pc + 3 = n) (kk : Ev d μ n lo rest σ1 Q) : Ev d μ pc lo st σ Q := by
  subst hn
  refine ev_call hO hd hc h1d hν hsl hkn hs (fun o s k n h => ?_)
  obtain ⟨rfl, rfl, rfl, rfl⟩ := h
  exact evc_v0 kk
theorem ev_ct {own ν : Nat} {av : List Value} {E : String} {σ1 : SS} {k1 s1 : Nat} (hO : mO μ = own) (hd : decode (mC μ) pc = .ok (ins, 3)) (hc : CM own ins st ν av rest) (h1d : 1 ≤ d) (hν : ¬ ν ≤ 15) (hsl : (lg_sl av).length ≤ mL ν) (hkn : kn (lv_args 0 av)) (hs : Ev (d - 1) ν 0 (lv_args 0 av) [] σ (Thr E σ1 k1 s1)) (ht : mH μ = []) (kk : Q (.inr E) σ1 k1 s1) : Ev d μ pc lo st σ Q := by
  refine ev_call hO hd hc h1d hν hsl hkn hs (fun o s k n h => ?_)
  obtain ⟨rfl, rfl, rfl, rfl⟩ := h
  exact evc_t ht kk
/-- Row's own steps -/
theorem ev_rget {own z : Nat} (hO : mO μ = own) (hd : decode (mC μ) pc = .ok (ins, 3)) (hz : z ∈ xRows) (hc : CM own ins st 1 [.ref z, .int x] rest) (h1d : 1 ≤ d) (hn : pc + 3 = n) (kk : Ev d μ n lo (.int (rget (sX σ z) x) :: rest) σ Q) : Ev d μ pc lo st σ Q := by
  subst hn
  exact ev_Cp own hO hd hc.1 hc.2.1 hc.2.2 h1d (by decide) (k1 := 0) (s1 := 0) (if_pos hz) (evc_i0 kk)
theorem ev_rput {own z : Nat} (hO : mO μ = own) (hd : decode (mC μ) pc = .ok (ins, 3)) (hz : z ∈ xRows) (hc : CM own ins st 2 [.ref z, .int x] rest) (h1d : 2 ≤ d) (hl : (sX σ z).length < 131072) (hn : pc + 3 = n) (kk : Ev d μ n lo rest (uX σ z (gcap (sC σ z) (sX σ z).length) (sX σ z ++ [x])) (fun o s k n => Q o s (gmc (sC σ z) (sX σ z).length + k) (gms (sC σ z) (sX σ z).length + n))) : Ev d μ pc lo st σ Q := by
  subst hn
  have h : z ∈ xRows ∧ (sX σ z).length < 131072 ∧ 1 ≤ d - 1 := ⟨hz, hl, by omega⟩
  exact ev_Cp own hO hd hc.1 hc.2.1 hc.2.2 (by omega) (by decide) (if_pos h) (evc_v kk)
theorem ev_rclear {own z : Nat} (hO : mO μ = own) (hd : decode (mC μ) pc = .ok (ins, 3)) (hz : z ∈ xRows) (hc : CM own ins st 3 [.ref z] rest) (h1d : 1 ≤ d) (hn : pc + 3 = n) (kk : Ev d μ n lo rest (uX σ z (sC σ z) []) Q) : Ev d μ pc lo st σ Q := by
  subst hn
  exact ev_Cp own hO hd hc.1 hc.2.1 hc.2.2 h1d (by decide) (k1 := 0) (s1 := 0) (if_pos hz) (evc_v0 kk)
theorem ev_rpour {own z y : Nat} {a b : Int32} (hO : mO μ = own) (hd : decode (mC μ) pc = .ok (ins, 3)) (hz : z ∈ xRows) (hy : y ∈ xRows) (hyz : y ≠ z) (hc : CM own ins st 4 [.ref z, .ref y, .int a, .int b] rest) (h1d : 3 ≤ d) (hl : (sX σ z).length + (b.toInt - a.toInt).toNat ≤ 131072) (hn : pc + 3 = n) (kk : Ev d μ n lo rest (uX σ z (gcapN (sC σ z) (sX σ z).length (b.toInt - a.toInt).toNat) (sX σ z ++ pourL (rget (sX σ y)) (b.toInt - a.toInt).toNat a)) (fun o s k n => Q o s (gmcN (sC σ z) (sX σ z).length (b.toInt - a.toInt).toNat + k) (gmsN (sC σ z) (sX σ z).length (b.toInt - a.toInt).toNat + n))) : Ev d μ pc lo st σ Q := by
  subst hn
  have h : z ∈ xRows ∧ y ∈ xRows ∧ y ≠ z ∧ (sX σ z).length + (b.toInt - a.toInt).toNat ≤ 131072 ∧ 2 ≤ d - 1 := ⟨hz, hy, hyz, hl, by omega⟩
  exact ev_Cp own hO hd hc.1 hc.2.1 hc.2.2 (by omega) (by decide) (if_pos h) (evc_v kk)
theorem ev_rpourM {own z y : Nat} {a b k : Int32} (hO : mO μ = own) (hd : decode (mC μ) pc = .ok (ins, 3)) (hz : z ∈ xRows) (hy : y ∈ xRows) (hyz : y ≠ z) (hc : CM own ins st 5 [.ref z, .ref y, .int a, .int b, .int k] rest) (h1d : 3 ≤ d) (hl : (sX σ z).length + (b.toInt - a.toInt).toNat ≤ 131072) (hn : pc + 3 = n) (kk : Ev d μ n lo rest (uX σ z (gcapN (sC σ z) (sX σ z).length (b.toInt - a.toInt).toNat) (sX σ z ++ pourL (fun i => rget (sX σ y) i &&& k) (b.toInt - a.toInt).toNat a)) (fun o s k n => Q o s (gmcN (sC σ z) (sX σ z).length (b.toInt - a.toInt).toNat + k) (gmsN (sC σ z) (sX σ z).length (b.toInt - a.toInt).toNat + n))) : Ev d μ pc lo st σ Q := by
  subst hn
  have h : z ∈ xRows ∧ y ∈ xRows ∧ y ≠ z ∧ (sX σ z).length + (b.toInt - a.toInt).toNat ≤ 131072 ∧ 2 ≤ d - 1 := ⟨hz, hy, hyz, hl, by omega⟩
  exact ev_Cp own hO hd hc.1 hc.2.1 hc.2.2 (by omega) (by decide) (if_pos h) (evc_v kk)
theorem ev_rputMany {own z : Nat} {a b9 : Int32} (hO : mO μ = own) (hd : decode (mC μ) pc = .ok (ins, 3)) (hz : z ∈ xRows) (hc : CM own ins st 6 [.ref z, .int a, .int b9] rest) (h1d : 3 ≤ d) (hl : (sX σ z).length + (b9.toInt - (0 : Int32).toInt).toNat ≤ 131072) (hn : pc + 3 = n) (kk : Ev d μ n lo rest (uX σ z (gcapN (sC σ z) (sX σ z).length (b9.toInt - (0 : Int32).toInt).toNat) (sX σ z ++ pourL (fun _ => a) (b9.toInt - (0 : Int32).toInt).toNat 0)) (fun o s k n => Q o s (gmcN (sC σ z) (sX σ z).length (b9.toInt - (0 : Int32).toInt).toNat + k) (gmsN (sC σ z) (sX σ z).length (b9.toInt - (0 : Int32).toInt).toNat + n))) : Ev d μ pc lo st σ Q := by
  subst hn
  have h : z ∈ xRows ∧ (sX σ z).length + (b9.toInt - (0 : Int32).toInt).toNat ≤ 131072 ∧ 2 ≤ d - 1 := ⟨hz, hl, by omega⟩
  exact ev_Cp own hO hd hc.1 hc.2.1 hc.2.2 (by omega) (by decide) (if_pos h) (evc_v kk)
theorem ev_rcopy {own z y : Nat} (hO : mO μ = own) (hd : decode (mC μ) pc = .ok (ins, 3)) (hz : z ∈ xRows) (hy : y ∈ xRows) (hyz : y ≠ z) (hc : CM own ins st 7 [.ref z, .ref y] rest) (h1d : 4 ≤ d) (hl : (sX σ y).length ≤ 131072) (hn : pc + 3 = n) (kk : Ev d μ n lo rest (uX σ z (gcapN (sC σ z) 0 (sX σ y).length) (sX σ y)) (fun o s k n => Q o s (gmcN (sC σ z) 0 (sX σ y).length + k) (gmsN (sC σ z) 0 (sX σ y).length + n))) : Ev d μ pc lo st σ Q := by
  subst hn
  have h : z ∈ xRows ∧ y ∈ xRows ∧ y ≠ z ∧ (sX σ y).length ≤ 131072 ∧ 3 ≤ d - 1 := ⟨hz, hy, hyz, hl, by omega⟩
  exact ev_Cp own hO hd hc.1 hc.2.1 hc.2.2 (by omega) (by decide) (if_pos h) (evc_v kk)
theorem ev_rlike {own z y : Nat} (hO : mO μ = own) (hd : decode (mC μ) pc = .ok (ins, 3)) (hz : z ∈ xRows) (hy : y ∈ xRows) (hc : CM own ins st 8 [.ref z, .ref y] rest) (h1d : 3 ≤ d) (hn : pc + 3 = n) (kk : Ev d μ n lo (.int (if sX σ z = sX σ y then 1 else 0) :: rest) σ Q) : Ev d μ pc lo st σ Q := by
  subst hn
  have h : z ∈ xRows ∧ y ∈ xRows ∧ 2 ≤ d - 1 := ⟨hz, hy, by omega⟩
  exact ev_Cp own hO hd hc.1 hc.2.1 hc.2.2 (by omega) (by decide) (k1 := 0) (s1 := 0) (if_pos h) (evc_i0 kk)
theorem ev_rstands {own z y : Nat} {a f b : Int32} (hO : mO μ = own) (hd : decode (mC μ) pc = .ok (ins, 3)) (hz : z ∈ xRows) (hy : y ∈ xRows) (hc : CM own ins st 9 [.ref z, .int a, .ref y, .int f, .int b] rest) (h1d : 3 ≤ d) (hn : pc + 3 = n) (kk : Ev d μ n lo (.int (if standsL (fun i => rget (sX σ z) ((a + i) - f)) (rget (sX σ y)) (b.toInt - f.toInt).toNat f = true then 1 else 0) :: rest) σ Q) : Ev d μ pc lo st σ Q := by
  subst hn
  have h : z ∈ xRows ∧ y ∈ xRows ∧ 2 ≤ d - 1 := ⟨hz, hy, by omega⟩
  exact ev_Cp own hO hd hc.1 hc.2.1 hc.2.2 (by omega) (by decide) (k1 := 0) (s1 := 0) (if_pos h) (evc_i0 kk)
theorem ev_ralter {own z : Nat} (hO : mO μ = own) (hd : decode (mC μ) pc = .ok (ins, 3)) (hz : z ∈ xRows) (hc : CM own ins st 10 [.ref z, .int x, .int y] rest) (h1d : 1 ≤ d) (hn : pc + 3 = n) (kk : Ev d μ n lo rest (uX σ z (sC σ z) (raltL (sX σ z) x y)) Q) : Ev d μ pc lo st σ Q := by
  subst hn
  exact ev_Cp own hO hd hc.1 hc.2.1 hc.2.2 h1d (by decide) (k1 := 0) (s1 := 0) (if_pos hz) (evc_v0 kk)
theorem ev_rcut {own z : Nat} (hO : mO μ = own) (hd : decode (mC μ) pc = .ok (ins, 3)) (hz : z ∈ xRows) (hc : CM own ins st 11 [.ref z, .int x] rest) (h1d : 1 ≤ d) (hn : pc + 3 = n) (kk : Ev d μ n lo rest (uX σ z (sC σ z) (rcutL (sX σ z) x)) Q) : Ev d μ pc lo st σ Q := by
  subst hn
  exact ev_Cp own hO hd hc.1 hc.2.1 hc.2.2 h1d (by decide) (k1 := 0) (s1 := 0) (if_pos hz) (evc_v0 kk)
theorem ev_sfrom {own z : Nat} (hO : mO μ = own) (hd : decode (mC μ) pc = .ok (ins, 3)) (hz : z ∈ xShelves) (hc : CM own ins st 13 [.ref z, .int x] rest) (h1d : 1 ≤ d) (hn : pc + 3 = n) (kk : Ev d μ n lo (.int (sfrom (sX σ (z + 3)) x) :: rest) σ Q) : Ev d μ pc lo st σ Q := by
  subst hn
  exact ev_Cp own hO hd hc.1 hc.2.1 hc.2.2 h1d (by decide) (k1 := 0) (s1 := 0) (if_pos hz) (evc_i0 kk)
theorem ev_sto {own z : Nat} (hO : mO μ = own) (hd : decode (mC μ) pc = .ok (ins, 3)) (hz : z ∈ xShelves) (hc : CM own ins st 14 [.ref z, .int x] rest) (h1d : 1 ≤ d) (hn : pc + 3 = n) (kk : Ev d μ n lo (.int (sto (sX σ (z + 3)) x) :: rest) σ Q) : Ev d μ pc lo st σ Q := by
  subst hn
  exact ev_Cp own hO hd hc.1 hc.2.1 hc.2.2 h1d (by decide) (k1 := 0) (s1 := 0) (if_pos hz) (evc_i0 kk)
theorem ev_rrem {own z : Nat} (hO : mO μ = own) (hd : decode (mC μ) pc = .ok (ins, 3)) (hz : z ∈ xRows) (hc : CM own ins st 15 [.ref z, .int x, .int y] rest) (h1d : 2 ≤ d) (hn : pc + 3 = n) (kk : Ev d μ n lo rest (uX σ z (sC σ z) (rremL (sX σ z) x y)) Q) : Ev d μ pc lo st σ Q := by
  subst hn
  have h : z ∈ xRows ∧ 1 ≤ d - 1 := ⟨hz, by omega⟩
  exact ev_Cp own hO hd hc.1 hc.2.1 hc.2.2 (by omega) (by decide) (k1 := 0) (s1 := 0) (if_pos h) (evc_v0 kk)
/-- Rules.clear -/
def rcl (σ : SS) : SS := (va_up (sI σ) 24 (va_cpy (tOf [40, 2, 3, 1, 2, 2, 0, 2, 1, 24, 0, 1, 1]) (sI σ 24) 0 0 13), clr (sX σ) [47, 45, 42, 40, 37, 35, 32, 30, 28, 26], σ.2.2)
theorem ev_rules {own : Nat} (hO : mO μ = own) (hd : decode (mC μ) pc = .ok (ins, 3)) (hc : CM own ins st 12 [.ref 23] rest) (h1d : 4 ≤ d) (hn : pc + 3 = n) (kk : Ev d μ n lo rest (rcl σ) Q) : Ev d μ pc lo st σ Q := by
  subst hn
  have h : 23 = 23 ∧ 3 ≤ d - 1 := ⟨rfl, by omega⟩
  exact ev_Cp own hO hd hc.1 hc.2.1 hc.2.2 (by omega) (by decide) (k1 := 0) (s1 := 0) (if_pos h) (evc_v0 kk)
end

section
variable {d μ pc ln n t : Nat} {lo lo2 : ALo} {st st2 rest : List Value} {σ σ2 : SS} {Q Q2 : EQ} {ins : Jvm.ClassFile.Instr} {off : Int} {x y : Int32}
theorem ev_iload_n {i : Fin 4} {j : Nat} {v : Int32} (hd : decode (mC μ) pc = .ok (.iload_n i, 1)) (hj : (i : Nat) = j) (hm : (j, .int v) ∈ lo) (hn : pc + 1 = n) (kk : Ev d μ n lo (.int v :: st) σ Q) : Ev d μ pc lo st σ Q := by
  subst hn hj
  obtain ⟨f, out, σ', kc, ks, hQ, h⟩ := kk
  refine ⟨f + 1, out, σ', kc, ks, hQ, fun f' lo' h1 h2 h3 => ?_⟩
  obtain ⟨m, rfl⟩ : ∃ m, f' = m + 1 := ⟨f' - 1, by omega⟩
  have e : am_P (mL μ) (.iload_n i) 1 pc lo' st = some (pc + 1, lo', .int v :: st) := by
    unfold am_P am_ldi
    dsimp only
    rw [lk_of_mem h3 (h2 hm)]
    dsimp only
    rw [if_pos rfl]
  rw [am_x, hd]
  dsimp only
  rw [e]
  exact h m lo' (by omega) h2 h3
theorem ev_iload {i : Nat} {j : Nat} {v : Int32} (hd : decode (mC μ) pc = .ok (.iload i, 2)) (hj : i = j) (hm : (j, .int v) ∈ lo) (hn : pc + 2 = n) (kk : Ev d μ n lo (.int v :: st) σ Q) : Ev d μ pc lo st σ Q := by
  subst hn hj
  obtain ⟨f, out, σ', kc, ks, hQ, h⟩ := kk
  refine ⟨f + 1, out, σ', kc, ks, hQ, fun f' lo' h1 h2 h3 => ?_⟩
  obtain ⟨m, rfl⟩ : ∃ m, f' = m + 1 := ⟨f' - 1, by omega⟩
  have e : am_P (mL μ) (.iload i) 2 pc lo' st = some (pc + 2, lo', .int v :: st) := by
    unfold am_P am_ldi
    dsimp only
    rw [lk_of_mem h3 (h2 hm)]
    dsimp only
    rw [if_pos rfl]
  rw [am_x, hd]
  dsimp only
  rw [e]
  exact h m lo' (by omega) h2 h3
theorem ev_lload_n {i : Fin 4} {j : Nat} {v : Int64} (hd : decode (mC μ) pc = .ok (.lload_n i, 1)) (hj : (i : Nat) = j) (hm : (j, .long v) ∈ lo) (hn : pc + 1 = n) (kk : Ev d μ n lo (.long v :: st) σ Q) : Ev d μ pc lo st σ Q := by
  subst hn hj
  obtain ⟨f, out, σ', kc, ks, hQ, h⟩ := kk
  refine ⟨f + 1, out, σ', kc, ks, hQ, fun f' lo' h1 h2 h3 => ?_⟩
  obtain ⟨m, rfl⟩ : ∃ m, f' = m + 1 := ⟨f' - 1, by omega⟩
  have e : am_P (mL μ) (.lload_n i) 1 pc lo' st = some (pc + 1, lo', .long v :: st) := by
    unfold am_P am_ldl
    dsimp only
    rw [lk_of_mem h3 (h2 hm)]
    dsimp only
    rw [if_pos rfl]
  rw [am_x, hd]
  dsimp only
  rw [e]
  exact h m lo' (by omega) h2 h3
theorem ev_lload {i : Nat} {j : Nat} {v : Int64} (hd : decode (mC μ) pc = .ok (.lload i, 2)) (hj : i = j) (hm : (j, .long v) ∈ lo) (hn : pc + 2 = n) (kk : Ev d μ n lo (.long v :: st) σ Q) : Ev d μ pc lo st σ Q := by
  subst hn hj
  obtain ⟨f, out, σ', kc, ks, hQ, h⟩ := kk
  refine ⟨f + 1, out, σ', kc, ks, hQ, fun f' lo' h1 h2 h3 => ?_⟩
  obtain ⟨m, rfl⟩ : ∃ m, f' = m + 1 := ⟨f' - 1, by omega⟩
  have e : am_P (mL μ) (.lload i) 2 pc lo' st = some (pc + 2, lo', .long v :: st) := by
    unfold am_P am_ldl
    dsimp only
    rw [lk_of_mem h3 (h2 hm)]
    dsimp only
    rw [if_pos rfl]
  rw [am_x, hd]
  dsimp only
  rw [e]
  exact h m lo' (by omega) h2 h3
theorem ev_aload_n {i : Fin 4} {j : Nat} {v : Nat} (hd : decode (mC μ) pc = .ok (.aload_n i, 1)) (hj : (i : Nat) = j) (hm : (j, .ref v) ∈ lo) (hn : pc + 1 = n) (kk : Ev d μ n lo (.ref v :: st) σ Q) : Ev d μ pc lo st σ Q := by
  subst hn hj
  obtain ⟨f, out, σ', kc, ks, hQ, h⟩ := kk
  refine ⟨f + 1, out, σ', kc, ks, hQ, fun f' lo' h1 h2 h3 => ?_⟩
  obtain ⟨m, rfl⟩ : ∃ m, f' = m + 1 := ⟨f' - 1, by omega⟩
  have e : am_P (mL μ) (.aload_n i) 1 pc lo' st = some (pc + 1, lo', .ref v :: st) := by
    unfold am_P am_lda
    dsimp only
    rw [lk_of_mem h3 (h2 hm)]
    dsimp only
    rw [if_pos rfl]
  rw [am_x, hd]
  dsimp only
  rw [e]
  exact h m lo' (by omega) h2 h3
theorem ev_aload {i : Nat} {j : Nat} {v : Nat} (hd : decode (mC μ) pc = .ok (.aload i, 2)) (hj : i = j) (hm : (j, .ref v) ∈ lo) (hn : pc + 2 = n) (kk : Ev d μ n lo (.ref v :: st) σ Q) : Ev d μ pc lo st σ Q := by
  subst hn hj
  obtain ⟨f, out, σ', kc, ks, hQ, h⟩ := kk
  refine ⟨f + 1, out, σ', kc, ks, hQ, fun f' lo' h1 h2 h3 => ?_⟩
  obtain ⟨m, rfl⟩ : ∃ m, f' = m + 1 := ⟨f' - 1, by omega⟩
  have e : am_P (mL μ) (.aload i) 2 pc lo' st = some (pc + 2, lo', .ref v :: st) := by
    unfold am_P am_lda
    dsimp only
    rw [lk_of_mem h3 (h2 hm)]
    dsimp only
    rw [if_pos rfl]
  rw [am_x, hd]
  dsimp only
  rw [e]
  exact h m lo' (by omega) h2 h3
theorem ev_istore_n {nL : Nat} (hL : mL μ = nL) {i : Fin 4} {j : Nat} {v : Int32} (hd : decode (mC μ) pc = .ok (.istore_n i, 1)) (hj : (i : Nat) = j) (hb : j < nL) (he : am_st lo j (.int v) = lo2) (hn : pc + 1 = n) (kk : Ev d μ n lo2 st σ Q) : Ev d μ pc lo (.int v :: st) σ Q := by
  subst hn hj he
  refine ev_P nL hL hd ?_ kk
  unfold am_P am_sti
  dsimp only
  rw [if_pos ⟨rfl, hb⟩]
theorem ev_istore_nS {nL : Nat} (hL : mL μ = nL) {i : Fin 4} {j : Nat} {v : Int32} (hd : decode (mC μ) pc = .ok (.istore_n i, 1)) (hj : (i : Nat) = j) (hb : j < nL) (hs : lo2 ⊆ am_st lo j (.int v)) (hn : pc + 1 = n) (kk : Ev d μ n lo2 st σ Q) : Ev d μ pc lo (.int v :: st) σ Q := ev_istore_n hL hd hj hb rfl hn (Ev.sub hs kk)
theorem ev_istore {nL : Nat} (hL : mL μ = nL) {i : Nat} {j : Nat} {v : Int32} (hd : decode (mC μ) pc = .ok (.istore i, 2)) (hj : i = j) (hb : j < nL) (he : am_st lo j (.int v) = lo2) (hn : pc + 2 = n) (kk : Ev d μ n lo2 st σ Q) : Ev d μ pc lo (.int v :: st) σ Q := by
  subst hn hj he
  refine ev_P nL hL hd ?_ kk
  unfold am_P am_sti
  dsimp only
  rw [if_pos ⟨rfl, hb⟩]
theorem ev_istoreS {nL : Nat} (hL : mL μ = nL) {i : Nat} {j : Nat} {v : Int32} (hd : decode (mC μ) pc = .ok (.istore i, 2)) (hj : i = j) (hb : j < nL) (hs : lo2 ⊆ am_st lo j (.int v)) (hn : pc + 2 = n) (kk : Ev d μ n lo2 st σ Q) : Ev d μ pc lo (.int v :: st) σ Q := ev_istore hL hd hj hb rfl hn (Ev.sub hs kk)
theorem ev_lstore_n {nL : Nat} (hL : mL μ = nL) {i : Fin 4} {j : Nat} {v : Int64} (hd : decode (mC μ) pc = .ok (.lstore_n i, 1)) (hj : (i : Nat) = j) (hb : j + 1 < nL) (he : am_stL lo j (.long v) = lo2) (hn : pc + 1 = n) (kk : Ev d μ n lo2 st σ Q) : Ev d μ pc lo (.long v :: st) σ Q := by
  subst hn hj he
  refine ev_P nL hL hd ?_ kk
  unfold am_P am_stl
  dsimp only
  rw [if_pos ⟨rfl, hb⟩]
theorem ev_lstore_nS {nL : Nat} (hL : mL μ = nL) {i : Fin 4} {j : Nat} {v : Int64} (hd : decode (mC μ) pc = .ok (.lstore_n i, 1)) (hj : (i : Nat) = j) (hb : j + 1 < nL) (hs : lo2 ⊆ am_stL lo j (.long v)) (hn : pc + 1 = n) (kk : Ev d μ n lo2 st σ Q) : Ev d μ pc lo (.long v :: st) σ Q := ev_lstore_n hL hd hj hb rfl hn (Ev.sub hs kk)
theorem ev_lstore {nL : Nat} (hL : mL μ = nL) {i : Nat} {j : Nat} {v : Int64} (hd : decode (mC μ) pc = .ok (.lstore i, 2)) (hj : i = j) (hb : j + 1 < nL) (he : am_stL lo j (.long v) = lo2) (hn : pc + 2 = n) (kk : Ev d μ n lo2 st σ Q) : Ev d μ pc lo (.long v :: st) σ Q := by
  subst hn hj he
  refine ev_P nL hL hd ?_ kk
  unfold am_P am_stl
  dsimp only
  rw [if_pos ⟨rfl, hb⟩]
theorem ev_lstoreS {nL : Nat} (hL : mL μ = nL) {i : Nat} {j : Nat} {v : Int64} (hd : decode (mC μ) pc = .ok (.lstore i, 2)) (hj : i = j) (hb : j + 1 < nL) (hs : lo2 ⊆ am_stL lo j (.long v)) (hn : pc + 2 = n) (kk : Ev d μ n lo2 st σ Q) : Ev d μ pc lo (.long v :: st) σ Q := ev_lstore hL hd hj hb rfl hn (Ev.sub hs kk)
theorem ev_astore_n {nL : Nat} (hL : mL μ = nL) {i : Fin 4} {j : Nat} {v : Nat} (hd : decode (mC μ) pc = .ok (.astore_n i, 1)) (hj : (i : Nat) = j) (hb : j < nL) (he : am_st lo j (.ref v) = lo2) (hn : pc + 1 = n) (kk : Ev d μ n lo2 st σ Q) : Ev d μ pc lo (.ref v :: st) σ Q := by
  subst hn hj he
  refine ev_P nL hL hd ?_ kk
  unfold am_P am_sta
  dsimp only
  rw [if_pos ⟨rfl, hb⟩]
theorem ev_astore_nS {nL : Nat} (hL : mL μ = nL) {i : Fin 4} {j : Nat} {v : Nat} (hd : decode (mC μ) pc = .ok (.astore_n i, 1)) (hj : (i : Nat) = j) (hb : j < nL) (hs : lo2 ⊆ am_st lo j (.ref v)) (hn : pc + 1 = n) (kk : Ev d μ n lo2 st σ Q) : Ev d μ pc lo (.ref v :: st) σ Q := ev_astore_n hL hd hj hb rfl hn (Ev.sub hs kk)
theorem ev_astore {nL : Nat} (hL : mL μ = nL) {i : Nat} {j : Nat} {v : Nat} (hd : decode (mC μ) pc = .ok (.astore i, 2)) (hj : i = j) (hb : j < nL) (he : am_st lo j (.ref v) = lo2) (hn : pc + 2 = n) (kk : Ev d μ n lo2 st σ Q) : Ev d μ pc lo (.ref v :: st) σ Q := by
  subst hn hj he
  refine ev_P nL hL hd ?_ kk
  unfold am_P am_sta
  dsimp only
  rw [if_pos ⟨rfl, hb⟩]
theorem ev_astoreS {nL : Nat} (hL : mL μ = nL) {i : Nat} {j : Nat} {v : Nat} (hd : decode (mC μ) pc = .ok (.astore i, 2)) (hj : i = j) (hb : j < nL) (hs : lo2 ⊆ am_st lo j (.ref v)) (hn : pc + 2 = n) (kk : Ev d μ n lo2 st σ Q) : Ev d μ pc lo (.ref v :: st) σ Q := ev_astore hL hd hj hb rfl hn (Ev.sub hs kk)
theorem ev_iinc {nL i : Nat} {k : Int} {v w : Int32} (hL : mL μ = nL) (hd : decode (mC μ) pc = .ok (.iinc i k, 3)) (hm : (i, .int v) ∈ lo) (hnd : kn lo) (hb : i < nL) (hw : v + Int32.ofInt k = w) (he : am_st lo i (.int w) = lo2) (hn : pc + 3 = n) (kk : Ev d μ n lo2 st σ Q) : Ev d μ pc lo st σ Q := by
  subst hn he hw
  refine ev_P nL hL hd ?_ kk
  unfold am_P am_inc
  dsimp only
  rw [lk_of_mem hnd hm]
  dsimp only
  rw [if_pos ⟨rfl, hb⟩]
theorem ev_iincS {nL i : Nat} {k : Int} {v w : Int32} (hL : mL μ = nL) (hd : decode (mC μ) pc = .ok (.iinc i k, 3)) (hm : (i, .int v) ∈ lo) (hnd : kn lo) (hb : i < nL) (hw : v + Int32.ofInt k = w) (hs : lo2 ⊆ am_st lo i (.int w)) (hn : pc + 3 = n) (kk : Ev d μ n lo2 st σ Q) : Ev d μ pc lo st σ Q := ev_iinc hL hd hm hnd hb hw rfl hn (Ev.sub hs kk)
theorem ev_iadd (hd : decode (mC μ) pc = .ok (.iadd, 1)) (hn : pc + 1 = n) (kk : Ev d μ n lo (.int (x + y) :: st) σ Q) : Ev d μ pc lo (.int y :: .int x :: st) σ Q := by
  subst hn
  exact ev_P (mL μ) rfl hd (by unfold am_P am_i2; dsimp only; rw [if_pos rfl]) kk
theorem ev_isub (hd : decode (mC μ) pc = .ok (.isub, 1)) (hn : pc + 1 = n) (kk : Ev d μ n lo (.int (x - y) :: st) σ Q) : Ev d μ pc lo (.int y :: .int x :: st) σ Q := by
  subst hn
  exact ev_P (mL μ) rfl hd (by unfold am_P am_i2; dsimp only; rw [if_pos rfl]) kk
theorem ev_imul (hd : decode (mC μ) pc = .ok (.imul, 1)) (hn : pc + 1 = n) (kk : Ev d μ n lo (.int (x * y) :: st) σ Q) : Ev d μ pc lo (.int y :: .int x :: st) σ Q := by
  subst hn
  exact ev_P (mL μ) rfl hd (by unfold am_P am_i2; dsimp only; rw [if_pos rfl]) kk
theorem ev_iand (hd : decode (mC μ) pc = .ok (.iand, 1)) (hn : pc + 1 = n) (kk : Ev d μ n lo (.int (x &&& y) :: st) σ Q) : Ev d μ pc lo (.int y :: .int x :: st) σ Q := by
  subst hn
  exact ev_P (mL μ) rfl hd (by unfold am_P am_i2; dsimp only; rw [if_pos rfl]) kk
theorem ev_ior (hd : decode (mC μ) pc = .ok (.ior, 1)) (hn : pc + 1 = n) (kk : Ev d μ n lo (.int (x ||| y) :: st) σ Q) : Ev d μ pc lo (.int y :: .int x :: st) σ Q := by
  subst hn
  exact ev_P (mL μ) rfl hd (by unfold am_P am_i2; dsimp only; rw [if_pos rfl]) kk
theorem ev_ixor (hd : decode (mC μ) pc = .ok (.ixor, 1)) (hn : pc + 1 = n) (kk : Ev d μ n lo (.int (x ^^^ y) :: st) σ Q) : Ev d μ pc lo (.int y :: .int x :: st) σ Q := by
  subst hn
  exact ev_P (mL μ) rfl hd (by unfold am_P am_i2; dsimp only; rw [if_pos rfl]) kk
theorem ev_ishl (hd : decode (mC μ) pc = .ok (.ishl, 1)) (hn : pc + 1 = n) (kk : Ev d μ n lo (.int (x <<< (y &&& 31)) :: st) σ Q) : Ev d μ pc lo (.int y :: .int x :: st) σ Q := by
  subst hn
  exact ev_P (mL μ) rfl hd (by unfold am_P am_i2; dsimp only; rw [if_pos rfl]) kk
theorem ev_ishr (hd : decode (mC μ) pc = .ok (.ishr, 1)) (hn : pc + 1 = n) (kk : Ev d μ n lo (.int (x >>> (y &&& 31)) :: st) σ Q) : Ev d μ pc lo (.int y :: .int x :: st) σ Q := by
  subst hn
  exact ev_P (mL μ) rfl hd (by unfold am_P am_i2; dsimp only; rw [if_pos rfl]) kk
theorem ev_idiv (hd : decode (mC μ) pc = .ok (.idiv, 1)) (h0 : ¬ y = 0) (hn : pc + 1 = n) (kk : Ev d μ n lo (.int (x / y) :: st) σ Q) : Ev d μ pc lo (.int y :: .int x :: st) σ Q := by
  subst hn
  exact ev_P (mL μ) rfl hd (by unfold am_P am_i2d; dsimp only; rw [if_pos ⟨rfl, h0⟩]) kk
theorem ev_irem (hd : decode (mC μ) pc = .ok (.irem, 1)) (h0 : ¬ y = 0) (hn : pc + 1 = n) (kk : Ev d μ n lo (.int (x - x / y * y) :: st) σ Q) : Ev d μ pc lo (.int y :: .int x :: st) σ Q := by
  subst hn
  exact ev_P (mL μ) rfl hd (by unfold am_P am_i2d; dsimp only; rw [if_pos ⟨rfl, h0⟩]) kk
theorem ev_ineg (hd : decode (mC μ) pc = .ok (.ineg, 1)) (hn : pc + 1 = n) (kk : Ev d μ n lo (.int (-x) :: st) σ Q) : Ev d μ pc lo (.int x :: st) σ Q := by
  subst hn
  exact ev_P (mL μ) rfl hd (by unfold am_P am_i1; dsimp only; rw [if_pos rfl]) kk
theorem ev_i2l (hd : decode (mC μ) pc = .ok (.i2l, 1)) (hn : pc + 1 = n) (kk : Ev d μ n lo (.long x.toInt64 :: st) σ Q) : Ev d μ pc lo (.int x :: st) σ Q := by
  subst hn
  exact ev_P (mL μ) rfl hd (by unfold am_P am_i1; dsimp only; rw [if_pos rfl]) kk
theorem ev_i2b (hd : decode (mC μ) pc = .ok (.i2b, 1)) (hn : pc + 1 = n) (kk : Ev d μ n lo (.int x.toInt8.toInt32 :: st) σ Q) : Ev d μ pc lo (.int x :: st) σ Q := by
  subst hn
  exact ev_P (mL μ) rfl hd (by unfold am_P am_i1; dsimp only; rw [if_pos rfl]) kk
theorem ev_lneg {a : Int64} (hd : decode (mC μ) pc = .ok (.lneg, 1)) (hn : pc + 1 = n) (kk : Ev d μ n lo (.long (-a) :: st) σ Q) : Ev d μ pc lo (.long a :: st) σ Q := by
  subst hn
  exact ev_P (mL μ) rfl hd (by unfold am_P am_l1; dsimp only; rw [if_pos rfl]) kk
theorem ev_l2i {a : Int64} (hd : decode (mC μ) pc = .ok (.l2i, 1)) (hn : pc + 1 = n) (kk : Ev d μ n lo (.int a.toInt32 :: st) σ Q) : Ev d μ pc lo (.long a :: st) σ Q := by
  subst hn
  exact ev_P (mL μ) rfl hd (by unfold am_P am_l1; dsimp only; rw [if_pos rfl]) kk
theorem ev_ladd {a b : Int64} (hd : decode (mC μ) pc = .ok (.ladd, 1)) (hn : pc + 1 = n) (kk : Ev d μ n lo (.long (a + b) :: st) σ Q) : Ev d μ pc lo (.long b :: .long a :: st) σ Q := by
  subst hn
  exact ev_P (mL μ) rfl hd (by unfold am_P am_l2; dsimp only; rw [if_pos rfl]) kk
theorem ev_lsub {a b : Int64} (hd : decode (mC μ) pc = .ok (.lsub, 1)) (hn : pc + 1 = n) (kk : Ev d μ n lo (.long (a - b) :: st) σ Q) : Ev d μ pc lo (.long b :: .long a :: st) σ Q := by
  subst hn
  exact ev_P (mL μ) rfl hd (by unfold am_P am_l2; dsimp only; rw [if_pos rfl]) kk
theorem ev_lmul {a b : Int64} (hd : decode (mC μ) pc = .ok (.lmul, 1)) (hn : pc + 1 = n) (kk : Ev d μ n lo (.long (a * b) :: st) σ Q) : Ev d μ pc lo (.long b :: .long a :: st) σ Q := by
  subst hn
  exact ev_P (mL μ) rfl hd (by unfold am_P am_l2; dsimp only; rw [if_pos rfl]) kk
theorem ev_land {a b : Int64} (hd : decode (mC μ) pc = .ok (.land, 1)) (hn : pc + 1 = n) (kk : Ev d μ n lo (.long (a &&& b) :: st) σ Q) : Ev d μ pc lo (.long b :: .long a :: st) σ Q := by
  subst hn
  exact ev_P (mL μ) rfl hd (by unfold am_P am_l2; dsimp only; rw [if_pos rfl]) kk
theorem ev_lor {a b : Int64} (hd : decode (mC μ) pc = .ok (.lor, 1)) (hn : pc + 1 = n) (kk : Ev d μ n lo (.long (a ||| b) :: st) σ Q) : Ev d μ pc lo (.long b :: .long a :: st) σ Q := by
  subst hn
  exact ev_P (mL μ) rfl hd (by unfold am_P am_l2; dsimp only; rw [if_pos rfl]) kk
theorem ev_ldiv {a b : Int64} (hd : decode (mC μ) pc = .ok (.ldiv, 1)) (h0 : ¬ b = 0) (hn : pc + 1 = n) (kk : Ev d μ n lo (.long (a / b) :: st) σ Q) : Ev d μ pc lo (.long b :: .long a :: st) σ Q := by
  subst hn
  exact ev_P (mL μ) rfl hd (by unfold am_P am_l2d; dsimp only; rw [if_pos ⟨rfl, h0⟩]) kk
theorem ev_lrem {a b : Int64} (hd : decode (mC μ) pc = .ok (.lrem, 1)) (h0 : ¬ b = 0) (hn : pc + 1 = n) (kk : Ev d μ n lo (.long (a - a / b * b) :: st) σ Q) : Ev d μ pc lo (.long b :: .long a :: st) σ Q := by
  subst hn
  exact ev_P (mL μ) rfl hd (by unfold am_P am_l2d; dsimp only; rw [if_pos ⟨rfl, h0⟩]) kk
theorem ev_lshl {a : Int64} (hd : decode (mC μ) pc = .ok (.lshl, 1)) (hn : pc + 1 = n) (kk : Ev d μ n lo (.long (a <<< (y.toInt64 &&& 63)) :: st) σ Q) : Ev d μ pc lo (.int y :: .long a :: st) σ Q := by
  subst hn
  exact ev_P (mL μ) rfl hd (by unfold am_P am_ls; dsimp only; rw [if_pos rfl]) kk
theorem ev_lshr {a : Int64} (hd : decode (mC μ) pc = .ok (.lshr, 1)) (hn : pc + 1 = n) (kk : Ev d μ n lo (.long (a >>> (y.toInt64 &&& 63)) :: st) σ Q) : Ev d μ pc lo (.int y :: .long a :: st) σ Q := by
  subst hn
  exact ev_P (mL μ) rfl hd (by unfold am_P am_ls; dsimp only; rw [if_pos rfl]) kk
theorem ev_lushr {a : Int64} (hd : decode (mC μ) pc = .ok (.lushr, 1)) (hn : pc + 1 = n) (kk : Ev d μ n lo (.long ((a.toUInt64 >>> (y.toInt64.toUInt64 &&& Int64.toUInt64 63)).toInt64) :: st) σ Q) : Ev d μ pc lo (.int y :: .long a :: st) σ Q := by
  subst hn
  exact ev_P (mL μ) rfl hd (by unfold am_P am_ls; dsimp only; rw [if_pos rfl]) kk
theorem ev_lcmp {a b : Int64} (hd : decode (mC μ) pc = .ok (.lcmp, 1)) (hn : pc + 1 = n) (kk : Ev d μ n lo (.int (lg_cmp a b) :: st) σ Q) : Ev d μ pc lo (.long b :: .long a :: st) σ Q := by
  subst hn
  exact ev_P (mL μ) rfl hd (by unfold am_P; dsimp only; rw [if_pos rfl]) kk
theorem ev_lconst {c : Fin 2} {v : Int64} (hd : decode (mC μ) pc = .ok (.lconst c, 1)) (hv : Int64.ofNat (c : Nat) = v) (hn : pc + 1 = n) (kk : Ev d μ n lo (.long v :: st) σ Q) : Ev d μ pc lo st σ Q := by
  subst hn hv
  exact ev_P (mL μ) rfl hd (by unfold am_P; dsimp only; rw [if_pos rfl]) kk
theorem ev_dup {a : Value} (hd : decode (mC μ) pc = .ok (.dup, 1)) (hc : a.category = 1) (hn : pc + 1 = n) (kk : Ev d μ n lo (a :: a :: st) σ Q) : Ev d μ pc lo (a :: st) σ Q := by
  subst hn
  exact ev_P (mL μ) rfl hd (by unfold am_P; dsimp only; rw [if_pos ⟨rfl, hc⟩]) kk
theorem ev_pop {a : Value} (hd : decode (mC μ) pc = .ok (.pop, 1)) (hc : a.category = 1) (hn : pc + 1 = n) (kk : Ev d μ n lo st σ Q) : Ev d μ pc lo (a :: st) σ Q := by
  subst hn
  exact ev_P (mL μ) rfl hd (by unfold am_P; dsimp only; rw [if_pos ⟨rfl, hc⟩]) kk
theorem ev_dup2 {a b : Value} (hd : decode (mC μ) pc = .ok (.dup2, 1)) (hc : a.category = 1) (hb : b.category = 1) (hn : pc + 1 = n) (kk : Ev d μ n lo (a :: b :: a :: b :: st) σ Q) : Ev d μ pc lo (a :: b :: st) σ Q := by
  subst hn
  exact ev_P (mL μ) rfl hd (by unfold am_P; dsimp only; rw [if_pos ⟨rfl, hc, hb⟩]) kk
theorem ev_dup_x1 {a b : Value} (hd : decode (mC μ) pc = .ok (.dup_x1, 1)) (hc : a.category = 1) (hb : b.category = 1) (hn : pc + 1 = n) (kk : Ev d μ n lo (a :: b :: a :: st) σ Q) : Ev d μ pc lo (a :: b :: st) σ Q := by
  subst hn
  exact ev_P (mL μ) rfl hd (by unfold am_P; dsimp only; rw [if_pos ⟨rfl, hc, hb⟩]) kk
theorem ev_goto (hd : decode (mC μ) pc = .ok (.goto off, 3)) (hj : am_j pc off = some t) (kk : Ev d μ t lo st σ Q) : Ev d μ pc lo st σ Q :=
  ev_P (mL μ) rfl hd (by unfold am_P am_to; dsimp only; rw [if_pos rfl, hj]) kk
theorem aj (h : (pc : Int) + off = (t : Int)) : am_j pc off = some t := by
  unfold am_j
  rw [if_pos (by omega), h]
  rfl
theorem kn_of {ks : List Nat} (h : lo.map Prod.fst = ks) (hk : ks.Nodup) : kn lo := by unfold kn; rw [h]; exact hk
theorem ev_min {own idx : Nat} (hO : mO μ = own) (hd : decode (mC μ) pc = .ok (.invokestatic idx, 3)) (hm : (mmT own).find? (fun q => q.1 == idx) = some (idx, 0)) (hr : (st.map fun v => v.category).sum ≤ 8) (h1d : 1 ≤ d) (hn : pc + 3 = n) (kk : Ev d μ n lo (.int (if y < x then y else x) :: st) σ Q) : Ev d μ pc lo (.int y :: .int x :: st) σ Q := by
  subst hn
  refine ev_M own hO hd ?_ h1d kk
  unfold am_M
  dsimp only
  rw [hm]
  dsimp only
  rw [if_pos ⟨rfl, hr⟩, if_pos rfl]
theorem ev_max {own idx : Nat} (hO : mO μ = own) (hd : decode (mC μ) pc = .ok (.invokestatic idx, 3)) (hm : (mmT own).find? (fun q => q.1 == idx) = some (idx, 1)) (hr : (st.map fun v => v.category).sum ≤ 8) (h1d : 1 ≤ d) (hn : pc + 3 = n) (kk : Ev d μ n lo (.int (if x < y then y else x) :: st) σ Q) : Ev d μ pc lo (.int y :: .int x :: st) σ Q := by
  subst hn
  refine ev_M own hO hd ?_ h1d kk
  unfold am_M
  dsimp only
  rw [hm]
  dsimp only
  rw [if_pos ⟨rfl, hr⟩, if_neg (by decide)]
theorem cm_n {own idx ν : Nat} {st As rest : List Value} (hmm : (mmT own).find? (fun q => q.1 == idx) = none) (hm0 : am_ml own idx = none) (hm : am_mn own idx = some ν) (hk : mK ν = 1) (hA : As.length = mA ν) (hr : (rest.map fun v => v.category).sum ≤ 8) (he : st = As ++ rest) : CM own (.invokestatic idx) st ν As.reverse rest := by
  subst he
  refine ⟨rfl, ?_, ?_⟩
  · unfold am_M
    dsimp only
    split
    · rw [hmm]
    · rfl
  · unfold am_C
    dsimp only
    rw [hm0]
    dsimp only
    rw [hm]
    dsimp only
    rw [← hA, List.drop_left, List.take_left]
    rw [if_pos ⟨rfl, hk, rfl, hr⟩]
theorem ne352 {z : Nat} (h : 353 ≤ z) : ¬ z = 352 := by omega
theorem am_ar_hi {z : Nat} (h : 353 ≤ z) : am_ar z = none := by
  unfold am_ar
  rw [if_neg (by omega), if_neg (by omega)]
theorem ev_gets {own idx j : Nat} (hO : mO μ = own) (hd : decode (mC μ) pc = .ok (.getstatic idx, 3)) (hg : am_tf (gsT own) idx = some j) (h5d : 5 ≤ d) (hn : pc + 3 = n) (kk : Ev d μ n lo (.ref (353 + j) :: st) σ Q) : Ev d μ pc lo (st) σ Q := by
  subst hn
  refine ev_S own hO hd rfl rfl rfl rfl rfl rfl ?_ h5d kk
  · unfold am_S
    dsimp only
    rw [hg]
    dsimp only
    rw [if_pos rfl]
theorem ev_ldcs {own idx j : Nat} (hO : mO μ = own) (hd : decode (mC μ) pc = .ok (.ldc idx, 2)) (hk : am_k (ckT own) idx = none) (hg : am_tf (srT own) idx = some j) (h5d : 5 ≤ d) (hn : pc + 2 = n) (kk : Ev d μ n lo (.ref (360 + j) :: st) σ Q) : Ev d μ pc lo (st) σ Q := by
  subst hn
  refine ev_S own hO hd rfl ?_ rfl rfl rfl rfl ?_ h5d kk
  · unfold am_H
    dsimp only
    rw [if_pos rfl, hk]
  · unfold am_S
    dsimp only
    rw [hg]
    dsimp only
    rw [if_pos rfl]
theorem ev_ldcw {own idx j : Nat} (hO : mO μ = own) (hd : decode (mC μ) pc = .ok (.ldc_w idx, 3)) (hk : am_k (ckT own) idx = none) (hg : am_tf (srT own) idx = some j) (h5d : 5 ≤ d) (hn : pc + 3 = n) (kk : Ev d μ n lo (.ref (360 + j) :: st) σ Q) : Ev d μ pc lo (st) σ Q := by
  subst hn
  refine ev_S own hO hd rfl ?_ rfl rfl rfl rfl ?_ h5d kk
  · unfold am_H
    dsimp only
    rw [if_pos rfl, hk]
  · unfold am_S
    dsimp only
    rw [hg]
    dsimp only
    rw [if_pos rfl]
theorem ev_sti {own z : Nat} {i : Int32} (hO : mO μ = own) (hd : decode (mC μ) pc = .ok (.iaload, 1)) (hz : 353 ≤ z ∧ z < 358) (hb : am_bl i (stL (z - 353)) = true) (h5d : 5 ≤ d) (hn : pc + 1 = n) (kk : Ev d μ n lo (.int ((stF.getD (z - 353) []).getD i.toNatClampNeg 0) :: st) σ Q) : Ev d μ pc lo (.int i :: .ref z :: st) σ Q := by
  subst hn
  refine ev_S own hO hd rfl ?_ rfl rfl rfl rfl ?_ h5d kk
  · unfold am_H am_iald
    dsimp only
    rw [if_pos rfl, if_neg (ne352 hz.1), am_ar_hi hz.1]
  · unfold am_S
    dsimp only
    rw [if_pos ⟨rfl, hz.1, hz.2, hb⟩]
theorem ev_stl {own z : Nat} (hO : mO μ = own) (hd : decode (mC μ) pc = .ok (.arraylength, 1)) (hz : 353 ≤ z ∧ z < 358) (h5d : 5 ≤ d) (hn : pc + 1 = n) (kk : Ev d μ n lo (.int (nI (stL (z - 353))) :: st) σ Q) : Ev d μ pc lo (.ref z :: st) σ Q := by
  subst hn
  refine ev_S own hO hd rfl ?_ rfl rfl rfl rfl ?_ h5d kk
  · unfold am_H am_alen
    dsimp only
    rw [if_pos rfl, if_neg (ne352 hz.1), am_ar_hi hz.1]
  · unfold am_S
    dsimp only
    rw [if_pos ⟨rfl, hz.1, hz.2⟩]
theorem ev_slen9 {own idx z : Nat} (hO : mO μ = own) (hd : decode (mC μ) pc = .ok (.invokevirtual idx, 3)) (hm : am_ml own idx = none) (hg : am_tf (slT own) idx = some 0) (hz : 360 ≤ z ∧ z < 371) (hr : (st.map fun v => v.category).sum ≤ 8) (h5d : 5 ≤ d) (hn : pc + 3 = n) (kk : Ev d μ n lo (.int (nI (strLn.getD (z - 360) 0)) :: st) σ Q) : Ev d μ pc lo (.ref z :: st) σ Q := by
  subst hn
  refine ev_S own hO hd rfl rfl rfl rfl rfl ?_ ?_ h5d kk
  · unfold am_C
    dsimp only
    rw [hm]
  · unfold am_S
    dsimp only
    rw [hg]
    exact if_pos ⟨rfl, hz.1, hz.2, hr⟩
theorem ev_scha {own idx z : Nat} {i : Int32} (hO : mO μ = own) (hd : decode (mC μ) pc = .ok (.invokevirtual idx, 3)) (hm : am_ml own idx = none) (hg : am_tf (slT own) idx = some 1) (hz : 360 ≤ z ∧ z < 371) (hb : am_bl i (strLn.getD (z - 360) 0) = true) (hr : (st.map fun v => v.category).sum ≤ 8) (h5d : 5 ≤ d) (hn : pc + 3 = n) (kk : Ev d μ n lo (.int (strC (z - 360) i.toNatClampNeg) :: st) σ Q) : Ev d μ pc lo (.int i :: .ref z :: st) σ Q := by
  subst hn
  refine ev_S own hO hd rfl rfl rfl rfl rfl ?_ ?_ h5d kk
  · unfold am_C
    dsimp only
    rw [hm]
  · unfold am_S
    dsimp only
    rw [hg]
    exact if_pos ⟨rfl, hz.1, hz.2, hb, hr⟩
theorem ev_fmod {own idx q : Nat} (hO : mO μ = own) (hd : decode (mC μ) pc = .ok (.invokestatic idx, 3)) (hmm : (mmT own).find? (fun q => q.1 == idx) = none) (hm : am_ml own idx = none) (hm2 : am_mn own idx = none) (hg : am_tf (fmT own) idx = some q) (hy : ¬ y = 0) (hr : (st.map fun v => v.category).sum ≤ 8) (h5d : 5 ≤ d) (hn : pc + 3 = n) (kk : Ev d μ n lo (.int (fmod x y) :: st) σ Q) : Ev d μ pc lo (.int y :: .int x :: st) σ Q := by
  subst hn
  refine ev_S own hO hd rfl rfl rfl rfl ?_ ?_ ?_ h5d kk
  · unfold am_M
    dsimp only
    rw [hmm]
  · unfold am_C
    dsimp only
    rw [hm]
    dsimp only
    rw [hm2]
  · unfold am_S
    dsimp only
    rw [hg]
    dsimp only
    rw [if_pos ⟨rfl, hy, hr⟩]
theorem cm_v0 {own idx ν z : Nat} (hm : am_ml own idx = some ν) (hk : mK ν = 0 ∨ mK ν = 2) (hA : 0 = mA ν) (hz : am_cls z = some (mO ν)) (hr : (rest.map fun v => v.category).sum ≤ 8) : CM own (.invokevirtual idx) (.ref z :: rest) ν [.ref z] rest := cm_v (As := []) hm hk hA hz hr rfl
theorem cm_s0 {own idx ν : Nat} (hmm : (mmT own).find? (fun q => q.1 == idx) = none) (hm : am_ml own idx = some ν) (hk : mK ν = 1 ∨ mK ν = 3) (hA : 0 = mA ν) (hr : (rest.map fun v => v.category).sum ≤ 8) : CM own (.invokestatic idx) (rest) ν [] rest := cm_s (As := []) hmm hm hk hA hr rfl
theorem cm_v1 {own idx ν z : Nat} {a : Value} (hm : am_ml own idx = some ν) (hk : mK ν = 0 ∨ mK ν = 2) (hA : 1 = mA ν) (hz : am_cls z = some (mO ν)) (hr : (rest.map fun v => v.category).sum ≤ 8) : CM own (.invokevirtual idx) (a :: .ref z :: rest) ν [.ref z, a] rest := cm_v (As := [a]) hm hk hA hz hr rfl
theorem cm_s1 {own idx ν : Nat} {a : Value} (hmm : (mmT own).find? (fun q => q.1 == idx) = none) (hm : am_ml own idx = some ν) (hk : mK ν = 1 ∨ mK ν = 3) (hA : 1 = mA ν) (hr : (rest.map fun v => v.category).sum ≤ 8) : CM own (.invokestatic idx) (a :: rest) ν [a] rest := cm_s (As := [a]) hmm hm hk hA hr rfl
theorem cm_v2 {own idx ν z : Nat} {a b : Value} (hm : am_ml own idx = some ν) (hk : mK ν = 0 ∨ mK ν = 2) (hA : 2 = mA ν) (hz : am_cls z = some (mO ν)) (hr : (rest.map fun v => v.category).sum ≤ 8) : CM own (.invokevirtual idx) (a :: b :: .ref z :: rest) ν [.ref z, b, a] rest := cm_v (As := [a, b]) hm hk hA hz hr rfl
theorem cm_s2 {own idx ν : Nat} {a b : Value} (hmm : (mmT own).find? (fun q => q.1 == idx) = none) (hm : am_ml own idx = some ν) (hk : mK ν = 1 ∨ mK ν = 3) (hA : 2 = mA ν) (hr : (rest.map fun v => v.category).sum ≤ 8) : CM own (.invokestatic idx) (a :: b :: rest) ν [b, a] rest := cm_s (As := [a, b]) hmm hm hk hA hr rfl
theorem cm_v3 {own idx ν z : Nat} {a b c : Value} (hm : am_ml own idx = some ν) (hk : mK ν = 0 ∨ mK ν = 2) (hA : 3 = mA ν) (hz : am_cls z = some (mO ν)) (hr : (rest.map fun v => v.category).sum ≤ 8) : CM own (.invokevirtual idx) (a :: b :: c :: .ref z :: rest) ν [.ref z, c, b, a] rest := cm_v (As := [a, b, c]) hm hk hA hz hr rfl
theorem cm_s3 {own idx ν : Nat} {a b c : Value} (hmm : (mmT own).find? (fun q => q.1 == idx) = none) (hm : am_ml own idx = some ν) (hk : mK ν = 1 ∨ mK ν = 3) (hA : 3 = mA ν) (hr : (rest.map fun v => v.category).sum ≤ 8) : CM own (.invokestatic idx) (a :: b :: c :: rest) ν [c, b, a] rest := cm_s (As := [a, b, c]) hmm hm hk hA hr rfl
theorem cm_v4 {own idx ν z : Nat} {a b c e : Value} (hm : am_ml own idx = some ν) (hk : mK ν = 0 ∨ mK ν = 2) (hA : 4 = mA ν) (hz : am_cls z = some (mO ν)) (hr : (rest.map fun v => v.category).sum ≤ 8) : CM own (.invokevirtual idx) (a :: b :: c :: e :: .ref z :: rest) ν [.ref z, e, c, b, a] rest := cm_v (As := [a, b, c, e]) hm hk hA hz hr rfl
theorem cm_s4 {own idx ν : Nat} {a b c e : Value} (hmm : (mmT own).find? (fun q => q.1 == idx) = none) (hm : am_ml own idx = some ν) (hk : mK ν = 1 ∨ mK ν = 3) (hA : 4 = mA ν) (hr : (rest.map fun v => v.category).sum ≤ 8) : CM own (.invokestatic idx) (a :: b :: c :: e :: rest) ν [e, c, b, a] rest := cm_s (As := [a, b, c, e]) hmm hm hk hA hr rfl
theorem cm_v5 {own idx ν z : Nat} {a b c e f : Value} (hm : am_ml own idx = some ν) (hk : mK ν = 0 ∨ mK ν = 2) (hA : 5 = mA ν) (hz : am_cls z = some (mO ν)) (hr : (rest.map fun v => v.category).sum ≤ 8) : CM own (.invokevirtual idx) (a :: b :: c :: e :: f :: .ref z :: rest) ν [.ref z, f, e, c, b, a] rest := cm_v (As := [a, b, c, e, f]) hm hk hA hz hr rfl
theorem cm_s5 {own idx ν : Nat} {a b c e f : Value} (hmm : (mmT own).find? (fun q => q.1 == idx) = none) (hm : am_ml own idx = some ν) (hk : mK ν = 1 ∨ mK ν = 3) (hA : 5 = mA ν) (hr : (rest.map fun v => v.category).sum ≤ 8) : CM own (.invokestatic idx) (a :: b :: c :: e :: f :: rest) ν [f, e, c, b, a] rest := cm_s (As := [a, b, c, e, f]) hmm hm hk hA hr rfl
theorem cm_v6 {own idx ν z : Nat} {a b c e f g : Value} (hm : am_ml own idx = some ν) (hk : mK ν = 0 ∨ mK ν = 2) (hA : 6 = mA ν) (hz : am_cls z = some (mO ν)) (hr : (rest.map fun v => v.category).sum ≤ 8) : CM own (.invokevirtual idx) (a :: b :: c :: e :: f :: g :: .ref z :: rest) ν [.ref z, g, f, e, c, b, a] rest := cm_v (As := [a, b, c, e, f, g]) hm hk hA hz hr rfl
theorem cm_s6 {own idx ν : Nat} {a b c e f g : Value} (hmm : (mmT own).find? (fun q => q.1 == idx) = none) (hm : am_ml own idx = some ν) (hk : mK ν = 1 ∨ mK ν = 3) (hA : 6 = mA ν) (hr : (rest.map fun v => v.category).sum ≤ 8) : CM own (.invokestatic idx) (a :: b :: c :: e :: f :: g :: rest) ν [g, f, e, c, b, a] rest := cm_s (As := [a, b, c, e, f, g]) hmm hm hk hA hr rfl
end
theorem m0 {a0 : Nat × Value} {l : ALo} : a0 ∈ a0 :: l := .head _
theorem m1 {a0 a1 : Nat × Value} {l : ALo} : a1 ∈ a0 :: a1 :: l := .tail _ (.head _)
theorem m2 {a0 a1 a2 : Nat × Value} {l : ALo} : a2 ∈ a0 :: a1 :: a2 :: l := .tail _ (.tail _ (.head _))
theorem m3 {a0 a1 a2 a3 : Nat × Value} {l : ALo} : a3 ∈ a0 :: a1 :: a2 :: a3 :: l := .tail _ (.tail _ (.tail _ (.head _)))
theorem m4 {a0 a1 a2 a3 a4 : Nat × Value} {l : ALo} : a4 ∈ a0 :: a1 :: a2 :: a3 :: a4 :: l := .tail _ (.tail _ (.tail _ (.tail _ (.head _))))
theorem m5 {a0 a1 a2 a3 a4 a5 : Nat × Value} {l : ALo} : a5 ∈ a0 :: a1 :: a2 :: a3 :: a4 :: a5 :: l := .tail _ (.tail _ (.tail _ (.tail _ (.tail _ (.head _)))))
theorem m6 {a0 a1 a2 a3 a4 a5 a6 : Nat × Value} {l : ALo} : a6 ∈ a0 :: a1 :: a2 :: a3 :: a4 :: a5 :: a6 :: l := .tail _ (.tail _ (.tail _ (.tail _ (.tail _ (.tail _ (.head _))))))
theorem m7 {a0 a1 a2 a3 a4 a5 a6 a7 : Nat × Value} {l : ALo} : a7 ∈ a0 :: a1 :: a2 :: a3 :: a4 :: a5 :: a6 :: a7 :: l := .tail _ (.tail _ (.tail _ (.tail _ (.tail _ (.tail _ (.tail _ (.head _)))))))
theorem m8 {a0 a1 a2 a3 a4 a5 a6 a7 a8 : Nat × Value} {l : ALo} : a8 ∈ a0 :: a1 :: a2 :: a3 :: a4 :: a5 :: a6 :: a7 :: a8 :: l := .tail _ (.tail _ (.tail _ (.tail _ (.tail _ (.tail _ (.tail _ (.tail _ (.head _))))))))
theorem m9 {a0 a1 a2 a3 a4 a5 a6 a7 a8 a9 : Nat × Value} {l : ALo} : a9 ∈ a0 :: a1 :: a2 :: a3 :: a4 :: a5 :: a6 :: a7 :: a8 :: a9 :: l := .tail _ (.tail _ (.tail _ (.tail _ (.tail _ (.tail _ (.tail _ (.tail _ (.tail _ (.head _)))))))))
theorem m10 {a0 a1 a2 a3 a4 a5 a6 a7 a8 a9 a10 : Nat × Value} {l : ALo} : a10 ∈ a0 :: a1 :: a2 :: a3 :: a4 :: a5 :: a6 :: a7 :: a8 :: a9 :: a10 :: l := .tail _ (.tail _ (.tail _ (.tail _ (.tail _ (.tail _ (.tail _ (.tail _ (.tail _ (.tail _ (.head _))))))))))
theorem m11 {a0 a1 a2 a3 a4 a5 a6 a7 a8 a9 a10 a11 : Nat × Value} {l : ALo} : a11 ∈ a0 :: a1 :: a2 :: a3 :: a4 :: a5 :: a6 :: a7 :: a8 :: a9 :: a10 :: a11 :: l := .tail _ (.tail _ (.tail _ (.tail _ (.tail _ (.tail _ (.tail _ (.tail _ (.tail _ (.tail _ (.tail _ (.head _)))))))))))
theorem m12 {a0 a1 a2 a3 a4 a5 a6 a7 a8 a9 a10 a11 a12 : Nat × Value} {l : ALo} : a12 ∈ a0 :: a1 :: a2 :: a3 :: a4 :: a5 :: a6 :: a7 :: a8 :: a9 :: a10 :: a11 :: a12 :: l := .tail _ (.tail _ (.tail _ (.tail _ (.tail _ (.tail _ (.tail _ (.tail _ (.tail _ (.tail _ (.tail _ (.tail _ (.head _))))))))))))
theorem m13 {a0 a1 a2 a3 a4 a5 a6 a7 a8 a9 a10 a11 a12 a13 : Nat × Value} {l : ALo} : a13 ∈ a0 :: a1 :: a2 :: a3 :: a4 :: a5 :: a6 :: a7 :: a8 :: a9 :: a10 :: a11 :: a12 :: a13 :: l := .tail _ (.tail _ (.tail _ (.tail _ (.tail _ (.tail _ (.tail _ (.tail _ (.tail _ (.tail _ (.tail _ (.tail _ (.tail _ (.head _)))))))))))))
theorem m14 {a0 a1 a2 a3 a4 a5 a6 a7 a8 a9 a10 a11 a12 a13 a14 : Nat × Value} {l : ALo} : a14 ∈ a0 :: a1 :: a2 :: a3 :: a4 :: a5 :: a6 :: a7 :: a8 :: a9 :: a10 :: a11 :: a12 :: a13 :: a14 :: l := .tail _ (.tail _ (.tail _ (.tail _ (.tail _ (.tail _ (.tail _ (.tail _ (.tail _ (.tail _ (.tail _ (.tail _ (.tail _ (.tail _ (.head _))))))))))))))
theorem m15 {a0 a1 a2 a3 a4 a5 a6 a7 a8 a9 a10 a11 a12 a13 a14 a15 : Nat × Value} {l : ALo} : a15 ∈ a0 :: a1 :: a2 :: a3 :: a4 :: a5 :: a6 :: a7 :: a8 :: a9 :: a10 :: a11 :: a12 :: a13 :: a14 :: a15 :: l := .tail _ (.tail _ (.tail _ (.tail _ (.tail _ (.tail _ (.tail _ (.tail _ (.tail _ (.tail _ (.tail _ (.tail _ (.tail _ (.tail _ (.tail _ (.head _)))))))))))))))
theorem m16 {a0 a1 a2 a3 a4 a5 a6 a7 a8 a9 a10 a11 a12 a13 a14 a15 a16 : Nat × Value} {l : ALo} : a16 ∈ a0 :: a1 :: a2 :: a3 :: a4 :: a5 :: a6 :: a7 :: a8 :: a9 :: a10 :: a11 :: a12 :: a13 :: a14 :: a15 :: a16 :: l := .tail _ (.tail _ (.tail _ (.tail _ (.tail _ (.tail _ (.tail _ (.tail _ (.tail _ (.tail _ (.tail _ (.tail _ (.tail _ (.tail _ (.tail _ (.tail _ (.head _))))))))))))))))
theorem m17 {a0 a1 a2 a3 a4 a5 a6 a7 a8 a9 a10 a11 a12 a13 a14 a15 a16 a17 : Nat × Value} {l : ALo} : a17 ∈ a0 :: a1 :: a2 :: a3 :: a4 :: a5 :: a6 :: a7 :: a8 :: a9 :: a10 :: a11 :: a12 :: a13 :: a14 :: a15 :: a16 :: a17 :: l := .tail _ (.tail _ (.tail _ (.tail _ (.tail _ (.tail _ (.tail _ (.tail _ (.tail _ (.tail _ (.tail _ (.tail _ (.tail _ (.tail _ (.tail _ (.tail _ (.tail _ (.head _)))))))))))))))))
theorem m18 {a0 a1 a2 a3 a4 a5 a6 a7 a8 a9 a10 a11 a12 a13 a14 a15 a16 a17 a18 : Nat × Value} {l : ALo} : a18 ∈ a0 :: a1 :: a2 :: a3 :: a4 :: a5 :: a6 :: a7 :: a8 :: a9 :: a10 :: a11 :: a12 :: a13 :: a14 :: a15 :: a16 :: a17 :: a18 :: l := .tail _ (.tail _ (.tail _ (.tail _ (.tail _ (.tail _ (.tail _ (.tail _ (.tail _ (.tail _ (.tail _ (.tail _ (.tail _ (.tail _ (.tail _ (.tail _ (.tail _ (.tail _ (.head _))))))))))))))))))
theorem m19 {a0 a1 a2 a3 a4 a5 a6 a7 a8 a9 a10 a11 a12 a13 a14 a15 a16 a17 a18 a19 : Nat × Value} {l : ALo} : a19 ∈ a0 :: a1 :: a2 :: a3 :: a4 :: a5 :: a6 :: a7 :: a8 :: a9 :: a10 :: a11 :: a12 :: a13 :: a14 :: a15 :: a16 :: a17 :: a18 :: a19 :: l := .tail _ (.tail _ (.tail _ (.tail _ (.tail _ (.tail _ (.tail _ (.tail _ (.tail _ (.tail _ (.tail _ (.tail _ (.tail _ (.tail _ (.tail _ (.tail _ (.tail _ (.tail _ (.tail _ (.head _)))))))))))))))))))
theorem sb1 {a0 : Nat × Value} {l : ALo} (h0 : a0 ∈ l) : [a0] ⊆ l := List.cons_subset.mpr ⟨h0, List.nil_subset _⟩
theorem sb2 {a0 a1 : Nat × Value} {l : ALo} (h0 : a0 ∈ l) (h1 : a1 ∈ l) : [a0, a1] ⊆ l := List.cons_subset.mpr ⟨h0, List.cons_subset.mpr ⟨h1, List.nil_subset _⟩⟩
theorem sb3 {a0 a1 a2 : Nat × Value} {l : ALo} (h0 : a0 ∈ l) (h1 : a1 ∈ l) (h2 : a2 ∈ l) : [a0, a1, a2] ⊆ l := List.cons_subset.mpr ⟨h0, List.cons_subset.mpr ⟨h1, List.cons_subset.mpr ⟨h2, List.nil_subset _⟩⟩⟩
theorem sb4 {a0 a1 a2 a3 : Nat × Value} {l : ALo} (h0 : a0 ∈ l) (h1 : a1 ∈ l) (h2 : a2 ∈ l) (h3 : a3 ∈ l) : [a0, a1, a2, a3] ⊆ l := List.cons_subset.mpr ⟨h0, List.cons_subset.mpr ⟨h1, List.cons_subset.mpr ⟨h2, List.cons_subset.mpr ⟨h3, List.nil_subset _⟩⟩⟩⟩
theorem sb5 {a0 a1 a2 a3 a4 : Nat × Value} {l : ALo} (h0 : a0 ∈ l) (h1 : a1 ∈ l) (h2 : a2 ∈ l) (h3 : a3 ∈ l) (h4 : a4 ∈ l) : [a0, a1, a2, a3, a4] ⊆ l := List.cons_subset.mpr ⟨h0, List.cons_subset.mpr ⟨h1, List.cons_subset.mpr ⟨h2, List.cons_subset.mpr ⟨h3, List.cons_subset.mpr ⟨h4, List.nil_subset _⟩⟩⟩⟩⟩
theorem sb6 {a0 a1 a2 a3 a4 a5 : Nat × Value} {l : ALo} (h0 : a0 ∈ l) (h1 : a1 ∈ l) (h2 : a2 ∈ l) (h3 : a3 ∈ l) (h4 : a4 ∈ l) (h5 : a5 ∈ l) : [a0, a1, a2, a3, a4, a5] ⊆ l := List.cons_subset.mpr ⟨h0, List.cons_subset.mpr ⟨h1, List.cons_subset.mpr ⟨h2, List.cons_subset.mpr ⟨h3, List.cons_subset.mpr ⟨h4, List.cons_subset.mpr ⟨h5, List.nil_subset _⟩⟩⟩⟩⟩⟩
theorem sb7 {a0 a1 a2 a3 a4 a5 a6 : Nat × Value} {l : ALo} (h0 : a0 ∈ l) (h1 : a1 ∈ l) (h2 : a2 ∈ l) (h3 : a3 ∈ l) (h4 : a4 ∈ l) (h5 : a5 ∈ l) (h6 : a6 ∈ l) : [a0, a1, a2, a3, a4, a5, a6] ⊆ l := List.cons_subset.mpr ⟨h0, List.cons_subset.mpr ⟨h1, List.cons_subset.mpr ⟨h2, List.cons_subset.mpr ⟨h3, List.cons_subset.mpr ⟨h4, List.cons_subset.mpr ⟨h5, List.cons_subset.mpr ⟨h6, List.nil_subset _⟩⟩⟩⟩⟩⟩⟩
theorem sb8 {a0 a1 a2 a3 a4 a5 a6 a7 : Nat × Value} {l : ALo} (h0 : a0 ∈ l) (h1 : a1 ∈ l) (h2 : a2 ∈ l) (h3 : a3 ∈ l) (h4 : a4 ∈ l) (h5 : a5 ∈ l) (h6 : a6 ∈ l) (h7 : a7 ∈ l) : [a0, a1, a2, a3, a4, a5, a6, a7] ⊆ l := List.cons_subset.mpr ⟨h0, List.cons_subset.mpr ⟨h1, List.cons_subset.mpr ⟨h2, List.cons_subset.mpr ⟨h3, List.cons_subset.mpr ⟨h4, List.cons_subset.mpr ⟨h5, List.cons_subset.mpr ⟨h6, List.cons_subset.mpr ⟨h7, List.nil_subset _⟩⟩⟩⟩⟩⟩⟩⟩
theorem sb9 {a0 a1 a2 a3 a4 a5 a6 a7 a8 : Nat × Value} {l : ALo} (h0 : a0 ∈ l) (h1 : a1 ∈ l) (h2 : a2 ∈ l) (h3 : a3 ∈ l) (h4 : a4 ∈ l) (h5 : a5 ∈ l) (h6 : a6 ∈ l) (h7 : a7 ∈ l) (h8 : a8 ∈ l) : [a0, a1, a2, a3, a4, a5, a6, a7, a8] ⊆ l := List.cons_subset.mpr ⟨h0, List.cons_subset.mpr ⟨h1, List.cons_subset.mpr ⟨h2, List.cons_subset.mpr ⟨h3, List.cons_subset.mpr ⟨h4, List.cons_subset.mpr ⟨h5, List.cons_subset.mpr ⟨h6, List.cons_subset.mpr ⟨h7, List.cons_subset.mpr ⟨h8, List.nil_subset _⟩⟩⟩⟩⟩⟩⟩⟩⟩
theorem sb10 {a0 a1 a2 a3 a4 a5 a6 a7 a8 a9 : Nat × Value} {l : ALo} (h0 : a0 ∈ l) (h1 : a1 ∈ l) (h2 : a2 ∈ l) (h3 : a3 ∈ l) (h4 : a4 ∈ l) (h5 : a5 ∈ l) (h6 : a6 ∈ l) (h7 : a7 ∈ l) (h8 : a8 ∈ l) (h9 : a9 ∈ l) : [a0, a1, a2, a3, a4, a5, a6, a7, a8, a9] ⊆ l := List.cons_subset.mpr ⟨h0, List.cons_subset.mpr ⟨h1, List.cons_subset.mpr ⟨h2, List.cons_subset.mpr ⟨h3, List.cons_subset.mpr ⟨h4, List.cons_subset.mpr ⟨h5, List.cons_subset.mpr ⟨h6, List.cons_subset.mpr ⟨h7, List.cons_subset.mpr ⟨h8, List.cons_subset.mpr ⟨h9, List.nil_subset _⟩⟩⟩⟩⟩⟩⟩⟩⟩⟩
theorem sb11 {a0 a1 a2 a3 a4 a5 a6 a7 a8 a9 a10 : Nat × Value} {l : ALo} (h0 : a0 ∈ l) (h1 : a1 ∈ l) (h2 : a2 ∈ l) (h3 : a3 ∈ l) (h4 : a4 ∈ l) (h5 : a5 ∈ l) (h6 : a6 ∈ l) (h7 : a7 ∈ l) (h8 : a8 ∈ l) (h9 : a9 ∈ l) (h10 : a10 ∈ l) : [a0, a1, a2, a3, a4, a5, a6, a7, a8, a9, a10] ⊆ l := List.cons_subset.mpr ⟨h0, List.cons_subset.mpr ⟨h1, List.cons_subset.mpr ⟨h2, List.cons_subset.mpr ⟨h3, List.cons_subset.mpr ⟨h4, List.cons_subset.mpr ⟨h5, List.cons_subset.mpr ⟨h6, List.cons_subset.mpr ⟨h7, List.cons_subset.mpr ⟨h8, List.cons_subset.mpr ⟨h9, List.cons_subset.mpr ⟨h10, List.nil_subset _⟩⟩⟩⟩⟩⟩⟩⟩⟩⟩⟩
theorem sb12 {a0 a1 a2 a3 a4 a5 a6 a7 a8 a9 a10 a11 : Nat × Value} {l : ALo} (h0 : a0 ∈ l) (h1 : a1 ∈ l) (h2 : a2 ∈ l) (h3 : a3 ∈ l) (h4 : a4 ∈ l) (h5 : a5 ∈ l) (h6 : a6 ∈ l) (h7 : a7 ∈ l) (h8 : a8 ∈ l) (h9 : a9 ∈ l) (h10 : a10 ∈ l) (h11 : a11 ∈ l) : [a0, a1, a2, a3, a4, a5, a6, a7, a8, a9, a10, a11] ⊆ l := List.cons_subset.mpr ⟨h0, List.cons_subset.mpr ⟨h1, List.cons_subset.mpr ⟨h2, List.cons_subset.mpr ⟨h3, List.cons_subset.mpr ⟨h4, List.cons_subset.mpr ⟨h5, List.cons_subset.mpr ⟨h6, List.cons_subset.mpr ⟨h7, List.cons_subset.mpr ⟨h8, List.cons_subset.mpr ⟨h9, List.cons_subset.mpr ⟨h10, List.cons_subset.mpr ⟨h11, List.nil_subset _⟩⟩⟩⟩⟩⟩⟩⟩⟩⟩⟩⟩
theorem sb13 {a0 a1 a2 a3 a4 a5 a6 a7 a8 a9 a10 a11 a12 : Nat × Value} {l : ALo} (h0 : a0 ∈ l) (h1 : a1 ∈ l) (h2 : a2 ∈ l) (h3 : a3 ∈ l) (h4 : a4 ∈ l) (h5 : a5 ∈ l) (h6 : a6 ∈ l) (h7 : a7 ∈ l) (h8 : a8 ∈ l) (h9 : a9 ∈ l) (h10 : a10 ∈ l) (h11 : a11 ∈ l) (h12 : a12 ∈ l) : [a0, a1, a2, a3, a4, a5, a6, a7, a8, a9, a10, a11, a12] ⊆ l := List.cons_subset.mpr ⟨h0, List.cons_subset.mpr ⟨h1, List.cons_subset.mpr ⟨h2, List.cons_subset.mpr ⟨h3, List.cons_subset.mpr ⟨h4, List.cons_subset.mpr ⟨h5, List.cons_subset.mpr ⟨h6, List.cons_subset.mpr ⟨h7, List.cons_subset.mpr ⟨h8, List.cons_subset.mpr ⟨h9, List.cons_subset.mpr ⟨h10, List.cons_subset.mpr ⟨h11, List.cons_subset.mpr ⟨h12, List.nil_subset _⟩⟩⟩⟩⟩⟩⟩⟩⟩⟩⟩⟩⟩
theorem sb14 {a0 a1 a2 a3 a4 a5 a6 a7 a8 a9 a10 a11 a12 a13 : Nat × Value} {l : ALo} (h0 : a0 ∈ l) (h1 : a1 ∈ l) (h2 : a2 ∈ l) (h3 : a3 ∈ l) (h4 : a4 ∈ l) (h5 : a5 ∈ l) (h6 : a6 ∈ l) (h7 : a7 ∈ l) (h8 : a8 ∈ l) (h9 : a9 ∈ l) (h10 : a10 ∈ l) (h11 : a11 ∈ l) (h12 : a12 ∈ l) (h13 : a13 ∈ l) : [a0, a1, a2, a3, a4, a5, a6, a7, a8, a9, a10, a11, a12, a13] ⊆ l := List.cons_subset.mpr ⟨h0, List.cons_subset.mpr ⟨h1, List.cons_subset.mpr ⟨h2, List.cons_subset.mpr ⟨h3, List.cons_subset.mpr ⟨h4, List.cons_subset.mpr ⟨h5, List.cons_subset.mpr ⟨h6, List.cons_subset.mpr ⟨h7, List.cons_subset.mpr ⟨h8, List.cons_subset.mpr ⟨h9, List.cons_subset.mpr ⟨h10, List.cons_subset.mpr ⟨h11, List.cons_subset.mpr ⟨h12, List.cons_subset.mpr ⟨h13, List.nil_subset _⟩⟩⟩⟩⟩⟩⟩⟩⟩⟩⟩⟩⟩⟩
theorem sb15 {a0 a1 a2 a3 a4 a5 a6 a7 a8 a9 a10 a11 a12 a13 a14 : Nat × Value} {l : ALo} (h0 : a0 ∈ l) (h1 : a1 ∈ l) (h2 : a2 ∈ l) (h3 : a3 ∈ l) (h4 : a4 ∈ l) (h5 : a5 ∈ l) (h6 : a6 ∈ l) (h7 : a7 ∈ l) (h8 : a8 ∈ l) (h9 : a9 ∈ l) (h10 : a10 ∈ l) (h11 : a11 ∈ l) (h12 : a12 ∈ l) (h13 : a13 ∈ l) (h14 : a14 ∈ l) : [a0, a1, a2, a3, a4, a5, a6, a7, a8, a9, a10, a11, a12, a13, a14] ⊆ l := List.cons_subset.mpr ⟨h0, List.cons_subset.mpr ⟨h1, List.cons_subset.mpr ⟨h2, List.cons_subset.mpr ⟨h3, List.cons_subset.mpr ⟨h4, List.cons_subset.mpr ⟨h5, List.cons_subset.mpr ⟨h6, List.cons_subset.mpr ⟨h7, List.cons_subset.mpr ⟨h8, List.cons_subset.mpr ⟨h9, List.cons_subset.mpr ⟨h10, List.cons_subset.mpr ⟨h11, List.cons_subset.mpr ⟨h12, List.cons_subset.mpr ⟨h13, List.cons_subset.mpr ⟨h14, List.nil_subset _⟩⟩⟩⟩⟩⟩⟩⟩⟩⟩⟩⟩⟩⟩⟩
theorem sb16 {a0 a1 a2 a3 a4 a5 a6 a7 a8 a9 a10 a11 a12 a13 a14 a15 : Nat × Value} {l : ALo} (h0 : a0 ∈ l) (h1 : a1 ∈ l) (h2 : a2 ∈ l) (h3 : a3 ∈ l) (h4 : a4 ∈ l) (h5 : a5 ∈ l) (h6 : a6 ∈ l) (h7 : a7 ∈ l) (h8 : a8 ∈ l) (h9 : a9 ∈ l) (h10 : a10 ∈ l) (h11 : a11 ∈ l) (h12 : a12 ∈ l) (h13 : a13 ∈ l) (h14 : a14 ∈ l) (h15 : a15 ∈ l) : [a0, a1, a2, a3, a4, a5, a6, a7, a8, a9, a10, a11, a12, a13, a14, a15] ⊆ l := List.cons_subset.mpr ⟨h0, List.cons_subset.mpr ⟨h1, List.cons_subset.mpr ⟨h2, List.cons_subset.mpr ⟨h3, List.cons_subset.mpr ⟨h4, List.cons_subset.mpr ⟨h5, List.cons_subset.mpr ⟨h6, List.cons_subset.mpr ⟨h7, List.cons_subset.mpr ⟨h8, List.cons_subset.mpr ⟨h9, List.cons_subset.mpr ⟨h10, List.cons_subset.mpr ⟨h11, List.cons_subset.mpr ⟨h12, List.cons_subset.mpr ⟨h13, List.cons_subset.mpr ⟨h14, List.cons_subset.mpr ⟨h15, List.nil_subset _⟩⟩⟩⟩⟩⟩⟩⟩⟩⟩⟩⟩⟩⟩⟩⟩
theorem sb17 {a0 a1 a2 a3 a4 a5 a6 a7 a8 a9 a10 a11 a12 a13 a14 a15 a16 : Nat × Value} {l : ALo} (h0 : a0 ∈ l) (h1 : a1 ∈ l) (h2 : a2 ∈ l) (h3 : a3 ∈ l) (h4 : a4 ∈ l) (h5 : a5 ∈ l) (h6 : a6 ∈ l) (h7 : a7 ∈ l) (h8 : a8 ∈ l) (h9 : a9 ∈ l) (h10 : a10 ∈ l) (h11 : a11 ∈ l) (h12 : a12 ∈ l) (h13 : a13 ∈ l) (h14 : a14 ∈ l) (h15 : a15 ∈ l) (h16 : a16 ∈ l) : [a0, a1, a2, a3, a4, a5, a6, a7, a8, a9, a10, a11, a12, a13, a14, a15, a16] ⊆ l := List.cons_subset.mpr ⟨h0, List.cons_subset.mpr ⟨h1, List.cons_subset.mpr ⟨h2, List.cons_subset.mpr ⟨h3, List.cons_subset.mpr ⟨h4, List.cons_subset.mpr ⟨h5, List.cons_subset.mpr ⟨h6, List.cons_subset.mpr ⟨h7, List.cons_subset.mpr ⟨h8, List.cons_subset.mpr ⟨h9, List.cons_subset.mpr ⟨h10, List.cons_subset.mpr ⟨h11, List.cons_subset.mpr ⟨h12, List.cons_subset.mpr ⟨h13, List.cons_subset.mpr ⟨h14, List.cons_subset.mpr ⟨h15, List.cons_subset.mpr ⟨h16, List.nil_subset _⟩⟩⟩⟩⟩⟩⟩⟩⟩⟩⟩⟩⟩⟩⟩⟩⟩
theorem sb18 {a0 a1 a2 a3 a4 a5 a6 a7 a8 a9 a10 a11 a12 a13 a14 a15 a16 a17 : Nat × Value} {l : ALo} (h0 : a0 ∈ l) (h1 : a1 ∈ l) (h2 : a2 ∈ l) (h3 : a3 ∈ l) (h4 : a4 ∈ l) (h5 : a5 ∈ l) (h6 : a6 ∈ l) (h7 : a7 ∈ l) (h8 : a8 ∈ l) (h9 : a9 ∈ l) (h10 : a10 ∈ l) (h11 : a11 ∈ l) (h12 : a12 ∈ l) (h13 : a13 ∈ l) (h14 : a14 ∈ l) (h15 : a15 ∈ l) (h16 : a16 ∈ l) (h17 : a17 ∈ l) : [a0, a1, a2, a3, a4, a5, a6, a7, a8, a9, a10, a11, a12, a13, a14, a15, a16, a17] ⊆ l := List.cons_subset.mpr ⟨h0, List.cons_subset.mpr ⟨h1, List.cons_subset.mpr ⟨h2, List.cons_subset.mpr ⟨h3, List.cons_subset.mpr ⟨h4, List.cons_subset.mpr ⟨h5, List.cons_subset.mpr ⟨h6, List.cons_subset.mpr ⟨h7, List.cons_subset.mpr ⟨h8, List.cons_subset.mpr ⟨h9, List.cons_subset.mpr ⟨h10, List.cons_subset.mpr ⟨h11, List.cons_subset.mpr ⟨h12, List.cons_subset.mpr ⟨h13, List.cons_subset.mpr ⟨h14, List.cons_subset.mpr ⟨h15, List.cons_subset.mpr ⟨h16, List.cons_subset.mpr ⟨h17, List.nil_subset _⟩⟩⟩⟩⟩⟩⟩⟩⟩⟩⟩⟩⟩⟩⟩⟩⟩⟩
theorem sb19 {a0 a1 a2 a3 a4 a5 a6 a7 a8 a9 a10 a11 a12 a13 a14 a15 a16 a17 a18 : Nat × Value} {l : ALo} (h0 : a0 ∈ l) (h1 : a1 ∈ l) (h2 : a2 ∈ l) (h3 : a3 ∈ l) (h4 : a4 ∈ l) (h5 : a5 ∈ l) (h6 : a6 ∈ l) (h7 : a7 ∈ l) (h8 : a8 ∈ l) (h9 : a9 ∈ l) (h10 : a10 ∈ l) (h11 : a11 ∈ l) (h12 : a12 ∈ l) (h13 : a13 ∈ l) (h14 : a14 ∈ l) (h15 : a15 ∈ l) (h16 : a16 ∈ l) (h17 : a17 ∈ l) (h18 : a18 ∈ l) : [a0, a1, a2, a3, a4, a5, a6, a7, a8, a9, a10, a11, a12, a13, a14, a15, a16, a17, a18] ⊆ l := List.cons_subset.mpr ⟨h0, List.cons_subset.mpr ⟨h1, List.cons_subset.mpr ⟨h2, List.cons_subset.mpr ⟨h3, List.cons_subset.mpr ⟨h4, List.cons_subset.mpr ⟨h5, List.cons_subset.mpr ⟨h6, List.cons_subset.mpr ⟨h7, List.cons_subset.mpr ⟨h8, List.cons_subset.mpr ⟨h9, List.cons_subset.mpr ⟨h10, List.cons_subset.mpr ⟨h11, List.cons_subset.mpr ⟨h12, List.cons_subset.mpr ⟨h13, List.cons_subset.mpr ⟨h14, List.cons_subset.mpr ⟨h15, List.cons_subset.mpr ⟨h16, List.cons_subset.mpr ⟨h17, List.cons_subset.mpr ⟨h18, List.nil_subset _⟩⟩⟩⟩⟩⟩⟩⟩⟩⟩⟩⟩⟩⟩⟩⟩⟩⟩⟩
theorem nd_0 : ([] : List Nat).Nodup := by decide
theorem nd_1 : ([0] : List Nat).Nodup := by decide
theorem nd_2 : ([0, 1] : List Nat).Nodup := by decide
theorem nd_3 : ([0, 1, 2] : List Nat).Nodup := by decide
theorem nd_4 : ([0, 1, 2, 3] : List Nat).Nodup := by decide
theorem nd_5 : ([0, 1, 2, 3, 4] : List Nat).Nodup := by decide
theorem nd_6 : ([0, 1, 2, 3, 4, 5] : List Nat).Nodup := by decide
theorem nd_7 : ([0, 1, 2, 3, 4, 5, 6] : List Nat).Nodup := by decide
theorem nd_8 : ([0, 1, 2, 3, 4, 5, 6, 7] : List Nat).Nodup := by decide
