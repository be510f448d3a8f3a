/-! WHAT ROWS COST: the rooms of all rows pay for it -/
def phi (σ : SS) : Nat := (xRows.map (sC σ)).sum
def Cap (B : Nat → Nat) (σ : SS) : Prop := ∀ z, z ∈ xRows → 1 ≤ sC σ z ∧ sC σ z ≤ B z
def Gr (B : Nat → Nat) (σ σ' : SS) (k s : Nat) : Prop := Cap B σ' ∧ k + phi σ ≤ phi σ' ∧ s + 2 * phi σ ≤ 2 * phi σ'
theorem phi_eq {σ σ' : SS} (h : sC σ' = sC σ) : phi σ' = phi σ := by unfold phi; rw [h]
theorem Gr.eq {B : Nat → Nat} {σ σ' : SS} (hC : Cap B σ) (h : sC σ' = sC σ) : Gr B σ σ' 0 0 := ⟨by unfold Cap; rw [h]; exact hC, by rw [phi_eq h]; omega, by rw [phi_eq h]; omega⟩
theorem Gr.tr {B : Nat → Nat} {σ σ1 σ2 : SS} {k1 s1 k2 s2 : Nat} (h : Gr B σ σ1 k1 s1) (h' : Gr B σ1 σ2 k2 s2) : Gr B σ σ2 (k1 + k2) (s1 + s2) := ⟨h'.1, by have := h.2; have := h'.2; omega, by have := h.2; have := h'.2; omega⟩
theorem Gr.more {B : Nat → Nat} {σ σ1 σ2 : SS} {k1 s1 : Nat} (h : Gr B σ σ1 k1 s1) (e : sC σ2 = sC σ1) : Gr B σ σ2 k1 s1 := by
  have := h.tr (Gr.eq h.1 e)
  exact this
theorem sum_up {f : Nat → Nat} {z c : Nat} : ∀ {l : List Nat}, l.Nodup → z ∈ l → (l.map (va_up f z c)).sum + f z = (l.map f).sum + c
  | [], _, h => absurd h List.not_mem_nil
  | a :: l, hn, h => by
    obtain ⟨h1, h2⟩ := List.nodup_cons.mp hn
    rcases List.mem_cons.mp h with rfl | h
    · have e : l.map (va_up f z c) = l.map f := List.map_congr_left (fun b hb => va_up_ne _ _ (fun e => h1 (e ▸ hb)))
      rw [List.map_cons, List.map_cons, List.sum_cons, List.sum_cons, e, va_up_self]
      omega
    · have := sum_up (f := f) (c := c) h2 h
      have e : va_up f z c a = f a := va_up_ne _ _ (fun e => h1 (e ▸ h))
      rw [List.map_cons, List.map_cons, List.sum_cons, List.sum_cons, e]
      omega
theorem rows_nd : xRows.Nodup := by decide +kernel
theorem Gr.up {B : Nat → Nat} {σ : SS} {z b c' k s : Nat} {ys : List Int32} (hz : z ∈ xRows) (hC : Cap B σ) (hG : Grow b (sC σ z) c' k s) (hb : b ≤ B z) : Gr B σ (uX σ z c' ys) k s := by
  obtain ⟨g1, g2, g3, g4⟩ := hG
  have hs : phi (uX σ z c' ys) + sC σ z = phi σ + c' := sum_up rows_nd hz
  refine ⟨fun w hw => ?_, by omega, by omega⟩
  show 1 ≤ va_up (sC σ) z c' w ∧ va_up (sC σ) z c' w ≤ B w
  by_cases e : w = z
  · subst e
    rw [va_up_self]
    have := hC w hw
    omega
  · rw [va_up_ne _ _ e]
    exact hC w hw
theorem grow_N {B : Nat} : ∀ (m c n : Nat), 1 ≤ c → 2 * (n + m) ≤ B → Grow B c (gcapN c n m) (gmcN c n m) (gmsN c n m)
  | 0, c, n, _, _ => Grow.rf
  | m + 1, c, n, hc, hb => by
    have h1 := grow_put (B := B) (n := n) hc (by omega)
    exact h1.tr (grow_N m (gcap c n) (n + 1) (by have := h1.1; omega) (by omega))
theorem cls_row {z ν : Nat} (hz : z ∈ xRows) (h5 : mO ν = 5) : am_cls z = some (mO ν) := by
  unfold am_cls
  rw [if_pos hz, h5]
/-- the row of the former manuscripts -/
theorem fo_row : ∀ t, t < 6 → 10 + 2 * t ∈ xRows := by decide +kernel
def MB (B : Nat → Nat) : Prop := 8000 ≤ B 1 ∧ 8000 ≤ B 3 ∧ ∀ t, t < 6 → 8000 ≤ B (10 + 2 * t)
theorem min6 {n : Nat} (h : n ≤ 6) : (if nI n + 1 < 6 then nI n + 1 else 6) = nI (min 6 (n + 1)) := by
  rw [nI_1]
  by_cases e : n + 1 < 6
  · rw [if_pos (show nI (n + 1) < 6 from nI_lt (b := 6) e (by decide)), Nat.min_eq_right (by omega)]
  · rw [if_neg (show ¬ nI (n + 1) < 6 from nI_nlt (a := n + 1) (b := 6) (by omega) (by omega)), Nat.min_eq_left (by omega)]
    rfl
def remS (σ : SS) (t n c1 : Nat) : SS := ip (ip (uX σ (10 + 2 * t) c1 (sX σ 3)) 0 6 (nI ((t + 1) % 6))) 0 5 (nI (min 6 (n + 1)))
theorem d169_0 : decode (mC 169) 0 = .ok (.aload_n 0, 1) := by decide +kernel
theorem fl_11_25 : am_fl 11 25 = some (11, 4) := by decide +kernel
theorem g_0_4 {σ : SS} : am_get σ 11 0 4 = some (.ref 9) := gt_ob (f := .inl 9) (by decide) (by decide) ob_0 rfl
theorem mO_169 : mO 169 = 11 := by decide +kernel
theorem d169_1 : decode (mC 169) 1 = .ok (.getfield 25, 3) := by decide +kernel
theorem d169_4 : decode (mC 169) 4 = .ok (.aload_n 0, 1) := by decide +kernel
theorem fl_11_125 : am_fl 11 125 = some (11, 6) := by decide +kernel
theorem g_0_6 {σ : SS} : am_get σ 11 0 6 = some (.int (sI σ 0 6)) := gt_ob (f := .inr (.inl ())) (by decide) (by decide) ob_0 rfl
theorem d169_5 : decode (mC 169) 5 = .ok (.getfield 125, 3) := by decide +kernel
theorem d169_8 : decode (mC 169) 8 = .ok (.aaload, 1) := by decide +kernel
theorem d169_9 : decode (mC 169) 9 = .ok (.aload_n 0, 1) := by decide +kernel
theorem d169_10 : decode (mC 169) 10 = .ok (.getfield 16, 3) := by decide +kernel
theorem ml_11_96 : am_ml 11 96 = some 7 := by decide +kernel
theorem mK_7 : mK 7 = 0 := by decide +kernel
theorem mO_7 : mO 7 = 5 := by decide +kernel
theorem mA_7 : 1 = mA 7 := by decide +kernel
theorem d169_13 : decode (mC 169) 13 = .ok (.invokevirtual 96, 3) := by decide +kernel
theorem d169_16 : decode (mC 169) 16 = .ok (.aload_n 0, 1) := by decide +kernel
theorem d169_17 : decode (mC 169) 17 = .ok (.aload_n 0, 1) := by decide +kernel
theorem d169_18 : decode (mC 169) 18 = .ok (.getfield 125, 3) := by decide +kernel
theorem d169_21 : decode (mC 169) 21 = .ok (.iconst 1, 1) := by decide +kernel
theorem d169_22 : decode (mC 169) 22 = .ok (.iadd, 1) := by decide +kernel
theorem d169_23 : decode (mC 169) 23 = .ok (.bipush 6, 2) := by decide +kernel
theorem d169_25 : decode (mC 169) 25 = .ok (.irem, 1) := by decide +kernel
theorem fn_11_6 : (tx 11 6).2.2.2 = false := by decide +kernel
theorem pf_0_6 {σ : SS} {x : Int32} (hx : narrow .int (.int x) = .int x ∧ fits .int (.int x) = true) : am_put σ 11 0 6 (.int x) = some (ip σ 0 6 x) := pt_ob fn_11_6 (by decide) ob_0 rfl hx
theorem d169_26 : decode (mC 169) 26 = .ok (.putfield 125, 3) := by decide +kernel
theorem d169_29 : decode (mC 169) 29 = .ok (.aload_n 0, 1) := by decide +kernel
theorem d169_30 : decode (mC 169) 30 = .ok (.bipush 6, 2) := by decide +kernel
theorem d169_32 : decode (mC 169) 32 = .ok (.aload_n 0, 1) := by decide +kernel
theorem fl_11_122 : am_fl 11 122 = some (11, 5) := by decide +kernel
theorem g_0_5 {σ : SS} : am_get σ 11 0 5 = some (.int (sI σ 0 5)) := gt_ob (f := .inr (.inl ())) (by decide) (by decide) ob_0 rfl
theorem d169_33 : decode (mC 169) 33 = .ok (.getfield 122, 3) := by decide +kernel
theorem d169_36 : decode (mC 169) 36 = .ok (.iconst 1, 1) := by decide +kernel
theorem d169_37 : decode (mC 169) 37 = .ok (.iadd, 1) := by decide +kernel
theorem d169_38 : decode (mC 169) 38 = .ok (.invokestatic 281, 3) := by decide +kernel
theorem mq_11_281 : (mmT 11).find? (fun q => q.1 == 281) = some (281, 0) := by decide +kernel
theorem fn_11_5 : (tx 11 5).2.2.2 = false := by decide +kernel
theorem pf_0_5 {σ : SS} {x : Int32} (hx : narrow .int (.int x) = .int x ∧ fits .int (.int x) = true) : am_put σ 11 0 5 (.int x) = some (ip σ 0 5 x) := pt_ob fn_11_5 (by decide) ob_0 rfl hx
theorem d169_41 : decode (mC 169) 41 = .ok (.putfield 122, 3) := by decide +kernel
theorem mT_169 : mT 169 = none := by decide +kernel
theorem d169_44 : decode (mC 169) 44 = .ok (.return_, 1) := by decide +kernel
set_option maxRecDepth 4000 in
theorem sq_X11_remember {B : Nat → Nat} {σ : SS} {d t n : Nat} (hB : MB B) (hC : Cap B σ) (ht : sI σ 0 6 = nI t) (ht6 : t < 6) (hn : sI σ 0 5 = nI n) (hn6 : n ≤ 6) (hl : (sX σ 3).length ≤ 4000) (hd : 4 ≤ d) : Ev d 169 0 [(0, .ref 0)] [] σ (fun o σ' k s => o = .inl none ∧ ∃ c1, Gr B σ (uX σ (10 + 2 * t) c1 (sX σ 3)) k s ∧ σ' = remS σ t n c1) := by
  refine ev_aload_n d169_0 rfl m0 rfl ?_
  refine ev_gf (v := .ref 9) mO_169 d169_1 fl_11_25 g_0_4 rfl ?_
  refine ev_aload_n d169_4 rfl m0 rfl ?_
  refine ev_gf (v := .int (sI σ 0 6)) mO_169 d169_5 fl_11_125 g_0_6 rfl ?_
  rw [ht]
  refine ev_aald d169_8 (am_in_nI (by omega) (by decide)) rfl ?_
  rw [nI_clamp (n := t) (by omega)]
  refine ev_aload_n d169_9 rfl m0 rfl ?_
  refine ev_gf (v := .ref 3) mO_169 d169_10 fl_11_16 g_0_1 rfl ?_
  refine ev_rcopy mO_169 d169_13 (fo_row t ht6) rw_3 (by omega) (cm_v1 ml_11_96 (Or.inl mK_7) mA_7 (cls_row (fo_row t ht6) mO_7) (Nat.le_of_ble_eq_true rfl)) (by omega) (by omega) rfl ?_
  have hG := grow_N (B := 8000) (sX σ 3).length (sC σ (10 + 2 * t)) 0 (hC _ (fo_row t ht6)).1 (by omega)
  generalize gcapN (sC σ (10 + 2 * t)) 0 (sX σ 3).length = c1 at hG ⊢
  generalize gmcN (sC σ (10 + 2 * t)) 0 (sX σ 3).length = k1 at hG ⊢
  generalize gmsN (sC σ (10 + 2 * t)) 0 (sX σ 3).length = s1 at hG ⊢
  refine ev_aload_n d169_16 rfl m0 rfl ?_
  refine ev_aload_n d169_17 rfl m0 rfl ?_
  refine ev_gf (v := .int (sI σ 0 6)) mO_169 d169_18 fl_11_125 g_0_6 rfl ?_
  rw [ht]
  refine ev_iconst d169_21 ci_1 rfl ?_
  refine ev_iadd d169_22 rfl ?_
  refine ev_bipush d169_23 cb_6 rfl ?_
  refine ev_irem d169_25 (by decide) rfl ?_
  rw [nI_1, show nI (t + 1) - nI (t + 1) / 6 * 6 = nI ((t + 1) % 6) from pk_rem (d := 6) (by omega) (by decide) (by decide)]
  refine ev_pf mO_169 d169_26 fl_11_125 (pf_0_6 nf_int) rfl ?_
  refine ev_aload_n d169_29 rfl m0 rfl ?_
  refine ev_bipush d169_30 cb_6 rfl ?_
  refine ev_aload_n d169_32 rfl m0 rfl ?_
  refine ev_gf (v := .int (sI σ 0 5)) mO_169 d169_33 fl_11_122 g_0_5 rfl ?_
  rw [hn]
  refine ev_iconst d169_36 ci_1 rfl ?_
  refine ev_iadd d169_37 rfl ?_
  refine ev_min mO_169 d169_38 mq_11_281 (Nat.le_of_ble_eq_true rfl) (by omega) rfl ?_
  rw [min6 hn6]
  refine ev_pf mO_169 d169_41 fl_11_122 (pf_0_5 nf_int) rfl ?_
  exact ev_vret mT_169 d169_44 ⟨rfl, c1, Gr.up (fo_row t ht6) hC hG (hB.2.2 t ht6), rfl⟩
