/-! FEED -/
theorem uX_self {σ : SS} {z : Nat} : uX σ z (sC σ z) (sX σ z) = σ := by
  have e1 : va_up (sX σ) z (sX σ z) = sX σ := by funext j; unfold va_up; split <;> simp [*]
  have e2 : va_up (sC σ) z (sC σ z) = sC σ := by funext j; unfold va_up; split <;> simp [*]
  unfold uX
  rw [e1, e2]
theorem up_up {α : Type} {f : Nat → α} {k : Nat} {a b : α} : va_up (va_up f k a) k b = va_up f k b := by funext j; unfold va_up; split <;> rfl
theorem uX_uX {σ : SS} {z c c' : Nat} {xs ys : List Int32} : uX (uX σ z c xs) z c' ys = uX σ z c' ys := by
  unfold uX
  dsimp only
  rw [up_up, up_up]
theorem sX_uX {σ : SS} {z c : Nat} {xs : List Int32} : sX (uX σ z c xs) z = xs := va_up_self _ _ _
theorem sC_uX {σ : SS} {z c : Nat} {xs : List Int32} : sC (uX σ z c xs) z = c := va_up_self _ _ _
/-- how a row's room has grown, and what that cost -/
def Grow (B c c' k s : Nat) : Prop := c ≤ c' ∧ c' ≤ max c B ∧ k + c ≤ c' ∧ s + 2 * c ≤ 2 * c'
theorem Grow.rf {B c : Nat} : Grow B c c 0 0 := ⟨Nat.le_refl _, by omega, by omega, by omega⟩
theorem Grow.tr {B c c1 c2 k1 s1 k2 s2 : Nat} (h : Grow B c c1 k1 s1) (h' : Grow B c1 c2 k2 s2) : Grow B c c2 (k1 + k2) (s1 + s2) := by
  unfold Grow at *
  omega
theorem grow_put {B c n : Nat} (hc : 1 ≤ c) (hn : 2 * n ≤ B) : Grow B c (gcap c n) (gmc c n) (gms c n) := by
  unfold Grow gcap gmc gms
  by_cases h : n < c
  · rw [if_pos h, if_pos h, if_pos h]; omega
  · rw [if_neg h, if_neg h, if_neg h]; omega
/-- a sign that is fed -/
def fb (T : List Int32) (s : Int32) : List Int32 := if (s = 10 ∨ (¬ s < 32 ∧ ¬ 126 < s)) ∧ ¬ 4000 ≤ nI T.length then T ++ [s] else T
def byX (b : Int64) (s : Int32) : Int32 := ((b.toUInt64 >>> (s.toInt64.toUInt64 &&& Int64.toUInt64 63)).toInt64).toInt32 &&& 255
theorem fb_len {T : List Int32} {s : Int32} (h : T.length ≤ 4000) : (fb T s).length ≤ 4000 := by
  unfold fb
  split
  · rename_i h1
    have : T.length < 4000 := by
      refine Nat.lt_of_not_le (fun z => h1.2 ?_)
      exact nI_le (a := 4000) z (by omega)
    rw [List.length_append]
    simp
    omega
  · exact h
theorem d167_3 : decode (mC 167) 3 = .ok (.iload_n 3, 1) := by decide +kernel
theorem d167_4 : decode (mC 167) 4 = .ok (.ifCond .lt 62, 3) := by decide +kernel
theorem d167_7 : decode (mC 167) 7 = .ok (.lload_n 1, 1) := by decide +kernel
theorem d167_8 : decode (mC 167) 8 = .ok (.iload_n 3, 1) := by decide +kernel
theorem d167_9 : decode (mC 167) 9 = .ok (.lushr, 1) := by decide +kernel
theorem d167_10 : decode (mC 167) 10 = .ok (.l2i, 1) := by decide +kernel
theorem cs_255 : (Int16.ofInt (255)).toInt32 = 255 := by decide
theorem d167_11 : decode (mC 167) 11 = .ok (.sipush 255, 3) := by decide +kernel
theorem d167_14 : decode (mC 167) 14 = .ok (.iand, 1) := by decide +kernel
theorem mL_167 : mL 167 = 5 := by decide +kernel
theorem d167_15 : decode (mC 167) 15 = .ok (.istore 4, 2) := by decide +kernel
theorem d167_17 : decode (mC 167) 17 = .ok (.iload 4, 2) := by decide +kernel
theorem cb_10 : (Int8.ofInt (10)).toInt32 = 10 := by decide
theorem d167_19 : decode (mC 167) 19 = .ok (.bipush 10, 2) := by decide +kernel
theorem d167_21 : decode (mC 167) 21 = .ok (.if_icmp .eq 17, 3) := by decide +kernel
theorem d167_38 : decode (mC 167) 38 = .ok (.aload_n 0, 1) := by decide +kernel
theorem mO_167 : mO 167 = 11 := by decide +kernel
theorem d167_39 : decode (mC 167) 39 = .ok (.getfield 12, 3) := by decide +kernel
theorem d167_42 : decode (mC 167) 42 = .ok (.getfield 89, 3) := by decide +kernel
theorem cs_4000 : (Int16.ofInt (4000)).toInt32 = 4000 := by decide
theorem d167_45 : decode (mC 167) 45 = .ok (.sipush 4000, 3) := by decide +kernel
theorem d167_48 : decode (mC 167) 48 = .ok (.if_icmp .ge 12, 3) := by decide +kernel
theorem d167_60 : decode (mC 167) 60 = .ok (.iinc 3 (-8), 3) := by decide +kernel
theorem d167_63 : decode (mC 167) 63 = .ok (.goto (-60), 3) := by decide +kernel
theorem d167_51 : decode (mC 167) 51 = .ok (.aload_n 0, 1) := by decide +kernel
theorem d167_52 : decode (mC 167) 52 = .ok (.getfield 12, 3) := by decide +kernel
theorem d167_55 : decode (mC 167) 55 = .ok (.iload 4, 2) := by decide +kernel
theorem ml_11_227 : am_ml 11 227 = some 2 := by decide +kernel
theorem mK_2 : mK 2 = 0 := by decide +kernel
theorem cz_1_2 : am_cls 1 = some (mO 2) := by decide +kernel
theorem mA_2 : 1 = mA 2 := by decide +kernel
theorem d167_57 : decode (mC 167) 57 = .ok (.invokevirtual 227, 3) := by decide +kernel
theorem d167_24 : decode (mC 167) 24 = .ok (.iload 4, 2) := by decide +kernel
theorem d167_26 : decode (mC 167) 26 = .ok (.bipush 32, 2) := by decide +kernel
theorem d167_28 : decode (mC 167) 28 = .ok (.if_icmp .lt 32, 3) := by decide +kernel
theorem d167_31 : decode (mC 167) 31 = .ok (.iload 4, 2) := by decide +kernel
theorem cb_126 : (Int8.ofInt (126)).toInt32 = 126 := by decide
theorem d167_33 : decode (mC 167) 33 = .ok (.bipush 126, 2) := by decide +kernel
theorem d167_35 : decode (mC 167) 35 = .ok (.if_icmp .gt 25, 3) := by decide +kernel
set_option maxRecDepth 4000 in
theorem fb_it {σ : SS} {b : Int64} {sh : Int32} {d : Nat} {Q : EQ} (hd : 2 ≤ d) (hsh : ¬ sh < 0) (hl : (sX σ 1).length ≤ 4000) (hc : 1 ≤ sC σ 1) (kk : ∀ c' k s, Grow 8000 (sC σ 1) c' k s → Ev d 167 3 [(3, .int (sh + (-8))), (1, .long b), (0, .ref 0)] [] (uX σ 1 c' (fb (sX σ 1) (byX b sh))) (fun o s9 k9 n9 => Q o s9 (k + k9) (s + n9))) : Ev d 167 3 [(3, .int sh), (1, .long b), (0, .ref 0)] [] σ Q := by
  refine ev_iload_n d167_3 rfl m0 rfl ?_
  refine ev_if_lt d167_4 (t := 66) (aj rfl) rfl (fun z => absurd z hsh) (fun c1 => ?_)
  refine ev_lload_n d167_7 rfl m1 rfl ?_
  refine ev_iload_n d167_8 rfl m0 rfl ?_
  refine ev_lushr d167_9 rfl ?_
  refine ev_l2i d167_10 rfl ?_
  refine ev_sipush d167_11 cs_255 rfl ?_
  refine ev_iand d167_14 rfl ?_
  show Ev _ _ _ _ [.int (byX b sh)] _ _
  refine ev_istore mL_167 d167_15 rfl (by decide) (lo2 := [(4, .int (byX b sh)), (3, .int sh), (1, .long b), (0, .ref 0)]) rfl rfl ?_
  refine ev_iload d167_17 rfl m0 rfl ?_
  refine ev_bipush d167_19 cb_10 rfl ?_
  refine ev_ic_eq d167_21 (t := 38) (aj rfl) rfl (fun c2 => ?_) (fun c2 => ?_)
  · refine ev_aload_n d167_38 rfl m3 rfl ?_
    refine ev_gf (v := .ref 1) mO_167 d167_39 fl_11_12 g_0_0 rfl ?_
    refine ev_gf (v := .int (nI (sX σ 1).length)) mO_167 d167_42 fl_11_89 (gt_row rw_1) rfl ?_
    refine ev_sipush d167_45 cs_4000 rfl ?_
    refine ev_ic_ge d167_48 (t := 60) (aj rfl) rfl (fun c3 => ?_) (fun c3 => ?_)
    · refine Ev.sub (lo2 := [(3, .int sh), (1, .long b), (0, .ref 0)]) (fun q hq => ?_) ?_
      · exact .tail _ hq
      refine ev_iinc mL_167 d167_60 m0 (kn_of (ks := [3, 1, 0]) rfl (by decide)) (by decide) (w := sh + (-8)) (lo2 := [(3, .int (sh + (-8))), (1, .long b), (0, .ref 0)]) rfl rfl rfl ?_
      refine ev_goto d167_63 (t := 3) (aj rfl) ?_
      have e : fb (sX σ 1) (byX b sh) = sX σ 1 := if_neg (fun h => ?_)
      · have := kk _ _ _ (Grow.rf (B := 8000))
        rw [e, uX_self] at this
        refine Ev.mono this (fun o s9 k9 n9 hq => ?_)
        rw [Nat.zero_add, Nat.zero_add] at hq
        exact hq
      · rcases h with ⟨h | ⟨h, h2⟩, h3⟩ <;> contradiction
    · refine ev_aload_n d167_51 rfl m3 rfl ?_
      refine ev_gf (v := .ref 1) mO_167 d167_52 fl_11_12 g_0_0 rfl ?_
      refine ev_iload d167_55 rfl m0 rfl ?_
      have hlt : (sX σ 1).length < 4000 := Nat.lt_of_not_le (fun z => absurd (show (4000 : Int32) ≤ nI (sX σ 1).length from nI_le (a := 4000) z (by omega)) (by assumption))
      refine ev_rput mO_167 d167_57 rw_1 (cm_v1 ml_11_227 (Or.inl mK_2) mA_2 cz_1_2 (Nat.le_of_ble_eq_true rfl)) (by omega) (by omega) rfl ?_
      refine Ev.sub (lo2 := [(3, .int sh), (1, .long b), (0, .ref 0)]) (fun q hq => ?_) ?_
      · exact .tail _ hq
      refine ev_iinc mL_167 d167_60 m0 (kn_of (ks := [3, 1, 0]) rfl (by decide)) (by decide) (w := sh + (-8)) (lo2 := [(3, .int (sh + (-8))), (1, .long b), (0, .ref 0)]) rfl rfl rfl ?_
      refine ev_goto d167_63 (t := 3) (aj rfl) ?_
      have e : fb (sX σ 1) (byX b sh) = sX σ 1 ++ [byX b sh] := if_pos ⟨by first | exact Or.inl (by assumption) | exact Or.inr ⟨by assumption, by assumption⟩, by assumption⟩
      have := kk _ _ _ (grow_put (B := 8000) hc (n := (sX σ 1).length) (by omega))
      rw [e] at this
      exact this
  · refine ev_iload d167_24 rfl m0 rfl ?_
    refine ev_bipush d167_26 cb_32 rfl ?_
    refine ev_ic_lt d167_28 (t := 60) (aj rfl) rfl (fun c4 => ?_) (fun c4 => ?_)
    · refine Ev.sub (lo2 := [(3, .int sh), (1, .long b), (0, .ref 0)]) (fun q hq => ?_) ?_
      · exact .tail _ hq
      refine ev_iinc mL_167 d167_60 m0 (kn_of (ks := [3, 1, 0]) rfl (by decide)) (by decide) (w := sh + (-8)) (lo2 := [(3, .int (sh + (-8))), (1, .long b), (0, .ref 0)]) rfl rfl rfl ?_
      refine ev_goto d167_63 (t := 3) (aj rfl) ?_
      have e : fb (sX σ 1) (byX b sh) = sX σ 1 := if_neg (fun h => ?_)
      · have := kk _ _ _ (Grow.rf (B := 8000))
        rw [e, uX_self] at this
        refine Ev.mono this (fun o s9 k9 n9 hq => ?_)
        rw [Nat.zero_add, Nat.zero_add] at hq
        exact hq
      · rcases h with ⟨h | ⟨h, h2⟩, h3⟩ <;> contradiction
    · refine ev_iload d167_31 rfl m0 rfl ?_
      refine ev_bipush d167_33 cb_126 rfl ?_
      refine ev_ic_gt d167_35 (t := 60) (aj rfl) rfl (fun c5 => ?_) (fun c5 => ?_)
      · refine Ev.sub (lo2 := [(3, .int sh), (1, .long b), (0, .ref 0)]) (fun q hq => ?_) ?_
        · exact .tail _ hq
        refine ev_iinc mL_167 d167_60 m0 (kn_of (ks := [3, 1, 0]) rfl (by decide)) (by decide) (w := sh + (-8)) (lo2 := [(3, .int (sh + (-8))), (1, .long b), (0, .ref 0)]) rfl rfl rfl ?_
        refine ev_goto d167_63 (t := 3) (aj rfl) ?_
        have e : fb (sX σ 1) (byX b sh) = sX σ 1 := if_neg (fun h => ?_)
        · have := kk _ _ _ (Grow.rf (B := 8000))
          rw [e, uX_self] at this
          refine Ev.mono this (fun o s9 k9 n9 hq => ?_)
          rw [Nat.zero_add, Nat.zero_add] at hq
          exact hq
        · rcases h with ⟨h | ⟨h, h2⟩, h3⟩ <;> contradiction
      · refine ev_aload_n d167_38 rfl m3 rfl ?_
        refine ev_gf (v := .ref 1) mO_167 d167_39 fl_11_12 g_0_0 rfl ?_
        refine ev_gf (v := .int (nI (sX σ 1).length)) mO_167 d167_42 fl_11_89 (gt_row rw_1) rfl ?_
        refine ev_sipush d167_45 cs_4000 rfl ?_
        refine ev_ic_ge d167_48 (t := 60) (aj rfl) rfl (fun c6 => ?_) (fun c6 => ?_)
        · refine Ev.sub (lo2 := [(3, .int sh), (1, .long b), (0, .ref 0)]) (fun q hq => ?_) ?_
          · exact .tail _ hq
          refine ev_iinc mL_167 d167_60 m0 (kn_of (ks := [3, 1, 0]) rfl (by decide)) (by decide) (w := sh + (-8)) (lo2 := [(3, .int (sh + (-8))), (1, .long b), (0, .ref 0)]) rfl rfl rfl ?_
          refine ev_goto d167_63 (t := 3) (aj rfl) ?_
          have e : fb (sX σ 1) (byX b sh) = sX σ 1 := if_neg (fun h => ?_)
          · have := kk _ _ _ (Grow.rf (B := 8000))
            rw [e, uX_self] at this
            refine Ev.mono this (fun o s9 k9 n9 hq => ?_)
            rw [Nat.zero_add, Nat.zero_add] at hq
            exact hq
          · rcases h with ⟨h | ⟨h, h2⟩, h3⟩ <;> contradiction
        · refine ev_aload_n d167_51 rfl m3 rfl ?_
          refine ev_gf (v := .ref 1) mO_167 d167_52 fl_11_12 g_0_0 rfl ?_
          refine ev_iload d167_55 rfl m0 rfl ?_
          have hlt : (sX σ 1).length < 4000 := Nat.lt_of_not_le (fun z => absurd (show (4000 : Int32) ≤ nI (sX σ 1).length from nI_le (a := 4000) z (by omega)) (by assumption))
          refine ev_rput mO_167 d167_57 rw_1 (cm_v1 ml_11_227 (Or.inl mK_2) mA_2 cz_1_2 (Nat.le_of_ble_eq_true rfl)) (by omega) (by omega) rfl ?_
          refine Ev.sub (lo2 := [(3, .int sh), (1, .long b), (0, .ref 0)]) (fun q hq => ?_) ?_
          · exact .tail _ hq
          refine ev_iinc mL_167 d167_60 m0 (kn_of (ks := [3, 1, 0]) rfl (by decide)) (by decide) (w := sh + (-8)) (lo2 := [(3, .int (sh + (-8))), (1, .long b), (0, .ref 0)]) rfl rfl rfl ?_
          refine ev_goto d167_63 (t := 3) (aj rfl) ?_
          have e : fb (sX σ 1) (byX b sh) = sX σ 1 ++ [byX b sh] := if_pos ⟨by first | exact Or.inl (by assumption) | exact Or.inr ⟨by assumption, by assumption⟩, by assumption⟩
          have := kk _ _ _ (grow_put (B := 8000) hc (n := (sX σ 1).length) (by omega))
          rw [e] at this
          exact this
def shN : Nat → Int32
  | 0 => -8
  | n + 1 => nI (8 * n)
theorem shN_s (n : Nat) : nI (8 * n) + (-8) = shN n := by
  cases n with
  | zero => decide
  | succ n =>
    show nI (8 * n + 8) + (-8) = nI (8 * n)
    rw [← nI_add, show nI 8 = 8 from rfl, Int32.add_assoc]
    exact Int32.add_zero _
def fbn (b : Int64) : Nat → List Int32 → List Int32
  | 0, T => T
  | n + 1, T => fbn b n (fb T (byX b (nI (8 * n))))
theorem fbn_len {b : Int64} : ∀ (n : Nat) {T : List Int32}, T.length ≤ 4000 → (fbn b n T).length ≤ 4000
  | 0, _, h => h
  | n + 1, _, h => fbn_len n (fb_len h)
def fbQ (σ : SS) (T : List Int32) : EQ := fun o σ' k s => o = .inl none ∧ ∃ c', Grow 8000 (sC σ 1) c' k s ∧ σ' = uX σ 1 c' T
theorem mT_167 : mT 167 = none := by decide +kernel
theorem d167_0 : decode (mC 167) 0 = .ok (.bipush 56, 2) := by decide +kernel
theorem d167_2 : decode (mC 167) 2 = .ok (.istore_n 3, 1) := by decide +kernel
theorem d167_66 : decode (mC 167) 66 = .ok (.return_, 1) := by decide +kernel
theorem cb_56 : (Int8.ofInt (56)).toInt32 = 56 := by decide
theorem fb_loop {b : Int64} {d : Nat} (hd : 2 ≤ d) : ∀ (n : Nat) (σ : SS), n ≤ 8 → (sX σ 1).length ≤ 4000 → 1 ≤ sC σ 1 → Ev d 167 3 [(3, .int (shN n)), (1, .long b), (0, .ref 0)] [] σ (fbQ σ (fbn b n (sX σ 1)))
  | 0, σ, _, hl, hc => by
    refine ev_iload_n d167_3 rfl m0 rfl ?_
    refine ev_if_lt d167_4 (t := 66) (aj rfl) rfl (fun _ => ?_) (fun z => absurd (by decide) z)
    exact ev_vret mT_167 d167_66 ⟨rfl, sC σ 1, Grow.rf, uX_self.symm⟩
  | n + 1, σ, hn, hl, hc => by
    refine fb_it hd (nI_pos (by omega)) hl hc (fun c' k s hG => ?_)
    rw [show shN (n + 1) = nI (8 * n) from rfl, shN_s]
    have hc' : 1 ≤ c' := by have := hG.1; omega
    refine Ev.mono (fb_loop hd n _ (by omega) (by rw [sX_uX]; exact fb_len hl) (by rw [sC_uX]; exact hc')) (fun o s9 k9 n9 hq => ?_)
    obtain ⟨rfl, c2, hG2, rfl⟩ := hq
    rw [sC_uX] at hG2
    refine ⟨rfl, c2, hG.tr hG2, ?_⟩
    rw [uX_uX, sX_uX]
    rfl
theorem sp_feedBytes {b : Int64} {d : Nat} {σ : SS} (hd : 2 ≤ d) (hl : (sX σ 1).length ≤ 4000) (hc : 1 ≤ sC σ 1) : Ev d 167 0 [(0, .ref 0), (1, .long b)] [] σ (fbQ σ (fbn b 8 (sX σ 1))) := by
  refine ev_bipush d167_0 cb_56 rfl ?_
  refine ev_istore_n mL_167 d167_2 rfl (by decide) (lo2 := [(3, .int 56), (0, .ref 0), (1, .long b)]) rfl rfl ?_
  refine Ev.sub (lo2 := [(3, .int (shN 8)), (1, .long b), (0, .ref 0)]) (fun q hq => ?_) (fb_loop hd 8 σ (by omega) hl hc)
  rcases List.mem_cons.mp hq with rfl | hq
  · exact .head _
  · rcases List.mem_cons.mp hq with rfl | hq
    · exact .tail _ (.tail _ (.head _))
    · rcases List.mem_cons.mp hq with rfl | hq
      · exact .tail _ (.head _)
      · cases hq
