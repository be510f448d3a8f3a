/-! lines of the manuscript; remembering it; write() -/
def lcL : List Int32 → Nat
  | [] => 0
  | x :: r => (if x = 10 ∨ r = [] then 1 else 0) + lcL r
theorem lcL_drop {xs : List Int32} {i : Nat} (h : i < xs.length) : lcL (xs.drop i) = (if xs.getD i 0 = 10 ∨ i + 1 = xs.length then 1 else 0) + lcL (xs.drop (i + 1)) := by
  rw [List.drop_eq_getElem_cons h, lcL]
  have e1 : xs.getD i 0 = xs[i] := by simp [List.getD_eq_getElem?_getD, h]
  have e2 : (xs.drop (i + 1) = []) ↔ i + 1 = xs.length := by rw [List.drop_eq_nil_iff]; omega
  rw [e1]
  by_cases h10 : xs[i] = 10
  · rw [if_pos (Or.inl h10), if_pos (Or.inl h10)]
  · by_cases hl : i + 1 = xs.length
    · rw [if_pos (Or.inr (e2.mpr hl)), if_pos (Or.inr hl)]
    · rw [if_neg (fun q => q.elim h10 (fun z => hl (e2.mp z))), if_neg (fun q => q.elim h10 hl)]
theorem lcL_le (xs : List Int32) : lcL xs ≤ xs.length := by
  induction xs with
  | nil => exact Nat.le_refl _
  | cons x r ih => rw [lcL, List.length_cons]; split <;> omega
abbrev cX11_lineCount : ByteArray := prog_1_method_24_code
def yX11_lineCount : MethodName := ⟨RX11, "lineCount", "()I"⟩
theorem wcX11_lineCount : Cond.code yX11_lineCount cX11_lineCount 3 (some .int) ∈ tb := tb_3 (i := 194) rfl rfl
theorem wnX11_lineCount : Cond.instanceMethod yX11_lineCount ∈ tb := tb_3 (i := 193) (by decide +kernel) rfl
theorem wlX11_lineCount : Cond.selects RX11 yX11_lineCount yX11_lineCount ∈ tb := tb_s (i := 2) (by decide +kernel) rfl
theorem YX11_lineCount : Yv yX11_lineCount cX11_lineCount 3 (some .int) 0 := ⟨wcX11_lineCount, wlX11_lineCount, wnX11_lineCount, wi_11, by decide +kernel, by decide +kernel, by decide +kernel⟩
theorem dX11_lineCount_0 : decode cX11_lineCount 0 = .ok (.iconst 0, 1) := by decide +kernel
theorem dX11_lineCount_1 : decode cX11_lineCount 1 = .ok (.istore_n 1, 1) := by decide +kernel
theorem dX11_lineCount_2 : decode cX11_lineCount 2 = .ok (.iconst 0, 1) := by decide +kernel
theorem dX11_lineCount_3 : decode cX11_lineCount 3 = .ok (.istore_n 2, 1) := by decide +kernel
theorem dX11_lineCount_4 : decode cX11_lineCount 4 = .ok (.iload_n 2, 1) := by decide +kernel
theorem dX11_lineCount_5 : decode cX11_lineCount 5 = .ok (.aload_n 0, 1) := by decide +kernel
theorem dX11_lineCount_6 : decode cX11_lineCount 6 = .ok (.getfield 16, 3) := by decide +kernel
theorem dX11_lineCount_9 : decode cX11_lineCount 9 = .ok (.getfield 89, 3) := by decide +kernel
theorem dX11_lineCount_12 : decode cX11_lineCount 12 = .ok (.if_icmp .ge 38, 3) := by decide +kernel
theorem dX11_lineCount_15 : decode cX11_lineCount 15 = .ok (.aload_n 0, 1) := by decide +kernel
theorem dX11_lineCount_16 : decode cX11_lineCount 16 = .ok (.getfield 16, 3) := by decide +kernel
theorem dX11_lineCount_19 : decode cX11_lineCount 19 = .ok (.iload_n 2, 1) := by decide +kernel
theorem dX11_lineCount_20 : decode cX11_lineCount 20 = .ok (.invokevirtual 132, 3) := by decide +kernel
theorem dX11_lineCount_23 : decode cX11_lineCount 23 = .ok (.bipush 10, 2) := by decide +kernel
theorem dX11_lineCount_25 : decode cX11_lineCount 25 = .ok (.if_icmp .eq 16, 3) := by decide +kernel
theorem dX11_lineCount_28 : decode cX11_lineCount 28 = .ok (.iload_n 2, 1) := by decide +kernel
theorem dX11_lineCount_29 : decode cX11_lineCount 29 = .ok (.iconst 1, 1) := by decide +kernel
theorem dX11_lineCount_30 : decode cX11_lineCount 30 = .ok (.iadd, 1) := by decide +kernel
theorem dX11_lineCount_31 : decode cX11_lineCount 31 = .ok (.aload_n 0, 1) := by decide +kernel
theorem dX11_lineCount_32 : decode cX11_lineCount 32 = .ok (.getfield 16, 3) := by decide +kernel
theorem dX11_lineCount_35 : decode cX11_lineCount 35 = .ok (.getfield 89, 3) := by decide +kernel
theorem dX11_lineCount_38 : decode cX11_lineCount 38 = .ok (.if_icmp .ne 6, 3) := by decide +kernel
theorem dX11_lineCount_41 : decode cX11_lineCount 41 = .ok (.iinc 1 1, 3) := by decide +kernel
theorem dX11_lineCount_44 : decode cX11_lineCount 44 = .ok (.iinc 2 1, 3) := by decide +kernel
theorem dX11_lineCount_47 : decode cX11_lineCount 47 = .ok (.goto (-43), 3) := by decide +kernel
theorem dX11_lineCount_50 : decode cX11_lineCount 50 = .ok (.iload_n 1, 1) := by decide +kernel
theorem dX11_lineCount_51 : decode cX11_lineCount 51 = .ok (.ireturn, 1) := by decide +kernel
set_option maxHeartbeats 4000000 in
set_option maxRecDepth 100000 in
theorem lp_X11_lineCount {p : Program} {l : Launch} {e : Env} {s : State} {m : MethodId} {args : Array Value} {below : List Frame} {meth : Method} {cd : Code} {A : Nat → Prop} {D : va_G} {G : Nat → ClassId} {t : Nat → Nat} (X : Cx p s m args meth cd cX11_lineCount 3 RX11 D G t A) (hr : meth.sig.returnType = some .int) {N : Nat} {ad : Nat → Nat} {cl : Nat → va_E} {c : Nat → Nat} {xs : Nat → List Int32} {v : Nat → Nat → Int32} {g : Nat → Nat → Int32} {nb : Nat → Nat} (Wx : XW G N ad cl c xs v g nb) {d : Nat} (hd : 2 ≤ d) : ∀ (n i k : Nat) (H : Heap) (locs : List Loc) (cells slots : Nat) (ls : Array Slot), i + n = (xs 3).length → k + lcL ((xs 3).drop i) = lcL (xs 3) → cells + 0 ≤ 0 → slots + 0 ≤ 0 → Wd D A s H locs N ad cl → lv_has ls 3 [(2, .int (nI i)), (1, .int (nI k)), (0, .ref (ad 0))] → W p l e (rmD d 0 0) s m args below meth cd H locs cells slots (MQ below (va_Qi (fun r u => r = nI (lcL (xs 3)) ∧ u = (N, ad, cl)) (PB D G A) A) args s 0 0 A) (F0 m 4 ls []) := by
  obtain ⟨hx, hb, hml, hown, hts, -⟩ := id X
  have hR := Wx.2.1 3 (by decide +kernel)
  have hcM := hR.2.2.2.2.2
  have hcx := hR.2.2.2.1
  intro n
  induction n with
  | zero =>
    intro i k H locs cells slots ls hi hk hce hse w hl
    refine lv_iload_n hx hb dX11_lineCount_4 rfl (lv_at hl 0 rfl) ?_
    refine lv_aload_n hx hb dX11_lineCount_5 rfl (lv_at hl 2 rfl) ?_
    refine g_get X w 0 rfl (by have := Wx.1; omega) (Wx.o xm_0) kc11 1 (by decide) rfl k_RX11_16 (v := .ref (ad 3)) rfl dX11_lineCount_6 ?_
    refine g_getN X w 3 rfl (by have := Wx.1; omega) (Wx.2.1 3 (by decide +kernel)).2.1 kc5 1 (by decide) rfl k_RX11_89 (v := .int (nI (xs 3).length)) rfl dX11_lineCount_9 ?_
    refine lv_icmp_ge (tgt := 50) hx hb dX11_lineCount_12 (by decide) (fun h1 => ?_) (fun h1 => absurd (nI_le (by omega) (by omega)) h1)
    refine lv_iload_n hx hb dX11_lineCount_50 rfl (lv_at hl 1 rfl) ?_
    refine e_I X hr w ⟨?_, rfl⟩ (by omega) (by omega) dX11_lineCount_51
    rw [← hk, List.drop_eq_nil_iff.mpr (by omega)]; rfl
  | succ n ih =>
    intro i k H locs cells slots ls hi hk hce hse w hl
    have g1 : rget (xs 3) (nI i) = (xs 3).getD i 0 := rget_at (by omega) (by omega)
    have hdr := lcL_drop (xs := xs 3) (i := i) (by omega)
    have hle := lcL_le (xs 3)
    refine lv_iload_n hx hb dX11_lineCount_4 rfl (lv_at hl 0 rfl) ?_
    refine lv_aload_n hx hb dX11_lineCount_5 rfl (lv_at hl 2 rfl) ?_
    refine g_get X w 0 rfl (by have := Wx.1; omega) (Wx.o xm_0) kc11 1 (by decide) rfl k_RX11_16 (v := .ref (ad 3)) rfl dX11_lineCount_6 ?_
    refine g_getN X w 3 rfl (by have := Wx.1; omega) (Wx.2.1 3 (by decide +kernel)).2.1 kc5 1 (by decide) rfl k_RX11_89 (v := .int (nI (xs 3).length)) rfl dX11_lineCount_9 ?_
    refine lv_icmp_ge (tgt := 50) hx hb dX11_lineCount_12 (by decide) (fun h2 => absurd h2 (nI_ge (by omega) (by omega))) (fun h2 => ?_)
    refine lv_aload_n hx hb dX11_lineCount_15 rfl (lv_at hl 2 rfl) ?_
    refine g_get X w 0 rfl (by have := Wx.1; omega) (Wx.o xm_0) kc11 1 (by decide) rfl k_RX11_16 (v := .ref (ad 3)) rfl dX11_lineCount_16 ?_
    refine lv_iload_n hx hb dX11_lineCount_19 rfl (lv_at hl 0 rfl) ?_
    refine c_I (As := [.int (nI i)]) (rest := []) X w (ct_X5_get l D G t N ad cl 3 (c 3) (xs 3) hR (nI i) (d - 1)) YX5_get k_RX11_132 (3) rfl (by have := Wx.1; omega) hR.2.1 kc5 (rfl) rfl rfl hl.1 (rm_call (by omega) (by decide)) (Nat.le_of_ble_eq_true rfl) dX11_lineCount_20 (⟨hce, hse⟩) (fun r u H locs hp w => ?_)
    obtain ⟨rfl, rfl⟩ := hp
    have w : Wd D A s H locs N ad cl := w
    refine lv_eqi g1 ?_
    refine lv_bipush (v := 10) hx hb dX11_lineCount_23 (by decide) ?_
    refine lv_icmp_eq (tgt := 41) hx hb dX11_lineCount_25 (by decide) (fun h3 => ?_) (fun h3 => ?_)
    · have hone : lcL ((xs 3).drop i) = 1 + lcL ((xs 3).drop (i + 1)) := by rw [hdr, if_pos (Or.inl h3)]
      refine lv_iinc (v := nI (k + 1)) (lv' := [(1, .int (nI (k + 1))), (2, .int (nI i)), (0, .ref (ad 0))]) hx hb dX11_lineCount_41 hl (k := 1) rfl (nI_1 _) (by decide) rfl (fun ls hl => ?_)
      refine lv_iinc (v := nI (i + 1)) (lv' := [(2, .int (nI (i + 1))), (1, .int (nI (k + 1))), (0, .ref (ad 0))]) hx hb dX11_lineCount_44 hl (k := 1) rfl (nI_1 _) (by decide) rfl (fun ls hl => ?_)
      refine lv_goto (tgt := 4) hx hb dX11_lineCount_47 (by decide) ?_
      exact ih (i + 1) (k + 1) _ _ _ _ _ (by omega) (by omega) hce hse w (lv_sub hl [0, 1, 2] rfl)
    · refine lv_iload_n hx hb dX11_lineCount_28 rfl (lv_at hl 0 rfl) ?_
      refine lv_iconst (v := 1) hx hb dX11_lineCount_29 (by decide) ?_
      refine lv_iadd hx hb dX11_lineCount_30 ?_
      refine lv_aload_n hx hb dX11_lineCount_31 rfl (lv_at hl 2 rfl) ?_
      refine g_get X w 0 rfl (by have := Wx.1; omega) (Wx.o xm_0) kc11 1 (by decide) rfl k_RX11_16 (v := .ref (ad 3)) rfl dX11_lineCount_32 ?_
      refine g_getN X w 3 rfl (by have := Wx.1; omega) (Wx.2.1 3 (by decide +kernel)).2.1 kc5 1 (by decide) rfl k_RX11_89 (v := .int (nI (xs 3).length)) rfl dX11_lineCount_35 ?_
      refine lv_icmp_ne (tgt := 44) hx hb dX11_lineCount_38 (by decide) (fun h4 => ?_) (fun h4 => ?_)
      · have hone : lcL ((xs 3).drop i) = 0 + lcL ((xs 3).drop (i + 1)) := by rw [hdr, if_neg (fun q => q.elim h3 (fun z => h4 (by rw [nI_1, z])))]
        refine lv_iinc (v := nI (i + 1)) (lv' := [(2, .int (nI (i + 1))), (1, .int (nI k)), (0, .ref (ad 0))]) hx hb dX11_lineCount_44 hl (k := 0) rfl (nI_1 _) (by decide) rfl (fun ls hl => ?_)
        refine lv_goto (tgt := 4) hx hb dX11_lineCount_47 (by decide) ?_
        exact ih (i + 1) k _ _ _ _ _ (by omega) (by omega) hce hse w (lv_sub hl [0, 1, 2] rfl)
      · have hone : lcL ((xs 3).drop i) = 1 + lcL ((xs 3).drop (i + 1)) := by rw [hdr, if_pos (Or.inr ((nI_eq (by omega) (by omega)).mp (by rw [← nI_1]; exact h4)))]
        refine lv_iinc (v := nI (k + 1)) (lv' := [(1, .int (nI (k + 1))), (2, .int (nI i)), (0, .ref (ad 0))]) hx hb dX11_lineCount_41 hl (k := 1) rfl (nI_1 _) (by decide) rfl (fun ls hl => ?_)
        refine lv_iinc (v := nI (i + 1)) (lv' := [(2, .int (nI (i + 1))), (1, .int (nI (k + 1))), (0, .ref (ad 0))]) hx hb dX11_lineCount_44 hl (k := 1) rfl (nI_1 _) (by decide) rfl (fun ls hl => ?_)
        refine lv_goto (tgt := 4) hx hb dX11_lineCount_47 (by decide) ?_
        exact ih (i + 1) (k + 1) _ _ _ _ _ (by omega) (by omega) hce hse w (lv_sub hl [0, 1, 2] rfl)
set_option maxHeartbeats 4000000 in
set_option maxRecDepth 100000 in
theorem ct_X11_lineCount (l : Launch) (D : va_G) (G : Nat → ClassId) (t : Nat → Nat) (N : Nat) (ad : Nat → Nat) (cl : Nat → va_E) (c : Nat → Nat) (xs : Nat → List Int32) (v : Nat → Nat → Int32) (g : Nat → Nat → Int32) (nb : Nat → Nat) (Wx : XW G N ad cl c xs v g nb) (d : Nat) (hd : 2 ≤ d) : CtI l yX11_lineCount cX11_lineCount 3 (rmD d 0 0) D G t (N, ad, cl) [.ref (ad 0)] (fun r u => r = nI (lcL (xs 3)) ∧ u = (N, ad, cl)) := by
  refine ct_I (own := RX11) (by decide +kernel) rfl (Nat.le_of_ble_eq_true rfl) rfl ?_
  intro p e s m args below meth cd A ls X hr hl w
  obtain ⟨hx, hb, hml, hown, hts, -⟩ := id X
  have hl : lv_has ls 3 [(0, .ref (ad 0))] := hl
  refine lv_iconst (v := 0) hx hb dX11_lineCount_0 (by decide) ?_
  refine lv_istore_n (lv' := [(1, .int (0)), (0, .ref (ad 0))]) hx hb dX11_lineCount_1 rfl hl (by decide) rfl (fun ls hl => ?_)
  refine lv_iconst (v := 0) hx hb dX11_lineCount_2 (by decide) ?_
  refine lv_istore_n (lv' := [(2, .int (0)), (1, .int (0)), (0, .ref (ad 0))]) hx hb dX11_lineCount_3 rfl hl (by decide) rfl (fun ls hl => ?_)
  exact lp_X11_lineCount X hr Wx hd _ 0 0 _ _ _ _ _ (Nat.zero_add _) (by rw [List.drop_zero, Nat.zero_add]) (Nat.le_refl _) (Nat.le_refl _) w (lv_sub hl [0, 1, 2] rfl)
