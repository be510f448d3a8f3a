/-! remember() and write() -/
theorem wm_min : Cond.static Lib.Math.min.name ∈ tb := tb_3 (i := 188) (by decide +kernel) rfl
theorem wm_minc : Cond.code Lib.Math.min.name Lib.Math.min.code 2 (some .int) ∈ tb := tb_3 (i := 189) (by decide +kernel) rfl
theorem wm_ini : Cond.initialized "java/lang/Math" ∈ tb := tb_1 (i := 15) (by decide +kernel) rfl
theorem wm_281 : Cond.methodLink RX11 281 Lib.Math.min.name ∈ tb := tb_3 (i := 187) (by decide +kernel) rfl
section
variable {p : Program} {l : Launch} {e : Env} {R : Room} {s : State} {m : MethodId} {args : Array Value} {below : List Frame} {meth : Method} {c : Code} {H : Heap} {locs : List Loc} {cells slots : Nat} {Q : State → Prop} {pc : Nat} {ls : Array Slot} {rest : List Value}
variable {cc : ByteArray} {nL : Nat} {own : String} {D : va_G} {G : Nat → ClassId} {t : Nat → Nat} {A : Nat → Prop}
theorem g_min (X : Cx p s m args meth c cc nL own D G t A) (hls : ls.size = nL) {idx : Nat} (hl : Cond.methodLink own idx Lib.Math.min.name ∈ tb) (h8 : (rest.map fun v => v.category).sum ≤ 8) (hR : 1 ≤ R.frames ∧ 60 ≤ R.locals) (hc : cells ≤ R.cells) (hs : slots ≤ R.slots) {x y z : Int32} (hz : (if y < x then y else x) = z) (hdg : decode cc pc = .ok (.invokestatic idx, 3)) (kk : W p l e R s m args below meth c H locs cells slots Q (F0 m (pc + 3) ls (.int z :: rest))) : W p l e R s m args below meth c H locs cells slots Q (F0 m pc ls (.int y :: .int x :: rest)) := by
  subst hz
  obtain ⟨hx, hb, hml, hown, hts, -⟩ := id X
  exact va_mmin hx hb (hml.trans hls.symm) hown (hts _ hl) (hts _ wm_min) (hts _ wm_ini) (hts _ wm_minc) hR.1 (by have := hR.2; omega) hc hs hdg kk
end
theorem fq_at {ad : Nat → Nat} {k : Nat} (h : k < 6) : fq ad k = some (ad (10 + 2 * k)) := if_pos h
abbrev cX11_remember : ByteArray := prog_1_method_25_code
def yX11_remember : MethodName := ⟨RX11, "remember", "()V"⟩
theorem wcX11_remember : Cond.code yX11_remember cX11_remember 1 none ∈ tb := tb_3 (i := 169) rfl rfl
theorem wnX11_remember : Cond.instanceMethod yX11_remember ∈ tb := tb_3 (i := 168) (by decide +kernel) rfl
theorem wlX11_remember : Cond.selects RX11 yX11_remember yX11_remember ∈ tb := tb_s (i := 1) (by decide +kernel) rfl
theorem YX11_remember : Yv yX11_remember cX11_remember 1 none 0 := ⟨wcX11_remember, wlX11_remember, wnX11_remember, wi_11, by decide +kernel, by decide +kernel, by decide +kernel⟩
theorem dX11_remember_0 : decode cX11_remember 0 = .ok (.aload_n 0, 1) := by decide +kernel
theorem dX11_remember_1 : decode cX11_remember 1 = .ok (.getfield 25, 3) := by decide +kernel
theorem dX11_remember_4 : decode cX11_remember 4 = .ok (.aload_n 0, 1) := by decide +kernel
theorem dX11_remember_5 : decode cX11_remember 5 = .ok (.getfield 125, 3) := by decide +kernel
theorem dX11_remember_8 : decode cX11_remember 8 = .ok (.aaload, 1) := by decide +kernel
theorem dX11_remember_9 : decode cX11_remember 9 = .ok (.aload_n 0, 1) := by decide +kernel
theorem dX11_remember_10 : decode cX11_remember 10 = .ok (.getfield 16, 3) := by decide +kernel
theorem dX11_remember_13 : decode cX11_remember 13 = .ok (.invokevirtual 96, 3) := by decide +kernel
theorem dX11_remember_16 : decode cX11_remember 16 = .ok (.aload_n 0, 1) := by decide +kernel
theorem dX11_remember_17 : decode cX11_remember 17 = .ok (.aload_n 0, 1) := by decide +kernel
theorem dX11_remember_18 : decode cX11_remember 18 = .ok (.getfield 125, 3) := by decide +kernel
theorem dX11_remember_21 : decode cX11_remember 21 = .ok (.iconst 1, 1) := by decide +kernel
theorem dX11_remember_22 : decode cX11_remember 22 = .ok (.iadd, 1) := by decide +kernel
theorem dX11_remember_23 : decode cX11_remember 23 = .ok (.bipush 6, 2) := by decide +kernel
theorem dX11_remember_25 : decode cX11_remember 25 = .ok (.irem, 1) := by decide +kernel
theorem dX11_remember_26 : decode cX11_remember 26 = .ok (.putfield 125, 3) := by decide +kernel
theorem dX11_remember_29 : decode cX11_remember 29 = .ok (.aload_n 0, 1) := by decide +kernel
theorem dX11_remember_30 : decode cX11_remember 30 = .ok (.bipush 6, 2) := by decide +kernel
theorem dX11_remember_32 : decode cX11_remember 32 = .ok (.aload_n 0, 1) := by decide +kernel
theorem dX11_remember_33 : decode cX11_remember 33 = .ok (.getfield 122, 3) := by decide +kernel
theorem dX11_remember_36 : decode cX11_remember 36 = .ok (.iconst 1, 1) := by decide +kernel
theorem dX11_remember_37 : decode cX11_remember 37 = .ok (.iadd, 1) := by decide +kernel
theorem dX11_remember_38 : decode cX11_remember 38 = .ok (.invokestatic 281, 3) := by decide +kernel
theorem dX11_remember_41 : decode cX11_remember 41 = .ok (.putfield 122, 3) := by decide +kernel
theorem dX11_remember_44 : decode cX11_remember 44 = .ok (.return_, 1) := by decide +kernel
theorem k_RX11_125 : Cond.fieldLink RX11 125 RX11 "formerTop" "I" ∈ tb := tb_3 (i := 108) (by decide +kernel) rfl
theorem k_RX11_96 : Cond.methodLink RX11 96 yX5_copy ∈ tb := tb_3 (i := 170) (by decide +kernel) rfl
theorem k_RX11_122 : Cond.fieldLink RX11 122 RX11 "formerCount" "I" ∈ tb := tb_3 (i := 107) (by decide +kernel) rfl
set_option maxHeartbeats 4000000 in
set_option maxRecDepth 100000 in
theorem ct_X11_remember_0 (l : Launch) (D : va_G) (G : Nat → ClassId) (t : Nat → Nat) (N : Nat) (ad : Nat → Nat) (cl : Nat → va_E) (c : Nat → Nat) (xs : Nat → List Int32) (v : Nat → Nat → Int32) (g : Nat → Nat → Int32) (nb : Nat → Nat) (Wx : XW G N ad cl c xs v g nb) (hv : v 0 6 = 0) (hlen : (xs 3).length ≤ 131072) (d : Nat) (hd : 4 ≤ d) : CtV l yX11_remember cX11_remember 1 (rmD d (gmcN (c 10) 0 (xs 3).length) (gmsN (c 10) 0 (xs 3).length)) D G t (N, ad, cl) [.ref (ad 0)] (fun u => ∃ ad' cl', u = (N, ad', cl') ∧ XW G N ad' cl' (va_up c 10 (gcapN (c 10) 0 (xs 3).length)) (va_up xs 10 (xs 3)) (vset (vset v 0 6 1) 0 5 (if v 0 5 + 1 < 6 then v 0 5 + 1 else 6)) g nb ∧ FrX N ad cl ad' cl') := by
  refine ct_V (own := RX11) (by decide +kernel) rfl (Nat.le_of_ble_eq_true rfl) rfl ?_
  intro p e s m args below meth cd A ls X hr hin hl w
  obtain ⟨hx, hb, hml, hown, hts, -⟩ := id X
  have hl : lv_has ls 1 [(0, .ref (ad 0))] := hl
  have F : FrX N ad cl ad cl := FrX.rf
  refine lv_aload_n hx hb dX11_remember_0 rfl (lv_at hl 0 rfl) ?_
  refine g_get X w 0 rfl (by have := Wx.1; omega) (Wx.o xm_0) kc11 4 (by decide) rfl k_RX11_25 (v := .ref (ad 9)) rfl dX11_remember_1 ?_
  refine lv_aload_n hx hb dX11_remember_4 rfl (lv_at hl 0 rfl) ?_
  refine g_get X w 0 rfl (by have := Wx.1; omega) (Wx.o xm_0) kc11 6 (by decide) rfl k_RX11_125 (v := .int (0)) (by rw [← hv]; rfl) dX11_remember_5 ?_
  refine g_aldQ X w 9 rfl (by have := Wx.1; omega) Wx.2.2.2.2.1 (x := 0) (by unfold vp_in; decide) (v := ad 10) (fq_at (by decide)) dX11_remember_8 ?_
  refine lv_aload_n hx hb dX11_remember_9 rfl (lv_at hl 0 rfl) ?_
  refine g_get X w 0 rfl (by have := Wx.1; omega) (Wx.o xm_0) kc11 1 (by decide) rfl k_RX11_16 (v := .ref (ad 3)) rfl dX11_remember_10 ?_
  refine c_V (As := [.ref (ad 3)]) (rest := []) X w (ct_X5_copy l D G t N ad cl 10 _ _ (Wx.2.1 10 (by decide +kernel)) 3 _ _ (Wx.2.1 3 (by decide +kernel)) (by decide) (by decide) (by decide) hlen (d - 1) (by omega)) YX5_copy k_RX11_96 (10) rfl (by have := Wx.1; omega) (Wx.2.1 10 (by decide +kernel)).2.1 kc5 (rfl) rfl rfl hl.1 (rm_call (by omega) (by decide)) (Nat.le_of_ble_eq_true rfl) dX11_remember_13 (⟨by show 0 + _ ≤ _; rw [Nat.zero_add]; exact Nat.le_refl _, by show 0 + _ ≤ _; rw [Nat.zero_add]; exact Nat.le_refl _⟩) (fun u H locs hp w => ?_)
  obtain ⟨ad1, cl2, rfl, hR9, hF9⟩ := hp
  have w : Wd D A s H locs N ad1 cl2 := w
  have Wx := Wx.row (q := 10) (by decide +kernel) hF9 hR9
  have F : FrX N ad cl ad1 cl2 := F.tr (FrX.of (q := 10) (by decide +kernel) hF9)
  refine lv_aload_n hx hb dX11_remember_16 rfl (lv_at hl 0 rfl) ?_
  refine lv_aload_n hx hb dX11_remember_17 rfl (lv_at hl 0 rfl) ?_
  refine g_get X w 0 (F.1 0 (by have := Wx.1; omega) rfl) (by have := Wx.1; omega) (Wx.o xm_0) kc11 6 (by decide) rfl k_RX11_125 (v := .int (0)) (by rw [← hv]; rfl) dX11_remember_18 ?_
  refine lv_iconst (v := 1) hx hb dX11_remember_21 (by decide) ?_
  refine lv_iadd hx hb dX11_remember_22 ?_
  refine lv_eqi (show (0 : Int32) + 1 = 1 by decide) ?_
  refine lv_bipush (v := 6) hx hb dX11_remember_23 (by decide) ?_
  refine lv_irem hx hb dX11_remember_25 (by decide) ?_
  refine lv_eqi (show (1 : Int32) - 1 / 6 * 6 = 1 by decide) ?_
  refine x_puti X w Wx xm_0 (by decide) (F.1 0 (by have := Wx.1; omega) rfl) kc11 6 (by decide) rfl k_RX11_125 rfl (x := 1) rfl rfl rfl dX11_remember_26 (fun H locs cl3 w Wx F9 => ?_)
  have F := F.tr F9
  refine lv_aload_n hx hb dX11_remember_29 rfl (lv_at hl 0 rfl) ?_
  refine lv_bipush (v := 6) hx hb dX11_remember_30 (by decide) ?_
  refine lv_aload_n hx hb dX11_remember_32 rfl (lv_at hl 0 rfl) ?_
  refine g_get X w 0 (F.1 0 (by have := Wx.1; omega) rfl) (by have := Wx.1; omega) (Wx.o xm_0) kc11 5 (by decide) rfl k_RX11_122 (v := .int (v 0 5)) rfl dX11_remember_33 ?_
  refine lv_iconst (v := 1) hx hb dX11_remember_36 (by decide) ?_
  refine lv_iadd hx hb dX11_remember_37 ?_
  refine g_min X hl.1 wm_281 (Nat.le_of_ble_eq_true rfl) ⟨by show 1 ≤ d; omega, rm_loc (by omega) (by decide)⟩ (by show 0 + _ ≤ _; rw [Nat.zero_add]; exact Nat.le_refl _) (by show 0 + _ ≤ _; rw [Nat.zero_add]; exact Nat.le_refl _) (z := if v 0 5 + 1 < 6 then v 0 5 + 1 else 6) rfl dX11_remember_38 ?_
  refine x_puti X w Wx xm_0 (by decide) (F.1 0 (by have := Wx.1; omega) rfl) kc11 5 (by decide) rfl k_RX11_122 rfl (x := if v 0 5 + 1 < 6 then v 0 5 + 1 else 6) rfl rfl rfl dX11_remember_41 (fun H locs cl4 w Wx F9 => ?_)
  have F := F.tr F9
  exact e_V X hr w ⟨ad1, cl4, rfl, Wx, F⟩ (by show 0 + _ ≤ _; rw [Nat.zero_add]; exact Nat.le_refl _) (by show 0 + _ ≤ _; rw [Nat.zero_add]; exact Nat.le_refl _) dX11_remember_44
set_option maxHeartbeats 4000000 in
set_option maxRecDepth 100000 in
theorem ct_X11_remember_1 (l : Launch) (D : va_G) (G : Nat → ClassId) (t : Nat → Nat) (N : Nat) (ad : Nat → Nat) (cl : Nat → va_E) (c : Nat → Nat) (xs : Nat → List Int32) (v : Nat → Nat → Int32) (g : Nat → Nat → Int32) (nb : Nat → Nat) (Wx : XW G N ad cl c xs v g nb) (hv : v 0 6 = 1) (hlen : (xs 3).length ≤ 131072) (d : Nat) (hd : 4 ≤ d) : CtV l yX11_remember cX11_remember 1 (rmD d (gmcN (c 12) 0 (xs 3).length) (gmsN (c 12) 0 (xs 3).length)) D G t (N, ad, cl) [.ref (ad 0)] (fun u => ∃ ad' cl', u = (N, ad', cl') ∧ XW G N ad' cl' (va_up c 12 (gcapN (c 12) 0 (xs 3).length)) (va_up xs 12 (xs 3)) (vset (vset v 0 6 2) 0 5 (if v 0 5 + 1 < 6 then v 0 5 + 1 else 6)) g nb ∧ FrX N ad cl ad' cl') := by
  refine ct_V (own := RX11) (by decide +kernel) rfl (Nat.le_of_ble_eq_true rfl) rfl ?_
  intro p e s m args below meth cd A ls X hr hin hl w
  obtain ⟨hx, hb, hml, hown, hts, -⟩ := id X
  have hl : lv_has ls 1 [(0, .ref (ad 0))] := hl
  have F : FrX N ad cl ad cl := FrX.rf
  refine lv_aload_n hx hb dX11_remember_0 rfl (lv_at hl 0 rfl) ?_
  refine g_get X w 0 rfl (by have := Wx.1; omega) (Wx.o xm_0) kc11 4 (by decide) rfl k_RX11_25 (v := .ref (ad 9)) rfl dX11_remember_1 ?_
  refine lv_aload_n hx hb dX11_remember_4 rfl (lv_at hl 0 rfl) ?_
  refine g_get X w 0 rfl (by have := Wx.1; omega) (Wx.o xm_0) kc11 6 (by decide) rfl k_RX11_125 (v := .int (1)) (by rw [← hv]; rfl) dX11_remember_5 ?_
  refine g_aldQ X w 9 rfl (by have := Wx.1; omega) Wx.2.2.2.2.1 (x := 1) (by unfold vp_in; decide) (v := ad 12) (fq_at (by decide)) dX11_remember_8 ?_
  refine lv_aload_n hx hb dX11_remember_9 rfl (lv_at hl 0 rfl) ?_
  refine g_get X w 0 rfl (by have := Wx.1; omega) (Wx.o xm_0) kc11 1 (by decide) rfl k_RX11_16 (v := .ref (ad 3)) rfl dX11_remember_10 ?_
  refine c_V (As := [.ref (ad 3)]) (rest := []) X w (ct_X5_copy l D G t N ad cl 12 _ _ (Wx.2.1 12 (by decide +kernel)) 3 _ _ (Wx.2.1 3 (by decide +kernel)) (by decide) (by decide) (by decide) hlen (d - 1) (by omega)) YX5_copy k_RX11_96 (12) rfl (by have := Wx.1; omega) (Wx.2.1 12 (by decide +kernel)).2.1 kc5 (rfl) rfl rfl hl.1 (rm_call (by omega) (by decide)) (Nat.le_of_ble_eq_true rfl) dX11_remember_13 (⟨by show 0 + _ ≤ _; rw [Nat.zero_add]; exact Nat.le_refl _, by show 0 + _ ≤ _; rw [Nat.zero_add]; exact Nat.le_refl _⟩) (fun u H locs hp w => ?_)
  obtain ⟨ad1, cl2, rfl, hR9, hF9⟩ := hp
  have w : Wd D A s H locs N ad1 cl2 := w
  have Wx := Wx.row (q := 12) (by decide +kernel) hF9 hR9
  have F : FrX N ad cl ad1 cl2 := F.tr (FrX.of (q := 12) (by decide +kernel) hF9)
  refine lv_aload_n hx hb dX11_remember_16 rfl (lv_at hl 0 rfl) ?_
  refine lv_aload_n hx hb dX11_remember_17 rfl (lv_at hl 0 rfl) ?_
  refine g_get X w 0 (F.1 0 (by have := Wx.1; omega) rfl) (by have := Wx.1; omega) (Wx.o xm_0) kc11 6 (by decide) rfl k_RX11_125 (v := .int (1)) (by rw [← hv]; rfl) dX11_remember_18 ?_
  refine lv_iconst (v := 1) hx hb dX11_remember_21 (by decide) ?_
  refine lv_iadd hx hb dX11_remember_22 ?_
  refine lv_eqi (show (1 : Int32) + 1 = 2 by decide) ?_
  refine lv_bipush (v := 6) hx hb dX11_remember_23 (by decide) ?_
  refine lv_irem hx hb dX11_remember_25 (by decide) ?_
  refine lv_eqi (show (2 : Int32) - 2 / 6 * 6 = 2 by decide) ?_
  refine x_puti X w Wx xm_0 (by decide) (F.1 0 (by have := Wx.1; omega) rfl) kc11 6 (by decide) rfl k_RX11_125 rfl (x := 2) rfl rfl rfl dX11_remember_26 (fun H locs cl3 w Wx F9 => ?_)
  have F := F.tr F9
  refine lv_aload_n hx hb dX11_remember_29 rfl (lv_at hl 0 rfl) ?_
  refine lv_bipush (v := 6) hx hb dX11_remember_30 (by decide) ?_
  refine lv_aload_n hx hb dX11_remember_32 rfl (lv_at hl 0 rfl) ?_
  refine g_get X w 0 (F.1 0 (by have := Wx.1; omega) rfl) (by have := Wx.1; omega) (Wx.o xm_0) kc11 5 (by decide) rfl k_RX11_122 (v := .int (v 0 5)) rfl dX11_remember_33 ?_
  refine lv_iconst (v := 1) hx hb dX11_remember_36 (by decide) ?_
  refine lv_iadd hx hb dX11_remember_37 ?_
  refine g_min X hl.1 wm_281 (Nat.le_of_ble_eq_true rfl) ⟨by show 1 ≤ d; omega, rm_loc (by omega) (by decide)⟩ (by show 0 + _ ≤ _; rw [Nat.zero_add]; exact Nat.le_refl _) (by show 0 + _ ≤ _; rw [Nat.zero_add]; exact Nat.le_refl _) (z := if v 0 5 + 1 < 6 then v 0 5 + 1 else 6) rfl dX11_remember_38 ?_
  refine x_puti X w Wx xm_0 (by decide) (F.1 0 (by have := Wx.1; omega) rfl) kc11 5 (by decide) rfl k_RX11_122 rfl (x := if v 0 5 + 1 < 6 then v 0 5 + 1 else 6) rfl rfl rfl dX11_remember_41 (fun H locs cl4 w Wx F9 => ?_)
  have F := F.tr F9
  exact e_V X hr w ⟨ad1, cl4, rfl, Wx, F⟩ (by show 0 + _ ≤ _; rw [Nat.zero_add]; exact Nat.le_refl _) (by show 0 + _ ≤ _; rw [Nat.zero_add]; exact Nat.le_refl _) dX11_remember_44
set_option maxHeartbeats 4000000 in
set_option maxRecDepth 100000 in
theorem ct_X11_remember_2 (l : Launch) (D : va_G) (G : Nat → ClassId) (t : Nat → Nat) (N : Nat) (ad : Nat → Nat) (cl : Nat → va_E) (c : Nat → Nat) (xs : Nat → List Int32) (v : Nat → Nat → Int32) (g : Nat → Nat → Int32) (nb : Nat → Nat) (Wx : XW G N ad cl c xs v g nb) (hv : v 0 6 = 2) (hlen : (xs 3).length ≤ 131072) (d : Nat) (hd : 4 ≤ d) : CtV l yX11_remember cX11_remember 1 (rmD d (gmcN (c 14) 0 (xs 3).length) (gmsN (c 14) 0 (xs 3).length)) D G t (N, ad, cl) [.ref (ad 0)] (fun u => ∃ ad' cl', u = (N, ad', cl') ∧ XW G N ad' cl' (va_up c 14 (gcapN (c 14) 0 (xs 3).length)) (va_up xs 14 (xs 3)) (vset (vset v 0 6 3) 0 5 (if v 0 5 + 1 < 6 then v 0 5 + 1 else 6)) g nb ∧ FrX N ad cl ad' cl') := by
  refine ct_V (own := RX11) (by decide +kernel) rfl (Nat.le_of_ble_eq_true rfl) rfl ?_
  intro p e s m args below meth cd A ls X hr hin hl w
  obtain ⟨hx, hb, hml, hown, hts, -⟩ := id X
  have hl : lv_has ls 1 [(0, .ref (ad 0))] := hl
  have F : FrX N ad cl ad cl := FrX.rf
  refine lv_aload_n hx hb dX11_remember_0 rfl (lv_at hl 0 rfl) ?_
  refine g_get X w 0 rfl (by have := Wx.1; omega) (Wx.o xm_0) kc11 4 (by decide) rfl k_RX11_25 (v := .ref (ad 9)) rfl dX11_remember_1 ?_
  refine lv_aload_n hx hb dX11_remember_4 rfl (lv_at hl 0 rfl) ?_
  refine g_get X w 0 rfl (by have := Wx.1; omega) (Wx.o xm_0) kc11 6 (by decide) rfl k_RX11_125 (v := .int (2)) (by rw [← hv]; rfl) dX11_remember_5 ?_
  refine g_aldQ X w 9 rfl (by have := Wx.1; omega) Wx.2.2.2.2.1 (x := 2) (by unfold vp_in; decide) (v := ad 14) (fq_at (by decide)) dX11_remember_8 ?_
  refine lv_aload_n hx hb dX11_remember_9 rfl (lv_at hl 0 rfl) ?_
  refine g_get X w 0 rfl (by have := Wx.1; omega) (Wx.o xm_0) kc11 1 (by decide) rfl k_RX11_16 (v := .ref (ad 3)) rfl dX11_remember_10 ?_
  refine c_V (As := [.ref (ad 3)]) (rest := []) X w (ct_X5_copy l D G t N ad cl 14 _ _ (Wx.2.1 14 (by decide +kernel)) 3 _ _ (Wx.2.1 3 (by decide +kernel)) (by decide) (by decide) (by decide) hlen (d - 1) (by omega)) YX5_copy k_RX11_96 (14) rfl (by have := Wx.1; omega) (Wx.2.1 14 (by decide +kernel)).2.1 kc5 (rfl) rfl rfl hl.1 (rm_call (by omega) (by decide)) (Nat.le_of_ble_eq_true rfl) dX11_remember_13 (⟨by show 0 + _ ≤ _; rw [Nat.zero_add]; exact Nat.le_refl _, by show 0 + _ ≤ _; rw [Nat.zero_add]; exact Nat.le_refl _⟩) (fun u H locs hp w => ?_)
  obtain ⟨ad1, cl2, rfl, hR9, hF9⟩ := hp
  have w : Wd D A s H locs N ad1 cl2 := w
  have Wx := Wx.row (q := 14) (by decide +kernel) hF9 hR9
  have F : FrX N ad cl ad1 cl2 := F.tr (FrX.of (q := 14) (by decide +kernel) hF9)
  refine lv_aload_n hx hb dX11_remember_16 rfl (lv_at hl 0 rfl) ?_
  refine lv_aload_n hx hb dX11_remember_17 rfl (lv_at hl 0 rfl) ?_
  refine g_get X w 0 (F.1 0 (by have := Wx.1; omega) rfl) (by have := Wx.1; omega) (Wx.o xm_0) kc11 6 (by decide) rfl k_RX11_125 (v := .int (2)) (by rw [← hv]; rfl) dX11_remember_18 ?_
  refine lv_iconst (v := 1) hx hb dX11_remember_21 (by decide) ?_
  refine lv_iadd hx hb dX11_remember_22 ?_
  refine lv_eqi (show (2 : Int32) + 1 = 3 by decide) ?_
  refine lv_bipush (v := 6) hx hb dX11_remember_23 (by decide) ?_
  refine lv_irem hx hb dX11_remember_25 (by decide) ?_
  refine lv_eqi (show (3 : Int32) - 3 / 6 * 6 = 3 by decide) ?_
  refine x_puti X w Wx xm_0 (by decide) (F.1 0 (by have := Wx.1; omega) rfl) kc11 6 (by decide) rfl k_RX11_125 rfl (x := 3) rfl rfl rfl dX11_remember_26 (fun H locs cl3 w Wx F9 => ?_)
  have F := F.tr F9
  refine lv_aload_n hx hb dX11_remember_29 rfl (lv_at hl 0 rfl) ?_
  refine lv_bipush (v := 6) hx hb dX11_remember_30 (by decide) ?_
  refine lv_aload_n hx hb dX11_remember_32 rfl (lv_at hl 0 rfl) ?_
  refine g_get X w 0 (F.1 0 (by have := Wx.1; omega) rfl) (by have := Wx.1; omega) (Wx.o xm_0) kc11 5 (by decide) rfl k_RX11_122 (v := .int (v 0 5)) rfl dX11_remember_33 ?_
  refine lv_iconst (v := 1) hx hb dX11_remember_36 (by decide) ?_
  refine lv_iadd hx hb dX11_remember_37 ?_
  refine g_min X hl.1 wm_281 (Nat.le_of_ble_eq_true rfl) ⟨by show 1 ≤ d; omega, rm_loc (by omega) (by decide)⟩ (by show 0 + _ ≤ _; rw [Nat.zero_add]; exact Nat.le_refl _) (by show 0 + _ ≤ _; rw [Nat.zero_add]; exact Nat.le_refl _) (z := if v 0 5 + 1 < 6 then v 0 5 + 1 else 6) rfl dX11_remember_38 ?_
  refine x_puti X w Wx xm_0 (by decide) (F.1 0 (by have := Wx.1; omega) rfl) kc11 5 (by decide) rfl k_RX11_122 rfl (x := if v 0 5 + 1 < 6 then v 0 5 + 1 else 6) rfl rfl rfl dX11_remember_41 (fun H locs cl4 w Wx F9 => ?_)
  have F := F.tr F9
  exact e_V X hr w ⟨ad1, cl4, rfl, Wx, F⟩ (by show 0 + _ ≤ _; rw [Nat.zero_add]; exact Nat.le_refl _) (by show 0 + _ ≤ _; rw [Nat.zero_add]; exact Nat.le_refl _) dX11_remember_44
set_option maxHeartbeats 4000000 in
set_option maxRecDepth 100000 in
theorem ct_X11_remember_3 (l : Launch) (D : va_G) (G : Nat → ClassId) (t : Nat → Nat) (N : Nat) (ad : Nat → Nat) (cl : Nat → va_E) (c : Nat → Nat) (xs : Nat → List Int32) (v : Nat → Nat → Int32) (g : Nat → Nat → Int32) (nb : Nat → Nat) (Wx : XW G N ad cl c xs v g nb) (hv : v 0 6 = 3) (hlen : (xs 3).length ≤ 131072) (d : Nat) (hd : 4 ≤ d) : CtV l yX11_remember cX11_remember 1 (rmD d (gmcN (c 16) 0 (xs 3).length) (gmsN (c 16) 0 (xs 3).length)) D G t (N, ad, cl) [.ref (ad 0)] (fun u => ∃ ad' cl', u = (N, ad', cl') ∧ XW G N ad' cl' (va_up c 16 (gcapN (c 16) 0 (xs 3).length)) (va_up xs 16 (xs 3)) (vset (vset v 0 6 4) 0 5 (if v 0 5 + 1 < 6 then v 0 5 + 1 else 6)) g nb ∧ FrX N ad cl ad' cl') := by
  refine ct_V (own := RX11) (by decide +kernel) rfl (Nat.le_of_ble_eq_true rfl) rfl ?_
  intro p e s m args below meth cd A ls X hr hin hl w
  obtain ⟨hx, hb, hml, hown, hts, -⟩ := id X
  have hl : lv_has ls 1 [(0, .ref (ad 0))] := hl
  have F : FrX N ad cl ad cl := FrX.rf
  refine lv_aload_n hx hb dX11_remember_0 rfl (lv_at hl 0 rfl) ?_
  refine g_get X w 0 rfl (by have := Wx.1; omega) (Wx.o xm_0) kc11 4 (by decide) rfl k_RX11_25 (v := .ref (ad 9)) rfl dX11_remember_1 ?_
  refine lv_aload_n hx hb dX11_remember_4 rfl (lv_at hl 0 rfl) ?_
  refine g_get X w 0 rfl (by have := Wx.1; omega) (Wx.o xm_0) kc11 6 (by decide) rfl k_RX11_125 (v := .int (3)) (by rw [← hv]; rfl) dX11_remember_5 ?_
  refine g_aldQ X w 9 rfl (by have := Wx.1; omega) Wx.2.2.2.2.1 (x := 3) (by unfold vp_in; decide) (v := ad 16) (fq_at (by decide)) dX11_remember_8 ?_
  refine lv_aload_n hx hb dX11_remember_9 rfl (lv_at hl 0 rfl) ?_
  refine g_get X w 0 rfl (by have := Wx.1; omega) (Wx.o xm_0) kc11 1 (by decide) rfl k_RX11_16 (v := .ref (ad 3)) rfl dX11_remember_10 ?_
  refine c_V (As := [.ref (ad 3)]) (rest := []) X w (ct_X5_copy l D G t N ad cl 16 _ _ (Wx.2.1 16 (by decide +kernel)) 3 _ _ (Wx.2.1 3 (by decide +kernel)) (by decide) (by decide) (by decide) hlen (d - 1) (by omega)) YX5_copy k_RX11_96 (16) rfl (by have := Wx.1; omega) (Wx.2.1 16 (by decide +kernel)).2.1 kc5 (rfl) rfl rfl hl.1 (rm_call (by omega) (by decide)) (Nat.le_of_ble_eq_true rfl) dX11_remember_13 (⟨by show 0 + _ ≤ _; rw [Nat.zero_add]; exact Nat.le_refl _, by show 0 + _ ≤ _; rw [Nat.zero_add]; exact Nat.le_refl _⟩) (fun u H locs hp w => ?_)
  obtain ⟨ad1, cl2, rfl, hR9, hF9⟩ := hp
  have w : Wd D A s H locs N ad1 cl2 := w
  have Wx := Wx.row (q := 16) (by decide +kernel) hF9 hR9
  have F : FrX N ad cl ad1 cl2 := F.tr (FrX.of (q := 16) (by decide +kernel) hF9)
  refine lv_aload_n hx hb dX11_remember_16 rfl (lv_at hl 0 rfl) ?_
  refine lv_aload_n hx hb dX11_remember_17 rfl (lv_at hl 0 rfl) ?_
  refine g_get X w 0 (F.1 0 (by have := Wx.1; omega) rfl) (by have := Wx.1; omega) (Wx.o xm_0) kc11 6 (by decide) rfl k_RX11_125 (v := .int (3)) (by rw [← hv]; rfl) dX11_remember_18 ?_
  refine lv_iconst (v := 1) hx hb dX11_remember_21 (by decide) ?_
  refine lv_iadd hx hb dX11_remember_22 ?_
  refine lv_eqi (show (3 : Int32) + 1 = 4 by decide) ?_
  refine lv_bipush (v := 6) hx hb dX11_remember_23 (by decide) ?_
  refine lv_irem hx hb dX11_remember_25 (by decide) ?_
  refine lv_eqi (show (4 : Int32) - 4 / 6 * 6 = 4 by decide) ?_
  refine x_puti X w Wx xm_0 (by decide) (F.1 0 (by have := Wx.1; omega) rfl) kc11 6 (by decide) rfl k_RX11_125 rfl (x := 4) rfl rfl rfl dX11_remember_26 (fun H locs cl3 w Wx F9 => ?_)
  have F := F.tr F9
  refine lv_aload_n hx hb dX11_remember_29 rfl (lv_at hl 0 rfl) ?_
  refine lv_bipush (v := 6) hx hb dX11_remember_30 (by decide) ?_
  refine lv_aload_n hx hb dX11_remember_32 rfl (lv_at hl 0 rfl) ?_
  refine g_get X w 0 (F.1 0 (by have := Wx.1; omega) rfl) (by have := Wx.1; omega) (Wx.o xm_0) kc11 5 (by decide) rfl k_RX11_122 (v := .int (v 0 5)) rfl dX11_remember_33 ?_
  refine lv_iconst (v := 1) hx hb dX11_remember_36 (by decide) ?_
  refine lv_iadd hx hb dX11_remember_37 ?_
  refine g_min X hl.1 wm_281 (Nat.le_of_ble_eq_true rfl) ⟨by show 1 ≤ d; omega, rm_loc (by omega) (by decide)⟩ (by show 0 + _ ≤ _; rw [Nat.zero_add]; exact Nat.le_refl _) (by show 0 + _ ≤ _; rw [Nat.zero_add]; exact Nat.le_refl _) (z := if v 0 5 + 1 < 6 then v 0 5 + 1 else 6) rfl dX11_remember_38 ?_
  refine x_puti X w Wx xm_0 (by decide) (F.1 0 (by have := Wx.1; omega) rfl) kc11 5 (by decide) rfl k_RX11_122 rfl (x := if v 0 5 + 1 < 6 then v 0 5 + 1 else 6) rfl rfl rfl dX11_remember_41 (fun H locs cl4 w Wx F9 => ?_)
  have F := F.tr F9
  exact e_V X hr w ⟨ad1, cl4, rfl, Wx, F⟩ (by show 0 + _ ≤ _; rw [Nat.zero_add]; exact Nat.le_refl _) (by show 0 + _ ≤ _; rw [Nat.zero_add]; exact Nat.le_refl _) dX11_remember_44
set_option maxHeartbeats 4000000 in
set_option maxRecDepth 100000 in
theorem ct_X11_remember_4 (l : Launch) (D : va_G) (G : Nat → ClassId) (t : Nat → Nat) (N : Nat) (ad : Nat → Nat) (cl : Nat → va_E) (c : Nat → Nat) (xs : Nat → List Int32) (v : Nat → Nat → Int32) (g : Nat → Nat → Int32) (nb : Nat → Nat) (Wx : XW G N ad cl c xs v g nb) (hv : v 0 6 = 4) (hlen : (xs 3).length ≤ 131072) (d : Nat) (hd : 4 ≤ d) : CtV l yX11_remember cX11_remember 1 (rmD d (gmcN (c 18) 0 (xs 3).length) (gmsN (c 18) 0 (xs 3).length)) D G t (N, ad, cl) [.ref (ad 0)] (fun u => ∃ ad' cl', u = (N, ad', cl') ∧ XW G N ad' cl' (va_up c 18 (gcapN (c 18) 0 (xs 3).length)) (va_up xs 18 (xs 3)) (vset (vset v 0 6 5) 0 5 (if v 0 5 + 1 < 6 then v 0 5 + 1 else 6)) g nb ∧ FrX N ad cl ad' cl') := by
  refine ct_V (own := RX11) (by decide +kernel) rfl (Nat.le_of_ble_eq_true rfl) rfl ?_
  intro p e s m args below meth cd A ls X hr hin hl w
  obtain ⟨hx, hb, hml, hown, hts, -⟩ := id X
  have hl : lv_has ls 1 [(0, .ref (ad 0))] := hl
  have F : FrX N ad cl ad cl := FrX.rf
  refine lv_aload_n hx hb dX11_remember_0 rfl (lv_at hl 0 rfl) ?_
  refine g_get X w 0 rfl (by have := Wx.1; omega) (Wx.o xm_0) kc11 4 (by decide) rfl k_RX11_25 (v := .ref (ad 9)) rfl dX11_remember_1 ?_
  refine lv_aload_n hx hb dX11_remember_4 rfl (lv_at hl 0 rfl) ?_
  refine g_get X w 0 rfl (by have := Wx.1; omega) (Wx.o xm_0) kc11 6 (by decide) rfl k_RX11_125 (v := .int (4)) (by rw [← hv]; rfl) dX11_remember_5 ?_
  refine g_aldQ X w 9 rfl (by have := Wx.1; omega) Wx.2.2.2.2.1 (x := 4) (by unfold vp_in; decide) (v := ad 18) (fq_at (by decide)) dX11_remember_8 ?_
  refine lv_aload_n hx hb dX11_remember_9 rfl (lv_at hl 0 rfl) ?_
  refine g_get X w 0 rfl (by have := Wx.1; omega) (Wx.o xm_0) kc11 1 (by decide) rfl k_RX11_16 (v := .ref (ad 3)) rfl dX11_remember_10 ?_
  refine c_V (As := [.ref (ad 3)]) (rest := []) X w (ct_X5_copy l D G t N ad cl 18 _ _ (Wx.2.1 18 (by decide +kernel)) 3 _ _ (Wx.2.1 3 (by decide +kernel)) (by decide) (by decide) (by decide) hlen (d - 1) (by omega)) YX5_copy k_RX11_96 (18) rfl (by have := Wx.1; omega) (Wx.2.1 18 (by decide +kernel)).2.1 kc5 (rfl) rfl rfl hl.1 (rm_call (by omega) (by decide)) (Nat.le_of_ble_eq_true rfl) dX11_remember_13 (⟨by show 0 + _ ≤ _; rw [Nat.zero_add]; exact Nat.le_refl _, by show 0 + _ ≤ _; rw [Nat.zero_add]; exact Nat.le_refl _⟩) (fun u H locs hp w => ?_)
  obtain ⟨ad1, cl2, rfl, hR9, hF9⟩ := hp
  have w : Wd D A s H locs N ad1 cl2 := w
  have Wx := Wx.row (q := 18) (by decide +kernel) hF9 hR9
  have F : FrX N ad cl ad1 cl2 := F.tr (FrX.of (q := 18) (by decide +kernel) hF9)
  refine lv_aload_n hx hb dX11_remember_16 rfl (lv_at hl 0 rfl) ?_
  refine lv_aload_n hx hb dX11_remember_17 rfl (lv_at hl 0 rfl) ?_
  refine g_get X w 0 (F.1 0 (by have := Wx.1; omega) rfl) (by have := Wx.1; omega) (Wx.o xm_0) kc11 6 (by decide) rfl k_RX11_125 (v := .int (4)) (by rw [← hv]; rfl) dX11_remember_18 ?_
  refine lv_iconst (v := 1) hx hb dX11_remember_21 (by decide) ?_
  refine lv_iadd hx hb dX11_remember_22 ?_
  refine lv_eqi (show (4 : Int32) + 1 = 5 by decide) ?_
  refine lv_bipush (v := 6) hx hb dX11_remember_23 (by decide) ?_
  refine lv_irem hx hb dX11_remember_25 (by decide) ?_
  refine lv_eqi (show (5 : Int32) - 5 / 6 * 6 = 5 by decide) ?_
  refine x_puti X w Wx xm_0 (by decide) (F.1 0 (by have := Wx.1; omega) rfl) kc11 6 (by decide) rfl k_RX11_125 rfl (x := 5) rfl rfl rfl dX11_remember_26 (fun H locs cl3 w Wx F9 => ?_)
  have F := F.tr F9
  refine lv_aload_n hx hb dX11_remember_29 rfl (lv_at hl 0 rfl) ?_
  refine lv_bipush (v := 6) hx hb dX11_remember_30 (by decide) ?_
  refine lv_aload_n hx hb dX11_remember_32 rfl (lv_at hl 0 rfl) ?_
  refine g_get X w 0 (F.1 0 (by have := Wx.1; omega) rfl) (by have := Wx.1; omega) (Wx.o xm_0) kc11 5 (by decide) rfl k_RX11_122 (v := .int (v 0 5)) rfl dX11_remember_33 ?_
  refine lv_iconst (v := 1) hx hb dX11_remember_36 (by decide) ?_
  refine lv_iadd hx hb dX11_remember_37 ?_
  refine g_min X hl.1 wm_281 (Nat.le_of_ble_eq_true rfl) ⟨by show 1 ≤ d; omega, rm_loc (by omega) (by decide)⟩ (by show 0 + _ ≤ _; rw [Nat.zero_add]; exact Nat.le_refl _) (by show 0 + _ ≤ _; rw [Nat.zero_add]; exact Nat.le_refl _) (z := if v 0 5 + 1 < 6 then v 0 5 + 1 else 6) rfl dX11_remember_38 ?_
  refine x_puti X w Wx xm_0 (by decide) (F.1 0 (by have := Wx.1; omega) rfl) kc11 5 (by decide) rfl k_RX11_122 rfl (x := if v 0 5 + 1 < 6 then v 0 5 + 1 else 6) rfl rfl rfl dX11_remember_41 (fun H locs cl4 w Wx F9 => ?_)
  have F := F.tr F9
  exact e_V X hr w ⟨ad1, cl4, rfl, Wx, F⟩ (by show 0 + _ ≤ _; rw [Nat.zero_add]; exact Nat.le_refl _) (by show 0 + _ ≤ _; rw [Nat.zero_add]; exact Nat.le_refl _) dX11_remember_44
set_option maxHeartbeats 4000000 in
set_option maxRecDepth 100000 in
theorem ct_X11_remember_5 (l : Launch) (D : va_G) (G : Nat → ClassId) (t : Nat → Nat) (N : Nat) (ad : Nat → Nat) (cl : Nat → va_E) (c : Nat → Nat) (xs : Nat → List Int32) (v : Nat → Nat → Int32) (g : Nat → Nat → Int32) (nb : Nat → Nat) (Wx : XW G N ad cl c xs v g nb) (hv : v 0 6 = 5) (hlen : (xs 3).length ≤ 131072) (d : Nat) (hd : 4 ≤ d) : CtV l yX11_remember cX11_remember 1 (rmD d (gmcN (c 20) 0 (xs 3).length) (gmsN (c 20) 0 (xs 3).length)) D G t (N, ad, cl) [.ref (ad 0)] (fun u => ∃ ad' cl', u = (N, ad', cl') ∧ XW G N ad' cl' (va_up c 20 (gcapN (c 20) 0 (xs 3).length)) (va_up xs 20 (xs 3)) (vset (vset v 0 6 0) 0 5 (if v 0 5 + 1 < 6 then v 0 5 + 1 else 6)) g nb ∧ FrX N ad cl ad' cl') := by
  refine ct_V (own := RX11) (by decide +kernel) rfl (Nat.le_of_ble_eq_true rfl) rfl ?_
  intro p e s m args below meth cd A ls X hr hin hl w
  obtain ⟨hx, hb, hml, hown, hts, -⟩ := id X
  have hl : lv_has ls 1 [(0, .ref (ad 0))] := hl
  have F : FrX N ad cl ad cl := FrX.rf
  refine lv_aload_n hx hb dX11_remember_0 rfl (lv_at hl 0 rfl) ?_
  refine g_get X w 0 rfl (by have := Wx.1; omega) (Wx.o xm_0) kc11 4 (by decide) rfl k_RX11_25 (v := .ref (ad 9)) rfl dX11_remember_1 ?_
  refine lv_aload_n hx hb dX11_remember_4 rfl (lv_at hl 0 rfl) ?_
  refine g_get X w 0 rfl (by have := Wx.1; omega) (Wx.o xm_0) kc11 6 (by decide) rfl k_RX11_125 (v := .int (5)) (by rw [← hv]; rfl) dX11_remember_5 ?_
  refine g_aldQ X w 9 rfl (by have := Wx.1; omega) Wx.2.2.2.2.1 (x := 5) (by unfold vp_in; decide) (v := ad 20) (fq_at (by decide)) dX11_remember_8 ?_
  refine lv_aload_n hx hb dX11_remember_9 rfl (lv_at hl 0 rfl) ?_
  refine g_get X w 0 rfl (by have := Wx.1; omega) (Wx.o xm_0) kc11 1 (by decide) rfl k_RX11_16 (v := .ref (ad 3)) rfl dX11_remember_10 ?_
  refine c_V (As := [.ref (ad 3)]) (rest := []) X w (ct_X5_copy l D G t N ad cl 20 _ _ (Wx.2.1 20 (by decide +kernel)) 3 _ _ (Wx.2.1 3 (by decide +kernel)) (by decide) (by decide) (by decide) hlen (d - 1) (by omega)) YX5_copy k_RX11_96 (20) rfl (by have := Wx.1; omega) (Wx.2.1 20 (by decide +kernel)).2.1 kc5 (rfl) rfl rfl hl.1 (rm_call (by omega) (by decide)) (Nat.le_of_ble_eq_true rfl) dX11_remember_13 (⟨by show 0 + _ ≤ _; rw [Nat.zero_add]; exact Nat.le_refl _, by show 0 + _ ≤ _; rw [Nat.zero_add]; exact Nat.le_refl _⟩) (fun u H locs hp w => ?_)
  obtain ⟨ad1, cl2, rfl, hR9, hF9⟩ := hp
  have w : Wd D A s H locs N ad1 cl2 := w
  have Wx := Wx.row (q := 20) (by decide +kernel) hF9 hR9
  have F : FrX N ad cl ad1 cl2 := F.tr (FrX.of (q := 20) (by decide +kernel) hF9)
  refine lv_aload_n hx hb dX11_remember_16 rfl (lv_at hl 0 rfl) ?_
  refine lv_aload_n hx hb dX11_remember_17 rfl (lv_at hl 0 rfl) ?_
  refine g_get X w 0 (F.1 0 (by have := Wx.1; omega) rfl) (by have := Wx.1; omega) (Wx.o xm_0) kc11 6 (by decide) rfl k_RX11_125 (v := .int (5)) (by rw [← hv]; rfl) dX11_remember_18 ?_
  refine lv_iconst (v := 1) hx hb dX11_remember_21 (by decide) ?_
  refine lv_iadd hx hb dX11_remember_22 ?_
  refine lv_eqi (show (5 : Int32) + 1 = 6 by decide) ?_
  refine lv_bipush (v := 6) hx hb dX11_remember_23 (by decide) ?_
  refine lv_irem hx hb dX11_remember_25 (by decide) ?_
  refine lv_eqi (show (6 : Int32) - 6 / 6 * 6 = 0 by decide) ?_
  refine x_puti X w Wx xm_0 (by decide) (F.1 0 (by have := Wx.1; omega) rfl) kc11 6 (by decide) rfl k_RX11_125 rfl (x := 0) rfl rfl rfl dX11_remember_26 (fun H locs cl3 w Wx F9 => ?_)
  have F := F.tr F9
  refine lv_aload_n hx hb dX11_remember_29 rfl (lv_at hl 0 rfl) ?_
  refine lv_bipush (v := 6) hx hb dX11_remember_30 (by decide) ?_
  refine lv_aload_n hx hb dX11_remember_32 rfl (lv_at hl 0 rfl) ?_
  refine g_get X w 0 (F.1 0 (by have := Wx.1; omega) rfl) (by have := Wx.1; omega) (Wx.o xm_0) kc11 5 (by decide) rfl k_RX11_122 (v := .int (v 0 5)) rfl dX11_remember_33 ?_
  refine lv_iconst (v := 1) hx hb dX11_remember_36 (by decide) ?_
  refine lv_iadd hx hb dX11_remember_37 ?_
  refine g_min X hl.1 wm_281 (Nat.le_of_ble_eq_true rfl) ⟨by show 1 ≤ d; omega, rm_loc (by omega) (by decide)⟩ (by show 0 + _ ≤ _; rw [Nat.zero_add]; exact Nat.le_refl _) (by show 0 + _ ≤ _; rw [Nat.zero_add]; exact Nat.le_refl _) (z := if v 0 5 + 1 < 6 then v 0 5 + 1 else 6) rfl dX11_remember_38 ?_
  refine x_puti X w Wx xm_0 (by decide) (F.1 0 (by have := Wx.1; omega) rfl) kc11 5 (by decide) rfl k_RX11_122 rfl (x := if v 0 5 + 1 < 6 then v 0 5 + 1 else 6) rfl rfl rfl dX11_remember_41 (fun H locs cl4 w Wx F9 => ?_)
  have F := F.tr F9
  exact e_V X hr w ⟨ad1, cl4, rfl, Wx, F⟩ (by show 0 + _ ≤ _; rw [Nat.zero_add]; exact Nat.le_refl _) (by show 0 + _ ≤ _; rw [Nat.zero_add]; exact Nat.le_refl _) dX11_remember_44
