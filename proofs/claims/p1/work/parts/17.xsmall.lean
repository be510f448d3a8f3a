abbrev cX11_letter : ByteArray := prog_1_method_8_code
def yX11_letter : MethodName := ⟨RX11, "letter", "(I)I"⟩
theorem wcX11_letter : Cond.code yX11_letter cX11_letter 2 (some .int) ∈ tb := tb_3 (i := 221) rfl rfl
theorem wnX11_letter : Cond.instanceMethod yX11_letter ∈ tb := tb_3 (i := 219) (by decide +kernel) rfl
theorem wlX11_letter : Cond.selects RX11 yX11_letter yX11_letter ∈ tb := tb_3 (i := 220) (by decide +kernel) rfl
theorem YX11_letter : Yv yX11_letter cX11_letter 2 (some .int) 1 := ⟨wcX11_letter, wlX11_letter, wnX11_letter, wi_11, by decide +kernel, by decide +kernel, by decide +kernel⟩
theorem dX11_letter_0 : decode cX11_letter 0 = .ok (.aload_n 0, 1) := by decide +kernel
theorem dX11_letter_1 : decode cX11_letter 1 = .ok (.getfield 16, 3) := by decide +kernel
theorem dX11_letter_4 : decode cX11_letter 4 = .ok (.iload_n 1, 1) := by decide +kernel
theorem dX11_letter_5 : decode cX11_letter 5 = .ok (.invokevirtual 132, 3) := by decide +kernel
theorem dX11_letter_8 : decode cX11_letter 8 = .ok (.ireturn, 1) := by decide +kernel
theorem k_RX11_132 : Cond.methodLink RX11 132 yX5_get ∈ tb := tb_3 (i := 195) (by decide +kernel) rfl
abbrev cX11_answer : ByteArray := prog_1_method_19_code
def yX11_answer : MethodName := ⟨RX11, "answer", "(I)I"⟩
theorem wcX11_answer : Cond.code yX11_answer cX11_answer 2 (some .int) ∈ tb := tb_7 (i := 72) rfl rfl
theorem wnX11_answer : Cond.instanceMethod yX11_answer ∈ tb := tb_7 (i := 70) (by decide +kernel) rfl
theorem wlX11_answer : Cond.selects RX11 yX11_answer yX11_answer ∈ tb := tb_7 (i := 71) (by decide +kernel) rfl
theorem YX11_answer : Yv yX11_answer cX11_answer 2 (some .int) 1 := ⟨wcX11_answer, wlX11_answer, wnX11_answer, wi_11, by decide +kernel, by decide +kernel, by decide +kernel⟩
theorem dX11_answer_0 : decode cX11_answer 0 = .ok (.aload_n 0, 1) := by decide +kernel
theorem dX11_answer_1 : decode cX11_answer 1 = .ok (.getfield 19, 3) := by decide +kernel
theorem dX11_answer_4 : decode cX11_answer 4 = .ok (.iload_n 1, 1) := by decide +kernel
theorem dX11_answer_5 : decode cX11_answer 5 = .ok (.invokevirtual 132, 3) := by decide +kernel
theorem dX11_answer_8 : decode cX11_answer 8 = .ok (.ireturn, 1) := by decide +kernel
abbrev cX11_needProof : ByteArray := prog_1_method_29_code
def yX11_needProof : MethodName := ⟨RX11, "needProof", "()V"⟩
theorem wcX11_needProof : Cond.code yX11_needProof cX11_needProof 1 none ∈ tb := tb_7 (i := 134) rfl rfl
theorem wnX11_needProof : Cond.instanceMethod yX11_needProof ∈ tb := tb_7 (i := 133) (by decide +kernel) rfl
theorem wlX11_needProof : Cond.selects RX11 yX11_needProof yX11_needProof ∈ tb := tb_s (i := 69) (by decide +kernel) rfl
theorem YX11_needProof : Yv yX11_needProof cX11_needProof 1 none 0 := ⟨wcX11_needProof, wlX11_needProof, wnX11_needProof, wi_11, by decide +kernel, by decide +kernel, by decide +kernel⟩
theorem dX11_needProof_0 : decode cX11_needProof 0 = .ok (.aload_n 0, 1) := by decide +kernel
theorem dX11_needProof_1 : decode cX11_needProof 1 = .ok (.getfield 78, 3) := by decide +kernel
theorem dX11_needProof_4 : decode cX11_needProof 4 = .ok (.getfield 199, 3) := by decide +kernel
theorem dX11_needProof_7 : decode cX11_needProof 7 = .ok (.ifCond .ne 11, 3) := by decide +kernel
theorem dX11_needProof_10 : decode cX11_needProof 10 = .ok (.new 150, 3) := by decide +kernel
theorem dX11_needProof_13 : decode cX11_needProof 13 = .ok (.dup, 1) := by decide +kernel
theorem dX11_needProof_14 : decode cX11_needProof 14 = .ok (.invokespecial 306, 3) := by decide +kernel
theorem dX11_needProof_17 : decode cX11_needProof 17 = .ok (.athrow, 1) := by decide +kernel
theorem dX11_needProof_18 : decode cX11_needProof 18 = .ok (.return_, 1) := by decide +kernel
theorem k_RX11_199 : Cond.fieldLinkNest RX11 199 RX3 "present" "Z" "TypeRoom" ∈ tables_1 := tn_3 (i := 73) (by decide +kernel)
abbrev cX11_needKept : ByteArray := prog_1_method_30_code
def yX11_needKept : MethodName := ⟨RX11, "needKept", "()V"⟩
theorem wcX11_needKept : Cond.code yX11_needKept cX11_needKept 1 none ∈ tb := tb_7 (i := 235) rfl rfl
theorem wnX11_needKept : Cond.instanceMethod yX11_needKept ∈ tb := tb_7 (i := 234) (by decide +kernel) rfl
theorem wlX11_needKept : Cond.selects RX11 yX11_needKept yX11_needKept ∈ tb := tb_s (i := 73) (by decide +kernel) rfl
theorem YX11_needKept : Yv yX11_needKept cX11_needKept 1 none 0 := ⟨wcX11_needKept, wlX11_needKept, wnX11_needKept, wi_11, by decide +kernel, by decide +kernel, by decide +kernel⟩
theorem dX11_needKept_0 : decode cX11_needKept 0 = .ok (.aload_n 0, 1) := by decide +kernel
theorem dX11_needKept_1 : decode cX11_needKept 1 = .ok (.getfield 82, 3) := by decide +kernel
theorem dX11_needKept_4 : decode cX11_needKept 4 = .ok (.getfield 199, 3) := by decide +kernel
theorem dX11_needKept_7 : decode cX11_needKept 7 = .ok (.ifCond .ne 11, 3) := by decide +kernel
theorem dX11_needKept_10 : decode cX11_needKept 10 = .ok (.new 150, 3) := by decide +kernel
theorem dX11_needKept_13 : decode cX11_needKept 13 = .ok (.dup, 1) := by decide +kernel
theorem dX11_needKept_14 : decode cX11_needKept 14 = .ok (.invokespecial 306, 3) := by decide +kernel
theorem dX11_needKept_17 : decode cX11_needKept 17 = .ok (.athrow, 1) := by decide +kernel
theorem dX11_needKept_18 : decode cX11_needKept 18 = .ok (.return_, 1) := by decide +kernel
abbrev cX11_pages : ByteArray := prog_1_method_10_code
def yX11_pages : MethodName := ⟨RX11, "pages", "()I"⟩
theorem wcX11_pages : Cond.code yX11_pages cX11_pages 1 (some .int) ∈ tb := tb_7 (i := 130) rfl rfl
theorem wnX11_pages : Cond.instanceMethod yX11_pages ∈ tb := tb_7 (i := 128) (by decide +kernel) rfl
theorem wlX11_pages : Cond.selects RX11 yX11_pages yX11_pages ∈ tb := tb_7 (i := 129) (by decide +kernel) rfl
theorem YX11_pages : Yv yX11_pages cX11_pages 1 (some .int) 0 := ⟨wcX11_pages, wlX11_pages, wnX11_pages, wi_11, by decide +kernel, by decide +kernel, by decide +kernel⟩
theorem dX11_pages_0 : decode cX11_pages 0 = .ok (.aload_n 0, 1) := by decide +kernel
theorem dX11_pages_1 : decode cX11_pages 1 = .ok (.invokevirtual 169, 3) := by decide +kernel
theorem dX11_pages_4 : decode cX11_pages 4 = .ok (.aload_n 0, 1) := by decide +kernel
theorem dX11_pages_5 : decode cX11_pages 5 = .ok (.getfield 78, 3) := by decide +kernel
theorem dX11_pages_8 : decode cX11_pages 8 = .ok (.getfield 172, 3) := by decide +kernel
theorem dX11_pages_11 : decode cX11_pages 11 = .ok (.getfield 89, 3) := by decide +kernel
theorem dX11_pages_14 : decode cX11_pages 14 = .ok (.ireturn, 1) := by decide +kernel
theorem k_RX11_169 : Cond.methodLink RX11 169 yX11_needProof ∈ tb := tb_7 (i := 131) (by decide +kernel) rfl
theorem k_RX11_172 : Cond.fieldLinkNest RX11 172 RX3 "pageStarts" "LTypeRoom$Row;" "TypeRoom" ∈ tables_1 := tn_3 (i := 80) (by decide +kernel)
theorem k_RX11_89 : Cond.fieldLinkNest RX11 89 RX5 "size" "I" "TypeRoom" ∈ tables_1 := tn_1 (i := 43) (by decide +kernel)
set_option maxHeartbeats 4000000 in
set_option maxRecDepth 100000 in
theorem ct_X11_letter (l : Launch) (D : va_G) (G : Nat → ClassId) (t : Nat → Nat) (N : Nat) (ad : Nat → Nat) (cl : Nat → va_E) (c : Nat → Nat) (xs : Nat → List Int32) (v : Nat → Nat → Int32) (g : Nat → Nat → Int32) (nb : Nat → Nat) (Wx : XW G N ad cl c xs v g nb) (k : Int32) (d : Nat) (hd : 2 ≤ d) : CtI l yX11_letter cX11_letter 2 (rmD d 0 0) D G t (N, ad, cl) [.ref (ad 0), .int k] (fun r u => r = rget (xs 3) k ∧ u = (N, ad, cl)) := by
  refine ct_I (own := RX11) (by decide +kernel) rfl (Nat.le_of_ble_eq_true rfl) rfl ?_
  intro p e s m args below meth cd A ls X hr hl w
  obtain ⟨hx, hb, hml, hown, hts, -⟩ := id X
  have hl : lv_has ls 2 [(0, .ref (ad 0)), (1, .int (k))] := hl
  refine lv_aload_n hx hb dX11_letter_0 rfl (lv_at hl 0 rfl) ?_
  refine g_get X w 0 rfl (by have := Wx.1; omega) (Wx.o xm_0) kc11 1 (by decide) rfl k_RX11_16 (v := .ref (ad 3)) rfl dX11_letter_1 ?_
  refine lv_iload_n hx hb dX11_letter_4 rfl (lv_at hl 1 rfl) ?_
  refine c_I (As := [.int (k)]) (rest := []) X w (ct_X5_get l D G t N ad cl 3 (c 3) (xs 3) (Wx.2.1 3 (by decide +kernel)) (k) (d - 1)) YX5_get k_RX11_132 (3) rfl (by have := Wx.1; omega) (Wx.2.1 3 (by decide +kernel)).2.1 kc5 (rfl) rfl rfl hl.1 (rm_call (by omega) (by decide)) (Nat.le_of_ble_eq_true rfl) dX11_letter_5 (⟨Nat.le_refl _, Nat.le_refl _⟩) (fun r u H locs hp w => ?_)
  obtain ⟨rfl, rfl⟩ := hp
  have w : Wd D A s H locs N ad cl := w
  exact e_I X hr w ⟨rfl, rfl⟩ (Nat.le_refl _) (Nat.le_refl _) dX11_letter_8
set_option maxHeartbeats 4000000 in
set_option maxRecDepth 100000 in
theorem ct_X11_answer (l : Launch) (D : va_G) (G : Nat → ClassId) (t : Nat → Nat) (N : Nat) (ad : Nat → Nat) (cl : Nat → va_E) (c : Nat → Nat) (xs : Nat → List Int32) (v : Nat → Nat → Int32) (g : Nat → Nat → Int32) (nb : Nat → Nat) (Wx : XW G N ad cl c xs v g nb) (k : Int32) (d : Nat) (hd : 2 ≤ d) : CtI l yX11_answer cX11_answer 2 (rmD d 0 0) D G t (N, ad, cl) [.ref (ad 0), .int k] (fun r u => r = rget (xs 5) k ∧ u = (N, ad, cl)) := by
  refine ct_I (own := RX11) (by decide +kernel) rfl (Nat.le_of_ble_eq_true rfl) rfl ?_
  intro p e s m args below meth cd A ls X hr hl w
  obtain ⟨hx, hb, hml, hown, hts, -⟩ := id X
  have hl : lv_has ls 2 [(0, .ref (ad 0)), (1, .int (k))] := hl
  refine lv_aload_n hx hb dX11_answer_0 rfl (lv_at hl 0 rfl) ?_
  refine g_get X w 0 rfl (by have := Wx.1; omega) (Wx.o xm_0) kc11 2 (by decide) rfl k_RX11_19 (v := .ref (ad 5)) rfl dX11_answer_1 ?_
  refine lv_iload_n hx hb dX11_answer_4 rfl (lv_at hl 1 rfl) ?_
  refine c_I (As := [.int (k)]) (rest := []) X w (ct_X5_get l D G t N ad cl 5 (c 5) (xs 5) (Wx.2.1 5 (by decide +kernel)) (k) (d - 1)) YX5_get k_RX11_132 (5) rfl (by have := Wx.1; omega) (Wx.2.1 5 (by decide +kernel)).2.1 kc5 (rfl) rfl rfl hl.1 (rm_call (by omega) (by decide)) (Nat.le_of_ble_eq_true rfl) dX11_answer_5 (⟨Nat.le_refl _, Nat.le_refl _⟩) (fun r u H locs hp w => ?_)
  obtain ⟨rfl, rfl⟩ := hp
  have w : Wd D A s H locs N ad cl := w
  exact e_I X hr w ⟨rfl, rfl⟩ (Nat.le_refl _) (Nat.le_refl _) dX11_answer_8
set_option maxHeartbeats 4000000 in
set_option maxRecDepth 100000 in
theorem ct_X11_needProof (l : Launch) (D : va_G) (G : Nat → ClassId) (t : Nat → Nat) (N : Nat) (ad : Nat → Nat) (cl : Nat → va_E) (c : Nat → Nat) (xs : Nat → List Int32) (v : Nat → Nat → Int32) (g : Nat → Nat → Int32) (nb : Nat → Nat) (Wx : XW G N ad cl c xs v g nb) (hst : l.stackTraces = false) (d : Nat) (hd : 6 ≤ d) : CtVX l yX11_needProof cX11_needProof 1 (rmD d 1 6) D G t (N, ad, cl) [.ref (ad 0)] (fun u => ¬ v 212 0 = 0 ∧ u = (N, ad, cl)) (fun E u => E = "java/lang/IllegalStateException" ∧ v 212 0 = 0 ∧ u = (N, ad, cl)) := by
  refine ct_VX (own := RX11) (by decide +kernel) rfl (Nat.le_of_ble_eq_true rfl) rfl ?_
  intro p e s m args below meth cd A ls X hr hno hl w
  obtain ⟨hx, hb, hml, hown, hts, -⟩ := id X
  have hl : lv_has ls 1 [(0, .ref (ad 0))] := hl
  refine lv_aload_n hx hb dX11_needProof_0 rfl (lv_at hl 0 rfl) ?_
  refine g_get X w 0 rfl (by have := Wx.1; omega) (Wx.o xm_0) kc11 12 (by decide) rfl k_RX11_78 (v := .ref (ad 212)) rfl dX11_needProof_1 ?_
  refine g_getN X w 212 rfl (by have := Wx.1; omega) (Wx.o xm_212) kc3 0 (by decide) rfl k_RX11_199 (v := .int (v 212 0)) rfl dX11_needProof_4 ?_
  refine lv_if_ne (tgt := 18) hx hb dX11_needProof_7 (by decide) (fun h1 => ?_) (fun h1 => ?_)
  · exact vx_ret (e_V X hr w ⟨h1, rfl⟩ (Nat.zero_le _) (Nat.zero_le _) dX11_needProof_18)
  · exact x_throw (mc := 1) (ms := 6) hst X hl.1 hno w ⟨rfl, h1, rfl⟩ (by decide +kernel) tk_11_150 ti_ISE th_11_306 tx_11_306 to_11_306 dX11_needProof_10 dX11_needProof_13 dX11_needProof_14 dX11_needProof_17 (by decide) ⟨hd, Nat.le_trans (by decide) (Nat.mul_le_mul_left 60 hd)⟩ (Nat.le_refl _) (Nat.le_refl _) (Nat.le_refl _) (Nat.le_refl _)
set_option maxHeartbeats 4000000 in
set_option maxRecDepth 100000 in
theorem ct_X11_needKept (l : Launch) (D : va_G) (G : Nat → ClassId) (t : Nat → Nat) (N : Nat) (ad : Nat → Nat) (cl : Nat → va_E) (c : Nat → Nat) (xs : Nat → List Int32) (v : Nat → Nat → Int32) (g : Nat → Nat → Int32) (nb : Nat → Nat) (Wx : XW G N ad cl c xs v g nb) (hst : l.stackTraces = false) (d : Nat) (hd : 6 ≤ d) : CtVX l yX11_needKept cX11_needKept 1 (rmD d 1 6) D G t (N, ad, cl) [.ref (ad 0)] (fun u => ¬ v 229 0 = 0 ∧ u = (N, ad, cl)) (fun E u => E = "java/lang/IllegalStateException" ∧ v 229 0 = 0 ∧ u = (N, ad, cl)) := by
  refine ct_VX (own := RX11) (by decide +kernel) rfl (Nat.le_of_ble_eq_true rfl) rfl ?_
  intro p e s m args below meth cd A ls X hr hno hl w
  obtain ⟨hx, hb, hml, hown, hts, -⟩ := id X
  have hl : lv_has ls 1 [(0, .ref (ad 0))] := hl
  refine lv_aload_n hx hb dX11_needKept_0 rfl (lv_at hl 0 rfl) ?_
  refine g_get X w 0 rfl (by have := Wx.1; omega) (Wx.o xm_0) kc11 13 (by decide) rfl k_RX11_82 (v := .ref (ad 229)) rfl dX11_needKept_1 ?_
  refine g_getN X w 229 rfl (by have := Wx.1; omega) (Wx.o xm_229) kc3 0 (by decide) rfl k_RX11_199 (v := .int (v 229 0)) rfl dX11_needKept_4 ?_
  refine lv_if_ne (tgt := 18) hx hb dX11_needKept_7 (by decide) (fun h1 => ?_) (fun h1 => ?_)
  · exact vx_ret (e_V X hr w ⟨h1, rfl⟩ (Nat.zero_le _) (Nat.zero_le _) dX11_needKept_18)
  · exact x_throw (mc := 1) (ms := 6) hst X hl.1 hno w ⟨rfl, h1, rfl⟩ (by decide +kernel) tk_11_150 ti_ISE th_11_306 tx_11_306 to_11_306 dX11_needKept_10 dX11_needKept_13 dX11_needKept_14 dX11_needKept_17 (by decide) ⟨hd, Nat.le_trans (by decide) (Nat.mul_le_mul_left 60 hd)⟩ (Nat.le_refl _) (Nat.le_refl _) (Nat.le_refl _) (Nat.le_refl _)
set_option maxHeartbeats 4000000 in
set_option maxRecDepth 100000 in
theorem ct_X11_pages (l : Launch) (D : va_G) (G : Nat → ClassId) (t : Nat → Nat) (N : Nat) (ad : Nat → Nat) (cl : Nat → va_E) (c : Nat → Nat) (xs : Nat → List Int32) (v : Nat → Nat → Int32) (g : Nat → Nat → Int32) (nb : Nat → Nat) (Wx : XW G N ad cl c xs v g nb) (hst : l.stackTraces = false) (d : Nat) (hd : 7 ≤ d) : CtIX l yX11_pages cX11_pages 1 (rmD d 1 6) D G t (N, ad, cl) [.ref (ad 0)] (fun r u => ¬ v 212 0 = 0 ∧ r = nI (xs 220).length ∧ u = (N, ad, cl)) (fun E u => E = "java/lang/IllegalStateException" ∧ v 212 0 = 0 ∧ u = (N, ad, cl)) := by
  refine ct_IX (own := RX11) (by decide +kernel) rfl (Nat.le_of_ble_eq_true rfl) rfl ?_
  intro p e s m args below meth cd A ls X hr hno hl w
  obtain ⟨hx, hb, hml, hown, hts, -⟩ := id X
  have hl : lv_has ls 1 [(0, .ref (ad 0))] := hl
  refine lv_aload_n hx hb dX11_pages_0 rfl (lv_at hl 0 rfl) ?_
  refine c_VX (As := []) (rest := []) X w (ct_X11_needProof l D G t N ad cl c xs v g nb Wx hst (d - 1) (by omega)) YX11_needProof k_RX11_169 (0) rfl (by have := Wx.1; omega) (Wx.o xm_0) kc11 (rfl) rfl rfl hl.1 (rm_call (by omega) (by decide)) (Nat.le_of_ble_eq_true rfl) dX11_pages_1 (⟨Nat.le_refl _, Nat.le_refl _⟩) (fun E ce q u H locs hp w h1 h2 h3 => ?_) (fun u H locs hp w => ?_)
  · obtain ⟨rfl, hv, rfl⟩ := hp
    exact x_out X hno w ⟨rfl, hv, rfl⟩ h1 h2 h3 (Nat.le_refl _) (Nat.le_refl _)
  obtain ⟨hv, rfl⟩ := hp
  have w : Wd D A s H locs N ad cl := w
  refine lv_aload_n hx hb dX11_pages_4 rfl (lv_at hl 0 rfl) ?_
  refine g_get X w 0 rfl (by have := Wx.1; omega) (Wx.o xm_0) kc11 12 (by decide) rfl k_RX11_78 (v := .ref (ad 212)) rfl dX11_pages_5 ?_
  refine g_getN X w 212 rfl (by have := Wx.1; omega) (Wx.o xm_212) kc3 3 (by decide) rfl k_RX11_172 (v := .ref (ad 220)) rfl dX11_pages_8 ?_
  refine g_getN X w 220 rfl (by have := Wx.1; omega) (Wx.2.1 220 (by decide +kernel)).2.1 kc5 1 (by decide) rfl k_RX11_89 (v := .int (nI (xs 220).length)) rfl dX11_pages_11 ?_
  exact vx_ret (e_I X hr w ⟨hv, rfl, rfl⟩ (Nat.le_refl _) (Nat.le_refl _) dX11_pages_14)
