/-! CONSTRUCTORS: a made object and all that it makes are a block of cells, one behind the other -/
def Blk (cl : Nat → va_E) (b : Nat) (L : List va_E) : Prop := ∀ k e, L[k]? = some e → cl (b + k) = e
theorem Blk.nil {cl : Nat → va_E} {b : Nat} : Blk cl b [] := fun k e h => by simp at h
theorem Blk.cons {cl : Nat → va_E} {b : Nat} {e : va_E} {L : List va_E} (h : cl b = e) (hL : Blk cl (b + 1) L) : Blk cl b (e :: L) := fun k x hx => by
  cases k with
  | zero => simp at hx; rw [← hx]; exact h
  | succ k => rw [List.getElem?_cons_succ] at hx; have := hL k x hx; rwa [show b + 1 + k = b + (k + 1) by omega] at this
theorem Blk.app {cl : Nat → va_E} {b : Nat} {L M : List va_E} {c : Nat} (hL : Blk cl b L) (hc : c = b + L.length) (hM : Blk cl c M) : Blk cl b (L ++ M) := fun k x hx => by
  by_cases hk : k < L.length
  · rw [List.getElem?_append_left hk] at hx; exact hL k x hx
  · rw [List.getElem?_append_right (by omega)] at hx
    have := hM _ x hx
    rwa [hc, show b + L.length + (k - L.length) = b + k by omega] at this
theorem Blk.tr {cl cl' : Nat → va_E} {b n : Nat} {L : List va_E} (h : Blk cl b L) (hn : L.length ≤ n) (hc : ∀ k, k < b + n → b ≤ k → cl' k = cl k) : Blk cl' b L := fun k e he => by
  have hk := (List.getElem?_eq_some_iff.mp he).1
  rw [hc (b + k) (by omega) (by omega)]
  exact h k e he
theorem Blk.hd {cl : Nat → va_E} {b : Nat} {e : va_E} {L : List va_E} (h : Blk cl b (e :: L)) : cl b = e := h 0 e rfl
theorem Blk.tl {cl : Nat → va_E} {b : Nat} {e : va_E} {L : List va_E} (h : Blk cl b (e :: L)) : Blk cl (b + 1) L := fun k x hx => by
  have := h (k + 1) x (by rw [List.getElem?_cons_succ]; exact hx)
  rwa [show b + (k + 1) = b + 1 + k by omega] at this
theorem Blk.left {cl : Nat → va_E} {b : Nat} {L M : List va_E} (h : Blk cl b (L ++ M)) : Blk cl b L := fun k x hx => h k x (by rw [List.getElem?_append_left (List.getElem?_eq_some_iff.mp hx).1]; exact hx)
theorem Blk.right {cl : Nat → va_E} {b c : Nat} {L M : List va_E} (h : Blk cl b (L ++ M)) (hc : c = b + L.length) : Blk cl c M := fun k x hx => by
  have := h (L.length + k) x (by rw [List.getElem?_append_right (by omega), show L.length + k - L.length = k by omega]; exact hx)
  rwa [hc, show b + L.length + k = b + (L.length + k) by omega]
def bX5 (G : Nat → ClassId) (ad : Nat → Nat) (b : Nat) : List va_E := [.inr (5, [.ref (ad (b + 1)), .int 0]), .inl (G 0, 16, .inl (fun _ => 0))]
theorem cg5 {G : Nat → ClassId} {ad ad' : Nat → Nat} {b n : Nat} (hn : 2 ≤ n) (h : ∀ k, k < b + n → b ≤ k → ad' k = ad k) : bX5 G ad' b = bX5 G ad b := by simp only [bX5, h (b + 1) (by omega) (by omega)]
theorem ln5 {G : Nat → ClassId} {ad : Nat → Nat} {b : Nat} : (bX5 G ad b).length = 2 := rfl
set_option maxHeartbeats 4000000 in
theorem cn_5 (l : Launch) (D : va_G) (G : Nat → ClassId) (t : Nat → Nat) (N : Nat) (ad : Nat → Nat) (cl : Nat → va_E) (o : Nat) (hiN : o + 1 = N) (hc0 : cl o = .inr (5, [.null, .int 0])) (d : Nat) (hd : 1 ≤ d) : CtV l yX5_init cX5_init 1 (rmD d 1 16) D G t (N, ad, cl) [.ref (ad o)] (fun u => ∃ ad' cl', u = (o + 2, ad', cl') ∧ (∀ k, k < o + 1 → ad' k = ad k) ∧ (∀ k, k < o → cl' k = cl k) ∧ Blk cl' o (bX5 G ad' o)) := by
  refine ct_V (own := RX5) (by decide +kernel) rfl (Nat.le_of_ble_eq_true rfl) rfl ?_
  intro p e s m args below meth c A ls X hr hin hl w
  obtain ⟨hx, hb, hml, hown, hts, -⟩ := id X
  have hl : lv_has ls 1 [(0, .ref (ad o))] := hl
  refine lv_aload_n hx hb dX5_init_0 rfl (lv_at hl 0 rfl) ?_
  refine g_oinit X hl.1 k_RX5_3 dX5_init_1 (by decide) ⟨hd, rm_loc hd (by decide)⟩ ?_
  refine lv_aload_n hx hb dX5_init_4 rfl (lv_at hl 0 rfl) ?_
  refine lv_bipush (v := 16) hx hb dX5_init_5 (by decide) ?_
  refine g_newI X w wa_I (n := 16) (by decide) (by decide) (by omega) (Nat.le_of_ble_eq_true rfl) (Nat.le_of_ble_eq_true rfl) dX5_init_7 (fun q1 H w => ?_)
  generalize e4 : va_up ad (N) q1 = ad2 at w
  generalize e5 : va_up cl (N) (.inl (G 0, 16, .inl (fun _ => 0))) = cl3 at w
  have a6 : ad2 (o) = ad (o) := by rw [← e4, va_up_ne _ _ (by omega)]
  have a7 : ad2 (N) = q1 := by rw [← e4, va_up_self]
  have c8 : cl3 (o) = .inr (5, [.null, .int (0)]) := by rw [← e5, va_up_ne _ _ (by omega)]; exact hc0
  have c9 : cl3 (N) = .inl (G 0, 16, .inl (fun _ => 0)) := by rw [← e5, va_up_self]
  refine g_put X w (o) a6 (by omega) c8 kc5 0 (by decide) rfl k_RX5_9 rfl rfl rfl (Nat.le_of_ble_eq_true rfl) dX5_init_9 (fun H locs w => ?_)
  have w : Wd D A s H locs (N + 1) ad2 (va_up cl3 (o) (.inr (5, [.ref (q1), .int (0)]))) := w
  generalize e11 : va_up cl3 (o) (.inr (5, [.ref (q1), .int (0)])) = cl10 at w
  have c12 : cl10 (o) = .inr (5, [.ref (q1), .int (0)]) := by rw [← e11, va_up_self]
  have c13 : cl10 (N) = .inl (G 0, 16, .inl (fun _ => 0)) := by rw [← e11, va_up_ne _ _ (by omega)]; exact c9
  refine e_V X hr w ⟨ad2, cl10, by rw [← hiN], fun k hk => ?_, fun k hk => ?_, Blk.cons ?_ (Blk.cons ?_ Blk.nil)⟩ (Nat.le_of_ble_eq_true rfl) (Nat.le_of_ble_eq_true rfl) dX5_init_12
  · rw [← e4, va_up_ne _ _ (by omega)]
  · rw [← e11, va_up_ne _ _ (by omega), ← e5, va_up_ne _ _ (by omega)]
  · rw [c12, hiN, a7]
  · rw [hiN]; exact c13
abbrev cX8_init : ByteArray := prog_10_method_1_code
def yX8_init : MethodName := ⟨RX8, "<init>", "()V"⟩
theorem wcX8_init : Cond.code yX8_init cX8_init 1 none ∈ tb := tb_1 (i := 93) (by decide +kernel) rfl
theorem wi_8 : Cond.initialized RX8 ∈ tb := tb_1 (i := 6) (by decide +kernel) rfl
theorem wnX8_init : Cond.instanceMethod yX8_init ∈ tb := tb_1 (i := 92) (by decide +kernel) rfl
theorem YX8_init : Yi yX8_init cX8_init 1 0 := ⟨wcX8_init, wnX8_init, wi_8, rfl, by decide +kernel, by decide +kernel, by decide +kernel⟩
theorem dX8_init_0 : decode cX8_init 0 = .ok (.aload_n 0, 1) := by decide +kernel
theorem dX8_init_1 : decode cX8_init 1 = .ok (.invokespecial 3, 3) := by decide +kernel
theorem dX8_init_4 : decode cX8_init 4 = .ok (.aload_n 0, 1) := by decide +kernel
theorem dX8_init_5 : decode cX8_init 5 = .ok (.new 9, 3) := by decide +kernel
theorem dX8_init_8 : decode cX8_init 8 = .ok (.dup, 1) := by decide +kernel
theorem dX8_init_9 : decode cX8_init 9 = .ok (.invokespecial 11, 3) := by decide +kernel
theorem dX8_init_12 : decode cX8_init 12 = .ok (.putfield 12, 3) := by decide +kernel
theorem dX8_init_15 : decode cX8_init 15 = .ok (.aload_n 0, 1) := by decide +kernel
theorem dX8_init_16 : decode cX8_init 16 = .ok (.new 9, 3) := by decide +kernel
theorem dX8_init_19 : decode cX8_init 19 = .ok (.dup, 1) := by decide +kernel
theorem dX8_init_20 : decode cX8_init 20 = .ok (.invokespecial 11, 3) := by decide +kernel
theorem dX8_init_23 : decode cX8_init 23 = .ok (.putfield 18, 3) := by decide +kernel
theorem dX8_init_26 : decode cX8_init 26 = .ok (.return_, 1) := by decide +kernel
theorem k_RX8_3 : Cond.methodLink RX8 3 ⟨"java/lang/Object", "<init>", "()V"⟩ ∈ tb := tb_1 (i := 94) (by decide +kernel) rfl
theorem k_RX8_9 : Cond.classLink RX8 9 RX5 ∈ tb := tb_1 (i := 95) (by decide +kernel) rfl
theorem wt_5 : Cond.instantiable RX5 2 ∈ tb := tb_1 (i := 35) (by decide +kernel) rfl
theorem bl_5 : ∀ j, j < 2 → defaultValue (tyX5 j) = vp_V [.null, .int 0] j := by decide +kernel
theorem k_RX8_11 : Cond.methodLink RX8 11 yX5_init ∈ tb := tb_1 (i := 96) (by decide +kernel) rfl
theorem k_RX8_12 : Cond.fieldLink RX8 12 RX8 "signs" "LTypeRoom$Row;" ∈ tb := tb_1 (i := 97) (by decide +kernel) rfl
theorem k_RX8_18 : Cond.fieldLink RX8 18 RX8 "ends" "LTypeRoom$Row;" ∈ tb := tb_1 (i := 107) (by decide +kernel) rfl
def bX8 (G : Nat → ClassId) (ad : Nat → Nat) (b : Nat) : List va_E := (.inr (8, [.ref (ad (b + 1)), .ref (ad (b + 3))])) :: (bX5 G ad (b + 1) ++ (bX5 G ad (b + 3)))
theorem cg8 {G : Nat → ClassId} {ad ad' : Nat → Nat} {b n : Nat} (hn : 5 ≤ n) (h : ∀ k, k < b + n → b ≤ k → ad' k = ad k) : bX8 G ad' b = bX8 G ad b := by
  simp only [bX8, h (b + 1) (by omega) (by omega), h (b + 3) (by omega) (by omega), cg5 (b := b + 1) (n := 2) (Nat.le_refl _) (fun k h1 h2 => h k (by omega) (by omega)), cg5 (b := b + 3) (n := 2) (Nat.le_refl _) (fun k h1 h2 => h k (by omega) (by omega))]
theorem ln8 {G : Nat → ClassId} {ad : Nat → Nat} {b : Nat} : (bX8 G ad b).length = 5 := by
  simp only [bX8, List.length_cons, List.length_append, List.length_nil, ln5]
set_option maxHeartbeats 4000000 in
set_option maxRecDepth 100000 in
theorem cn_8 (l : Launch) (D : va_G) (G : Nat → ClassId) (t : Nat → Nat) (N : Nat) (ad : Nat → Nat) (cl : Nat → va_E) (o : Nat) (hiN : o + 1 = N) (hc0 : cl o = .inr (8, [.null, .null])) (d : Nat) (hd : 2 ≤ d) : CtV l yX8_init cX8_init 1 (rmD d 4 36) D G t (N, ad, cl) [.ref (ad o)] (fun u => ∃ ad' cl', u = (o + 5, ad', cl') ∧ (∀ k, k < o + 1 → ad' k = ad k) ∧ (∀ k, k < o → cl' k = cl k) ∧ Blk cl' o (bX8 G ad' o)) := by
  subst hiN
  refine ct_V (own := RX8) (by decide +kernel) rfl (Nat.le_of_ble_eq_true rfl) rfl ?_
  intro p e s m args below meth c A ls X hr hin hl w
  obtain ⟨hx, hb, hml, hown, hts, -⟩ := id X
  have hl : lv_has ls 1 [(0, .ref (ad (o)))] := hl
  have fa : ∀ k, k < o + 1 → ad k = ad k := fun _ _ => rfl
  have fc : ∀ k, k < o → cl k = cl k := fun _ _ => rfl
  refine lv_aload_n hx hb dX8_init_0 rfl (lv_at hl 0 rfl) ?_
  refine g_oinit X hl.1 k_RX8_3 dX8_init_1 (by decide) ⟨by show 1 ≤ d; omega, rm_loc (by omega) (by decide)⟩ ?_
  refine lv_aload_n hx hb dX8_init_4 rfl (lv_at hl 0 rfl) ?_
  refine g_new X w kc5 k_RX8_9 wt_5 wi_5 bl_5 (Nat.le_of_ble_eq_true rfl) (Nat.le_of_ble_eq_true rfl) dX8_init_5 (fun q1 H w => ?_)
  generalize e4 : va_up ad (o + 1) q1 = ad2 at w
  generalize e5 : va_up cl (o + 1) (.inr (5, [.null, .int 0])) = cl3 at w
  have g6 : ∀ k, k < o + 1 → ad2 k = ad k := fun k hk => by rw [← e4, va_up_ne _ _ (by omega)]
  have g7 : ∀ k, k < o + 1 → cl3 k = cl k := fun k hk => by rw [← e5, va_up_ne _ _ (by omega)]
  have a8 : ad2 (o) = ad (o) := g6 (o) (by omega)
  have c9 : cl3 (o) = .inr (8, [.null, .null]) := (g7 (o) (by omega)).trans hc0
  have fa : ∀ k, k < o + 1 → ad2 k = ad k := fun k hk => (g6 (k) (by omega)).trans (fa k hk)
  have fc : ∀ k, k < o → cl3 k = cl k := fun k hk => (g7 (k) (by omega)).trans (fc k hk)
  have a10 : ad2 (o + 1) = q1 := by rw [← e4, va_up_self]
  have c11 : cl3 (o + 1) = .inr (5, [.null, .int 0]) := by rw [← e5, va_up_self]
  refine lv_dup hx hb dX8_init_8 rfl ?_
  refine c_init (As := []) (rest := [.ref (q1), .ref (ad (o))]) X w (cn_5 l D G t (o + 2) ad2 cl3 (o + 1) rfl c11 (d - 1) (by omega)) YX5_init k_RX8_11 (by rw [a10]) rfl rfl hl.1 (rm_call (by omega) (by decide)) (Nat.le_of_ble_eq_true rfl) dX8_init_9 (⟨Nat.le_of_ble_eq_true rfl, Nat.le_of_ble_eq_true rfl⟩) (fun u H locs hp w => ?_)
  obtain ⟨ad12, cl13, rfl, g14, g15, b16⟩ := hp
  have w : Wd D A s H locs (o + 3) ad12 cl13 := w
  have b16 : Blk cl13 (o + 1) (bX5 G ad12 (o + 1)) := b16
  have a17 : ad12 (o) = ad (o) := (g14 (o) (by omega)).trans a8
  have a18 : ad12 (o + 1) = q1 := (g14 (o + 1) (by omega)).trans a10
  have c19 : cl13 (o) = .inr (8, [.null, .null]) := (g15 (o) (by omega)).trans c9
  have fa : ∀ k, k < o + 1 → ad12 k = ad k := fun k hk => (g14 (k) (by omega)).trans (fa k hk)
  have fc : ∀ k, k < o → cl13 k = cl k := fun k hk => (g15 (k) (by omega)).trans (fc k hk)
  refine g_putF X w (o) a17 (by omega) c19 kc8 0 (by decide) rfl rfl k_RX8_12 rfl hin rfl rfl (Nat.le_of_ble_eq_true rfl) dX8_init_12 (fun H locs w => ?_)
  have w : Wd D A s H locs (o + 3) ad12 (va_up cl13 (o) (.inr (8, [.ref (q1), .null]))) := w
  generalize e21 : va_up cl13 (o) (.inr (8, [.ref (q1), .null])) = cl20 at w
  have g22 : ∀ k, k ≠ o → cl20 k = cl13 k := fun k hk => by rw [← e21, va_up_ne _ _ hk]
  have c23 : cl20 (o) = .inr (8, [.ref (q1), .null]) := by rw [← e21, va_up_self]
  have b24 : Blk cl20 (o + 1) (bX5 G ad12 (o + 1)) := b16.tr (n := 2) (Nat.le_of_eq ln5) (fun k h1 h2 => g22 (k) (by omega))
  have fc : ∀ k, k < o → cl20 k = cl k := fun k hk => (g22 (k) (by omega)).trans (fc k hk)
  refine lv_aload_n hx hb dX8_init_15 rfl (lv_at hl 0 rfl) ?_
  refine g_new X w kc5 k_RX8_9 wt_5 wi_5 bl_5 (Nat.le_of_ble_eq_true rfl) (Nat.le_of_ble_eq_true rfl) dX8_init_16 (fun q25 H w => ?_)
  generalize e28 : va_up ad12 (o + 3) q25 = ad26 at w
  generalize e29 : va_up cl20 (o + 3) (.inr (5, [.null, .int 0])) = cl27 at w
  have g30 : ∀ k, k < o + 3 → ad26 k = ad12 k := fun k hk => by rw [← e28, va_up_ne _ _ (by omega)]
  have g31 : ∀ k, k < o + 3 → cl27 k = cl20 k := fun k hk => by rw [← e29, va_up_ne _ _ (by omega)]
  have b32 : Blk cl27 (o + 1) (bX5 G ad26 (o + 1)) := by rw [cg5 (n := 2) (Nat.le_refl _) (fun k h1 h2 => g30 (k) (by omega))]; exact b24.tr (n := 2) (Nat.le_of_eq ln5) (fun k h1 h2 => g31 (k) (by omega))
  have a33 : ad26 (o) = ad (o) := (g30 (o) (by omega)).trans a17
  have a34 : ad26 (o + 1) = q1 := (g30 (o + 1) (by omega)).trans a18
  have c35 : cl27 (o) = .inr (8, [.ref (q1), .null]) := (g31 (o) (by omega)).trans c23
  have fa : ∀ k, k < o + 1 → ad26 k = ad k := fun k hk => (g30 (k) (by omega)).trans (fa k hk)
  have fc : ∀ k, k < o → cl27 k = cl k := fun k hk => (g31 (k) (by omega)).trans (fc k hk)
  have a36 : ad26 (o + 3) = q25 := by rw [← e28, va_up_self]
  have c37 : cl27 (o + 3) = .inr (5, [.null, .int 0]) := by rw [← e29, va_up_self]
  refine lv_dup hx hb dX8_init_19 rfl ?_
  refine c_init (As := []) (rest := [.ref (q25), .ref (ad (o))]) X w (cn_5 l D G t (o + 4) ad26 cl27 (o + 3) rfl c37 (d - 1) (by omega)) YX5_init k_RX8_11 (by rw [a36]) rfl rfl hl.1 (rm_call (by omega) (by decide)) (Nat.le_of_ble_eq_true rfl) dX8_init_20 (⟨Nat.le_of_ble_eq_true rfl, Nat.le_of_ble_eq_true rfl⟩) (fun u H locs hp w => ?_)
  obtain ⟨ad38, cl39, rfl, g40, g41, b42⟩ := hp
  have w : Wd D A s H locs (o + 5) ad38 cl39 := w
  have b42 : Blk cl39 (o + 3) (bX5 G ad38 (o + 3)) := b42
  have b43 : Blk cl39 (o + 1) (bX5 G ad38 (o + 1)) := by rw [cg5 (n := 2) (Nat.le_refl _) (fun k h1 h2 => g40 (k) (by omega))]; exact b32.tr (n := 2) (Nat.le_of_eq ln5) (fun k h1 h2 => g41 (k) (by omega))
  have a44 : ad38 (o) = ad (o) := (g40 (o) (by omega)).trans a33
  have a45 : ad38 (o + 1) = q1 := (g40 (o + 1) (by omega)).trans a34
  have a46 : ad38 (o + 3) = q25 := (g40 (o + 3) (by omega)).trans a36
  have c47 : cl39 (o) = .inr (8, [.ref (q1), .null]) := (g41 (o) (by omega)).trans c35
  have fa : ∀ k, k < o + 1 → ad38 k = ad k := fun k hk => (g40 (k) (by omega)).trans (fa k hk)
  have fc : ∀ k, k < o → cl39 k = cl k := fun k hk => (g41 (k) (by omega)).trans (fc k hk)
  refine g_putF X w (o) a44 (by omega) c47 kc8 1 (by decide) rfl rfl k_RX8_18 rfl hin rfl rfl (Nat.le_of_ble_eq_true rfl) dX8_init_23 (fun H locs w => ?_)
  have w : Wd D A s H locs (o + 5) ad38 (va_up cl39 (o) (.inr (8, [.ref (q1), .ref (q25)]))) := w
  generalize e49 : va_up cl39 (o) (.inr (8, [.ref (q1), .ref (q25)])) = cl48 at w
  have g50 : ∀ k, k ≠ o → cl48 k = cl39 k := fun k hk => by rw [← e49, va_up_ne _ _ hk]
  have c51 : cl48 (o) = .inr (8, [.ref (q1), .ref (q25)]) := by rw [← e49, va_up_self]
  have b52 : Blk cl48 (o + 1) (bX5 G ad38 (o + 1)) := b43.tr (n := 2) (Nat.le_of_eq ln5) (fun k h1 h2 => g50 (k) (by omega))
  have b53 : Blk cl48 (o + 3) (bX5 G ad38 (o + 3)) := b42.tr (n := 2) (Nat.le_of_eq ln5) (fun k h1 h2 => g50 (k) (by omega))
  have fc : ∀ k, k < o → cl48 k = cl k := fun k hk => (g50 (k) (by omega)).trans (fc k hk)
  refine e_V X hr w ⟨ad38, cl48, rfl, fa, fc, ?_⟩ (Nat.le_of_ble_eq_true rfl) (Nat.le_of_ble_eq_true rfl) dX8_init_26
  refine Blk.cons ?_ (b52.app (by rw [ln5]) (b53))
  rw [c51, a45, a46]
abbrev cX4_init : ByteArray := prog_6_method_1_code
def yX4_init : MethodName := ⟨RX4, "<init>", "()V"⟩
theorem wcX4_init : Cond.code yX4_init cX4_init 1 none ∈ tb := tb_1 (i := 63) (by decide +kernel) rfl
theorem wi_4 : Cond.initialized RX4 ∈ tb := tb_1 (i := 3) (by decide +kernel) rfl
theorem wnX4_init : Cond.instanceMethod yX4_init ∈ tb := tb_1 (i := 62) (by decide +kernel) rfl
theorem YX4_init : Yi yX4_init cX4_init 1 0 := ⟨wcX4_init, wnX4_init, wi_4, rfl, by decide +kernel, by decide +kernel, by decide +kernel⟩
theorem dX4_init_0 : decode cX4_init 0 = .ok (.aload_n 0, 1) := by decide +kernel
theorem dX4_init_1 : decode cX4_init 1 = .ok (.invokespecial 3, 3) := by decide +kernel
theorem dX4_init_4 : decode cX4_init 4 = .ok (.return_, 1) := by decide +kernel
theorem k_RX4_3 : Cond.methodLink RX4 3 ⟨"java/lang/Object", "<init>", "()V"⟩ ∈ tb := tb_1 (i := 64) (by decide +kernel) rfl
def bX4 (G : Nat → ClassId) (ad : Nat → Nat) (b : Nat) : List va_E := (.inr (4, [.int (0), .int (0), .int (0)])) :: ([])
theorem cg4 {G : Nat → ClassId} {ad ad' : Nat → Nat} {b n : Nat} (hn : 1 ≤ n) (h : ∀ k, k < b + n → b ≤ k → ad' k = ad k) : bX4 G ad' b = bX4 G ad b := by
  rfl
theorem ln4 {G : Nat → ClassId} {ad : Nat → Nat} {b : Nat} : (bX4 G ad b).length = 1 := by
  rfl
set_option maxHeartbeats 4000000 in
set_option maxRecDepth 100000 in
theorem cn_4 (l : Launch) (D : va_G) (G : Nat → ClassId) (t : Nat → Nat) (N : Nat) (ad : Nat → Nat) (cl : Nat → va_E) (o : Nat) (hiN : o + 1 = N) (hc0 : cl o = .inr (4, [.int 0, .int 0, .int 0])) (d : Nat) (hd : 1 ≤ d) : CtV l yX4_init cX4_init 1 (rmD d 0 0) D G t (N, ad, cl) [.ref (ad o)] (fun u => ∃ ad' cl', u = (o + 1, ad', cl') ∧ (∀ k, k < o + 1 → ad' k = ad k) ∧ (∀ k, k < o → cl' k = cl k) ∧ Blk cl' o (bX4 G ad' o)) := by
  subst hiN
  refine ct_V (own := RX4) (by decide +kernel) rfl (Nat.le_of_ble_eq_true rfl) rfl ?_
  intro p e s m args below meth c A ls X hr hin hl w
  obtain ⟨hx, hb, hml, hown, hts, -⟩ := id X
  have hl : lv_has ls 1 [(0, .ref (ad (o)))] := hl
  have fa : ∀ k, k < o + 1 → ad k = ad k := fun _ _ => rfl
  have fc : ∀ k, k < o → cl k = cl k := fun _ _ => rfl
  refine lv_aload_n hx hb dX4_init_0 rfl (lv_at hl 0 rfl) ?_
  refine g_oinit X hl.1 k_RX4_3 dX4_init_1 (by decide) ⟨by show 1 ≤ d; omega, rm_loc (by omega) (by decide)⟩ ?_
  refine e_V X hr w ⟨ad, cl, rfl, fa, fc, ?_⟩ (Nat.le_of_ble_eq_true rfl) (Nat.le_of_ble_eq_true rfl) dX4_init_4
  refine Blk.cons ?_ (Blk.nil)
  rw [hc0]
abbrev cX2_init : ByteArray := prog_4_method_1_code
def yX2_init : MethodName := ⟨RX2, "<init>", "()V"⟩
theorem wcX2_init : Cond.code yX2_init cX2_init 1 none ∈ tb := tb_1 (i := 153) (by decide +kernel) rfl
theorem wi_2 : Cond.initialized RX2 ∈ tb := tb_1 (i := 7) (by decide +kernel) rfl
theorem wnX2_init : Cond.instanceMethod yX2_init ∈ tb := tb_1 (i := 152) (by decide +kernel) rfl
theorem YX2_init : Yi yX2_init cX2_init 1 0 := ⟨wcX2_init, wnX2_init, wi_2, rfl, by decide +kernel, by decide +kernel, by decide +kernel⟩
theorem dX2_init_0 : decode cX2_init 0 = .ok (.aload_n 0, 1) := by decide +kernel
theorem dX2_init_1 : decode cX2_init 1 = .ok (.invokespecial 3, 3) := by decide +kernel
theorem dX2_init_4 : decode cX2_init 4 = .ok (.aload_n 0, 1) := by decide +kernel
theorem dX2_init_5 : decode cX2_init 5 = .ok (.new 9, 3) := by decide +kernel
theorem dX2_init_8 : decode cX2_init 8 = .ok (.dup, 1) := by decide +kernel
theorem dX2_init_9 : decode cX2_init 9 = .ok (.invokespecial 11, 3) := by decide +kernel
theorem dX2_init_12 : decode cX2_init 12 = .ok (.putfield 12, 3) := by decide +kernel
theorem dX2_init_15 : decode cX2_init 15 = .ok (.aload_n 0, 1) := by decide +kernel
theorem dX2_init_16 : decode cX2_init 16 = .ok (.new 9, 3) := by decide +kernel
theorem dX2_init_19 : decode cX2_init 19 = .ok (.dup, 1) := by decide +kernel
theorem dX2_init_20 : decode cX2_init 20 = .ok (.invokespecial 11, 3) := by decide +kernel
theorem dX2_init_23 : decode cX2_init 23 = .ok (.putfield 18, 3) := by decide +kernel
theorem dX2_init_26 : decode cX2_init 26 = .ok (.aload_n 0, 1) := by decide +kernel
theorem dX2_init_27 : decode cX2_init 27 = .ok (.new 21, 3) := by decide +kernel
theorem dX2_init_30 : decode cX2_init 30 = .ok (.dup, 1) := by decide +kernel
theorem dX2_init_31 : decode cX2_init 31 = .ok (.invokespecial 23, 3) := by decide +kernel
theorem dX2_init_34 : decode cX2_init 34 = .ok (.putfield 24, 3) := by decide +kernel
theorem dX2_init_37 : decode cX2_init 37 = .ok (.aload_n 0, 1) := by decide +kernel
theorem dX2_init_38 : decode cX2_init 38 = .ok (.new 9, 3) := by decide +kernel
theorem dX2_init_41 : decode cX2_init 41 = .ok (.dup, 1) := by decide +kernel
theorem dX2_init_42 : decode cX2_init 42 = .ok (.invokespecial 11, 3) := by decide +kernel
theorem dX2_init_45 : decode cX2_init 45 = .ok (.putfield 28, 3) := by decide +kernel
theorem dX2_init_48 : decode cX2_init 48 = .ok (.aload_n 0, 1) := by decide +kernel
theorem dX2_init_49 : decode cX2_init 49 = .ok (.new 21, 3) := by decide +kernel
theorem dX2_init_52 : decode cX2_init 52 = .ok (.dup, 1) := by decide +kernel
theorem dX2_init_53 : decode cX2_init 53 = .ok (.invokespecial 23, 3) := by decide +kernel
theorem dX2_init_56 : decode cX2_init 56 = .ok (.putfield 31, 3) := by decide +kernel
theorem dX2_init_59 : decode cX2_init 59 = .ok (.aload_n 0, 1) := by decide +kernel
theorem dX2_init_60 : decode cX2_init 60 = .ok (.new 21, 3) := by decide +kernel
theorem dX2_init_63 : decode cX2_init 63 = .ok (.dup, 1) := by decide +kernel
theorem dX2_init_64 : decode cX2_init 64 = .ok (.invokespecial 23, 3) := by decide +kernel
theorem dX2_init_67 : decode cX2_init 67 = .ok (.putfield 34, 3) := by decide +kernel
theorem dX2_init_70 : decode cX2_init 70 = .ok (.aload_n 0, 1) := by decide +kernel
theorem dX2_init_71 : decode cX2_init 71 = .ok (.new 21, 3) := by decide +kernel
theorem dX2_init_74 : decode cX2_init 74 = .ok (.dup, 1) := by decide +kernel
theorem dX2_init_75 : decode cX2_init 75 = .ok (.invokespecial 23, 3) := by decide +kernel
theorem dX2_init_78 : decode cX2_init 78 = .ok (.putfield 37, 3) := by decide +kernel
theorem dX2_init_81 : decode cX2_init 81 = .ok (.aload_n 0, 1) := by decide +kernel
theorem dX2_init_82 : decode cX2_init 82 = .ok (.new 9, 3) := by decide +kernel
theorem dX2_init_85 : decode cX2_init 85 = .ok (.dup, 1) := by decide +kernel
theorem dX2_init_86 : decode cX2_init 86 = .ok (.invokespecial 11, 3) := by decide +kernel
theorem dX2_init_89 : decode cX2_init 89 = .ok (.putfield 40, 3) := by decide +kernel
theorem dX2_init_92 : decode cX2_init 92 = .ok (.aload_n 0, 1) := by decide +kernel
theorem dX2_init_93 : decode cX2_init 93 = .ok (.new 21, 3) := by decide +kernel
theorem dX2_init_96 : decode cX2_init 96 = .ok (.dup, 1) := by decide +kernel
theorem dX2_init_97 : decode cX2_init 97 = .ok (.invokespecial 23, 3) := by decide +kernel
theorem dX2_init_100 : decode cX2_init 100 = .ok (.putfield 43, 3) := by decide +kernel
theorem dX2_init_103 : decode cX2_init 103 = .ok (.aload_n 0, 1) := by decide +kernel
theorem dX2_init_104 : decode cX2_init 104 = .ok (.new 21, 3) := by decide +kernel
theorem dX2_init_107 : decode cX2_init 107 = .ok (.dup, 1) := by decide +kernel
theorem dX2_init_108 : decode cX2_init 108 = .ok (.invokespecial 23, 3) := by decide +kernel
theorem dX2_init_111 : decode cX2_init 111 = .ok (.putfield 46, 3) := by decide +kernel
theorem dX2_init_114 : decode cX2_init 114 = .ok (.aload_n 0, 1) := by decide +kernel
theorem dX2_init_115 : decode cX2_init 115 = .ok (.new 21, 3) := by decide +kernel
theorem dX2_init_118 : decode cX2_init 118 = .ok (.dup, 1) := by decide +kernel
theorem dX2_init_119 : decode cX2_init 119 = .ok (.invokespecial 23, 3) := by decide +kernel
theorem dX2_init_122 : decode cX2_init 122 = .ok (.putfield 49, 3) := by decide +kernel
theorem dX2_init_125 : decode cX2_init 125 = .ok (.return_, 1) := by decide +kernel
theorem k_RX2_3 : Cond.methodLink RX2 3 ⟨"java/lang/Object", "<init>", "()V"⟩ ∈ tb := tb_1 (i := 154) (by decide +kernel) rfl
theorem k_RX2_9 : Cond.classLink RX2 9 RX8 ∈ tb := tb_1 (i := 155) (by decide +kernel) rfl
theorem wt_8 : Cond.instantiable RX8 2 ∈ tb := tb_1 (i := 90) (by decide +kernel) rfl
theorem bl_8 : ∀ j, j < 2 → defaultValue (tyX8 j) = vp_V [.null, .null] j := by decide +kernel
theorem k_RX2_11 : Cond.methodLink RX2 11 yX8_init ∈ tb := tb_1 (i := 156) (by decide +kernel) rfl
theorem k_RX2_12 : Cond.fieldLink RX2 12 RX2 "labels" "LTypeRoom$Shelf;" ∈ tb := tb_1 (i := 159) (by decide +kernel) rfl
theorem k_RX2_18 : Cond.fieldLink RX2 18 RX2 "refs" "LTypeRoom$Shelf;" ∈ tb := tb_1 (i := 164) (by decide +kernel) rfl
theorem k_RX2_21 : Cond.classLink RX2 21 RX5 ∈ tb := tb_1 (i := 157) (by decide +kernel) rfl
theorem k_RX2_23 : Cond.methodLink RX2 23 yX5_init ∈ tb := tb_1 (i := 158) (by decide +kernel) rfl
theorem k_RX2_24 : Cond.fieldLink RX2 24 RX2 "labelAt" "LTypeRoom$Row;" ∈ tb := tb_1 (i := 167) (by decide +kernel) rfl
theorem k_RX2_28 : Cond.fieldLink RX2 28 RX2 "titles" "LTypeRoom$Shelf;" ∈ tb := tb_1 (i := 171) (by decide +kernel) rfl
theorem k_RX2_31 : Cond.fieldLink RX2 31 RX2 "levels" "LTypeRoom$Row;" ∈ tb := tb_1 (i := 174) (by decide +kernel) rfl
theorem k_RX2_34 : Cond.fieldLink RX2 34 RX2 "headAt" "LTypeRoom$Row;" ∈ tb := tb_1 (i := 177) (by decide +kernel) rfl
theorem k_RX2_37 : Cond.fieldLink RX2 37 RX2 "headLines" "LTypeRoom$Row;" ∈ tb := tb_1 (i := 179) (by decide +kernel) rfl
theorem k_RX2_40 : Cond.fieldLink RX2 40 RX2 "keys" "LTypeRoom$Shelf;" ∈ tb := tb_1 (i := 182) (by decide +kernel) rfl
theorem k_RX2_43 : Cond.fieldLink RX2 43 RX2 "keyAt" "LTypeRoom$Row;" ∈ tb := tb_1 (i := 185) (by decide +kernel) rfl
theorem k_RX2_46 : Cond.fieldLink RX2 46 RX2 "pages" "LTypeRoom$Row;" ∈ tb := tb_1 (i := 188) (by decide +kernel) rfl
theorem k_RX2_49 : Cond.fieldLink RX2 49 RX2 "latest" "LTypeRoom$Row;" ∈ tb := tb_1 (i := 189) (by decide +kernel) rfl
def bX2 (G : Nat → ClassId) (ad : Nat → Nat) (b : Nat) : List va_E := (.inr (2, [.ref (ad (b + 1)), .ref (ad (b + 6)), .ref (ad (b + 11)), .ref (ad (b + 13)), .ref (ad (b + 18)), .ref (ad (b + 20)), .ref (ad (b + 22)), .ref (ad (b + 24)), .ref (ad (b + 29)), .ref (ad (b + 31)), .ref (ad (b + 33)), .int (0), .int (0), .int (0), .int (0)])) :: (bX8 G ad (b + 1) ++ (bX8 G ad (b + 6) ++ (bX5 G ad (b + 11) ++ (bX8 G ad (b + 13) ++ (bX5 G ad (b + 18) ++ (bX5 G ad (b + 20) ++ (bX5 G ad (b + 22) ++ (bX8 G ad (b + 24) ++ (bX5 G ad (b + 29) ++ (bX5 G ad (b + 31) ++ (bX5 G ad (b + 33))))))))))))
theorem cg2 {G : Nat → ClassId} {ad ad' : Nat → Nat} {b n : Nat} (hn : 35 ≤ n) (h : ∀ k, k < b + n → b ≤ k → ad' k = ad k) : bX2 G ad' b = bX2 G ad b := by
  simp only [bX2, h (b + 1) (by omega) (by omega), h (b + 6) (by omega) (by omega), h (b + 11) (by omega) (by omega), h (b + 13) (by omega) (by omega), h (b + 18) (by omega) (by omega), h (b + 20) (by omega) (by omega), h (b + 22) (by omega) (by omega), h (b + 24) (by omega) (by omega), h (b + 29) (by omega) (by omega), h (b + 31) (by omega) (by omega), h (b + 33) (by omega) (by omega), cg8 (b := b + 1) (n := 5) (Nat.le_refl _) (fun k h1 h2 => h k (by omega) (by omega)), cg8 (b := b + 6) (n := 5) (Nat.le_refl _) (fun k h1 h2 => h k (by omega) (by omega)), cg5 (b := b + 11) (n := 2) (Nat.le_refl _) (fun k h1 h2 => h k (by omega) (by omega)), cg8 (b := b + 13) (n := 5) (Nat.le_refl _) (fun k h1 h2 => h k (by omega) (by omega)), cg5 (b := b + 18) (n := 2) (Nat.le_refl _) (fun k h1 h2 => h k (by omega) (by omega)), cg5 (b := b + 20) (n := 2) (Nat.le_refl _) (fun k h1 h2 => h k (by omega) (by omega)), cg5 (b := b + 22) (n := 2) (Nat.le_refl _) (fun k h1 h2 => h k (by omega) (by omega)), cg8 (b := b + 24) (n := 5) (Nat.le_refl _) (fun k h1 h2 => h k (by omega) (by omega)), cg5 (b := b + 29) (n := 2) (Nat.le_refl _) (fun k h1 h2 => h k (by omega) (by omega)), cg5 (b := b + 31) (n := 2) (Nat.le_refl _) (fun k h1 h2 => h k (by omega) (by omega)), cg5 (b := b + 33) (n := 2) (Nat.le_refl _) (fun k h1 h2 => h k (by omega) (by omega))]
theorem ln2 {G : Nat → ClassId} {ad : Nat → Nat} {b : Nat} : (bX2 G ad b).length = 35 := by
  simp only [bX2, List.length_cons, List.length_append, List.length_nil, ln5, ln8]
set_option maxHeartbeats 4000000 in
set_option maxRecDepth 100000 in
theorem cn_2 (l : Launch) (D : va_G) (G : Nat → ClassId) (t : Nat → Nat) (N : Nat) (ad : Nat → Nat) (cl : Nat → va_E) (o : Nat) (hiN : o + 1 = N) (hc0 : cl o = .inr (2, [.null, .null, .null, .null, .null, .null, .null, .null, .null, .null, .null, .int 0, .int 0, .int 0, .int 0])) (d : Nat) (hd : 3 ≤ d) : CtV l yX2_init cX2_init 1 (rmD d 34 278) D G t (N, ad, cl) [.ref (ad o)] (fun u => ∃ ad' cl', u = (o + 35, ad', cl') ∧ (∀ k, k < o + 1 → ad' k = ad k) ∧ (∀ k, k < o → cl' k = cl k) ∧ Blk cl' o (bX2 G ad' o)) := by
  subst hiN
  refine ct_V (own := RX2) (by decide +kernel) rfl (Nat.le_of_ble_eq_true rfl) rfl ?_
  intro p e s m args below meth c A ls X hr hin hl w
  obtain ⟨hx, hb, hml, hown, hts, -⟩ := id X
  have hl : lv_has ls 1 [(0, .ref (ad (o)))] := hl
  have fa : ∀ k, k < o + 1 → ad k = ad k := fun _ _ => rfl
  have fc : ∀ k, k < o → cl k = cl k := fun _ _ => rfl
  refine lv_aload_n hx hb dX2_init_0 rfl (lv_at hl 0 rfl) ?_
  refine g_oinit X hl.1 k_RX2_3 dX2_init_1 (by decide) ⟨by show 1 ≤ d; omega, rm_loc (by omega) (by decide)⟩ ?_
  refine lv_aload_n hx hb dX2_init_4 rfl (lv_at hl 0 rfl) ?_
  refine g_new X w kc8 k_RX2_9 wt_8 wi_8 bl_8 (Nat.le_of_ble_eq_true rfl) (Nat.le_of_ble_eq_true rfl) dX2_init_5 (fun q1 H w => ?_)
  generalize e4 : va_up ad (o + 1) q1 = ad2 at w
  generalize e5 : va_up cl (o + 1) (.inr (8, [.null, .null])) = cl3 at w
  have g6 : ∀ k, k < o + 1 → ad2 k = ad k := fun k hk => by rw [← e4, va_up_ne _ _ (by omega)]
  have g7 : ∀ k, k < o + 1 → cl3 k = cl k := fun k hk => by rw [← e5, va_up_ne _ _ (by omega)]
  have a8 : ad2 (o) = ad (o) := g6 (o) (by omega)
  have c9 : cl3 (o) = .inr (2, [.null, .null, .null, .null, .null, .null, .null, .null, .null, .null, .null, .int (0), .int (0), .int (0), .int (0)]) := (g7 (o) (by omega)).trans hc0
  have fa : ∀ k, k < o + 1 → ad2 k = ad k := fun k hk => (g6 (k) (by omega)).trans (fa k hk)
  have fc : ∀ k, k < o → cl3 k = cl k := fun k hk => (g7 (k) (by omega)).trans (fc k hk)
  have a10 : ad2 (o + 1) = q1 := by rw [← e4, va_up_self]
  have c11 : cl3 (o + 1) = .inr (8, [.null, .null]) := by rw [← e5, va_up_self]
  refine lv_dup hx hb dX2_init_8 rfl ?_
  refine c_init (As := []) (rest := [.ref (q1), .ref (ad (o))]) X w (cn_8 l D G t (o + 2) ad2 cl3 (o + 1) rfl c11 (d - 1) (by omega)) YX8_init k_RX2_11 (by rw [a10]) rfl rfl hl.1 (rm_call (by omega) (by decide)) (Nat.le_of_ble_eq_true rfl) dX2_init_9 (⟨Nat.le_of_ble_eq_true rfl, Nat.le_of_ble_eq_true rfl⟩) (fun u H locs hp w => ?_)
  obtain ⟨ad12, cl13, rfl, g14, g15, b16⟩ := hp
  have w : Wd D A s H locs (o + 6) ad12 cl13 := w
  have b16 : Blk cl13 (o + 1) (bX8 G ad12 (o + 1)) := b16
  have a17 : ad12 (o) = ad (o) := (g14 (o) (by omega)).trans a8
  have a18 : ad12 (o + 1) = q1 := (g14 (o + 1) (by omega)).trans a10
  have c19 : cl13 (o) = .inr (2, [.null, .null, .null, .null, .null, .null, .null, .null, .null, .null, .null, .int (0), .int (0), .int (0), .int (0)]) := (g15 (o) (by omega)).trans c9
  have fa : ∀ k, k < o + 1 → ad12 k = ad k := fun k hk => (g14 (k) (by omega)).trans (fa k hk)
  have fc : ∀ k, k < o → cl13 k = cl k := fun k hk => (g15 (k) (by omega)).trans (fc k hk)
  refine g_putF X w (o) a17 (by omega) c19 kc2 0 (by decide) rfl rfl k_RX2_12 rfl hin rfl rfl (Nat.le_of_ble_eq_true rfl) dX2_init_12 (fun H locs w => ?_)
  have w : Wd D A s H locs (o + 6) ad12 (va_up cl13 (o) (.inr (2, [.ref (q1), .null, .null, .null, .null, .null, .null, .null, .null, .null, .null, .int (0), .int (0), .int (0), .int (0)]))) := w
  generalize e21 : va_up cl13 (o) (.inr (2, [.ref (q1), .null, .null, .null, .null, .null, .null, .null, .null, .null, .null, .int (0), .int (0), .int (0), .int (0)])) = cl20 at w
  have g22 : ∀ k, k ≠ o → cl20 k = cl13 k := fun k hk => by rw [← e21, va_up_ne _ _ hk]
  have c23 : cl20 (o) = .inr (2, [.ref (q1), .null, .null, .null, .null, .null, .null, .null, .null, .null, .null, .int (0), .int (0), .int (0), .int (0)]) := by rw [← e21, va_up_self]
  have b24 : Blk cl20 (o + 1) (bX8 G ad12 (o + 1)) := b16.tr (n := 5) (Nat.le_of_eq ln8) (fun k h1 h2 => g22 (k) (by omega))
  have fc : ∀ k, k < o → cl20 k = cl k := fun k hk => (g22 (k) (by omega)).trans (fc k hk)
  refine lv_aload_n hx hb dX2_init_15 rfl (lv_at hl 0 rfl) ?_
  refine g_new X w kc8 k_RX2_9 wt_8 wi_8 bl_8 (Nat.le_of_ble_eq_true rfl) (Nat.le_of_ble_eq_true rfl) dX2_init_16 (fun q25 H w => ?_)
  generalize e28 : va_up ad12 (o + 6) q25 = ad26 at w
  generalize e29 : va_up cl20 (o + 6) (.inr (8, [.null, .null])) = cl27 at w
  have g30 : ∀ k, k < o + 6 → ad26 k = ad12 k := fun k hk => by rw [← e28, va_up_ne _ _ (by omega)]
  have g31 : ∀ k, k < o + 6 → cl27 k = cl20 k := fun k hk => by rw [← e29, va_up_ne _ _ (by omega)]
  have b32 : Blk cl27 (o + 1) (bX8 G ad26 (o + 1)) := by rw [cg8 (n := 5) (Nat.le_refl _) (fun k h1 h2 => g30 (k) (by omega))]; exact b24.tr (n := 5) (Nat.le_of_eq ln8) (fun k h1 h2 => g31 (k) (by omega))
  have a33 : ad26 (o) = ad (o) := (g30 (o) (by omega)).trans a17
  have a34 : ad26 (o + 1) = q1 := (g30 (o + 1) (by omega)).trans a18
  have c35 : cl27 (o) = .inr (2, [.ref (q1), .null, .null, .null, .null, .null, .null, .null, .null, .null, .null, .int (0), .int (0), .int (0), .int (0)]) := (g31 (o) (by omega)).trans c23
  have fa : ∀ k, k < o + 1 → ad26 k = ad k := fun k hk => (g30 (k) (by omega)).trans (fa k hk)
  have fc : ∀ k, k < o → cl27 k = cl k := fun k hk => (g31 (k) (by omega)).trans (fc k hk)
  have a36 : ad26 (o + 6) = q25 := by rw [← e28, va_up_self]
  have c37 : cl27 (o + 6) = .inr (8, [.null, .null]) := by rw [← e29, va_up_self]
  refine lv_dup hx hb dX2_init_19 rfl ?_
  refine c_init (As := []) (rest := [.ref (q25), .ref (ad (o))]) X w (cn_8 l D G t (o + 7) ad26 cl27 (o + 6) rfl c37 (d - 1) (by omega)) YX8_init k_RX2_11 (by rw [a36]) rfl rfl hl.1 (rm_call (by omega) (by decide)) (Nat.le_of_ble_eq_true rfl) dX2_init_20 (⟨Nat.le_of_ble_eq_true rfl, Nat.le_of_ble_eq_true rfl⟩) (fun u H locs hp w => ?_)
  obtain ⟨ad38, cl39, rfl, g40, g41, b42⟩ := hp
  have w : Wd D A s H locs (o + 11) ad38 cl39 := w
  have b42 : Blk cl39 (o + 6) (bX8 G ad38 (o + 6)) := b42
  have b43 : Blk cl39 (o + 1) (bX8 G ad38 (o + 1)) := by rw [cg8 (n := 5) (Nat.le_refl _) (fun k h1 h2 => g40 (k) (by omega))]; exact b32.tr (n := 5) (Nat.le_of_eq ln8) (fun k h1 h2 => g41 (k) (by omega))
  have a44 : ad38 (o) = ad (o) := (g40 (o) (by omega)).trans a33
  have a45 : ad38 (o + 1) = q1 := (g40 (o + 1) (by omega)).trans a34
  have a46 : ad38 (o + 6) = q25 := (g40 (o + 6) (by omega)).trans a36
  have c47 : cl39 (o) = .inr (2, [.ref (q1), .null, .null, .null, .null, .null, .null, .null, .null, .null, .null, .int (0), .int (0), .int (0), .int (0)]) := (g41 (o) (by omega)).trans c35
  have fa : ∀ k, k < o + 1 → ad38 k = ad k := fun k hk => (g40 (k) (by omega)).trans (fa k hk)
  have fc : ∀ k, k < o → cl39 k = cl k := fun k hk => (g41 (k) (by omega)).trans (fc k hk)
  refine g_putF X w (o) a44 (by omega) c47 kc2 1 (by decide) rfl rfl k_RX2_18 rfl hin rfl rfl (Nat.le_of_ble_eq_true rfl) dX2_init_23 (fun H locs w => ?_)
  have w : Wd D A s H locs (o + 11) ad38 (va_up cl39 (o) (.inr (2, [.ref (q1), .ref (q25), .null, .null, .null, .null, .null, .null, .null, .null, .null, .int (0), .int (0), .int (0), .int (0)]))) := w
  generalize e49 : va_up cl39 (o) (.inr (2, [.ref (q1), .ref (q25), .null, .null, .null, .null, .null, .null, .null, .null, .null, .int (0), .int (0), .int (0), .int (0)])) = cl48 at w
  have g50 : ∀ k, k ≠ o → cl48 k = cl39 k := fun k hk => by rw [← e49, va_up_ne _ _ hk]
  have c51 : cl48 (o) = .inr (2, [.ref (q1), .ref (q25), .null, .null, .null, .null, .null, .null, .null, .null, .null, .int (0), .int (0), .int (0), .int (0)]) := by rw [← e49, va_up_self]
  have b52 : Blk cl48 (o + 1) (bX8 G ad38 (o + 1)) := b43.tr (n := 5) (Nat.le_of_eq ln8) (fun k h1 h2 => g50 (k) (by omega))
  have b53 : Blk cl48 (o + 6) (bX8 G ad38 (o + 6)) := b42.tr (n := 5) (Nat.le_of_eq ln8) (fun k h1 h2 => g50 (k) (by omega))
  have fc : ∀ k, k < o → cl48 k = cl k := fun k hk => (g50 (k) (by omega)).trans (fc k hk)
  refine lv_aload_n hx hb dX2_init_26 rfl (lv_at hl 0 rfl) ?_
  refine g_new X w kc5 k_RX2_21 wt_5 wi_5 bl_5 (Nat.le_of_ble_eq_true rfl) (Nat.le_of_ble_eq_true rfl) dX2_init_27 (fun q54 H w => ?_)
  generalize e57 : va_up ad38 (o + 11) q54 = ad55 at w
  generalize e58 : va_up cl48 (o + 11) (.inr (5, [.null, .int 0])) = cl56 at w
  have g59 : ∀ k, k < o + 11 → ad55 k = ad38 k := fun k hk => by rw [← e57, va_up_ne _ _ (by omega)]
  have g60 : ∀ k, k < o + 11 → cl56 k = cl48 k := fun k hk => by rw [← e58, va_up_ne _ _ (by omega)]
  have b61 : Blk cl56 (o + 1) (bX8 G ad55 (o + 1)) := by rw [cg8 (n := 5) (Nat.le_refl _) (fun k h1 h2 => g59 (k) (by omega))]; exact b52.tr (n := 5) (Nat.le_of_eq ln8) (fun k h1 h2 => g60 (k) (by omega))
  have b62 : Blk cl56 (o + 6) (bX8 G ad55 (o + 6)) := by rw [cg8 (n := 5) (Nat.le_refl _) (fun k h1 h2 => g59 (k) (by omega))]; exact b53.tr (n := 5) (Nat.le_of_eq ln8) (fun k h1 h2 => g60 (k) (by omega))
  have a63 : ad55 (o) = ad (o) := (g59 (o) (by omega)).trans a44
  have a64 : ad55 (o + 1) = q1 := (g59 (o + 1) (by omega)).trans a45
  have a65 : ad55 (o + 6) = q25 := (g59 (o + 6) (by omega)).trans a46
  have c66 : cl56 (o) = .inr (2, [.ref (q1), .ref (q25), .null, .null, .null, .null, .null, .null, .null, .null, .null, .int (0), .int (0), .int (0), .int (0)]) := (g60 (o) (by omega)).trans c51
  have fa : ∀ k, k < o + 1 → ad55 k = ad k := fun k hk => (g59 (k) (by omega)).trans (fa k hk)
  have fc : ∀ k, k < o → cl56 k = cl k := fun k hk => (g60 (k) (by omega)).trans (fc k hk)
  have a67 : ad55 (o + 11) = q54 := by rw [← e57, va_up_self]
  have c68 : cl56 (o + 11) = .inr (5, [.null, .int 0]) := by rw [← e58, va_up_self]
  refine lv_dup hx hb dX2_init_30 rfl ?_
  refine c_init (As := []) (rest := [.ref (q54), .ref (ad (o))]) X w (cn_5 l D G t (o + 12) ad55 cl56 (o + 11) rfl c68 (d - 1) (by omega)) YX5_init k_RX2_23 (by rw [a67]) rfl rfl hl.1 (rm_call (by omega) (by decide)) (Nat.le_of_ble_eq_true rfl) dX2_init_31 (⟨Nat.le_of_ble_eq_true rfl, Nat.le_of_ble_eq_true rfl⟩) (fun u H locs hp w => ?_)
  obtain ⟨ad69, cl70, rfl, g71, g72, b73⟩ := hp
  have w : Wd D A s H locs (o + 13) ad69 cl70 := w
  have b73 : Blk cl70 (o + 11) (bX5 G ad69 (o + 11)) := b73
  have b74 : Blk cl70 (o + 1) (bX8 G ad69 (o + 1)) := by rw [cg8 (n := 5) (Nat.le_refl _) (fun k h1 h2 => g71 (k) (by omega))]; exact b61.tr (n := 5) (Nat.le_of_eq ln8) (fun k h1 h2 => g72 (k) (by omega))
  have b75 : Blk cl70 (o + 6) (bX8 G ad69 (o + 6)) := by rw [cg8 (n := 5) (Nat.le_refl _) (fun k h1 h2 => g71 (k) (by omega))]; exact b62.tr (n := 5) (Nat.le_of_eq ln8) (fun k h1 h2 => g72 (k) (by omega))
  have a76 : ad69 (o) = ad (o) := (g71 (o) (by omega)).trans a63
  have a77 : ad69 (o + 1) = q1 := (g71 (o + 1) (by omega)).trans a64
  have a78 : ad69 (o + 6) = q25 := (g71 (o + 6) (by omega)).trans a65
  have a79 : ad69 (o + 11) = q54 := (g71 (o + 11) (by omega)).trans a67
  have c80 : cl70 (o) = .inr (2, [.ref (q1), .ref (q25), .null, .null, .null, .null, .null, .null, .null, .null, .null, .int (0), .int (0), .int (0), .int (0)]) := (g72 (o) (by omega)).trans c66
  have fa : ∀ k, k < o + 1 → ad69 k = ad k := fun k hk => (g71 (k) (by omega)).trans (fa k hk)
  have fc : ∀ k, k < o → cl70 k = cl k := fun k hk => (g72 (k) (by omega)).trans (fc k hk)
  refine g_putF X w (o) a76 (by omega) c80 kc2 2 (by decide) rfl rfl k_RX2_24 rfl hin rfl rfl (Nat.le_of_ble_eq_true rfl) dX2_init_34 (fun H locs w => ?_)
  have w : Wd D A s H locs (o + 13) ad69 (va_up cl70 (o) (.inr (2, [.ref (q1), .ref (q25), .ref (q54), .null, .null, .null, .null, .null, .null, .null, .null, .int (0), .int (0), .int (0), .int (0)]))) := w
  generalize e82 : va_up cl70 (o) (.inr (2, [.ref (q1), .ref (q25), .ref (q54), .null, .null, .null, .null, .null, .null, .null, .null, .int (0), .int (0), .int (0), .int (0)])) = cl81 at w
  have g83 : ∀ k, k ≠ o → cl81 k = cl70 k := fun k hk => by rw [← e82, va_up_ne _ _ hk]
  have c84 : cl81 (o) = .inr (2, [.ref (q1), .ref (q25), .ref (q54), .null, .null, .null, .null, .null, .null, .null, .null, .int (0), .int (0), .int (0), .int (0)]) := by rw [← e82, va_up_self]
  have b85 : Blk cl81 (o + 1) (bX8 G ad69 (o + 1)) := b74.tr (n := 5) (Nat.le_of_eq ln8) (fun k h1 h2 => g83 (k) (by omega))
  have b86 : Blk cl81 (o + 6) (bX8 G ad69 (o + 6)) := b75.tr (n := 5) (Nat.le_of_eq ln8) (fun k h1 h2 => g83 (k) (by omega))
  have b87 : Blk cl81 (o + 11) (bX5 G ad69 (o + 11)) := b73.tr (n := 2) (Nat.le_of_eq ln5) (fun k h1 h2 => g83 (k) (by omega))
  have fc : ∀ k, k < o → cl81 k = cl k := fun k hk => (g83 (k) (by omega)).trans (fc k hk)
  refine lv_aload_n hx hb dX2_init_37 rfl (lv_at hl 0 rfl) ?_
  refine g_new X w kc8 k_RX2_9 wt_8 wi_8 bl_8 (Nat.le_of_ble_eq_true rfl) (Nat.le_of_ble_eq_true rfl) dX2_init_38 (fun q88 H w => ?_)
  generalize e91 : va_up ad69 (o + 13) q88 = ad89 at w
  generalize e92 : va_up cl81 (o + 13) (.inr (8, [.null, .null])) = cl90 at w
  have g93 : ∀ k, k < o + 13 → ad89 k = ad69 k := fun k hk => by rw [← e91, va_up_ne _ _ (by omega)]
  have g94 : ∀ k, k < o + 13 → cl90 k = cl81 k := fun k hk => by rw [← e92, va_up_ne _ _ (by omega)]
  have b95 : Blk cl90 (o + 1) (bX8 G ad89 (o + 1)) := by rw [cg8 (n := 5) (Nat.le_refl _) (fun k h1 h2 => g93 (k) (by omega))]; exact b85.tr (n := 5) (Nat.le_of_eq ln8) (fun k h1 h2 => g94 (k) (by omega))
  have b96 : Blk cl90 (o + 6) (bX8 G ad89 (o + 6)) := by rw [cg8 (n := 5) (Nat.le_refl _) (fun k h1 h2 => g93 (k) (by omega))]; exact b86.tr (n := 5) (Nat.le_of_eq ln8) (fun k h1 h2 => g94 (k) (by omega))
  have b97 : Blk cl90 (o + 11) (bX5 G ad89 (o + 11)) := by rw [cg5 (n := 2) (Nat.le_refl _) (fun k h1 h2 => g93 (k) (by omega))]; exact b87.tr (n := 2) (Nat.le_of_eq ln5) (fun k h1 h2 => g94 (k) (by omega))
  have a98 : ad89 (o) = ad (o) := (g93 (o) (by omega)).trans a76
  have a99 : ad89 (o + 1) = q1 := (g93 (o + 1) (by omega)).trans a77
  have a100 : ad89 (o + 6) = q25 := (g93 (o + 6) (by omega)).trans a78
  have a101 : ad89 (o + 11) = q54 := (g93 (o + 11) (by omega)).trans a79
  have c102 : cl90 (o) = .inr (2, [.ref (q1), .ref (q25), .ref (q54), .null, .null, .null, .null, .null, .null, .null, .null, .int (0), .int (0), .int (0), .int (0)]) := (g94 (o) (by omega)).trans c84
  have fa : ∀ k, k < o + 1 → ad89 k = ad k := fun k hk => (g93 (k) (by omega)).trans (fa k hk)
  have fc : ∀ k, k < o → cl90 k = cl k := fun k hk => (g94 (k) (by omega)).trans (fc k hk)
  have a103 : ad89 (o + 13) = q88 := by rw [← e91, va_up_self]
  have c104 : cl90 (o + 13) = .inr (8, [.null, .null]) := by rw [← e92, va_up_self]
  refine lv_dup hx hb dX2_init_41 rfl ?_
  refine c_init (As := []) (rest := [.ref (q88), .ref (ad (o))]) X w (cn_8 l D G t (o + 14) ad89 cl90 (o + 13) rfl c104 (d - 1) (by omega)) YX8_init k_RX2_11 (by rw [a103]) rfl rfl hl.1 (rm_call (by omega) (by decide)) (Nat.le_of_ble_eq_true rfl) dX2_init_42 (⟨Nat.le_of_ble_eq_true rfl, Nat.le_of_ble_eq_true rfl⟩) (fun u H locs hp w => ?_)
  obtain ⟨ad105, cl106, rfl, g107, g108, b109⟩ := hp
  have w : Wd D A s H locs (o + 18) ad105 cl106 := w
  have b109 : Blk cl106 (o + 13) (bX8 G ad105 (o + 13)) := b109
  have b110 : Blk cl106 (o + 1) (bX8 G ad105 (o + 1)) := by rw [cg8 (n := 5) (Nat.le_refl _) (fun k h1 h2 => g107 (k) (by omega))]; exact b95.tr (n := 5) (Nat.le_of_eq ln8) (fun k h1 h2 => g108 (k) (by omega))
  have b111 : Blk cl106 (o + 6) (bX8 G ad105 (o + 6)) := by rw [cg8 (n := 5) (Nat.le_refl _) (fun k h1 h2 => g107 (k) (by omega))]; exact b96.tr (n := 5) (Nat.le_of_eq ln8) (fun k h1 h2 => g108 (k) (by omega))
  have b112 : Blk cl106 (o + 11) (bX5 G ad105 (o + 11)) := by rw [cg5 (n := 2) (Nat.le_refl _) (fun k h1 h2 => g107 (k) (by omega))]; exact b97.tr (n := 2) (Nat.le_of_eq ln5) (fun k h1 h2 => g108 (k) (by omega))
  have a113 : ad105 (o) = ad (o) := (g107 (o) (by omega)).trans a98
  have a114 : ad105 (o + 1) = q1 := (g107 (o + 1) (by omega)).trans a99
  have a115 : ad105 (o + 6) = q25 := (g107 (o + 6) (by omega)).trans a100
  have a116 : ad105 (o + 11) = q54 := (g107 (o + 11) (by omega)).trans a101
  have a117 : ad105 (o + 13) = q88 := (g107 (o + 13) (by omega)).trans a103
  have c118 : cl106 (o) = .inr (2, [.ref (q1), .ref (q25), .ref (q54), .null, .null, .null, .null, .null, .null, .null, .null, .int (0), .int (0), .int (0), .int (0)]) := (g108 (o) (by omega)).trans c102
  have fa : ∀ k, k < o + 1 → ad105 k = ad k := fun k hk => (g107 (k) (by omega)).trans (fa k hk)
  have fc : ∀ k, k < o → cl106 k = cl k := fun k hk => (g108 (k) (by omega)).trans (fc k hk)
  refine g_putF X w (o) a113 (by omega) c118 kc2 3 (by decide) rfl rfl k_RX2_28 rfl hin rfl rfl (Nat.le_of_ble_eq_true rfl) dX2_init_45 (fun H locs w => ?_)
  have w : Wd D A s H locs (o + 18) ad105 (va_up cl106 (o) (.inr (2, [.ref (q1), .ref (q25), .ref (q54), .ref (q88), .null, .null, .null, .null, .null, .null, .null, .int (0), .int (0), .int (0), .int (0)]))) := w
  generalize e120 : va_up cl106 (o) (.inr (2, [.ref (q1), .ref (q25), .ref (q54), .ref (q88), .null, .null, .null, .null, .null, .null, .null, .int (0), .int (0), .int (0), .int (0)])) = cl119 at w
  have g121 : ∀ k, k ≠ o → cl119 k = cl106 k := fun k hk => by rw [← e120, va_up_ne _ _ hk]
  have c122 : cl119 (o) = .inr (2, [.ref (q1), .ref (q25), .ref (q54), .ref (q88), .null, .null, .null, .null, .null, .null, .null, .int (0), .int (0), .int (0), .int (0)]) := by rw [← e120, va_up_self]
  have b123 : Blk cl119 (o + 1) (bX8 G ad105 (o + 1)) := b110.tr (n := 5) (Nat.le_of_eq ln8) (fun k h1 h2 => g121 (k) (by omega))
  have b124 : Blk cl119 (o + 6) (bX8 G ad105 (o + 6)) := b111.tr (n := 5) (Nat.le_of_eq ln8) (fun k h1 h2 => g121 (k) (by omega))
  have b125 : Blk cl119 (o + 11) (bX5 G ad105 (o + 11)) := b112.tr (n := 2) (Nat.le_of_eq ln5) (fun k h1 h2 => g121 (k) (by omega))
  have b126 : Blk cl119 (o + 13) (bX8 G ad105 (o + 13)) := b109.tr (n := 5) (Nat.le_of_eq ln8) (fun k h1 h2 => g121 (k) (by omega))
  have fc : ∀ k, k < o → cl119 k = cl k := fun k hk => (g121 (k) (by omega)).trans (fc k hk)
  refine lv_aload_n hx hb dX2_init_48 rfl (lv_at hl 0 rfl) ?_
  refine g_new X w kc5 k_RX2_21 wt_5 wi_5 bl_5 (Nat.le_of_ble_eq_true rfl) (Nat.le_of_ble_eq_true rfl) dX2_init_49 (fun q127 H w => ?_)
  generalize e130 : va_up ad105 (o + 18) q127 = ad128 at w
  generalize e131 : va_up cl119 (o + 18) (.inr (5, [.null, .int 0])) = cl129 at w
  have g132 : ∀ k, k < o + 18 → ad128 k = ad105 k := fun k hk => by rw [← e130, va_up_ne _ _ (by omega)]
  have g133 : ∀ k, k < o + 18 → cl129 k = cl119 k := fun k hk => by rw [← e131, va_up_ne _ _ (by omega)]
  have b134 : Blk cl129 (o + 1) (bX8 G ad128 (o + 1)) := by rw [cg8 (n := 5) (Nat.le_refl _) (fun k h1 h2 => g132 (k) (by omega))]; exact b123.tr (n := 5) (Nat.le_of_eq ln8) (fun k h1 h2 => g133 (k) (by omega))
  have b135 : Blk cl129 (o + 6) (bX8 G ad128 (o + 6)) := by rw [cg8 (n := 5) (Nat.le_refl _) (fun k h1 h2 => g132 (k) (by omega))]; exact b124.tr (n := 5) (Nat.le_of_eq ln8) (fun k h1 h2 => g133 (k) (by omega))
  have b136 : Blk cl129 (o + 11) (bX5 G ad128 (o + 11)) := by rw [cg5 (n := 2) (Nat.le_refl _) (fun k h1 h2 => g132 (k) (by omega))]; exact b125.tr (n := 2) (Nat.le_of_eq ln5) (fun k h1 h2 => g133 (k) (by omega))
  have b137 : Blk cl129 (o + 13) (bX8 G ad128 (o + 13)) := by rw [cg8 (n := 5) (Nat.le_refl _) (fun k h1 h2 => g132 (k) (by omega))]; exact b126.tr (n := 5) (Nat.le_of_eq ln8) (fun k h1 h2 => g133 (k) (by omega))
  have a138 : ad128 (o) = ad (o) := (g132 (o) (by omega)).trans a113
  have a139 : ad128 (o + 1) = q1 := (g132 (o + 1) (by omega)).trans a114
  have a140 : ad128 (o + 6) = q25 := (g132 (o + 6) (by omega)).trans a115
  have a141 : ad128 (o + 11) = q54 := (g132 (o + 11) (by omega)).trans a116
  have a142 : ad128 (o + 13) = q88 := (g132 (o + 13) (by omega)).trans a117
  have c143 : cl129 (o) = .inr (2, [.ref (q1), .ref (q25), .ref (q54), .ref (q88), .null, .null, .null, .null, .null, .null, .null, .int (0), .int (0), .int (0), .int (0)]) := (g133 (o) (by omega)).trans c122
  have fa : ∀ k, k < o + 1 → ad128 k = ad k := fun k hk => (g132 (k) (by omega)).trans (fa k hk)
  have fc : ∀ k, k < o → cl129 k = cl k := fun k hk => (g133 (k) (by omega)).trans (fc k hk)
  have a144 : ad128 (o + 18) = q127 := by rw [← e130, va_up_self]
  have c145 : cl129 (o + 18) = .inr (5, [.null, .int 0]) := by rw [← e131, va_up_self]
  refine lv_dup hx hb dX2_init_52 rfl ?_
  refine c_init (As := []) (rest := [.ref (q127), .ref (ad (o))]) X w (cn_5 l D G t (o + 19) ad128 cl129 (o + 18) rfl c145 (d - 1) (by omega)) YX5_init k_RX2_23 (by rw [a144]) rfl rfl hl.1 (rm_call (by omega) (by decide)) (Nat.le_of_ble_eq_true rfl) dX2_init_53 (⟨Nat.le_of_ble_eq_true rfl, Nat.le_of_ble_eq_true rfl⟩) (fun u H locs hp w => ?_)
  obtain ⟨ad146, cl147, rfl, g148, g149, b150⟩ := hp
  have w : Wd D A s H locs (o + 20) ad146 cl147 := w
  have b150 : Blk cl147 (o + 18) (bX5 G ad146 (o + 18)) := b150
  have b151 : Blk cl147 (o + 1) (bX8 G ad146 (o + 1)) := by rw [cg8 (n := 5) (Nat.le_refl _) (fun k h1 h2 => g148 (k) (by omega))]; exact b134.tr (n := 5) (Nat.le_of_eq ln8) (fun k h1 h2 => g149 (k) (by omega))
  have b152 : Blk cl147 (o + 6) (bX8 G ad146 (o + 6)) := by rw [cg8 (n := 5) (Nat.le_refl _) (fun k h1 h2 => g148 (k) (by omega))]; exact b135.tr (n := 5) (Nat.le_of_eq ln8) (fun k h1 h2 => g149 (k) (by omega))
  have b153 : Blk cl147 (o + 11) (bX5 G ad146 (o + 11)) := by rw [cg5 (n := 2) (Nat.le_refl _) (fun k h1 h2 => g148 (k) (by omega))]; exact b136.tr (n := 2) (Nat.le_of_eq ln5) (fun k h1 h2 => g149 (k) (by omega))
  have b154 : Blk cl147 (o + 13) (bX8 G ad146 (o + 13)) := by rw [cg8 (n := 5) (Nat.le_refl _) (fun k h1 h2 => g148 (k) (by omega))]; exact b137.tr (n := 5) (Nat.le_of_eq ln8) (fun k h1 h2 => g149 (k) (by omega))
  have a155 : ad146 (o) = ad (o) := (g148 (o) (by omega)).trans a138
  have a156 : ad146 (o + 1) = q1 := (g148 (o + 1) (by omega)).trans a139
  have a157 : ad146 (o + 6) = q25 := (g148 (o + 6) (by omega)).trans a140
  have a158 : ad146 (o + 11) = q54 := (g148 (o + 11) (by omega)).trans a141
  have a159 : ad146 (o + 13) = q88 := (g148 (o + 13) (by omega)).trans a142
  have a160 : ad146 (o + 18) = q127 := (g148 (o + 18) (by omega)).trans a144
  have c161 : cl147 (o) = .inr (2, [.ref (q1), .ref (q25), .ref (q54), .ref (q88), .null, .null, .null, .null, .null, .null, .null, .int (0), .int (0), .int (0), .int (0)]) := (g149 (o) (by omega)).trans c143
  have fa : ∀ k, k < o + 1 → ad146 k = ad k := fun k hk => (g148 (k) (by omega)).trans (fa k hk)
  have fc : ∀ k, k < o → cl147 k = cl k := fun k hk => (g149 (k) (by omega)).trans (fc k hk)
  refine g_putF X w (o) a155 (by omega) c161 kc2 4 (by decide) rfl rfl k_RX2_31 rfl hin rfl rfl (Nat.le_of_ble_eq_true rfl) dX2_init_56 (fun H locs w => ?_)
  have w : Wd D A s H locs (o + 20) ad146 (va_up cl147 (o) (.inr (2, [.ref (q1), .ref (q25), .ref (q54), .ref (q88), .ref (q127), .null, .null, .null, .null, .null, .null, .int (0), .int (0), .int (0), .int (0)]))) := w
  generalize e163 : va_up cl147 (o) (.inr (2, [.ref (q1), .ref (q25), .ref (q54), .ref (q88), .ref (q127), .null, .null, .null, .null, .null, .null, .int (0), .int (0), .int (0), .int (0)])) = cl162 at w
  have g164 : ∀ k, k ≠ o → cl162 k = cl147 k := fun k hk => by rw [← e163, va_up_ne _ _ hk]
  have c165 : cl162 (o) = .inr (2, [.ref (q1), .ref (q25), .ref (q54), .ref (q88), .ref (q127), .null, .null, .null, .null, .null, .null, .int (0), .int (0), .int (0), .int (0)]) := by rw [← e163, va_up_self]
  have b166 : Blk cl162 (o + 1) (bX8 G ad146 (o + 1)) := b151.tr (n := 5) (Nat.le_of_eq ln8) (fun k h1 h2 => g164 (k) (by omega))
  have b167 : Blk cl162 (o + 6) (bX8 G ad146 (o + 6)) := b152.tr (n := 5) (Nat.le_of_eq ln8) (fun k h1 h2 => g164 (k) (by omega))
  have b168 : Blk cl162 (o + 11) (bX5 G ad146 (o + 11)) := b153.tr (n := 2) (Nat.le_of_eq ln5) (fun k h1 h2 => g164 (k) (by omega))
  have b169 : Blk cl162 (o + 13) (bX8 G ad146 (o + 13)) := b154.tr (n := 5) (Nat.le_of_eq ln8) (fun k h1 h2 => g164 (k) (by omega))
  have b170 : Blk cl162 (o + 18) (bX5 G ad146 (o + 18)) := b150.tr (n := 2) (Nat.le_of_eq ln5) (fun k h1 h2 => g164 (k) (by omega))
  have fc : ∀ k, k < o → cl162 k = cl k := fun k hk => (g164 (k) (by omega)).trans (fc k hk)
  refine lv_aload_n hx hb dX2_init_59 rfl (lv_at hl 0 rfl) ?_
  refine g_new X w kc5 k_RX2_21 wt_5 wi_5 bl_5 (Nat.le_of_ble_eq_true rfl) (Nat.le_of_ble_eq_true rfl) dX2_init_60 (fun q171 H w => ?_)
  generalize e174 : va_up ad146 (o + 20) q171 = ad172 at w
  generalize e175 : va_up cl162 (o + 20) (.inr (5, [.null, .int 0])) = cl173 at w
  have g176 : ∀ k, k < o + 20 → ad172 k = ad146 k := fun k hk => by rw [← e174, va_up_ne _ _ (by omega)]
  have g177 : ∀ k, k < o + 20 → cl173 k = cl162 k := fun k hk => by rw [← e175, va_up_ne _ _ (by omega)]
  have b178 : Blk cl173 (o + 1) (bX8 G ad172 (o + 1)) := by rw [cg8 (n := 5) (Nat.le_refl _) (fun k h1 h2 => g176 (k) (by omega))]; exact b166.tr (n := 5) (Nat.le_of_eq ln8) (fun k h1 h2 => g177 (k) (by omega))
  have b179 : Blk cl173 (o + 6) (bX8 G ad172 (o + 6)) := by rw [cg8 (n := 5) (Nat.le_refl _) (fun k h1 h2 => g176 (k) (by omega))]; exact b167.tr (n := 5) (Nat.le_of_eq ln8) (fun k h1 h2 => g177 (k) (by omega))
  have b180 : Blk cl173 (o + 11) (bX5 G ad172 (o + 11)) := by rw [cg5 (n := 2) (Nat.le_refl _) (fun k h1 h2 => g176 (k) (by omega))]; exact b168.tr (n := 2) (Nat.le_of_eq ln5) (fun k h1 h2 => g177 (k) (by omega))
  have b181 : Blk cl173 (o + 13) (bX8 G ad172 (o + 13)) := by rw [cg8 (n := 5) (Nat.le_refl _) (fun k h1 h2 => g176 (k) (by omega))]; exact b169.tr (n := 5) (Nat.le_of_eq ln8) (fun k h1 h2 => g177 (k) (by omega))
  have b182 : Blk cl173 (o + 18) (bX5 G ad172 (o + 18)) := by rw [cg5 (n := 2) (Nat.le_refl _) (fun k h1 h2 => g176 (k) (by omega))]; exact b170.tr (n := 2) (Nat.le_of_eq ln5) (fun k h1 h2 => g177 (k) (by omega))
  have a183 : ad172 (o) = ad (o) := (g176 (o) (by omega)).trans a155
  have a184 : ad172 (o + 1) = q1 := (g176 (o + 1) (by omega)).trans a156
  have a185 : ad172 (o + 6) = q25 := (g176 (o + 6) (by omega)).trans a157
  have a186 : ad172 (o + 11) = q54 := (g176 (o + 11) (by omega)).trans a158
  have a187 : ad172 (o + 13) = q88 := (g176 (o + 13) (by omega)).trans a159
  have a188 : ad172 (o + 18) = q127 := (g176 (o + 18) (by omega)).trans a160
  have c189 : cl173 (o) = .inr (2, [.ref (q1), .ref (q25), .ref (q54), .ref (q88), .ref (q127), .null, .null, .null, .null, .null, .null, .int (0), .int (0), .int (0), .int (0)]) := (g177 (o) (by omega)).trans c165
  have fa : ∀ k, k < o + 1 → ad172 k = ad k := fun k hk => (g176 (k) (by omega)).trans (fa k hk)
  have fc : ∀ k, k < o → cl173 k = cl k := fun k hk => (g177 (k) (by omega)).trans (fc k hk)
  have a190 : ad172 (o + 20) = q171 := by rw [← e174, va_up_self]
  have c191 : cl173 (o + 20) = .inr (5, [.null, .int 0]) := by rw [← e175, va_up_self]
  refine lv_dup hx hb dX2_init_63 rfl ?_
  refine c_init (As := []) (rest := [.ref (q171), .ref (ad (o))]) X w (cn_5 l D G t (o + 21) ad172 cl173 (o + 20) rfl c191 (d - 1) (by omega)) YX5_init k_RX2_23 (by rw [a190]) rfl rfl hl.1 (rm_call (by omega) (by decide)) (Nat.le_of_ble_eq_true rfl) dX2_init_64 (⟨Nat.le_of_ble_eq_true rfl, Nat.le_of_ble_eq_true rfl⟩) (fun u H locs hp w => ?_)
  obtain ⟨ad192, cl193, rfl, g194, g195, b196⟩ := hp
  have w : Wd D A s H locs (o + 22) ad192 cl193 := w
  have b196 : Blk cl193 (o + 20) (bX5 G ad192 (o + 20)) := b196
  have b197 : Blk cl193 (o + 1) (bX8 G ad192 (o + 1)) := by rw [cg8 (n := 5) (Nat.le_refl _) (fun k h1 h2 => g194 (k) (by omega))]; exact b178.tr (n := 5) (Nat.le_of_eq ln8) (fun k h1 h2 => g195 (k) (by omega))
  have b198 : Blk cl193 (o + 6) (bX8 G ad192 (o + 6)) := by rw [cg8 (n := 5) (Nat.le_refl _) (fun k h1 h2 => g194 (k) (by omega))]; exact b179.tr (n := 5) (Nat.le_of_eq ln8) (fun k h1 h2 => g195 (k) (by omega))
  have b199 : Blk cl193 (o + 11) (bX5 G ad192 (o + 11)) := by rw [cg5 (n := 2) (Nat.le_refl _) (fun k h1 h2 => g194 (k) (by omega))]; exact b180.tr (n := 2) (Nat.le_of_eq ln5) (fun k h1 h2 => g195 (k) (by omega))
  have b200 : Blk cl193 (o + 13) (bX8 G ad192 (o + 13)) := by rw [cg8 (n := 5) (Nat.le_refl _) (fun k h1 h2 => g194 (k) (by omega))]; exact b181.tr (n := 5) (Nat.le_of_eq ln8) (fun k h1 h2 => g195 (k) (by omega))
  have b201 : Blk cl193 (o + 18) (bX5 G ad192 (o + 18)) := by rw [cg5 (n := 2) (Nat.le_refl _) (fun k h1 h2 => g194 (k) (by omega))]; exact b182.tr (n := 2) (Nat.le_of_eq ln5) (fun k h1 h2 => g195 (k) (by omega))
  have a202 : ad192 (o) = ad (o) := (g194 (o) (by omega)).trans a183
  have a203 : ad192 (o + 1) = q1 := (g194 (o + 1) (by omega)).trans a184
  have a204 : ad192 (o + 6) = q25 := (g194 (o + 6) (by omega)).trans a185
  have a205 : ad192 (o + 11) = q54 := (g194 (o + 11) (by omega)).trans a186
  have a206 : ad192 (o + 13) = q88 := (g194 (o + 13) (by omega)).trans a187
  have a207 : ad192 (o + 18) = q127 := (g194 (o + 18) (by omega)).trans a188
  have a208 : ad192 (o + 20) = q171 := (g194 (o + 20) (by omega)).trans a190
  have c209 : cl193 (o) = .inr (2, [.ref (q1), .ref (q25), .ref (q54), .ref (q88), .ref (q127), .null, .null, .null, .null, .null, .null, .int (0), .int (0), .int (0), .int (0)]) := (g195 (o) (by omega)).trans c189
  have fa : ∀ k, k < o + 1 → ad192 k = ad k := fun k hk => (g194 (k) (by omega)).trans (fa k hk)
  have fc : ∀ k, k < o → cl193 k = cl k := fun k hk => (g195 (k) (by omega)).trans (fc k hk)
  refine g_putF X w (o) a202 (by omega) c209 kc2 5 (by decide) rfl rfl k_RX2_34 rfl hin rfl rfl (Nat.le_of_ble_eq_true rfl) dX2_init_67 (fun H locs w => ?_)
  have w : Wd D A s H locs (o + 22) ad192 (va_up cl193 (o) (.inr (2, [.ref (q1), .ref (q25), .ref (q54), .ref (q88), .ref (q127), .ref (q171), .null, .null, .null, .null, .null, .int (0), .int (0), .int (0), .int (0)]))) := w
  generalize e211 : va_up cl193 (o) (.inr (2, [.ref (q1), .ref (q25), .ref (q54), .ref (q88), .ref (q127), .ref (q171), .null, .null, .null, .null, .null, .int (0), .int (0), .int (0), .int (0)])) = cl210 at w
  have g212 : ∀ k, k ≠ o → cl210 k = cl193 k := fun k hk => by rw [← e211, va_up_ne _ _ hk]
  have c213 : cl210 (o) = .inr (2, [.ref (q1), .ref (q25), .ref (q54), .ref (q88), .ref (q127), .ref (q171), .null, .null, .null, .null, .null, .int (0), .int (0), .int (0), .int (0)]) := by rw [← e211, va_up_self]
  have b214 : Blk cl210 (o + 1) (bX8 G ad192 (o + 1)) := b197.tr (n := 5) (Nat.le_of_eq ln8) (fun k h1 h2 => g212 (k) (by omega))
  have b215 : Blk cl210 (o + 6) (bX8 G ad192 (o + 6)) := b198.tr (n := 5) (Nat.le_of_eq ln8) (fun k h1 h2 => g212 (k) (by omega))
  have b216 : Blk cl210 (o + 11) (bX5 G ad192 (o + 11)) := b199.tr (n := 2) (Nat.le_of_eq ln5) (fun k h1 h2 => g212 (k) (by omega))
  have b217 : Blk cl210 (o + 13) (bX8 G ad192 (o + 13)) := b200.tr (n := 5) (Nat.le_of_eq ln8) (fun k h1 h2 => g212 (k) (by omega))
  have b218 : Blk cl210 (o + 18) (bX5 G ad192 (o + 18)) := b201.tr (n := 2) (Nat.le_of_eq ln5) (fun k h1 h2 => g212 (k) (by omega))
  have b219 : Blk cl210 (o + 20) (bX5 G ad192 (o + 20)) := b196.tr (n := 2) (Nat.le_of_eq ln5) (fun k h1 h2 => g212 (k) (by omega))
  have fc : ∀ k, k < o → cl210 k = cl k := fun k hk => (g212 (k) (by omega)).trans (fc k hk)
  refine lv_aload_n hx hb dX2_init_70 rfl (lv_at hl 0 rfl) ?_
  refine g_new X w kc5 k_RX2_21 wt_5 wi_5 bl_5 (Nat.le_of_ble_eq_true rfl) (Nat.le_of_ble_eq_true rfl) dX2_init_71 (fun q220 H w => ?_)
  generalize e223 : va_up ad192 (o + 22) q220 = ad221 at w
  generalize e224 : va_up cl210 (o + 22) (.inr (5, [.null, .int 0])) = cl222 at w
  have g225 : ∀ k, k < o + 22 → ad221 k = ad192 k := fun k hk => by rw [← e223, va_up_ne _ _ (by omega)]
  have g226 : ∀ k, k < o + 22 → cl222 k = cl210 k := fun k hk => by rw [← e224, va_up_ne _ _ (by omega)]
  have b227 : Blk cl222 (o + 1) (bX8 G ad221 (o + 1)) := by rw [cg8 (n := 5) (Nat.le_refl _) (fun k h1 h2 => g225 (k) (by omega))]; exact b214.tr (n := 5) (Nat.le_of_eq ln8) (fun k h1 h2 => g226 (k) (by omega))
  have b228 : Blk cl222 (o + 6) (bX8 G ad221 (o + 6)) := by rw [cg8 (n := 5) (Nat.le_refl _) (fun k h1 h2 => g225 (k) (by omega))]; exact b215.tr (n := 5) (Nat.le_of_eq ln8) (fun k h1 h2 => g226 (k) (by omega))
  have b229 : Blk cl222 (o + 11) (bX5 G ad221 (o + 11)) := by rw [cg5 (n := 2) (Nat.le_refl _) (fun k h1 h2 => g225 (k) (by omega))]; exact b216.tr (n := 2) (Nat.le_of_eq ln5) (fun k h1 h2 => g226 (k) (by omega))
  have b230 : Blk cl222 (o + 13) (bX8 G ad221 (o + 13)) := by rw [cg8 (n := 5) (Nat.le_refl _) (fun k h1 h2 => g225 (k) (by omega))]; exact b217.tr (n := 5) (Nat.le_of_eq ln8) (fun k h1 h2 => g226 (k) (by omega))
  have b231 : Blk cl222 (o + 18) (bX5 G ad221 (o + 18)) := by rw [cg5 (n := 2) (Nat.le_refl _) (fun k h1 h2 => g225 (k) (by omega))]; exact b218.tr (n := 2) (Nat.le_of_eq ln5) (fun k h1 h2 => g226 (k) (by omega))
  have b232 : Blk cl222 (o + 20) (bX5 G ad221 (o + 20)) := by rw [cg5 (n := 2) (Nat.le_refl _) (fun k h1 h2 => g225 (k) (by omega))]; exact b219.tr (n := 2) (Nat.le_of_eq ln5) (fun k h1 h2 => g226 (k) (by omega))
  have a233 : ad221 (o) = ad (o) := (g225 (o) (by omega)).trans a202
  have a234 : ad221 (o + 1) = q1 := (g225 (o + 1) (by omega)).trans a203
  have a235 : ad221 (o + 6) = q25 := (g225 (o + 6) (by omega)).trans a204
  have a236 : ad221 (o + 11) = q54 := (g225 (o + 11) (by omega)).trans a205
  have a237 : ad221 (o + 13) = q88 := (g225 (o + 13) (by omega)).trans a206
  have a238 : ad221 (o + 18) = q127 := (g225 (o + 18) (by omega)).trans a207
  have a239 : ad221 (o + 20) = q171 := (g225 (o + 20) (by omega)).trans a208
  have c240 : cl222 (o) = .inr (2, [.ref (q1), .ref (q25), .ref (q54), .ref (q88), .ref (q127), .ref (q171), .null, .null, .null, .null, .null, .int (0), .int (0), .int (0), .int (0)]) := (g226 (o) (by omega)).trans c213
  have fa : ∀ k, k < o + 1 → ad221 k = ad k := fun k hk => (g225 (k) (by omega)).trans (fa k hk)
  have fc : ∀ k, k < o → cl222 k = cl k := fun k hk => (g226 (k) (by omega)).trans (fc k hk)
  have a241 : ad221 (o + 22) = q220 := by rw [← e223, va_up_self]
  have c242 : cl222 (o + 22) = .inr (5, [.null, .int 0]) := by rw [← e224, va_up_self]
  refine lv_dup hx hb dX2_init_74 rfl ?_
  refine c_init (As := []) (rest := [.ref (q220), .ref (ad (o))]) X w (cn_5 l D G t (o + 23) ad221 cl222 (o + 22) rfl c242 (d - 1) (by omega)) YX5_init k_RX2_23 (by rw [a241]) rfl rfl hl.1 (rm_call (by omega) (by decide)) (Nat.le_of_ble_eq_true rfl) dX2_init_75 (⟨Nat.le_of_ble_eq_true rfl, Nat.le_of_ble_eq_true rfl⟩) (fun u H locs hp w => ?_)
  obtain ⟨ad243, cl244, rfl, g245, g246, b247⟩ := hp
  have w : Wd D A s H locs (o + 24) ad243 cl244 := w
  have b247 : Blk cl244 (o + 22) (bX5 G ad243 (o + 22)) := b247
  have b248 : Blk cl244 (o + 1) (bX8 G ad243 (o + 1)) := by rw [cg8 (n := 5) (Nat.le_refl _) (fun k h1 h2 => g245 (k) (by omega))]; exact b227.tr (n := 5) (Nat.le_of_eq ln8) (fun k h1 h2 => g246 (k) (by omega))
  have b249 : Blk cl244 (o + 6) (bX8 G ad243 (o + 6)) := by rw [cg8 (n := 5) (Nat.le_refl _) (fun k h1 h2 => g245 (k) (by omega))]; exact b228.tr (n := 5) (Nat.le_of_eq ln8) (fun k h1 h2 => g246 (k) (by omega))
  have b250 : Blk cl244 (o + 11) (bX5 G ad243 (o + 11)) := by rw [cg5 (n := 2) (Nat.le_refl _) (fun k h1 h2 => g245 (k) (by omega))]; exact b229.tr (n := 2) (Nat.le_of_eq ln5) (fun k h1 h2 => g246 (k) (by omega))
  have b251 : Blk cl244 (o + 13) (bX8 G ad243 (o + 13)) := by rw [cg8 (n := 5) (Nat.le_refl _) (fun k h1 h2 => g245 (k) (by omega))]; exact b230.tr (n := 5) (Nat.le_of_eq ln8) (fun k h1 h2 => g246 (k) (by omega))
  have b252 : Blk cl244 (o + 18) (bX5 G ad243 (o + 18)) := by rw [cg5 (n := 2) (Nat.le_refl _) (fun k h1 h2 => g245 (k) (by omega))]; exact b231.tr (n := 2) (Nat.le_of_eq ln5) (fun k h1 h2 => g246 (k) (by omega))
  have b253 : Blk cl244 (o + 20) (bX5 G ad243 (o + 20)) := by rw [cg5 (n := 2) (Nat.le_refl _) (fun k h1 h2 => g245 (k) (by omega))]; exact b232.tr (n := 2) (Nat.le_of_eq ln5) (fun k h1 h2 => g246 (k) (by omega))
  have a254 : ad243 (o) = ad (o) := (g245 (o) (by omega)).trans a233
  have a255 : ad243 (o + 1) = q1 := (g245 (o + 1) (by omega)).trans a234
  have a256 : ad243 (o + 6) = q25 := (g245 (o + 6) (by omega)).trans a235
  have a257 : ad243 (o + 11) = q54 := (g245 (o + 11) (by omega)).trans a236
  have a258 : ad243 (o + 13) = q88 := (g245 (o + 13) (by omega)).trans a237
  have a259 : ad243 (o + 18) = q127 := (g245 (o + 18) (by omega)).trans a238
  have a260 : ad243 (o + 20) = q171 := (g245 (o + 20) (by omega)).trans a239
  have a261 : ad243 (o + 22) = q220 := (g245 (o + 22) (by omega)).trans a241
  have c262 : cl244 (o) = .inr (2, [.ref (q1), .ref (q25), .ref (q54), .ref (q88), .ref (q127), .ref (q171), .null, .null, .null, .null, .null, .int (0), .int (0), .int (0), .int (0)]) := (g246 (o) (by omega)).trans c240
  have fa : ∀ k, k < o + 1 → ad243 k = ad k := fun k hk => (g245 (k) (by omega)).trans (fa k hk)
  have fc : ∀ k, k < o → cl244 k = cl k := fun k hk => (g246 (k) (by omega)).trans (fc k hk)
  refine g_putF X w (o) a254 (by omega) c262 kc2 6 (by decide) rfl rfl k_RX2_37 rfl hin rfl rfl (Nat.le_of_ble_eq_true rfl) dX2_init_78 (fun H locs w => ?_)
  have w : Wd D A s H locs (o + 24) ad243 (va_up cl244 (o) (.inr (2, [.ref (q1), .ref (q25), .ref (q54), .ref (q88), .ref (q127), .ref (q171), .ref (q220), .null, .null, .null, .null, .int (0), .int (0), .int (0), .int (0)]))) := w
  generalize e264 : va_up cl244 (o) (.inr (2, [.ref (q1), .ref (q25), .ref (q54), .ref (q88), .ref (q127), .ref (q171), .ref (q220), .null, .null, .null, .null, .int (0), .int (0), .int (0), .int (0)])) = cl263 at w
  have g265 : ∀ k, k ≠ o → cl263 k = cl244 k := fun k hk => by rw [← e264, va_up_ne _ _ hk]
  have c266 : cl263 (o) = .inr (2, [.ref (q1), .ref (q25), .ref (q54), .ref (q88), .ref (q127), .ref (q171), .ref (q220), .null, .null, .null, .null, .int (0), .int (0), .int (0), .int (0)]) := by rw [← e264, va_up_self]
  have b267 : Blk cl263 (o + 1) (bX8 G ad243 (o + 1)) := b248.tr (n := 5) (Nat.le_of_eq ln8) (fun k h1 h2 => g265 (k) (by omega))
  have b268 : Blk cl263 (o + 6) (bX8 G ad243 (o + 6)) := b249.tr (n := 5) (Nat.le_of_eq ln8) (fun k h1 h2 => g265 (k) (by omega))
  have b269 : Blk cl263 (o + 11) (bX5 G ad243 (o + 11)) := b250.tr (n := 2) (Nat.le_of_eq ln5) (fun k h1 h2 => g265 (k) (by omega))
  have b270 : Blk cl263 (o + 13) (bX8 G ad243 (o + 13)) := b251.tr (n := 5) (Nat.le_of_eq ln8) (fun k h1 h2 => g265 (k) (by omega))
  have b271 : Blk cl263 (o + 18) (bX5 G ad243 (o + 18)) := b252.tr (n := 2) (Nat.le_of_eq ln5) (fun k h1 h2 => g265 (k) (by omega))
  have b272 : Blk cl263 (o + 20) (bX5 G ad243 (o + 20)) := b253.tr (n := 2) (Nat.le_of_eq ln5) (fun k h1 h2 => g265 (k) (by omega))
  have b273 : Blk cl263 (o + 22) (bX5 G ad243 (o + 22)) := b247.tr (n := 2) (Nat.le_of_eq ln5) (fun k h1 h2 => g265 (k) (by omega))
  have fc : ∀ k, k < o → cl263 k = cl k := fun k hk => (g265 (k) (by omega)).trans (fc k hk)
  refine lv_aload_n hx hb dX2_init_81 rfl (lv_at hl 0 rfl) ?_
  refine g_new X w kc8 k_RX2_9 wt_8 wi_8 bl_8 (Nat.le_of_ble_eq_true rfl) (Nat.le_of_ble_eq_true rfl) dX2_init_82 (fun q274 H w => ?_)
  generalize e277 : va_up ad243 (o + 24) q274 = ad275 at w
  generalize e278 : va_up cl263 (o + 24) (.inr (8, [.null, .null])) = cl276 at w
  have g279 : ∀ k, k < o + 24 → ad275 k = ad243 k := fun k hk => by rw [← e277, va_up_ne _ _ (by omega)]
  have g280 : ∀ k, k < o + 24 → cl276 k = cl263 k := fun k hk => by rw [← e278, va_up_ne _ _ (by omega)]
  have b281 : Blk cl276 (o + 1) (bX8 G ad275 (o + 1)) := by rw [cg8 (n := 5) (Nat.le_refl _) (fun k h1 h2 => g279 (k) (by omega))]; exact b267.tr (n := 5) (Nat.le_of_eq ln8) (fun k h1 h2 => g280 (k) (by omega))
  have b282 : Blk cl276 (o + 6) (bX8 G ad275 (o + 6)) := by rw [cg8 (n := 5) (Nat.le_refl _) (fun k h1 h2 => g279 (k) (by omega))]; exact b268.tr (n := 5) (Nat.le_of_eq ln8) (fun k h1 h2 => g280 (k) (by omega))
  have b283 : Blk cl276 (o + 11) (bX5 G ad275 (o + 11)) := by rw [cg5 (n := 2) (Nat.le_refl _) (fun k h1 h2 => g279 (k) (by omega))]; exact b269.tr (n := 2) (Nat.le_of_eq ln5) (fun k h1 h2 => g280 (k) (by omega))
  have b284 : Blk cl276 (o + 13) (bX8 G ad275 (o + 13)) := by rw [cg8 (n := 5) (Nat.le_refl _) (fun k h1 h2 => g279 (k) (by omega))]; exact b270.tr (n := 5) (Nat.le_of_eq ln8) (fun k h1 h2 => g280 (k) (by omega))
  have b285 : Blk cl276 (o + 18) (bX5 G ad275 (o + 18)) := by rw [cg5 (n := 2) (Nat.le_refl _) (fun k h1 h2 => g279 (k) (by omega))]; exact b271.tr (n := 2) (Nat.le_of_eq ln5) (fun k h1 h2 => g280 (k) (by omega))
  have b286 : Blk cl276 (o + 20) (bX5 G ad275 (o + 20)) := by rw [cg5 (n := 2) (Nat.le_refl _) (fun k h1 h2 => g279 (k) (by omega))]; exact b272.tr (n := 2) (Nat.le_of_eq ln5) (fun k h1 h2 => g280 (k) (by omega))
  have b287 : Blk cl276 (o + 22) (bX5 G ad275 (o + 22)) := by rw [cg5 (n := 2) (Nat.le_refl _) (fun k h1 h2 => g279 (k) (by omega))]; exact b273.tr (n := 2) (Nat.le_of_eq ln5) (fun k h1 h2 => g280 (k) (by omega))
  have a288 : ad275 (o) = ad (o) := (g279 (o) (by omega)).trans a254
  have a289 : ad275 (o + 1) = q1 := (g279 (o + 1) (by omega)).trans a255
  have a290 : ad275 (o + 6) = q25 := (g279 (o + 6) (by omega)).trans a256
  have a291 : ad275 (o + 11) = q54 := (g279 (o + 11) (by omega)).trans a257
  have a292 : ad275 (o + 13) = q88 := (g279 (o + 13) (by omega)).trans a258
  have a293 : ad275 (o + 18) = q127 := (g279 (o + 18) (by omega)).trans a259
  have a294 : ad275 (o + 20) = q171 := (g279 (o + 20) (by omega)).trans a260
  have a295 : ad275 (o + 22) = q220 := (g279 (o + 22) (by omega)).trans a261
  have c296 : cl276 (o) = .inr (2, [.ref (q1), .ref (q25), .ref (q54), .ref (q88), .ref (q127), .ref (q171), .ref (q220), .null, .null, .null, .null, .int (0), .int (0), .int (0), .int (0)]) := (g280 (o) (by omega)).trans c266
  have fa : ∀ k, k < o + 1 → ad275 k = ad k := fun k hk => (g279 (k) (by omega)).trans (fa k hk)
  have fc : ∀ k, k < o → cl276 k = cl k := fun k hk => (g280 (k) (by omega)).trans (fc k hk)
  have a297 : ad275 (o + 24) = q274 := by rw [← e277, va_up_self]
  have c298 : cl276 (o + 24) = .inr (8, [.null, .null]) := by rw [← e278, va_up_self]
  refine lv_dup hx hb dX2_init_85 rfl ?_
  refine c_init (As := []) (rest := [.ref (q274), .ref (ad (o))]) X w (cn_8 l D G t (o + 25) ad275 cl276 (o + 24) rfl c298 (d - 1) (by omega)) YX8_init k_RX2_11 (by rw [a297]) rfl rfl hl.1 (rm_call (by omega) (by decide)) (Nat.le_of_ble_eq_true rfl) dX2_init_86 (⟨Nat.le_of_ble_eq_true rfl, Nat.le_of_ble_eq_true rfl⟩) (fun u H locs hp w => ?_)
  obtain ⟨ad299, cl300, rfl, g301, g302, b303⟩ := hp
  have w : Wd D A s H locs (o + 29) ad299 cl300 := w
  have b303 : Blk cl300 (o + 24) (bX8 G ad299 (o + 24)) := b303
  have b304 : Blk cl300 (o + 1) (bX8 G ad299 (o + 1)) := by rw [cg8 (n := 5) (Nat.le_refl _) (fun k h1 h2 => g301 (k) (by omega))]; exact b281.tr (n := 5) (Nat.le_of_eq ln8) (fun k h1 h2 => g302 (k) (by omega))
  have b305 : Blk cl300 (o + 6) (bX8 G ad299 (o + 6)) := by rw [cg8 (n := 5) (Nat.le_refl _) (fun k h1 h2 => g301 (k) (by omega))]; exact b282.tr (n := 5) (Nat.le_of_eq ln8) (fun k h1 h2 => g302 (k) (by omega))
  have b306 : Blk cl300 (o + 11) (bX5 G ad299 (o + 11)) := by rw [cg5 (n := 2) (Nat.le_refl _) (fun k h1 h2 => g301 (k) (by omega))]; exact b283.tr (n := 2) (Nat.le_of_eq ln5) (fun k h1 h2 => g302 (k) (by omega))
  have b307 : Blk cl300 (o + 13) (bX8 G ad299 (o + 13)) := by rw [cg8 (n := 5) (Nat.le_refl _) (fun k h1 h2 => g301 (k) (by omega))]; exact b284.tr (n := 5) (Nat.le_of_eq ln8) (fun k h1 h2 => g302 (k) (by omega))
  have b308 : Blk cl300 (o + 18) (bX5 G ad299 (o + 18)) := by rw [cg5 (n := 2) (Nat.le_refl _) (fun k h1 h2 => g301 (k) (by omega))]; exact b285.tr (n := 2) (Nat.le_of_eq ln5) (fun k h1 h2 => g302 (k) (by omega))
  have b309 : Blk cl300 (o + 20) (bX5 G ad299 (o + 20)) := by rw [cg5 (n := 2) (Nat.le_refl _) (fun k h1 h2 => g301 (k) (by omega))]; exact b286.tr (n := 2) (Nat.le_of_eq ln5) (fun k h1 h2 => g302 (k) (by omega))
  have b310 : Blk cl300 (o + 22) (bX5 G ad299 (o + 22)) := by rw [cg5 (n := 2) (Nat.le_refl _) (fun k h1 h2 => g301 (k) (by omega))]; exact b287.tr (n := 2) (Nat.le_of_eq ln5) (fun k h1 h2 => g302 (k) (by omega))
  have a311 : ad299 (o) = ad (o) := (g301 (o) (by omega)).trans a288
  have a312 : ad299 (o + 1) = q1 := (g301 (o + 1) (by omega)).trans a289
  have a313 : ad299 (o + 6) = q25 := (g301 (o + 6) (by omega)).trans a290
  have a314 : ad299 (o + 11) = q54 := (g301 (o + 11) (by omega)).trans a291
  have a315 : ad299 (o + 13) = q88 := (g301 (o + 13) (by omega)).trans a292
  have a316 : ad299 (o + 18) = q127 := (g301 (o + 18) (by omega)).trans a293
  have a317 : ad299 (o + 20) = q171 := (g301 (o + 20) (by omega)).trans a294
  have a318 : ad299 (o + 22) = q220 := (g301 (o + 22) (by omega)).trans a295
  have a319 : ad299 (o + 24) = q274 := (g301 (o + 24) (by omega)).trans a297
  have c320 : cl300 (o) = .inr (2, [.ref (q1), .ref (q25), .ref (q54), .ref (q88), .ref (q127), .ref (q171), .ref (q220), .null, .null, .null, .null, .int (0), .int (0), .int (0), .int (0)]) := (g302 (o) (by omega)).trans c296
  have fa : ∀ k, k < o + 1 → ad299 k = ad k := fun k hk => (g301 (k) (by omega)).trans (fa k hk)
  have fc : ∀ k, k < o → cl300 k = cl k := fun k hk => (g302 (k) (by omega)).trans (fc k hk)
  refine g_putF X w (o) a311 (by omega) c320 kc2 7 (by decide) rfl rfl k_RX2_40 rfl hin rfl rfl (Nat.le_of_ble_eq_true rfl) dX2_init_89 (fun H locs w => ?_)
  have w : Wd D A s H locs (o + 29) ad299 (va_up cl300 (o) (.inr (2, [.ref (q1), .ref (q25), .ref (q54), .ref (q88), .ref (q127), .ref (q171), .ref (q220), .ref (q274), .null, .null, .null, .int (0), .int (0), .int (0), .int (0)]))) := w
  generalize e322 : va_up cl300 (o) (.inr (2, [.ref (q1), .ref (q25), .ref (q54), .ref (q88), .ref (q127), .ref (q171), .ref (q220), .ref (q274), .null, .null, .null, .int (0), .int (0), .int (0), .int (0)])) = cl321 at w
  have g323 : ∀ k, k ≠ o → cl321 k = cl300 k := fun k hk => by rw [← e322, va_up_ne _ _ hk]
  have c324 : cl321 (o) = .inr (2, [.ref (q1), .ref (q25), .ref (q54), .ref (q88), .ref (q127), .ref (q171), .ref (q220), .ref (q274), .null, .null, .null, .int (0), .int (0), .int (0), .int (0)]) := by rw [← e322, va_up_self]
  have b325 : Blk cl321 (o + 1) (bX8 G ad299 (o + 1)) := b304.tr (n := 5) (Nat.le_of_eq ln8) (fun k h1 h2 => g323 (k) (by omega))
  have b326 : Blk cl321 (o + 6) (bX8 G ad299 (o + 6)) := b305.tr (n := 5) (Nat.le_of_eq ln8) (fun k h1 h2 => g323 (k) (by omega))
  have b327 : Blk cl321 (o + 11) (bX5 G ad299 (o + 11)) := b306.tr (n := 2) (Nat.le_of_eq ln5) (fun k h1 h2 => g323 (k) (by omega))
  have b328 : Blk cl321 (o + 13) (bX8 G ad299 (o + 13)) := b307.tr (n := 5) (Nat.le_of_eq ln8) (fun k h1 h2 => g323 (k) (by omega))
  have b329 : Blk cl321 (o + 18) (bX5 G ad299 (o + 18)) := b308.tr (n := 2) (Nat.le_of_eq ln5) (fun k h1 h2 => g323 (k) (by omega))
  have b330 : Blk cl321 (o + 20) (bX5 G ad299 (o + 20)) := b309.tr (n := 2) (Nat.le_of_eq ln5) (fun k h1 h2 => g323 (k) (by omega))
  have b331 : Blk cl321 (o + 22) (bX5 G ad299 (o + 22)) := b310.tr (n := 2) (Nat.le_of_eq ln5) (fun k h1 h2 => g323 (k) (by omega))
  have b332 : Blk cl321 (o + 24) (bX8 G ad299 (o + 24)) := b303.tr (n := 5) (Nat.le_of_eq ln8) (fun k h1 h2 => g323 (k) (by omega))
  have fc : ∀ k, k < o → cl321 k = cl k := fun k hk => (g323 (k) (by omega)).trans (fc k hk)
  refine lv_aload_n hx hb dX2_init_92 rfl (lv_at hl 0 rfl) ?_
  refine g_new X w kc5 k_RX2_21 wt_5 wi_5 bl_5 (Nat.le_of_ble_eq_true rfl) (Nat.le_of_ble_eq_true rfl) dX2_init_93 (fun q333 H w => ?_)
  generalize e336 : va_up ad299 (o + 29) q333 = ad334 at w
  generalize e337 : va_up cl321 (o + 29) (.inr (5, [.null, .int 0])) = cl335 at w
  have g338 : ∀ k, k < o + 29 → ad334 k = ad299 k := fun k hk => by rw [← e336, va_up_ne _ _ (by omega)]
  have g339 : ∀ k, k < o + 29 → cl335 k = cl321 k := fun k hk => by rw [← e337, va_up_ne _ _ (by omega)]
  have b340 : Blk cl335 (o + 1) (bX8 G ad334 (o + 1)) := by rw [cg8 (n := 5) (Nat.le_refl _) (fun k h1 h2 => g338 (k) (by omega))]; exact b325.tr (n := 5) (Nat.le_of_eq ln8) (fun k h1 h2 => g339 (k) (by omega))
  have b341 : Blk cl335 (o + 6) (bX8 G ad334 (o + 6)) := by rw [cg8 (n := 5) (Nat.le_refl _) (fun k h1 h2 => g338 (k) (by omega))]; exact b326.tr (n := 5) (Nat.le_of_eq ln8) (fun k h1 h2 => g339 (k) (by omega))
  have b342 : Blk cl335 (o + 11) (bX5 G ad334 (o + 11)) := by rw [cg5 (n := 2) (Nat.le_refl _) (fun k h1 h2 => g338 (k) (by omega))]; exact b327.tr (n := 2) (Nat.le_of_eq ln5) (fun k h1 h2 => g339 (k) (by omega))
  have b343 : Blk cl335 (o + 13) (bX8 G ad334 (o + 13)) := by rw [cg8 (n := 5) (Nat.le_refl _) (fun k h1 h2 => g338 (k) (by omega))]; exact b328.tr (n := 5) (Nat.le_of_eq ln8) (fun k h1 h2 => g339 (k) (by omega))
  have b344 : Blk cl335 (o + 18) (bX5 G ad334 (o + 18)) := by rw [cg5 (n := 2) (Nat.le_refl _) (fun k h1 h2 => g338 (k) (by omega))]; exact b329.tr (n := 2) (Nat.le_of_eq ln5) (fun k h1 h2 => g339 (k) (by omega))
  have b345 : Blk cl335 (o + 20) (bX5 G ad334 (o + 20)) := by rw [cg5 (n := 2) (Nat.le_refl _) (fun k h1 h2 => g338 (k) (by omega))]; exact b330.tr (n := 2) (Nat.le_of_eq ln5) (fun k h1 h2 => g339 (k) (by omega))
  have b346 : Blk cl335 (o + 22) (bX5 G ad334 (o + 22)) := by rw [cg5 (n := 2) (Nat.le_refl _) (fun k h1 h2 => g338 (k) (by omega))]; exact b331.tr (n := 2) (Nat.le_of_eq ln5) (fun k h1 h2 => g339 (k) (by omega))
  have b347 : Blk cl335 (o + 24) (bX8 G ad334 (o + 24)) := by rw [cg8 (n := 5) (Nat.le_refl _) (fun k h1 h2 => g338 (k) (by omega))]; exact b332.tr (n := 5) (Nat.le_of_eq ln8) (fun k h1 h2 => g339 (k) (by omega))
  have a348 : ad334 (o) = ad (o) := (g338 (o) (by omega)).trans a311
  have a349 : ad334 (o + 1) = q1 := (g338 (o + 1) (by omega)).trans a312
  have a350 : ad334 (o + 6) = q25 := (g338 (o + 6) (by omega)).trans a313
  have a351 : ad334 (o + 11) = q54 := (g338 (o + 11) (by omega)).trans a314
  have a352 : ad334 (o + 13) = q88 := (g338 (o + 13) (by omega)).trans a315
  have a353 : ad334 (o + 18) = q127 := (g338 (o + 18) (by omega)).trans a316
  have a354 : ad334 (o + 20) = q171 := (g338 (o + 20) (by omega)).trans a317
  have a355 : ad334 (o + 22) = q220 := (g338 (o + 22) (by omega)).trans a318
  have a356 : ad334 (o + 24) = q274 := (g338 (o + 24) (by omega)).trans a319
  have c357 : cl335 (o) = .inr (2, [.ref (q1), .ref (q25), .ref (q54), .ref (q88), .ref (q127), .ref (q171), .ref (q220), .ref (q274), .null, .null, .null, .int (0), .int (0), .int (0), .int (0)]) := (g339 (o) (by omega)).trans c324
  have fa : ∀ k, k < o + 1 → ad334 k = ad k := fun k hk => (g338 (k) (by omega)).trans (fa k hk)
  have fc : ∀ k, k < o → cl335 k = cl k := fun k hk => (g339 (k) (by omega)).trans (fc k hk)
  have a358 : ad334 (o + 29) = q333 := by rw [← e336, va_up_self]
  have c359 : cl335 (o + 29) = .inr (5, [.null, .int 0]) := by rw [← e337, va_up_self]
  refine lv_dup hx hb dX2_init_96 rfl ?_
  refine c_init (As := []) (rest := [.ref (q333), .ref (ad (o))]) X w (cn_5 l D G t (o + 30) ad334 cl335 (o + 29) rfl c359 (d - 1) (by omega)) YX5_init k_RX2_23 (by rw [a358]) rfl rfl hl.1 (rm_call (by omega) (by decide)) (Nat.le_of_ble_eq_true rfl) dX2_init_97 (⟨Nat.le_of_ble_eq_true rfl, Nat.le_of_ble_eq_true rfl⟩) (fun u H locs hp w => ?_)
  obtain ⟨ad360, cl361, rfl, g362, g363, b364⟩ := hp
  have w : Wd D A s H locs (o + 31) ad360 cl361 := w
  have b364 : Blk cl361 (o + 29) (bX5 G ad360 (o + 29)) := b364
  have b365 : Blk cl361 (o + 1) (bX8 G ad360 (o + 1)) := by rw [cg8 (n := 5) (Nat.le_refl _) (fun k h1 h2 => g362 (k) (by omega))]; exact b340.tr (n := 5) (Nat.le_of_eq ln8) (fun k h1 h2 => g363 (k) (by omega))
  have b366 : Blk cl361 (o + 6) (bX8 G ad360 (o + 6)) := by rw [cg8 (n := 5) (Nat.le_refl _) (fun k h1 h2 => g362 (k) (by omega))]; exact b341.tr (n := 5) (Nat.le_of_eq ln8) (fun k h1 h2 => g363 (k) (by omega))
  have b367 : Blk cl361 (o + 11) (bX5 G ad360 (o + 11)) := by rw [cg5 (n := 2) (Nat.le_refl _) (fun k h1 h2 => g362 (k) (by omega))]; exact b342.tr (n := 2) (Nat.le_of_eq ln5) (fun k h1 h2 => g363 (k) (by omega))
  have b368 : Blk cl361 (o + 13) (bX8 G ad360 (o + 13)) := by rw [cg8 (n := 5) (Nat.le_refl _) (fun k h1 h2 => g362 (k) (by omega))]; exact b343.tr (n := 5) (Nat.le_of_eq ln8) (fun k h1 h2 => g363 (k) (by omega))
  have b369 : Blk cl361 (o + 18) (bX5 G ad360 (o + 18)) := by rw [cg5 (n := 2) (Nat.le_refl _) (fun k h1 h2 => g362 (k) (by omega))]; exact b344.tr (n := 2) (Nat.le_of_eq ln5) (fun k h1 h2 => g363 (k) (by omega))
  have b370 : Blk cl361 (o + 20) (bX5 G ad360 (o + 20)) := by rw [cg5 (n := 2) (Nat.le_refl _) (fun k h1 h2 => g362 (k) (by omega))]; exact b345.tr (n := 2) (Nat.le_of_eq ln5) (fun k h1 h2 => g363 (k) (by omega))
  have b371 : Blk cl361 (o + 22) (bX5 G ad360 (o + 22)) := by rw [cg5 (n := 2) (Nat.le_refl _) (fun k h1 h2 => g362 (k) (by omega))]; exact b346.tr (n := 2) (Nat.le_of_eq ln5) (fun k h1 h2 => g363 (k) (by omega))
  have b372 : Blk cl361 (o + 24) (bX8 G ad360 (o + 24)) := by rw [cg8 (n := 5) (Nat.le_refl _) (fun k h1 h2 => g362 (k) (by omega))]; exact b347.tr (n := 5) (Nat.le_of_eq ln8) (fun k h1 h2 => g363 (k) (by omega))
  have a373 : ad360 (o) = ad (o) := (g362 (o) (by omega)).trans a348
  have a374 : ad360 (o + 1) = q1 := (g362 (o + 1) (by omega)).trans a349
  have a375 : ad360 (o + 6) = q25 := (g362 (o + 6) (by omega)).trans a350
  have a376 : ad360 (o + 11) = q54 := (g362 (o + 11) (by omega)).trans a351
  have a377 : ad360 (o + 13) = q88 := (g362 (o + 13) (by omega)).trans a352
  have a378 : ad360 (o + 18) = q127 := (g362 (o + 18) (by omega)).trans a353
  have a379 : ad360 (o + 20) = q171 := (g362 (o + 20) (by omega)).trans a354
  have a380 : ad360 (o + 22) = q220 := (g362 (o + 22) (by omega)).trans a355
  have a381 : ad360 (o + 24) = q274 := (g362 (o + 24) (by omega)).trans a356
  have a382 : ad360 (o + 29) = q333 := (g362 (o + 29) (by omega)).trans a358
  have c383 : cl361 (o) = .inr (2, [.ref (q1), .ref (q25), .ref (q54), .ref (q88), .ref (q127), .ref (q171), .ref (q220), .ref (q274), .null, .null, .null, .int (0), .int (0), .int (0), .int (0)]) := (g363 (o) (by omega)).trans c357
  have fa : ∀ k, k < o + 1 → ad360 k = ad k := fun k hk => (g362 (k) (by omega)).trans (fa k hk)
  have fc : ∀ k, k < o → cl361 k = cl k := fun k hk => (g363 (k) (by omega)).trans (fc k hk)
  refine g_putF X w (o) a373 (by omega) c383 kc2 8 (by decide) rfl rfl k_RX2_43 rfl hin rfl rfl (Nat.le_of_ble_eq_true rfl) dX2_init_100 (fun H locs w => ?_)
  have w : Wd D A s H locs (o + 31) ad360 (va_up cl361 (o) (.inr (2, [.ref (q1), .ref (q25), .ref (q54), .ref (q88), .ref (q127), .ref (q171), .ref (q220), .ref (q274), .ref (q333), .null, .null, .int (0), .int (0), .int (0), .int (0)]))) := w
  generalize e385 : va_up cl361 (o) (.inr (2, [.ref (q1), .ref (q25), .ref (q54), .ref (q88), .ref (q127), .ref (q171), .ref (q220), .ref (q274), .ref (q333), .null, .null, .int (0), .int (0), .int (0), .int (0)])) = cl384 at w
  have g386 : ∀ k, k ≠ o → cl384 k = cl361 k := fun k hk => by rw [← e385, va_up_ne _ _ hk]
  have c387 : cl384 (o) = .inr (2, [.ref (q1), .ref (q25), .ref (q54), .ref (q88), .ref (q127), .ref (q171), .ref (q220), .ref (q274), .ref (q333), .null, .null, .int (0), .int (0), .int (0), .int (0)]) := by rw [← e385, va_up_self]
  have b388 : Blk cl384 (o + 1) (bX8 G ad360 (o + 1)) := b365.tr (n := 5) (Nat.le_of_eq ln8) (fun k h1 h2 => g386 (k) (by omega))
  have b389 : Blk cl384 (o + 6) (bX8 G ad360 (o + 6)) := b366.tr (n := 5) (Nat.le_of_eq ln8) (fun k h1 h2 => g386 (k) (by omega))
  have b390 : Blk cl384 (o + 11) (bX5 G ad360 (o + 11)) := b367.tr (n := 2) (Nat.le_of_eq ln5) (fun k h1 h2 => g386 (k) (by omega))
  have b391 : Blk cl384 (o + 13) (bX8 G ad360 (o + 13)) := b368.tr (n := 5) (Nat.le_of_eq ln8) (fun k h1 h2 => g386 (k) (by omega))
  have b392 : Blk cl384 (o + 18) (bX5 G ad360 (o + 18)) := b369.tr (n := 2) (Nat.le_of_eq ln5) (fun k h1 h2 => g386 (k) (by omega))
  have b393 : Blk cl384 (o + 20) (bX5 G ad360 (o + 20)) := b370.tr (n := 2) (Nat.le_of_eq ln5) (fun k h1 h2 => g386 (k) (by omega))
  have b394 : Blk cl384 (o + 22) (bX5 G ad360 (o + 22)) := b371.tr (n := 2) (Nat.le_of_eq ln5) (fun k h1 h2 => g386 (k) (by omega))
  have b395 : Blk cl384 (o + 24) (bX8 G ad360 (o + 24)) := b372.tr (n := 5) (Nat.le_of_eq ln8) (fun k h1 h2 => g386 (k) (by omega))
  have b396 : Blk cl384 (o + 29) (bX5 G ad360 (o + 29)) := b364.tr (n := 2) (Nat.le_of_eq ln5) (fun k h1 h2 => g386 (k) (by omega))
  have fc : ∀ k, k < o → cl384 k = cl k := fun k hk => (g386 (k) (by omega)).trans (fc k hk)
  refine lv_aload_n hx hb dX2_init_103 rfl (lv_at hl 0 rfl) ?_
  refine g_new X w kc5 k_RX2_21 wt_5 wi_5 bl_5 (Nat.le_of_ble_eq_true rfl) (Nat.le_of_ble_eq_true rfl) dX2_init_104 (fun q397 H w => ?_)
  generalize e400 : va_up ad360 (o + 31) q397 = ad398 at w
  generalize e401 : va_up cl384 (o + 31) (.inr (5, [.null, .int 0])) = cl399 at w
  have g402 : ∀ k, k < o + 31 → ad398 k = ad360 k := fun k hk => by rw [← e400, va_up_ne _ _ (by omega)]
  have g403 : ∀ k, k < o + 31 → cl399 k = cl384 k := fun k hk => by rw [← e401, va_up_ne _ _ (by omega)]
  have b404 : Blk cl399 (o + 1) (bX8 G ad398 (o + 1)) := by rw [cg8 (n := 5) (Nat.le_refl _) (fun k h1 h2 => g402 (k) (by omega))]; exact b388.tr (n := 5) (Nat.le_of_eq ln8) (fun k h1 h2 => g403 (k) (by omega))
  have b405 : Blk cl399 (o + 6) (bX8 G ad398 (o + 6)) := by rw [cg8 (n := 5) (Nat.le_refl _) (fun k h1 h2 => g402 (k) (by omega))]; exact b389.tr (n := 5) (Nat.le_of_eq ln8) (fun k h1 h2 => g403 (k) (by omega))
  have b406 : Blk cl399 (o + 11) (bX5 G ad398 (o + 11)) := by rw [cg5 (n := 2) (Nat.le_refl _) (fun k h1 h2 => g402 (k) (by omega))]; exact b390.tr (n := 2) (Nat.le_of_eq ln5) (fun k h1 h2 => g403 (k) (by omega))
  have b407 : Blk cl399 (o + 13) (bX8 G ad398 (o + 13)) := by rw [cg8 (n := 5) (Nat.le_refl _) (fun k h1 h2 => g402 (k) (by omega))]; exact b391.tr (n := 5) (Nat.le_of_eq ln8) (fun k h1 h2 => g403 (k) (by omega))
  have b408 : Blk cl399 (o + 18) (bX5 G ad398 (o + 18)) := by rw [cg5 (n := 2) (Nat.le_refl _) (fun k h1 h2 => g402 (k) (by omega))]; exact b392.tr (n := 2) (Nat.le_of_eq ln5) (fun k h1 h2 => g403 (k) (by omega))
  have b409 : Blk cl399 (o + 20) (bX5 G ad398 (o + 20)) := by rw [cg5 (n := 2) (Nat.le_refl _) (fun k h1 h2 => g402 (k) (by omega))]; exact b393.tr (n := 2) (Nat.le_of_eq ln5) (fun k h1 h2 => g403 (k) (by omega))
  have b410 : Blk cl399 (o + 22) (bX5 G ad398 (o + 22)) := by rw [cg5 (n := 2) (Nat.le_refl _) (fun k h1 h2 => g402 (k) (by omega))]; exact b394.tr (n := 2) (Nat.le_of_eq ln5) (fun k h1 h2 => g403 (k) (by omega))
  have b411 : Blk cl399 (o + 24) (bX8 G ad398 (o + 24)) := by rw [cg8 (n := 5) (Nat.le_refl _) (fun k h1 h2 => g402 (k) (by omega))]; exact b395.tr (n := 5) (Nat.le_of_eq ln8) (fun k h1 h2 => g403 (k) (by omega))
  have b412 : Blk cl399 (o + 29) (bX5 G ad398 (o + 29)) := by rw [cg5 (n := 2) (Nat.le_refl _) (fun k h1 h2 => g402 (k) (by omega))]; exact b396.tr (n := 2) (Nat.le_of_eq ln5) (fun k h1 h2 => g403 (k) (by omega))
  have a413 : ad398 (o) = ad (o) := (g402 (o) (by omega)).trans a373
  have a414 : ad398 (o + 1) = q1 := (g402 (o + 1) (by omega)).trans a374
  have a415 : ad398 (o + 6) = q25 := (g402 (o + 6) (by omega)).trans a375
  have a416 : ad398 (o + 11) = q54 := (g402 (o + 11) (by omega)).trans a376
  have a417 : ad398 (o + 13) = q88 := (g402 (o + 13) (by omega)).trans a377
  have a418 : ad398 (o + 18) = q127 := (g402 (o + 18) (by omega)).trans a378
  have a419 : ad398 (o + 20) = q171 := (g402 (o + 20) (by omega)).trans a379
  have a420 : ad398 (o + 22) = q220 := (g402 (o + 22) (by omega)).trans a380
  have a421 : ad398 (o + 24) = q274 := (g402 (o + 24) (by omega)).trans a381
  have a422 : ad398 (o + 29) = q333 := (g402 (o + 29) (by omega)).trans a382
  have c423 : cl399 (o) = .inr (2, [.ref (q1), .ref (q25), .ref (q54), .ref (q88), .ref (q127), .ref (q171), .ref (q220), .ref (q274), .ref (q333), .null, .null, .int (0), .int (0), .int (0), .int (0)]) := (g403 (o) (by omega)).trans c387
  have fa : ∀ k, k < o + 1 → ad398 k = ad k := fun k hk => (g402 (k) (by omega)).trans (fa k hk)
  have fc : ∀ k, k < o → cl399 k = cl k := fun k hk => (g403 (k) (by omega)).trans (fc k hk)
  have a424 : ad398 (o + 31) = q397 := by rw [← e400, va_up_self]
  have c425 : cl399 (o + 31) = .inr (5, [.null, .int 0]) := by rw [← e401, va_up_self]
  refine lv_dup hx hb dX2_init_107 rfl ?_
  refine c_init (As := []) (rest := [.ref (q397), .ref (ad (o))]) X w (cn_5 l D G t (o + 32) ad398 cl399 (o + 31) rfl c425 (d - 1) (by omega)) YX5_init k_RX2_23 (by rw [a424]) rfl rfl hl.1 (rm_call (by omega) (by decide)) (Nat.le_of_ble_eq_true rfl) dX2_init_108 (⟨Nat.le_of_ble_eq_true rfl, Nat.le_of_ble_eq_true rfl⟩) (fun u H locs hp w => ?_)
  obtain ⟨ad426, cl427, rfl, g428, g429, b430⟩ := hp
  have w : Wd D A s H locs (o + 33) ad426 cl427 := w
  have b430 : Blk cl427 (o + 31) (bX5 G ad426 (o + 31)) := b430
  have b431 : Blk cl427 (o + 1) (bX8 G ad426 (o + 1)) := by rw [cg8 (n := 5) (Nat.le_refl _) (fun k h1 h2 => g428 (k) (by omega))]; exact b404.tr (n := 5) (Nat.le_of_eq ln8) (fun k h1 h2 => g429 (k) (by omega))
  have b432 : Blk cl427 (o + 6) (bX8 G ad426 (o + 6)) := by rw [cg8 (n := 5) (Nat.le_refl _) (fun k h1 h2 => g428 (k) (by omega))]; exact b405.tr (n := 5) (Nat.le_of_eq ln8) (fun k h1 h2 => g429 (k) (by omega))
  have b433 : Blk cl427 (o + 11) (bX5 G ad426 (o + 11)) := by rw [cg5 (n := 2) (Nat.le_refl _) (fun k h1 h2 => g428 (k) (by omega))]; exact b406.tr (n := 2) (Nat.le_of_eq ln5) (fun k h1 h2 => g429 (k) (by omega))
  have b434 : Blk cl427 (o + 13) (bX8 G ad426 (o + 13)) := by rw [cg8 (n := 5) (Nat.le_refl _) (fun k h1 h2 => g428 (k) (by omega))]; exact b407.tr (n := 5) (Nat.le_of_eq ln8) (fun k h1 h2 => g429 (k) (by omega))
  have b435 : Blk cl427 (o + 18) (bX5 G ad426 (o + 18)) := by rw [cg5 (n := 2) (Nat.le_refl _) (fun k h1 h2 => g428 (k) (by omega))]; exact b408.tr (n := 2) (Nat.le_of_eq ln5) (fun k h1 h2 => g429 (k) (by omega))
  have b436 : Blk cl427 (o + 20) (bX5 G ad426 (o + 20)) := by rw [cg5 (n := 2) (Nat.le_refl _) (fun k h1 h2 => g428 (k) (by omega))]; exact b409.tr (n := 2) (Nat.le_of_eq ln5) (fun k h1 h2 => g429 (k) (by omega))
  have b437 : Blk cl427 (o + 22) (bX5 G ad426 (o + 22)) := by rw [cg5 (n := 2) (Nat.le_refl _) (fun k h1 h2 => g428 (k) (by omega))]; exact b410.tr (n := 2) (Nat.le_of_eq ln5) (fun k h1 h2 => g429 (k) (by omega))
  have b438 : Blk cl427 (o + 24) (bX8 G ad426 (o + 24)) := by rw [cg8 (n := 5) (Nat.le_refl _) (fun k h1 h2 => g428 (k) (by omega))]; exact b411.tr (n := 5) (Nat.le_of_eq ln8) (fun k h1 h2 => g429 (k) (by omega))
  have b439 : Blk cl427 (o + 29) (bX5 G ad426 (o + 29)) := by rw [cg5 (n := 2) (Nat.le_refl _) (fun k h1 h2 => g428 (k) (by omega))]; exact b412.tr (n := 2) (Nat.le_of_eq ln5) (fun k h1 h2 => g429 (k) (by omega))
  have a440 : ad426 (o) = ad (o) := (g428 (o) (by omega)).trans a413
  have a441 : ad426 (o + 1) = q1 := (g428 (o + 1) (by omega)).trans a414
  have a442 : ad426 (o + 6) = q25 := (g428 (o + 6) (by omega)).trans a415
  have a443 : ad426 (o + 11) = q54 := (g428 (o + 11) (by omega)).trans a416
  have a444 : ad426 (o + 13) = q88 := (g428 (o + 13) (by omega)).trans a417
  have a445 : ad426 (o + 18) = q127 := (g428 (o + 18) (by omega)).trans a418
  have a446 : ad426 (o + 20) = q171 := (g428 (o + 20) (by omega)).trans a419
  have a447 : ad426 (o + 22) = q220 := (g428 (o + 22) (by omega)).trans a420
  have a448 : ad426 (o + 24) = q274 := (g428 (o + 24) (by omega)).trans a421
  have a449 : ad426 (o + 29) = q333 := (g428 (o + 29) (by omega)).trans a422
  have a450 : ad426 (o + 31) = q397 := (g428 (o + 31) (by omega)).trans a424
  have c451 : cl427 (o) = .inr (2, [.ref (q1), .ref (q25), .ref (q54), .ref (q88), .ref (q127), .ref (q171), .ref (q220), .ref (q274), .ref (q333), .null, .null, .int (0), .int (0), .int (0), .int (0)]) := (g429 (o) (by omega)).trans c423
  have fa : ∀ k, k < o + 1 → ad426 k = ad k := fun k hk => (g428 (k) (by omega)).trans (fa k hk)
  have fc : ∀ k, k < o → cl427 k = cl k := fun k hk => (g429 (k) (by omega)).trans (fc k hk)
  refine g_putF X w (o) a440 (by omega) c451 kc2 9 (by decide) rfl rfl k_RX2_46 rfl hin rfl rfl (Nat.le_of_ble_eq_true rfl) dX2_init_111 (fun H locs w => ?_)
  have w : Wd D A s H locs (o + 33) ad426 (va_up cl427 (o) (.inr (2, [.ref (q1), .ref (q25), .ref (q54), .ref (q88), .ref (q127), .ref (q171), .ref (q220), .ref (q274), .ref (q333), .ref (q397), .null, .int (0), .int (0), .int (0), .int (0)]))) := w
  generalize e453 : va_up cl427 (o) (.inr (2, [.ref (q1), .ref (q25), .ref (q54), .ref (q88), .ref (q127), .ref (q171), .ref (q220), .ref (q274), .ref (q333), .ref (q397), .null, .int (0), .int (0), .int (0), .int (0)])) = cl452 at w
  have g454 : ∀ k, k ≠ o → cl452 k = cl427 k := fun k hk => by rw [← e453, va_up_ne _ _ hk]
  have c455 : cl452 (o) = .inr (2, [.ref (q1), .ref (q25), .ref (q54), .ref (q88), .ref (q127), .ref (q171), .ref (q220), .ref (q274), .ref (q333), .ref (q397), .null, .int (0), .int (0), .int (0), .int (0)]) := by rw [← e453, va_up_self]
  have b456 : Blk cl452 (o + 1) (bX8 G ad426 (o + 1)) := b431.tr (n := 5) (Nat.le_of_eq ln8) (fun k h1 h2 => g454 (k) (by omega))
  have b457 : Blk cl452 (o + 6) (bX8 G ad426 (o + 6)) := b432.tr (n := 5) (Nat.le_of_eq ln8) (fun k h1 h2 => g454 (k) (by omega))
  have b458 : Blk cl452 (o + 11) (bX5 G ad426 (o + 11)) := b433.tr (n := 2) (Nat.le_of_eq ln5) (fun k h1 h2 => g454 (k) (by omega))
  have b459 : Blk cl452 (o + 13) (bX8 G ad426 (o + 13)) := b434.tr (n := 5) (Nat.le_of_eq ln8) (fun k h1 h2 => g454 (k) (by omega))
  have b460 : Blk cl452 (o + 18) (bX5 G ad426 (o + 18)) := b435.tr (n := 2) (Nat.le_of_eq ln5) (fun k h1 h2 => g454 (k) (by omega))
  have b461 : Blk cl452 (o + 20) (bX5 G ad426 (o + 20)) := b436.tr (n := 2) (Nat.le_of_eq ln5) (fun k h1 h2 => g454 (k) (by omega))
  have b462 : Blk cl452 (o + 22) (bX5 G ad426 (o + 22)) := b437.tr (n := 2) (Nat.le_of_eq ln5) (fun k h1 h2 => g454 (k) (by omega))
  have b463 : Blk cl452 (o + 24) (bX8 G ad426 (o + 24)) := b438.tr (n := 5) (Nat.le_of_eq ln8) (fun k h1 h2 => g454 (k) (by omega))
  have b464 : Blk cl452 (o + 29) (bX5 G ad426 (o + 29)) := b439.tr (n := 2) (Nat.le_of_eq ln5) (fun k h1 h2 => g454 (k) (by omega))
  have b465 : Blk cl452 (o + 31) (bX5 G ad426 (o + 31)) := b430.tr (n := 2) (Nat.le_of_eq ln5) (fun k h1 h2 => g454 (k) (by omega))
  have fc : ∀ k, k < o → cl452 k = cl k := fun k hk => (g454 (k) (by omega)).trans (fc k hk)
  refine lv_aload_n hx hb dX2_init_114 rfl (lv_at hl 0 rfl) ?_
  refine g_new X w kc5 k_RX2_21 wt_5 wi_5 bl_5 (Nat.le_of_ble_eq_true rfl) (Nat.le_of_ble_eq_true rfl) dX2_init_115 (fun q466 H w => ?_)
  generalize e469 : va_up ad426 (o + 33) q466 = ad467 at w
  generalize e470 : va_up cl452 (o + 33) (.inr (5, [.null, .int 0])) = cl468 at w
  have g471 : ∀ k, k < o + 33 → ad467 k = ad426 k := fun k hk => by rw [← e469, va_up_ne _ _ (by omega)]
  have g472 : ∀ k, k < o + 33 → cl468 k = cl452 k := fun k hk => by rw [← e470, va_up_ne _ _ (by omega)]
  have b473 : Blk cl468 (o + 1) (bX8 G ad467 (o + 1)) := by rw [cg8 (n := 5) (Nat.le_refl _) (fun k h1 h2 => g471 (k) (by omega))]; exact b456.tr (n := 5) (Nat.le_of_eq ln8) (fun k h1 h2 => g472 (k) (by omega))
  have b474 : Blk cl468 (o + 6) (bX8 G ad467 (o + 6)) := by rw [cg8 (n := 5) (Nat.le_refl _) (fun k h1 h2 => g471 (k) (by omega))]; exact b457.tr (n := 5) (Nat.le_of_eq ln8) (fun k h1 h2 => g472 (k) (by omega))
  have b475 : Blk cl468 (o + 11) (bX5 G ad467 (o + 11)) := by rw [cg5 (n := 2) (Nat.le_refl _) (fun k h1 h2 => g471 (k) (by omega))]; exact b458.tr (n := 2) (Nat.le_of_eq ln5) (fun k h1 h2 => g472 (k) (by omega))
  have b476 : Blk cl468 (o + 13) (bX8 G ad467 (o + 13)) := by rw [cg8 (n := 5) (Nat.le_refl _) (fun k h1 h2 => g471 (k) (by omega))]; exact b459.tr (n := 5) (Nat.le_of_eq ln8) (fun k h1 h2 => g472 (k) (by omega))
  have b477 : Blk cl468 (o + 18) (bX5 G ad467 (o + 18)) := by rw [cg5 (n := 2) (Nat.le_refl _) (fun k h1 h2 => g471 (k) (by omega))]; exact b460.tr (n := 2) (Nat.le_of_eq ln5) (fun k h1 h2 => g472 (k) (by omega))
  have b478 : Blk cl468 (o + 20) (bX5 G ad467 (o + 20)) := by rw [cg5 (n := 2) (Nat.le_refl _) (fun k h1 h2 => g471 (k) (by omega))]; exact b461.tr (n := 2) (Nat.le_of_eq ln5) (fun k h1 h2 => g472 (k) (by omega))
  have b479 : Blk cl468 (o + 22) (bX5 G ad467 (o + 22)) := by rw [cg5 (n := 2) (Nat.le_refl _) (fun k h1 h2 => g471 (k) (by omega))]; exact b462.tr (n := 2) (Nat.le_of_eq ln5) (fun k h1 h2 => g472 (k) (by omega))
  have b480 : Blk cl468 (o + 24) (bX8 G ad467 (o + 24)) := by rw [cg8 (n := 5) (Nat.le_refl _) (fun k h1 h2 => g471 (k) (by omega))]; exact b463.tr (n := 5) (Nat.le_of_eq ln8) (fun k h1 h2 => g472 (k) (by omega))
  have b481 : Blk cl468 (o + 29) (bX5 G ad467 (o + 29)) := by rw [cg5 (n := 2) (Nat.le_refl _) (fun k h1 h2 => g471 (k) (by omega))]; exact b464.tr (n := 2) (Nat.le_of_eq ln5) (fun k h1 h2 => g472 (k) (by omega))
  have b482 : Blk cl468 (o + 31) (bX5 G ad467 (o + 31)) := by rw [cg5 (n := 2) (Nat.le_refl _) (fun k h1 h2 => g471 (k) (by omega))]; exact b465.tr (n := 2) (Nat.le_of_eq ln5) (fun k h1 h2 => g472 (k) (by omega))
  have a483 : ad467 (o) = ad (o) := (g471 (o) (by omega)).trans a440
  have a484 : ad467 (o + 1) = q1 := (g471 (o + 1) (by omega)).trans a441
  have a485 : ad467 (o + 6) = q25 := (g471 (o + 6) (by omega)).trans a442
  have a486 : ad467 (o + 11) = q54 := (g471 (o + 11) (by omega)).trans a443
  have a487 : ad467 (o + 13) = q88 := (g471 (o + 13) (by omega)).trans a444
  have a488 : ad467 (o + 18) = q127 := (g471 (o + 18) (by omega)).trans a445
  have a489 : ad467 (o + 20) = q171 := (g471 (o + 20) (by omega)).trans a446
  have a490 : ad467 (o + 22) = q220 := (g471 (o + 22) (by omega)).trans a447
  have a491 : ad467 (o + 24) = q274 := (g471 (o + 24) (by omega)).trans a448
  have a492 : ad467 (o + 29) = q333 := (g471 (o + 29) (by omega)).trans a449
  have a493 : ad467 (o + 31) = q397 := (g471 (o + 31) (by omega)).trans a450
  have c494 : cl468 (o) = .inr (2, [.ref (q1), .ref (q25), .ref (q54), .ref (q88), .ref (q127), .ref (q171), .ref (q220), .ref (q274), .ref (q333), .ref (q397), .null, .int (0), .int (0), .int (0), .int (0)]) := (g472 (o) (by omega)).trans c455
  have fa : ∀ k, k < o + 1 → ad467 k = ad k := fun k hk => (g471 (k) (by omega)).trans (fa k hk)
  have fc : ∀ k, k < o → cl468 k = cl k := fun k hk => (g472 (k) (by omega)).trans (fc k hk)
  have a495 : ad467 (o + 33) = q466 := by rw [← e469, va_up_self]
  have c496 : cl468 (o + 33) = .inr (5, [.null, .int 0]) := by rw [← e470, va_up_self]
  refine lv_dup hx hb dX2_init_118 rfl ?_
  refine c_init (As := []) (rest := [.ref (q466), .ref (ad (o))]) X w (cn_5 l D G t (o + 34) ad467 cl468 (o + 33) rfl c496 (d - 1) (by omega)) YX5_init k_RX2_23 (by rw [a495]) rfl rfl hl.1 (rm_call (by omega) (by decide)) (Nat.le_of_ble_eq_true rfl) dX2_init_119 (⟨Nat.le_of_ble_eq_true rfl, Nat.le_of_ble_eq_true rfl⟩) (fun u H locs hp w => ?_)
  obtain ⟨ad497, cl498, rfl, g499, g500, b501⟩ := hp
  have w : Wd D A s H locs (o + 35) ad497 cl498 := w
  have b501 : Blk cl498 (o + 33) (bX5 G ad497 (o + 33)) := b501
  have b502 : Blk cl498 (o + 1) (bX8 G ad497 (o + 1)) := by rw [cg8 (n := 5) (Nat.le_refl _) (fun k h1 h2 => g499 (k) (by omega))]; exact b473.tr (n := 5) (Nat.le_of_eq ln8) (fun k h1 h2 => g500 (k) (by omega))
  have b503 : Blk cl498 (o + 6) (bX8 G ad497 (o + 6)) := by rw [cg8 (n := 5) (Nat.le_refl _) (fun k h1 h2 => g499 (k) (by omega))]; exact b474.tr (n := 5) (Nat.le_of_eq ln8) (fun k h1 h2 => g500 (k) (by omega))
  have b504 : Blk cl498 (o + 11) (bX5 G ad497 (o + 11)) := by rw [cg5 (n := 2) (Nat.le_refl _) (fun k h1 h2 => g499 (k) (by omega))]; exact b475.tr (n := 2) (Nat.le_of_eq ln5) (fun k h1 h2 => g500 (k) (by omega))
  have b505 : Blk cl498 (o + 13) (bX8 G ad497 (o + 13)) := by rw [cg8 (n := 5) (Nat.le_refl _) (fun k h1 h2 => g499 (k) (by omega))]; exact b476.tr (n := 5) (Nat.le_of_eq ln8) (fun k h1 h2 => g500 (k) (by omega))
  have b506 : Blk cl498 (o + 18) (bX5 G ad497 (o + 18)) := by rw [cg5 (n := 2) (Nat.le_refl _) (fun k h1 h2 => g499 (k) (by omega))]; exact b477.tr (n := 2) (Nat.le_of_eq ln5) (fun k h1 h2 => g500 (k) (by omega))
  have b507 : Blk cl498 (o + 20) (bX5 G ad497 (o + 20)) := by rw [cg5 (n := 2) (Nat.le_refl _) (fun k h1 h2 => g499 (k) (by omega))]; exact b478.tr (n := 2) (Nat.le_of_eq ln5) (fun k h1 h2 => g500 (k) (by omega))
  have b508 : Blk cl498 (o + 22) (bX5 G ad497 (o + 22)) := by rw [cg5 (n := 2) (Nat.le_refl _) (fun k h1 h2 => g499 (k) (by omega))]; exact b479.tr (n := 2) (Nat.le_of_eq ln5) (fun k h1 h2 => g500 (k) (by omega))
  have b509 : Blk cl498 (o + 24) (bX8 G ad497 (o + 24)) := by rw [cg8 (n := 5) (Nat.le_refl _) (fun k h1 h2 => g499 (k) (by omega))]; exact b480.tr (n := 5) (Nat.le_of_eq ln8) (fun k h1 h2 => g500 (k) (by omega))
  have b510 : Blk cl498 (o + 29) (bX5 G ad497 (o + 29)) := by rw [cg5 (n := 2) (Nat.le_refl _) (fun k h1 h2 => g499 (k) (by omega))]; exact b481.tr (n := 2) (Nat.le_of_eq ln5) (fun k h1 h2 => g500 (k) (by omega))
  have b511 : Blk cl498 (o + 31) (bX5 G ad497 (o + 31)) := by rw [cg5 (n := 2) (Nat.le_refl _) (fun k h1 h2 => g499 (k) (by omega))]; exact b482.tr (n := 2) (Nat.le_of_eq ln5) (fun k h1 h2 => g500 (k) (by omega))
  have a512 : ad497 (o) = ad (o) := (g499 (o) (by omega)).trans a483
  have a513 : ad497 (o + 1) = q1 := (g499 (o + 1) (by omega)).trans a484
  have a514 : ad497 (o + 6) = q25 := (g499 (o + 6) (by omega)).trans a485
  have a515 : ad497 (o + 11) = q54 := (g499 (o + 11) (by omega)).trans a486
  have a516 : ad497 (o + 13) = q88 := (g499 (o + 13) (by omega)).trans a487
  have a517 : ad497 (o + 18) = q127 := (g499 (o + 18) (by omega)).trans a488
  have a518 : ad497 (o + 20) = q171 := (g499 (o + 20) (by omega)).trans a489
  have a519 : ad497 (o + 22) = q220 := (g499 (o + 22) (by omega)).trans a490
  have a520 : ad497 (o + 24) = q274 := (g499 (o + 24) (by omega)).trans a491
  have a521 : ad497 (o + 29) = q333 := (g499 (o + 29) (by omega)).trans a492
  have a522 : ad497 (o + 31) = q397 := (g499 (o + 31) (by omega)).trans a493
  have a523 : ad497 (o + 33) = q466 := (g499 (o + 33) (by omega)).trans a495
  have c524 : cl498 (o) = .inr (2, [.ref (q1), .ref (q25), .ref (q54), .ref (q88), .ref (q127), .ref (q171), .ref (q220), .ref (q274), .ref (q333), .ref (q397), .null, .int (0), .int (0), .int (0), .int (0)]) := (g500 (o) (by omega)).trans c494
  have fa : ∀ k, k < o + 1 → ad497 k = ad k := fun k hk => (g499 (k) (by omega)).trans (fa k hk)
  have fc : ∀ k, k < o → cl498 k = cl k := fun k hk => (g500 (k) (by omega)).trans (fc k hk)
  refine g_putF X w (o) a512 (by omega) c524 kc2 10 (by decide) rfl rfl k_RX2_49 rfl hin rfl rfl (Nat.le_of_ble_eq_true rfl) dX2_init_122 (fun H locs w => ?_)
  have w : Wd D A s H locs (o + 35) ad497 (va_up cl498 (o) (.inr (2, [.ref (q1), .ref (q25), .ref (q54), .ref (q88), .ref (q127), .ref (q171), .ref (q220), .ref (q274), .ref (q333), .ref (q397), .ref (q466), .int (0), .int (0), .int (0), .int (0)]))) := w
  generalize e526 : va_up cl498 (o) (.inr (2, [.ref (q1), .ref (q25), .ref (q54), .ref (q88), .ref (q127), .ref (q171), .ref (q220), .ref (q274), .ref (q333), .ref (q397), .ref (q466), .int (0), .int (0), .int (0), .int (0)])) = cl525 at w
  have g527 : ∀ k, k ≠ o → cl525 k = cl498 k := fun k hk => by rw [← e526, va_up_ne _ _ hk]
  have c528 : cl525 (o) = .inr (2, [.ref (q1), .ref (q25), .ref (q54), .ref (q88), .ref (q127), .ref (q171), .ref (q220), .ref (q274), .ref (q333), .ref (q397), .ref (q466), .int (0), .int (0), .int (0), .int (0)]) := by rw [← e526, va_up_self]
  have b529 : Blk cl525 (o + 1) (bX8 G ad497 (o + 1)) := b502.tr (n := 5) (Nat.le_of_eq ln8) (fun k h1 h2 => g527 (k) (by omega))
  have b530 : Blk cl525 (o + 6) (bX8 G ad497 (o + 6)) := b503.tr (n := 5) (Nat.le_of_eq ln8) (fun k h1 h2 => g527 (k) (by omega))
  have b531 : Blk cl525 (o + 11) (bX5 G ad497 (o + 11)) := b504.tr (n := 2) (Nat.le_of_eq ln5) (fun k h1 h2 => g527 (k) (by omega))
  have b532 : Blk cl525 (o + 13) (bX8 G ad497 (o + 13)) := b505.tr (n := 5) (Nat.le_of_eq ln8) (fun k h1 h2 => g527 (k) (by omega))
  have b533 : Blk cl525 (o + 18) (bX5 G ad497 (o + 18)) := b506.tr (n := 2) (Nat.le_of_eq ln5) (fun k h1 h2 => g527 (k) (by omega))
  have b534 : Blk cl525 (o + 20) (bX5 G ad497 (o + 20)) := b507.tr (n := 2) (Nat.le_of_eq ln5) (fun k h1 h2 => g527 (k) (by omega))
  have b535 : Blk cl525 (o + 22) (bX5 G ad497 (o + 22)) := b508.tr (n := 2) (Nat.le_of_eq ln5) (fun k h1 h2 => g527 (k) (by omega))
  have b536 : Blk cl525 (o + 24) (bX8 G ad497 (o + 24)) := b509.tr (n := 5) (Nat.le_of_eq ln8) (fun k h1 h2 => g527 (k) (by omega))
  have b537 : Blk cl525 (o + 29) (bX5 G ad497 (o + 29)) := b510.tr (n := 2) (Nat.le_of_eq ln5) (fun k h1 h2 => g527 (k) (by omega))
  have b538 : Blk cl525 (o + 31) (bX5 G ad497 (o + 31)) := b511.tr (n := 2) (Nat.le_of_eq ln5) (fun k h1 h2 => g527 (k) (by omega))
  have b539 : Blk cl525 (o + 33) (bX5 G ad497 (o + 33)) := b501.tr (n := 2) (Nat.le_of_eq ln5) (fun k h1 h2 => g527 (k) (by omega))
  have fc : ∀ k, k < o → cl525 k = cl k := fun k hk => (g527 (k) (by omega)).trans (fc k hk)
  refine e_V X hr w ⟨ad497, cl525, rfl, fa, fc, ?_⟩ (Nat.le_of_ble_eq_true rfl) (Nat.le_of_ble_eq_true rfl) dX2_init_125
  refine Blk.cons ?_ (b529.app (by rw [ln8]) (b530.app (by rw [ln8]) (b531.app (by rw [ln5]) (b532.app (by rw [ln8]) (b533.app (by rw [ln5]) (b534.app (by rw [ln5]) (b535.app (by rw [ln5]) (b536.app (by rw [ln8]) (b537.app (by rw [ln5]) (b538.app (by rw [ln5]) (b539)))))))))))
  rw [c528, a513, a514, a515, a516, a517, a518, a519, a520, a521, a522, a523]
