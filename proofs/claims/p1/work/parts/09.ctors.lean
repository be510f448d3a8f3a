/-! CONSTRUCTORS: a made object and all that it makes are a block of cells, one behind the other -/
def Blk (cl : Nat → va_E) (b : Nat) (L : List va_E) : Prop := ∀ k e, L[k]? = some e → cl (b + k) = e
theorem Blk.nil {cl : Nat → va_E} {b : Nat} : Blk cl b [] := fun k e h => by simp at h
theorem Blk.cons {cl : Nat → va_E} {b : Nat} {e : va_E} {L : List va_E} (h : cl b = e) (hL : Blk cl (b + 1) L) : Blk cl b (e :: L) := fun k x hx => by
  cases k with
  | zero => simp at hx; rw [← hx]; exact h
  | succ k => rw [List.getElem?_cons_succ] at hx; have := hL k x hx; rwa [show b + 1 + k = b + (k + 1) by omega] at this
theorem Blk.app {cl : Nat → va_E} {b : Nat} {L M : List va_E} {c : Nat} (hL : Blk cl b L) (hc : c = b + L.length) (hM : Blk cl c M) : Blk cl b (L ++ M) := fun k x hx => by
  by_cases hk : k < L.length
  · rw [List.getElem?_append_left hk] at hx; exact hL k x hx
  · rw [List.getElem?_append_right (by omega)] at hx
    have := hM _ x hx
    rwa [hc, show b + L.length + (k - L.length) = b + k by omega] at this
theorem Blk.tr {cl cl' : Nat → va_E} {b n : Nat} {L : List va_E} (h : Blk cl b L) (hn : L.length ≤ n) (hc : ∀ k, k < b + n → b ≤ k → cl' k = cl k) : Blk cl' b L := fun k e he => by
  have hk := (List.getElem?_eq_some_iff.mp he).1
  rw [hc (b + k) (by omega) (by omega)]
  exact h k e he
theorem Blk.hd {cl : Nat → va_E} {b : Nat} {e : va_E} {L : List va_E} (h : Blk cl b (e :: L)) : cl b = e := h 0 e rfl
theorem Blk.tl {cl : Nat → va_E} {b : Nat} {e : va_E} {L : List va_E} (h : Blk cl b (e :: L)) : Blk cl (b + 1) L := fun k x hx => by
  have := h (k + 1) x (by rw [List.getElem?_cons_succ]; exact hx)
  rwa [show b + (k + 1) = b + 1 + k by omega] at this
theorem Blk.left {cl : Nat → va_E} {b : Nat} {L M : List va_E} (h : Blk cl b (L ++ M)) : Blk cl b L := fun k x hx => h k x (by rw [List.getElem?_append_left (List.getElem?_eq_some_iff.mp hx).1]; exact hx)
theorem Blk.right {cl : Nat → va_E} {b c : Nat} {L M : List va_E} (h : Blk cl b (L ++ M)) (hc : c = b + L.length) : Blk cl c M := fun k x hx => by
  have := h (L.length + k) x (by rw [List.getElem?_append_right (by omega), show L.length + k - L.length = k by omega]; exact hx)
  rwa [hc, show b + L.length + k = b + (L.length + k) by omega]
section
variable {p : Program} {l : Launch} {e : Env} {R : Room} {s : State} {m : MethodId} {args : Array Value} {below : List Frame} {meth : Method} {c : Code} {H : Heap} {locs : List Loc} {cells slots : Nat} {Q : State → Prop} {pc : Nat} {ls : Array Slot} {rest : List Value}
variable {cc : ByteArray} {nL : Nat} {own : String} {D : va_G} {G : Nat → ClassId} {t : Nat → Nat} {A : Nat → Prop} {N : Nat} {ad : Nat → Nat} {cl : Nat → va_E}
theorem g_copyX (X : Cx p s m args meth c cc nL own D G t A) (w : Wd D A s H locs N ad cl) (hls : ls.size = nL) {idx : Nat} (hl : Cond.methodLink own idx arraycopyName ∈ tb) {C9 n9 : String} {tt L : Nat} {f : Nat → Int32} (hZ : sRow C9 n9 tt L f A s s.heap) (j : Nat) {b : Nat} (hb' : ad j = b) (hj : j < N) {n1 : Nat} {g : Nat → Int32} (hc1 : cl j = .inl (G 0, n1, .inl g)) {n : Int32} (k2 : Nat) (e2 : n = nI k2) (h0 : k2 ≤ L) (h1 : k2 ≤ n1) (hb1 : n1 < 2 ^ 30) (h8 : (rest.map fun v => v.category).sum ≤ 8) (hR : 1 ≤ R.frames ∧ 60 ≤ R.locals) (hdg : decode cc pc = .ok (.invokestatic idx, 3))
    (kk : ∀ (H : Heap) (locs : List Loc), Wd D A s H locs N ad (va_up cl j (.inl (G 0, n1, .inl (va_cpy f g 0 0 k2)))) → W p l e R s m args below meth c H locs cells slots Q (F0 m (pc + 3) ls rest)) : W p l e R s m args below meth c H locs cells slots Q (F0 m pc ls (.int n :: .int 0 :: .ref b :: .int 0 :: .ref tt :: rest)) := by
  subst hb'; subst e2
  obtain ⟨hx, hb, hml, hown, hts, hK, -⟩ := id X
  have q2 : (nI k2).toNatClampNeg = k2 := nI_clamp (by omega)
  have q0 : (0 : Int32).toNatClampNeg = 0 := rfl
  have z2 : (nI k2).toInt = (k2 : Int) := nI_toInt (by omega)
  have z0 : (0 : Int32).toInt = 0 := rfl
  intro T hT X9
  obtain ⟨-, scr, hs1, hs2, hs3, hs4, -, hs5, hs7⟩ := hZ
  have hc0 : H[tt]? = some scr := by rw [w.2.2.2.1 tt (Array.getElem?_eq_some_iff.mp hs1).1 hs7]; exact hs1
  have hcd : H[ad j]? = some (vp_cell (G 0) (n1, .inl g)) := w.1 j (ad j, .inl (G 0, n1, .inl g)) (by rw [wd_get hj, hc1])
  obtain ⟨hs6, kk0, hk0, cm0, hkk0⟩ := hs2
  obtain ⟨-, kk1, hk1, cm1, hkk1⟩ := (hK.2 0 (G 0, .int) rfl).1 n1 (fun j => .int (g j))
  obtain ⟨vm', X', step⟩ := X9.arraycopy hx hown (hts _ hl) (hts _ wo_nat) (hts _ wo_sta) (hts _ wo_ini) (src := tt) (dst := ad j) (cs := scr) (cd := vp_cell (G 0) (n1, .inl g)) (srcPos := 0) (destPos := 0) (n := nI k2) (by rw [hT]; exact hc0) (by rw [hT]; exact hcd)
    hs6 (fun _ h => by cases h) hs3 (fun h => by cases h) hk0 hk1 hkk0 hkk1 (by simp [refKind]) (by decide) (by decide) (nI_pos (by omega))
    (by rw [z0, z2]; omega)
    (by rw [z0, z2]; show ¬ _ > ((arrV (G 0) n1 (fun j => .int (g j))).slots.size : Int); rw [arrV_size]; omega)
    (fun vm₁ _ i hi => by
      rw [q2] at hi
      have e : scr.slots.getD ((0 : Int32).toNatClampNeg + i) .null = .int (f i) := by
        rw [Array.getD_eq_getD_getElem?, q0, Nat.zero_add, hs5 _ (by omega)]
        rfl
      rw [e]
      exact ⟨rfl, trivial⟩)
    (g := F0 m pc ls (.int (nI k2) :: .int 0 :: .ref (ad j) :: .int 0 :: .ref tt :: rest)) rfl (by rw [hml]; exact hls) (rest := rest) rfl (by rw [hb]; exact hdg) hR.1 (by show 2 * 0 + _ + _ ≤ _; have := Nat.le_trans (Nat.add_le_add h8 nfw) hR.2; omega)
  have e1 : copied scr (vp_cell (G 0) (n1, .inl g)) 0 0 (nI k2) = vp_cell (G 0) (n1, .inl (va_cpy f g (0 : Int32).toNatClampNeg (0 : Int32).toNatClampNeg (nI k2).toNatClampNeg)) := va_copiedX (fun z => .int z) scr (G 0) f g hs5 (by rw [q0, q2]; omega)
  rw [q0, q2] at e1
  rw [e1] at X' step
  have hl9 : ad j < H.size := (Array.getElem?_eq_some_iff.mp hcd).1
  have hheap : ((T.setVm vm').setCell (ad j) (vp_cell (G 0) (n1, .inl (va_cpy f g 0 0 k2)))).heap = H.setIfInBounds (ad j) (vp_cell (G 0) (n1, .inl (va_cpy f g 0 0 k2))) := by rw [← hT]; rfl
  have oq : ∀ q : Nat, q ≠ ad j → (H.setIfInBounds (ad j) (vp_cell (G 0) (n1, .inl (va_cpy f g 0 0 k2))))[q]? = H[q]? := fun q hq => by simp [Array.getElem?_setIfInBounds, Ne.symm hq]
  have hP1 := w.1.set w.2.1 (p := j) (wd_get hj) (e := .inl (G 0, n1, .inl (va_cpy f g 0 0 k2))) (show (H.setIfInBounds (ad j) _)[ad j]? = some _ by simp [Array.getElem?_setIfInBounds, hl9]) oq
  have hD1 := w.2.1.set (p := j) (wd_get hj) (e := .inl (G 0, n1, .inl (va_cpy f g 0 0 k2)))
  rw [wd_set hj] at hP1 hD1
  obtain ⟨t9, a1, b1⟩ := kk _ _ ⟨hP1, hD1, by simp; exact w.2.2.1, fun q g1 g2 => by
      rw [oq q (fun e => g2 (by rw [e]; exact w.2.1.2 j _ (wd_get hj)))]
      exact w.2.2.2.1 q g1 g2, fun q hq => by
      rcases List.mem_append.mp hq with h | h
      · exact w.2.2.2.2 q h
      · obtain ⟨z, -, hz⟩ := List.mem_map.mp h
        rw [← hz]
        exact w.2.1.2 j _ (wd_get hj)⟩ _ hheap X'
  exact ⟨t9, step t9 a1, b1⟩
end
def bX5 (G : Nat → ClassId) (ad : Nat → Nat) (b : Nat) : List va_E := [.inr (5, [.ref (ad (b + 1)), .int 0]), .inl (G 0, 16, .inl (fun _ => 0))]
theorem cg5 {G : Nat → ClassId} {ad ad' : Nat → Nat} {b n : Nat} (hn : 2 ≤ n) (h : ∀ k, k < b + n → b ≤ k → ad' k = ad k) : bX5 G ad' b = bX5 G ad b := by simp only [bX5, h (b + 1) (by omega) (by omega)]
theorem ln5 {G : Nat → ClassId} {ad : Nat → Nat} {b : Nat} : (bX5 G ad b).length = 2 := rfl
set_option maxHeartbeats 4000000 in
theorem cn_5 (l : Launch) (D : va_G) (G : Nat → ClassId) (t : Nat → Nat) (N : Nat) (ad : Nat → Nat) (cl : Nat → va_E) (o : Nat) (hiN : o + 1 = N) (hc0 : cl o = .inr (5, [.null, .int 0])) (d : Nat) (hd : 1 ≤ d) : CtV l yX5_init cX5_init 1 (rmD d 1 16) D G t (N, ad, cl) [.ref (ad o)] (fun u => ∃ ad' cl', u = (o + 2, ad', cl') ∧ (∀ k, k < o + 1 → ad' k = ad k) ∧ (∀ k, k < o → cl' k = cl k) ∧ Blk cl' o (bX5 G ad' o)) := by
  refine ct_V (own := RX5) (by decide +kernel) rfl (Nat.le_of_ble_eq_true rfl) rfl ?_
  intro p e s m args below meth c A ls X hr hin hl w
  obtain ⟨hx, hb, hml, hown, hts, -⟩ := id X
  have hl : lv_has ls 1 [(0, .ref (ad o))] := hl
  refine lv_aload_n hx hb dX5_init_0 rfl (lv_at hl 0 rfl) ?_
  refine g_oinit X hl.1 k_RX5_3 dX5_init_1 (by decide) ⟨hd, rm_loc hd (by decide)⟩ ?_
  refine lv_aload_n hx hb dX5_init_4 rfl (lv_at hl 0 rfl) ?_
  refine lv_bipush (v := 16) hx hb dX5_init_5 (by decide) ?_
  refine g_newI X w wa_I (n := 16) (by decide) (by decide) (by omega) (Nat.le_of_ble_eq_true rfl) (Nat.le_of_ble_eq_true rfl) dX5_init_7 (fun q1 H w => ?_)
  generalize e4 : va_up ad (N) q1 = ad2 at w
  generalize e5 : va_up cl (N) (.inl (G 0, 16, .inl (fun _ => 0))) = cl3 at w
  have a6 : ad2 (o) = ad (o) := by rw [← e4, va_up_ne _ _ (by omega)]
  have a7 : ad2 (N) = q1 := by rw [← e4, va_up_self]
  have c8 : cl3 (o) = .inr (5, [.null, .int (0)]) := by rw [← e5, va_up_ne _ _ (by omega)]; exact hc0
  have c9 : cl3 (N) = .inl (G 0, 16, .inl (fun _ => 0)) := by rw [← e5, va_up_self]
  refine g_put X w (o) a6 (by omega) c8 kc5 0 (by decide) rfl k_RX5_9 rfl rfl rfl (Nat.le_of_ble_eq_true rfl) dX5_init_9 (fun H locs w => ?_)
  have w : Wd D A s H locs (N + 1) ad2 (va_up cl3 (o) (.inr (5, [.ref (q1), .int (0)]))) := w
  generalize e11 : va_up cl3 (o) (.inr (5, [.ref (q1), .int (0)])) = cl10 at w
  have c12 : cl10 (o) = .inr (5, [.ref (q1), .int (0)]) := by rw [← e11, va_up_self]
  have c13 : cl10 (N) = .inl (G 0, 16, .inl (fun _ => 0)) := by rw [← e11, va_up_ne _ _ (by omega)]; exact c9
  refine e_V X hr w ⟨ad2, cl10, by rw [← hiN], fun k hk => ?_, fun k hk => ?_, Blk.cons ?_ (Blk.cons ?_ Blk.nil)⟩ (Nat.le_of_ble_eq_true rfl) (Nat.le_of_ble_eq_true rfl) dX5_init_12
  · rw [← e4, va_up_ne _ _ (by omega)]
  · rw [← e11, va_up_ne _ _ (by omega), ← e5, va_up_ne _ _ (by omega)]
  · rw [c12, hiN, a7]
  · rw [hiN]; exact c13
abbrev cX8_init : ByteArray := prog_10_method_1_code
def yX8_init : MethodName := ⟨RX8, "<init>", "()V"⟩
theorem wcX8_init : Cond.code yX8_init cX8_init 1 none ∈ tb := tb_1 (i := 93) rfl rfl
theorem wi_8 : Cond.initialized RX8 ∈ tb := tb_1 (i := 6) (by decide +kernel) rfl
theorem wnX8_init : Cond.instanceMethod yX8_init ∈ tb := tb_1 (i := 92) (by decide +kernel) rfl
theorem YX8_init : Yi yX8_init cX8_init 1 0 := ⟨wcX8_init, wnX8_init, wi_8, rfl, by decide +kernel, by decide +kernel, by decide +kernel⟩
theorem dX8_init_0 : decode cX8_init 0 = .ok (.aload_n 0, 1) := by decide +kernel
theorem dX8_init_1 : decode cX8_init 1 = .ok (.invokespecial 3, 3) := by decide +kernel
theorem dX8_init_4 : decode cX8_init 4 = .ok (.aload_n 0, 1) := by decide +kernel
theorem dX8_init_5 : decode cX8_init 5 = .ok (.new 9, 3) := by decide +kernel
theorem dX8_init_8 : decode cX8_init 8 = .ok (.dup, 1) := by decide +kernel
theorem dX8_init_9 : decode cX8_init 9 = .ok (.invokespecial 11, 3) := by decide +kernel
theorem dX8_init_12 : decode cX8_init 12 = .ok (.putfield 12, 3) := by decide +kernel
theorem dX8_init_15 : decode cX8_init 15 = .ok (.aload_n 0, 1) := by decide +kernel
theorem dX8_init_16 : decode cX8_init 16 = .ok (.new 9, 3) := by decide +kernel
theorem dX8_init_19 : decode cX8_init 19 = .ok (.dup, 1) := by decide +kernel
theorem dX8_init_20 : decode cX8_init 20 = .ok (.invokespecial 11, 3) := by decide +kernel
theorem dX8_init_23 : decode cX8_init 23 = .ok (.putfield 18, 3) := by decide +kernel
theorem dX8_init_26 : decode cX8_init 26 = .ok (.return_, 1) := by decide +kernel
theorem k_RX8_3 : Cond.methodLink RX8 3 ⟨"java/lang/Object", "<init>", "()V"⟩ ∈ tb := tb_1 (i := 94) (by decide +kernel) rfl
theorem k_RX8_9 : Cond.classLink RX8 9 RX5 ∈ tb := tb_1 (i := 95) (by decide +kernel) rfl
theorem wt_5 : Cond.instantiable RX5 2 ∈ tb := tb_1 (i := 35) (by decide +kernel) rfl
theorem bl_5 : ∀ j, j < 2 → defaultValue (tyX5 j) = vp_V [.null, .int 0] j := by decide +kernel
theorem k_RX8_11 : Cond.methodLink RX8 11 yX5_init ∈ tb := tb_1 (i := 96) (by decide +kernel) rfl
theorem k_RX8_12 : Cond.fieldLink RX8 12 RX8 "signs" "LTypeRoom$Row;" ∈ tb := tb_1 (i := 97) (by decide +kernel) rfl
theorem k_RX8_18 : Cond.fieldLink RX8 18 RX8 "ends" "LTypeRoom$Row;" ∈ tb := tb_1 (i := 107) (by decide +kernel) rfl
def bX8 (G : Nat → ClassId) (ad : Nat → Nat) (b : Nat) : List va_E := (.inr (8, [.ref (ad (b + 1)), .ref (ad (b + 3))])) :: (bX5 G ad (b + 1) ++ (bX5 G ad (b + 3)))
theorem cg8 {G : Nat → ClassId} {ad ad' : Nat → Nat} {b n : Nat} (hn : 5 ≤ n) (h : ∀ k, k < b + n → b ≤ k → ad' k = ad k) : bX8 G ad' b = bX8 G ad b := by
  simp only [bX8, h (b + 1) (by omega) (by omega), h (b + 3) (by omega) (by omega), cg5 (b := b + 1) (n := 2) (Nat.le_refl _) (fun k h1 h2 => h k (by omega) (by omega)), cg5 (b := b + 3) (n := 2) (Nat.le_refl _) (fun k h1 h2 => h k (by omega) (by omega))]
theorem ln8 {G : Nat → ClassId} {ad : Nat → Nat} {b : Nat} : (bX8 G ad b).length = 5 := by
  simp only [bX8, List.length_cons, List.length_append, List.length_nil, ln5]
set_option maxHeartbeats 4000000 in
set_option maxRecDepth 100000 in
theorem cn_8 (l : Launch) (D : va_G) (G : Nat → ClassId) (t : Nat → Nat) (N : Nat) (ad : Nat → Nat) (cl : Nat → va_E) (o : Nat) (hiN : o + 1 = N) (hc0 : cl o = .inr (8, [.null, .null])) (d : Nat) (hd : 2 ≤ d) : CtV l yX8_init cX8_init 1 (rmD d 4 36) D G t (N, ad, cl) [.ref (ad o)] (fun u => ∃ ad' cl', u = (o + 5, ad', cl') ∧ (∀ k, k < o + 1 → ad' k = ad k) ∧ (∀ k, k < o → cl' k = cl k) ∧ Blk cl' o (bX8 G ad' o)) := by
  subst hiN
  refine ct_V (own := RX8) (by decide +kernel) rfl (Nat.le_of_ble_eq_true rfl) rfl ?_
  intro p e s m args below meth c A ls X hr hin hl w
  obtain ⟨hx, hb, hml, hown, hts, -⟩ := id X
  have hl : lv_has ls 1 [(0, .ref (ad (o)))] := hl
  have fa : ∀ k, k < o + 1 → ad k = ad k := fun _ _ => rfl
  have fc : ∀ k, k < o → cl k = cl k := fun _ _ => rfl
  refine lv_aload_n hx hb dX8_init_0 rfl (lv_at hl 0 rfl) ?_
  refine g_oinit X hl.1 k_RX8_3 dX8_init_1 (by decide) ⟨by show 1 ≤ d; omega, rm_loc (by omega) (by decide)⟩ ?_
  refine lv_aload_n hx hb dX8_init_4 rfl (lv_at hl 0 rfl) ?_
  refine g_new X w kc5 k_RX8_9 wt_5 wi_5 bl_5 (Nat.le_of_ble_eq_true rfl) (Nat.le_of_ble_eq_true rfl) dX8_init_5 (fun q1 H w => ?_)
  generalize e4 : va_up ad (o + 1) q1 = ad2 at w
  generalize e5 : va_up cl (o + 1) (.inr (5, [.null, .int 0])) = cl3 at w
  have g6 : ∀ k, k < o + 1 → ad2 k = ad k := fun k hk => by rw [← e4, va_up_ne _ _ (by omega)]
  have g7 : ∀ k, k < o + 1 → cl3 k = cl k := fun k hk => by rw [← e5, va_up_ne _ _ (by omega)]
  have a8 : ad2 (o) = ad (o) := g6 (o) (by omega)
  have c9 : cl3 (o) = .inr (8, [.null, .null]) := (g7 (o) (by omega)).trans hc0
  have fa : ∀ k, k < o + 1 → ad2 k = ad k := fun k hk => (g6 (k) (by omega)).trans (fa k hk)
  have fc : ∀ k, k < o → cl3 k = cl k := fun k hk => (g7 (k) (by omega)).trans (fc k hk)
  have a10 : ad2 (o + 1) = q1 := by rw [← e4, va_up_self]
  have c11 : cl3 (o + 1) = .inr (5, [.null, .int 0]) := by rw [← e5, va_up_self]
  refine lv_dup hx hb dX8_init_8 rfl ?_
  refine c_init (As := []) (rest := [.ref (q1), .ref (ad (o))]) X w (cn_5 l D G t (o + 2) ad2 cl3 (o + 1) rfl c11 (d - 1) (by omega)) YX5_init k_RX8_11 (by rw [a10]) rfl rfl hl.1 (rm_call (by omega) (by decide)) (Nat.le_of_ble_eq_true rfl) dX8_init_9 (⟨Nat.le_of_ble_eq_true rfl, Nat.le_of_ble_eq_true rfl⟩) (fun u H locs hp w => ?_)
  obtain ⟨ad12, cl13, rfl, g14, g15, b16⟩ := hp
  have w : Wd D A s H locs (o + 3) ad12 cl13 := w
  have b16 : Blk cl13 (o + 1) (bX5 G ad12 (o + 1)) := b16
  have a17 : ad12 (o) = ad (o) := (g14 (o) (by omega)).trans a8
  have c18 : cl13 (o) = .inr (8, [.null, .null]) := (g15 (o) (by omega)).trans c9
  have fa : ∀ k, k < o + 1 → ad12 k = ad k := fun k hk => (g14 (k) (by omega)).trans (fa k hk)
  have fc : ∀ k, k < o → cl13 k = cl k := fun k hk => (g15 (k) (by omega)).trans (fc k hk)
  refine g_putF X w (o) a17 (by omega) c18 kc8 0 (by decide) rfl rfl k_RX8_12 rfl hin rfl rfl (Nat.le_of_ble_eq_true rfl) dX8_init_12 (fun H locs w => ?_)
  have w : Wd D A s H locs (o + 3) ad12 (va_up cl13 (o) (.inr (8, [.ref (q1), .null]))) := w
  generalize e20 : va_up cl13 (o) (.inr (8, [.ref (q1), .null])) = cl19 at w
  have g21 : ∀ k, k ≠ o → cl19 k = cl13 k := fun k hk => by rw [← e20, va_up_ne _ _ hk]
  have c22 : cl19 (o) = .inr (8, [.ref (q1), .null]) := by rw [← e20, va_up_self]
  have fc : ∀ k, k < o → cl19 k = cl k := fun k hk => (g21 (k) (by omega)).trans (fc k hk)
  refine lv_aload_n hx hb dX8_init_15 rfl (lv_at hl 0 rfl) ?_
  refine g_new X w kc5 k_RX8_9 wt_5 wi_5 bl_5 (Nat.le_of_ble_eq_true rfl) (Nat.le_of_ble_eq_true rfl) dX8_init_16 (fun q23 H w => ?_)
  generalize e26 : va_up ad12 (o + 3) q23 = ad24 at w
  generalize e27 : va_up cl19 (o + 3) (.inr (5, [.null, .int 0])) = cl25 at w
  have g28 : ∀ k, k < o + 3 → ad24 k = ad12 k := fun k hk => by rw [← e26, va_up_ne _ _ (by omega)]
  have g29 : ∀ k, k < o + 3 → cl25 k = cl19 k := fun k hk => by rw [← e27, va_up_ne _ _ (by omega)]
  have a30 : ad24 (o) = ad (o) := (g28 (o) (by omega)).trans a17
  have c31 : cl25 (o) = .inr (8, [.ref (q1), .null]) := (g29 (o) (by omega)).trans c22
  have fa : ∀ k, k < o + 1 → ad24 k = ad k := fun k hk => (g28 (k) (by omega)).trans (fa k hk)
  have fc : ∀ k, k < o → cl25 k = cl k := fun k hk => (g29 (k) (by omega)).trans (fc k hk)
  have a32 : ad24 (o + 3) = q23 := by rw [← e26, va_up_self]
  have c33 : cl25 (o + 3) = .inr (5, [.null, .int 0]) := by rw [← e27, va_up_self]
  refine lv_dup hx hb dX8_init_19 rfl ?_
  refine c_init (As := []) (rest := [.ref (q23), .ref (ad (o))]) X w (cn_5 l D G t (o + 4) ad24 cl25 (o + 3) rfl c33 (d - 1) (by omega)) YX5_init k_RX8_11 (by rw [a32]) rfl rfl hl.1 (rm_call (by omega) (by decide)) (Nat.le_of_ble_eq_true rfl) dX8_init_20 (⟨Nat.le_of_ble_eq_true rfl, Nat.le_of_ble_eq_true rfl⟩) (fun u H locs hp w => ?_)
  obtain ⟨ad34, cl35, rfl, g36, g37, b38⟩ := hp
  have w : Wd D A s H locs (o + 5) ad34 cl35 := w
  have b38 : Blk cl35 (o + 3) (bX5 G ad34 (o + 3)) := b38
  have a39 : ad34 (o) = ad (o) := (g36 (o) (by omega)).trans a30
  have c40 : cl35 (o) = .inr (8, [.ref (q1), .null]) := (g37 (o) (by omega)).trans c31
  have fa : ∀ k, k < o + 1 → ad34 k = ad k := fun k hk => (g36 (k) (by omega)).trans (fa k hk)
  have fc : ∀ k, k < o → cl35 k = cl k := fun k hk => (g37 (k) (by omega)).trans (fc k hk)
  refine g_putF X w (o) a39 (by omega) c40 kc8 1 (by decide) rfl rfl k_RX8_18 rfl hin rfl rfl (Nat.le_of_ble_eq_true rfl) dX8_init_23 (fun H locs w => ?_)
  have w : Wd D A s H locs (o + 5) ad34 (va_up cl35 (o) (.inr (8, [.ref (q1), .ref (q23)]))) := w
  generalize e42 : va_up cl35 (o) (.inr (8, [.ref (q1), .ref (q23)])) = cl41 at w
  have g43 : ∀ k, k ≠ o → cl41 k = cl35 k := fun k hk => by rw [← e42, va_up_ne _ _ hk]
  have c44 : cl41 (o) = .inr (8, [.ref (q1), .ref (q23)]) := by rw [← e42, va_up_self]
  have fc : ∀ k, k < o → cl41 k = cl k := fun k hk => (g43 (k) (by omega)).trans (fc k hk)
  have FA6 : ∀ k, k < o + 5 → ad34 k = ad34 k := fun _ _ => rfl
  have FC6 : ∀ k, k ≠ o → k ≠ o → k < o + 5 → cl41 k = cl41 k := fun _ _ _ _ => rfl
  have FA5 : ∀ k, k < o + 5 → ad34 k = ad34 k := fun k hk => FA6 k (by omega)
  have FC5 : ∀ k, k ≠ o → k ≠ o → k < o + 5 → cl41 k = cl35 k := fun k h0 h9 hk => (FC6 k h0 h9 (by omega)).trans (g43 k h0)
  have FA4 : ∀ k, k < o + 4 → ad34 k = ad24 k := fun k hk => (FA5 k (by omega)).trans (g36 k (by omega))
  have FC4 : ∀ k, k ≠ o → k ≠ o → k < o + 3 → cl41 k = cl25 k := fun k h0 h9 hk => (FC5 k h0 h9 (by omega)).trans (g37 k (by omega))
  have FA3 : ∀ k, k < o + 3 → ad34 k = ad12 k := fun k hk => (FA4 k (by omega)).trans (g28 k (by omega))
  have FC3 : ∀ k, k ≠ o → k ≠ o → k < o + 3 → cl41 k = cl19 k := fun k h0 h9 hk => (FC4 k h0 h9 (by omega)).trans (g29 k (by omega))
  have FA2 : ∀ k, k < o + 3 → ad34 k = ad12 k := fun k hk => FA3 k (by omega)
  have FC2 : ∀ k, k ≠ o → k ≠ o → k < o + 3 → cl41 k = cl13 k := fun k h0 h9 hk => (FC3 k h0 h9 (by omega)).trans (g21 k h0)
  have FA1 : ∀ k, k < o + 2 → ad34 k = ad2 k := fun k hk => (FA2 k (by omega)).trans (g14 k (by omega))
  have FC1 : ∀ k, k ≠ o → k ≠ o → k < o + 1 → cl41 k = cl3 k := fun k h0 h9 hk => (FC2 k h0 h9 (by omega)).trans (g15 k (by omega))
  have FA0 : ∀ k, k < o + 1 → ad34 k = ad k := fun k hk => (FA1 k (by omega)).trans (g6 k (by omega))
  have FC0 : ∀ k, k ≠ o → k ≠ o → k < o + 1 → cl41 k = cl k := fun k h0 h9 hk => (FC1 k h0 h9 (by omega)).trans (g7 k (by omega))
  have b45 : Blk cl41 (o + 1) (bX5 G ad34 (o + 1)) := by rw [cg5 (n := 2) (Nat.le_refl _) (fun k h1 h2 => FA2 k (by omega))]; exact b16.tr (n := 2) (Nat.le_of_eq ln5) (fun k h1 h2 => FC2 k (by omega) (by omega) (by omega))
  have b46 : Blk cl41 (o + 3) (bX5 G ad34 (o + 3)) := by rw [cg5 (n := 2) (Nat.le_refl _) (fun k h1 h2 => FA5 k (by omega))]; exact b38.tr (n := 2) (Nat.le_of_eq ln5) (fun k h1 h2 => FC5 k (by omega) (by omega) (by omega))
  have z47 : ad34 (o + 1) = q1 := (FA1 (o + 1) (by omega)).trans a10
  have z48 : ad34 (o + 3) = q23 := (FA4 (o + 3) (by omega)).trans a32
  refine e_V X hr w ⟨ad34, cl41, rfl, fa, fc, ?_⟩ (Nat.le_of_ble_eq_true rfl) (Nat.le_of_ble_eq_true rfl) dX8_init_26
  refine Blk.cons ?_ (b45.app (by rw [ln5]) (b46))
  rw [c44, z47, z48]
abbrev cX4_init : ByteArray := prog_6_method_1_code
def yX4_init : MethodName := ⟨RX4, "<init>", "()V"⟩
theorem wcX4_init : Cond.code yX4_init cX4_init 1 none ∈ tb := tb_1 (i := 63) rfl rfl
theorem wi_4 : Cond.initialized RX4 ∈ tb := tb_1 (i := 3) (by decide +kernel) rfl
theorem wnX4_init : Cond.instanceMethod yX4_init ∈ tb := tb_1 (i := 62) (by decide +kernel) rfl
theorem YX4_init : Yi yX4_init cX4_init 1 0 := ⟨wcX4_init, wnX4_init, wi_4, rfl, by decide +kernel, by decide +kernel, by decide +kernel⟩
theorem dX4_init_0 : decode cX4_init 0 = .ok (.aload_n 0, 1) := by decide +kernel
theorem dX4_init_1 : decode cX4_init 1 = .ok (.invokespecial 3, 3) := by decide +kernel
theorem dX4_init_4 : decode cX4_init 4 = .ok (.return_, 1) := by decide +kernel
theorem k_RX4_3 : Cond.methodLink RX4 3 ⟨"java/lang/Object", "<init>", "()V"⟩ ∈ tb := tb_1 (i := 64) (by decide +kernel) rfl
def bX4 (G : Nat → ClassId) (ad : Nat → Nat) (b : Nat) : List va_E := (.inr (4, [.int (0), .int (0), .int (0)])) :: ([])
theorem cg4 {G : Nat → ClassId} {ad ad' : Nat → Nat} {b n : Nat} (hn : 1 ≤ n) (h : ∀ k, k < b + n → b ≤ k → ad' k = ad k) : bX4 G ad' b = bX4 G ad b := by
  rfl
theorem ln4 {G : Nat → ClassId} {ad : Nat → Nat} {b : Nat} : (bX4 G ad b).length = 1 := by
  rfl
set_option maxHeartbeats 4000000 in
set_option maxRecDepth 100000 in
theorem cn_4 (l : Launch) (D : va_G) (G : Nat → ClassId) (t : Nat → Nat) (N : Nat) (ad : Nat → Nat) (cl : Nat → va_E) (o : Nat) (hiN : o + 1 = N) (hc0 : cl o = .inr (4, [.int 0, .int 0, .int 0])) (d : Nat) (hd : 1 ≤ d) : CtV l yX4_init cX4_init 1 (rmD d 0 0) D G t (N, ad, cl) [.ref (ad o)] (fun u => ∃ ad' cl', u = (o + 1, ad', cl') ∧ (∀ k, k < o + 1 → ad' k = ad k) ∧ (∀ k, k < o → cl' k = cl k) ∧ Blk cl' o (bX4 G ad' o)) := by
  subst hiN
  refine ct_V (own := RX4) (by decide +kernel) rfl (Nat.le_of_ble_eq_true rfl) rfl ?_
  intro p e s m args below meth c A ls X hr hin hl w
  obtain ⟨hx, hb, hml, hown, hts, -⟩ := id X
  have hl : lv_has ls 1 [(0, .ref (ad (o)))] := hl
  have fa : ∀ k, k < o + 1 → ad k = ad k := fun _ _ => rfl
  have fc : ∀ k, k < o → cl k = cl k := fun _ _ => rfl
  refine lv_aload_n hx hb dX4_init_0 rfl (lv_at hl 0 rfl) ?_
  refine g_oinit X hl.1 k_RX4_3 dX4_init_1 (by decide) ⟨by show 1 ≤ d; omega, rm_loc (by omega) (by decide)⟩ ?_
  have FA0 : ∀ k, k < o + 1 → ad k = ad k := fun _ _ => rfl
  have FC0 : ∀ k, k ≠ o → k ≠ o → k < o + 1 → cl k = cl k := fun _ _ _ _ => rfl
  refine e_V X hr w ⟨ad, cl, rfl, fa, fc, ?_⟩ (Nat.le_of_ble_eq_true rfl) (Nat.le_of_ble_eq_true rfl) dX4_init_4
  refine Blk.cons ?_ (Blk.nil)
  rw [hc0]
abbrev cX2_init : ByteArray := prog_4_method_1_code
def yX2_init : MethodName := ⟨RX2, "<init>", "()V"⟩
theorem wcX2_init : Cond.code yX2_init cX2_init 1 none ∈ tb := tb_1 (i := 153) rfl rfl
theorem wi_2 : Cond.initialized RX2 ∈ tb := tb_1 (i := 7) (by decide +kernel) rfl
theorem wnX2_init : Cond.instanceMethod yX2_init ∈ tb := tb_1 (i := 152) (by decide +kernel) rfl
theorem YX2_init : Yi yX2_init cX2_init 1 0 := ⟨wcX2_init, wnX2_init, wi_2, rfl, by decide +kernel, by decide +kernel, by decide +kernel⟩
theorem dX2_init_0 : decode cX2_init 0 = .ok (.aload_n 0, 1) := by decide +kernel
theorem dX2_init_1 : decode cX2_init 1 = .ok (.invokespecial 3, 3) := by decide +kernel
theorem dX2_init_4 : decode cX2_init 4 = .ok (.aload_n 0, 1) := by decide +kernel
theorem dX2_init_5 : decode cX2_init 5 = .ok (.new 9, 3) := by decide +kernel
theorem dX2_init_8 : decode cX2_init 8 = .ok (.dup, 1) := by decide +kernel
theorem dX2_init_9 : decode cX2_init 9 = .ok (.invokespecial 11, 3) := by decide +kernel
theorem dX2_init_12 : decode cX2_init 12 = .ok (.putfield 12, 3) := by decide +kernel
theorem dX2_init_15 : decode cX2_init 15 = .ok (.aload_n 0, 1) := by decide +kernel
theorem dX2_init_16 : decode cX2_init 16 = .ok (.new 9, 3) := by decide +kernel
theorem dX2_init_19 : decode cX2_init 19 = .ok (.dup, 1) := by decide +kernel
theorem dX2_init_20 : decode cX2_init 20 = .ok (.invokespecial 11, 3) := by decide +kernel
theorem dX2_init_23 : decode cX2_init 23 = .ok (.putfield 18, 3) := by decide +kernel
theorem dX2_init_26 : decode cX2_init 26 = .ok (.aload_n 0, 1) := by decide +kernel
theorem dX2_init_27 : decode cX2_init 27 = .ok (.new 21, 3) := by decide +kernel
theorem dX2_init_30 : decode cX2_init 30 = .ok (.dup, 1) := by decide +kernel
theorem dX2_init_31 : decode cX2_init 31 = .ok (.invokespecial 23, 3) := by decide +kernel
theorem dX2_init_34 : decode cX2_init 34 = .ok (.putfield 24, 3) := by decide +kernel
theorem dX2_init_37 : decode cX2_init 37 = .ok (.aload_n 0, 1) := by decide +kernel
theorem dX2_init_38 : decode cX2_init 38 = .ok (.new 9, 3) := by decide +kernel
theorem dX2_init_41 : decode cX2_init 41 = .ok (.dup, 1) := by decide +kernel
theorem dX2_init_42 : decode cX2_init 42 = .ok (.invokespecial 11, 3) := by decide +kernel
theorem dX2_init_45 : decode cX2_init 45 = .ok (.putfield 28, 3) := by decide +kernel
theorem dX2_init_48 : decode cX2_init 48 = .ok (.aload_n 0, 1) := by decide +kernel
theorem dX2_init_49 : decode cX2_init 49 = .ok (.new 21, 3) := by decide +kernel
theorem dX2_init_52 : decode cX2_init 52 = .ok (.dup, 1) := by decide +kernel
theorem dX2_init_53 : decode cX2_init 53 = .ok (.invokespecial 23, 3) := by decide +kernel
theorem dX2_init_56 : decode cX2_init 56 = .ok (.putfield 31, 3) := by decide +kernel
theorem dX2_init_59 : decode cX2_init 59 = .ok (.aload_n 0, 1) := by decide +kernel
theorem dX2_init_60 : decode cX2_init 60 = .ok (.new 21, 3) := by decide +kernel
theorem dX2_init_63 : decode cX2_init 63 = .ok (.dup, 1) := by decide +kernel
theorem dX2_init_64 : decode cX2_init 64 = .ok (.invokespecial 23, 3) := by decide +kernel
theorem dX2_init_67 : decode cX2_init 67 = .ok (.putfield 34, 3) := by decide +kernel
theorem dX2_init_70 : decode cX2_init 70 = .ok (.aload_n 0, 1) := by decide +kernel
theorem dX2_init_71 : decode cX2_init 71 = .ok (.new 21, 3) := by decide +kernel
theorem dX2_init_74 : decode cX2_init 74 = .ok (.dup, 1) := by decide +kernel
theorem dX2_init_75 : decode cX2_init 75 = .ok (.invokespecial 23, 3) := by decide +kernel
theorem dX2_init_78 : decode cX2_init 78 = .ok (.putfield 37, 3) := by decide +kernel
theorem dX2_init_81 : decode cX2_init 81 = .ok (.aload_n 0, 1) := by decide +kernel
theorem dX2_init_82 : decode cX2_init 82 = .ok (.new 9, 3) := by decide +kernel
theorem dX2_init_85 : decode cX2_init 85 = .ok (.dup, 1) := by decide +kernel
theorem dX2_init_86 : decode cX2_init 86 = .ok (.invokespecial 11, 3) := by decide +kernel
theorem dX2_init_89 : decode cX2_init 89 = .ok (.putfield 40, 3) := by decide +kernel
theorem dX2_init_92 : decode cX2_init 92 = .ok (.aload_n 0, 1) := by decide +kernel
theorem dX2_init_93 : decode cX2_init 93 = .ok (.new 21, 3) := by decide +kernel
theorem dX2_init_96 : decode cX2_init 96 = .ok (.dup, 1) := by decide +kernel
theorem dX2_init_97 : decode cX2_init 97 = .ok (.invokespecial 23, 3) := by decide +kernel
theorem dX2_init_100 : decode cX2_init 100 = .ok (.putfield 43, 3) := by decide +kernel
theorem dX2_init_103 : decode cX2_init 103 = .ok (.aload_n 0, 1) := by decide +kernel
theorem dX2_init_104 : decode cX2_init 104 = .ok (.new 21, 3) := by decide +kernel
theorem dX2_init_107 : decode cX2_init 107 = .ok (.dup, 1) := by decide +kernel
theorem dX2_init_108 : decode cX2_init 108 = .ok (.invokespecial 23, 3) := by decide +kernel
theorem dX2_init_111 : decode cX2_init 111 = .ok (.putfield 46, 3) := by decide +kernel
theorem dX2_init_114 : decode cX2_init 114 = .ok (.aload_n 0, 1) := by decide +kernel
theorem dX2_init_115 : decode cX2_init 115 = .ok (.new 21, 3) := by decide +kernel
theorem dX2_init_118 : decode cX2_init 118 = .ok (.dup, 1) := by decide +kernel
theorem dX2_init_119 : decode cX2_init 119 = .ok (.invokespecial 23, 3) := by decide +kernel
theorem dX2_init_122 : decode cX2_init 122 = .ok (.putfield 49, 3) := by decide +kernel
theorem dX2_init_125 : decode cX2_init 125 = .ok (.aload_n 0, 1) := by decide +kernel
theorem dX2_init_126 : decode cX2_init 126 = .ok (.new 21, 3) := by decide +kernel
theorem dX2_init_129 : decode cX2_init 129 = .ok (.dup, 1) := by decide +kernel
theorem dX2_init_130 : decode cX2_init 130 = .ok (.invokespecial 23, 3) := by decide +kernel
theorem dX2_init_133 : decode cX2_init 133 = .ok (.putfield 52, 3) := by decide +kernel
theorem dX2_init_136 : decode cX2_init 136 = .ok (.return_, 1) := by decide +kernel
theorem k_RX2_3 : Cond.methodLink RX2 3 ⟨"java/lang/Object", "<init>", "()V"⟩ ∈ tb := tb_1 (i := 154) (by decide +kernel) rfl
theorem k_RX2_9 : Cond.classLink RX2 9 RX8 ∈ tb := tb_1 (i := 155) (by decide +kernel) rfl
theorem wt_8 : Cond.instantiable RX8 2 ∈ tb := tb_1 (i := 90) (by decide +kernel) rfl
theorem bl_8 : ∀ j, j < 2 → defaultValue (tyX8 j) = vp_V [.null, .null] j := by decide +kernel
theorem k_RX2_11 : Cond.methodLink RX2 11 yX8_init ∈ tb := tb_1 (i := 156) (by decide +kernel) rfl
theorem k_RX2_12 : Cond.fieldLink RX2 12 RX2 "labels" "LTypeRoom$Shelf;" ∈ tb := tb_1 (i := 159) (by decide +kernel) rfl
theorem k_RX2_18 : Cond.fieldLink RX2 18 RX2 "refs" "LTypeRoom$Shelf;" ∈ tb := tb_1 (i := 164) (by decide +kernel) rfl
theorem k_RX2_21 : Cond.classLink RX2 21 RX5 ∈ tb := tb_1 (i := 157) (by decide +kernel) rfl
theorem k_RX2_23 : Cond.methodLink RX2 23 yX5_init ∈ tb := tb_1 (i := 158) (by decide +kernel) rfl
theorem k_RX2_24 : Cond.fieldLink RX2 24 RX2 "labelAt" "LTypeRoom$Row;" ∈ tb := tb_1 (i := 167) (by decide +kernel) rfl
theorem k_RX2_28 : Cond.fieldLink RX2 28 RX2 "titles" "LTypeRoom$Shelf;" ∈ tb := tb_1 (i := 171) (by decide +kernel) rfl
theorem k_RX2_31 : Cond.fieldLink RX2 31 RX2 "levels" "LTypeRoom$Row;" ∈ tb := tb_1 (i := 174) (by decide +kernel) rfl
theorem k_RX2_34 : Cond.fieldLink RX2 34 RX2 "headAt" "LTypeRoom$Row;" ∈ tb := tb_1 (i := 177) (by decide +kernel) rfl
theorem k_RX2_37 : Cond.fieldLink RX2 37 RX2 "headLines" "LTypeRoom$Row;" ∈ tb := tb_1 (i := 179) (by decide +kernel) rfl
theorem k_RX2_40 : Cond.fieldLink RX2 40 RX2 "keys" "LTypeRoom$Shelf;" ∈ tb := tb_1 (i := 182) (by decide +kernel) rfl
theorem k_RX2_43 : Cond.fieldLink RX2 43 RX2 "keyAt" "LTypeRoom$Row;" ∈ tb := tb_1 (i := 185) (by decide +kernel) rfl
theorem k_RX2_46 : Cond.fieldLink RX2 46 RX2 "pages" "LTypeRoom$Row;" ∈ tb := tb_1 (i := 188) (by decide +kernel) rfl
theorem k_RX2_49 : Cond.fieldLink RX2 49 RX2 "entry" "LTypeRoom$Row;" ∈ tb := tb_1 (i := 189) (by decide +kernel) rfl
theorem k_RX2_52 : Cond.fieldLink RX2 52 RX2 "latest" "LTypeRoom$Row;" ∈ tb := tb_1 (i := 190) (by decide +kernel) rfl
def bX2 (G : Nat → ClassId) (ad : Nat → Nat) (b : Nat) : List va_E := (.inr (2, [.ref (ad (b + 1)), .ref (ad (b + 6)), .ref (ad (b + 11)), .ref (ad (b + 13)), .ref (ad (b + 18)), .ref (ad (b + 20)), .ref (ad (b + 22)), .ref (ad (b + 24)), .ref (ad (b + 29)), .ref (ad (b + 31)), .ref (ad (b + 33)), .ref (ad (b + 35)), .int (0), .int (0), .int (0), .int (0)])) :: (bX8 G ad (b + 1) ++ (bX8 G ad (b + 6) ++ (bX5 G ad (b + 11) ++ (bX8 G ad (b + 13) ++ (bX5 G ad (b + 18) ++ (bX5 G ad (b + 20) ++ (bX5 G ad (b + 22) ++ (bX8 G ad (b + 24) ++ (bX5 G ad (b + 29) ++ (bX5 G ad (b + 31) ++ (bX5 G ad (b + 33) ++ (bX5 G ad (b + 35)))))))))))))
theorem cg2 {G : Nat → ClassId} {ad ad' : Nat → Nat} {b n : Nat} (hn : 37 ≤ n) (h : ∀ k, k < b + n → b ≤ k → ad' k = ad k) : bX2 G ad' b = bX2 G ad b := by
  simp only [bX2, h (b + 1) (by omega) (by omega), h (b + 6) (by omega) (by omega), h (b + 11) (by omega) (by omega), h (b + 13) (by omega) (by omega), h (b + 18) (by omega) (by omega), h (b + 20) (by omega) (by omega), h (b + 22) (by omega) (by omega), h (b + 24) (by omega) (by omega), h (b + 29) (by omega) (by omega), h (b + 31) (by omega) (by omega), h (b + 33) (by omega) (by omega), h (b + 35) (by omega) (by omega), cg8 (b := b + 1) (n := 5) (Nat.le_refl _) (fun k h1 h2 => h k (by omega) (by omega)), cg8 (b := b + 6) (n := 5) (Nat.le_refl _) (fun k h1 h2 => h k (by omega) (by omega)), cg5 (b := b + 11) (n := 2) (Nat.le_refl _) (fun k h1 h2 => h k (by omega) (by omega)), cg8 (b := b + 13) (n := 5) (Nat.le_refl _) (fun k h1 h2 => h k (by omega) (by omega)), cg5 (b := b + 18) (n := 2) (Nat.le_refl _) (fun k h1 h2 => h k (by omega) (by omega)), cg5 (b := b + 20) (n := 2) (Nat.le_refl _) (fun k h1 h2 => h k (by omega) (by omega)), cg5 (b := b + 22) (n := 2) (Nat.le_refl _) (fun k h1 h2 => h k (by omega) (by omega)), cg8 (b := b + 24) (n := 5) (Nat.le_refl _) (fun k h1 h2 => h k (by omega) (by omega)), cg5 (b := b + 29) (n := 2) (Nat.le_refl _) (fun k h1 h2 => h k (by omega) (by omega)), cg5 (b := b + 31) (n := 2) (Nat.le_refl _) (fun k h1 h2 => h k (by omega) (by omega)), cg5 (b := b + 33) (n := 2) (Nat.le_refl _) (fun k h1 h2 => h k (by omega) (by omega)), cg5 (b := b + 35) (n := 2) (Nat.le_refl _) (fun k h1 h2 => h k (by omega) (by omega))]
theorem ln2 {G : Nat → ClassId} {ad : Nat → Nat} {b : Nat} : (bX2 G ad b).length = 37 := by
  simp only [bX2, List.length_cons, List.length_append, List.length_nil, ln5, ln8]
set_option maxHeartbeats 4000000 in
set_option maxRecDepth 100000 in
theorem cn_2 (l : Launch) (D : va_G) (G : Nat → ClassId) (t : Nat → Nat) (N : Nat) (ad : Nat → Nat) (cl : Nat → va_E) (o : Nat) (hiN : o + 1 = N) (hc0 : cl o = .inr (2, [.null, .null, .null, .null, .null, .null, .null, .null, .null, .null, .null, .null, .int 0, .int 0, .int 0, .int 0])) (d : Nat) (hd : 3 ≤ d) : CtV l yX2_init cX2_init 1 (rmD d 36 296) D G t (N, ad, cl) [.ref (ad o)] (fun u => ∃ ad' cl', u = (o + 37, ad', cl') ∧ (∀ k, k < o + 1 → ad' k = ad k) ∧ (∀ k, k < o → cl' k = cl k) ∧ Blk cl' o (bX2 G ad' o)) := by
  subst hiN
  refine ct_V (own := RX2) (by decide +kernel) rfl (Nat.le_of_ble_eq_true rfl) rfl ?_
  intro p e s m args below meth c A ls X hr hin hl w
  obtain ⟨hx, hb, hml, hown, hts, -⟩ := id X
  have hl : lv_has ls 1 [(0, .ref (ad (o)))] := hl
  have fa : ∀ k, k < o + 1 → ad k = ad k := fun _ _ => rfl
  have fc : ∀ k, k < o → cl k = cl k := fun _ _ => rfl
  refine lv_aload_n hx hb dX2_init_0 rfl (lv_at hl 0 rfl) ?_
  refine g_oinit X hl.1 k_RX2_3 dX2_init_1 (by decide) ⟨by show 1 ≤ d; omega, rm_loc (by omega) (by decide)⟩ ?_
  refine lv_aload_n hx hb dX2_init_4 rfl (lv_at hl 0 rfl) ?_
  refine g_new X w kc8 k_RX2_9 wt_8 wi_8 bl_8 (Nat.le_of_ble_eq_true rfl) (Nat.le_of_ble_eq_true rfl) dX2_init_5 (fun q1 H w => ?_)
  generalize e4 : va_up ad (o + 1) q1 = ad2 at w
  generalize e5 : va_up cl (o + 1) (.inr (8, [.null, .null])) = cl3 at w
  have g6 : ∀ k, k < o + 1 → ad2 k = ad k := fun k hk => by rw [← e4, va_up_ne _ _ (by omega)]
  have g7 : ∀ k, k < o + 1 → cl3 k = cl k := fun k hk => by rw [← e5, va_up_ne _ _ (by omega)]
  have a8 : ad2 (o) = ad (o) := g6 (o) (by omega)
  have c9 : cl3 (o) = .inr (2, [.null, .null, .null, .null, .null, .null, .null, .null, .null, .null, .null, .null, .int (0), .int (0), .int (0), .int (0)]) := (g7 (o) (by omega)).trans hc0
  have fa : ∀ k, k < o + 1 → ad2 k = ad k := fun k hk => (g6 (k) (by omega)).trans (fa k hk)
  have fc : ∀ k, k < o → cl3 k = cl k := fun k hk => (g7 (k) (by omega)).trans (fc k hk)
  have a10 : ad2 (o + 1) = q1 := by rw [← e4, va_up_self]
  have c11 : cl3 (o + 1) = .inr (8, [.null, .null]) := by rw [← e5, va_up_self]
  refine lv_dup hx hb dX2_init_8 rfl ?_
  refine c_init (As := []) (rest := [.ref (q1), .ref (ad (o))]) X w (cn_8 l D G t (o + 2) ad2 cl3 (o + 1) rfl c11 (d - 1) (by omega)) YX8_init k_RX2_11 (by rw [a10]) rfl rfl hl.1 (rm_call (by omega) (by decide)) (Nat.le_of_ble_eq_true rfl) dX2_init_9 (⟨Nat.le_of_ble_eq_true rfl, Nat.le_of_ble_eq_true rfl⟩) (fun u H locs hp w => ?_)
  obtain ⟨ad12, cl13, rfl, g14, g15, b16⟩ := hp
  have w : Wd D A s H locs (o + 6) ad12 cl13 := w
  have b16 : Blk cl13 (o + 1) (bX8 G ad12 (o + 1)) := b16
  have a17 : ad12 (o) = ad (o) := (g14 (o) (by omega)).trans a8
  have c18 : cl13 (o) = .inr (2, [.null, .null, .null, .null, .null, .null, .null, .null, .null, .null, .null, .null, .int (0), .int (0), .int (0), .int (0)]) := (g15 (o) (by omega)).trans c9
  have fa : ∀ k, k < o + 1 → ad12 k = ad k := fun k hk => (g14 (k) (by omega)).trans (fa k hk)
  have fc : ∀ k, k < o → cl13 k = cl k := fun k hk => (g15 (k) (by omega)).trans (fc k hk)
  refine g_putF X w (o) a17 (by omega) c18 kc2 0 (by decide) rfl rfl k_RX2_12 rfl hin rfl rfl (Nat.le_of_ble_eq_true rfl) dX2_init_12 (fun H locs w => ?_)
  have w : Wd D A s H locs (o + 6) ad12 (va_up cl13 (o) (.inr (2, [.ref (q1), .null, .null, .null, .null, .null, .null, .null, .null, .null, .null, .null, .int (0), .int (0), .int (0), .int (0)]))) := w
  generalize e20 : va_up cl13 (o) (.inr (2, [.ref (q1), .null, .null, .null, .null, .null, .null, .null, .null, .null, .null, .null, .int (0), .int (0), .int (0), .int (0)])) = cl19 at w
  have g21 : ∀ k, k ≠ o → cl19 k = cl13 k := fun k hk => by rw [← e20, va_up_ne _ _ hk]
  have c22 : cl19 (o) = .inr (2, [.ref (q1), .null, .null, .null, .null, .null, .null, .null, .null, .null, .null, .null, .int (0), .int (0), .int (0), .int (0)]) := by rw [← e20, va_up_self]
  have fc : ∀ k, k < o → cl19 k = cl k := fun k hk => (g21 (k) (by omega)).trans (fc k hk)
  refine lv_aload_n hx hb dX2_init_15 rfl (lv_at hl 0 rfl) ?_
  refine g_new X w kc8 k_RX2_9 wt_8 wi_8 bl_8 (Nat.le_of_ble_eq_true rfl) (Nat.le_of_ble_eq_true rfl) dX2_init_16 (fun q23 H w => ?_)
  generalize e26 : va_up ad12 (o + 6) q23 = ad24 at w
  generalize e27 : va_up cl19 (o + 6) (.inr (8, [.null, .null])) = cl25 at w
  have g28 : ∀ k, k < o + 6 → ad24 k = ad12 k := fun k hk => by rw [← e26, va_up_ne _ _ (by omega)]
  have g29 : ∀ k, k < o + 6 → cl25 k = cl19 k := fun k hk => by rw [← e27, va_up_ne _ _ (by omega)]
  have a30 : ad24 (o) = ad (o) := (g28 (o) (by omega)).trans a17
  have c31 : cl25 (o) = .inr (2, [.ref (q1), .null, .null, .null, .null, .null, .null, .null, .null, .null, .null, .null, .int (0), .int (0), .int (0), .int (0)]) := (g29 (o) (by omega)).trans c22
  have fa : ∀ k, k < o + 1 → ad24 k = ad k := fun k hk => (g28 (k) (by omega)).trans (fa k hk)
  have fc : ∀ k, k < o → cl25 k = cl k := fun k hk => (g29 (k) (by omega)).trans (fc k hk)
  have a32 : ad24 (o + 6) = q23 := by rw [← e26, va_up_self]
  have c33 : cl25 (o + 6) = .inr (8, [.null, .null]) := by rw [← e27, va_up_self]
  refine lv_dup hx hb dX2_init_19 rfl ?_
  refine c_init (As := []) (rest := [.ref (q23), .ref (ad (o))]) X w (cn_8 l D G t (o + 7) ad24 cl25 (o + 6) rfl c33 (d - 1) (by omega)) YX8_init k_RX2_11 (by rw [a32]) rfl rfl hl.1 (rm_call (by omega) (by decide)) (Nat.le_of_ble_eq_true rfl) dX2_init_20 (⟨Nat.le_of_ble_eq_true rfl, Nat.le_of_ble_eq_true rfl⟩) (fun u H locs hp w => ?_)
  obtain ⟨ad34, cl35, rfl, g36, g37, b38⟩ := hp
  have w : Wd D A s H locs (o + 11) ad34 cl35 := w
  have b38 : Blk cl35 (o + 6) (bX8 G ad34 (o + 6)) := b38
  have a39 : ad34 (o) = ad (o) := (g36 (o) (by omega)).trans a30
  have c40 : cl35 (o) = .inr (2, [.ref (q1), .null, .null, .null, .null, .null, .null, .null, .null, .null, .null, .null, .int (0), .int (0), .int (0), .int (0)]) := (g37 (o) (by omega)).trans c31
  have fa : ∀ k, k < o + 1 → ad34 k = ad k := fun k hk => (g36 (k) (by omega)).trans (fa k hk)
  have fc : ∀ k, k < o → cl35 k = cl k := fun k hk => (g37 (k) (by omega)).trans (fc k hk)
  refine g_putF X w (o) a39 (by omega) c40 kc2 1 (by decide) rfl rfl k_RX2_18 rfl hin rfl rfl (Nat.le_of_ble_eq_true rfl) dX2_init_23 (fun H locs w => ?_)
  have w : Wd D A s H locs (o + 11) ad34 (va_up cl35 (o) (.inr (2, [.ref (q1), .ref (q23), .null, .null, .null, .null, .null, .null, .null, .null, .null, .null, .int (0), .int (0), .int (0), .int (0)]))) := w
  generalize e42 : va_up cl35 (o) (.inr (2, [.ref (q1), .ref (q23), .null, .null, .null, .null, .null, .null, .null, .null, .null, .null, .int (0), .int (0), .int (0), .int (0)])) = cl41 at w
  have g43 : ∀ k, k ≠ o → cl41 k = cl35 k := fun k hk => by rw [← e42, va_up_ne _ _ hk]
  have c44 : cl41 (o) = .inr (2, [.ref (q1), .ref (q23), .null, .null, .null, .null, .null, .null, .null, .null, .null, .null, .int (0), .int (0), .int (0), .int (0)]) := by rw [← e42, va_up_self]
  have fc : ∀ k, k < o → cl41 k = cl k := fun k hk => (g43 (k) (by omega)).trans (fc k hk)
  refine lv_aload_n hx hb dX2_init_26 rfl (lv_at hl 0 rfl) ?_
  refine g_new X w kc5 k_RX2_21 wt_5 wi_5 bl_5 (Nat.le_of_ble_eq_true rfl) (Nat.le_of_ble_eq_true rfl) dX2_init_27 (fun q45 H w => ?_)
  generalize e48 : va_up ad34 (o + 11) q45 = ad46 at w
  generalize e49 : va_up cl41 (o + 11) (.inr (5, [.null, .int 0])) = cl47 at w
  have g50 : ∀ k, k < o + 11 → ad46 k = ad34 k := fun k hk => by rw [← e48, va_up_ne _ _ (by omega)]
  have g51 : ∀ k, k < o + 11 → cl47 k = cl41 k := fun k hk => by rw [← e49, va_up_ne _ _ (by omega)]
  have a52 : ad46 (o) = ad (o) := (g50 (o) (by omega)).trans a39
  have c53 : cl47 (o) = .inr (2, [.ref (q1), .ref (q23), .null, .null, .null, .null, .null, .null, .null, .null, .null, .null, .int (0), .int (0), .int (0), .int (0)]) := (g51 (o) (by omega)).trans c44
  have fa : ∀ k, k < o + 1 → ad46 k = ad k := fun k hk => (g50 (k) (by omega)).trans (fa k hk)
  have fc : ∀ k, k < o → cl47 k = cl k := fun k hk => (g51 (k) (by omega)).trans (fc k hk)
  have a54 : ad46 (o + 11) = q45 := by rw [← e48, va_up_self]
  have c55 : cl47 (o + 11) = .inr (5, [.null, .int 0]) := by rw [← e49, va_up_self]
  refine lv_dup hx hb dX2_init_30 rfl ?_
  refine c_init (As := []) (rest := [.ref (q45), .ref (ad (o))]) X w (cn_5 l D G t (o + 12) ad46 cl47 (o + 11) rfl c55 (d - 1) (by omega)) YX5_init k_RX2_23 (by rw [a54]) rfl rfl hl.1 (rm_call (by omega) (by decide)) (Nat.le_of_ble_eq_true rfl) dX2_init_31 (⟨Nat.le_of_ble_eq_true rfl, Nat.le_of_ble_eq_true rfl⟩) (fun u H locs hp w => ?_)
  obtain ⟨ad56, cl57, rfl, g58, g59, b60⟩ := hp
  have w : Wd D A s H locs (o + 13) ad56 cl57 := w
  have b60 : Blk cl57 (o + 11) (bX5 G ad56 (o + 11)) := b60
  have a61 : ad56 (o) = ad (o) := (g58 (o) (by omega)).trans a52
  have c62 : cl57 (o) = .inr (2, [.ref (q1), .ref (q23), .null, .null, .null, .null, .null, .null, .null, .null, .null, .null, .int (0), .int (0), .int (0), .int (0)]) := (g59 (o) (by omega)).trans c53
  have fa : ∀ k, k < o + 1 → ad56 k = ad k := fun k hk => (g58 (k) (by omega)).trans (fa k hk)
  have fc : ∀ k, k < o → cl57 k = cl k := fun k hk => (g59 (k) (by omega)).trans (fc k hk)
  refine g_putF X w (o) a61 (by omega) c62 kc2 2 (by decide) rfl rfl k_RX2_24 rfl hin rfl rfl (Nat.le_of_ble_eq_true rfl) dX2_init_34 (fun H locs w => ?_)
  have w : Wd D A s H locs (o + 13) ad56 (va_up cl57 (o) (.inr (2, [.ref (q1), .ref (q23), .ref (q45), .null, .null, .null, .null, .null, .null, .null, .null, .null, .int (0), .int (0), .int (0), .int (0)]))) := w
  generalize e64 : va_up cl57 (o) (.inr (2, [.ref (q1), .ref (q23), .ref (q45), .null, .null, .null, .null, .null, .null, .null, .null, .null, .int (0), .int (0), .int (0), .int (0)])) = cl63 at w
  have g65 : ∀ k, k ≠ o → cl63 k = cl57 k := fun k hk => by rw [← e64, va_up_ne _ _ hk]
  have c66 : cl63 (o) = .inr (2, [.ref (q1), .ref (q23), .ref (q45), .null, .null, .null, .null, .null, .null, .null, .null, .null, .int (0), .int (0), .int (0), .int (0)]) := by rw [← e64, va_up_self]
  have fc : ∀ k, k < o → cl63 k = cl k := fun k hk => (g65 (k) (by omega)).trans (fc k hk)
  refine lv_aload_n hx hb dX2_init_37 rfl (lv_at hl 0 rfl) ?_
  refine g_new X w kc8 k_RX2_9 wt_8 wi_8 bl_8 (Nat.le_of_ble_eq_true rfl) (Nat.le_of_ble_eq_true rfl) dX2_init_38 (fun q67 H w => ?_)
  generalize e70 : va_up ad56 (o + 13) q67 = ad68 at w
  generalize e71 : va_up cl63 (o + 13) (.inr (8, [.null, .null])) = cl69 at w
  have g72 : ∀ k, k < o + 13 → ad68 k = ad56 k := fun k hk => by rw [← e70, va_up_ne _ _ (by omega)]
  have g73 : ∀ k, k < o + 13 → cl69 k = cl63 k := fun k hk => by rw [← e71, va_up_ne _ _ (by omega)]
  have a74 : ad68 (o) = ad (o) := (g72 (o) (by omega)).trans a61
  have c75 : cl69 (o) = .inr (2, [.ref (q1), .ref (q23), .ref (q45), .null, .null, .null, .null, .null, .null, .null, .null, .null, .int (0), .int (0), .int (0), .int (0)]) := (g73 (o) (by omega)).trans c66
  have fa : ∀ k, k < o + 1 → ad68 k = ad k := fun k hk => (g72 (k) (by omega)).trans (fa k hk)
  have fc : ∀ k, k < o → cl69 k = cl k := fun k hk => (g73 (k) (by omega)).trans (fc k hk)
  have a76 : ad68 (o + 13) = q67 := by rw [← e70, va_up_self]
  have c77 : cl69 (o + 13) = .inr (8, [.null, .null]) := by rw [← e71, va_up_self]
  refine lv_dup hx hb dX2_init_41 rfl ?_
  refine c_init (As := []) (rest := [.ref (q67), .ref (ad (o))]) X w (cn_8 l D G t (o + 14) ad68 cl69 (o + 13) rfl c77 (d - 1) (by omega)) YX8_init k_RX2_11 (by rw [a76]) rfl rfl hl.1 (rm_call (by omega) (by decide)) (Nat.le_of_ble_eq_true rfl) dX2_init_42 (⟨Nat.le_of_ble_eq_true rfl, Nat.le_of_ble_eq_true rfl⟩) (fun u H locs hp w => ?_)
  obtain ⟨ad78, cl79, rfl, g80, g81, b82⟩ := hp
  have w : Wd D A s H locs (o + 18) ad78 cl79 := w
  have b82 : Blk cl79 (o + 13) (bX8 G ad78 (o + 13)) := b82
  have a83 : ad78 (o) = ad (o) := (g80 (o) (by omega)).trans a74
  have c84 : cl79 (o) = .inr (2, [.ref (q1), .ref (q23), .ref (q45), .null, .null, .null, .null, .null, .null, .null, .null, .null, .int (0), .int (0), .int (0), .int (0)]) := (g81 (o) (by omega)).trans c75
  have fa : ∀ k, k < o + 1 → ad78 k = ad k := fun k hk => (g80 (k) (by omega)).trans (fa k hk)
  have fc : ∀ k, k < o → cl79 k = cl k := fun k hk => (g81 (k) (by omega)).trans (fc k hk)
  refine g_putF X w (o) a83 (by omega) c84 kc2 3 (by decide) rfl rfl k_RX2_28 rfl hin rfl rfl (Nat.le_of_ble_eq_true rfl) dX2_init_45 (fun H locs w => ?_)
  have w : Wd D A s H locs (o + 18) ad78 (va_up cl79 (o) (.inr (2, [.ref (q1), .ref (q23), .ref (q45), .ref (q67), .null, .null, .null, .null, .null, .null, .null, .null, .int (0), .int (0), .int (0), .int (0)]))) := w
  generalize e86 : va_up cl79 (o) (.inr (2, [.ref (q1), .ref (q23), .ref (q45), .ref (q67), .null, .null, .null, .null, .null, .null, .null, .null, .int (0), .int (0), .int (0), .int (0)])) = cl85 at w
  have g87 : ∀ k, k ≠ o → cl85 k = cl79 k := fun k hk => by rw [← e86, va_up_ne _ _ hk]
  have c88 : cl85 (o) = .inr (2, [.ref (q1), .ref (q23), .ref (q45), .ref (q67), .null, .null, .null, .null, .null, .null, .null, .null, .int (0), .int (0), .int (0), .int (0)]) := by rw [← e86, va_up_self]
  have fc : ∀ k, k < o → cl85 k = cl k := fun k hk => (g87 (k) (by omega)).trans (fc k hk)
  refine lv_aload_n hx hb dX2_init_48 rfl (lv_at hl 0 rfl) ?_
  refine g_new X w kc5 k_RX2_21 wt_5 wi_5 bl_5 (Nat.le_of_ble_eq_true rfl) (Nat.le_of_ble_eq_true rfl) dX2_init_49 (fun q89 H w => ?_)
  generalize e92 : va_up ad78 (o + 18) q89 = ad90 at w
  generalize e93 : va_up cl85 (o + 18) (.inr (5, [.null, .int 0])) = cl91 at w
  have g94 : ∀ k, k < o + 18 → ad90 k = ad78 k := fun k hk => by rw [← e92, va_up_ne _ _ (by omega)]
  have g95 : ∀ k, k < o + 18 → cl91 k = cl85 k := fun k hk => by rw [← e93, va_up_ne _ _ (by omega)]
  have a96 : ad90 (o) = ad (o) := (g94 (o) (by omega)).trans a83
  have c97 : cl91 (o) = .inr (2, [.ref (q1), .ref (q23), .ref (q45), .ref (q67), .null, .null, .null, .null, .null, .null, .null, .null, .int (0), .int (0), .int (0), .int (0)]) := (g95 (o) (by omega)).trans c88
  have fa : ∀ k, k < o + 1 → ad90 k = ad k := fun k hk => (g94 (k) (by omega)).trans (fa k hk)
  have fc : ∀ k, k < o → cl91 k = cl k := fun k hk => (g95 (k) (by omega)).trans (fc k hk)
  have a98 : ad90 (o + 18) = q89 := by rw [← e92, va_up_self]
  have c99 : cl91 (o + 18) = .inr (5, [.null, .int 0]) := by rw [← e93, va_up_self]
  refine lv_dup hx hb dX2_init_52 rfl ?_
  refine c_init (As := []) (rest := [.ref (q89), .ref (ad (o))]) X w (cn_5 l D G t (o + 19) ad90 cl91 (o + 18) rfl c99 (d - 1) (by omega)) YX5_init k_RX2_23 (by rw [a98]) rfl rfl hl.1 (rm_call (by omega) (by decide)) (Nat.le_of_ble_eq_true rfl) dX2_init_53 (⟨Nat.le_of_ble_eq_true rfl, Nat.le_of_ble_eq_true rfl⟩) (fun u H locs hp w => ?_)
  obtain ⟨ad100, cl101, rfl, g102, g103, b104⟩ := hp
  have w : Wd D A s H locs (o + 20) ad100 cl101 := w
  have b104 : Blk cl101 (o + 18) (bX5 G ad100 (o + 18)) := b104
  have a105 : ad100 (o) = ad (o) := (g102 (o) (by omega)).trans a96
  have c106 : cl101 (o) = .inr (2, [.ref (q1), .ref (q23), .ref (q45), .ref (q67), .null, .null, .null, .null, .null, .null, .null, .null, .int (0), .int (0), .int (0), .int (0)]) := (g103 (o) (by omega)).trans c97
  have fa : ∀ k, k < o + 1 → ad100 k = ad k := fun k hk => (g102 (k) (by omega)).trans (fa k hk)
  have fc : ∀ k, k < o → cl101 k = cl k := fun k hk => (g103 (k) (by omega)).trans (fc k hk)
  refine g_putF X w (o) a105 (by omega) c106 kc2 4 (by decide) rfl rfl k_RX2_31 rfl hin rfl rfl (Nat.le_of_ble_eq_true rfl) dX2_init_56 (fun H locs w => ?_)
  have w : Wd D A s H locs (o + 20) ad100 (va_up cl101 (o) (.inr (2, [.ref (q1), .ref (q23), .ref (q45), .ref (q67), .ref (q89), .null, .null, .null, .null, .null, .null, .null, .int (0), .int (0), .int (0), .int (0)]))) := w
  generalize e108 : va_up cl101 (o) (.inr (2, [.ref (q1), .ref (q23), .ref (q45), .ref (q67), .ref (q89), .null, .null, .null, .null, .null, .null, .null, .int (0), .int (0), .int (0), .int (0)])) = cl107 at w
  have g109 : ∀ k, k ≠ o → cl107 k = cl101 k := fun k hk => by rw [← e108, va_up_ne _ _ hk]
  have c110 : cl107 (o) = .inr (2, [.ref (q1), .ref (q23), .ref (q45), .ref (q67), .ref (q89), .null, .null, .null, .null, .null, .null, .null, .int (0), .int (0), .int (0), .int (0)]) := by rw [← e108, va_up_self]
  have fc : ∀ k, k < o → cl107 k = cl k := fun k hk => (g109 (k) (by omega)).trans (fc k hk)
  refine lv_aload_n hx hb dX2_init_59 rfl (lv_at hl 0 rfl) ?_
  refine g_new X w kc5 k_RX2_21 wt_5 wi_5 bl_5 (Nat.le_of_ble_eq_true rfl) (Nat.le_of_ble_eq_true rfl) dX2_init_60 (fun q111 H w => ?_)
  generalize e114 : va_up ad100 (o + 20) q111 = ad112 at w
  generalize e115 : va_up cl107 (o + 20) (.inr (5, [.null, .int 0])) = cl113 at w
  have g116 : ∀ k, k < o + 20 → ad112 k = ad100 k := fun k hk => by rw [← e114, va_up_ne _ _ (by omega)]
  have g117 : ∀ k, k < o + 20 → cl113 k = cl107 k := fun k hk => by rw [← e115, va_up_ne _ _ (by omega)]
  have a118 : ad112 (o) = ad (o) := (g116 (o) (by omega)).trans a105
  have c119 : cl113 (o) = .inr (2, [.ref (q1), .ref (q23), .ref (q45), .ref (q67), .ref (q89), .null, .null, .null, .null, .null, .null, .null, .int (0), .int (0), .int (0), .int (0)]) := (g117 (o) (by omega)).trans c110
  have fa : ∀ k, k < o + 1 → ad112 k = ad k := fun k hk => (g116 (k) (by omega)).trans (fa k hk)
  have fc : ∀ k, k < o → cl113 k = cl k := fun k hk => (g117 (k) (by omega)).trans (fc k hk)
  have a120 : ad112 (o + 20) = q111 := by rw [← e114, va_up_self]
  have c121 : cl113 (o + 20) = .inr (5, [.null, .int 0]) := by rw [← e115, va_up_self]
  refine lv_dup hx hb dX2_init_63 rfl ?_
  refine c_init (As := []) (rest := [.ref (q111), .ref (ad (o))]) X w (cn_5 l D G t (o + 21) ad112 cl113 (o + 20) rfl c121 (d - 1) (by omega)) YX5_init k_RX2_23 (by rw [a120]) rfl rfl hl.1 (rm_call (by omega) (by decide)) (Nat.le_of_ble_eq_true rfl) dX2_init_64 (⟨Nat.le_of_ble_eq_true rfl, Nat.le_of_ble_eq_true rfl⟩) (fun u H locs hp w => ?_)
  obtain ⟨ad122, cl123, rfl, g124, g125, b126⟩ := hp
  have w : Wd D A s H locs (o + 22) ad122 cl123 := w
  have b126 : Blk cl123 (o + 20) (bX5 G ad122 (o + 20)) := b126
  have a127 : ad122 (o) = ad (o) := (g124 (o) (by omega)).trans a118
  have c128 : cl123 (o) = .inr (2, [.ref (q1), .ref (q23), .ref (q45), .ref (q67), .ref (q89), .null, .null, .null, .null, .null, .null, .null, .int (0), .int (0), .int (0), .int (0)]) := (g125 (o) (by omega)).trans c119
  have fa : ∀ k, k < o + 1 → ad122 k = ad k := fun k hk => (g124 (k) (by omega)).trans (fa k hk)
  have fc : ∀ k, k < o → cl123 k = cl k := fun k hk => (g125 (k) (by omega)).trans (fc k hk)
  refine g_putF X w (o) a127 (by omega) c128 kc2 5 (by decide) rfl rfl k_RX2_34 rfl hin rfl rfl (Nat.le_of_ble_eq_true rfl) dX2_init_67 (fun H locs w => ?_)
  have w : Wd D A s H locs (o + 22) ad122 (va_up cl123 (o) (.inr (2, [.ref (q1), .ref (q23), .ref (q45), .ref (q67), .ref (q89), .ref (q111), .null, .null, .null, .null, .null, .null, .int (0), .int (0), .int (0), .int (0)]))) := w
  generalize e130 : va_up cl123 (o) (.inr (2, [.ref (q1), .ref (q23), .ref (q45), .ref (q67), .ref (q89), .ref (q111), .null, .null, .null, .null, .null, .null, .int (0), .int (0), .int (0), .int (0)])) = cl129 at w
  have g131 : ∀ k, k ≠ o → cl129 k = cl123 k := fun k hk => by rw [← e130, va_up_ne _ _ hk]
  have c132 : cl129 (o) = .inr (2, [.ref (q1), .ref (q23), .ref (q45), .ref (q67), .ref (q89), .ref (q111), .null, .null, .null, .null, .null, .null, .int (0), .int (0), .int (0), .int (0)]) := by rw [← e130, va_up_self]
  have fc : ∀ k, k < o → cl129 k = cl k := fun k hk => (g131 (k) (by omega)).trans (fc k hk)
  refine lv_aload_n hx hb dX2_init_70 rfl (lv_at hl 0 rfl) ?_
  refine g_new X w kc5 k_RX2_21 wt_5 wi_5 bl_5 (Nat.le_of_ble_eq_true rfl) (Nat.le_of_ble_eq_true rfl) dX2_init_71 (fun q133 H w => ?_)
  generalize e136 : va_up ad122 (o + 22) q133 = ad134 at w
  generalize e137 : va_up cl129 (o + 22) (.inr (5, [.null, .int 0])) = cl135 at w
  have g138 : ∀ k, k < o + 22 → ad134 k = ad122 k := fun k hk => by rw [← e136, va_up_ne _ _ (by omega)]
  have g139 : ∀ k, k < o + 22 → cl135 k = cl129 k := fun k hk => by rw [← e137, va_up_ne _ _ (by omega)]
  have a140 : ad134 (o) = ad (o) := (g138 (o) (by omega)).trans a127
  have c141 : cl135 (o) = .inr (2, [.ref (q1), .ref (q23), .ref (q45), .ref (q67), .ref (q89), .ref (q111), .null, .null, .null, .null, .null, .null, .int (0), .int (0), .int (0), .int (0)]) := (g139 (o) (by omega)).trans c132
  have fa : ∀ k, k < o + 1 → ad134 k = ad k := fun k hk => (g138 (k) (by omega)).trans (fa k hk)
  have fc : ∀ k, k < o → cl135 k = cl k := fun k hk => (g139 (k) (by omega)).trans (fc k hk)
  have a142 : ad134 (o + 22) = q133 := by rw [← e136, va_up_self]
  have c143 : cl135 (o + 22) = .inr (5, [.null, .int 0]) := by rw [← e137, va_up_self]
  refine lv_dup hx hb dX2_init_74 rfl ?_
  refine c_init (As := []) (rest := [.ref (q133), .ref (ad (o))]) X w (cn_5 l D G t (o + 23) ad134 cl135 (o + 22) rfl c143 (d - 1) (by omega)) YX5_init k_RX2_23 (by rw [a142]) rfl rfl hl.1 (rm_call (by omega) (by decide)) (Nat.le_of_ble_eq_true rfl) dX2_init_75 (⟨Nat.le_of_ble_eq_true rfl, Nat.le_of_ble_eq_true rfl⟩) (fun u H locs hp w => ?_)
  obtain ⟨ad144, cl145, rfl, g146, g147, b148⟩ := hp
  have w : Wd D A s H locs (o + 24) ad144 cl145 := w
  have b148 : Blk cl145 (o + 22) (bX5 G ad144 (o + 22)) := b148
  have a149 : ad144 (o) = ad (o) := (g146 (o) (by omega)).trans a140
  have c150 : cl145 (o) = .inr (2, [.ref (q1), .ref (q23), .ref (q45), .ref (q67), .ref (q89), .ref (q111), .null, .null, .null, .null, .null, .null, .int (0), .int (0), .int (0), .int (0)]) := (g147 (o) (by omega)).trans c141
  have fa : ∀ k, k < o + 1 → ad144 k = ad k := fun k hk => (g146 (k) (by omega)).trans (fa k hk)
  have fc : ∀ k, k < o → cl145 k = cl k := fun k hk => (g147 (k) (by omega)).trans (fc k hk)
  refine g_putF X w (o) a149 (by omega) c150 kc2 6 (by decide) rfl rfl k_RX2_37 rfl hin rfl rfl (Nat.le_of_ble_eq_true rfl) dX2_init_78 (fun H locs w => ?_)
  have w : Wd D A s H locs (o + 24) ad144 (va_up cl145 (o) (.inr (2, [.ref (q1), .ref (q23), .ref (q45), .ref (q67), .ref (q89), .ref (q111), .ref (q133), .null, .null, .null, .null, .null, .int (0), .int (0), .int (0), .int (0)]))) := w
  generalize e152 : va_up cl145 (o) (.inr (2, [.ref (q1), .ref (q23), .ref (q45), .ref (q67), .ref (q89), .ref (q111), .ref (q133), .null, .null, .null, .null, .null, .int (0), .int (0), .int (0), .int (0)])) = cl151 at w
  have g153 : ∀ k, k ≠ o → cl151 k = cl145 k := fun k hk => by rw [← e152, va_up_ne _ _ hk]
  have c154 : cl151 (o) = .inr (2, [.ref (q1), .ref (q23), .ref (q45), .ref (q67), .ref (q89), .ref (q111), .ref (q133), .null, .null, .null, .null, .null, .int (0), .int (0), .int (0), .int (0)]) := by rw [← e152, va_up_self]
  have fc : ∀ k, k < o → cl151 k = cl k := fun k hk => (g153 (k) (by omega)).trans (fc k hk)
  refine lv_aload_n hx hb dX2_init_81 rfl (lv_at hl 0 rfl) ?_
  refine g_new X w kc8 k_RX2_9 wt_8 wi_8 bl_8 (Nat.le_of_ble_eq_true rfl) (Nat.le_of_ble_eq_true rfl) dX2_init_82 (fun q155 H w => ?_)
  generalize e158 : va_up ad144 (o + 24) q155 = ad156 at w
  generalize e159 : va_up cl151 (o + 24) (.inr (8, [.null, .null])) = cl157 at w
  have g160 : ∀ k, k < o + 24 → ad156 k = ad144 k := fun k hk => by rw [← e158, va_up_ne _ _ (by omega)]
  have g161 : ∀ k, k < o + 24 → cl157 k = cl151 k := fun k hk => by rw [← e159, va_up_ne _ _ (by omega)]
  have a162 : ad156 (o) = ad (o) := (g160 (o) (by omega)).trans a149
  have c163 : cl157 (o) = .inr (2, [.ref (q1), .ref (q23), .ref (q45), .ref (q67), .ref (q89), .ref (q111), .ref (q133), .null, .null, .null, .null, .null, .int (0), .int (0), .int (0), .int (0)]) := (g161 (o) (by omega)).trans c154
  have fa : ∀ k, k < o + 1 → ad156 k = ad k := fun k hk => (g160 (k) (by omega)).trans (fa k hk)
  have fc : ∀ k, k < o → cl157 k = cl k := fun k hk => (g161 (k) (by omega)).trans (fc k hk)
  have a164 : ad156 (o + 24) = q155 := by rw [← e158, va_up_self]
  have c165 : cl157 (o + 24) = .inr (8, [.null, .null]) := by rw [← e159, va_up_self]
  refine lv_dup hx hb dX2_init_85 rfl ?_
  refine c_init (As := []) (rest := [.ref (q155), .ref (ad (o))]) X w (cn_8 l D G t (o + 25) ad156 cl157 (o + 24) rfl c165 (d - 1) (by omega)) YX8_init k_RX2_11 (by rw [a164]) rfl rfl hl.1 (rm_call (by omega) (by decide)) (Nat.le_of_ble_eq_true rfl) dX2_init_86 (⟨Nat.le_of_ble_eq_true rfl, Nat.le_of_ble_eq_true rfl⟩) (fun u H locs hp w => ?_)
  obtain ⟨ad166, cl167, rfl, g168, g169, b170⟩ := hp
  have w : Wd D A s H locs (o + 29) ad166 cl167 := w
  have b170 : Blk cl167 (o + 24) (bX8 G ad166 (o + 24)) := b170
  have a171 : ad166 (o) = ad (o) := (g168 (o) (by omega)).trans a162
  have c172 : cl167 (o) = .inr (2, [.ref (q1), .ref (q23), .ref (q45), .ref (q67), .ref (q89), .ref (q111), .ref (q133), .null, .null, .null, .null, .null, .int (0), .int (0), .int (0), .int (0)]) := (g169 (o) (by omega)).trans c163
  have fa : ∀ k, k < o + 1 → ad166 k = ad k := fun k hk => (g168 (k) (by omega)).trans (fa k hk)
  have fc : ∀ k, k < o → cl167 k = cl k := fun k hk => (g169 (k) (by omega)).trans (fc k hk)
  refine g_putF X w (o) a171 (by omega) c172 kc2 7 (by decide) rfl rfl k_RX2_40 rfl hin rfl rfl (Nat.le_of_ble_eq_true rfl) dX2_init_89 (fun H locs w => ?_)
  have w : Wd D A s H locs (o + 29) ad166 (va_up cl167 (o) (.inr (2, [.ref (q1), .ref (q23), .ref (q45), .ref (q67), .ref (q89), .ref (q111), .ref (q133), .ref (q155), .null, .null, .null, .null, .int (0), .int (0), .int (0), .int (0)]))) := w
  generalize e174 : va_up cl167 (o) (.inr (2, [.ref (q1), .ref (q23), .ref (q45), .ref (q67), .ref (q89), .ref (q111), .ref (q133), .ref (q155), .null, .null, .null, .null, .int (0), .int (0), .int (0), .int (0)])) = cl173 at w
  have g175 : ∀ k, k ≠ o → cl173 k = cl167 k := fun k hk => by rw [← e174, va_up_ne _ _ hk]
  have c176 : cl173 (o) = .inr (2, [.ref (q1), .ref (q23), .ref (q45), .ref (q67), .ref (q89), .ref (q111), .ref (q133), .ref (q155), .null, .null, .null, .null, .int (0), .int (0), .int (0), .int (0)]) := by rw [← e174, va_up_self]
  have fc : ∀ k, k < o → cl173 k = cl k := fun k hk => (g175 (k) (by omega)).trans (fc k hk)
  refine lv_aload_n hx hb dX2_init_92 rfl (lv_at hl 0 rfl) ?_
  refine g_new X w kc5 k_RX2_21 wt_5 wi_5 bl_5 (Nat.le_of_ble_eq_true rfl) (Nat.le_of_ble_eq_true rfl) dX2_init_93 (fun q177 H w => ?_)
  generalize e180 : va_up ad166 (o + 29) q177 = ad178 at w
  generalize e181 : va_up cl173 (o + 29) (.inr (5, [.null, .int 0])) = cl179 at w
  have g182 : ∀ k, k < o + 29 → ad178 k = ad166 k := fun k hk => by rw [← e180, va_up_ne _ _ (by omega)]
  have g183 : ∀ k, k < o + 29 → cl179 k = cl173 k := fun k hk => by rw [← e181, va_up_ne _ _ (by omega)]
  have a184 : ad178 (o) = ad (o) := (g182 (o) (by omega)).trans a171
  have c185 : cl179 (o) = .inr (2, [.ref (q1), .ref (q23), .ref (q45), .ref (q67), .ref (q89), .ref (q111), .ref (q133), .ref (q155), .null, .null, .null, .null, .int (0), .int (0), .int (0), .int (0)]) := (g183 (o) (by omega)).trans c176
  have fa : ∀ k, k < o + 1 → ad178 k = ad k := fun k hk => (g182 (k) (by omega)).trans (fa k hk)
  have fc : ∀ k, k < o → cl179 k = cl k := fun k hk => (g183 (k) (by omega)).trans (fc k hk)
  have a186 : ad178 (o + 29) = q177 := by rw [← e180, va_up_self]
  have c187 : cl179 (o + 29) = .inr (5, [.null, .int 0]) := by rw [← e181, va_up_self]
  refine lv_dup hx hb dX2_init_96 rfl ?_
  refine c_init (As := []) (rest := [.ref (q177), .ref (ad (o))]) X w (cn_5 l D G t (o + 30) ad178 cl179 (o + 29) rfl c187 (d - 1) (by omega)) YX5_init k_RX2_23 (by rw [a186]) rfl rfl hl.1 (rm_call (by omega) (by decide)) (Nat.le_of_ble_eq_true rfl) dX2_init_97 (⟨Nat.le_of_ble_eq_true rfl, Nat.le_of_ble_eq_true rfl⟩) (fun u H locs hp w => ?_)
  obtain ⟨ad188, cl189, rfl, g190, g191, b192⟩ := hp
  have w : Wd D A s H locs (o + 31) ad188 cl189 := w
  have b192 : Blk cl189 (o + 29) (bX5 G ad188 (o + 29)) := b192
  have a193 : ad188 (o) = ad (o) := (g190 (o) (by omega)).trans a184
  have c194 : cl189 (o) = .inr (2, [.ref (q1), .ref (q23), .ref (q45), .ref (q67), .ref (q89), .ref (q111), .ref (q133), .ref (q155), .null, .null, .null, .null, .int (0), .int (0), .int (0), .int (0)]) := (g191 (o) (by omega)).trans c185
  have fa : ∀ k, k < o + 1 → ad188 k = ad k := fun k hk => (g190 (k) (by omega)).trans (fa k hk)
  have fc : ∀ k, k < o → cl189 k = cl k := fun k hk => (g191 (k) (by omega)).trans (fc k hk)
  refine g_putF X w (o) a193 (by omega) c194 kc2 8 (by decide) rfl rfl k_RX2_43 rfl hin rfl rfl (Nat.le_of_ble_eq_true rfl) dX2_init_100 (fun H locs w => ?_)
  have w : Wd D A s H locs (o + 31) ad188 (va_up cl189 (o) (.inr (2, [.ref (q1), .ref (q23), .ref (q45), .ref (q67), .ref (q89), .ref (q111), .ref (q133), .ref (q155), .ref (q177), .null, .null, .null, .int (0), .int (0), .int (0), .int (0)]))) := w
  generalize e196 : va_up cl189 (o) (.inr (2, [.ref (q1), .ref (q23), .ref (q45), .ref (q67), .ref (q89), .ref (q111), .ref (q133), .ref (q155), .ref (q177), .null, .null, .null, .int (0), .int (0), .int (0), .int (0)])) = cl195 at w
  have g197 : ∀ k, k ≠ o → cl195 k = cl189 k := fun k hk => by rw [← e196, va_up_ne _ _ hk]
  have c198 : cl195 (o) = .inr (2, [.ref (q1), .ref (q23), .ref (q45), .ref (q67), .ref (q89), .ref (q111), .ref (q133), .ref (q155), .ref (q177), .null, .null, .null, .int (0), .int (0), .int (0), .int (0)]) := by rw [← e196, va_up_self]
  have fc : ∀ k, k < o → cl195 k = cl k := fun k hk => (g197 (k) (by omega)).trans (fc k hk)
  refine lv_aload_n hx hb dX2_init_103 rfl (lv_at hl 0 rfl) ?_
  refine g_new X w kc5 k_RX2_21 wt_5 wi_5 bl_5 (Nat.le_of_ble_eq_true rfl) (Nat.le_of_ble_eq_true rfl) dX2_init_104 (fun q199 H w => ?_)
  generalize e202 : va_up ad188 (o + 31) q199 = ad200 at w
  generalize e203 : va_up cl195 (o + 31) (.inr (5, [.null, .int 0])) = cl201 at w
  have g204 : ∀ k, k < o + 31 → ad200 k = ad188 k := fun k hk => by rw [← e202, va_up_ne _ _ (by omega)]
  have g205 : ∀ k, k < o + 31 → cl201 k = cl195 k := fun k hk => by rw [← e203, va_up_ne _ _ (by omega)]
  have a206 : ad200 (o) = ad (o) := (g204 (o) (by omega)).trans a193
  have c207 : cl201 (o) = .inr (2, [.ref (q1), .ref (q23), .ref (q45), .ref (q67), .ref (q89), .ref (q111), .ref (q133), .ref (q155), .ref (q177), .null, .null, .null, .int (0), .int (0), .int (0), .int (0)]) := (g205 (o) (by omega)).trans c198
  have fa : ∀ k, k < o + 1 → ad200 k = ad k := fun k hk => (g204 (k) (by omega)).trans (fa k hk)
  have fc : ∀ k, k < o → cl201 k = cl k := fun k hk => (g205 (k) (by omega)).trans (fc k hk)
  have a208 : ad200 (o + 31) = q199 := by rw [← e202, va_up_self]
  have c209 : cl201 (o + 31) = .inr (5, [.null, .int 0]) := by rw [← e203, va_up_self]
  refine lv_dup hx hb dX2_init_107 rfl ?_
  refine c_init (As := []) (rest := [.ref (q199), .ref (ad (o))]) X w (cn_5 l D G t (o + 32) ad200 cl201 (o + 31) rfl c209 (d - 1) (by omega)) YX5_init k_RX2_23 (by rw [a208]) rfl rfl hl.1 (rm_call (by omega) (by decide)) (Nat.le_of_ble_eq_true rfl) dX2_init_108 (⟨Nat.le_of_ble_eq_true rfl, Nat.le_of_ble_eq_true rfl⟩) (fun u H locs hp w => ?_)
  obtain ⟨ad210, cl211, rfl, g212, g213, b214⟩ := hp
  have w : Wd D A s H locs (o + 33) ad210 cl211 := w
  have b214 : Blk cl211 (o + 31) (bX5 G ad210 (o + 31)) := b214
  have a215 : ad210 (o) = ad (o) := (g212 (o) (by omega)).trans a206
  have c216 : cl211 (o) = .inr (2, [.ref (q1), .ref (q23), .ref (q45), .ref (q67), .ref (q89), .ref (q111), .ref (q133), .ref (q155), .ref (q177), .null, .null, .null, .int (0), .int (0), .int (0), .int (0)]) := (g213 (o) (by omega)).trans c207
  have fa : ∀ k, k < o + 1 → ad210 k = ad k := fun k hk => (g212 (k) (by omega)).trans (fa k hk)
  have fc : ∀ k, k < o → cl211 k = cl k := fun k hk => (g213 (k) (by omega)).trans (fc k hk)
  refine g_putF X w (o) a215 (by omega) c216 kc2 9 (by decide) rfl rfl k_RX2_46 rfl hin rfl rfl (Nat.le_of_ble_eq_true rfl) dX2_init_111 (fun H locs w => ?_)
  have w : Wd D A s H locs (o + 33) ad210 (va_up cl211 (o) (.inr (2, [.ref (q1), .ref (q23), .ref (q45), .ref (q67), .ref (q89), .ref (q111), .ref (q133), .ref (q155), .ref (q177), .ref (q199), .null, .null, .int (0), .int (0), .int (0), .int (0)]))) := w
  generalize e218 : va_up cl211 (o) (.inr (2, [.ref (q1), .ref (q23), .ref (q45), .ref (q67), .ref (q89), .ref (q111), .ref (q133), .ref (q155), .ref (q177), .ref (q199), .null, .null, .int (0), .int (0), .int (0), .int (0)])) = cl217 at w
  have g219 : ∀ k, k ≠ o → cl217 k = cl211 k := fun k hk => by rw [← e218, va_up_ne _ _ hk]
  have c220 : cl217 (o) = .inr (2, [.ref (q1), .ref (q23), .ref (q45), .ref (q67), .ref (q89), .ref (q111), .ref (q133), .ref (q155), .ref (q177), .ref (q199), .null, .null, .int (0), .int (0), .int (0), .int (0)]) := by rw [← e218, va_up_self]
  have fc : ∀ k, k < o → cl217 k = cl k := fun k hk => (g219 (k) (by omega)).trans (fc k hk)
  refine lv_aload_n hx hb dX2_init_114 rfl (lv_at hl 0 rfl) ?_
  refine g_new X w kc5 k_RX2_21 wt_5 wi_5 bl_5 (Nat.le_of_ble_eq_true rfl) (Nat.le_of_ble_eq_true rfl) dX2_init_115 (fun q221 H w => ?_)
  generalize e224 : va_up ad210 (o + 33) q221 = ad222 at w
  generalize e225 : va_up cl217 (o + 33) (.inr (5, [.null, .int 0])) = cl223 at w
  have g226 : ∀ k, k < o + 33 → ad222 k = ad210 k := fun k hk => by rw [← e224, va_up_ne _ _ (by omega)]
  have g227 : ∀ k, k < o + 33 → cl223 k = cl217 k := fun k hk => by rw [← e225, va_up_ne _ _ (by omega)]
  have a228 : ad222 (o) = ad (o) := (g226 (o) (by omega)).trans a215
  have c229 : cl223 (o) = .inr (2, [.ref (q1), .ref (q23), .ref (q45), .ref (q67), .ref (q89), .ref (q111), .ref (q133), .ref (q155), .ref (q177), .ref (q199), .null, .null, .int (0), .int (0), .int (0), .int (0)]) := (g227 (o) (by omega)).trans c220
  have fa : ∀ k, k < o + 1 → ad222 k = ad k := fun k hk => (g226 (k) (by omega)).trans (fa k hk)
  have fc : ∀ k, k < o → cl223 k = cl k := fun k hk => (g227 (k) (by omega)).trans (fc k hk)
  have a230 : ad222 (o + 33) = q221 := by rw [← e224, va_up_self]
  have c231 : cl223 (o + 33) = .inr (5, [.null, .int 0]) := by rw [← e225, va_up_self]
  refine lv_dup hx hb dX2_init_118 rfl ?_
  refine c_init (As := []) (rest := [.ref (q221), .ref (ad (o))]) X w (cn_5 l D G t (o + 34) ad222 cl223 (o + 33) rfl c231 (d - 1) (by omega)) YX5_init k_RX2_23 (by rw [a230]) rfl rfl hl.1 (rm_call (by omega) (by decide)) (Nat.le_of_ble_eq_true rfl) dX2_init_119 (⟨Nat.le_of_ble_eq_true rfl, Nat.le_of_ble_eq_true rfl⟩) (fun u H locs hp w => ?_)
  obtain ⟨ad232, cl233, rfl, g234, g235, b236⟩ := hp
  have w : Wd D A s H locs (o + 35) ad232 cl233 := w
  have b236 : Blk cl233 (o + 33) (bX5 G ad232 (o + 33)) := b236
  have a237 : ad232 (o) = ad (o) := (g234 (o) (by omega)).trans a228
  have c238 : cl233 (o) = .inr (2, [.ref (q1), .ref (q23), .ref (q45), .ref (q67), .ref (q89), .ref (q111), .ref (q133), .ref (q155), .ref (q177), .ref (q199), .null, .null, .int (0), .int (0), .int (0), .int (0)]) := (g235 (o) (by omega)).trans c229
  have fa : ∀ k, k < o + 1 → ad232 k = ad k := fun k hk => (g234 (k) (by omega)).trans (fa k hk)
  have fc : ∀ k, k < o → cl233 k = cl k := fun k hk => (g235 (k) (by omega)).trans (fc k hk)
  refine g_putF X w (o) a237 (by omega) c238 kc2 10 (by decide) rfl rfl k_RX2_49 rfl hin rfl rfl (Nat.le_of_ble_eq_true rfl) dX2_init_122 (fun H locs w => ?_)
  have w : Wd D A s H locs (o + 35) ad232 (va_up cl233 (o) (.inr (2, [.ref (q1), .ref (q23), .ref (q45), .ref (q67), .ref (q89), .ref (q111), .ref (q133), .ref (q155), .ref (q177), .ref (q199), .ref (q221), .null, .int (0), .int (0), .int (0), .int (0)]))) := w
  generalize e240 : va_up cl233 (o) (.inr (2, [.ref (q1), .ref (q23), .ref (q45), .ref (q67), .ref (q89), .ref (q111), .ref (q133), .ref (q155), .ref (q177), .ref (q199), .ref (q221), .null, .int (0), .int (0), .int (0), .int (0)])) = cl239 at w
  have g241 : ∀ k, k ≠ o → cl239 k = cl233 k := fun k hk => by rw [← e240, va_up_ne _ _ hk]
  have c242 : cl239 (o) = .inr (2, [.ref (q1), .ref (q23), .ref (q45), .ref (q67), .ref (q89), .ref (q111), .ref (q133), .ref (q155), .ref (q177), .ref (q199), .ref (q221), .null, .int (0), .int (0), .int (0), .int (0)]) := by rw [← e240, va_up_self]
  have fc : ∀ k, k < o → cl239 k = cl k := fun k hk => (g241 (k) (by omega)).trans (fc k hk)
  refine lv_aload_n hx hb dX2_init_125 rfl (lv_at hl 0 rfl) ?_
  refine g_new X w kc5 k_RX2_21 wt_5 wi_5 bl_5 (Nat.le_of_ble_eq_true rfl) (Nat.le_of_ble_eq_true rfl) dX2_init_126 (fun q243 H w => ?_)
  generalize e246 : va_up ad232 (o + 35) q243 = ad244 at w
  generalize e247 : va_up cl239 (o + 35) (.inr (5, [.null, .int 0])) = cl245 at w
  have g248 : ∀ k, k < o + 35 → ad244 k = ad232 k := fun k hk => by rw [← e246, va_up_ne _ _ (by omega)]
  have g249 : ∀ k, k < o + 35 → cl245 k = cl239 k := fun k hk => by rw [← e247, va_up_ne _ _ (by omega)]
  have a250 : ad244 (o) = ad (o) := (g248 (o) (by omega)).trans a237
  have c251 : cl245 (o) = .inr (2, [.ref (q1), .ref (q23), .ref (q45), .ref (q67), .ref (q89), .ref (q111), .ref (q133), .ref (q155), .ref (q177), .ref (q199), .ref (q221), .null, .int (0), .int (0), .int (0), .int (0)]) := (g249 (o) (by omega)).trans c242
  have fa : ∀ k, k < o + 1 → ad244 k = ad k := fun k hk => (g248 (k) (by omega)).trans (fa k hk)
  have fc : ∀ k, k < o → cl245 k = cl k := fun k hk => (g249 (k) (by omega)).trans (fc k hk)
  have a252 : ad244 (o + 35) = q243 := by rw [← e246, va_up_self]
  have c253 : cl245 (o + 35) = .inr (5, [.null, .int 0]) := by rw [← e247, va_up_self]
  refine lv_dup hx hb dX2_init_129 rfl ?_
  refine c_init (As := []) (rest := [.ref (q243), .ref (ad (o))]) X w (cn_5 l D G t (o + 36) ad244 cl245 (o + 35) rfl c253 (d - 1) (by omega)) YX5_init k_RX2_23 (by rw [a252]) rfl rfl hl.1 (rm_call (by omega) (by decide)) (Nat.le_of_ble_eq_true rfl) dX2_init_130 (⟨Nat.le_of_ble_eq_true rfl, Nat.le_of_ble_eq_true rfl⟩) (fun u H locs hp w => ?_)
  obtain ⟨ad254, cl255, rfl, g256, g257, b258⟩ := hp
  have w : Wd D A s H locs (o + 37) ad254 cl255 := w
  have b258 : Blk cl255 (o + 35) (bX5 G ad254 (o + 35)) := b258
  have a259 : ad254 (o) = ad (o) := (g256 (o) (by omega)).trans a250
  have c260 : cl255 (o) = .inr (2, [.ref (q1), .ref (q23), .ref (q45), .ref (q67), .ref (q89), .ref (q111), .ref (q133), .ref (q155), .ref (q177), .ref (q199), .ref (q221), .null, .int (0), .int (0), .int (0), .int (0)]) := (g257 (o) (by omega)).trans c251
  have fa : ∀ k, k < o + 1 → ad254 k = ad k := fun k hk => (g256 (k) (by omega)).trans (fa k hk)
  have fc : ∀ k, k < o → cl255 k = cl k := fun k hk => (g257 (k) (by omega)).trans (fc k hk)
  refine g_putF X w (o) a259 (by omega) c260 kc2 11 (by decide) rfl rfl k_RX2_52 rfl hin rfl rfl (Nat.le_of_ble_eq_true rfl) dX2_init_133 (fun H locs w => ?_)
  have w : Wd D A s H locs (o + 37) ad254 (va_up cl255 (o) (.inr (2, [.ref (q1), .ref (q23), .ref (q45), .ref (q67), .ref (q89), .ref (q111), .ref (q133), .ref (q155), .ref (q177), .ref (q199), .ref (q221), .ref (q243), .int (0), .int (0), .int (0), .int (0)]))) := w
  generalize e262 : va_up cl255 (o) (.inr (2, [.ref (q1), .ref (q23), .ref (q45), .ref (q67), .ref (q89), .ref (q111), .ref (q133), .ref (q155), .ref (q177), .ref (q199), .ref (q221), .ref (q243), .int (0), .int (0), .int (0), .int (0)])) = cl261 at w
  have g263 : ∀ k, k ≠ o → cl261 k = cl255 k := fun k hk => by rw [← e262, va_up_ne _ _ hk]
  have c264 : cl261 (o) = .inr (2, [.ref (q1), .ref (q23), .ref (q45), .ref (q67), .ref (q89), .ref (q111), .ref (q133), .ref (q155), .ref (q177), .ref (q199), .ref (q221), .ref (q243), .int (0), .int (0), .int (0), .int (0)]) := by rw [← e262, va_up_self]
  have fc : ∀ k, k < o → cl261 k = cl k := fun k hk => (g263 (k) (by omega)).trans (fc k hk)
  have FA36 : ∀ k, k < o + 37 → ad254 k = ad254 k := fun _ _ => rfl
  have FC36 : ∀ k, k ≠ o → k ≠ o → k < o + 37 → cl261 k = cl261 k := fun _ _ _ _ => rfl
  have FA35 : ∀ k, k < o + 37 → ad254 k = ad254 k := fun k hk => FA36 k (by omega)
  have FC35 : ∀ k, k ≠ o → k ≠ o → k < o + 37 → cl261 k = cl255 k := fun k h0 h9 hk => (FC36 k h0 h9 (by omega)).trans (g263 k h0)
  have FA34 : ∀ k, k < o + 36 → ad254 k = ad244 k := fun k hk => (FA35 k (by omega)).trans (g256 k (by omega))
  have FC34 : ∀ k, k ≠ o → k ≠ o → k < o + 35 → cl261 k = cl245 k := fun k h0 h9 hk => (FC35 k h0 h9 (by omega)).trans (g257 k (by omega))
  have FA33 : ∀ k, k < o + 35 → ad254 k = ad232 k := fun k hk => (FA34 k (by omega)).trans (g248 k (by omega))
  have FC33 : ∀ k, k ≠ o → k ≠ o → k < o + 35 → cl261 k = cl239 k := fun k h0 h9 hk => (FC34 k h0 h9 (by omega)).trans (g249 k (by omega))
  have FA32 : ∀ k, k < o + 35 → ad254 k = ad232 k := fun k hk => FA33 k (by omega)
  have FC32 : ∀ k, k ≠ o → k ≠ o → k < o + 35 → cl261 k = cl233 k := fun k h0 h9 hk => (FC33 k h0 h9 (by omega)).trans (g241 k h0)
  have FA31 : ∀ k, k < o + 34 → ad254 k = ad222 k := fun k hk => (FA32 k (by omega)).trans (g234 k (by omega))
  have FC31 : ∀ k, k ≠ o → k ≠ o → k < o + 33 → cl261 k = cl223 k := fun k h0 h9 hk => (FC32 k h0 h9 (by omega)).trans (g235 k (by omega))
  have FA30 : ∀ k, k < o + 33 → ad254 k = ad210 k := fun k hk => (FA31 k (by omega)).trans (g226 k (by omega))
  have FC30 : ∀ k, k ≠ o → k ≠ o → k < o + 33 → cl261 k = cl217 k := fun k h0 h9 hk => (FC31 k h0 h9 (by omega)).trans (g227 k (by omega))
  have FA29 : ∀ k, k < o + 33 → ad254 k = ad210 k := fun k hk => FA30 k (by omega)
  have FC29 : ∀ k, k ≠ o → k ≠ o → k < o + 33 → cl261 k = cl211 k := fun k h0 h9 hk => (FC30 k h0 h9 (by omega)).trans (g219 k h0)
  have FA28 : ∀ k, k < o + 32 → ad254 k = ad200 k := fun k hk => (FA29 k (by omega)).trans (g212 k (by omega))
  have FC28 : ∀ k, k ≠ o → k ≠ o → k < o + 31 → cl261 k = cl201 k := fun k h0 h9 hk => (FC29 k h0 h9 (by omega)).trans (g213 k (by omega))
  have FA27 : ∀ k, k < o + 31 → ad254 k = ad188 k := fun k hk => (FA28 k (by omega)).trans (g204 k (by omega))
  have FC27 : ∀ k, k ≠ o → k ≠ o → k < o + 31 → cl261 k = cl195 k := fun k h0 h9 hk => (FC28 k h0 h9 (by omega)).trans (g205 k (by omega))
  have FA26 : ∀ k, k < o + 31 → ad254 k = ad188 k := fun k hk => FA27 k (by omega)
  have FC26 : ∀ k, k ≠ o → k ≠ o → k < o + 31 → cl261 k = cl189 k := fun k h0 h9 hk => (FC27 k h0 h9 (by omega)).trans (g197 k h0)
  have FA25 : ∀ k, k < o + 30 → ad254 k = ad178 k := fun k hk => (FA26 k (by omega)).trans (g190 k (by omega))
  have FC25 : ∀ k, k ≠ o → k ≠ o → k < o + 29 → cl261 k = cl179 k := fun k h0 h9 hk => (FC26 k h0 h9 (by omega)).trans (g191 k (by omega))
  have FA24 : ∀ k, k < o + 29 → ad254 k = ad166 k := fun k hk => (FA25 k (by omega)).trans (g182 k (by omega))
  have FC24 : ∀ k, k ≠ o → k ≠ o → k < o + 29 → cl261 k = cl173 k := fun k h0 h9 hk => (FC25 k h0 h9 (by omega)).trans (g183 k (by omega))
  have FA23 : ∀ k, k < o + 29 → ad254 k = ad166 k := fun k hk => FA24 k (by omega)
  have FC23 : ∀ k, k ≠ o → k ≠ o → k < o + 29 → cl261 k = cl167 k := fun k h0 h9 hk => (FC24 k h0 h9 (by omega)).trans (g175 k h0)
  have FA22 : ∀ k, k < o + 25 → ad254 k = ad156 k := fun k hk => (FA23 k (by omega)).trans (g168 k (by omega))
  have FC22 : ∀ k, k ≠ o → k ≠ o → k < o + 24 → cl261 k = cl157 k := fun k h0 h9 hk => (FC23 k h0 h9 (by omega)).trans (g169 k (by omega))
  have FA21 : ∀ k, k < o + 24 → ad254 k = ad144 k := fun k hk => (FA22 k (by omega)).trans (g160 k (by omega))
  have FC21 : ∀ k, k ≠ o → k ≠ o → k < o + 24 → cl261 k = cl151 k := fun k h0 h9 hk => (FC22 k h0 h9 (by omega)).trans (g161 k (by omega))
  have FA20 : ∀ k, k < o + 24 → ad254 k = ad144 k := fun k hk => FA21 k (by omega)
  have FC20 : ∀ k, k ≠ o → k ≠ o → k < o + 24 → cl261 k = cl145 k := fun k h0 h9 hk => (FC21 k h0 h9 (by omega)).trans (g153 k h0)
  have FA19 : ∀ k, k < o + 23 → ad254 k = ad134 k := fun k hk => (FA20 k (by omega)).trans (g146 k (by omega))
  have FC19 : ∀ k, k ≠ o → k ≠ o → k < o + 22 → cl261 k = cl135 k := fun k h0 h9 hk => (FC20 k h0 h9 (by omega)).trans (g147 k (by omega))
  have FA18 : ∀ k, k < o + 22 → ad254 k = ad122 k := fun k hk => (FA19 k (by omega)).trans (g138 k (by omega))
  have FC18 : ∀ k, k ≠ o → k ≠ o → k < o + 22 → cl261 k = cl129 k := fun k h0 h9 hk => (FC19 k h0 h9 (by omega)).trans (g139 k (by omega))
  have FA17 : ∀ k, k < o + 22 → ad254 k = ad122 k := fun k hk => FA18 k (by omega)
  have FC17 : ∀ k, k ≠ o → k ≠ o → k < o + 22 → cl261 k = cl123 k := fun k h0 h9 hk => (FC18 k h0 h9 (by omega)).trans (g131 k h0)
  have FA16 : ∀ k, k < o + 21 → ad254 k = ad112 k := fun k hk => (FA17 k (by omega)).trans (g124 k (by omega))
  have FC16 : ∀ k, k ≠ o → k ≠ o → k < o + 20 → cl261 k = cl113 k := fun k h0 h9 hk => (FC17 k h0 h9 (by omega)).trans (g125 k (by omega))
  have FA15 : ∀ k, k < o + 20 → ad254 k = ad100 k := fun k hk => (FA16 k (by omega)).trans (g116 k (by omega))
  have FC15 : ∀ k, k ≠ o → k ≠ o → k < o + 20 → cl261 k = cl107 k := fun k h0 h9 hk => (FC16 k h0 h9 (by omega)).trans (g117 k (by omega))
  have FA14 : ∀ k, k < o + 20 → ad254 k = ad100 k := fun k hk => FA15 k (by omega)
  have FC14 : ∀ k, k ≠ o → k ≠ o → k < o + 20 → cl261 k = cl101 k := fun k h0 h9 hk => (FC15 k h0 h9 (by omega)).trans (g109 k h0)
  have FA13 : ∀ k, k < o + 19 → ad254 k = ad90 k := fun k hk => (FA14 k (by omega)).trans (g102 k (by omega))
  have FC13 : ∀ k, k ≠ o → k ≠ o → k < o + 18 → cl261 k = cl91 k := fun k h0 h9 hk => (FC14 k h0 h9 (by omega)).trans (g103 k (by omega))
  have FA12 : ∀ k, k < o + 18 → ad254 k = ad78 k := fun k hk => (FA13 k (by omega)).trans (g94 k (by omega))
  have FC12 : ∀ k, k ≠ o → k ≠ o → k < o + 18 → cl261 k = cl85 k := fun k h0 h9 hk => (FC13 k h0 h9 (by omega)).trans (g95 k (by omega))
  have FA11 : ∀ k, k < o + 18 → ad254 k = ad78 k := fun k hk => FA12 k (by omega)
  have FC11 : ∀ k, k ≠ o → k ≠ o → k < o + 18 → cl261 k = cl79 k := fun k h0 h9 hk => (FC12 k h0 h9 (by omega)).trans (g87 k h0)
  have FA10 : ∀ k, k < o + 14 → ad254 k = ad68 k := fun k hk => (FA11 k (by omega)).trans (g80 k (by omega))
  have FC10 : ∀ k, k ≠ o → k ≠ o → k < o + 13 → cl261 k = cl69 k := fun k h0 h9 hk => (FC11 k h0 h9 (by omega)).trans (g81 k (by omega))
  have FA9 : ∀ k, k < o + 13 → ad254 k = ad56 k := fun k hk => (FA10 k (by omega)).trans (g72 k (by omega))
  have FC9 : ∀ k, k ≠ o → k ≠ o → k < o + 13 → cl261 k = cl63 k := fun k h0 h9 hk => (FC10 k h0 h9 (by omega)).trans (g73 k (by omega))
  have FA8 : ∀ k, k < o + 13 → ad254 k = ad56 k := fun k hk => FA9 k (by omega)
  have FC8 : ∀ k, k ≠ o → k ≠ o → k < o + 13 → cl261 k = cl57 k := fun k h0 h9 hk => (FC9 k h0 h9 (by omega)).trans (g65 k h0)
  have FA7 : ∀ k, k < o + 12 → ad254 k = ad46 k := fun k hk => (FA8 k (by omega)).trans (g58 k (by omega))
  have FC7 : ∀ k, k ≠ o → k ≠ o → k < o + 11 → cl261 k = cl47 k := fun k h0 h9 hk => (FC8 k h0 h9 (by omega)).trans (g59 k (by omega))
  have FA6 : ∀ k, k < o + 11 → ad254 k = ad34 k := fun k hk => (FA7 k (by omega)).trans (g50 k (by omega))
  have FC6 : ∀ k, k ≠ o → k ≠ o → k < o + 11 → cl261 k = cl41 k := fun k h0 h9 hk => (FC7 k h0 h9 (by omega)).trans (g51 k (by omega))
  have FA5 : ∀ k, k < o + 11 → ad254 k = ad34 k := fun k hk => FA6 k (by omega)
  have FC5 : ∀ k, k ≠ o → k ≠ o → k < o + 11 → cl261 k = cl35 k := fun k h0 h9 hk => (FC6 k h0 h9 (by omega)).trans (g43 k h0)
  have FA4 : ∀ k, k < o + 7 → ad254 k = ad24 k := fun k hk => (FA5 k (by omega)).trans (g36 k (by omega))
  have FC4 : ∀ k, k ≠ o → k ≠ o → k < o + 6 → cl261 k = cl25 k := fun k h0 h9 hk => (FC5 k h0 h9 (by omega)).trans (g37 k (by omega))
  have FA3 : ∀ k, k < o + 6 → ad254 k = ad12 k := fun k hk => (FA4 k (by omega)).trans (g28 k (by omega))
  have FC3 : ∀ k, k ≠ o → k ≠ o → k < o + 6 → cl261 k = cl19 k := fun k h0 h9 hk => (FC4 k h0 h9 (by omega)).trans (g29 k (by omega))
  have FA2 : ∀ k, k < o + 6 → ad254 k = ad12 k := fun k hk => FA3 k (by omega)
  have FC2 : ∀ k, k ≠ o → k ≠ o → k < o + 6 → cl261 k = cl13 k := fun k h0 h9 hk => (FC3 k h0 h9 (by omega)).trans (g21 k h0)
  have FA1 : ∀ k, k < o + 2 → ad254 k = ad2 k := fun k hk => (FA2 k (by omega)).trans (g14 k (by omega))
  have FC1 : ∀ k, k ≠ o → k ≠ o → k < o + 1 → cl261 k = cl3 k := fun k h0 h9 hk => (FC2 k h0 h9 (by omega)).trans (g15 k (by omega))
  have FA0 : ∀ k, k < o + 1 → ad254 k = ad k := fun k hk => (FA1 k (by omega)).trans (g6 k (by omega))
  have FC0 : ∀ k, k ≠ o → k ≠ o → k < o + 1 → cl261 k = cl k := fun k h0 h9 hk => (FC1 k h0 h9 (by omega)).trans (g7 k (by omega))
  have b265 : Blk cl261 (o + 1) (bX8 G ad254 (o + 1)) := by rw [cg8 (n := 5) (Nat.le_refl _) (fun k h1 h2 => FA2 k (by omega))]; exact b16.tr (n := 5) (Nat.le_of_eq ln8) (fun k h1 h2 => FC2 k (by omega) (by omega) (by omega))
  have b266 : Blk cl261 (o + 6) (bX8 G ad254 (o + 6)) := by rw [cg8 (n := 5) (Nat.le_refl _) (fun k h1 h2 => FA5 k (by omega))]; exact b38.tr (n := 5) (Nat.le_of_eq ln8) (fun k h1 h2 => FC5 k (by omega) (by omega) (by omega))
  have b267 : Blk cl261 (o + 11) (bX5 G ad254 (o + 11)) := by rw [cg5 (n := 2) (Nat.le_refl _) (fun k h1 h2 => FA8 k (by omega))]; exact b60.tr (n := 2) (Nat.le_of_eq ln5) (fun k h1 h2 => FC8 k (by omega) (by omega) (by omega))
  have b268 : Blk cl261 (o + 13) (bX8 G ad254 (o + 13)) := by rw [cg8 (n := 5) (Nat.le_refl _) (fun k h1 h2 => FA11 k (by omega))]; exact b82.tr (n := 5) (Nat.le_of_eq ln8) (fun k h1 h2 => FC11 k (by omega) (by omega) (by omega))
  have b269 : Blk cl261 (o + 18) (bX5 G ad254 (o + 18)) := by rw [cg5 (n := 2) (Nat.le_refl _) (fun k h1 h2 => FA14 k (by omega))]; exact b104.tr (n := 2) (Nat.le_of_eq ln5) (fun k h1 h2 => FC14 k (by omega) (by omega) (by omega))
  have b270 : Blk cl261 (o + 20) (bX5 G ad254 (o + 20)) := by rw [cg5 (n := 2) (Nat.le_refl _) (fun k h1 h2 => FA17 k (by omega))]; exact b126.tr (n := 2) (Nat.le_of_eq ln5) (fun k h1 h2 => FC17 k (by omega) (by omega) (by omega))
  have b271 : Blk cl261 (o + 22) (bX5 G ad254 (o + 22)) := by rw [cg5 (n := 2) (Nat.le_refl _) (fun k h1 h2 => FA20 k (by omega))]; exact b148.tr (n := 2) (Nat.le_of_eq ln5) (fun k h1 h2 => FC20 k (by omega) (by omega) (by omega))
  have b272 : Blk cl261 (o + 24) (bX8 G ad254 (o + 24)) := by rw [cg8 (n := 5) (Nat.le_refl _) (fun k h1 h2 => FA23 k (by omega))]; exact b170.tr (n := 5) (Nat.le_of_eq ln8) (fun k h1 h2 => FC23 k (by omega) (by omega) (by omega))
  have b273 : Blk cl261 (o + 29) (bX5 G ad254 (o + 29)) := by rw [cg5 (n := 2) (Nat.le_refl _) (fun k h1 h2 => FA26 k (by omega))]; exact b192.tr (n := 2) (Nat.le_of_eq ln5) (fun k h1 h2 => FC26 k (by omega) (by omega) (by omega))
  have b274 : Blk cl261 (o + 31) (bX5 G ad254 (o + 31)) := by rw [cg5 (n := 2) (Nat.le_refl _) (fun k h1 h2 => FA29 k (by omega))]; exact b214.tr (n := 2) (Nat.le_of_eq ln5) (fun k h1 h2 => FC29 k (by omega) (by omega) (by omega))
  have b275 : Blk cl261 (o + 33) (bX5 G ad254 (o + 33)) := by rw [cg5 (n := 2) (Nat.le_refl _) (fun k h1 h2 => FA32 k (by omega))]; exact b236.tr (n := 2) (Nat.le_of_eq ln5) (fun k h1 h2 => FC32 k (by omega) (by omega) (by omega))
  have b276 : Blk cl261 (o + 35) (bX5 G ad254 (o + 35)) := by rw [cg5 (n := 2) (Nat.le_refl _) (fun k h1 h2 => FA35 k (by omega))]; exact b258.tr (n := 2) (Nat.le_of_eq ln5) (fun k h1 h2 => FC35 k (by omega) (by omega) (by omega))
  have z277 : ad254 (o + 1) = q1 := (FA1 (o + 1) (by omega)).trans a10
  have z278 : ad254 (o + 6) = q23 := (FA4 (o + 6) (by omega)).trans a32
  have z279 : ad254 (o + 11) = q45 := (FA7 (o + 11) (by omega)).trans a54
  have z280 : ad254 (o + 13) = q67 := (FA10 (o + 13) (by omega)).trans a76
  have z281 : ad254 (o + 18) = q89 := (FA13 (o + 18) (by omega)).trans a98
  have z282 : ad254 (o + 20) = q111 := (FA16 (o + 20) (by omega)).trans a120
  have z283 : ad254 (o + 22) = q133 := (FA19 (o + 22) (by omega)).trans a142
  have z284 : ad254 (o + 24) = q155 := (FA22 (o + 24) (by omega)).trans a164
  have z285 : ad254 (o + 29) = q177 := (FA25 (o + 29) (by omega)).trans a186
  have z286 : ad254 (o + 31) = q199 := (FA28 (o + 31) (by omega)).trans a208
  have z287 : ad254 (o + 33) = q221 := (FA31 (o + 33) (by omega)).trans a230
  have z288 : ad254 (o + 35) = q243 := (FA34 (o + 35) (by omega)).trans a252
  refine e_V X hr w ⟨ad254, cl261, rfl, fa, fc, ?_⟩ (Nat.le_of_ble_eq_true rfl) (Nat.le_of_ble_eq_true rfl) dX2_init_136
  refine Blk.cons ?_ (b265.app (by rw [ln8]) (b266.app (by rw [ln8]) (b267.app (by rw [ln5]) (b268.app (by rw [ln8]) (b269.app (by rw [ln5]) (b270.app (by rw [ln5]) (b271.app (by rw [ln5]) (b272.app (by rw [ln8]) (b273.app (by rw [ln5]) (b274.app (by rw [ln5]) (b275.app (by rw [ln5]) (b276))))))))))))
  rw [c264, z277, z278, z279, z280, z281, z282, z283, z284, z285, z286, z287, z288]
abbrev cX1_init : ByteArray := prog_3_method_1_code
def yX1_init : MethodName := ⟨RX1, "<init>", "(LTypeRoom$Purse;)V"⟩
theorem wcX1_init : Cond.code yX1_init cX1_init 2 none ∈ tb := tb_2 (i := 138) rfl rfl
theorem wi_1 : Cond.initialized RX1 ∈ tb := tb_1 (i := 11) (by decide +kernel) rfl
theorem wnX1_init : Cond.instanceMethod yX1_init ∈ tb := tb_2 (i := 137) (by decide +kernel) rfl
theorem YX1_init : Yi yX1_init cX1_init 2 1 := ⟨wcX1_init, wnX1_init, wi_1, rfl, by decide +kernel, by decide +kernel, by decide +kernel⟩
theorem dX1_init_0 : decode cX1_init 0 = .ok (.aload_n 0, 1) := by decide +kernel
theorem dX1_init_1 : decode cX1_init 1 = .ok (.invokespecial 3, 3) := by decide +kernel
theorem dX1_init_4 : decode cX1_init 4 = .ok (.aload_n 0, 1) := by decide +kernel
theorem dX1_init_5 : decode cX1_init 5 = .ok (.aload_n 1, 1) := by decide +kernel
theorem dX1_init_6 : decode cX1_init 6 = .ok (.putfield 9, 3) := by decide +kernel
theorem dX1_init_9 : decode cX1_init 9 = .ok (.aload_n 0, 1) := by decide +kernel
theorem dX1_init_10 : decode cX1_init 10 = .ok (.new 15, 3) := by decide +kernel
theorem dX1_init_13 : decode cX1_init 13 = .ok (.dup, 1) := by decide +kernel
theorem dX1_init_14 : decode cX1_init 14 = .ok (.invokespecial 17, 3) := by decide +kernel
theorem dX1_init_17 : decode cX1_init 17 = .ok (.putfield 18, 3) := by decide +kernel
theorem dX1_init_20 : decode cX1_init 20 = .ok (.aload_n 0, 1) := by decide +kernel
theorem dX1_init_21 : decode cX1_init 21 = .ok (.new 22, 3) := by decide +kernel
theorem dX1_init_24 : decode cX1_init 24 = .ok (.dup, 1) := by decide +kernel
theorem dX1_init_25 : decode cX1_init 25 = .ok (.invokespecial 24, 3) := by decide +kernel
theorem dX1_init_28 : decode cX1_init 28 = .ok (.putfield 25, 3) := by decide +kernel
theorem dX1_init_31 : decode cX1_init 31 = .ok (.aload_n 0, 1) := by decide +kernel
theorem dX1_init_32 : decode cX1_init 32 = .ok (.new 22, 3) := by decide +kernel
theorem dX1_init_35 : decode cX1_init 35 = .ok (.dup, 1) := by decide +kernel
theorem dX1_init_36 : decode cX1_init 36 = .ok (.invokespecial 24, 3) := by decide +kernel
theorem dX1_init_39 : decode cX1_init 39 = .ok (.putfield 29, 3) := by decide +kernel
theorem dX1_init_42 : decode cX1_init 42 = .ok (.aload_n 0, 1) := by decide +kernel
theorem dX1_init_43 : decode cX1_init 43 = .ok (.new 22, 3) := by decide +kernel
theorem dX1_init_46 : decode cX1_init 46 = .ok (.dup, 1) := by decide +kernel
theorem dX1_init_47 : decode cX1_init 47 = .ok (.invokespecial 24, 3) := by decide +kernel
theorem dX1_init_50 : decode cX1_init 50 = .ok (.putfield 32, 3) := by decide +kernel
theorem dX1_init_53 : decode cX1_init 53 = .ok (.aload_n 0, 1) := by decide +kernel
theorem dX1_init_54 : decode cX1_init 54 = .ok (.new 22, 3) := by decide +kernel
theorem dX1_init_57 : decode cX1_init 57 = .ok (.dup, 1) := by decide +kernel
theorem dX1_init_58 : decode cX1_init 58 = .ok (.invokespecial 24, 3) := by decide +kernel
theorem dX1_init_61 : decode cX1_init 61 = .ok (.putfield 35, 3) := by decide +kernel
theorem dX1_init_64 : decode cX1_init 64 = .ok (.aload_n 0, 1) := by decide +kernel
theorem dX1_init_65 : decode cX1_init 65 = .ok (.new 22, 3) := by decide +kernel
theorem dX1_init_68 : decode cX1_init 68 = .ok (.dup, 1) := by decide +kernel
theorem dX1_init_69 : decode cX1_init 69 = .ok (.invokespecial 24, 3) := by decide +kernel
theorem dX1_init_72 : decode cX1_init 72 = .ok (.putfield 38, 3) := by decide +kernel
theorem dX1_init_75 : decode cX1_init 75 = .ok (.aload_n 0, 1) := by decide +kernel
theorem dX1_init_76 : decode cX1_init 76 = .ok (.new 22, 3) := by decide +kernel
theorem dX1_init_79 : decode cX1_init 79 = .ok (.dup, 1) := by decide +kernel
theorem dX1_init_80 : decode cX1_init 80 = .ok (.invokespecial 24, 3) := by decide +kernel
theorem dX1_init_83 : decode cX1_init 83 = .ok (.putfield 41, 3) := by decide +kernel
theorem dX1_init_86 : decode cX1_init 86 = .ok (.aload_n 0, 1) := by decide +kernel
theorem dX1_init_87 : decode cX1_init 87 = .ok (.new 22, 3) := by decide +kernel
theorem dX1_init_90 : decode cX1_init 90 = .ok (.dup, 1) := by decide +kernel
theorem dX1_init_91 : decode cX1_init 91 = .ok (.invokespecial 24, 3) := by decide +kernel
theorem dX1_init_94 : decode cX1_init 94 = .ok (.putfield 44, 3) := by decide +kernel
theorem dX1_init_97 : decode cX1_init 97 = .ok (.aload_n 0, 1) := by decide +kernel
theorem dX1_init_98 : decode cX1_init 98 = .ok (.new 22, 3) := by decide +kernel
theorem dX1_init_101 : decode cX1_init 101 = .ok (.dup, 1) := by decide +kernel
theorem dX1_init_102 : decode cX1_init 102 = .ok (.invokespecial 24, 3) := by decide +kernel
theorem dX1_init_105 : decode cX1_init 105 = .ok (.putfield 47, 3) := by decide +kernel
theorem dX1_init_108 : decode cX1_init 108 = .ok (.return_, 1) := by decide +kernel
theorem k_RX1_3 : Cond.methodLink RX1 3 ⟨"java/lang/Object", "<init>", "()V"⟩ ∈ tb := tb_2 (i := 139) (by decide +kernel) rfl
theorem k_RX1_9 : Cond.fieldLink RX1 9 RX1 "purse" "LTypeRoom$Purse;" ∈ tb := tb_2 (i := 144) (by decide +kernel) rfl
theorem k_RX1_15 : Cond.classLink RX1 15 RX8 ∈ tb := tb_2 (i := 140) (by decide +kernel) rfl
theorem k_RX1_17 : Cond.methodLink RX1 17 yX8_init ∈ tb := tb_2 (i := 141) (by decide +kernel) rfl
theorem k_RX1_18 : Cond.fieldLink RX1 18 RX1 "made" "LTypeRoom$Shelf;" ∈ tb := tb_2 (i := 145) (by decide +kernel) rfl
theorem k_RX1_22 : Cond.classLink RX1 22 RX5 ∈ tb := tb_2 (i := 142) (by decide +kernel) rfl
theorem k_RX1_24 : Cond.methodLink RX1 24 yX5_init ∈ tb := tb_2 (i := 143) (by decide +kernel) rfl
theorem k_RX1_25 : Cond.fieldLink RX1 25 RX1 "origins" "LTypeRoom$Row;" ∈ tb := tb_2 (i := 149) (by decide +kernel) rfl
theorem k_RX1_29 : Cond.fieldLink RX1 29 RX1 "flags" "LTypeRoom$Row;" ∈ tb := tb_2 (i := 151) (by decide +kernel) rfl
theorem k_RX1_32 : Cond.fieldLink RX1 32 RX1 "flow" "LTypeRoom$Row;" ∈ tb := tb_2 (i := 153) (by decide +kernel) rfl
theorem k_RX1_35 : Cond.fieldLink RX1 35 RX1 "noteAt" "LTypeRoom$Row;" ∈ tb := tb_2 (i := 156) (by decide +kernel) rfl
theorem k_RX1_38 : Cond.fieldLink RX1 38 RX1 "noteFrom" "LTypeRoom$Row;" ∈ tb := tb_2 (i := 159) (by decide +kernel) rfl
theorem k_RX1_41 : Cond.fieldLink RX1 41 RX1 "noteTo" "LTypeRoom$Row;" ∈ tb := tb_2 (i := 162) (by decide +kernel) rfl
theorem k_RX1_44 : Cond.fieldLink RX1 44 RX1 "pageFrom" "LTypeRoom$Row;" ∈ tb := tb_2 (i := 165) (by decide +kernel) rfl
theorem k_RX1_47 : Cond.fieldLink RX1 47 RX1 "pageTo" "LTypeRoom$Row;" ∈ tb := tb_2 (i := 168) (by decide +kernel) rfl
def bX1 (G : Nat → ClassId) (ad : Nat → Nat) (b : Nat) (p0 : Nat) : List va_E := (.inr (1, [.ref p0, .ref (ad (b + 1)), .ref (ad (b + 6)), .ref (ad (b + 8)), .ref (ad (b + 10)), .ref (ad (b + 12)), .ref (ad (b + 14)), .ref (ad (b + 16)), .ref (ad (b + 18)), .ref (ad (b + 20)), .int (0)])) :: (bX8 G ad (b + 1) ++ (bX5 G ad (b + 6) ++ (bX5 G ad (b + 8) ++ (bX5 G ad (b + 10) ++ (bX5 G ad (b + 12) ++ (bX5 G ad (b + 14) ++ (bX5 G ad (b + 16) ++ (bX5 G ad (b + 18) ++ (bX5 G ad (b + 20))))))))))
theorem cg1 {G : Nat → ClassId} {ad ad' : Nat → Nat} {b n : Nat} {p0 : Nat} (hn : 22 ≤ n) (h : ∀ k, k < b + n → b ≤ k → ad' k = ad k) : bX1 G ad' b p0 = bX1 G ad b p0 := by
  simp only [bX1, h (b + 1) (by omega) (by omega), h (b + 6) (by omega) (by omega), h (b + 8) (by omega) (by omega), h (b + 10) (by omega) (by omega), h (b + 12) (by omega) (by omega), h (b + 14) (by omega) (by omega), h (b + 16) (by omega) (by omega), h (b + 18) (by omega) (by omega), h (b + 20) (by omega) (by omega), cg8 (b := b + 1) (n := 5) (Nat.le_refl _) (fun k h1 h2 => h k (by omega) (by omega)), cg5 (b := b + 6) (n := 2) (Nat.le_refl _) (fun k h1 h2 => h k (by omega) (by omega)), cg5 (b := b + 8) (n := 2) (Nat.le_refl _) (fun k h1 h2 => h k (by omega) (by omega)), cg5 (b := b + 10) (n := 2) (Nat.le_refl _) (fun k h1 h2 => h k (by omega) (by omega)), cg5 (b := b + 12) (n := 2) (Nat.le_refl _) (fun k h1 h2 => h k (by omega) (by omega)), cg5 (b := b + 14) (n := 2) (Nat.le_refl _) (fun k h1 h2 => h k (by omega) (by omega)), cg5 (b := b + 16) (n := 2) (Nat.le_refl _) (fun k h1 h2 => h k (by omega) (by omega)), cg5 (b := b + 18) (n := 2) (Nat.le_refl _) (fun k h1 h2 => h k (by omega) (by omega)), cg5 (b := b + 20) (n := 2) (Nat.le_refl _) (fun k h1 h2 => h k (by omega) (by omega))]
theorem ln1 {G : Nat → ClassId} {ad : Nat → Nat} {b : Nat} {p0 : Nat} : (bX1 G ad b p0).length = 22 := by
  simp only [bX1, List.length_cons, List.length_append, List.length_nil, ln5, ln8]
set_option maxHeartbeats 4000000 in
set_option maxRecDepth 100000 in
theorem cn_1 (l : Launch) (D : va_G) (G : Nat → ClassId) (t : Nat → Nat) (N : Nat) (ad : Nat → Nat) (cl : Nat → va_E) (o : Nat) (hiN : o + 1 = N) (hc0 : cl o = .inr (1, [.null, .null, .null, .null, .null, .null, .null, .null, .null, .null, .int 0])) (p0 : Nat) (d : Nat) (hd : 3 ≤ d) : CtV l yX1_init cX1_init 2 (rmD d 21 182) D G t (N, ad, cl) [.ref (ad o), .ref p0] (fun u => ∃ ad' cl', u = (o + 22, ad', cl') ∧ (∀ k, k < o + 1 → ad' k = ad k) ∧ (∀ k, k < o → cl' k = cl k) ∧ Blk cl' o (bX1 G ad' o p0)) := by
  subst hiN
  refine ct_V (own := RX1) (by decide +kernel) rfl (Nat.le_of_ble_eq_true rfl) rfl ?_
  intro p e s m args below meth c A ls X hr hin hl w
  obtain ⟨hx, hb, hml, hown, hts, -⟩ := id X
  have hl : lv_has ls 2 [(0, .ref (ad (o))), (1, .ref (p0))] := hl
  have fa : ∀ k, k < o + 1 → ad k = ad k := fun _ _ => rfl
  have fc : ∀ k, k < o → cl k = cl k := fun _ _ => rfl
  refine lv_aload_n hx hb dX1_init_0 rfl (lv_at hl 0 rfl) ?_
  refine g_oinit X hl.1 k_RX1_3 dX1_init_1 (by decide) ⟨by show 1 ≤ d; omega, rm_loc (by omega) (by decide)⟩ ?_
  refine lv_aload_n hx hb dX1_init_4 rfl (lv_at hl 0 rfl) ?_
  refine lv_aload_n hx hb dX1_init_5 rfl (lv_at hl 1 rfl) ?_
  refine g_putF X w (o) rfl (by omega) hc0 kc1 0 (by decide) rfl rfl k_RX1_9 rfl hin rfl rfl (Nat.le_of_ble_eq_true rfl) dX1_init_6 (fun H locs w => ?_)
  have w : Wd D A s H locs (o + 1) ad (va_up cl (o) (.inr (1, [.ref (p0), .null, .null, .null, .null, .null, .null, .null, .null, .null, .int (0)]))) := w
  generalize e2 : va_up cl (o) (.inr (1, [.ref (p0), .null, .null, .null, .null, .null, .null, .null, .null, .null, .int (0)])) = cl1 at w
  have g3 : ∀ k, k ≠ o → cl1 k = cl k := fun k hk => by rw [← e2, va_up_ne _ _ hk]
  have c4 : cl1 (o) = .inr (1, [.ref (p0), .null, .null, .null, .null, .null, .null, .null, .null, .null, .int (0)]) := by rw [← e2, va_up_self]
  have fc : ∀ k, k < o → cl1 k = cl k := fun k hk => (g3 (k) (by omega)).trans (fc k hk)
  refine lv_aload_n hx hb dX1_init_9 rfl (lv_at hl 0 rfl) ?_
  refine g_new X w kc8 k_RX1_15 wt_8 wi_8 bl_8 (Nat.le_of_ble_eq_true rfl) (Nat.le_of_ble_eq_true rfl) dX1_init_10 (fun q5 H w => ?_)
  generalize e8 : va_up ad (o + 1) q5 = ad6 at w
  generalize e9 : va_up cl1 (o + 1) (.inr (8, [.null, .null])) = cl7 at w
  have g10 : ∀ k, k < o + 1 → ad6 k = ad k := fun k hk => by rw [← e8, va_up_ne _ _ (by omega)]
  have g11 : ∀ k, k < o + 1 → cl7 k = cl1 k := fun k hk => by rw [← e9, va_up_ne _ _ (by omega)]
  have a12 : ad6 (o) = ad (o) := g10 (o) (by omega)
  have c13 : cl7 (o) = .inr (1, [.ref (p0), .null, .null, .null, .null, .null, .null, .null, .null, .null, .int (0)]) := (g11 (o) (by omega)).trans c4
  have fa : ∀ k, k < o + 1 → ad6 k = ad k := fun k hk => (g10 (k) (by omega)).trans (fa k hk)
  have fc : ∀ k, k < o → cl7 k = cl k := fun k hk => (g11 (k) (by omega)).trans (fc k hk)
  have a14 : ad6 (o + 1) = q5 := by rw [← e8, va_up_self]
  have c15 : cl7 (o + 1) = .inr (8, [.null, .null]) := by rw [← e9, va_up_self]
  refine lv_dup hx hb dX1_init_13 rfl ?_
  refine c_init (As := []) (rest := [.ref (q5), .ref (ad (o))]) X w (cn_8 l D G t (o + 2) ad6 cl7 (o + 1) rfl c15 (d - 1) (by omega)) YX8_init k_RX1_17 (by rw [a14]) rfl rfl hl.1 (rm_call (by omega) (by decide)) (Nat.le_of_ble_eq_true rfl) dX1_init_14 (⟨Nat.le_of_ble_eq_true rfl, Nat.le_of_ble_eq_true rfl⟩) (fun u H locs hp w => ?_)
  obtain ⟨ad16, cl17, rfl, g18, g19, b20⟩ := hp
  have w : Wd D A s H locs (o + 6) ad16 cl17 := w
  have b20 : Blk cl17 (o + 1) (bX8 G ad16 (o + 1)) := b20
  have a21 : ad16 (o) = ad (o) := (g18 (o) (by omega)).trans a12
  have c22 : cl17 (o) = .inr (1, [.ref (p0), .null, .null, .null, .null, .null, .null, .null, .null, .null, .int (0)]) := (g19 (o) (by omega)).trans c13
  have fa : ∀ k, k < o + 1 → ad16 k = ad k := fun k hk => (g18 (k) (by omega)).trans (fa k hk)
  have fc : ∀ k, k < o → cl17 k = cl k := fun k hk => (g19 (k) (by omega)).trans (fc k hk)
  refine g_putF X w (o) a21 (by omega) c22 kc1 1 (by decide) rfl rfl k_RX1_18 rfl hin rfl rfl (Nat.le_of_ble_eq_true rfl) dX1_init_17 (fun H locs w => ?_)
  have w : Wd D A s H locs (o + 6) ad16 (va_up cl17 (o) (.inr (1, [.ref (p0), .ref (q5), .null, .null, .null, .null, .null, .null, .null, .null, .int (0)]))) := w
  generalize e24 : va_up cl17 (o) (.inr (1, [.ref (p0), .ref (q5), .null, .null, .null, .null, .null, .null, .null, .null, .int (0)])) = cl23 at w
  have g25 : ∀ k, k ≠ o → cl23 k = cl17 k := fun k hk => by rw [← e24, va_up_ne _ _ hk]
  have c26 : cl23 (o) = .inr (1, [.ref (p0), .ref (q5), .null, .null, .null, .null, .null, .null, .null, .null, .int (0)]) := by rw [← e24, va_up_self]
  have fc : ∀ k, k < o → cl23 k = cl k := fun k hk => (g25 (k) (by omega)).trans (fc k hk)
  refine lv_aload_n hx hb dX1_init_20 rfl (lv_at hl 0 rfl) ?_
  refine g_new X w kc5 k_RX1_22 wt_5 wi_5 bl_5 (Nat.le_of_ble_eq_true rfl) (Nat.le_of_ble_eq_true rfl) dX1_init_21 (fun q27 H w => ?_)
  generalize e30 : va_up ad16 (o + 6) q27 = ad28 at w
  generalize e31 : va_up cl23 (o + 6) (.inr (5, [.null, .int 0])) = cl29 at w
  have g32 : ∀ k, k < o + 6 → ad28 k = ad16 k := fun k hk => by rw [← e30, va_up_ne _ _ (by omega)]
  have g33 : ∀ k, k < o + 6 → cl29 k = cl23 k := fun k hk => by rw [← e31, va_up_ne _ _ (by omega)]
  have a34 : ad28 (o) = ad (o) := (g32 (o) (by omega)).trans a21
  have c35 : cl29 (o) = .inr (1, [.ref (p0), .ref (q5), .null, .null, .null, .null, .null, .null, .null, .null, .int (0)]) := (g33 (o) (by omega)).trans c26
  have fa : ∀ k, k < o + 1 → ad28 k = ad k := fun k hk => (g32 (k) (by omega)).trans (fa k hk)
  have fc : ∀ k, k < o → cl29 k = cl k := fun k hk => (g33 (k) (by omega)).trans (fc k hk)
  have a36 : ad28 (o + 6) = q27 := by rw [← e30, va_up_self]
  have c37 : cl29 (o + 6) = .inr (5, [.null, .int 0]) := by rw [← e31, va_up_self]
  refine lv_dup hx hb dX1_init_24 rfl ?_
  refine c_init (As := []) (rest := [.ref (q27), .ref (ad (o))]) X w (cn_5 l D G t (o + 7) ad28 cl29 (o + 6) rfl c37 (d - 1) (by omega)) YX5_init k_RX1_24 (by rw [a36]) rfl rfl hl.1 (rm_call (by omega) (by decide)) (Nat.le_of_ble_eq_true rfl) dX1_init_25 (⟨Nat.le_of_ble_eq_true rfl, Nat.le_of_ble_eq_true rfl⟩) (fun u H locs hp w => ?_)
  obtain ⟨ad38, cl39, rfl, g40, g41, b42⟩ := hp
  have w : Wd D A s H locs (o + 8) ad38 cl39 := w
  have b42 : Blk cl39 (o + 6) (bX5 G ad38 (o + 6)) := b42
  have a43 : ad38 (o) = ad (o) := (g40 (o) (by omega)).trans a34
  have c44 : cl39 (o) = .inr (1, [.ref (p0), .ref (q5), .null, .null, .null, .null, .null, .null, .null, .null, .int (0)]) := (g41 (o) (by omega)).trans c35
  have fa : ∀ k, k < o + 1 → ad38 k = ad k := fun k hk => (g40 (k) (by omega)).trans (fa k hk)
  have fc : ∀ k, k < o → cl39 k = cl k := fun k hk => (g41 (k) (by omega)).trans (fc k hk)
  refine g_putF X w (o) a43 (by omega) c44 kc1 2 (by decide) rfl rfl k_RX1_25 rfl hin rfl rfl (Nat.le_of_ble_eq_true rfl) dX1_init_28 (fun H locs w => ?_)
  have w : Wd D A s H locs (o + 8) ad38 (va_up cl39 (o) (.inr (1, [.ref (p0), .ref (q5), .ref (q27), .null, .null, .null, .null, .null, .null, .null, .int (0)]))) := w
  generalize e46 : va_up cl39 (o) (.inr (1, [.ref (p0), .ref (q5), .ref (q27), .null, .null, .null, .null, .null, .null, .null, .int (0)])) = cl45 at w
  have g47 : ∀ k, k ≠ o → cl45 k = cl39 k := fun k hk => by rw [← e46, va_up_ne _ _ hk]
  have c48 : cl45 (o) = .inr (1, [.ref (p0), .ref (q5), .ref (q27), .null, .null, .null, .null, .null, .null, .null, .int (0)]) := by rw [← e46, va_up_self]
  have fc : ∀ k, k < o → cl45 k = cl k := fun k hk => (g47 (k) (by omega)).trans (fc k hk)
  refine lv_aload_n hx hb dX1_init_31 rfl (lv_at hl 0 rfl) ?_
  refine g_new X w kc5 k_RX1_22 wt_5 wi_5 bl_5 (Nat.le_of_ble_eq_true rfl) (Nat.le_of_ble_eq_true rfl) dX1_init_32 (fun q49 H w => ?_)
  generalize e52 : va_up ad38 (o + 8) q49 = ad50 at w
  generalize e53 : va_up cl45 (o + 8) (.inr (5, [.null, .int 0])) = cl51 at w
  have g54 : ∀ k, k < o + 8 → ad50 k = ad38 k := fun k hk => by rw [← e52, va_up_ne _ _ (by omega)]
  have g55 : ∀ k, k < o + 8 → cl51 k = cl45 k := fun k hk => by rw [← e53, va_up_ne _ _ (by omega)]
  have a56 : ad50 (o) = ad (o) := (g54 (o) (by omega)).trans a43
  have c57 : cl51 (o) = .inr (1, [.ref (p0), .ref (q5), .ref (q27), .null, .null, .null, .null, .null, .null, .null, .int (0)]) := (g55 (o) (by omega)).trans c48
  have fa : ∀ k, k < o + 1 → ad50 k = ad k := fun k hk => (g54 (k) (by omega)).trans (fa k hk)
  have fc : ∀ k, k < o → cl51 k = cl k := fun k hk => (g55 (k) (by omega)).trans (fc k hk)
  have a58 : ad50 (o + 8) = q49 := by rw [← e52, va_up_self]
  have c59 : cl51 (o + 8) = .inr (5, [.null, .int 0]) := by rw [← e53, va_up_self]
  refine lv_dup hx hb dX1_init_35 rfl ?_
  refine c_init (As := []) (rest := [.ref (q49), .ref (ad (o))]) X w (cn_5 l D G t (o + 9) ad50 cl51 (o + 8) rfl c59 (d - 1) (by omega)) YX5_init k_RX1_24 (by rw [a58]) rfl rfl hl.1 (rm_call (by omega) (by decide)) (Nat.le_of_ble_eq_true rfl) dX1_init_36 (⟨Nat.le_of_ble_eq_true rfl, Nat.le_of_ble_eq_true rfl⟩) (fun u H locs hp w => ?_)
  obtain ⟨ad60, cl61, rfl, g62, g63, b64⟩ := hp
  have w : Wd D A s H locs (o + 10) ad60 cl61 := w
  have b64 : Blk cl61 (o + 8) (bX5 G ad60 (o + 8)) := b64
  have a65 : ad60 (o) = ad (o) := (g62 (o) (by omega)).trans a56
  have c66 : cl61 (o) = .inr (1, [.ref (p0), .ref (q5), .ref (q27), .null, .null, .null, .null, .null, .null, .null, .int (0)]) := (g63 (o) (by omega)).trans c57
  have fa : ∀ k, k < o + 1 → ad60 k = ad k := fun k hk => (g62 (k) (by omega)).trans (fa k hk)
  have fc : ∀ k, k < o → cl61 k = cl k := fun k hk => (g63 (k) (by omega)).trans (fc k hk)
  refine g_putF X w (o) a65 (by omega) c66 kc1 3 (by decide) rfl rfl k_RX1_29 rfl hin rfl rfl (Nat.le_of_ble_eq_true rfl) dX1_init_39 (fun H locs w => ?_)
  have w : Wd D A s H locs (o + 10) ad60 (va_up cl61 (o) (.inr (1, [.ref (p0), .ref (q5), .ref (q27), .ref (q49), .null, .null, .null, .null, .null, .null, .int (0)]))) := w
  generalize e68 : va_up cl61 (o) (.inr (1, [.ref (p0), .ref (q5), .ref (q27), .ref (q49), .null, .null, .null, .null, .null, .null, .int (0)])) = cl67 at w
  have g69 : ∀ k, k ≠ o → cl67 k = cl61 k := fun k hk => by rw [← e68, va_up_ne _ _ hk]
  have c70 : cl67 (o) = .inr (1, [.ref (p0), .ref (q5), .ref (q27), .ref (q49), .null, .null, .null, .null, .null, .null, .int (0)]) := by rw [← e68, va_up_self]
  have fc : ∀ k, k < o → cl67 k = cl k := fun k hk => (g69 (k) (by omega)).trans (fc k hk)
  refine lv_aload_n hx hb dX1_init_42 rfl (lv_at hl 0 rfl) ?_
  refine g_new X w kc5 k_RX1_22 wt_5 wi_5 bl_5 (Nat.le_of_ble_eq_true rfl) (Nat.le_of_ble_eq_true rfl) dX1_init_43 (fun q71 H w => ?_)
  generalize e74 : va_up ad60 (o + 10) q71 = ad72 at w
  generalize e75 : va_up cl67 (o + 10) (.inr (5, [.null, .int 0])) = cl73 at w
  have g76 : ∀ k, k < o + 10 → ad72 k = ad60 k := fun k hk => by rw [← e74, va_up_ne _ _ (by omega)]
  have g77 : ∀ k, k < o + 10 → cl73 k = cl67 k := fun k hk => by rw [← e75, va_up_ne _ _ (by omega)]
  have a78 : ad72 (o) = ad (o) := (g76 (o) (by omega)).trans a65
  have c79 : cl73 (o) = .inr (1, [.ref (p0), .ref (q5), .ref (q27), .ref (q49), .null, .null, .null, .null, .null, .null, .int (0)]) := (g77 (o) (by omega)).trans c70
  have fa : ∀ k, k < o + 1 → ad72 k = ad k := fun k hk => (g76 (k) (by omega)).trans (fa k hk)
  have fc : ∀ k, k < o → cl73 k = cl k := fun k hk => (g77 (k) (by omega)).trans (fc k hk)
  have a80 : ad72 (o + 10) = q71 := by rw [← e74, va_up_self]
  have c81 : cl73 (o + 10) = .inr (5, [.null, .int 0]) := by rw [← e75, va_up_self]
  refine lv_dup hx hb dX1_init_46 rfl ?_
  refine c_init (As := []) (rest := [.ref (q71), .ref (ad (o))]) X w (cn_5 l D G t (o + 11) ad72 cl73 (o + 10) rfl c81 (d - 1) (by omega)) YX5_init k_RX1_24 (by rw [a80]) rfl rfl hl.1 (rm_call (by omega) (by decide)) (Nat.le_of_ble_eq_true rfl) dX1_init_47 (⟨Nat.le_of_ble_eq_true rfl, Nat.le_of_ble_eq_true rfl⟩) (fun u H locs hp w => ?_)
  obtain ⟨ad82, cl83, rfl, g84, g85, b86⟩ := hp
  have w : Wd D A s H locs (o + 12) ad82 cl83 := w
  have b86 : Blk cl83 (o + 10) (bX5 G ad82 (o + 10)) := b86
  have a87 : ad82 (o) = ad (o) := (g84 (o) (by omega)).trans a78
  have c88 : cl83 (o) = .inr (1, [.ref (p0), .ref (q5), .ref (q27), .ref (q49), .null, .null, .null, .null, .null, .null, .int (0)]) := (g85 (o) (by omega)).trans c79
  have fa : ∀ k, k < o + 1 → ad82 k = ad k := fun k hk => (g84 (k) (by omega)).trans (fa k hk)
  have fc : ∀ k, k < o → cl83 k = cl k := fun k hk => (g85 (k) (by omega)).trans (fc k hk)
  refine g_putF X w (o) a87 (by omega) c88 kc1 4 (by decide) rfl rfl k_RX1_32 rfl hin rfl rfl (Nat.le_of_ble_eq_true rfl) dX1_init_50 (fun H locs w => ?_)
  have w : Wd D A s H locs (o + 12) ad82 (va_up cl83 (o) (.inr (1, [.ref (p0), .ref (q5), .ref (q27), .ref (q49), .ref (q71), .null, .null, .null, .null, .null, .int (0)]))) := w
  generalize e90 : va_up cl83 (o) (.inr (1, [.ref (p0), .ref (q5), .ref (q27), .ref (q49), .ref (q71), .null, .null, .null, .null, .null, .int (0)])) = cl89 at w
  have g91 : ∀ k, k ≠ o → cl89 k = cl83 k := fun k hk => by rw [← e90, va_up_ne _ _ hk]
  have c92 : cl89 (o) = .inr (1, [.ref (p0), .ref (q5), .ref (q27), .ref (q49), .ref (q71), .null, .null, .null, .null, .null, .int (0)]) := by rw [← e90, va_up_self]
  have fc : ∀ k, k < o → cl89 k = cl k := fun k hk => (g91 (k) (by omega)).trans (fc k hk)
  refine lv_aload_n hx hb dX1_init_53 rfl (lv_at hl 0 rfl) ?_
  refine g_new X w kc5 k_RX1_22 wt_5 wi_5 bl_5 (Nat.le_of_ble_eq_true rfl) (Nat.le_of_ble_eq_true rfl) dX1_init_54 (fun q93 H w => ?_)
  generalize e96 : va_up ad82 (o + 12) q93 = ad94 at w
  generalize e97 : va_up cl89 (o + 12) (.inr (5, [.null, .int 0])) = cl95 at w
  have g98 : ∀ k, k < o + 12 → ad94 k = ad82 k := fun k hk => by rw [← e96, va_up_ne _ _ (by omega)]
  have g99 : ∀ k, k < o + 12 → cl95 k = cl89 k := fun k hk => by rw [← e97, va_up_ne _ _ (by omega)]
  have a100 : ad94 (o) = ad (o) := (g98 (o) (by omega)).trans a87
  have c101 : cl95 (o) = .inr (1, [.ref (p0), .ref (q5), .ref (q27), .ref (q49), .ref (q71), .null, .null, .null, .null, .null, .int (0)]) := (g99 (o) (by omega)).trans c92
  have fa : ∀ k, k < o + 1 → ad94 k = ad k := fun k hk => (g98 (k) (by omega)).trans (fa k hk)
  have fc : ∀ k, k < o → cl95 k = cl k := fun k hk => (g99 (k) (by omega)).trans (fc k hk)
  have a102 : ad94 (o + 12) = q93 := by rw [← e96, va_up_self]
  have c103 : cl95 (o + 12) = .inr (5, [.null, .int 0]) := by rw [← e97, va_up_self]
  refine lv_dup hx hb dX1_init_57 rfl ?_
  refine c_init (As := []) (rest := [.ref (q93), .ref (ad (o))]) X w (cn_5 l D G t (o + 13) ad94 cl95 (o + 12) rfl c103 (d - 1) (by omega)) YX5_init k_RX1_24 (by rw [a102]) rfl rfl hl.1 (rm_call (by omega) (by decide)) (Nat.le_of_ble_eq_true rfl) dX1_init_58 (⟨Nat.le_of_ble_eq_true rfl, Nat.le_of_ble_eq_true rfl⟩) (fun u H locs hp w => ?_)
  obtain ⟨ad104, cl105, rfl, g106, g107, b108⟩ := hp
  have w : Wd D A s H locs (o + 14) ad104 cl105 := w
  have b108 : Blk cl105 (o + 12) (bX5 G ad104 (o + 12)) := b108
  have a109 : ad104 (o) = ad (o) := (g106 (o) (by omega)).trans a100
  have c110 : cl105 (o) = .inr (1, [.ref (p0), .ref (q5), .ref (q27), .ref (q49), .ref (q71), .null, .null, .null, .null, .null, .int (0)]) := (g107 (o) (by omega)).trans c101
  have fa : ∀ k, k < o + 1 → ad104 k = ad k := fun k hk => (g106 (k) (by omega)).trans (fa k hk)
  have fc : ∀ k, k < o → cl105 k = cl k := fun k hk => (g107 (k) (by omega)).trans (fc k hk)
  refine g_putF X w (o) a109 (by omega) c110 kc1 5 (by decide) rfl rfl k_RX1_35 rfl hin rfl rfl (Nat.le_of_ble_eq_true rfl) dX1_init_61 (fun H locs w => ?_)
  have w : Wd D A s H locs (o + 14) ad104 (va_up cl105 (o) (.inr (1, [.ref (p0), .ref (q5), .ref (q27), .ref (q49), .ref (q71), .ref (q93), .null, .null, .null, .null, .int (0)]))) := w
  generalize e112 : va_up cl105 (o) (.inr (1, [.ref (p0), .ref (q5), .ref (q27), .ref (q49), .ref (q71), .ref (q93), .null, .null, .null, .null, .int (0)])) = cl111 at w
  have g113 : ∀ k, k ≠ o → cl111 k = cl105 k := fun k hk => by rw [← e112, va_up_ne _ _ hk]
  have c114 : cl111 (o) = .inr (1, [.ref (p0), .ref (q5), .ref (q27), .ref (q49), .ref (q71), .ref (q93), .null, .null, .null, .null, .int (0)]) := by rw [← e112, va_up_self]
  have fc : ∀ k, k < o → cl111 k = cl k := fun k hk => (g113 (k) (by omega)).trans (fc k hk)
  refine lv_aload_n hx hb dX1_init_64 rfl (lv_at hl 0 rfl) ?_
  refine g_new X w kc5 k_RX1_22 wt_5 wi_5 bl_5 (Nat.le_of_ble_eq_true rfl) (Nat.le_of_ble_eq_true rfl) dX1_init_65 (fun q115 H w => ?_)
  generalize e118 : va_up ad104 (o + 14) q115 = ad116 at w
  generalize e119 : va_up cl111 (o + 14) (.inr (5, [.null, .int 0])) = cl117 at w
  have g120 : ∀ k, k < o + 14 → ad116 k = ad104 k := fun k hk => by rw [← e118, va_up_ne _ _ (by omega)]
  have g121 : ∀ k, k < o + 14 → cl117 k = cl111 k := fun k hk => by rw [← e119, va_up_ne _ _ (by omega)]
  have a122 : ad116 (o) = ad (o) := (g120 (o) (by omega)).trans a109
  have c123 : cl117 (o) = .inr (1, [.ref (p0), .ref (q5), .ref (q27), .ref (q49), .ref (q71), .ref (q93), .null, .null, .null, .null, .int (0)]) := (g121 (o) (by omega)).trans c114
  have fa : ∀ k, k < o + 1 → ad116 k = ad k := fun k hk => (g120 (k) (by omega)).trans (fa k hk)
  have fc : ∀ k, k < o → cl117 k = cl k := fun k hk => (g121 (k) (by omega)).trans (fc k hk)
  have a124 : ad116 (o + 14) = q115 := by rw [← e118, va_up_self]
  have c125 : cl117 (o + 14) = .inr (5, [.null, .int 0]) := by rw [← e119, va_up_self]
  refine lv_dup hx hb dX1_init_68 rfl ?_
  refine c_init (As := []) (rest := [.ref (q115), .ref (ad (o))]) X w (cn_5 l D G t (o + 15) ad116 cl117 (o + 14) rfl c125 (d - 1) (by omega)) YX5_init k_RX1_24 (by rw [a124]) rfl rfl hl.1 (rm_call (by omega) (by decide)) (Nat.le_of_ble_eq_true rfl) dX1_init_69 (⟨Nat.le_of_ble_eq_true rfl, Nat.le_of_ble_eq_true rfl⟩) (fun u H locs hp w => ?_)
  obtain ⟨ad126, cl127, rfl, g128, g129, b130⟩ := hp
  have w : Wd D A s H locs (o + 16) ad126 cl127 := w
  have b130 : Blk cl127 (o + 14) (bX5 G ad126 (o + 14)) := b130
  have a131 : ad126 (o) = ad (o) := (g128 (o) (by omega)).trans a122
  have c132 : cl127 (o) = .inr (1, [.ref (p0), .ref (q5), .ref (q27), .ref (q49), .ref (q71), .ref (q93), .null, .null, .null, .null, .int (0)]) := (g129 (o) (by omega)).trans c123
  have fa : ∀ k, k < o + 1 → ad126 k = ad k := fun k hk => (g128 (k) (by omega)).trans (fa k hk)
  have fc : ∀ k, k < o → cl127 k = cl k := fun k hk => (g129 (k) (by omega)).trans (fc k hk)
  refine g_putF X w (o) a131 (by omega) c132 kc1 6 (by decide) rfl rfl k_RX1_38 rfl hin rfl rfl (Nat.le_of_ble_eq_true rfl) dX1_init_72 (fun H locs w => ?_)
  have w : Wd D A s H locs (o + 16) ad126 (va_up cl127 (o) (.inr (1, [.ref (p0), .ref (q5), .ref (q27), .ref (q49), .ref (q71), .ref (q93), .ref (q115), .null, .null, .null, .int (0)]))) := w
  generalize e134 : va_up cl127 (o) (.inr (1, [.ref (p0), .ref (q5), .ref (q27), .ref (q49), .ref (q71), .ref (q93), .ref (q115), .null, .null, .null, .int (0)])) = cl133 at w
  have g135 : ∀ k, k ≠ o → cl133 k = cl127 k := fun k hk => by rw [← e134, va_up_ne _ _ hk]
  have c136 : cl133 (o) = .inr (1, [.ref (p0), .ref (q5), .ref (q27), .ref (q49), .ref (q71), .ref (q93), .ref (q115), .null, .null, .null, .int (0)]) := by rw [← e134, va_up_self]
  have fc : ∀ k, k < o → cl133 k = cl k := fun k hk => (g135 (k) (by omega)).trans (fc k hk)
  refine lv_aload_n hx hb dX1_init_75 rfl (lv_at hl 0 rfl) ?_
  refine g_new X w kc5 k_RX1_22 wt_5 wi_5 bl_5 (Nat.le_of_ble_eq_true rfl) (Nat.le_of_ble_eq_true rfl) dX1_init_76 (fun q137 H w => ?_)
  generalize e140 : va_up ad126 (o + 16) q137 = ad138 at w
  generalize e141 : va_up cl133 (o + 16) (.inr (5, [.null, .int 0])) = cl139 at w
  have g142 : ∀ k, k < o + 16 → ad138 k = ad126 k := fun k hk => by rw [← e140, va_up_ne _ _ (by omega)]
  have g143 : ∀ k, k < o + 16 → cl139 k = cl133 k := fun k hk => by rw [← e141, va_up_ne _ _ (by omega)]
  have a144 : ad138 (o) = ad (o) := (g142 (o) (by omega)).trans a131
  have c145 : cl139 (o) = .inr (1, [.ref (p0), .ref (q5), .ref (q27), .ref (q49), .ref (q71), .ref (q93), .ref (q115), .null, .null, .null, .int (0)]) := (g143 (o) (by omega)).trans c136
  have fa : ∀ k, k < o + 1 → ad138 k = ad k := fun k hk => (g142 (k) (by omega)).trans (fa k hk)
  have fc : ∀ k, k < o → cl139 k = cl k := fun k hk => (g143 (k) (by omega)).trans (fc k hk)
  have a146 : ad138 (o + 16) = q137 := by rw [← e140, va_up_self]
  have c147 : cl139 (o + 16) = .inr (5, [.null, .int 0]) := by rw [← e141, va_up_self]
  refine lv_dup hx hb dX1_init_79 rfl ?_
  refine c_init (As := []) (rest := [.ref (q137), .ref (ad (o))]) X w (cn_5 l D G t (o + 17) ad138 cl139 (o + 16) rfl c147 (d - 1) (by omega)) YX5_init k_RX1_24 (by rw [a146]) rfl rfl hl.1 (rm_call (by omega) (by decide)) (Nat.le_of_ble_eq_true rfl) dX1_init_80 (⟨Nat.le_of_ble_eq_true rfl, Nat.le_of_ble_eq_true rfl⟩) (fun u H locs hp w => ?_)
  obtain ⟨ad148, cl149, rfl, g150, g151, b152⟩ := hp
  have w : Wd D A s H locs (o + 18) ad148 cl149 := w
  have b152 : Blk cl149 (o + 16) (bX5 G ad148 (o + 16)) := b152
  have a153 : ad148 (o) = ad (o) := (g150 (o) (by omega)).trans a144
  have c154 : cl149 (o) = .inr (1, [.ref (p0), .ref (q5), .ref (q27), .ref (q49), .ref (q71), .ref (q93), .ref (q115), .null, .null, .null, .int (0)]) := (g151 (o) (by omega)).trans c145
  have fa : ∀ k, k < o + 1 → ad148 k = ad k := fun k hk => (g150 (k) (by omega)).trans (fa k hk)
  have fc : ∀ k, k < o → cl149 k = cl k := fun k hk => (g151 (k) (by omega)).trans (fc k hk)
  refine g_putF X w (o) a153 (by omega) c154 kc1 7 (by decide) rfl rfl k_RX1_41 rfl hin rfl rfl (Nat.le_of_ble_eq_true rfl) dX1_init_83 (fun H locs w => ?_)
  have w : Wd D A s H locs (o + 18) ad148 (va_up cl149 (o) (.inr (1, [.ref (p0), .ref (q5), .ref (q27), .ref (q49), .ref (q71), .ref (q93), .ref (q115), .ref (q137), .null, .null, .int (0)]))) := w
  generalize e156 : va_up cl149 (o) (.inr (1, [.ref (p0), .ref (q5), .ref (q27), .ref (q49), .ref (q71), .ref (q93), .ref (q115), .ref (q137), .null, .null, .int (0)])) = cl155 at w
  have g157 : ∀ k, k ≠ o → cl155 k = cl149 k := fun k hk => by rw [← e156, va_up_ne _ _ hk]
  have c158 : cl155 (o) = .inr (1, [.ref (p0), .ref (q5), .ref (q27), .ref (q49), .ref (q71), .ref (q93), .ref (q115), .ref (q137), .null, .null, .int (0)]) := by rw [← e156, va_up_self]
  have fc : ∀ k, k < o → cl155 k = cl k := fun k hk => (g157 (k) (by omega)).trans (fc k hk)
  refine lv_aload_n hx hb dX1_init_86 rfl (lv_at hl 0 rfl) ?_
  refine g_new X w kc5 k_RX1_22 wt_5 wi_5 bl_5 (Nat.le_of_ble_eq_true rfl) (Nat.le_of_ble_eq_true rfl) dX1_init_87 (fun q159 H w => ?_)
  generalize e162 : va_up ad148 (o + 18) q159 = ad160 at w
  generalize e163 : va_up cl155 (o + 18) (.inr (5, [.null, .int 0])) = cl161 at w
  have g164 : ∀ k, k < o + 18 → ad160 k = ad148 k := fun k hk => by rw [← e162, va_up_ne _ _ (by omega)]
  have g165 : ∀ k, k < o + 18 → cl161 k = cl155 k := fun k hk => by rw [← e163, va_up_ne _ _ (by omega)]
  have a166 : ad160 (o) = ad (o) := (g164 (o) (by omega)).trans a153
  have c167 : cl161 (o) = .inr (1, [.ref (p0), .ref (q5), .ref (q27), .ref (q49), .ref (q71), .ref (q93), .ref (q115), .ref (q137), .null, .null, .int (0)]) := (g165 (o) (by omega)).trans c158
  have fa : ∀ k, k < o + 1 → ad160 k = ad k := fun k hk => (g164 (k) (by omega)).trans (fa k hk)
  have fc : ∀ k, k < o → cl161 k = cl k := fun k hk => (g165 (k) (by omega)).trans (fc k hk)
  have a168 : ad160 (o + 18) = q159 := by rw [← e162, va_up_self]
  have c169 : cl161 (o + 18) = .inr (5, [.null, .int 0]) := by rw [← e163, va_up_self]
  refine lv_dup hx hb dX1_init_90 rfl ?_
  refine c_init (As := []) (rest := [.ref (q159), .ref (ad (o))]) X w (cn_5 l D G t (o + 19) ad160 cl161 (o + 18) rfl c169 (d - 1) (by omega)) YX5_init k_RX1_24 (by rw [a168]) rfl rfl hl.1 (rm_call (by omega) (by decide)) (Nat.le_of_ble_eq_true rfl) dX1_init_91 (⟨Nat.le_of_ble_eq_true rfl, Nat.le_of_ble_eq_true rfl⟩) (fun u H locs hp w => ?_)
  obtain ⟨ad170, cl171, rfl, g172, g173, b174⟩ := hp
  have w : Wd D A s H locs (o + 20) ad170 cl171 := w
  have b174 : Blk cl171 (o + 18) (bX5 G ad170 (o + 18)) := b174
  have a175 : ad170 (o) = ad (o) := (g172 (o) (by omega)).trans a166
  have c176 : cl171 (o) = .inr (1, [.ref (p0), .ref (q5), .ref (q27), .ref (q49), .ref (q71), .ref (q93), .ref (q115), .ref (q137), .null, .null, .int (0)]) := (g173 (o) (by omega)).trans c167
  have fa : ∀ k, k < o + 1 → ad170 k = ad k := fun k hk => (g172 (k) (by omega)).trans (fa k hk)
  have fc : ∀ k, k < o → cl171 k = cl k := fun k hk => (g173 (k) (by omega)).trans (fc k hk)
  refine g_putF X w (o) a175 (by omega) c176 kc1 8 (by decide) rfl rfl k_RX1_44 rfl hin rfl rfl (Nat.le_of_ble_eq_true rfl) dX1_init_94 (fun H locs w => ?_)
  have w : Wd D A s H locs (o + 20) ad170 (va_up cl171 (o) (.inr (1, [.ref (p0), .ref (q5), .ref (q27), .ref (q49), .ref (q71), .ref (q93), .ref (q115), .ref (q137), .ref (q159), .null, .int (0)]))) := w
  generalize e178 : va_up cl171 (o) (.inr (1, [.ref (p0), .ref (q5), .ref (q27), .ref (q49), .ref (q71), .ref (q93), .ref (q115), .ref (q137), .ref (q159), .null, .int (0)])) = cl177 at w
  have g179 : ∀ k, k ≠ o → cl177 k = cl171 k := fun k hk => by rw [← e178, va_up_ne _ _ hk]
  have c180 : cl177 (o) = .inr (1, [.ref (p0), .ref (q5), .ref (q27), .ref (q49), .ref (q71), .ref (q93), .ref (q115), .ref (q137), .ref (q159), .null, .int (0)]) := by rw [← e178, va_up_self]
  have fc : ∀ k, k < o → cl177 k = cl k := fun k hk => (g179 (k) (by omega)).trans (fc k hk)
  refine lv_aload_n hx hb dX1_init_97 rfl (lv_at hl 0 rfl) ?_
  refine g_new X w kc5 k_RX1_22 wt_5 wi_5 bl_5 (Nat.le_of_ble_eq_true rfl) (Nat.le_of_ble_eq_true rfl) dX1_init_98 (fun q181 H w => ?_)
  generalize e184 : va_up ad170 (o + 20) q181 = ad182 at w
  generalize e185 : va_up cl177 (o + 20) (.inr (5, [.null, .int 0])) = cl183 at w
  have g186 : ∀ k, k < o + 20 → ad182 k = ad170 k := fun k hk => by rw [← e184, va_up_ne _ _ (by omega)]
  have g187 : ∀ k, k < o + 20 → cl183 k = cl177 k := fun k hk => by rw [← e185, va_up_ne _ _ (by omega)]
  have a188 : ad182 (o) = ad (o) := (g186 (o) (by omega)).trans a175
  have c189 : cl183 (o) = .inr (1, [.ref (p0), .ref (q5), .ref (q27), .ref (q49), .ref (q71), .ref (q93), .ref (q115), .ref (q137), .ref (q159), .null, .int (0)]) := (g187 (o) (by omega)).trans c180
  have fa : ∀ k, k < o + 1 → ad182 k = ad k := fun k hk => (g186 (k) (by omega)).trans (fa k hk)
  have fc : ∀ k, k < o → cl183 k = cl k := fun k hk => (g187 (k) (by omega)).trans (fc k hk)
  have a190 : ad182 (o + 20) = q181 := by rw [← e184, va_up_self]
  have c191 : cl183 (o + 20) = .inr (5, [.null, .int 0]) := by rw [← e185, va_up_self]
  refine lv_dup hx hb dX1_init_101 rfl ?_
  refine c_init (As := []) (rest := [.ref (q181), .ref (ad (o))]) X w (cn_5 l D G t (o + 21) ad182 cl183 (o + 20) rfl c191 (d - 1) (by omega)) YX5_init k_RX1_24 (by rw [a190]) rfl rfl hl.1 (rm_call (by omega) (by decide)) (Nat.le_of_ble_eq_true rfl) dX1_init_102 (⟨Nat.le_of_ble_eq_true rfl, Nat.le_of_ble_eq_true rfl⟩) (fun u H locs hp w => ?_)
  obtain ⟨ad192, cl193, rfl, g194, g195, b196⟩ := hp
  have w : Wd D A s H locs (o + 22) ad192 cl193 := w
  have b196 : Blk cl193 (o + 20) (bX5 G ad192 (o + 20)) := b196
  have a197 : ad192 (o) = ad (o) := (g194 (o) (by omega)).trans a188
  have c198 : cl193 (o) = .inr (1, [.ref (p0), .ref (q5), .ref (q27), .ref (q49), .ref (q71), .ref (q93), .ref (q115), .ref (q137), .ref (q159), .null, .int (0)]) := (g195 (o) (by omega)).trans c189
  have fa : ∀ k, k < o + 1 → ad192 k = ad k := fun k hk => (g194 (k) (by omega)).trans (fa k hk)
  have fc : ∀ k, k < o → cl193 k = cl k := fun k hk => (g195 (k) (by omega)).trans (fc k hk)
  refine g_putF X w (o) a197 (by omega) c198 kc1 9 (by decide) rfl rfl k_RX1_47 rfl hin rfl rfl (Nat.le_of_ble_eq_true rfl) dX1_init_105 (fun H locs w => ?_)
  have w : Wd D A s H locs (o + 22) ad192 (va_up cl193 (o) (.inr (1, [.ref (p0), .ref (q5), .ref (q27), .ref (q49), .ref (q71), .ref (q93), .ref (q115), .ref (q137), .ref (q159), .ref (q181), .int (0)]))) := w
  generalize e200 : va_up cl193 (o) (.inr (1, [.ref (p0), .ref (q5), .ref (q27), .ref (q49), .ref (q71), .ref (q93), .ref (q115), .ref (q137), .ref (q159), .ref (q181), .int (0)])) = cl199 at w
  have g201 : ∀ k, k ≠ o → cl199 k = cl193 k := fun k hk => by rw [← e200, va_up_ne _ _ hk]
  have c202 : cl199 (o) = .inr (1, [.ref (p0), .ref (q5), .ref (q27), .ref (q49), .ref (q71), .ref (q93), .ref (q115), .ref (q137), .ref (q159), .ref (q181), .int (0)]) := by rw [← e200, va_up_self]
  have fc : ∀ k, k < o → cl199 k = cl k := fun k hk => (g201 (k) (by omega)).trans (fc k hk)
  have FA28 : ∀ k, k < o + 22 → ad192 k = ad192 k := fun _ _ => rfl
  have FC28 : ∀ k, k ≠ o → k ≠ o → k < o + 22 → cl199 k = cl199 k := fun _ _ _ _ => rfl
  have FA27 : ∀ k, k < o + 22 → ad192 k = ad192 k := fun k hk => FA28 k (by omega)
  have FC27 : ∀ k, k ≠ o → k ≠ o → k < o + 22 → cl199 k = cl193 k := fun k h0 h9 hk => (FC28 k h0 h9 (by omega)).trans (g201 k h0)
  have FA26 : ∀ k, k < o + 21 → ad192 k = ad182 k := fun k hk => (FA27 k (by omega)).trans (g194 k (by omega))
  have FC26 : ∀ k, k ≠ o → k ≠ o → k < o + 20 → cl199 k = cl183 k := fun k h0 h9 hk => (FC27 k h0 h9 (by omega)).trans (g195 k (by omega))
  have FA25 : ∀ k, k < o + 20 → ad192 k = ad170 k := fun k hk => (FA26 k (by omega)).trans (g186 k (by omega))
  have FC25 : ∀ k, k ≠ o → k ≠ o → k < o + 20 → cl199 k = cl177 k := fun k h0 h9 hk => (FC26 k h0 h9 (by omega)).trans (g187 k (by omega))
  have FA24 : ∀ k, k < o + 20 → ad192 k = ad170 k := fun k hk => FA25 k (by omega)
  have FC24 : ∀ k, k ≠ o → k ≠ o → k < o + 20 → cl199 k = cl171 k := fun k h0 h9 hk => (FC25 k h0 h9 (by omega)).trans (g179 k h0)
  have FA23 : ∀ k, k < o + 19 → ad192 k = ad160 k := fun k hk => (FA24 k (by omega)).trans (g172 k (by omega))
  have FC23 : ∀ k, k ≠ o → k ≠ o → k < o + 18 → cl199 k = cl161 k := fun k h0 h9 hk => (FC24 k h0 h9 (by omega)).trans (g173 k (by omega))
  have FA22 : ∀ k, k < o + 18 → ad192 k = ad148 k := fun k hk => (FA23 k (by omega)).trans (g164 k (by omega))
  have FC22 : ∀ k, k ≠ o → k ≠ o → k < o + 18 → cl199 k = cl155 k := fun k h0 h9 hk => (FC23 k h0 h9 (by omega)).trans (g165 k (by omega))
  have FA21 : ∀ k, k < o + 18 → ad192 k = ad148 k := fun k hk => FA22 k (by omega)
  have FC21 : ∀ k, k ≠ o → k ≠ o → k < o + 18 → cl199 k = cl149 k := fun k h0 h9 hk => (FC22 k h0 h9 (by omega)).trans (g157 k h0)
  have FA20 : ∀ k, k < o + 17 → ad192 k = ad138 k := fun k hk => (FA21 k (by omega)).trans (g150 k (by omega))
  have FC20 : ∀ k, k ≠ o → k ≠ o → k < o + 16 → cl199 k = cl139 k := fun k h0 h9 hk => (FC21 k h0 h9 (by omega)).trans (g151 k (by omega))
  have FA19 : ∀ k, k < o + 16 → ad192 k = ad126 k := fun k hk => (FA20 k (by omega)).trans (g142 k (by omega))
  have FC19 : ∀ k, k ≠ o → k ≠ o → k < o + 16 → cl199 k = cl133 k := fun k h0 h9 hk => (FC20 k h0 h9 (by omega)).trans (g143 k (by omega))
  have FA18 : ∀ k, k < o + 16 → ad192 k = ad126 k := fun k hk => FA19 k (by omega)
  have FC18 : ∀ k, k ≠ o → k ≠ o → k < o + 16 → cl199 k = cl127 k := fun k h0 h9 hk => (FC19 k h0 h9 (by omega)).trans (g135 k h0)
  have FA17 : ∀ k, k < o + 15 → ad192 k = ad116 k := fun k hk => (FA18 k (by omega)).trans (g128 k (by omega))
  have FC17 : ∀ k, k ≠ o → k ≠ o → k < o + 14 → cl199 k = cl117 k := fun k h0 h9 hk => (FC18 k h0 h9 (by omega)).trans (g129 k (by omega))
  have FA16 : ∀ k, k < o + 14 → ad192 k = ad104 k := fun k hk => (FA17 k (by omega)).trans (g120 k (by omega))
  have FC16 : ∀ k, k ≠ o → k ≠ o → k < o + 14 → cl199 k = cl111 k := fun k h0 h9 hk => (FC17 k h0 h9 (by omega)).trans (g121 k (by omega))
  have FA15 : ∀ k, k < o + 14 → ad192 k = ad104 k := fun k hk => FA16 k (by omega)
  have FC15 : ∀ k, k ≠ o → k ≠ o → k < o + 14 → cl199 k = cl105 k := fun k h0 h9 hk => (FC16 k h0 h9 (by omega)).trans (g113 k h0)
  have FA14 : ∀ k, k < o + 13 → ad192 k = ad94 k := fun k hk => (FA15 k (by omega)).trans (g106 k (by omega))
  have FC14 : ∀ k, k ≠ o → k ≠ o → k < o + 12 → cl199 k = cl95 k := fun k h0 h9 hk => (FC15 k h0 h9 (by omega)).trans (g107 k (by omega))
  have FA13 : ∀ k, k < o + 12 → ad192 k = ad82 k := fun k hk => (FA14 k (by omega)).trans (g98 k (by omega))
  have FC13 : ∀ k, k ≠ o → k ≠ o → k < o + 12 → cl199 k = cl89 k := fun k h0 h9 hk => (FC14 k h0 h9 (by omega)).trans (g99 k (by omega))
  have FA12 : ∀ k, k < o + 12 → ad192 k = ad82 k := fun k hk => FA13 k (by omega)
  have FC12 : ∀ k, k ≠ o → k ≠ o → k < o + 12 → cl199 k = cl83 k := fun k h0 h9 hk => (FC13 k h0 h9 (by omega)).trans (g91 k h0)
  have FA11 : ∀ k, k < o + 11 → ad192 k = ad72 k := fun k hk => (FA12 k (by omega)).trans (g84 k (by omega))
  have FC11 : ∀ k, k ≠ o → k ≠ o → k < o + 10 → cl199 k = cl73 k := fun k h0 h9 hk => (FC12 k h0 h9 (by omega)).trans (g85 k (by omega))
  have FA10 : ∀ k, k < o + 10 → ad192 k = ad60 k := fun k hk => (FA11 k (by omega)).trans (g76 k (by omega))
  have FC10 : ∀ k, k ≠ o → k ≠ o → k < o + 10 → cl199 k = cl67 k := fun k h0 h9 hk => (FC11 k h0 h9 (by omega)).trans (g77 k (by omega))
  have FA9 : ∀ k, k < o + 10 → ad192 k = ad60 k := fun k hk => FA10 k (by omega)
  have FC9 : ∀ k, k ≠ o → k ≠ o → k < o + 10 → cl199 k = cl61 k := fun k h0 h9 hk => (FC10 k h0 h9 (by omega)).trans (g69 k h0)
  have FA8 : ∀ k, k < o + 9 → ad192 k = ad50 k := fun k hk => (FA9 k (by omega)).trans (g62 k (by omega))
  have FC8 : ∀ k, k ≠ o → k ≠ o → k < o + 8 → cl199 k = cl51 k := fun k h0 h9 hk => (FC9 k h0 h9 (by omega)).trans (g63 k (by omega))
  have FA7 : ∀ k, k < o + 8 → ad192 k = ad38 k := fun k hk => (FA8 k (by omega)).trans (g54 k (by omega))
  have FC7 : ∀ k, k ≠ o → k ≠ o → k < o + 8 → cl199 k = cl45 k := fun k h0 h9 hk => (FC8 k h0 h9 (by omega)).trans (g55 k (by omega))
  have FA6 : ∀ k, k < o + 8 → ad192 k = ad38 k := fun k hk => FA7 k (by omega)
  have FC6 : ∀ k, k ≠ o → k ≠ o → k < o + 8 → cl199 k = cl39 k := fun k h0 h9 hk => (FC7 k h0 h9 (by omega)).trans (g47 k h0)
  have FA5 : ∀ k, k < o + 7 → ad192 k = ad28 k := fun k hk => (FA6 k (by omega)).trans (g40 k (by omega))
  have FC5 : ∀ k, k ≠ o → k ≠ o → k < o + 6 → cl199 k = cl29 k := fun k h0 h9 hk => (FC6 k h0 h9 (by omega)).trans (g41 k (by omega))
  have FA4 : ∀ k, k < o + 6 → ad192 k = ad16 k := fun k hk => (FA5 k (by omega)).trans (g32 k (by omega))
  have FC4 : ∀ k, k ≠ o → k ≠ o → k < o + 6 → cl199 k = cl23 k := fun k h0 h9 hk => (FC5 k h0 h9 (by omega)).trans (g33 k (by omega))
  have FA3 : ∀ k, k < o + 6 → ad192 k = ad16 k := fun k hk => FA4 k (by omega)
  have FC3 : ∀ k, k ≠ o → k ≠ o → k < o + 6 → cl199 k = cl17 k := fun k h0 h9 hk => (FC4 k h0 h9 (by omega)).trans (g25 k h0)
  have FA2 : ∀ k, k < o + 2 → ad192 k = ad6 k := fun k hk => (FA3 k (by omega)).trans (g18 k (by omega))
  have FC2 : ∀ k, k ≠ o → k ≠ o → k < o + 1 → cl199 k = cl7 k := fun k h0 h9 hk => (FC3 k h0 h9 (by omega)).trans (g19 k (by omega))
  have FA1 : ∀ k, k < o + 1 → ad192 k = ad k := fun k hk => (FA2 k (by omega)).trans (g10 k (by omega))
  have FC1 : ∀ k, k ≠ o → k ≠ o → k < o + 1 → cl199 k = cl1 k := fun k h0 h9 hk => (FC2 k h0 h9 (by omega)).trans (g11 k (by omega))
  have FA0 : ∀ k, k < o + 1 → ad192 k = ad k := fun k hk => FA1 k (by omega)
  have FC0 : ∀ k, k ≠ o → k ≠ o → k < o + 1 → cl199 k = cl k := fun k h0 h9 hk => (FC1 k h0 h9 (by omega)).trans (g3 k h0)
  have b203 : Blk cl199 (o + 1) (bX8 G ad192 (o + 1)) := by rw [cg8 (n := 5) (Nat.le_refl _) (fun k h1 h2 => FA3 k (by omega))]; exact b20.tr (n := 5) (Nat.le_of_eq ln8) (fun k h1 h2 => FC3 k (by omega) (by omega) (by omega))
  have b204 : Blk cl199 (o + 6) (bX5 G ad192 (o + 6)) := by rw [cg5 (n := 2) (Nat.le_refl _) (fun k h1 h2 => FA6 k (by omega))]; exact b42.tr (n := 2) (Nat.le_of_eq ln5) (fun k h1 h2 => FC6 k (by omega) (by omega) (by omega))
  have b205 : Blk cl199 (o + 8) (bX5 G ad192 (o + 8)) := by rw [cg5 (n := 2) (Nat.le_refl _) (fun k h1 h2 => FA9 k (by omega))]; exact b64.tr (n := 2) (Nat.le_of_eq ln5) (fun k h1 h2 => FC9 k (by omega) (by omega) (by omega))
  have b206 : Blk cl199 (o + 10) (bX5 G ad192 (o + 10)) := by rw [cg5 (n := 2) (Nat.le_refl _) (fun k h1 h2 => FA12 k (by omega))]; exact b86.tr (n := 2) (Nat.le_of_eq ln5) (fun k h1 h2 => FC12 k (by omega) (by omega) (by omega))
  have b207 : Blk cl199 (o + 12) (bX5 G ad192 (o + 12)) := by rw [cg5 (n := 2) (Nat.le_refl _) (fun k h1 h2 => FA15 k (by omega))]; exact b108.tr (n := 2) (Nat.le_of_eq ln5) (fun k h1 h2 => FC15 k (by omega) (by omega) (by omega))
  have b208 : Blk cl199 (o + 14) (bX5 G ad192 (o + 14)) := by rw [cg5 (n := 2) (Nat.le_refl _) (fun k h1 h2 => FA18 k (by omega))]; exact b130.tr (n := 2) (Nat.le_of_eq ln5) (fun k h1 h2 => FC18 k (by omega) (by omega) (by omega))
  have b209 : Blk cl199 (o + 16) (bX5 G ad192 (o + 16)) := by rw [cg5 (n := 2) (Nat.le_refl _) (fun k h1 h2 => FA21 k (by omega))]; exact b152.tr (n := 2) (Nat.le_of_eq ln5) (fun k h1 h2 => FC21 k (by omega) (by omega) (by omega))
  have b210 : Blk cl199 (o + 18) (bX5 G ad192 (o + 18)) := by rw [cg5 (n := 2) (Nat.le_refl _) (fun k h1 h2 => FA24 k (by omega))]; exact b174.tr (n := 2) (Nat.le_of_eq ln5) (fun k h1 h2 => FC24 k (by omega) (by omega) (by omega))
  have b211 : Blk cl199 (o + 20) (bX5 G ad192 (o + 20)) := by rw [cg5 (n := 2) (Nat.le_refl _) (fun k h1 h2 => FA27 k (by omega))]; exact b196.tr (n := 2) (Nat.le_of_eq ln5) (fun k h1 h2 => FC27 k (by omega) (by omega) (by omega))
  have z212 : ad192 (o + 1) = q5 := (FA2 (o + 1) (by omega)).trans a14
  have z213 : ad192 (o + 6) = q27 := (FA5 (o + 6) (by omega)).trans a36
  have z214 : ad192 (o + 8) = q49 := (FA8 (o + 8) (by omega)).trans a58
  have z215 : ad192 (o + 10) = q71 := (FA11 (o + 10) (by omega)).trans a80
  have z216 : ad192 (o + 12) = q93 := (FA14 (o + 12) (by omega)).trans a102
  have z217 : ad192 (o + 14) = q115 := (FA17 (o + 14) (by omega)).trans a124
  have z218 : ad192 (o + 16) = q137 := (FA20 (o + 16) (by omega)).trans a146
  have z219 : ad192 (o + 18) = q159 := (FA23 (o + 18) (by omega)).trans a168
  have z220 : ad192 (o + 20) = q181 := (FA26 (o + 20) (by omega)).trans a190
  refine e_V X hr w ⟨ad192, cl199, rfl, fa, fc, ?_⟩ (Nat.le_of_ble_eq_true rfl) (Nat.le_of_ble_eq_true rfl) dX1_init_108
  refine Blk.cons ?_ (b203.app (by rw [ln8]) (b204.app (by rw [ln5]) (b205.app (by rw [ln5]) (b206.app (by rw [ln5]) (b207.app (by rw [ln5]) (b208.app (by rw [ln5]) (b209.app (by rw [ln5]) (b210.app (by rw [ln5]) (b211)))))))))
  rw [c202, z212, z213, z214, z215, z216, z217, z218, z219, z220]
abbrev cX9_init : ByteArray := prog_11_method_1_code
def yX9_init : MethodName := ⟨RX9, "<init>", "(LTypeRoom$Purse;LTypeRoom$Filler;LTypeRoom$Galley;)V"⟩
theorem wcX9_init : Cond.code yX9_init cX9_init 4 none ∈ tb := tb_2 (i := 198) rfl rfl
theorem wi_9 : Cond.initialized RX9 ∈ tb := tb_1 (i := 12) (by decide +kernel) rfl
theorem wnX9_init : Cond.instanceMethod yX9_init ∈ tb := tb_2 (i := 197) (by decide +kernel) rfl
theorem YX9_init : Yi yX9_init cX9_init 4 3 := ⟨wcX9_init, wnX9_init, wi_9, rfl, by decide +kernel, by decide +kernel, by decide +kernel⟩
theorem dX9_init_0 : decode cX9_init 0 = .ok (.aload_n 0, 1) := by decide +kernel
theorem dX9_init_1 : decode cX9_init 1 = .ok (.invokespecial 3, 3) := by decide +kernel
theorem dX9_init_4 : decode cX9_init 4 = .ok (.aload_n 0, 1) := by decide +kernel
theorem dX9_init_5 : decode cX9_init 5 = .ok (.aload_n 1, 1) := by decide +kernel
theorem dX9_init_6 : decode cX9_init 6 = .ok (.putfield 9, 3) := by decide +kernel
theorem dX9_init_9 : decode cX9_init 9 = .ok (.aload_n 0, 1) := by decide +kernel
theorem dX9_init_10 : decode cX9_init 10 = .ok (.aload_n 2, 1) := by decide +kernel
theorem dX9_init_11 : decode cX9_init 11 = .ok (.putfield 15, 3) := by decide +kernel
theorem dX9_init_14 : decode cX9_init 14 = .ok (.aload_n 0, 1) := by decide +kernel
theorem dX9_init_15 : decode cX9_init 15 = .ok (.aload_n 3, 1) := by decide +kernel
theorem dX9_init_16 : decode cX9_init 16 = .ok (.putfield 19, 3) := by decide +kernel
theorem dX9_init_19 : decode cX9_init 19 = .ok (.aload_n 0, 1) := by decide +kernel
theorem dX9_init_20 : decode cX9_init 20 = .ok (.new 23, 3) := by decide +kernel
theorem dX9_init_23 : decode cX9_init 23 = .ok (.dup, 1) := by decide +kernel
theorem dX9_init_24 : decode cX9_init 24 = .ok (.invokespecial 25, 3) := by decide +kernel
theorem dX9_init_27 : decode cX9_init 27 = .ok (.putfield 26, 3) := by decide +kernel
theorem dX9_init_30 : decode cX9_init 30 = .ok (.aload_n 0, 1) := by decide +kernel
theorem dX9_init_31 : decode cX9_init 31 = .ok (.new 30, 3) := by decide +kernel
theorem dX9_init_34 : decode cX9_init 34 = .ok (.dup, 1) := by decide +kernel
theorem dX9_init_35 : decode cX9_init 35 = .ok (.invokespecial 32, 3) := by decide +kernel
theorem dX9_init_38 : decode cX9_init 38 = .ok (.putfield 33, 3) := by decide +kernel
theorem dX9_init_41 : decode cX9_init 41 = .ok (.aload_n 0, 1) := by decide +kernel
theorem dX9_init_42 : decode cX9_init 42 = .ok (.new 30, 3) := by decide +kernel
theorem dX9_init_45 : decode cX9_init 45 = .ok (.dup, 1) := by decide +kernel
theorem dX9_init_46 : decode cX9_init 46 = .ok (.invokespecial 32, 3) := by decide +kernel
theorem dX9_init_49 : decode cX9_init 49 = .ok (.putfield 37, 3) := by decide +kernel
theorem dX9_init_52 : decode cX9_init 52 = .ok (.aload_n 0, 1) := by decide +kernel
theorem dX9_init_53 : decode cX9_init 53 = .ok (.bipush 8, 2) := by decide +kernel
theorem dX9_init_55 : decode cX9_init 55 = .ok (.newarray .int, 2) := by decide +kernel
theorem dX9_init_57 : decode cX9_init 57 = .ok (.putfield 40, 3) := by decide +kernel
theorem dX9_init_60 : decode cX9_init 60 = .ok (.aload_n 0, 1) := by decide +kernel
theorem dX9_init_61 : decode cX9_init 61 = .ok (.bipush 8, 2) := by decide +kernel
theorem dX9_init_63 : decode cX9_init 63 = .ok (.newarray .int, 2) := by decide +kernel
theorem dX9_init_65 : decode cX9_init 65 = .ok (.putfield 44, 3) := by decide +kernel
theorem dX9_init_68 : decode cX9_init 68 = .ok (.aload_n 0, 1) := by decide +kernel
theorem dX9_init_69 : decode cX9_init 69 = .ok (.bipush 9, 2) := by decide +kernel
theorem dX9_init_71 : decode cX9_init 71 = .ok (.newarray .int, 2) := by decide +kernel
theorem dX9_init_73 : decode cX9_init 73 = .ok (.putfield 47, 3) := by decide +kernel
theorem dX9_init_76 : decode cX9_init 76 = .ok (.return_, 1) := by decide +kernel
theorem k_RX9_3 : Cond.methodLink RX9 3 ⟨"java/lang/Object", "<init>", "()V"⟩ ∈ tb := tb_2 (i := 199) (by decide +kernel) rfl
theorem k_RX9_9 : Cond.fieldLink RX9 9 RX9 "purse" "LTypeRoom$Purse;" ∈ tb := tb_2 (i := 204) (by decide +kernel) rfl
theorem k_RX9_15 : Cond.fieldLink RX9 15 RX9 "filler" "LTypeRoom$Filler;" ∈ tb := tb_2 (i := 205) (by decide +kernel) rfl
theorem k_RX9_19 : Cond.fieldLink RX9 19 RX9 "galley" "LTypeRoom$Galley;" ∈ tb := tb_2 (i := 206) (by decide +kernel) rfl
theorem k_RX9_23 : Cond.classLink RX9 23 RX8 ∈ tb := tb_2 (i := 200) (by decide +kernel) rfl
theorem k_RX9_25 : Cond.methodLink RX9 25 yX8_init ∈ tb := tb_2 (i := 201) (by decide +kernel) rfl
theorem k_RX9_26 : Cond.fieldLink RX9 26 RX9 "cells" "LTypeRoom$Shelf;" ∈ tb := tb_2 (i := 207) (by decide +kernel) rfl
theorem k_RX9_30 : Cond.classLink RX9 30 RX5 ∈ tb := tb_2 (i := 202) (by decide +kernel) rfl
theorem k_RX9_32 : Cond.methodLink RX9 32 yX5_init ∈ tb := tb_2 (i := 203) (by decide +kernel) rfl
theorem k_RX9_33 : Cond.fieldLink RX9 33 RX9 "rowEnds" "LTypeRoom$Row;" ∈ tb := tb_2 (i := 208) (by decide +kernel) rfl
theorem k_RX9_37 : Cond.fieldLink RX9 37 RX9 "spans" "LTypeRoom$Row;" ∈ tb := tb_2 (i := 209) (by decide +kernel) rfl
theorem k_RX9_40 : Cond.fieldLink RX9 40 RX9 "aligns" "[I" ∈ tb := tb_2 (i := 211) (by decide +kernel) rfl
theorem k_RX9_44 : Cond.fieldLink RX9 44 RX9 "widths" "[I" ∈ tb := tb_2 (i := 212) (by decide +kernel) rfl
theorem k_RX9_47 : Cond.fieldLink RX9 47 RX9 "firsts" "[I" ∈ tb := tb_2 (i := 213) (by decide +kernel) rfl
def bX9 (G : Nat → ClassId) (ad : Nat → Nat) (b : Nat) (p0 : Nat) (p1 : Nat) (p2 : Nat) : List va_E := (.inr (9, [.ref p0, .ref p1, .ref p2, .ref (ad (b + 1)), .ref (ad (b + 6)), .ref (ad (b + 8)), .ref (ad (b + 10)), .ref (ad (b + 11)), .ref (ad (b + 12)), .int (0)])) :: (bX8 G ad (b + 1) ++ (bX5 G ad (b + 6) ++ (bX5 G ad (b + 8) ++ ([.inl (G 0, 8, .inl (fun _ => 0))] ++ ([.inl (G 0, 8, .inl (fun _ => 0))] ++ ([.inl (G 0, 9, .inl (fun _ => 0))]))))))
theorem cg9 {G : Nat → ClassId} {ad ad' : Nat → Nat} {b n : Nat} {p0 : Nat} {p1 : Nat} {p2 : Nat} (hn : 13 ≤ n) (h : ∀ k, k < b + n → b ≤ k → ad' k = ad k) : bX9 G ad' b p0 p1 p2 = bX9 G ad b p0 p1 p2 := by
  simp only [bX9, h (b + 1) (by omega) (by omega), h (b + 6) (by omega) (by omega), h (b + 8) (by omega) (by omega), h (b + 10) (by omega) (by omega), h (b + 11) (by omega) (by omega), h (b + 12) (by omega) (by omega), cg8 (b := b + 1) (n := 5) (Nat.le_refl _) (fun k h1 h2 => h k (by omega) (by omega)), cg5 (b := b + 6) (n := 2) (Nat.le_refl _) (fun k h1 h2 => h k (by omega) (by omega)), cg5 (b := b + 8) (n := 2) (Nat.le_refl _) (fun k h1 h2 => h k (by omega) (by omega))]
theorem ln9 {G : Nat → ClassId} {ad : Nat → Nat} {b : Nat} {p0 : Nat} {p1 : Nat} {p2 : Nat} : (bX9 G ad b p0 p1 p2).length = 13 := by
  simp only [bX9, List.length_cons, List.length_append, List.length_nil, ln5, ln8]
set_option maxHeartbeats 4000000 in
set_option maxRecDepth 100000 in
theorem cn_9 (l : Launch) (D : va_G) (G : Nat → ClassId) (t : Nat → Nat) (N : Nat) (ad : Nat → Nat) (cl : Nat → va_E) (o : Nat) (hiN : o + 1 = N) (hc0 : cl o = .inr (9, [.null, .null, .null, .null, .null, .null, .null, .null, .null, .int 0])) (p0 : Nat) (p1 : Nat) (p2 : Nat) (d : Nat) (hd : 3 ≤ d) : CtV l yX9_init cX9_init 4 (rmD d 12 99) D G t (N, ad, cl) [.ref (ad o), .ref p0, .ref p1, .ref p2] (fun u => ∃ ad' cl', u = (o + 13, ad', cl') ∧ (∀ k, k < o + 1 → ad' k = ad k) ∧ (∀ k, k < o → cl' k = cl k) ∧ Blk cl' o (bX9 G ad' o p0 p1 p2)) := by
  subst hiN
  refine ct_V (own := RX9) (by decide +kernel) rfl (Nat.le_of_ble_eq_true rfl) rfl ?_
  intro p e s m args below meth c A ls X hr hin hl w
  obtain ⟨hx, hb, hml, hown, hts, -⟩ := id X
  have hl : lv_has ls 4 [(0, .ref (ad (o))), (1, .ref (p0)), (2, .ref (p1)), (3, .ref (p2))] := hl
  have fa : ∀ k, k < o + 1 → ad k = ad k := fun _ _ => rfl
  have fc : ∀ k, k < o → cl k = cl k := fun _ _ => rfl
  refine lv_aload_n hx hb dX9_init_0 rfl (lv_at hl 0 rfl) ?_
  refine g_oinit X hl.1 k_RX9_3 dX9_init_1 (by decide) ⟨by show 1 ≤ d; omega, rm_loc (by omega) (by decide)⟩ ?_
  refine lv_aload_n hx hb dX9_init_4 rfl (lv_at hl 0 rfl) ?_
  refine lv_aload_n hx hb dX9_init_5 rfl (lv_at hl 1 rfl) ?_
  refine g_putF X w (o) rfl (by omega) hc0 kc9 0 (by decide) rfl rfl k_RX9_9 rfl hin rfl rfl (Nat.le_of_ble_eq_true rfl) dX9_init_6 (fun H locs w => ?_)
  have w : Wd D A s H locs (o + 1) ad (va_up cl (o) (.inr (9, [.ref (p0), .null, .null, .null, .null, .null, .null, .null, .null, .int (0)]))) := w
  generalize e2 : va_up cl (o) (.inr (9, [.ref (p0), .null, .null, .null, .null, .null, .null, .null, .null, .int (0)])) = cl1 at w
  have g3 : ∀ k, k ≠ o → cl1 k = cl k := fun k hk => by rw [← e2, va_up_ne _ _ hk]
  have c4 : cl1 (o) = .inr (9, [.ref (p0), .null, .null, .null, .null, .null, .null, .null, .null, .int (0)]) := by rw [← e2, va_up_self]
  have fc : ∀ k, k < o → cl1 k = cl k := fun k hk => (g3 (k) (by omega)).trans (fc k hk)
  refine lv_aload_n hx hb dX9_init_9 rfl (lv_at hl 0 rfl) ?_
  refine lv_aload_n hx hb dX9_init_10 rfl (lv_at hl 2 rfl) ?_
  refine g_putF X w (o) rfl (by omega) c4 kc9 1 (by decide) rfl rfl k_RX9_15 rfl hin rfl rfl (Nat.le_of_ble_eq_true rfl) dX9_init_11 (fun H locs w => ?_)
  have w : Wd D A s H locs (o + 1) ad (va_up cl1 (o) (.inr (9, [.ref (p0), .ref (p1), .null, .null, .null, .null, .null, .null, .null, .int (0)]))) := w
  generalize e6 : va_up cl1 (o) (.inr (9, [.ref (p0), .ref (p1), .null, .null, .null, .null, .null, .null, .null, .int (0)])) = cl5 at w
  have g7 : ∀ k, k ≠ o → cl5 k = cl1 k := fun k hk => by rw [← e6, va_up_ne _ _ hk]
  have c8 : cl5 (o) = .inr (9, [.ref (p0), .ref (p1), .null, .null, .null, .null, .null, .null, .null, .int (0)]) := by rw [← e6, va_up_self]
  have fc : ∀ k, k < o → cl5 k = cl k := fun k hk => (g7 (k) (by omega)).trans (fc k hk)
  refine lv_aload_n hx hb dX9_init_14 rfl (lv_at hl 0 rfl) ?_
  refine lv_aload_n hx hb dX9_init_15 rfl (lv_at hl 3 rfl) ?_
  refine g_putF X w (o) rfl (by omega) c8 kc9 2 (by decide) rfl rfl k_RX9_19 rfl hin rfl rfl (Nat.le_of_ble_eq_true rfl) dX9_init_16 (fun H locs w => ?_)
  have w : Wd D A s H locs (o + 1) ad (va_up cl5 (o) (.inr (9, [.ref (p0), .ref (p1), .ref (p2), .null, .null, .null, .null, .null, .null, .int (0)]))) := w
  generalize e10 : va_up cl5 (o) (.inr (9, [.ref (p0), .ref (p1), .ref (p2), .null, .null, .null, .null, .null, .null, .int (0)])) = cl9 at w
  have g11 : ∀ k, k ≠ o → cl9 k = cl5 k := fun k hk => by rw [← e10, va_up_ne _ _ hk]
  have c12 : cl9 (o) = .inr (9, [.ref (p0), .ref (p1), .ref (p2), .null, .null, .null, .null, .null, .null, .int (0)]) := by rw [← e10, va_up_self]
  have fc : ∀ k, k < o → cl9 k = cl k := fun k hk => (g11 (k) (by omega)).trans (fc k hk)
  refine lv_aload_n hx hb dX9_init_19 rfl (lv_at hl 0 rfl) ?_
  refine g_new X w kc8 k_RX9_23 wt_8 wi_8 bl_8 (Nat.le_of_ble_eq_true rfl) (Nat.le_of_ble_eq_true rfl) dX9_init_20 (fun q13 H w => ?_)
  generalize e16 : va_up ad (o + 1) q13 = ad14 at w
  generalize e17 : va_up cl9 (o + 1) (.inr (8, [.null, .null])) = cl15 at w
  have g18 : ∀ k, k < o + 1 → ad14 k = ad k := fun k hk => by rw [← e16, va_up_ne _ _ (by omega)]
  have g19 : ∀ k, k < o + 1 → cl15 k = cl9 k := fun k hk => by rw [← e17, va_up_ne _ _ (by omega)]
  have a20 : ad14 (o) = ad (o) := g18 (o) (by omega)
  have c21 : cl15 (o) = .inr (9, [.ref (p0), .ref (p1), .ref (p2), .null, .null, .null, .null, .null, .null, .int (0)]) := (g19 (o) (by omega)).trans c12
  have fa : ∀ k, k < o + 1 → ad14 k = ad k := fun k hk => (g18 (k) (by omega)).trans (fa k hk)
  have fc : ∀ k, k < o → cl15 k = cl k := fun k hk => (g19 (k) (by omega)).trans (fc k hk)
  have a22 : ad14 (o + 1) = q13 := by rw [← e16, va_up_self]
  have c23 : cl15 (o + 1) = .inr (8, [.null, .null]) := by rw [← e17, va_up_self]
  refine lv_dup hx hb dX9_init_23 rfl ?_
  refine c_init (As := []) (rest := [.ref (q13), .ref (ad (o))]) X w (cn_8 l D G t (o + 2) ad14 cl15 (o + 1) rfl c23 (d - 1) (by omega)) YX8_init k_RX9_25 (by rw [a22]) rfl rfl hl.1 (rm_call (by omega) (by decide)) (Nat.le_of_ble_eq_true rfl) dX9_init_24 (⟨Nat.le_of_ble_eq_true rfl, Nat.le_of_ble_eq_true rfl⟩) (fun u H locs hp w => ?_)
  obtain ⟨ad24, cl25, rfl, g26, g27, b28⟩ := hp
  have w : Wd D A s H locs (o + 6) ad24 cl25 := w
  have b28 : Blk cl25 (o + 1) (bX8 G ad24 (o + 1)) := b28
  have a29 : ad24 (o) = ad (o) := (g26 (o) (by omega)).trans a20
  have c30 : cl25 (o) = .inr (9, [.ref (p0), .ref (p1), .ref (p2), .null, .null, .null, .null, .null, .null, .int (0)]) := (g27 (o) (by omega)).trans c21
  have fa : ∀ k, k < o + 1 → ad24 k = ad k := fun k hk => (g26 (k) (by omega)).trans (fa k hk)
  have fc : ∀ k, k < o → cl25 k = cl k := fun k hk => (g27 (k) (by omega)).trans (fc k hk)
  refine g_putF X w (o) a29 (by omega) c30 kc9 3 (by decide) rfl rfl k_RX9_26 rfl hin rfl rfl (Nat.le_of_ble_eq_true rfl) dX9_init_27 (fun H locs w => ?_)
  have w : Wd D A s H locs (o + 6) ad24 (va_up cl25 (o) (.inr (9, [.ref (p0), .ref (p1), .ref (p2), .ref (q13), .null, .null, .null, .null, .null, .int (0)]))) := w
  generalize e32 : va_up cl25 (o) (.inr (9, [.ref (p0), .ref (p1), .ref (p2), .ref (q13), .null, .null, .null, .null, .null, .int (0)])) = cl31 at w
  have g33 : ∀ k, k ≠ o → cl31 k = cl25 k := fun k hk => by rw [← e32, va_up_ne _ _ hk]
  have c34 : cl31 (o) = .inr (9, [.ref (p0), .ref (p1), .ref (p2), .ref (q13), .null, .null, .null, .null, .null, .int (0)]) := by rw [← e32, va_up_self]
  have fc : ∀ k, k < o → cl31 k = cl k := fun k hk => (g33 (k) (by omega)).trans (fc k hk)
  refine lv_aload_n hx hb dX9_init_30 rfl (lv_at hl 0 rfl) ?_
  refine g_new X w kc5 k_RX9_30 wt_5 wi_5 bl_5 (Nat.le_of_ble_eq_true rfl) (Nat.le_of_ble_eq_true rfl) dX9_init_31 (fun q35 H w => ?_)
  generalize e38 : va_up ad24 (o + 6) q35 = ad36 at w
  generalize e39 : va_up cl31 (o + 6) (.inr (5, [.null, .int 0])) = cl37 at w
  have g40 : ∀ k, k < o + 6 → ad36 k = ad24 k := fun k hk => by rw [← e38, va_up_ne _ _ (by omega)]
  have g41 : ∀ k, k < o + 6 → cl37 k = cl31 k := fun k hk => by rw [← e39, va_up_ne _ _ (by omega)]
  have a42 : ad36 (o) = ad (o) := (g40 (o) (by omega)).trans a29
  have c43 : cl37 (o) = .inr (9, [.ref (p0), .ref (p1), .ref (p2), .ref (q13), .null, .null, .null, .null, .null, .int (0)]) := (g41 (o) (by omega)).trans c34
  have fa : ∀ k, k < o + 1 → ad36 k = ad k := fun k hk => (g40 (k) (by omega)).trans (fa k hk)
  have fc : ∀ k, k < o → cl37 k = cl k := fun k hk => (g41 (k) (by omega)).trans (fc k hk)
  have a44 : ad36 (o + 6) = q35 := by rw [← e38, va_up_self]
  have c45 : cl37 (o + 6) = .inr (5, [.null, .int 0]) := by rw [← e39, va_up_self]
  refine lv_dup hx hb dX9_init_34 rfl ?_
  refine c_init (As := []) (rest := [.ref (q35), .ref (ad (o))]) X w (cn_5 l D G t (o + 7) ad36 cl37 (o + 6) rfl c45 (d - 1) (by omega)) YX5_init k_RX9_32 (by rw [a44]) rfl rfl hl.1 (rm_call (by omega) (by decide)) (Nat.le_of_ble_eq_true rfl) dX9_init_35 (⟨Nat.le_of_ble_eq_true rfl, Nat.le_of_ble_eq_true rfl⟩) (fun u H locs hp w => ?_)
  obtain ⟨ad46, cl47, rfl, g48, g49, b50⟩ := hp
  have w : Wd D A s H locs (o + 8) ad46 cl47 := w
  have b50 : Blk cl47 (o + 6) (bX5 G ad46 (o + 6)) := b50
  have a51 : ad46 (o) = ad (o) := (g48 (o) (by omega)).trans a42
  have c52 : cl47 (o) = .inr (9, [.ref (p0), .ref (p1), .ref (p2), .ref (q13), .null, .null, .null, .null, .null, .int (0)]) := (g49 (o) (by omega)).trans c43
  have fa : ∀ k, k < o + 1 → ad46 k = ad k := fun k hk => (g48 (k) (by omega)).trans (fa k hk)
  have fc : ∀ k, k < o → cl47 k = cl k := fun k hk => (g49 (k) (by omega)).trans (fc k hk)
  refine g_putF X w (o) a51 (by omega) c52 kc9 4 (by decide) rfl rfl k_RX9_33 rfl hin rfl rfl (Nat.le_of_ble_eq_true rfl) dX9_init_38 (fun H locs w => ?_)
  have w : Wd D A s H locs (o + 8) ad46 (va_up cl47 (o) (.inr (9, [.ref (p0), .ref (p1), .ref (p2), .ref (q13), .ref (q35), .null, .null, .null, .null, .int (0)]))) := w
  generalize e54 : va_up cl47 (o) (.inr (9, [.ref (p0), .ref (p1), .ref (p2), .ref (q13), .ref (q35), .null, .null, .null, .null, .int (0)])) = cl53 at w
  have g55 : ∀ k, k ≠ o → cl53 k = cl47 k := fun k hk => by rw [← e54, va_up_ne _ _ hk]
  have c56 : cl53 (o) = .inr (9, [.ref (p0), .ref (p1), .ref (p2), .ref (q13), .ref (q35), .null, .null, .null, .null, .int (0)]) := by rw [← e54, va_up_self]
  have fc : ∀ k, k < o → cl53 k = cl k := fun k hk => (g55 (k) (by omega)).trans (fc k hk)
  refine lv_aload_n hx hb dX9_init_41 rfl (lv_at hl 0 rfl) ?_
  refine g_new X w kc5 k_RX9_30 wt_5 wi_5 bl_5 (Nat.le_of_ble_eq_true rfl) (Nat.le_of_ble_eq_true rfl) dX9_init_42 (fun q57 H w => ?_)
  generalize e60 : va_up ad46 (o + 8) q57 = ad58 at w
  generalize e61 : va_up cl53 (o + 8) (.inr (5, [.null, .int 0])) = cl59 at w
  have g62 : ∀ k, k < o + 8 → ad58 k = ad46 k := fun k hk => by rw [← e60, va_up_ne _ _ (by omega)]
  have g63 : ∀ k, k < o + 8 → cl59 k = cl53 k := fun k hk => by rw [← e61, va_up_ne _ _ (by omega)]
  have a64 : ad58 (o) = ad (o) := (g62 (o) (by omega)).trans a51
  have c65 : cl59 (o) = .inr (9, [.ref (p0), .ref (p1), .ref (p2), .ref (q13), .ref (q35), .null, .null, .null, .null, .int (0)]) := (g63 (o) (by omega)).trans c56
  have fa : ∀ k, k < o + 1 → ad58 k = ad k := fun k hk => (g62 (k) (by omega)).trans (fa k hk)
  have fc : ∀ k, k < o → cl59 k = cl k := fun k hk => (g63 (k) (by omega)).trans (fc k hk)
  have a66 : ad58 (o + 8) = q57 := by rw [← e60, va_up_self]
  have c67 : cl59 (o + 8) = .inr (5, [.null, .int 0]) := by rw [← e61, va_up_self]
  refine lv_dup hx hb dX9_init_45 rfl ?_
  refine c_init (As := []) (rest := [.ref (q57), .ref (ad (o))]) X w (cn_5 l D G t (o + 9) ad58 cl59 (o + 8) rfl c67 (d - 1) (by omega)) YX5_init k_RX9_32 (by rw [a66]) rfl rfl hl.1 (rm_call (by omega) (by decide)) (Nat.le_of_ble_eq_true rfl) dX9_init_46 (⟨Nat.le_of_ble_eq_true rfl, Nat.le_of_ble_eq_true rfl⟩) (fun u H locs hp w => ?_)
  obtain ⟨ad68, cl69, rfl, g70, g71, b72⟩ := hp
  have w : Wd D A s H locs (o + 10) ad68 cl69 := w
  have b72 : Blk cl69 (o + 8) (bX5 G ad68 (o + 8)) := b72
  have a73 : ad68 (o) = ad (o) := (g70 (o) (by omega)).trans a64
  have c74 : cl69 (o) = .inr (9, [.ref (p0), .ref (p1), .ref (p2), .ref (q13), .ref (q35), .null, .null, .null, .null, .int (0)]) := (g71 (o) (by omega)).trans c65
  have fa : ∀ k, k < o + 1 → ad68 k = ad k := fun k hk => (g70 (k) (by omega)).trans (fa k hk)
  have fc : ∀ k, k < o → cl69 k = cl k := fun k hk => (g71 (k) (by omega)).trans (fc k hk)
  refine g_putF X w (o) a73 (by omega) c74 kc9 5 (by decide) rfl rfl k_RX9_37 rfl hin rfl rfl (Nat.le_of_ble_eq_true rfl) dX9_init_49 (fun H locs w => ?_)
  have w : Wd D A s H locs (o + 10) ad68 (va_up cl69 (o) (.inr (9, [.ref (p0), .ref (p1), .ref (p2), .ref (q13), .ref (q35), .ref (q57), .null, .null, .null, .int (0)]))) := w
  generalize e76 : va_up cl69 (o) (.inr (9, [.ref (p0), .ref (p1), .ref (p2), .ref (q13), .ref (q35), .ref (q57), .null, .null, .null, .int (0)])) = cl75 at w
  have g77 : ∀ k, k ≠ o → cl75 k = cl69 k := fun k hk => by rw [← e76, va_up_ne _ _ hk]
  have c78 : cl75 (o) = .inr (9, [.ref (p0), .ref (p1), .ref (p2), .ref (q13), .ref (q35), .ref (q57), .null, .null, .null, .int (0)]) := by rw [← e76, va_up_self]
  have fc : ∀ k, k < o → cl75 k = cl k := fun k hk => (g77 (k) (by omega)).trans (fc k hk)
  refine lv_aload_n hx hb dX9_init_52 rfl (lv_at hl 0 rfl) ?_
  refine lv_bipush (v := 8) hx hb dX9_init_53 (by decide) ?_
  refine g_newI X w wa_I (n := 8) (by decide) (by decide) (by decide) (Nat.le_of_ble_eq_true rfl) (Nat.le_of_ble_eq_true rfl) dX9_init_55 (fun q79 H w => ?_)
  generalize e82 : va_up ad68 (o + 10) q79 = ad80 at w
  generalize e83 : va_up cl75 (o + 10) (.inl (G 0, 8, .inl (fun _ => 0))) = cl81 at w
  have g84 : ∀ k, k < o + 10 → ad80 k = ad68 k := fun k hk => by rw [← e82, va_up_ne _ _ (by omega)]
  have g85 : ∀ k, k < o + 10 → cl81 k = cl75 k := fun k hk => by rw [← e83, va_up_ne _ _ (by omega)]
  have a86 : ad80 (o) = ad (o) := (g84 (o) (by omega)).trans a73
  have c87 : cl81 (o) = .inr (9, [.ref (p0), .ref (p1), .ref (p2), .ref (q13), .ref (q35), .ref (q57), .null, .null, .null, .int (0)]) := (g85 (o) (by omega)).trans c78
  have fa : ∀ k, k < o + 1 → ad80 k = ad k := fun k hk => (g84 (k) (by omega)).trans (fa k hk)
  have fc : ∀ k, k < o → cl81 k = cl k := fun k hk => (g85 (k) (by omega)).trans (fc k hk)
  have a88 : ad80 (o + 10) = q79 := by rw [← e82, va_up_self]
  have b89 : Blk cl81 (o + 10) [.inl (G 0, 8, .inl (fun _ => 0))] := Blk.cons (by rw [← e83, va_up_self]) Blk.nil
  refine g_putF X w (o) a86 (by omega) c87 kc9 6 (by decide) rfl rfl k_RX9_40 rfl hin rfl rfl (Nat.le_of_ble_eq_true rfl) dX9_init_57 (fun H locs w => ?_)
  have w : Wd D A s H locs (o + 11) ad80 (va_up cl81 (o) (.inr (9, [.ref (p0), .ref (p1), .ref (p2), .ref (q13), .ref (q35), .ref (q57), .ref (q79), .null, .null, .int (0)]))) := w
  generalize e91 : va_up cl81 (o) (.inr (9, [.ref (p0), .ref (p1), .ref (p2), .ref (q13), .ref (q35), .ref (q57), .ref (q79), .null, .null, .int (0)])) = cl90 at w
  have g92 : ∀ k, k ≠ o → cl90 k = cl81 k := fun k hk => by rw [← e91, va_up_ne _ _ hk]
  have c93 : cl90 (o) = .inr (9, [.ref (p0), .ref (p1), .ref (p2), .ref (q13), .ref (q35), .ref (q57), .ref (q79), .null, .null, .int (0)]) := by rw [← e91, va_up_self]
  have fc : ∀ k, k < o → cl90 k = cl k := fun k hk => (g92 (k) (by omega)).trans (fc k hk)
  refine lv_aload_n hx hb dX9_init_60 rfl (lv_at hl 0 rfl) ?_
  refine lv_bipush (v := 8) hx hb dX9_init_61 (by decide) ?_
  refine g_newI X w wa_I (n := 8) (by decide) (by decide) (by decide) (Nat.le_of_ble_eq_true rfl) (Nat.le_of_ble_eq_true rfl) dX9_init_63 (fun q94 H w => ?_)
  generalize e97 : va_up ad80 (o + 11) q94 = ad95 at w
  generalize e98 : va_up cl90 (o + 11) (.inl (G 0, 8, .inl (fun _ => 0))) = cl96 at w
  have g99 : ∀ k, k < o + 11 → ad95 k = ad80 k := fun k hk => by rw [← e97, va_up_ne _ _ (by omega)]
  have g100 : ∀ k, k < o + 11 → cl96 k = cl90 k := fun k hk => by rw [← e98, va_up_ne _ _ (by omega)]
  have a101 : ad95 (o) = ad (o) := (g99 (o) (by omega)).trans a86
  have c102 : cl96 (o) = .inr (9, [.ref (p0), .ref (p1), .ref (p2), .ref (q13), .ref (q35), .ref (q57), .ref (q79), .null, .null, .int (0)]) := (g100 (o) (by omega)).trans c93
  have fa : ∀ k, k < o + 1 → ad95 k = ad k := fun k hk => (g99 (k) (by omega)).trans (fa k hk)
  have fc : ∀ k, k < o → cl96 k = cl k := fun k hk => (g100 (k) (by omega)).trans (fc k hk)
  have a103 : ad95 (o + 11) = q94 := by rw [← e97, va_up_self]
  have b104 : Blk cl96 (o + 11) [.inl (G 0, 8, .inl (fun _ => 0))] := Blk.cons (by rw [← e98, va_up_self]) Blk.nil
  refine g_putF X w (o) a101 (by omega) c102 kc9 7 (by decide) rfl rfl k_RX9_44 rfl hin rfl rfl (Nat.le_of_ble_eq_true rfl) dX9_init_65 (fun H locs w => ?_)
  have w : Wd D A s H locs (o + 12) ad95 (va_up cl96 (o) (.inr (9, [.ref (p0), .ref (p1), .ref (p2), .ref (q13), .ref (q35), .ref (q57), .ref (q79), .ref (q94), .null, .int (0)]))) := w
  generalize e106 : va_up cl96 (o) (.inr (9, [.ref (p0), .ref (p1), .ref (p2), .ref (q13), .ref (q35), .ref (q57), .ref (q79), .ref (q94), .null, .int (0)])) = cl105 at w
  have g107 : ∀ k, k ≠ o → cl105 k = cl96 k := fun k hk => by rw [← e106, va_up_ne _ _ hk]
  have c108 : cl105 (o) = .inr (9, [.ref (p0), .ref (p1), .ref (p2), .ref (q13), .ref (q35), .ref (q57), .ref (q79), .ref (q94), .null, .int (0)]) := by rw [← e106, va_up_self]
  have fc : ∀ k, k < o → cl105 k = cl k := fun k hk => (g107 (k) (by omega)).trans (fc k hk)
  refine lv_aload_n hx hb dX9_init_68 rfl (lv_at hl 0 rfl) ?_
  refine lv_bipush (v := 9) hx hb dX9_init_69 (by decide) ?_
  refine g_newI X w wa_I (n := 9) (by decide) (by decide) (by decide) (Nat.le_of_ble_eq_true rfl) (Nat.le_of_ble_eq_true rfl) dX9_init_71 (fun q109 H w => ?_)
  generalize e112 : va_up ad95 (o + 12) q109 = ad110 at w
  generalize e113 : va_up cl105 (o + 12) (.inl (G 0, 9, .inl (fun _ => 0))) = cl111 at w
  have g114 : ∀ k, k < o + 12 → ad110 k = ad95 k := fun k hk => by rw [← e112, va_up_ne _ _ (by omega)]
  have g115 : ∀ k, k < o + 12 → cl111 k = cl105 k := fun k hk => by rw [← e113, va_up_ne _ _ (by omega)]
  have a116 : ad110 (o) = ad (o) := (g114 (o) (by omega)).trans a101
  have c117 : cl111 (o) = .inr (9, [.ref (p0), .ref (p1), .ref (p2), .ref (q13), .ref (q35), .ref (q57), .ref (q79), .ref (q94), .null, .int (0)]) := (g115 (o) (by omega)).trans c108
  have fa : ∀ k, k < o + 1 → ad110 k = ad k := fun k hk => (g114 (k) (by omega)).trans (fa k hk)
  have fc : ∀ k, k < o → cl111 k = cl k := fun k hk => (g115 (k) (by omega)).trans (fc k hk)
  have a118 : ad110 (o + 12) = q109 := by rw [← e112, va_up_self]
  have b119 : Blk cl111 (o + 12) [.inl (G 0, 9, .inl (fun _ => 0))] := Blk.cons (by rw [← e113, va_up_self]) Blk.nil
  refine g_putF X w (o) a116 (by omega) c117 kc9 8 (by decide) rfl rfl k_RX9_47 rfl hin rfl rfl (Nat.le_of_ble_eq_true rfl) dX9_init_73 (fun H locs w => ?_)
  have w : Wd D A s H locs (o + 13) ad110 (va_up cl111 (o) (.inr (9, [.ref (p0), .ref (p1), .ref (p2), .ref (q13), .ref (q35), .ref (q57), .ref (q79), .ref (q94), .ref (q109), .int (0)]))) := w
  generalize e121 : va_up cl111 (o) (.inr (9, [.ref (p0), .ref (p1), .ref (p2), .ref (q13), .ref (q35), .ref (q57), .ref (q79), .ref (q94), .ref (q109), .int (0)])) = cl120 at w
  have g122 : ∀ k, k ≠ o → cl120 k = cl111 k := fun k hk => by rw [← e121, va_up_ne _ _ hk]
  have c123 : cl120 (o) = .inr (9, [.ref (p0), .ref (p1), .ref (p2), .ref (q13), .ref (q35), .ref (q57), .ref (q79), .ref (q94), .ref (q109), .int (0)]) := by rw [← e121, va_up_self]
  have fc : ∀ k, k < o → cl120 k = cl k := fun k hk => (g122 (k) (by omega)).trans (fc k hk)
  have FA18 : ∀ k, k < o + 13 → ad110 k = ad110 k := fun _ _ => rfl
  have FC18 : ∀ k, k ≠ o → k ≠ o → k < o + 13 → cl120 k = cl120 k := fun _ _ _ _ => rfl
  have FA17 : ∀ k, k < o + 13 → ad110 k = ad110 k := fun k hk => FA18 k (by omega)
  have FC17 : ∀ k, k ≠ o → k ≠ o → k < o + 13 → cl120 k = cl111 k := fun k h0 h9 hk => (FC18 k h0 h9 (by omega)).trans (g122 k h0)
  have FA16 : ∀ k, k < o + 12 → ad110 k = ad95 k := fun k hk => (FA17 k (by omega)).trans (g114 k (by omega))
  have FC16 : ∀ k, k ≠ o → k ≠ o → k < o + 12 → cl120 k = cl105 k := fun k h0 h9 hk => (FC17 k h0 h9 (by omega)).trans (g115 k (by omega))
  have FA15 : ∀ k, k < o + 12 → ad110 k = ad95 k := fun k hk => FA16 k (by omega)
  have FC15 : ∀ k, k ≠ o → k ≠ o → k < o + 12 → cl120 k = cl96 k := fun k h0 h9 hk => (FC16 k h0 h9 (by omega)).trans (g107 k h0)
  have FA14 : ∀ k, k < o + 11 → ad110 k = ad80 k := fun k hk => (FA15 k (by omega)).trans (g99 k (by omega))
  have FC14 : ∀ k, k ≠ o → k ≠ o → k < o + 11 → cl120 k = cl90 k := fun k h0 h9 hk => (FC15 k h0 h9 (by omega)).trans (g100 k (by omega))
  have FA13 : ∀ k, k < o + 11 → ad110 k = ad80 k := fun k hk => FA14 k (by omega)
  have FC13 : ∀ k, k ≠ o → k ≠ o → k < o + 11 → cl120 k = cl81 k := fun k h0 h9 hk => (FC14 k h0 h9 (by omega)).trans (g92 k h0)
  have FA12 : ∀ k, k < o + 10 → ad110 k = ad68 k := fun k hk => (FA13 k (by omega)).trans (g84 k (by omega))
  have FC12 : ∀ k, k ≠ o → k ≠ o → k < o + 10 → cl120 k = cl75 k := fun k h0 h9 hk => (FC13 k h0 h9 (by omega)).trans (g85 k (by omega))
  have FA11 : ∀ k, k < o + 10 → ad110 k = ad68 k := fun k hk => FA12 k (by omega)
  have FC11 : ∀ k, k ≠ o → k ≠ o → k < o + 10 → cl120 k = cl69 k := fun k h0 h9 hk => (FC12 k h0 h9 (by omega)).trans (g77 k h0)
  have FA10 : ∀ k, k < o + 9 → ad110 k = ad58 k := fun k hk => (FA11 k (by omega)).trans (g70 k (by omega))
  have FC10 : ∀ k, k ≠ o → k ≠ o → k < o + 8 → cl120 k = cl59 k := fun k h0 h9 hk => (FC11 k h0 h9 (by omega)).trans (g71 k (by omega))
  have FA9 : ∀ k, k < o + 8 → ad110 k = ad46 k := fun k hk => (FA10 k (by omega)).trans (g62 k (by omega))
  have FC9 : ∀ k, k ≠ o → k ≠ o → k < o + 8 → cl120 k = cl53 k := fun k h0 h9 hk => (FC10 k h0 h9 (by omega)).trans (g63 k (by omega))
  have FA8 : ∀ k, k < o + 8 → ad110 k = ad46 k := fun k hk => FA9 k (by omega)
  have FC8 : ∀ k, k ≠ o → k ≠ o → k < o + 8 → cl120 k = cl47 k := fun k h0 h9 hk => (FC9 k h0 h9 (by omega)).trans (g55 k h0)
  have FA7 : ∀ k, k < o + 7 → ad110 k = ad36 k := fun k hk => (FA8 k (by omega)).trans (g48 k (by omega))
  have FC7 : ∀ k, k ≠ o → k ≠ o → k < o + 6 → cl120 k = cl37 k := fun k h0 h9 hk => (FC8 k h0 h9 (by omega)).trans (g49 k (by omega))
  have FA6 : ∀ k, k < o + 6 → ad110 k = ad24 k := fun k hk => (FA7 k (by omega)).trans (g40 k (by omega))
  have FC6 : ∀ k, k ≠ o → k ≠ o → k < o + 6 → cl120 k = cl31 k := fun k h0 h9 hk => (FC7 k h0 h9 (by omega)).trans (g41 k (by omega))
  have FA5 : ∀ k, k < o + 6 → ad110 k = ad24 k := fun k hk => FA6 k (by omega)
  have FC5 : ∀ k, k ≠ o → k ≠ o → k < o + 6 → cl120 k = cl25 k := fun k h0 h9 hk => (FC6 k h0 h9 (by omega)).trans (g33 k h0)
  have FA4 : ∀ k, k < o + 2 → ad110 k = ad14 k := fun k hk => (FA5 k (by omega)).trans (g26 k (by omega))
  have FC4 : ∀ k, k ≠ o → k ≠ o → k < o + 1 → cl120 k = cl15 k := fun k h0 h9 hk => (FC5 k h0 h9 (by omega)).trans (g27 k (by omega))
  have FA3 : ∀ k, k < o + 1 → ad110 k = ad k := fun k hk => (FA4 k (by omega)).trans (g18 k (by omega))
  have FC3 : ∀ k, k ≠ o → k ≠ o → k < o + 1 → cl120 k = cl9 k := fun k h0 h9 hk => (FC4 k h0 h9 (by omega)).trans (g19 k (by omega))
  have FA2 : ∀ k, k < o + 1 → ad110 k = ad k := fun k hk => FA3 k (by omega)
  have FC2 : ∀ k, k ≠ o → k ≠ o → k < o + 1 → cl120 k = cl5 k := fun k h0 h9 hk => (FC3 k h0 h9 (by omega)).trans (g11 k h0)
  have FA1 : ∀ k, k < o + 1 → ad110 k = ad k := fun k hk => FA2 k (by omega)
  have FC1 : ∀ k, k ≠ o → k ≠ o → k < o + 1 → cl120 k = cl1 k := fun k h0 h9 hk => (FC2 k h0 h9 (by omega)).trans (g7 k h0)
  have FA0 : ∀ k, k < o + 1 → ad110 k = ad k := fun k hk => FA1 k (by omega)
  have FC0 : ∀ k, k ≠ o → k ≠ o → k < o + 1 → cl120 k = cl k := fun k h0 h9 hk => (FC1 k h0 h9 (by omega)).trans (g3 k h0)
  have b124 : Blk cl120 (o + 1) (bX8 G ad110 (o + 1)) := by rw [cg8 (n := 5) (Nat.le_refl _) (fun k h1 h2 => FA5 k (by omega))]; exact b28.tr (n := 5) (Nat.le_of_eq ln8) (fun k h1 h2 => FC5 k (by omega) (by omega) (by omega))
  have b125 : Blk cl120 (o + 6) (bX5 G ad110 (o + 6)) := by rw [cg5 (n := 2) (Nat.le_refl _) (fun k h1 h2 => FA8 k (by omega))]; exact b50.tr (n := 2) (Nat.le_of_eq ln5) (fun k h1 h2 => FC8 k (by omega) (by omega) (by omega))
  have b126 : Blk cl120 (o + 8) (bX5 G ad110 (o + 8)) := by rw [cg5 (n := 2) (Nat.le_refl _) (fun k h1 h2 => FA11 k (by omega))]; exact b72.tr (n := 2) (Nat.le_of_eq ln5) (fun k h1 h2 => FC11 k (by omega) (by omega) (by omega))
  have b127 : Blk cl120 (o + 10) ([.inl (G 0, 8, .inl (fun _ => 0))]) := b89.tr (n := 1) (Nat.le_refl _) (fun k h1 h2 => FC13 k (by omega) (by omega) (by omega))
  have b128 : Blk cl120 (o + 11) ([.inl (G 0, 8, .inl (fun _ => 0))]) := b104.tr (n := 1) (Nat.le_refl _) (fun k h1 h2 => FC15 k (by omega) (by omega) (by omega))
  have b129 : Blk cl120 (o + 12) ([.inl (G 0, 9, .inl (fun _ => 0))]) := b119.tr (n := 1) (Nat.le_refl _) (fun k h1 h2 => FC17 k (by omega) (by omega) (by omega))
  have z130 : ad110 (o + 1) = q13 := (FA4 (o + 1) (by omega)).trans a22
  have z131 : ad110 (o + 6) = q35 := (FA7 (o + 6) (by omega)).trans a44
  have z132 : ad110 (o + 8) = q57 := (FA10 (o + 8) (by omega)).trans a66
  have z133 : ad110 (o + 10) = q79 := (FA13 (o + 10) (by omega)).trans a88
  have z134 : ad110 (o + 11) = q94 := (FA15 (o + 11) (by omega)).trans a103
  have z135 : ad110 (o + 12) = q109 := (FA17 (o + 12) (by omega)).trans a118
  refine e_V X hr w ⟨ad110, cl120, rfl, fa, fc, ?_⟩ (Nat.le_of_ble_eq_true rfl) (Nat.le_of_ble_eq_true rfl) dX9_init_76
  refine Blk.cons ?_ (b124.app (by rw [ln8]) (b125.app (by rw [ln5]) (b126.app (by rw [ln5]) (b127.app (rfl) (b128.app (rfl) (b129))))))
  rw [c123, z130, z131, z132, z133, z134, z135]
abbrev cX3_init : ByteArray := prog_5_method_1_code
def yX3_init : MethodName := ⟨RX3, "<init>", "()V"⟩
theorem wcX3_init : Cond.code yX3_init cX3_init 1 none ∈ tb := tb_3 (i := 66) rfl rfl
theorem wi_3 : Cond.initialized RX3 ∈ tb := tb_1 (i := 13) (by decide +kernel) rfl
theorem wnX3_init : Cond.instanceMethod yX3_init ∈ tb := tb_3 (i := 65) (by decide +kernel) rfl
theorem YX3_init : Yi yX3_init cX3_init 1 0 := ⟨wcX3_init, wnX3_init, wi_3, rfl, by decide +kernel, by decide +kernel, by decide +kernel⟩
theorem dX3_init_0 : decode cX3_init 0 = .ok (.aload_n 0, 1) := by decide +kernel
theorem dX3_init_1 : decode cX3_init 1 = .ok (.invokespecial 3, 3) := by decide +kernel
theorem dX3_init_4 : decode cX3_init 4 = .ok (.aload_n 0, 1) := by decide +kernel
theorem dX3_init_5 : decode cX3_init 5 = .ok (.new 9, 3) := by decide +kernel
theorem dX3_init_8 : decode cX3_init 8 = .ok (.dup, 1) := by decide +kernel
theorem dX3_init_9 : decode cX3_init 9 = .ok (.invokespecial 11, 3) := by decide +kernel
theorem dX3_init_12 : decode cX3_init 12 = .ok (.putfield 12, 3) := by decide +kernel
theorem dX3_init_15 : decode cX3_init 15 = .ok (.aload_n 0, 1) := by decide +kernel
theorem dX3_init_16 : decode cX3_init 16 = .ok (.new 18, 3) := by decide +kernel
theorem dX3_init_19 : decode cX3_init 19 = .ok (.dup, 1) := by decide +kernel
theorem dX3_init_20 : decode cX3_init 20 = .ok (.invokespecial 20, 3) := by decide +kernel
theorem dX3_init_23 : decode cX3_init 23 = .ok (.putfield 21, 3) := by decide +kernel
theorem dX3_init_26 : decode cX3_init 26 = .ok (.aload_n 0, 1) := by decide +kernel
theorem dX3_init_27 : decode cX3_init 27 = .ok (.new 18, 3) := by decide +kernel
theorem dX3_init_30 : decode cX3_init 30 = .ok (.dup, 1) := by decide +kernel
theorem dX3_init_31 : decode cX3_init 31 = .ok (.invokespecial 20, 3) := by decide +kernel
theorem dX3_init_34 : decode cX3_init 34 = .ok (.putfield 25, 3) := by decide +kernel
theorem dX3_init_37 : decode cX3_init 37 = .ok (.aload_n 0, 1) := by decide +kernel
theorem dX3_init_38 : decode cX3_init 38 = .ok (.new 18, 3) := by decide +kernel
theorem dX3_init_41 : decode cX3_init 41 = .ok (.dup, 1) := by decide +kernel
theorem dX3_init_42 : decode cX3_init 42 = .ok (.invokespecial 20, 3) := by decide +kernel
theorem dX3_init_45 : decode cX3_init 45 = .ok (.putfield 28, 3) := by decide +kernel
theorem dX3_init_48 : decode cX3_init 48 = .ok (.aload_n 0, 1) := by decide +kernel
theorem dX3_init_49 : decode cX3_init 49 = .ok (.new 18, 3) := by decide +kernel
theorem dX3_init_52 : decode cX3_init 52 = .ok (.dup, 1) := by decide +kernel
theorem dX3_init_53 : decode cX3_init 53 = .ok (.invokespecial 20, 3) := by decide +kernel
theorem dX3_init_56 : decode cX3_init 56 = .ok (.putfield 31, 3) := by decide +kernel
theorem dX3_init_59 : decode cX3_init 59 = .ok (.aload_n 0, 1) := by decide +kernel
theorem dX3_init_60 : decode cX3_init 60 = .ok (.new 18, 3) := by decide +kernel
theorem dX3_init_63 : decode cX3_init 63 = .ok (.dup, 1) := by decide +kernel
theorem dX3_init_64 : decode cX3_init 64 = .ok (.invokespecial 20, 3) := by decide +kernel
theorem dX3_init_67 : decode cX3_init 67 = .ok (.putfield 34, 3) := by decide +kernel
theorem dX3_init_70 : decode cX3_init 70 = .ok (.aload_n 0, 1) := by decide +kernel
theorem dX3_init_71 : decode cX3_init 71 = .ok (.bipush 13, 2) := by decide +kernel
theorem dX3_init_73 : decode cX3_init 73 = .ok (.newarray .int, 2) := by decide +kernel
theorem dX3_init_75 : decode cX3_init 75 = .ok (.putfield 37, 3) := by decide +kernel
theorem dX3_init_78 : decode cX3_init 78 = .ok (.return_, 1) := by decide +kernel
theorem k_RX3_3 : Cond.methodLink RX3 3 ⟨"java/lang/Object", "<init>", "()V"⟩ ∈ tb := tb_3 (i := 67) (by decide +kernel) rfl
theorem k_RX3_9 : Cond.classLink RX3 9 RX8 ∈ tb := tb_3 (i := 68) (by decide +kernel) rfl
theorem k_RX3_11 : Cond.methodLink RX3 11 yX8_init ∈ tb := tb_3 (i := 69) (by decide +kernel) rfl
theorem k_RX3_12 : Cond.fieldLink RX3 12 RX3 "shown" "LTypeRoom$Shelf;" ∈ tb := tb_3 (i := 74) (by decide +kernel) rfl
theorem k_RX3_18 : Cond.classLink RX3 18 RX5 ∈ tb := tb_3 (i := 70) (by decide +kernel) rfl
theorem k_RX3_20 : Cond.methodLink RX3 20 yX5_init ∈ tb := tb_3 (i := 71) (by decide +kernel) rfl
theorem k_RX3_21 : Cond.fieldLink RX3 21 RX3 "origins" "LTypeRoom$Row;" ∈ tb := tb_3 (i := 76) (by decide +kernel) rfl
theorem k_RX3_25 : Cond.fieldLink RX3 25 RX3 "pageStarts" "LTypeRoom$Row;" ∈ tb := tb_3 (i := 78) (by decide +kernel) rfl
theorem k_RX3_28 : Cond.fieldLink RX3 28 RX3 "hashes" "LTypeRoom$Row;" ∈ tb := tb_3 (i := 81) (by decide +kernel) rfl
theorem k_RX3_31 : Cond.fieldLink RX3 31 RX3 "above" "LTypeRoom$Row;" ∈ tb := tb_3 (i := 82) (by decide +kernel) rfl
theorem k_RX3_34 : Cond.fieldLink RX3 34 RX3 "label" "LTypeRoom$Row;" ∈ tb := tb_3 (i := 83) (by decide +kernel) rfl
theorem k_RX3_37 : Cond.fieldLink RX3 37 RX3 "tallies" "[I" ∈ tb := tb_3 (i := 84) (by decide +kernel) rfl
def bX3 (G : Nat → ClassId) (ad : Nat → Nat) (b : Nat) : List va_E := (.inr (3, [.int (0), .ref (ad (b + 1)), .ref (ad (b + 6)), .ref (ad (b + 8)), .ref (ad (b + 10)), .ref (ad (b + 12)), .ref (ad (b + 14)), .ref (ad (b + 16))])) :: (bX8 G ad (b + 1) ++ (bX5 G ad (b + 6) ++ (bX5 G ad (b + 8) ++ (bX5 G ad (b + 10) ++ (bX5 G ad (b + 12) ++ (bX5 G ad (b + 14) ++ ([.inl (G 0, 13, .inl (fun _ => 0))])))))))
theorem cg3 {G : Nat → ClassId} {ad ad' : Nat → Nat} {b n : Nat} (hn : 17 ≤ n) (h : ∀ k, k < b + n → b ≤ k → ad' k = ad k) : bX3 G ad' b = bX3 G ad b := by
  simp only [bX3, h (b + 1) (by omega) (by omega), h (b + 6) (by omega) (by omega), h (b + 8) (by omega) (by omega), h (b + 10) (by omega) (by omega), h (b + 12) (by omega) (by omega), h (b + 14) (by omega) (by omega), h (b + 16) (by omega) (by omega), cg8 (b := b + 1) (n := 5) (Nat.le_refl _) (fun k h1 h2 => h k (by omega) (by omega)), cg5 (b := b + 6) (n := 2) (Nat.le_refl _) (fun k h1 h2 => h k (by omega) (by omega)), cg5 (b := b + 8) (n := 2) (Nat.le_refl _) (fun k h1 h2 => h k (by omega) (by omega)), cg5 (b := b + 10) (n := 2) (Nat.le_refl _) (fun k h1 h2 => h k (by omega) (by omega)), cg5 (b := b + 12) (n := 2) (Nat.le_refl _) (fun k h1 h2 => h k (by omega) (by omega)), cg5 (b := b + 14) (n := 2) (Nat.le_refl _) (fun k h1 h2 => h k (by omega) (by omega))]
theorem ln3 {G : Nat → ClassId} {ad : Nat → Nat} {b : Nat} : (bX3 G ad b).length = 17 := by
  simp only [bX3, List.length_cons, List.length_append, List.length_nil, ln5, ln8]
set_option maxHeartbeats 4000000 in
set_option maxRecDepth 100000 in
theorem cn_3 (l : Launch) (D : va_G) (G : Nat → ClassId) (t : Nat → Nat) (N : Nat) (ad : Nat → Nat) (cl : Nat → va_E) (o : Nat) (hiN : o + 1 = N) (hc0 : cl o = .inr (3, [.int 0, .null, .null, .null, .null, .null, .null, .null])) (d : Nat) (hd : 3 ≤ d) : CtV l yX3_init cX3_init 1 (rmD d 16 141) D G t (N, ad, cl) [.ref (ad o)] (fun u => ∃ ad' cl', u = (o + 17, ad', cl') ∧ (∀ k, k < o + 1 → ad' k = ad k) ∧ (∀ k, k < o → cl' k = cl k) ∧ Blk cl' o (bX3 G ad' o)) := by
  subst hiN
  refine ct_V (own := RX3) (by decide +kernel) rfl (Nat.le_of_ble_eq_true rfl) rfl ?_
  intro p e s m args below meth c A ls X hr hin hl w
  obtain ⟨hx, hb, hml, hown, hts, -⟩ := id X
  have hl : lv_has ls 1 [(0, .ref (ad (o)))] := hl
  have fa : ∀ k, k < o + 1 → ad k = ad k := fun _ _ => rfl
  have fc : ∀ k, k < o → cl k = cl k := fun _ _ => rfl
  refine lv_aload_n hx hb dX3_init_0 rfl (lv_at hl 0 rfl) ?_
  refine g_oinit X hl.1 k_RX3_3 dX3_init_1 (by decide) ⟨by show 1 ≤ d; omega, rm_loc (by omega) (by decide)⟩ ?_
  refine lv_aload_n hx hb dX3_init_4 rfl (lv_at hl 0 rfl) ?_
  refine g_new X w kc8 k_RX3_9 wt_8 wi_8 bl_8 (Nat.le_of_ble_eq_true rfl) (Nat.le_of_ble_eq_true rfl) dX3_init_5 (fun q1 H w => ?_)
  generalize e4 : va_up ad (o + 1) q1 = ad2 at w
  generalize e5 : va_up cl (o + 1) (.inr (8, [.null, .null])) = cl3 at w
  have g6 : ∀ k, k < o + 1 → ad2 k = ad k := fun k hk => by rw [← e4, va_up_ne _ _ (by omega)]
  have g7 : ∀ k, k < o + 1 → cl3 k = cl k := fun k hk => by rw [← e5, va_up_ne _ _ (by omega)]
  have a8 : ad2 (o) = ad (o) := g6 (o) (by omega)
  have c9 : cl3 (o) = .inr (3, [.int (0), .null, .null, .null, .null, .null, .null, .null]) := (g7 (o) (by omega)).trans hc0
  have fa : ∀ k, k < o + 1 → ad2 k = ad k := fun k hk => (g6 (k) (by omega)).trans (fa k hk)
  have fc : ∀ k, k < o → cl3 k = cl k := fun k hk => (g7 (k) (by omega)).trans (fc k hk)
  have a10 : ad2 (o + 1) = q1 := by rw [← e4, va_up_self]
  have c11 : cl3 (o + 1) = .inr (8, [.null, .null]) := by rw [← e5, va_up_self]
  refine lv_dup hx hb dX3_init_8 rfl ?_
  refine c_init (As := []) (rest := [.ref (q1), .ref (ad (o))]) X w (cn_8 l D G t (o + 2) ad2 cl3 (o + 1) rfl c11 (d - 1) (by omega)) YX8_init k_RX3_11 (by rw [a10]) rfl rfl hl.1 (rm_call (by omega) (by decide)) (Nat.le_of_ble_eq_true rfl) dX3_init_9 (⟨Nat.le_of_ble_eq_true rfl, Nat.le_of_ble_eq_true rfl⟩) (fun u H locs hp w => ?_)
  obtain ⟨ad12, cl13, rfl, g14, g15, b16⟩ := hp
  have w : Wd D A s H locs (o + 6) ad12 cl13 := w
  have b16 : Blk cl13 (o + 1) (bX8 G ad12 (o + 1)) := b16
  have a17 : ad12 (o) = ad (o) := (g14 (o) (by omega)).trans a8
  have c18 : cl13 (o) = .inr (3, [.int (0), .null, .null, .null, .null, .null, .null, .null]) := (g15 (o) (by omega)).trans c9
  have fa : ∀ k, k < o + 1 → ad12 k = ad k := fun k hk => (g14 (k) (by omega)).trans (fa k hk)
  have fc : ∀ k, k < o → cl13 k = cl k := fun k hk => (g15 (k) (by omega)).trans (fc k hk)
  refine g_putF X w (o) a17 (by omega) c18 kc3 1 (by decide) rfl rfl k_RX3_12 rfl hin rfl rfl (Nat.le_of_ble_eq_true rfl) dX3_init_12 (fun H locs w => ?_)
  have w : Wd D A s H locs (o + 6) ad12 (va_up cl13 (o) (.inr (3, [.int (0), .ref (q1), .null, .null, .null, .null, .null, .null]))) := w
  generalize e20 : va_up cl13 (o) (.inr (3, [.int (0), .ref (q1), .null, .null, .null, .null, .null, .null])) = cl19 at w
  have g21 : ∀ k, k ≠ o → cl19 k = cl13 k := fun k hk => by rw [← e20, va_up_ne _ _ hk]
  have c22 : cl19 (o) = .inr (3, [.int (0), .ref (q1), .null, .null, .null, .null, .null, .null]) := by rw [← e20, va_up_self]
  have fc : ∀ k, k < o → cl19 k = cl k := fun k hk => (g21 (k) (by omega)).trans (fc k hk)
  refine lv_aload_n hx hb dX3_init_15 rfl (lv_at hl 0 rfl) ?_
  refine g_new X w kc5 k_RX3_18 wt_5 wi_5 bl_5 (Nat.le_of_ble_eq_true rfl) (Nat.le_of_ble_eq_true rfl) dX3_init_16 (fun q23 H w => ?_)
  generalize e26 : va_up ad12 (o + 6) q23 = ad24 at w
  generalize e27 : va_up cl19 (o + 6) (.inr (5, [.null, .int 0])) = cl25 at w
  have g28 : ∀ k, k < o + 6 → ad24 k = ad12 k := fun k hk => by rw [← e26, va_up_ne _ _ (by omega)]
  have g29 : ∀ k, k < o + 6 → cl25 k = cl19 k := fun k hk => by rw [← e27, va_up_ne _ _ (by omega)]
  have a30 : ad24 (o) = ad (o) := (g28 (o) (by omega)).trans a17
  have c31 : cl25 (o) = .inr (3, [.int (0), .ref (q1), .null, .null, .null, .null, .null, .null]) := (g29 (o) (by omega)).trans c22
  have fa : ∀ k, k < o + 1 → ad24 k = ad k := fun k hk => (g28 (k) (by omega)).trans (fa k hk)
  have fc : ∀ k, k < o → cl25 k = cl k := fun k hk => (g29 (k) (by omega)).trans (fc k hk)
  have a32 : ad24 (o + 6) = q23 := by rw [← e26, va_up_self]
  have c33 : cl25 (o + 6) = .inr (5, [.null, .int 0]) := by rw [← e27, va_up_self]
  refine lv_dup hx hb dX3_init_19 rfl ?_
  refine c_init (As := []) (rest := [.ref (q23), .ref (ad (o))]) X w (cn_5 l D G t (o + 7) ad24 cl25 (o + 6) rfl c33 (d - 1) (by omega)) YX5_init k_RX3_20 (by rw [a32]) rfl rfl hl.1 (rm_call (by omega) (by decide)) (Nat.le_of_ble_eq_true rfl) dX3_init_20 (⟨Nat.le_of_ble_eq_true rfl, Nat.le_of_ble_eq_true rfl⟩) (fun u H locs hp w => ?_)
  obtain ⟨ad34, cl35, rfl, g36, g37, b38⟩ := hp
  have w : Wd D A s H locs (o + 8) ad34 cl35 := w
  have b38 : Blk cl35 (o + 6) (bX5 G ad34 (o + 6)) := b38
  have a39 : ad34 (o) = ad (o) := (g36 (o) (by omega)).trans a30
  have c40 : cl35 (o) = .inr (3, [.int (0), .ref (q1), .null, .null, .null, .null, .null, .null]) := (g37 (o) (by omega)).trans c31
  have fa : ∀ k, k < o + 1 → ad34 k = ad k := fun k hk => (g36 (k) (by omega)).trans (fa k hk)
  have fc : ∀ k, k < o → cl35 k = cl k := fun k hk => (g37 (k) (by omega)).trans (fc k hk)
  refine g_putF X w (o) a39 (by omega) c40 kc3 2 (by decide) rfl rfl k_RX3_21 rfl hin rfl rfl (Nat.le_of_ble_eq_true rfl) dX3_init_23 (fun H locs w => ?_)
  have w : Wd D A s H locs (o + 8) ad34 (va_up cl35 (o) (.inr (3, [.int (0), .ref (q1), .ref (q23), .null, .null, .null, .null, .null]))) := w
  generalize e42 : va_up cl35 (o) (.inr (3, [.int (0), .ref (q1), .ref (q23), .null, .null, .null, .null, .null])) = cl41 at w
  have g43 : ∀ k, k ≠ o → cl41 k = cl35 k := fun k hk => by rw [← e42, va_up_ne _ _ hk]
  have c44 : cl41 (o) = .inr (3, [.int (0), .ref (q1), .ref (q23), .null, .null, .null, .null, .null]) := by rw [← e42, va_up_self]
  have fc : ∀ k, k < o → cl41 k = cl k := fun k hk => (g43 (k) (by omega)).trans (fc k hk)
  refine lv_aload_n hx hb dX3_init_26 rfl (lv_at hl 0 rfl) ?_
  refine g_new X w kc5 k_RX3_18 wt_5 wi_5 bl_5 (Nat.le_of_ble_eq_true rfl) (Nat.le_of_ble_eq_true rfl) dX3_init_27 (fun q45 H w => ?_)
  generalize e48 : va_up ad34 (o + 8) q45 = ad46 at w
  generalize e49 : va_up cl41 (o + 8) (.inr (5, [.null, .int 0])) = cl47 at w
  have g50 : ∀ k, k < o + 8 → ad46 k = ad34 k := fun k hk => by rw [← e48, va_up_ne _ _ (by omega)]
  have g51 : ∀ k, k < o + 8 → cl47 k = cl41 k := fun k hk => by rw [← e49, va_up_ne _ _ (by omega)]
  have a52 : ad46 (o) = ad (o) := (g50 (o) (by omega)).trans a39
  have c53 : cl47 (o) = .inr (3, [.int (0), .ref (q1), .ref (q23), .null, .null, .null, .null, .null]) := (g51 (o) (by omega)).trans c44
  have fa : ∀ k, k < o + 1 → ad46 k = ad k := fun k hk => (g50 (k) (by omega)).trans (fa k hk)
  have fc : ∀ k, k < o → cl47 k = cl k := fun k hk => (g51 (k) (by omega)).trans (fc k hk)
  have a54 : ad46 (o + 8) = q45 := by rw [← e48, va_up_self]
  have c55 : cl47 (o + 8) = .inr (5, [.null, .int 0]) := by rw [← e49, va_up_self]
  refine lv_dup hx hb dX3_init_30 rfl ?_
  refine c_init (As := []) (rest := [.ref (q45), .ref (ad (o))]) X w (cn_5 l D G t (o + 9) ad46 cl47 (o + 8) rfl c55 (d - 1) (by omega)) YX5_init k_RX3_20 (by rw [a54]) rfl rfl hl.1 (rm_call (by omega) (by decide)) (Nat.le_of_ble_eq_true rfl) dX3_init_31 (⟨Nat.le_of_ble_eq_true rfl, Nat.le_of_ble_eq_true rfl⟩) (fun u H locs hp w => ?_)
  obtain ⟨ad56, cl57, rfl, g58, g59, b60⟩ := hp
  have w : Wd D A s H locs (o + 10) ad56 cl57 := w
  have b60 : Blk cl57 (o + 8) (bX5 G ad56 (o + 8)) := b60
  have a61 : ad56 (o) = ad (o) := (g58 (o) (by omega)).trans a52
  have c62 : cl57 (o) = .inr (3, [.int (0), .ref (q1), .ref (q23), .null, .null, .null, .null, .null]) := (g59 (o) (by omega)).trans c53
  have fa : ∀ k, k < o + 1 → ad56 k = ad k := fun k hk => (g58 (k) (by omega)).trans (fa k hk)
  have fc : ∀ k, k < o → cl57 k = cl k := fun k hk => (g59 (k) (by omega)).trans (fc k hk)
  refine g_putF X w (o) a61 (by omega) c62 kc3 3 (by decide) rfl rfl k_RX3_25 rfl hin rfl rfl (Nat.le_of_ble_eq_true rfl) dX3_init_34 (fun H locs w => ?_)
  have w : Wd D A s H locs (o + 10) ad56 (va_up cl57 (o) (.inr (3, [.int (0), .ref (q1), .ref (q23), .ref (q45), .null, .null, .null, .null]))) := w
  generalize e64 : va_up cl57 (o) (.inr (3, [.int (0), .ref (q1), .ref (q23), .ref (q45), .null, .null, .null, .null])) = cl63 at w
  have g65 : ∀ k, k ≠ o → cl63 k = cl57 k := fun k hk => by rw [← e64, va_up_ne _ _ hk]
  have c66 : cl63 (o) = .inr (3, [.int (0), .ref (q1), .ref (q23), .ref (q45), .null, .null, .null, .null]) := by rw [← e64, va_up_self]
  have fc : ∀ k, k < o → cl63 k = cl k := fun k hk => (g65 (k) (by omega)).trans (fc k hk)
  refine lv_aload_n hx hb dX3_init_37 rfl (lv_at hl 0 rfl) ?_
  refine g_new X w kc5 k_RX3_18 wt_5 wi_5 bl_5 (Nat.le_of_ble_eq_true rfl) (Nat.le_of_ble_eq_true rfl) dX3_init_38 (fun q67 H w => ?_)
  generalize e70 : va_up ad56 (o + 10) q67 = ad68 at w
  generalize e71 : va_up cl63 (o + 10) (.inr (5, [.null, .int 0])) = cl69 at w
  have g72 : ∀ k, k < o + 10 → ad68 k = ad56 k := fun k hk => by rw [← e70, va_up_ne _ _ (by omega)]
  have g73 : ∀ k, k < o + 10 → cl69 k = cl63 k := fun k hk => by rw [← e71, va_up_ne _ _ (by omega)]
  have a74 : ad68 (o) = ad (o) := (g72 (o) (by omega)).trans a61
  have c75 : cl69 (o) = .inr (3, [.int (0), .ref (q1), .ref (q23), .ref (q45), .null, .null, .null, .null]) := (g73 (o) (by omega)).trans c66
  have fa : ∀ k, k < o + 1 → ad68 k = ad k := fun k hk => (g72 (k) (by omega)).trans (fa k hk)
  have fc : ∀ k, k < o → cl69 k = cl k := fun k hk => (g73 (k) (by omega)).trans (fc k hk)
  have a76 : ad68 (o + 10) = q67 := by rw [← e70, va_up_self]
  have c77 : cl69 (o + 10) = .inr (5, [.null, .int 0]) := by rw [← e71, va_up_self]
  refine lv_dup hx hb dX3_init_41 rfl ?_
  refine c_init (As := []) (rest := [.ref (q67), .ref (ad (o))]) X w (cn_5 l D G t (o + 11) ad68 cl69 (o + 10) rfl c77 (d - 1) (by omega)) YX5_init k_RX3_20 (by rw [a76]) rfl rfl hl.1 (rm_call (by omega) (by decide)) (Nat.le_of_ble_eq_true rfl) dX3_init_42 (⟨Nat.le_of_ble_eq_true rfl, Nat.le_of_ble_eq_true rfl⟩) (fun u H locs hp w => ?_)
  obtain ⟨ad78, cl79, rfl, g80, g81, b82⟩ := hp
  have w : Wd D A s H locs (o + 12) ad78 cl79 := w
  have b82 : Blk cl79 (o + 10) (bX5 G ad78 (o + 10)) := b82
  have a83 : ad78 (o) = ad (o) := (g80 (o) (by omega)).trans a74
  have c84 : cl79 (o) = .inr (3, [.int (0), .ref (q1), .ref (q23), .ref (q45), .null, .null, .null, .null]) := (g81 (o) (by omega)).trans c75
  have fa : ∀ k, k < o + 1 → ad78 k = ad k := fun k hk => (g80 (k) (by omega)).trans (fa k hk)
  have fc : ∀ k, k < o → cl79 k = cl k := fun k hk => (g81 (k) (by omega)).trans (fc k hk)
  refine g_putF X w (o) a83 (by omega) c84 kc3 4 (by decide) rfl rfl k_RX3_28 rfl hin rfl rfl (Nat.le_of_ble_eq_true rfl) dX3_init_45 (fun H locs w => ?_)
  have w : Wd D A s H locs (o + 12) ad78 (va_up cl79 (o) (.inr (3, [.int (0), .ref (q1), .ref (q23), .ref (q45), .ref (q67), .null, .null, .null]))) := w
  generalize e86 : va_up cl79 (o) (.inr (3, [.int (0), .ref (q1), .ref (q23), .ref (q45), .ref (q67), .null, .null, .null])) = cl85 at w
  have g87 : ∀ k, k ≠ o → cl85 k = cl79 k := fun k hk => by rw [← e86, va_up_ne _ _ hk]
  have c88 : cl85 (o) = .inr (3, [.int (0), .ref (q1), .ref (q23), .ref (q45), .ref (q67), .null, .null, .null]) := by rw [← e86, va_up_self]
  have fc : ∀ k, k < o → cl85 k = cl k := fun k hk => (g87 (k) (by omega)).trans (fc k hk)
  refine lv_aload_n hx hb dX3_init_48 rfl (lv_at hl 0 rfl) ?_
  refine g_new X w kc5 k_RX3_18 wt_5 wi_5 bl_5 (Nat.le_of_ble_eq_true rfl) (Nat.le_of_ble_eq_true rfl) dX3_init_49 (fun q89 H w => ?_)
  generalize e92 : va_up ad78 (o + 12) q89 = ad90 at w
  generalize e93 : va_up cl85 (o + 12) (.inr (5, [.null, .int 0])) = cl91 at w
  have g94 : ∀ k, k < o + 12 → ad90 k = ad78 k := fun k hk => by rw [← e92, va_up_ne _ _ (by omega)]
  have g95 : ∀ k, k < o + 12 → cl91 k = cl85 k := fun k hk => by rw [← e93, va_up_ne _ _ (by omega)]
  have a96 : ad90 (o) = ad (o) := (g94 (o) (by omega)).trans a83
  have c97 : cl91 (o) = .inr (3, [.int (0), .ref (q1), .ref (q23), .ref (q45), .ref (q67), .null, .null, .null]) := (g95 (o) (by omega)).trans c88
  have fa : ∀ k, k < o + 1 → ad90 k = ad k := fun k hk => (g94 (k) (by omega)).trans (fa k hk)
  have fc : ∀ k, k < o → cl91 k = cl k := fun k hk => (g95 (k) (by omega)).trans (fc k hk)
  have a98 : ad90 (o + 12) = q89 := by rw [← e92, va_up_self]
  have c99 : cl91 (o + 12) = .inr (5, [.null, .int 0]) := by rw [← e93, va_up_self]
  refine lv_dup hx hb dX3_init_52 rfl ?_
  refine c_init (As := []) (rest := [.ref (q89), .ref (ad (o))]) X w (cn_5 l D G t (o + 13) ad90 cl91 (o + 12) rfl c99 (d - 1) (by omega)) YX5_init k_RX3_20 (by rw [a98]) rfl rfl hl.1 (rm_call (by omega) (by decide)) (Nat.le_of_ble_eq_true rfl) dX3_init_53 (⟨Nat.le_of_ble_eq_true rfl, Nat.le_of_ble_eq_true rfl⟩) (fun u H locs hp w => ?_)
  obtain ⟨ad100, cl101, rfl, g102, g103, b104⟩ := hp
  have w : Wd D A s H locs (o + 14) ad100 cl101 := w
  have b104 : Blk cl101 (o + 12) (bX5 G ad100 (o + 12)) := b104
  have a105 : ad100 (o) = ad (o) := (g102 (o) (by omega)).trans a96
  have c106 : cl101 (o) = .inr (3, [.int (0), .ref (q1), .ref (q23), .ref (q45), .ref (q67), .null, .null, .null]) := (g103 (o) (by omega)).trans c97
  have fa : ∀ k, k < o + 1 → ad100 k = ad k := fun k hk => (g102 (k) (by omega)).trans (fa k hk)
  have fc : ∀ k, k < o → cl101 k = cl k := fun k hk => (g103 (k) (by omega)).trans (fc k hk)
  refine g_putF X w (o) a105 (by omega) c106 kc3 5 (by decide) rfl rfl k_RX3_31 rfl hin rfl rfl (Nat.le_of_ble_eq_true rfl) dX3_init_56 (fun H locs w => ?_)
  have w : Wd D A s H locs (o + 14) ad100 (va_up cl101 (o) (.inr (3, [.int (0), .ref (q1), .ref (q23), .ref (q45), .ref (q67), .ref (q89), .null, .null]))) := w
  generalize e108 : va_up cl101 (o) (.inr (3, [.int (0), .ref (q1), .ref (q23), .ref (q45), .ref (q67), .ref (q89), .null, .null])) = cl107 at w
  have g109 : ∀ k, k ≠ o → cl107 k = cl101 k := fun k hk => by rw [← e108, va_up_ne _ _ hk]
  have c110 : cl107 (o) = .inr (3, [.int (0), .ref (q1), .ref (q23), .ref (q45), .ref (q67), .ref (q89), .null, .null]) := by rw [← e108, va_up_self]
  have fc : ∀ k, k < o → cl107 k = cl k := fun k hk => (g109 (k) (by omega)).trans (fc k hk)
  refine lv_aload_n hx hb dX3_init_59 rfl (lv_at hl 0 rfl) ?_
  refine g_new X w kc5 k_RX3_18 wt_5 wi_5 bl_5 (Nat.le_of_ble_eq_true rfl) (Nat.le_of_ble_eq_true rfl) dX3_init_60 (fun q111 H w => ?_)
  generalize e114 : va_up ad100 (o + 14) q111 = ad112 at w
  generalize e115 : va_up cl107 (o + 14) (.inr (5, [.null, .int 0])) = cl113 at w
  have g116 : ∀ k, k < o + 14 → ad112 k = ad100 k := fun k hk => by rw [← e114, va_up_ne _ _ (by omega)]
  have g117 : ∀ k, k < o + 14 → cl113 k = cl107 k := fun k hk => by rw [← e115, va_up_ne _ _ (by omega)]
  have a118 : ad112 (o) = ad (o) := (g116 (o) (by omega)).trans a105
  have c119 : cl113 (o) = .inr (3, [.int (0), .ref (q1), .ref (q23), .ref (q45), .ref (q67), .ref (q89), .null, .null]) := (g117 (o) (by omega)).trans c110
  have fa : ∀ k, k < o + 1 → ad112 k = ad k := fun k hk => (g116 (k) (by omega)).trans (fa k hk)
  have fc : ∀ k, k < o → cl113 k = cl k := fun k hk => (g117 (k) (by omega)).trans (fc k hk)
  have a120 : ad112 (o + 14) = q111 := by rw [← e114, va_up_self]
  have c121 : cl113 (o + 14) = .inr (5, [.null, .int 0]) := by rw [← e115, va_up_self]
  refine lv_dup hx hb dX3_init_63 rfl ?_
  refine c_init (As := []) (rest := [.ref (q111), .ref (ad (o))]) X w (cn_5 l D G t (o + 15) ad112 cl113 (o + 14) rfl c121 (d - 1) (by omega)) YX5_init k_RX3_20 (by rw [a120]) rfl rfl hl.1 (rm_call (by omega) (by decide)) (Nat.le_of_ble_eq_true rfl) dX3_init_64 (⟨Nat.le_of_ble_eq_true rfl, Nat.le_of_ble_eq_true rfl⟩) (fun u H locs hp w => ?_)
  obtain ⟨ad122, cl123, rfl, g124, g125, b126⟩ := hp
  have w : Wd D A s H locs (o + 16) ad122 cl123 := w
  have b126 : Blk cl123 (o + 14) (bX5 G ad122 (o + 14)) := b126
  have a127 : ad122 (o) = ad (o) := (g124 (o) (by omega)).trans a118
  have c128 : cl123 (o) = .inr (3, [.int (0), .ref (q1), .ref (q23), .ref (q45), .ref (q67), .ref (q89), .null, .null]) := (g125 (o) (by omega)).trans c119
  have fa : ∀ k, k < o + 1 → ad122 k = ad k := fun k hk => (g124 (k) (by omega)).trans (fa k hk)
  have fc : ∀ k, k < o → cl123 k = cl k := fun k hk => (g125 (k) (by omega)).trans (fc k hk)
  refine g_putF X w (o) a127 (by omega) c128 kc3 6 (by decide) rfl rfl k_RX3_34 rfl hin rfl rfl (Nat.le_of_ble_eq_true rfl) dX3_init_67 (fun H locs w => ?_)
  have w : Wd D A s H locs (o + 16) ad122 (va_up cl123 (o) (.inr (3, [.int (0), .ref (q1), .ref (q23), .ref (q45), .ref (q67), .ref (q89), .ref (q111), .null]))) := w
  generalize e130 : va_up cl123 (o) (.inr (3, [.int (0), .ref (q1), .ref (q23), .ref (q45), .ref (q67), .ref (q89), .ref (q111), .null])) = cl129 at w
  have g131 : ∀ k, k ≠ o → cl129 k = cl123 k := fun k hk => by rw [← e130, va_up_ne _ _ hk]
  have c132 : cl129 (o) = .inr (3, [.int (0), .ref (q1), .ref (q23), .ref (q45), .ref (q67), .ref (q89), .ref (q111), .null]) := by rw [← e130, va_up_self]
  have fc : ∀ k, k < o → cl129 k = cl k := fun k hk => (g131 (k) (by omega)).trans (fc k hk)
  refine lv_aload_n hx hb dX3_init_70 rfl (lv_at hl 0 rfl) ?_
  refine lv_bipush (v := 13) hx hb dX3_init_71 (by decide) ?_
  refine g_newI X w wa_I (n := 13) (by decide) (by decide) (by decide) (Nat.le_of_ble_eq_true rfl) (Nat.le_of_ble_eq_true rfl) dX3_init_73 (fun q133 H w => ?_)
  generalize e136 : va_up ad122 (o + 16) q133 = ad134 at w
  generalize e137 : va_up cl129 (o + 16) (.inl (G 0, 13, .inl (fun _ => 0))) = cl135 at w
  have g138 : ∀ k, k < o + 16 → ad134 k = ad122 k := fun k hk => by rw [← e136, va_up_ne _ _ (by omega)]
  have g139 : ∀ k, k < o + 16 → cl135 k = cl129 k := fun k hk => by rw [← e137, va_up_ne _ _ (by omega)]
  have a140 : ad134 (o) = ad (o) := (g138 (o) (by omega)).trans a127
  have c141 : cl135 (o) = .inr (3, [.int (0), .ref (q1), .ref (q23), .ref (q45), .ref (q67), .ref (q89), .ref (q111), .null]) := (g139 (o) (by omega)).trans c132
  have fa : ∀ k, k < o + 1 → ad134 k = ad k := fun k hk => (g138 (k) (by omega)).trans (fa k hk)
  have fc : ∀ k, k < o → cl135 k = cl k := fun k hk => (g139 (k) (by omega)).trans (fc k hk)
  have a142 : ad134 (o + 16) = q133 := by rw [← e136, va_up_self]
  have b143 : Blk cl135 (o + 16) [.inl (G 0, 13, .inl (fun _ => 0))] := Blk.cons (by rw [← e137, va_up_self]) Blk.nil
  refine g_putF X w (o) a140 (by omega) c141 kc3 7 (by decide) rfl rfl k_RX3_37 rfl hin rfl rfl (Nat.le_of_ble_eq_true rfl) dX3_init_75 (fun H locs w => ?_)
  have w : Wd D A s H locs (o + 17) ad134 (va_up cl135 (o) (.inr (3, [.int (0), .ref (q1), .ref (q23), .ref (q45), .ref (q67), .ref (q89), .ref (q111), .ref (q133)]))) := w
  generalize e145 : va_up cl135 (o) (.inr (3, [.int (0), .ref (q1), .ref (q23), .ref (q45), .ref (q67), .ref (q89), .ref (q111), .ref (q133)])) = cl144 at w
  have g146 : ∀ k, k ≠ o → cl144 k = cl135 k := fun k hk => by rw [← e145, va_up_ne _ _ hk]
  have c147 : cl144 (o) = .inr (3, [.int (0), .ref (q1), .ref (q23), .ref (q45), .ref (q67), .ref (q89), .ref (q111), .ref (q133)]) := by rw [← e145, va_up_self]
  have fc : ∀ k, k < o → cl144 k = cl k := fun k hk => (g146 (k) (by omega)).trans (fc k hk)
  have FA20 : ∀ k, k < o + 17 → ad134 k = ad134 k := fun _ _ => rfl
  have FC20 : ∀ k, k ≠ o → k ≠ o → k < o + 17 → cl144 k = cl144 k := fun _ _ _ _ => rfl
  have FA19 : ∀ k, k < o + 17 → ad134 k = ad134 k := fun k hk => FA20 k (by omega)
  have FC19 : ∀ k, k ≠ o → k ≠ o → k < o + 17 → cl144 k = cl135 k := fun k h0 h9 hk => (FC20 k h0 h9 (by omega)).trans (g146 k h0)
  have FA18 : ∀ k, k < o + 16 → ad134 k = ad122 k := fun k hk => (FA19 k (by omega)).trans (g138 k (by omega))
  have FC18 : ∀ k, k ≠ o → k ≠ o → k < o + 16 → cl144 k = cl129 k := fun k h0 h9 hk => (FC19 k h0 h9 (by omega)).trans (g139 k (by omega))
  have FA17 : ∀ k, k < o + 16 → ad134 k = ad122 k := fun k hk => FA18 k (by omega)
  have FC17 : ∀ k, k ≠ o → k ≠ o → k < o + 16 → cl144 k = cl123 k := fun k h0 h9 hk => (FC18 k h0 h9 (by omega)).trans (g131 k h0)
  have FA16 : ∀ k, k < o + 15 → ad134 k = ad112 k := fun k hk => (FA17 k (by omega)).trans (g124 k (by omega))
  have FC16 : ∀ k, k ≠ o → k ≠ o → k < o + 14 → cl144 k = cl113 k := fun k h0 h9 hk => (FC17 k h0 h9 (by omega)).trans (g125 k (by omega))
  have FA15 : ∀ k, k < o + 14 → ad134 k = ad100 k := fun k hk => (FA16 k (by omega)).trans (g116 k (by omega))
  have FC15 : ∀ k, k ≠ o → k ≠ o → k < o + 14 → cl144 k = cl107 k := fun k h0 h9 hk => (FC16 k h0 h9 (by omega)).trans (g117 k (by omega))
  have FA14 : ∀ k, k < o + 14 → ad134 k = ad100 k := fun k hk => FA15 k (by omega)
  have FC14 : ∀ k, k ≠ o → k ≠ o → k < o + 14 → cl144 k = cl101 k := fun k h0 h9 hk => (FC15 k h0 h9 (by omega)).trans (g109 k h0)
  have FA13 : ∀ k, k < o + 13 → ad134 k = ad90 k := fun k hk => (FA14 k (by omega)).trans (g102 k (by omega))
  have FC13 : ∀ k, k ≠ o → k ≠ o → k < o + 12 → cl144 k = cl91 k := fun k h0 h9 hk => (FC14 k h0 h9 (by omega)).trans (g103 k (by omega))
  have FA12 : ∀ k, k < o + 12 → ad134 k = ad78 k := fun k hk => (FA13 k (by omega)).trans (g94 k (by omega))
  have FC12 : ∀ k, k ≠ o → k ≠ o → k < o + 12 → cl144 k = cl85 k := fun k h0 h9 hk => (FC13 k h0 h9 (by omega)).trans (g95 k (by omega))
  have FA11 : ∀ k, k < o + 12 → ad134 k = ad78 k := fun k hk => FA12 k (by omega)
  have FC11 : ∀ k, k ≠ o → k ≠ o → k < o + 12 → cl144 k = cl79 k := fun k h0 h9 hk => (FC12 k h0 h9 (by omega)).trans (g87 k h0)
  have FA10 : ∀ k, k < o + 11 → ad134 k = ad68 k := fun k hk => (FA11 k (by omega)).trans (g80 k (by omega))
  have FC10 : ∀ k, k ≠ o → k ≠ o → k < o + 10 → cl144 k = cl69 k := fun k h0 h9 hk => (FC11 k h0 h9 (by omega)).trans (g81 k (by omega))
  have FA9 : ∀ k, k < o + 10 → ad134 k = ad56 k := fun k hk => (FA10 k (by omega)).trans (g72 k (by omega))
  have FC9 : ∀ k, k ≠ o → k ≠ o → k < o + 10 → cl144 k = cl63 k := fun k h0 h9 hk => (FC10 k h0 h9 (by omega)).trans (g73 k (by omega))
  have FA8 : ∀ k, k < o + 10 → ad134 k = ad56 k := fun k hk => FA9 k (by omega)
  have FC8 : ∀ k, k ≠ o → k ≠ o → k < o + 10 → cl144 k = cl57 k := fun k h0 h9 hk => (FC9 k h0 h9 (by omega)).trans (g65 k h0)
  have FA7 : ∀ k, k < o + 9 → ad134 k = ad46 k := fun k hk => (FA8 k (by omega)).trans (g58 k (by omega))
  have FC7 : ∀ k, k ≠ o → k ≠ o → k < o + 8 → cl144 k = cl47 k := fun k h0 h9 hk => (FC8 k h0 h9 (by omega)).trans (g59 k (by omega))
  have FA6 : ∀ k, k < o + 8 → ad134 k = ad34 k := fun k hk => (FA7 k (by omega)).trans (g50 k (by omega))
  have FC6 : ∀ k, k ≠ o → k ≠ o → k < o + 8 → cl144 k = cl41 k := fun k h0 h9 hk => (FC7 k h0 h9 (by omega)).trans (g51 k (by omega))
  have FA5 : ∀ k, k < o + 8 → ad134 k = ad34 k := fun k hk => FA6 k (by omega)
  have FC5 : ∀ k, k ≠ o → k ≠ o → k < o + 8 → cl144 k = cl35 k := fun k h0 h9 hk => (FC6 k h0 h9 (by omega)).trans (g43 k h0)
  have FA4 : ∀ k, k < o + 7 → ad134 k = ad24 k := fun k hk => (FA5 k (by omega)).trans (g36 k (by omega))
  have FC4 : ∀ k, k ≠ o → k ≠ o → k < o + 6 → cl144 k = cl25 k := fun k h0 h9 hk => (FC5 k h0 h9 (by omega)).trans (g37 k (by omega))
  have FA3 : ∀ k, k < o + 6 → ad134 k = ad12 k := fun k hk => (FA4 k (by omega)).trans (g28 k (by omega))
  have FC3 : ∀ k, k ≠ o → k ≠ o → k < o + 6 → cl144 k = cl19 k := fun k h0 h9 hk => (FC4 k h0 h9 (by omega)).trans (g29 k (by omega))
  have FA2 : ∀ k, k < o + 6 → ad134 k = ad12 k := fun k hk => FA3 k (by omega)
  have FC2 : ∀ k, k ≠ o → k ≠ o → k < o + 6 → cl144 k = cl13 k := fun k h0 h9 hk => (FC3 k h0 h9 (by omega)).trans (g21 k h0)
  have FA1 : ∀ k, k < o + 2 → ad134 k = ad2 k := fun k hk => (FA2 k (by omega)).trans (g14 k (by omega))
  have FC1 : ∀ k, k ≠ o → k ≠ o → k < o + 1 → cl144 k = cl3 k := fun k h0 h9 hk => (FC2 k h0 h9 (by omega)).trans (g15 k (by omega))
  have FA0 : ∀ k, k < o + 1 → ad134 k = ad k := fun k hk => (FA1 k (by omega)).trans (g6 k (by omega))
  have FC0 : ∀ k, k ≠ o → k ≠ o → k < o + 1 → cl144 k = cl k := fun k h0 h9 hk => (FC1 k h0 h9 (by omega)).trans (g7 k (by omega))
  have b148 : Blk cl144 (o + 1) (bX8 G ad134 (o + 1)) := by rw [cg8 (n := 5) (Nat.le_refl _) (fun k h1 h2 => FA2 k (by omega))]; exact b16.tr (n := 5) (Nat.le_of_eq ln8) (fun k h1 h2 => FC2 k (by omega) (by omega) (by omega))
  have b149 : Blk cl144 (o + 6) (bX5 G ad134 (o + 6)) := by rw [cg5 (n := 2) (Nat.le_refl _) (fun k h1 h2 => FA5 k (by omega))]; exact b38.tr (n := 2) (Nat.le_of_eq ln5) (fun k h1 h2 => FC5 k (by omega) (by omega) (by omega))
  have b150 : Blk cl144 (o + 8) (bX5 G ad134 (o + 8)) := by rw [cg5 (n := 2) (Nat.le_refl _) (fun k h1 h2 => FA8 k (by omega))]; exact b60.tr (n := 2) (Nat.le_of_eq ln5) (fun k h1 h2 => FC8 k (by omega) (by omega) (by omega))
  have b151 : Blk cl144 (o + 10) (bX5 G ad134 (o + 10)) := by rw [cg5 (n := 2) (Nat.le_refl _) (fun k h1 h2 => FA11 k (by omega))]; exact b82.tr (n := 2) (Nat.le_of_eq ln5) (fun k h1 h2 => FC11 k (by omega) (by omega) (by omega))
  have b152 : Blk cl144 (o + 12) (bX5 G ad134 (o + 12)) := by rw [cg5 (n := 2) (Nat.le_refl _) (fun k h1 h2 => FA14 k (by omega))]; exact b104.tr (n := 2) (Nat.le_of_eq ln5) (fun k h1 h2 => FC14 k (by omega) (by omega) (by omega))
  have b153 : Blk cl144 (o + 14) (bX5 G ad134 (o + 14)) := by rw [cg5 (n := 2) (Nat.le_refl _) (fun k h1 h2 => FA17 k (by omega))]; exact b126.tr (n := 2) (Nat.le_of_eq ln5) (fun k h1 h2 => FC17 k (by omega) (by omega) (by omega))
  have b154 : Blk cl144 (o + 16) ([.inl (G 0, 13, .inl (fun _ => 0))]) := b143.tr (n := 1) (Nat.le_refl _) (fun k h1 h2 => FC19 k (by omega) (by omega) (by omega))
  have z155 : ad134 (o + 1) = q1 := (FA1 (o + 1) (by omega)).trans a10
  have z156 : ad134 (o + 6) = q23 := (FA4 (o + 6) (by omega)).trans a32
  have z157 : ad134 (o + 8) = q45 := (FA7 (o + 8) (by omega)).trans a54
  have z158 : ad134 (o + 10) = q67 := (FA10 (o + 10) (by omega)).trans a76
  have z159 : ad134 (o + 12) = q89 := (FA13 (o + 12) (by omega)).trans a98
  have z160 : ad134 (o + 14) = q111 := (FA16 (o + 14) (by omega)).trans a120
  have z161 : ad134 (o + 16) = q133 := (FA19 (o + 16) (by omega)).trans a142
  refine e_V X hr w ⟨ad134, cl144, rfl, fa, fc, ?_⟩ (Nat.le_of_ble_eq_true rfl) (Nat.le_of_ble_eq_true rfl) dX3_init_78
  refine Blk.cons ?_ (b148.app (by rw [ln8]) (b149.app (by rw [ln5]) (b150.app (by rw [ln5]) (b151.app (by rw [ln5]) (b152.app (by rw [ln5]) (b153.app (by rw [ln5]) (b154)))))))
  rw [c147, z155, z156, z157, z158, z159, z160, z161]
abbrev cX0_init : ByteArray := prog_2_method_1_code
def yX0_init : MethodName := ⟨RX0, "<init>", "(LTypeRoom$Rules;)V"⟩
theorem wcX0_init : Cond.code yX0_init cX0_init 2 none ∈ tb := tb_2 (i := 75) rfl rfl
theorem wi_0 : Cond.initialized RX0 ∈ tb := tb_1 (i := 9) (by decide +kernel) rfl
theorem wnX0_init : Cond.instanceMethod yX0_init ∈ tb := tb_2 (i := 74) (by decide +kernel) rfl
theorem YX0_init : Yi yX0_init cX0_init 2 1 := ⟨wcX0_init, wnX0_init, wi_0, rfl, by decide +kernel, by decide +kernel, by decide +kernel⟩
theorem dX0_init_0 : decode cX0_init 0 = .ok (.aload_n 0, 1) := by decide +kernel
theorem dX0_init_1 : decode cX0_init 1 = .ok (.invokespecial 3, 3) := by decide +kernel
theorem dX0_init_4 : decode cX0_init 4 = .ok (.aload_n 0, 1) := by decide +kernel
theorem dX0_init_5 : decode cX0_init 5 = .ok (.aload_n 1, 1) := by decide +kernel
theorem dX0_init_6 : decode cX0_init 6 = .ok (.putfield 9, 3) := by decide +kernel
theorem dX0_init_9 : decode cX0_init 9 = .ok (.aload_n 0, 1) := by decide +kernel
theorem dX0_init_10 : decode cX0_init 10 = .ok (.new 15, 3) := by decide +kernel
theorem dX0_init_13 : decode cX0_init 13 = .ok (.dup, 1) := by decide +kernel
theorem dX0_init_14 : decode cX0_init 14 = .ok (.invokespecial 17, 3) := by decide +kernel
theorem dX0_init_17 : decode cX0_init 17 = .ok (.putfield 18, 3) := by decide +kernel
theorem dX0_init_20 : decode cX0_init 20 = .ok (.aload_n 0, 1) := by decide +kernel
theorem dX0_init_21 : decode cX0_init 21 = .ok (.new 15, 3) := by decide +kernel
theorem dX0_init_24 : decode cX0_init 24 = .ok (.dup, 1) := by decide +kernel
theorem dX0_init_25 : decode cX0_init 25 = .ok (.invokespecial 17, 3) := by decide +kernel
theorem dX0_init_28 : decode cX0_init 28 = .ok (.putfield 22, 3) := by decide +kernel
theorem dX0_init_31 : decode cX0_init 31 = .ok (.aload_n 0, 1) := by decide +kernel
theorem dX0_init_32 : decode cX0_init 32 = .ok (.new 15, 3) := by decide +kernel
theorem dX0_init_35 : decode cX0_init 35 = .ok (.dup, 1) := by decide +kernel
theorem dX0_init_36 : decode cX0_init 36 = .ok (.invokespecial 17, 3) := by decide +kernel
theorem dX0_init_39 : decode cX0_init 39 = .ok (.putfield 25, 3) := by decide +kernel
theorem dX0_init_42 : decode cX0_init 42 = .ok (.aload_n 0, 1) := by decide +kernel
theorem dX0_init_43 : decode cX0_init 43 = .ok (.new 15, 3) := by decide +kernel
theorem dX0_init_46 : decode cX0_init 46 = .ok (.dup, 1) := by decide +kernel
theorem dX0_init_47 : decode cX0_init 47 = .ok (.invokespecial 17, 3) := by decide +kernel
theorem dX0_init_50 : decode cX0_init 50 = .ok (.putfield 28, 3) := by decide +kernel
theorem dX0_init_53 : decode cX0_init 53 = .ok (.aload_n 0, 1) := by decide +kernel
theorem dX0_init_54 : decode cX0_init 54 = .ok (.new 15, 3) := by decide +kernel
theorem dX0_init_57 : decode cX0_init 57 = .ok (.dup, 1) := by decide +kernel
theorem dX0_init_58 : decode cX0_init 58 = .ok (.invokespecial 17, 3) := by decide +kernel
theorem dX0_init_61 : decode cX0_init 61 = .ok (.putfield 31, 3) := by decide +kernel
theorem dX0_init_64 : decode cX0_init 64 = .ok (.aload_n 0, 1) := by decide +kernel
theorem dX0_init_65 : decode cX0_init 65 = .ok (.new 15, 3) := by decide +kernel
theorem dX0_init_68 : decode cX0_init 68 = .ok (.dup, 1) := by decide +kernel
theorem dX0_init_69 : decode cX0_init 69 = .ok (.invokespecial 17, 3) := by decide +kernel
theorem dX0_init_72 : decode cX0_init 72 = .ok (.putfield 34, 3) := by decide +kernel
theorem dX0_init_75 : decode cX0_init 75 = .ok (.aload_n 0, 1) := by decide +kernel
theorem dX0_init_76 : decode cX0_init 76 = .ok (.new 15, 3) := by decide +kernel
theorem dX0_init_79 : decode cX0_init 79 = .ok (.dup, 1) := by decide +kernel
theorem dX0_init_80 : decode cX0_init 80 = .ok (.invokespecial 17, 3) := by decide +kernel
theorem dX0_init_83 : decode cX0_init 83 = .ok (.putfield 37, 3) := by decide +kernel
theorem dX0_init_86 : decode cX0_init 86 = .ok (.aload_n 0, 1) := by decide +kernel
theorem dX0_init_87 : decode cX0_init 87 = .ok (.bipush 44, 2) := by decide +kernel
theorem dX0_init_89 : decode cX0_init 89 = .ok (.newarray .int, 2) := by decide +kernel
theorem dX0_init_91 : decode cX0_init 91 = .ok (.putfield 40, 3) := by decide +kernel
theorem dX0_init_94 : decode cX0_init 94 = .ok (.aload_n 0, 1) := by decide +kernel
theorem dX0_init_95 : decode cX0_init 95 = .ok (.iconst (-1), 1) := by decide +kernel
theorem dX0_init_96 : decode cX0_init 96 = .ok (.putfield 44, 3) := by decide +kernel
theorem dX0_init_99 : decode cX0_init 99 = .ok (.return_, 1) := by decide +kernel
theorem k_RX0_3 : Cond.methodLink RX0 3 ⟨"java/lang/Object", "<init>", "()V"⟩ ∈ tb := tb_2 (i := 76) (by decide +kernel) rfl
theorem k_RX0_9 : Cond.fieldLink RX0 9 RX0 "rules" "LTypeRoom$Rules;" ∈ tb := tb_2 (i := 79) (by decide +kernel) rfl
theorem k_RX0_15 : Cond.classLink RX0 15 RX5 ∈ tb := tb_2 (i := 77) (by decide +kernel) rfl
theorem k_RX0_17 : Cond.methodLink RX0 17 yX5_init ∈ tb := tb_2 (i := 78) (by decide +kernel) rfl
theorem k_RX0_18 : Cond.fieldLink RX0 18 RX0 "starts" "LTypeRoom$Row;" ∈ tb := tb_2 (i := 80) (by decide +kernel) rfl
theorem k_RX0_22 : Cond.fieldLink RX0 22 RX0 "stops" "LTypeRoom$Row;" ∈ tb := tb_2 (i := 83) (by decide +kernel) rfl
theorem k_RX0_25 : Cond.fieldLink RX0 25 RX0 "puts" "LTypeRoom$Row;" ∈ tb := tb_2 (i := 86) (by decide +kernel) rfl
theorem k_RX0_28 : Cond.fieldLink RX0 28 RX0 "prefix" "LTypeRoom$Row;" ∈ tb := tb_2 (i := 88) (by decide +kernel) rfl
theorem k_RX0_31 : Cond.fieldLink RX0 31 RX0 "points" "LTypeRoom$Row;" ∈ tb := tb_2 (i := 90) (by decide +kernel) rfl
theorem k_RX0_34 : Cond.fieldLink RX0 34 RX0 "costs" "LTypeRoom$Row;" ∈ tb := tb_2 (i := 91) (by decide +kernel) rfl
theorem k_RX0_37 : Cond.fieldLink RX0 37 RX0 "choices" "LTypeRoom$Row;" ∈ tb := tb_2 (i := 92) (by decide +kernel) rfl
theorem k_RX0_40 : Cond.fieldLink RX0 40 RX0 "digits" "[I" ∈ tb := tb_2 (i := 93) (by decide +kernel) rfl
theorem k_RX0_44 : Cond.fieldLink RX0 44 RX0 "partedFrom" "I" ∈ tb := tb_2 (i := 100) (by decide +kernel) rfl
def bX0 (G : Nat → ClassId) (ad : Nat → Nat) (b : Nat) (p0 : Nat) : List va_E := (.inr (0, [.ref p0, .ref (ad (b + 1)), .ref (ad (b + 3)), .ref (ad (b + 5)), .ref (ad (b + 7)), .ref (ad (b + 9)), .ref (ad (b + 11)), .ref (ad (b + 13)), .ref (ad (b + 15)), .int (0), .int (0), .int (0), .int ((-1))])) :: (bX5 G ad (b + 1) ++ (bX5 G ad (b + 3) ++ (bX5 G ad (b + 5) ++ (bX5 G ad (b + 7) ++ (bX5 G ad (b + 9) ++ (bX5 G ad (b + 11) ++ (bX5 G ad (b + 13) ++ ([.inl (G 0, 44, .inl (fun _ => 0))]))))))))
theorem cg0 {G : Nat → ClassId} {ad ad' : Nat → Nat} {b n : Nat} {p0 : Nat} (hn : 16 ≤ n) (h : ∀ k, k < b + n → b ≤ k → ad' k = ad k) : bX0 G ad' b p0 = bX0 G ad b p0 := by
  simp only [bX0, h (b + 1) (by omega) (by omega), h (b + 3) (by omega) (by omega), h (b + 5) (by omega) (by omega), h (b + 7) (by omega) (by omega), h (b + 9) (by omega) (by omega), h (b + 11) (by omega) (by omega), h (b + 13) (by omega) (by omega), h (b + 15) (by omega) (by omega), cg5 (b := b + 1) (n := 2) (Nat.le_refl _) (fun k h1 h2 => h k (by omega) (by omega)), cg5 (b := b + 3) (n := 2) (Nat.le_refl _) (fun k h1 h2 => h k (by omega) (by omega)), cg5 (b := b + 5) (n := 2) (Nat.le_refl _) (fun k h1 h2 => h k (by omega) (by omega)), cg5 (b := b + 7) (n := 2) (Nat.le_refl _) (fun k h1 h2 => h k (by omega) (by omega)), cg5 (b := b + 9) (n := 2) (Nat.le_refl _) (fun k h1 h2 => h k (by omega) (by omega)), cg5 (b := b + 11) (n := 2) (Nat.le_refl _) (fun k h1 h2 => h k (by omega) (by omega)), cg5 (b := b + 13) (n := 2) (Nat.le_refl _) (fun k h1 h2 => h k (by omega) (by omega))]
theorem ln0 {G : Nat → ClassId} {ad : Nat → Nat} {b : Nat} {p0 : Nat} : (bX0 G ad b p0).length = 16 := by
  simp only [bX0, List.length_cons, List.length_append, List.length_nil, ln5]
set_option maxHeartbeats 4000000 in
set_option maxRecDepth 100000 in
theorem cn_0 (l : Launch) (D : va_G) (G : Nat → ClassId) (t : Nat → Nat) (N : Nat) (ad : Nat → Nat) (cl : Nat → va_E) (o : Nat) (hiN : o + 1 = N) (hc0 : cl o = .inr (0, [.null, .null, .null, .null, .null, .null, .null, .null, .null, .int 0, .int 0, .int 0, .int 0])) (p0 : Nat) (d : Nat) (hd : 2 ≤ d) : CtV l yX0_init cX0_init 2 (rmD d 15 170) D G t (N, ad, cl) [.ref (ad o), .ref p0] (fun u => ∃ ad' cl', u = (o + 16, ad', cl') ∧ (∀ k, k < o + 1 → ad' k = ad k) ∧ (∀ k, k < o → cl' k = cl k) ∧ Blk cl' o (bX0 G ad' o p0)) := by
  subst hiN
  refine ct_V (own := RX0) (by decide +kernel) rfl (Nat.le_of_ble_eq_true rfl) rfl ?_
  intro p e s m args below meth c A ls X hr hin hl w
  obtain ⟨hx, hb, hml, hown, hts, -⟩ := id X
  have hl : lv_has ls 2 [(0, .ref (ad (o))), (1, .ref (p0))] := hl
  have fa : ∀ k, k < o + 1 → ad k = ad k := fun _ _ => rfl
  have fc : ∀ k, k < o → cl k = cl k := fun _ _ => rfl
  refine lv_aload_n hx hb dX0_init_0 rfl (lv_at hl 0 rfl) ?_
  refine g_oinit X hl.1 k_RX0_3 dX0_init_1 (by decide) ⟨by show 1 ≤ d; omega, rm_loc (by omega) (by decide)⟩ ?_
  refine lv_aload_n hx hb dX0_init_4 rfl (lv_at hl 0 rfl) ?_
  refine lv_aload_n hx hb dX0_init_5 rfl (lv_at hl 1 rfl) ?_
  refine g_putF X w (o) rfl (by omega) hc0 kc0 0 (by decide) rfl rfl k_RX0_9 rfl hin rfl rfl (Nat.le_of_ble_eq_true rfl) dX0_init_6 (fun H locs w => ?_)
  have w : Wd D A s H locs (o + 1) ad (va_up cl (o) (.inr (0, [.ref (p0), .null, .null, .null, .null, .null, .null, .null, .null, .int (0), .int (0), .int (0), .int (0)]))) := w
  generalize e2 : va_up cl (o) (.inr (0, [.ref (p0), .null, .null, .null, .null, .null, .null, .null, .null, .int (0), .int (0), .int (0), .int (0)])) = cl1 at w
  have g3 : ∀ k, k ≠ o → cl1 k = cl k := fun k hk => by rw [← e2, va_up_ne _ _ hk]
  have c4 : cl1 (o) = .inr (0, [.ref (p0), .null, .null, .null, .null, .null, .null, .null, .null, .int (0), .int (0), .int (0), .int (0)]) := by rw [← e2, va_up_self]
  have fc : ∀ k, k < o → cl1 k = cl k := fun k hk => (g3 (k) (by omega)).trans (fc k hk)
  refine lv_aload_n hx hb dX0_init_9 rfl (lv_at hl 0 rfl) ?_
  refine g_new X w kc5 k_RX0_15 wt_5 wi_5 bl_5 (Nat.le_of_ble_eq_true rfl) (Nat.le_of_ble_eq_true rfl) dX0_init_10 (fun q5 H w => ?_)
  generalize e8 : va_up ad (o + 1) q5 = ad6 at w
  generalize e9 : va_up cl1 (o + 1) (.inr (5, [.null, .int 0])) = cl7 at w
  have g10 : ∀ k, k < o + 1 → ad6 k = ad k := fun k hk => by rw [← e8, va_up_ne _ _ (by omega)]
  have g11 : ∀ k, k < o + 1 → cl7 k = cl1 k := fun k hk => by rw [← e9, va_up_ne _ _ (by omega)]
  have a12 : ad6 (o) = ad (o) := g10 (o) (by omega)
  have c13 : cl7 (o) = .inr (0, [.ref (p0), .null, .null, .null, .null, .null, .null, .null, .null, .int (0), .int (0), .int (0), .int (0)]) := (g11 (o) (by omega)).trans c4
  have fa : ∀ k, k < o + 1 → ad6 k = ad k := fun k hk => (g10 (k) (by omega)).trans (fa k hk)
  have fc : ∀ k, k < o → cl7 k = cl k := fun k hk => (g11 (k) (by omega)).trans (fc k hk)
  have a14 : ad6 (o + 1) = q5 := by rw [← e8, va_up_self]
  have c15 : cl7 (o + 1) = .inr (5, [.null, .int 0]) := by rw [← e9, va_up_self]
  refine lv_dup hx hb dX0_init_13 rfl ?_
  refine c_init (As := []) (rest := [.ref (q5), .ref (ad (o))]) X w (cn_5 l D G t (o + 2) ad6 cl7 (o + 1) rfl c15 (d - 1) (by omega)) YX5_init k_RX0_17 (by rw [a14]) rfl rfl hl.1 (rm_call (by omega) (by decide)) (Nat.le_of_ble_eq_true rfl) dX0_init_14 (⟨Nat.le_of_ble_eq_true rfl, Nat.le_of_ble_eq_true rfl⟩) (fun u H locs hp w => ?_)
  obtain ⟨ad16, cl17, rfl, g18, g19, b20⟩ := hp
  have w : Wd D A s H locs (o + 3) ad16 cl17 := w
  have b20 : Blk cl17 (o + 1) (bX5 G ad16 (o + 1)) := b20
  have a21 : ad16 (o) = ad (o) := (g18 (o) (by omega)).trans a12
  have c22 : cl17 (o) = .inr (0, [.ref (p0), .null, .null, .null, .null, .null, .null, .null, .null, .int (0), .int (0), .int (0), .int (0)]) := (g19 (o) (by omega)).trans c13
  have fa : ∀ k, k < o + 1 → ad16 k = ad k := fun k hk => (g18 (k) (by omega)).trans (fa k hk)
  have fc : ∀ k, k < o → cl17 k = cl k := fun k hk => (g19 (k) (by omega)).trans (fc k hk)
  refine g_putF X w (o) a21 (by omega) c22 kc0 1 (by decide) rfl rfl k_RX0_18 rfl hin rfl rfl (Nat.le_of_ble_eq_true rfl) dX0_init_17 (fun H locs w => ?_)
  have w : Wd D A s H locs (o + 3) ad16 (va_up cl17 (o) (.inr (0, [.ref (p0), .ref (q5), .null, .null, .null, .null, .null, .null, .null, .int (0), .int (0), .int (0), .int (0)]))) := w
  generalize e24 : va_up cl17 (o) (.inr (0, [.ref (p0), .ref (q5), .null, .null, .null, .null, .null, .null, .null, .int (0), .int (0), .int (0), .int (0)])) = cl23 at w
  have g25 : ∀ k, k ≠ o → cl23 k = cl17 k := fun k hk => by rw [← e24, va_up_ne _ _ hk]
  have c26 : cl23 (o) = .inr (0, [.ref (p0), .ref (q5), .null, .null, .null, .null, .null, .null, .null, .int (0), .int (0), .int (0), .int (0)]) := by rw [← e24, va_up_self]
  have fc : ∀ k, k < o → cl23 k = cl k := fun k hk => (g25 (k) (by omega)).trans (fc k hk)
  refine lv_aload_n hx hb dX0_init_20 rfl (lv_at hl 0 rfl) ?_
  refine g_new X w kc5 k_RX0_15 wt_5 wi_5 bl_5 (Nat.le_of_ble_eq_true rfl) (Nat.le_of_ble_eq_true rfl) dX0_init_21 (fun q27 H w => ?_)
  generalize e30 : va_up ad16 (o + 3) q27 = ad28 at w
  generalize e31 : va_up cl23 (o + 3) (.inr (5, [.null, .int 0])) = cl29 at w
  have g32 : ∀ k, k < o + 3 → ad28 k = ad16 k := fun k hk => by rw [← e30, va_up_ne _ _ (by omega)]
  have g33 : ∀ k, k < o + 3 → cl29 k = cl23 k := fun k hk => by rw [← e31, va_up_ne _ _ (by omega)]
  have a34 : ad28 (o) = ad (o) := (g32 (o) (by omega)).trans a21
  have c35 : cl29 (o) = .inr (0, [.ref (p0), .ref (q5), .null, .null, .null, .null, .null, .null, .null, .int (0), .int (0), .int (0), .int (0)]) := (g33 (o) (by omega)).trans c26
  have fa : ∀ k, k < o + 1 → ad28 k = ad k := fun k hk => (g32 (k) (by omega)).trans (fa k hk)
  have fc : ∀ k, k < o → cl29 k = cl k := fun k hk => (g33 (k) (by omega)).trans (fc k hk)
  have a36 : ad28 (o + 3) = q27 := by rw [← e30, va_up_self]
  have c37 : cl29 (o + 3) = .inr (5, [.null, .int 0]) := by rw [← e31, va_up_self]
  refine lv_dup hx hb dX0_init_24 rfl ?_
  refine c_init (As := []) (rest := [.ref (q27), .ref (ad (o))]) X w (cn_5 l D G t (o + 4) ad28 cl29 (o + 3) rfl c37 (d - 1) (by omega)) YX5_init k_RX0_17 (by rw [a36]) rfl rfl hl.1 (rm_call (by omega) (by decide)) (Nat.le_of_ble_eq_true rfl) dX0_init_25 (⟨Nat.le_of_ble_eq_true rfl, Nat.le_of_ble_eq_true rfl⟩) (fun u H locs hp w => ?_)
  obtain ⟨ad38, cl39, rfl, g40, g41, b42⟩ := hp
  have w : Wd D A s H locs (o + 5) ad38 cl39 := w
  have b42 : Blk cl39 (o + 3) (bX5 G ad38 (o + 3)) := b42
  have a43 : ad38 (o) = ad (o) := (g40 (o) (by omega)).trans a34
  have c44 : cl39 (o) = .inr (0, [.ref (p0), .ref (q5), .null, .null, .null, .null, .null, .null, .null, .int (0), .int (0), .int (0), .int (0)]) := (g41 (o) (by omega)).trans c35
  have fa : ∀ k, k < o + 1 → ad38 k = ad k := fun k hk => (g40 (k) (by omega)).trans (fa k hk)
  have fc : ∀ k, k < o → cl39 k = cl k := fun k hk => (g41 (k) (by omega)).trans (fc k hk)
  refine g_putF X w (o) a43 (by omega) c44 kc0 2 (by decide) rfl rfl k_RX0_22 rfl hin rfl rfl (Nat.le_of_ble_eq_true rfl) dX0_init_28 (fun H locs w => ?_)
  have w : Wd D A s H locs (o + 5) ad38 (va_up cl39 (o) (.inr (0, [.ref (p0), .ref (q5), .ref (q27), .null, .null, .null, .null, .null, .null, .int (0), .int (0), .int (0), .int (0)]))) := w
  generalize e46 : va_up cl39 (o) (.inr (0, [.ref (p0), .ref (q5), .ref (q27), .null, .null, .null, .null, .null, .null, .int (0), .int (0), .int (0), .int (0)])) = cl45 at w
  have g47 : ∀ k, k ≠ o → cl45 k = cl39 k := fun k hk => by rw [← e46, va_up_ne _ _ hk]
  have c48 : cl45 (o) = .inr (0, [.ref (p0), .ref (q5), .ref (q27), .null, .null, .null, .null, .null, .null, .int (0), .int (0), .int (0), .int (0)]) := by rw [← e46, va_up_self]
  have fc : ∀ k, k < o → cl45 k = cl k := fun k hk => (g47 (k) (by omega)).trans (fc k hk)
  refine lv_aload_n hx hb dX0_init_31 rfl (lv_at hl 0 rfl) ?_
  refine g_new X w kc5 k_RX0_15 wt_5 wi_5 bl_5 (Nat.le_of_ble_eq_true rfl) (Nat.le_of_ble_eq_true rfl) dX0_init_32 (fun q49 H w => ?_)
  generalize e52 : va_up ad38 (o + 5) q49 = ad50 at w
  generalize e53 : va_up cl45 (o + 5) (.inr (5, [.null, .int 0])) = cl51 at w
  have g54 : ∀ k, k < o + 5 → ad50 k = ad38 k := fun k hk => by rw [← e52, va_up_ne _ _ (by omega)]
  have g55 : ∀ k, k < o + 5 → cl51 k = cl45 k := fun k hk => by rw [← e53, va_up_ne _ _ (by omega)]
  have a56 : ad50 (o) = ad (o) := (g54 (o) (by omega)).trans a43
  have c57 : cl51 (o) = .inr (0, [.ref (p0), .ref (q5), .ref (q27), .null, .null, .null, .null, .null, .null, .int (0), .int (0), .int (0), .int (0)]) := (g55 (o) (by omega)).trans c48
  have fa : ∀ k, k < o + 1 → ad50 k = ad k := fun k hk => (g54 (k) (by omega)).trans (fa k hk)
  have fc : ∀ k, k < o → cl51 k = cl k := fun k hk => (g55 (k) (by omega)).trans (fc k hk)
  have a58 : ad50 (o + 5) = q49 := by rw [← e52, va_up_self]
  have c59 : cl51 (o + 5) = .inr (5, [.null, .int 0]) := by rw [← e53, va_up_self]
  refine lv_dup hx hb dX0_init_35 rfl ?_
  refine c_init (As := []) (rest := [.ref (q49), .ref (ad (o))]) X w (cn_5 l D G t (o + 6) ad50 cl51 (o + 5) rfl c59 (d - 1) (by omega)) YX5_init k_RX0_17 (by rw [a58]) rfl rfl hl.1 (rm_call (by omega) (by decide)) (Nat.le_of_ble_eq_true rfl) dX0_init_36 (⟨Nat.le_of_ble_eq_true rfl, Nat.le_of_ble_eq_true rfl⟩) (fun u H locs hp w => ?_)
  obtain ⟨ad60, cl61, rfl, g62, g63, b64⟩ := hp
  have w : Wd D A s H locs (o + 7) ad60 cl61 := w
  have b64 : Blk cl61 (o + 5) (bX5 G ad60 (o + 5)) := b64
  have a65 : ad60 (o) = ad (o) := (g62 (o) (by omega)).trans a56
  have c66 : cl61 (o) = .inr (0, [.ref (p0), .ref (q5), .ref (q27), .null, .null, .null, .null, .null, .null, .int (0), .int (0), .int (0), .int (0)]) := (g63 (o) (by omega)).trans c57
  have fa : ∀ k, k < o + 1 → ad60 k = ad k := fun k hk => (g62 (k) (by omega)).trans (fa k hk)
  have fc : ∀ k, k < o → cl61 k = cl k := fun k hk => (g63 (k) (by omega)).trans (fc k hk)
  refine g_putF X w (o) a65 (by omega) c66 kc0 3 (by decide) rfl rfl k_RX0_25 rfl hin rfl rfl (Nat.le_of_ble_eq_true rfl) dX0_init_39 (fun H locs w => ?_)
  have w : Wd D A s H locs (o + 7) ad60 (va_up cl61 (o) (.inr (0, [.ref (p0), .ref (q5), .ref (q27), .ref (q49), .null, .null, .null, .null, .null, .int (0), .int (0), .int (0), .int (0)]))) := w
  generalize e68 : va_up cl61 (o) (.inr (0, [.ref (p0), .ref (q5), .ref (q27), .ref (q49), .null, .null, .null, .null, .null, .int (0), .int (0), .int (0), .int (0)])) = cl67 at w
  have g69 : ∀ k, k ≠ o → cl67 k = cl61 k := fun k hk => by rw [← e68, va_up_ne _ _ hk]
  have c70 : cl67 (o) = .inr (0, [.ref (p0), .ref (q5), .ref (q27), .ref (q49), .null, .null, .null, .null, .null, .int (0), .int (0), .int (0), .int (0)]) := by rw [← e68, va_up_self]
  have fc : ∀ k, k < o → cl67 k = cl k := fun k hk => (g69 (k) (by omega)).trans (fc k hk)
  refine lv_aload_n hx hb dX0_init_42 rfl (lv_at hl 0 rfl) ?_
  refine g_new X w kc5 k_RX0_15 wt_5 wi_5 bl_5 (Nat.le_of_ble_eq_true rfl) (Nat.le_of_ble_eq_true rfl) dX0_init_43 (fun q71 H w => ?_)
  generalize e74 : va_up ad60 (o + 7) q71 = ad72 at w
  generalize e75 : va_up cl67 (o + 7) (.inr (5, [.null, .int 0])) = cl73 at w
  have g76 : ∀ k, k < o + 7 → ad72 k = ad60 k := fun k hk => by rw [← e74, va_up_ne _ _ (by omega)]
  have g77 : ∀ k, k < o + 7 → cl73 k = cl67 k := fun k hk => by rw [← e75, va_up_ne _ _ (by omega)]
  have a78 : ad72 (o) = ad (o) := (g76 (o) (by omega)).trans a65
  have c79 : cl73 (o) = .inr (0, [.ref (p0), .ref (q5), .ref (q27), .ref (q49), .null, .null, .null, .null, .null, .int (0), .int (0), .int (0), .int (0)]) := (g77 (o) (by omega)).trans c70
  have fa : ∀ k, k < o + 1 → ad72 k = ad k := fun k hk => (g76 (k) (by omega)).trans (fa k hk)
  have fc : ∀ k, k < o → cl73 k = cl k := fun k hk => (g77 (k) (by omega)).trans (fc k hk)
  have a80 : ad72 (o + 7) = q71 := by rw [← e74, va_up_self]
  have c81 : cl73 (o + 7) = .inr (5, [.null, .int 0]) := by rw [← e75, va_up_self]
  refine lv_dup hx hb dX0_init_46 rfl ?_
  refine c_init (As := []) (rest := [.ref (q71), .ref (ad (o))]) X w (cn_5 l D G t (o + 8) ad72 cl73 (o + 7) rfl c81 (d - 1) (by omega)) YX5_init k_RX0_17 (by rw [a80]) rfl rfl hl.1 (rm_call (by omega) (by decide)) (Nat.le_of_ble_eq_true rfl) dX0_init_47 (⟨Nat.le_of_ble_eq_true rfl, Nat.le_of_ble_eq_true rfl⟩) (fun u H locs hp w => ?_)
  obtain ⟨ad82, cl83, rfl, g84, g85, b86⟩ := hp
  have w : Wd D A s H locs (o + 9) ad82 cl83 := w
  have b86 : Blk cl83 (o + 7) (bX5 G ad82 (o + 7)) := b86
  have a87 : ad82 (o) = ad (o) := (g84 (o) (by omega)).trans a78
  have c88 : cl83 (o) = .inr (0, [.ref (p0), .ref (q5), .ref (q27), .ref (q49), .null, .null, .null, .null, .null, .int (0), .int (0), .int (0), .int (0)]) := (g85 (o) (by omega)).trans c79
  have fa : ∀ k, k < o + 1 → ad82 k = ad k := fun k hk => (g84 (k) (by omega)).trans (fa k hk)
  have fc : ∀ k, k < o → cl83 k = cl k := fun k hk => (g85 (k) (by omega)).trans (fc k hk)
  refine g_putF X w (o) a87 (by omega) c88 kc0 4 (by decide) rfl rfl k_RX0_28 rfl hin rfl rfl (Nat.le_of_ble_eq_true rfl) dX0_init_50 (fun H locs w => ?_)
  have w : Wd D A s H locs (o + 9) ad82 (va_up cl83 (o) (.inr (0, [.ref (p0), .ref (q5), .ref (q27), .ref (q49), .ref (q71), .null, .null, .null, .null, .int (0), .int (0), .int (0), .int (0)]))) := w
  generalize e90 : va_up cl83 (o) (.inr (0, [.ref (p0), .ref (q5), .ref (q27), .ref (q49), .ref (q71), .null, .null, .null, .null, .int (0), .int (0), .int (0), .int (0)])) = cl89 at w
  have g91 : ∀ k, k ≠ o → cl89 k = cl83 k := fun k hk => by rw [← e90, va_up_ne _ _ hk]
  have c92 : cl89 (o) = .inr (0, [.ref (p0), .ref (q5), .ref (q27), .ref (q49), .ref (q71), .null, .null, .null, .null, .int (0), .int (0), .int (0), .int (0)]) := by rw [← e90, va_up_self]
  have fc : ∀ k, k < o → cl89 k = cl k := fun k hk => (g91 (k) (by omega)).trans (fc k hk)
  refine lv_aload_n hx hb dX0_init_53 rfl (lv_at hl 0 rfl) ?_
  refine g_new X w kc5 k_RX0_15 wt_5 wi_5 bl_5 (Nat.le_of_ble_eq_true rfl) (Nat.le_of_ble_eq_true rfl) dX0_init_54 (fun q93 H w => ?_)
  generalize e96 : va_up ad82 (o + 9) q93 = ad94 at w
  generalize e97 : va_up cl89 (o + 9) (.inr (5, [.null, .int 0])) = cl95 at w
  have g98 : ∀ k, k < o + 9 → ad94 k = ad82 k := fun k hk => by rw [← e96, va_up_ne _ _ (by omega)]
  have g99 : ∀ k, k < o + 9 → cl95 k = cl89 k := fun k hk => by rw [← e97, va_up_ne _ _ (by omega)]
  have a100 : ad94 (o) = ad (o) := (g98 (o) (by omega)).trans a87
  have c101 : cl95 (o) = .inr (0, [.ref (p0), .ref (q5), .ref (q27), .ref (q49), .ref (q71), .null, .null, .null, .null, .int (0), .int (0), .int (0), .int (0)]) := (g99 (o) (by omega)).trans c92
  have fa : ∀ k, k < o + 1 → ad94 k = ad k := fun k hk => (g98 (k) (by omega)).trans (fa k hk)
  have fc : ∀ k, k < o → cl95 k = cl k := fun k hk => (g99 (k) (by omega)).trans (fc k hk)
  have a102 : ad94 (o + 9) = q93 := by rw [← e96, va_up_self]
  have c103 : cl95 (o + 9) = .inr (5, [.null, .int 0]) := by rw [← e97, va_up_self]
  refine lv_dup hx hb dX0_init_57 rfl ?_
  refine c_init (As := []) (rest := [.ref (q93), .ref (ad (o))]) X w (cn_5 l D G t (o + 10) ad94 cl95 (o + 9) rfl c103 (d - 1) (by omega)) YX5_init k_RX0_17 (by rw [a102]) rfl rfl hl.1 (rm_call (by omega) (by decide)) (Nat.le_of_ble_eq_true rfl) dX0_init_58 (⟨Nat.le_of_ble_eq_true rfl, Nat.le_of_ble_eq_true rfl⟩) (fun u H locs hp w => ?_)
  obtain ⟨ad104, cl105, rfl, g106, g107, b108⟩ := hp
  have w : Wd D A s H locs (o + 11) ad104 cl105 := w
  have b108 : Blk cl105 (o + 9) (bX5 G ad104 (o + 9)) := b108
  have a109 : ad104 (o) = ad (o) := (g106 (o) (by omega)).trans a100
  have c110 : cl105 (o) = .inr (0, [.ref (p0), .ref (q5), .ref (q27), .ref (q49), .ref (q71), .null, .null, .null, .null, .int (0), .int (0), .int (0), .int (0)]) := (g107 (o) (by omega)).trans c101
  have fa : ∀ k, k < o + 1 → ad104 k = ad k := fun k hk => (g106 (k) (by omega)).trans (fa k hk)
  have fc : ∀ k, k < o → cl105 k = cl k := fun k hk => (g107 (k) (by omega)).trans (fc k hk)
  refine g_putF X w (o) a109 (by omega) c110 kc0 5 (by decide) rfl rfl k_RX0_31 rfl hin rfl rfl (Nat.le_of_ble_eq_true rfl) dX0_init_61 (fun H locs w => ?_)
  have w : Wd D A s H locs (o + 11) ad104 (va_up cl105 (o) (.inr (0, [.ref (p0), .ref (q5), .ref (q27), .ref (q49), .ref (q71), .ref (q93), .null, .null, .null, .int (0), .int (0), .int (0), .int (0)]))) := w
  generalize e112 : va_up cl105 (o) (.inr (0, [.ref (p0), .ref (q5), .ref (q27), .ref (q49), .ref (q71), .ref (q93), .null, .null, .null, .int (0), .int (0), .int (0), .int (0)])) = cl111 at w
  have g113 : ∀ k, k ≠ o → cl111 k = cl105 k := fun k hk => by rw [← e112, va_up_ne _ _ hk]
  have c114 : cl111 (o) = .inr (0, [.ref (p0), .ref (q5), .ref (q27), .ref (q49), .ref (q71), .ref (q93), .null, .null, .null, .int (0), .int (0), .int (0), .int (0)]) := by rw [← e112, va_up_self]
  have fc : ∀ k, k < o → cl111 k = cl k := fun k hk => (g113 (k) (by omega)).trans (fc k hk)
  refine lv_aload_n hx hb dX0_init_64 rfl (lv_at hl 0 rfl) ?_
  refine g_new X w kc5 k_RX0_15 wt_5 wi_5 bl_5 (Nat.le_of_ble_eq_true rfl) (Nat.le_of_ble_eq_true rfl) dX0_init_65 (fun q115 H w => ?_)
  generalize e118 : va_up ad104 (o + 11) q115 = ad116 at w
  generalize e119 : va_up cl111 (o + 11) (.inr (5, [.null, .int 0])) = cl117 at w
  have g120 : ∀ k, k < o + 11 → ad116 k = ad104 k := fun k hk => by rw [← e118, va_up_ne _ _ (by omega)]
  have g121 : ∀ k, k < o + 11 → cl117 k = cl111 k := fun k hk => by rw [← e119, va_up_ne _ _ (by omega)]
  have a122 : ad116 (o) = ad (o) := (g120 (o) (by omega)).trans a109
  have c123 : cl117 (o) = .inr (0, [.ref (p0), .ref (q5), .ref (q27), .ref (q49), .ref (q71), .ref (q93), .null, .null, .null, .int (0), .int (0), .int (0), .int (0)]) := (g121 (o) (by omega)).trans c114
  have fa : ∀ k, k < o + 1 → ad116 k = ad k := fun k hk => (g120 (k) (by omega)).trans (fa k hk)
  have fc : ∀ k, k < o → cl117 k = cl k := fun k hk => (g121 (k) (by omega)).trans (fc k hk)
  have a124 : ad116 (o + 11) = q115 := by rw [← e118, va_up_self]
  have c125 : cl117 (o + 11) = .inr (5, [.null, .int 0]) := by rw [← e119, va_up_self]
  refine lv_dup hx hb dX0_init_68 rfl ?_
  refine c_init (As := []) (rest := [.ref (q115), .ref (ad (o))]) X w (cn_5 l D G t (o + 12) ad116 cl117 (o + 11) rfl c125 (d - 1) (by omega)) YX5_init k_RX0_17 (by rw [a124]) rfl rfl hl.1 (rm_call (by omega) (by decide)) (Nat.le_of_ble_eq_true rfl) dX0_init_69 (⟨Nat.le_of_ble_eq_true rfl, Nat.le_of_ble_eq_true rfl⟩) (fun u H locs hp w => ?_)
  obtain ⟨ad126, cl127, rfl, g128, g129, b130⟩ := hp
  have w : Wd D A s H locs (o + 13) ad126 cl127 := w
  have b130 : Blk cl127 (o + 11) (bX5 G ad126 (o + 11)) := b130
  have a131 : ad126 (o) = ad (o) := (g128 (o) (by omega)).trans a122
  have c132 : cl127 (o) = .inr (0, [.ref (p0), .ref (q5), .ref (q27), .ref (q49), .ref (q71), .ref (q93), .null, .null, .null, .int (0), .int (0), .int (0), .int (0)]) := (g129 (o) (by omega)).trans c123
  have fa : ∀ k, k < o + 1 → ad126 k = ad k := fun k hk => (g128 (k) (by omega)).trans (fa k hk)
  have fc : ∀ k, k < o → cl127 k = cl k := fun k hk => (g129 (k) (by omega)).trans (fc k hk)
  refine g_putF X w (o) a131 (by omega) c132 kc0 6 (by decide) rfl rfl k_RX0_34 rfl hin rfl rfl (Nat.le_of_ble_eq_true rfl) dX0_init_72 (fun H locs w => ?_)
  have w : Wd D A s H locs (o + 13) ad126 (va_up cl127 (o) (.inr (0, [.ref (p0), .ref (q5), .ref (q27), .ref (q49), .ref (q71), .ref (q93), .ref (q115), .null, .null, .int (0), .int (0), .int (0), .int (0)]))) := w
  generalize e134 : va_up cl127 (o) (.inr (0, [.ref (p0), .ref (q5), .ref (q27), .ref (q49), .ref (q71), .ref (q93), .ref (q115), .null, .null, .int (0), .int (0), .int (0), .int (0)])) = cl133 at w
  have g135 : ∀ k, k ≠ o → cl133 k = cl127 k := fun k hk => by rw [← e134, va_up_ne _ _ hk]
  have c136 : cl133 (o) = .inr (0, [.ref (p0), .ref (q5), .ref (q27), .ref (q49), .ref (q71), .ref (q93), .ref (q115), .null, .null, .int (0), .int (0), .int (0), .int (0)]) := by rw [← e134, va_up_self]
  have fc : ∀ k, k < o → cl133 k = cl k := fun k hk => (g135 (k) (by omega)).trans (fc k hk)
  refine lv_aload_n hx hb dX0_init_75 rfl (lv_at hl 0 rfl) ?_
  refine g_new X w kc5 k_RX0_15 wt_5 wi_5 bl_5 (Nat.le_of_ble_eq_true rfl) (Nat.le_of_ble_eq_true rfl) dX0_init_76 (fun q137 H w => ?_)
  generalize e140 : va_up ad126 (o + 13) q137 = ad138 at w
  generalize e141 : va_up cl133 (o + 13) (.inr (5, [.null, .int 0])) = cl139 at w
  have g142 : ∀ k, k < o + 13 → ad138 k = ad126 k := fun k hk => by rw [← e140, va_up_ne _ _ (by omega)]
  have g143 : ∀ k, k < o + 13 → cl139 k = cl133 k := fun k hk => by rw [← e141, va_up_ne _ _ (by omega)]
  have a144 : ad138 (o) = ad (o) := (g142 (o) (by omega)).trans a131
  have c145 : cl139 (o) = .inr (0, [.ref (p0), .ref (q5), .ref (q27), .ref (q49), .ref (q71), .ref (q93), .ref (q115), .null, .null, .int (0), .int (0), .int (0), .int (0)]) := (g143 (o) (by omega)).trans c136
  have fa : ∀ k, k < o + 1 → ad138 k = ad k := fun k hk => (g142 (k) (by omega)).trans (fa k hk)
  have fc : ∀ k, k < o → cl139 k = cl k := fun k hk => (g143 (k) (by omega)).trans (fc k hk)
  have a146 : ad138 (o + 13) = q137 := by rw [← e140, va_up_self]
  have c147 : cl139 (o + 13) = .inr (5, [.null, .int 0]) := by rw [← e141, va_up_self]
  refine lv_dup hx hb dX0_init_79 rfl ?_
  refine c_init (As := []) (rest := [.ref (q137), .ref (ad (o))]) X w (cn_5 l D G t (o + 14) ad138 cl139 (o + 13) rfl c147 (d - 1) (by omega)) YX5_init k_RX0_17 (by rw [a146]) rfl rfl hl.1 (rm_call (by omega) (by decide)) (Nat.le_of_ble_eq_true rfl) dX0_init_80 (⟨Nat.le_of_ble_eq_true rfl, Nat.le_of_ble_eq_true rfl⟩) (fun u H locs hp w => ?_)
  obtain ⟨ad148, cl149, rfl, g150, g151, b152⟩ := hp
  have w : Wd D A s H locs (o + 15) ad148 cl149 := w
  have b152 : Blk cl149 (o + 13) (bX5 G ad148 (o + 13)) := b152
  have a153 : ad148 (o) = ad (o) := (g150 (o) (by omega)).trans a144
  have c154 : cl149 (o) = .inr (0, [.ref (p0), .ref (q5), .ref (q27), .ref (q49), .ref (q71), .ref (q93), .ref (q115), .null, .null, .int (0), .int (0), .int (0), .int (0)]) := (g151 (o) (by omega)).trans c145
  have fa : ∀ k, k < o + 1 → ad148 k = ad k := fun k hk => (g150 (k) (by omega)).trans (fa k hk)
  have fc : ∀ k, k < o → cl149 k = cl k := fun k hk => (g151 (k) (by omega)).trans (fc k hk)
  refine g_putF X w (o) a153 (by omega) c154 kc0 7 (by decide) rfl rfl k_RX0_37 rfl hin rfl rfl (Nat.le_of_ble_eq_true rfl) dX0_init_83 (fun H locs w => ?_)
  have w : Wd D A s H locs (o + 15) ad148 (va_up cl149 (o) (.inr (0, [.ref (p0), .ref (q5), .ref (q27), .ref (q49), .ref (q71), .ref (q93), .ref (q115), .ref (q137), .null, .int (0), .int (0), .int (0), .int (0)]))) := w
  generalize e156 : va_up cl149 (o) (.inr (0, [.ref (p0), .ref (q5), .ref (q27), .ref (q49), .ref (q71), .ref (q93), .ref (q115), .ref (q137), .null, .int (0), .int (0), .int (0), .int (0)])) = cl155 at w
  have g157 : ∀ k, k ≠ o → cl155 k = cl149 k := fun k hk => by rw [← e156, va_up_ne _ _ hk]
  have c158 : cl155 (o) = .inr (0, [.ref (p0), .ref (q5), .ref (q27), .ref (q49), .ref (q71), .ref (q93), .ref (q115), .ref (q137), .null, .int (0), .int (0), .int (0), .int (0)]) := by rw [← e156, va_up_self]
  have fc : ∀ k, k < o → cl155 k = cl k := fun k hk => (g157 (k) (by omega)).trans (fc k hk)
  refine lv_aload_n hx hb dX0_init_86 rfl (lv_at hl 0 rfl) ?_
  refine lv_bipush (v := 44) hx hb dX0_init_87 (by decide) ?_
  refine g_newI X w wa_I (n := 44) (by decide) (by decide) (by decide) (Nat.le_of_ble_eq_true rfl) (Nat.le_of_ble_eq_true rfl) dX0_init_89 (fun q159 H w => ?_)
  generalize e162 : va_up ad148 (o + 15) q159 = ad160 at w
  generalize e163 : va_up cl155 (o + 15) (.inl (G 0, 44, .inl (fun _ => 0))) = cl161 at w
  have g164 : ∀ k, k < o + 15 → ad160 k = ad148 k := fun k hk => by rw [← e162, va_up_ne _ _ (by omega)]
  have g165 : ∀ k, k < o + 15 → cl161 k = cl155 k := fun k hk => by rw [← e163, va_up_ne _ _ (by omega)]
  have a166 : ad160 (o) = ad (o) := (g164 (o) (by omega)).trans a153
  have c167 : cl161 (o) = .inr (0, [.ref (p0), .ref (q5), .ref (q27), .ref (q49), .ref (q71), .ref (q93), .ref (q115), .ref (q137), .null, .int (0), .int (0), .int (0), .int (0)]) := (g165 (o) (by omega)).trans c158
  have fa : ∀ k, k < o + 1 → ad160 k = ad k := fun k hk => (g164 (k) (by omega)).trans (fa k hk)
  have fc : ∀ k, k < o → cl161 k = cl k := fun k hk => (g165 (k) (by omega)).trans (fc k hk)
  have a168 : ad160 (o + 15) = q159 := by rw [← e162, va_up_self]
  have b169 : Blk cl161 (o + 15) [.inl (G 0, 44, .inl (fun _ => 0))] := Blk.cons (by rw [← e163, va_up_self]) Blk.nil
  refine g_putF X w (o) a166 (by omega) c167 kc0 8 (by decide) rfl rfl k_RX0_40 rfl hin rfl rfl (Nat.le_of_ble_eq_true rfl) dX0_init_91 (fun H locs w => ?_)
  have w : Wd D A s H locs (o + 16) ad160 (va_up cl161 (o) (.inr (0, [.ref (p0), .ref (q5), .ref (q27), .ref (q49), .ref (q71), .ref (q93), .ref (q115), .ref (q137), .ref (q159), .int (0), .int (0), .int (0), .int (0)]))) := w
  generalize e171 : va_up cl161 (o) (.inr (0, [.ref (p0), .ref (q5), .ref (q27), .ref (q49), .ref (q71), .ref (q93), .ref (q115), .ref (q137), .ref (q159), .int (0), .int (0), .int (0), .int (0)])) = cl170 at w
  have g172 : ∀ k, k ≠ o → cl170 k = cl161 k := fun k hk => by rw [← e171, va_up_ne _ _ hk]
  have c173 : cl170 (o) = .inr (0, [.ref (p0), .ref (q5), .ref (q27), .ref (q49), .ref (q71), .ref (q93), .ref (q115), .ref (q137), .ref (q159), .int (0), .int (0), .int (0), .int (0)]) := by rw [← e171, va_up_self]
  have fc : ∀ k, k < o → cl170 k = cl k := fun k hk => (g172 (k) (by omega)).trans (fc k hk)
  refine lv_aload_n hx hb dX0_init_94 rfl (lv_at hl 0 rfl) ?_
  refine lv_iconst (v := (-1)) hx hb dX0_init_95 (by decide) ?_
  refine g_put X w (o) a166 (by omega) c173 kc0 12 (by decide) rfl k_RX0_44 rfl rfl rfl (Nat.le_of_ble_eq_true rfl) dX0_init_96 (fun H locs w => ?_)
  have w : Wd D A s H locs (o + 16) ad160 (va_up cl170 (o) (.inr (0, [.ref (p0), .ref (q5), .ref (q27), .ref (q49), .ref (q71), .ref (q93), .ref (q115), .ref (q137), .ref (q159), .int (0), .int (0), .int (0), .int ((-1))]))) := w
  generalize e175 : va_up cl170 (o) (.inr (0, [.ref (p0), .ref (q5), .ref (q27), .ref (q49), .ref (q71), .ref (q93), .ref (q115), .ref (q137), .ref (q159), .int (0), .int (0), .int (0), .int ((-1))])) = cl174 at w
  have g176 : ∀ k, k ≠ o → cl174 k = cl170 k := fun k hk => by rw [← e175, va_up_ne _ _ hk]
  have c177 : cl174 (o) = .inr (0, [.ref (p0), .ref (q5), .ref (q27), .ref (q49), .ref (q71), .ref (q93), .ref (q115), .ref (q137), .ref (q159), .int (0), .int (0), .int (0), .int ((-1))]) := by rw [← e175, va_up_self]
  have fc : ∀ k, k < o → cl174 k = cl k := fun k hk => (g176 (k) (by omega)).trans (fc k hk)
  have FA25 : ∀ k, k < o + 16 → ad160 k = ad160 k := fun _ _ => rfl
  have FC25 : ∀ k, k ≠ o → k ≠ o → k < o + 16 → cl174 k = cl174 k := fun _ _ _ _ => rfl
  have FA24 : ∀ k, k < o + 16 → ad160 k = ad160 k := fun k hk => FA25 k (by omega)
  have FC24 : ∀ k, k ≠ o → k ≠ o → k < o + 16 → cl174 k = cl170 k := fun k h0 h9 hk => (FC25 k h0 h9 (by omega)).trans (g176 k h0)
  have FA23 : ∀ k, k < o + 16 → ad160 k = ad160 k := fun k hk => FA24 k (by omega)
  have FC23 : ∀ k, k ≠ o → k ≠ o → k < o + 16 → cl174 k = cl161 k := fun k h0 h9 hk => (FC24 k h0 h9 (by omega)).trans (g172 k h0)
  have FA22 : ∀ k, k < o + 15 → ad160 k = ad148 k := fun k hk => (FA23 k (by omega)).trans (g164 k (by omega))
  have FC22 : ∀ k, k ≠ o → k ≠ o → k < o + 15 → cl174 k = cl155 k := fun k h0 h9 hk => (FC23 k h0 h9 (by omega)).trans (g165 k (by omega))
  have FA21 : ∀ k, k < o + 15 → ad160 k = ad148 k := fun k hk => FA22 k (by omega)
  have FC21 : ∀ k, k ≠ o → k ≠ o → k < o + 15 → cl174 k = cl149 k := fun k h0 h9 hk => (FC22 k h0 h9 (by omega)).trans (g157 k h0)
  have FA20 : ∀ k, k < o + 14 → ad160 k = ad138 k := fun k hk => (FA21 k (by omega)).trans (g150 k (by omega))
  have FC20 : ∀ k, k ≠ o → k ≠ o → k < o + 13 → cl174 k = cl139 k := fun k h0 h9 hk => (FC21 k h0 h9 (by omega)).trans (g151 k (by omega))
  have FA19 : ∀ k, k < o + 13 → ad160 k = ad126 k := fun k hk => (FA20 k (by omega)).trans (g142 k (by omega))
  have FC19 : ∀ k, k ≠ o → k ≠ o → k < o + 13 → cl174 k = cl133 k := fun k h0 h9 hk => (FC20 k h0 h9 (by omega)).trans (g143 k (by omega))
  have FA18 : ∀ k, k < o + 13 → ad160 k = ad126 k := fun k hk => FA19 k (by omega)
  have FC18 : ∀ k, k ≠ o → k ≠ o → k < o + 13 → cl174 k = cl127 k := fun k h0 h9 hk => (FC19 k h0 h9 (by omega)).trans (g135 k h0)
  have FA17 : ∀ k, k < o + 12 → ad160 k = ad116 k := fun k hk => (FA18 k (by omega)).trans (g128 k (by omega))
  have FC17 : ∀ k, k ≠ o → k ≠ o → k < o + 11 → cl174 k = cl117 k := fun k h0 h9 hk => (FC18 k h0 h9 (by omega)).trans (g129 k (by omega))
  have FA16 : ∀ k, k < o + 11 → ad160 k = ad104 k := fun k hk => (FA17 k (by omega)).trans (g120 k (by omega))
  have FC16 : ∀ k, k ≠ o → k ≠ o → k < o + 11 → cl174 k = cl111 k := fun k h0 h9 hk => (FC17 k h0 h9 (by omega)).trans (g121 k (by omega))
  have FA15 : ∀ k, k < o + 11 → ad160 k = ad104 k := fun k hk => FA16 k (by omega)
  have FC15 : ∀ k, k ≠ o → k ≠ o → k < o + 11 → cl174 k = cl105 k := fun k h0 h9 hk => (FC16 k h0 h9 (by omega)).trans (g113 k h0)
  have FA14 : ∀ k, k < o + 10 → ad160 k = ad94 k := fun k hk => (FA15 k (by omega)).trans (g106 k (by omega))
  have FC14 : ∀ k, k ≠ o → k ≠ o → k < o + 9 → cl174 k = cl95 k := fun k h0 h9 hk => (FC15 k h0 h9 (by omega)).trans (g107 k (by omega))
  have FA13 : ∀ k, k < o + 9 → ad160 k = ad82 k := fun k hk => (FA14 k (by omega)).trans (g98 k (by omega))
  have FC13 : ∀ k, k ≠ o → k ≠ o → k < o + 9 → cl174 k = cl89 k := fun k h0 h9 hk => (FC14 k h0 h9 (by omega)).trans (g99 k (by omega))
  have FA12 : ∀ k, k < o + 9 → ad160 k = ad82 k := fun k hk => FA13 k (by omega)
  have FC12 : ∀ k, k ≠ o → k ≠ o → k < o + 9 → cl174 k = cl83 k := fun k h0 h9 hk => (FC13 k h0 h9 (by omega)).trans (g91 k h0)
  have FA11 : ∀ k, k < o + 8 → ad160 k = ad72 k := fun k hk => (FA12 k (by omega)).trans (g84 k (by omega))
  have FC11 : ∀ k, k ≠ o → k ≠ o → k < o + 7 → cl174 k = cl73 k := fun k h0 h9 hk => (FC12 k h0 h9 (by omega)).trans (g85 k (by omega))
  have FA10 : ∀ k, k < o + 7 → ad160 k = ad60 k := fun k hk => (FA11 k (by omega)).trans (g76 k (by omega))
  have FC10 : ∀ k, k ≠ o → k ≠ o → k < o + 7 → cl174 k = cl67 k := fun k h0 h9 hk => (FC11 k h0 h9 (by omega)).trans (g77 k (by omega))
  have FA9 : ∀ k, k < o + 7 → ad160 k = ad60 k := fun k hk => FA10 k (by omega)
  have FC9 : ∀ k, k ≠ o → k ≠ o → k < o + 7 → cl174 k = cl61 k := fun k h0 h9 hk => (FC10 k h0 h9 (by omega)).trans (g69 k h0)
  have FA8 : ∀ k, k < o + 6 → ad160 k = ad50 k := fun k hk => (FA9 k (by omega)).trans (g62 k (by omega))
  have FC8 : ∀ k, k ≠ o → k ≠ o → k < o + 5 → cl174 k = cl51 k := fun k h0 h9 hk => (FC9 k h0 h9 (by omega)).trans (g63 k (by omega))
  have FA7 : ∀ k, k < o + 5 → ad160 k = ad38 k := fun k hk => (FA8 k (by omega)).trans (g54 k (by omega))
  have FC7 : ∀ k, k ≠ o → k ≠ o → k < o + 5 → cl174 k = cl45 k := fun k h0 h9 hk => (FC8 k h0 h9 (by omega)).trans (g55 k (by omega))
  have FA6 : ∀ k, k < o + 5 → ad160 k = ad38 k := fun k hk => FA7 k (by omega)
  have FC6 : ∀ k, k ≠ o → k ≠ o → k < o + 5 → cl174 k = cl39 k := fun k h0 h9 hk => (FC7 k h0 h9 (by omega)).trans (g47 k h0)
  have FA5 : ∀ k, k < o + 4 → ad160 k = ad28 k := fun k hk => (FA6 k (by omega)).trans (g40 k (by omega))
  have FC5 : ∀ k, k ≠ o → k ≠ o → k < o + 3 → cl174 k = cl29 k := fun k h0 h9 hk => (FC6 k h0 h9 (by omega)).trans (g41 k (by omega))
  have FA4 : ∀ k, k < o + 3 → ad160 k = ad16 k := fun k hk => (FA5 k (by omega)).trans (g32 k (by omega))
  have FC4 : ∀ k, k ≠ o → k ≠ o → k < o + 3 → cl174 k = cl23 k := fun k h0 h9 hk => (FC5 k h0 h9 (by omega)).trans (g33 k (by omega))
  have FA3 : ∀ k, k < o + 3 → ad160 k = ad16 k := fun k hk => FA4 k (by omega)
  have FC3 : ∀ k, k ≠ o → k ≠ o → k < o + 3 → cl174 k = cl17 k := fun k h0 h9 hk => (FC4 k h0 h9 (by omega)).trans (g25 k h0)
  have FA2 : ∀ k, k < o + 2 → ad160 k = ad6 k := fun k hk => (FA3 k (by omega)).trans (g18 k (by omega))
  have FC2 : ∀ k, k ≠ o → k ≠ o → k < o + 1 → cl174 k = cl7 k := fun k h0 h9 hk => (FC3 k h0 h9 (by omega)).trans (g19 k (by omega))
  have FA1 : ∀ k, k < o + 1 → ad160 k = ad k := fun k hk => (FA2 k (by omega)).trans (g10 k (by omega))
  have FC1 : ∀ k, k ≠ o → k ≠ o → k < o + 1 → cl174 k = cl1 k := fun k h0 h9 hk => (FC2 k h0 h9 (by omega)).trans (g11 k (by omega))
  have FA0 : ∀ k, k < o + 1 → ad160 k = ad k := fun k hk => FA1 k (by omega)
  have FC0 : ∀ k, k ≠ o → k ≠ o → k < o + 1 → cl174 k = cl k := fun k h0 h9 hk => (FC1 k h0 h9 (by omega)).trans (g3 k h0)
  have b178 : Blk cl174 (o + 1) (bX5 G ad160 (o + 1)) := by rw [cg5 (n := 2) (Nat.le_refl _) (fun k h1 h2 => FA3 k (by omega))]; exact b20.tr (n := 2) (Nat.le_of_eq ln5) (fun k h1 h2 => FC3 k (by omega) (by omega) (by omega))
  have b179 : Blk cl174 (o + 3) (bX5 G ad160 (o + 3)) := by rw [cg5 (n := 2) (Nat.le_refl _) (fun k h1 h2 => FA6 k (by omega))]; exact b42.tr (n := 2) (Nat.le_of_eq ln5) (fun k h1 h2 => FC6 k (by omega) (by omega) (by omega))
  have b180 : Blk cl174 (o + 5) (bX5 G ad160 (o + 5)) := by rw [cg5 (n := 2) (Nat.le_refl _) (fun k h1 h2 => FA9 k (by omega))]; exact b64.tr (n := 2) (Nat.le_of_eq ln5) (fun k h1 h2 => FC9 k (by omega) (by omega) (by omega))
  have b181 : Blk cl174 (o + 7) (bX5 G ad160 (o + 7)) := by rw [cg5 (n := 2) (Nat.le_refl _) (fun k h1 h2 => FA12 k (by omega))]; exact b86.tr (n := 2) (Nat.le_of_eq ln5) (fun k h1 h2 => FC12 k (by omega) (by omega) (by omega))
  have b182 : Blk cl174 (o + 9) (bX5 G ad160 (o + 9)) := by rw [cg5 (n := 2) (Nat.le_refl _) (fun k h1 h2 => FA15 k (by omega))]; exact b108.tr (n := 2) (Nat.le_of_eq ln5) (fun k h1 h2 => FC15 k (by omega) (by omega) (by omega))
  have b183 : Blk cl174 (o + 11) (bX5 G ad160 (o + 11)) := by rw [cg5 (n := 2) (Nat.le_refl _) (fun k h1 h2 => FA18 k (by omega))]; exact b130.tr (n := 2) (Nat.le_of_eq ln5) (fun k h1 h2 => FC18 k (by omega) (by omega) (by omega))
  have b184 : Blk cl174 (o + 13) (bX5 G ad160 (o + 13)) := by rw [cg5 (n := 2) (Nat.le_refl _) (fun k h1 h2 => FA21 k (by omega))]; exact b152.tr (n := 2) (Nat.le_of_eq ln5) (fun k h1 h2 => FC21 k (by omega) (by omega) (by omega))
  have b185 : Blk cl174 (o + 15) ([.inl (G 0, 44, .inl (fun _ => 0))]) := b169.tr (n := 1) (Nat.le_refl _) (fun k h1 h2 => FC23 k (by omega) (by omega) (by omega))
  have z186 : ad160 (o + 1) = q5 := (FA2 (o + 1) (by omega)).trans a14
  have z187 : ad160 (o + 3) = q27 := (FA5 (o + 3) (by omega)).trans a36
  have z188 : ad160 (o + 5) = q49 := (FA8 (o + 5) (by omega)).trans a58
  have z189 : ad160 (o + 7) = q71 := (FA11 (o + 7) (by omega)).trans a80
  have z190 : ad160 (o + 9) = q93 := (FA14 (o + 9) (by omega)).trans a102
  have z191 : ad160 (o + 11) = q115 := (FA17 (o + 11) (by omega)).trans a124
  have z192 : ad160 (o + 13) = q137 := (FA20 (o + 13) (by omega)).trans a146
  have z193 : ad160 (o + 15) = q159 := (FA23 (o + 15) (by omega)).trans a168
  refine e_V X hr w ⟨ad160, cl174, rfl, fa, fc, ?_⟩ (Nat.le_of_ble_eq_true rfl) (Nat.le_of_ble_eq_true rfl) dX0_init_99
  refine Blk.cons ?_ (b178.app (by rw [ln5]) (b179.app (by rw [ln5]) (b180.app (by rw [ln5]) (b181.app (by rw [ln5]) (b182.app (by rw [ln5]) (b183.app (by rw [ln5]) (b184.app (by rw [ln5]) (b185))))))))
  rw [c177, z186, z187, z188, z189, z190, z191, z192, z193]
abbrev cX10_init : ByteArray := prog_12_method_1_code
def yX10_init : MethodName := ⟨RX10, "<init>", "(LTypeRoom$Purse;LTypeRoom$Rules;LTypeRoom$Marks;)V"⟩
theorem wcX10_init : Cond.code yX10_init cX10_init 4 none ∈ tb := tb_2 (i := 3) rfl rfl
theorem wi_10 : Cond.initialized RX10 ∈ tb := tb_1 (i := 8) (by decide +kernel) rfl
theorem wnX10_init : Cond.instanceMethod yX10_init ∈ tb := tb_2 (i := 2) (by decide +kernel) rfl
theorem YX10_init : Yi yX10_init cX10_init 4 3 := ⟨wcX10_init, wnX10_init, wi_10, rfl, by decide +kernel, by decide +kernel, by decide +kernel⟩
theorem dX10_init_0 : decode cX10_init 0 = .ok (.aload_n 0, 1) := by decide +kernel
theorem dX10_init_1 : decode cX10_init 1 = .ok (.invokespecial 3, 3) := by decide +kernel
theorem dX10_init_4 : decode cX10_init 4 = .ok (.aload_n 0, 1) := by decide +kernel
theorem dX10_init_5 : decode cX10_init 5 = .ok (.aload_n 1, 1) := by decide +kernel
theorem dX10_init_6 : decode cX10_init 6 = .ok (.putfield 9, 3) := by decide +kernel
theorem dX10_init_9 : decode cX10_init 9 = .ok (.aload_n 0, 1) := by decide +kernel
theorem dX10_init_10 : decode cX10_init 10 = .ok (.aload_n 2, 1) := by decide +kernel
theorem dX10_init_11 : decode cX10_init 11 = .ok (.putfield 15, 3) := by decide +kernel
theorem dX10_init_14 : decode cX10_init 14 = .ok (.aload_n 0, 1) := by decide +kernel
theorem dX10_init_15 : decode cX10_init 15 = .ok (.aload_n 3, 1) := by decide +kernel
theorem dX10_init_16 : decode cX10_init 16 = .ok (.putfield 19, 3) := by decide +kernel
theorem dX10_init_19 : decode cX10_init 19 = .ok (.aload_n 0, 1) := by decide +kernel
theorem dX10_init_20 : decode cX10_init 20 = .ok (.aload_n 3, 1) := by decide +kernel
theorem dX10_init_21 : decode cX10_init 21 = .ok (.putfield 23, 3) := by decide +kernel
theorem dX10_init_24 : decode cX10_init 24 = .ok (.aload_n 0, 1) := by decide +kernel
theorem dX10_init_25 : decode cX10_init 25 = .ok (.new 26, 3) := by decide +kernel
theorem dX10_init_28 : decode cX10_init 28 = .ok (.dup, 1) := by decide +kernel
theorem dX10_init_29 : decode cX10_init 29 = .ok (.invokespecial 28, 3) := by decide +kernel
theorem dX10_init_32 : decode cX10_init 32 = .ok (.putfield 29, 3) := by decide +kernel
theorem dX10_init_35 : decode cX10_init 35 = .ok (.aload_n 0, 1) := by decide +kernel
theorem dX10_init_36 : decode cX10_init 36 = .ok (.new 26, 3) := by decide +kernel
theorem dX10_init_39 : decode cX10_init 39 = .ok (.dup, 1) := by decide +kernel
theorem dX10_init_40 : decode cX10_init 40 = .ok (.invokespecial 28, 3) := by decide +kernel
theorem dX10_init_43 : decode cX10_init 43 = .ok (.putfield 33, 3) := by decide +kernel
theorem dX10_init_46 : decode cX10_init 46 = .ok (.aload_n 0, 1) := by decide +kernel
theorem dX10_init_47 : decode cX10_init 47 = .ok (.new 26, 3) := by decide +kernel
theorem dX10_init_50 : decode cX10_init 50 = .ok (.dup, 1) := by decide +kernel
theorem dX10_init_51 : decode cX10_init 51 = .ok (.invokespecial 28, 3) := by decide +kernel
theorem dX10_init_54 : decode cX10_init 54 = .ok (.putfield 36, 3) := by decide +kernel
theorem dX10_init_57 : decode cX10_init 57 = .ok (.aload_n 0, 1) := by decide +kernel
theorem dX10_init_58 : decode cX10_init 58 = .ok (.new 26, 3) := by decide +kernel
theorem dX10_init_61 : decode cX10_init 61 = .ok (.dup, 1) := by decide +kernel
theorem dX10_init_62 : decode cX10_init 62 = .ok (.invokespecial 28, 3) := by decide +kernel
theorem dX10_init_65 : decode cX10_init 65 = .ok (.putfield 39, 3) := by decide +kernel
theorem dX10_init_68 : decode cX10_init 68 = .ok (.aload_n 0, 1) := by decide +kernel
theorem dX10_init_69 : decode cX10_init 69 = .ok (.new 26, 3) := by decide +kernel
theorem dX10_init_72 : decode cX10_init 72 = .ok (.dup, 1) := by decide +kernel
theorem dX10_init_73 : decode cX10_init 73 = .ok (.invokespecial 28, 3) := by decide +kernel
theorem dX10_init_76 : decode cX10_init 76 = .ok (.putfield 42, 3) := by decide +kernel
theorem dX10_init_79 : decode cX10_init 79 = .ok (.aload_n 0, 1) := by decide +kernel
theorem dX10_init_80 : decode cX10_init 80 = .ok (.new 45, 3) := by decide +kernel
theorem dX10_init_83 : decode cX10_init 83 = .ok (.dup, 1) := by decide +kernel
theorem dX10_init_84 : decode cX10_init 84 = .ok (.invokespecial 47, 3) := by decide +kernel
theorem dX10_init_87 : decode cX10_init 87 = .ok (.putfield 48, 3) := by decide +kernel
theorem dX10_init_90 : decode cX10_init 90 = .ok (.aload_n 0, 1) := by decide +kernel
theorem dX10_init_91 : decode cX10_init 91 = .ok (.new 26, 3) := by decide +kernel
theorem dX10_init_94 : decode cX10_init 94 = .ok (.dup, 1) := by decide +kernel
theorem dX10_init_95 : decode cX10_init 95 = .ok (.invokespecial 28, 3) := by decide +kernel
theorem dX10_init_98 : decode cX10_init 98 = .ok (.putfield 52, 3) := by decide +kernel
theorem dX10_init_101 : decode cX10_init 101 = .ok (.aload_n 0, 1) := by decide +kernel
theorem dX10_init_102 : decode cX10_init 102 = .ok (.new 45, 3) := by decide +kernel
theorem dX10_init_105 : decode cX10_init 105 = .ok (.dup, 1) := by decide +kernel
theorem dX10_init_106 : decode cX10_init 106 = .ok (.invokespecial 47, 3) := by decide +kernel
theorem dX10_init_109 : decode cX10_init 109 = .ok (.putfield 55, 3) := by decide +kernel
theorem dX10_init_112 : decode cX10_init 112 = .ok (.aload_n 0, 1) := by decide +kernel
theorem dX10_init_113 : decode cX10_init 113 = .ok (.new 26, 3) := by decide +kernel
theorem dX10_init_116 : decode cX10_init 116 = .ok (.dup, 1) := by decide +kernel
theorem dX10_init_117 : decode cX10_init 117 = .ok (.invokespecial 28, 3) := by decide +kernel
theorem dX10_init_120 : decode cX10_init 120 = .ok (.putfield 58, 3) := by decide +kernel
theorem dX10_init_123 : decode cX10_init 123 = .ok (.return_, 1) := by decide +kernel
theorem k_RX10_3 : Cond.methodLink RX10 3 ⟨"java/lang/Object", "<init>", "()V"⟩ ∈ tb := tb_2 (i := 4) (by decide +kernel) rfl
theorem k_RX10_9 : Cond.fieldLink RX10 9 RX10 "purse" "LTypeRoom$Purse;" ∈ tb := tb_2 (i := 9) (by decide +kernel) rfl
theorem k_RX10_15 : Cond.fieldLink RX10 15 RX10 "rules" "LTypeRoom$Rules;" ∈ tb := tb_2 (i := 10) (by decide +kernel) rfl
theorem k_RX10_19 : Cond.fieldLink RX10 19 RX10 "now" "LTypeRoom$Marks;" ∈ tb := tb_2 (i := 11) (by decide +kernel) rfl
theorem k_RX10_23 : Cond.fieldLink RX10 23 RX10 "before" "LTypeRoom$Marks;" ∈ tb := tb_2 (i := 12) (by decide +kernel) rfl
theorem k_RX10_26 : Cond.classLink RX10 26 RX5 ∈ tb := tb_2 (i := 5) (by decide +kernel) rfl
theorem k_RX10_28 : Cond.methodLink RX10 28 yX5_init ∈ tb := tb_2 (i := 6) (by decide +kernel) rfl
theorem k_RX10_29 : Cond.fieldLink RX10 29 RX10 "row" "LTypeRoom$Row;" ∈ tb := tb_2 (i := 13) (by decide +kernel) rfl
theorem k_RX10_33 : Cond.fieldLink RX10 33 RX10 "arena" "LTypeRoom$Row;" ∈ tb := tb_2 (i := 15) (by decide +kernel) rfl
theorem k_RX10_36 : Cond.fieldLink RX10 36 RX10 "spans" "LTypeRoom$Row;" ∈ tb := tb_2 (i := 17) (by decide +kernel) rfl
theorem k_RX10_39 : Cond.fieldLink RX10 39 RX10 "held" "LTypeRoom$Row;" ∈ tb := tb_2 (i := 18) (by decide +kernel) rfl
theorem k_RX10_42 : Cond.fieldLink RX10 42 RX10 "scratch" "LTypeRoom$Row;" ∈ tb := tb_2 (i := 19) (by decide +kernel) rfl
theorem k_RX10_45 : Cond.classLink RX10 45 RX8 ∈ tb := tb_2 (i := 7) (by decide +kernel) rfl
theorem k_RX10_47 : Cond.methodLink RX10 47 yX8_init ∈ tb := tb_2 (i := 8) (by decide +kernel) rfl
theorem k_RX10_48 : Cond.fieldLink RX10 48 RX10 "counters" "LTypeRoom$Shelf;" ∈ tb := tb_2 (i := 20) (by decide +kernel) rfl
theorem k_RX10_52 : Cond.fieldLink RX10 52 RX10 "values" "LTypeRoom$Row;" ∈ tb := tb_2 (i := 21) (by decide +kernel) rfl
theorem k_RX10_55 : Cond.fieldLink RX10 55 RX10 "notes" "LTypeRoom$Shelf;" ∈ tb := tb_2 (i := 22) (by decide +kernel) rfl
theorem k_RX10_58 : Cond.fieldLink RX10 58 RX10 "carriers" "LTypeRoom$Row;" ∈ tb := tb_2 (i := 24) (by decide +kernel) rfl
def bX10 (G : Nat → ClassId) (ad : Nat → Nat) (b : Nat) (p0 : Nat) (p1 : Nat) (p2 : Nat) : List va_E := (.inr (10, [.ref p0, .ref p1, .ref p2, .ref p2, .ref (ad (b + 1)), .ref (ad (b + 3)), .ref (ad (b + 5)), .ref (ad (b + 7)), .ref (ad (b + 9)), .ref (ad (b + 11)), .ref (ad (b + 16)), .ref (ad (b + 18)), .ref (ad (b + 23)), .int (0), .int (0), .int (0), .int (0), .int (0), .int (0)])) :: (bX5 G ad (b + 1) ++ (bX5 G ad (b + 3) ++ (bX5 G ad (b + 5) ++ (bX5 G ad (b + 7) ++ (bX5 G ad (b + 9) ++ (bX8 G ad (b + 11) ++ (bX5 G ad (b + 16) ++ (bX8 G ad (b + 18) ++ (bX5 G ad (b + 23))))))))))
theorem cg10 {G : Nat → ClassId} {ad ad' : Nat → Nat} {b n : Nat} {p0 : Nat} {p1 : Nat} {p2 : Nat} (hn : 25 ≤ n) (h : ∀ k, k < b + n → b ≤ k → ad' k = ad k) : bX10 G ad' b p0 p1 p2 = bX10 G ad b p0 p1 p2 := by
  simp only [bX10, h (b + 1) (by omega) (by omega), h (b + 3) (by omega) (by omega), h (b + 5) (by omega) (by omega), h (b + 7) (by omega) (by omega), h (b + 9) (by omega) (by omega), h (b + 11) (by omega) (by omega), h (b + 16) (by omega) (by omega), h (b + 18) (by omega) (by omega), h (b + 23) (by omega) (by omega), cg5 (b := b + 1) (n := 2) (Nat.le_refl _) (fun k h1 h2 => h k (by omega) (by omega)), cg5 (b := b + 3) (n := 2) (Nat.le_refl _) (fun k h1 h2 => h k (by omega) (by omega)), cg5 (b := b + 5) (n := 2) (Nat.le_refl _) (fun k h1 h2 => h k (by omega) (by omega)), cg5 (b := b + 7) (n := 2) (Nat.le_refl _) (fun k h1 h2 => h k (by omega) (by omega)), cg5 (b := b + 9) (n := 2) (Nat.le_refl _) (fun k h1 h2 => h k (by omega) (by omega)), cg8 (b := b + 11) (n := 5) (Nat.le_refl _) (fun k h1 h2 => h k (by omega) (by omega)), cg5 (b := b + 16) (n := 2) (Nat.le_refl _) (fun k h1 h2 => h k (by omega) (by omega)), cg8 (b := b + 18) (n := 5) (Nat.le_refl _) (fun k h1 h2 => h k (by omega) (by omega)), cg5 (b := b + 23) (n := 2) (Nat.le_refl _) (fun k h1 h2 => h k (by omega) (by omega))]
theorem ln10 {G : Nat → ClassId} {ad : Nat → Nat} {b : Nat} {p0 : Nat} {p1 : Nat} {p2 : Nat} : (bX10 G ad b p0 p1 p2).length = 25 := by
  simp only [bX10, List.length_cons, List.length_append, List.length_nil, ln5, ln8]
set_option maxHeartbeats 4000000 in
set_option maxRecDepth 100000 in
theorem cn_10 (l : Launch) (D : va_G) (G : Nat → ClassId) (t : Nat → Nat) (N : Nat) (ad : Nat → Nat) (cl : Nat → va_E) (o : Nat) (hiN : o + 1 = N) (hc0 : cl o = .inr (10, [.null, .null, .null, .null, .null, .null, .null, .null, .null, .null, .null, .null, .null, .int 0, .int 0, .int 0, .int 0, .int 0, .int 0])) (p0 : Nat) (p1 : Nat) (p2 : Nat) (d : Nat) (hd : 3 ≤ d) : CtV l yX10_init cX10_init 4 (rmD d 24 202) D G t (N, ad, cl) [.ref (ad o), .ref p0, .ref p1, .ref p2] (fun u => ∃ ad' cl', u = (o + 25, ad', cl') ∧ (∀ k, k < o + 1 → ad' k = ad k) ∧ (∀ k, k < o → cl' k = cl k) ∧ Blk cl' o (bX10 G ad' o p0 p1 p2)) := by
  subst hiN
  refine ct_V (own := RX10) (by decide +kernel) rfl (Nat.le_of_ble_eq_true rfl) rfl ?_
  intro p e s m args below meth c A ls X hr hin hl w
  obtain ⟨hx, hb, hml, hown, hts, -⟩ := id X
  have hl : lv_has ls 4 [(0, .ref (ad (o))), (1, .ref (p0)), (2, .ref (p1)), (3, .ref (p2))] := hl
  have fa : ∀ k, k < o + 1 → ad k = ad k := fun _ _ => rfl
  have fc : ∀ k, k < o → cl k = cl k := fun _ _ => rfl
  refine lv_aload_n hx hb dX10_init_0 rfl (lv_at hl 0 rfl) ?_
  refine g_oinit X hl.1 k_RX10_3 dX10_init_1 (by decide) ⟨by show 1 ≤ d; omega, rm_loc (by omega) (by decide)⟩ ?_
  refine lv_aload_n hx hb dX10_init_4 rfl (lv_at hl 0 rfl) ?_
  refine lv_aload_n hx hb dX10_init_5 rfl (lv_at hl 1 rfl) ?_
  refine g_putF X w (o) rfl (by omega) hc0 kc10 0 (by decide) rfl rfl k_RX10_9 rfl hin rfl rfl (Nat.le_of_ble_eq_true rfl) dX10_init_6 (fun H locs w => ?_)
  have w : Wd D A s H locs (o + 1) ad (va_up cl (o) (.inr (10, [.ref (p0), .null, .null, .null, .null, .null, .null, .null, .null, .null, .null, .null, .null, .int (0), .int (0), .int (0), .int (0), .int (0), .int (0)]))) := w
  generalize e2 : va_up cl (o) (.inr (10, [.ref (p0), .null, .null, .null, .null, .null, .null, .null, .null, .null, .null, .null, .null, .int (0), .int (0), .int (0), .int (0), .int (0), .int (0)])) = cl1 at w
  have g3 : ∀ k, k ≠ o → cl1 k = cl k := fun k hk => by rw [← e2, va_up_ne _ _ hk]
  have c4 : cl1 (o) = .inr (10, [.ref (p0), .null, .null, .null, .null, .null, .null, .null, .null, .null, .null, .null, .null, .int (0), .int (0), .int (0), .int (0), .int (0), .int (0)]) := by rw [← e2, va_up_self]
  have fc : ∀ k, k < o → cl1 k = cl k := fun k hk => (g3 (k) (by omega)).trans (fc k hk)
  refine lv_aload_n hx hb dX10_init_9 rfl (lv_at hl 0 rfl) ?_
  refine lv_aload_n hx hb dX10_init_10 rfl (lv_at hl 2 rfl) ?_
  refine g_putF X w (o) rfl (by omega) c4 kc10 1 (by decide) rfl rfl k_RX10_15 rfl hin rfl rfl (Nat.le_of_ble_eq_true rfl) dX10_init_11 (fun H locs w => ?_)
  have w : Wd D A s H locs (o + 1) ad (va_up cl1 (o) (.inr (10, [.ref (p0), .ref (p1), .null, .null, .null, .null, .null, .null, .null, .null, .null, .null, .null, .int (0), .int (0), .int (0), .int (0), .int (0), .int (0)]))) := w
  generalize e6 : va_up cl1 (o) (.inr (10, [.ref (p0), .ref (p1), .null, .null, .null, .null, .null, .null, .null, .null, .null, .null, .null, .int (0), .int (0), .int (0), .int (0), .int (0), .int (0)])) = cl5 at w
  have g7 : ∀ k, k ≠ o → cl5 k = cl1 k := fun k hk => by rw [← e6, va_up_ne _ _ hk]
  have c8 : cl5 (o) = .inr (10, [.ref (p0), .ref (p1), .null, .null, .null, .null, .null, .null, .null, .null, .null, .null, .null, .int (0), .int (0), .int (0), .int (0), .int (0), .int (0)]) := by rw [← e6, va_up_self]
  have fc : ∀ k, k < o → cl5 k = cl k := fun k hk => (g7 (k) (by omega)).trans (fc k hk)
  refine lv_aload_n hx hb dX10_init_14 rfl (lv_at hl 0 rfl) ?_
  refine lv_aload_n hx hb dX10_init_15 rfl (lv_at hl 3 rfl) ?_
  refine g_put X w (o) rfl (by omega) c8 kc10 2 (by decide) rfl k_RX10_19 rfl rfl rfl (Nat.le_of_ble_eq_true rfl) dX10_init_16 (fun H locs w => ?_)
  have w : Wd D A s H locs (o + 1) ad (va_up cl5 (o) (.inr (10, [.ref (p0), .ref (p1), .ref (p2), .null, .null, .null, .null, .null, .null, .null, .null, .null, .null, .int (0), .int (0), .int (0), .int (0), .int (0), .int (0)]))) := w
  generalize e10 : va_up cl5 (o) (.inr (10, [.ref (p0), .ref (p1), .ref (p2), .null, .null, .null, .null, .null, .null, .null, .null, .null, .null, .int (0), .int (0), .int (0), .int (0), .int (0), .int (0)])) = cl9 at w
  have g11 : ∀ k, k ≠ o → cl9 k = cl5 k := fun k hk => by rw [← e10, va_up_ne _ _ hk]
  have c12 : cl9 (o) = .inr (10, [.ref (p0), .ref (p1), .ref (p2), .null, .null, .null, .null, .null, .null, .null, .null, .null, .null, .int (0), .int (0), .int (0), .int (0), .int (0), .int (0)]) := by rw [← e10, va_up_self]
  have fc : ∀ k, k < o → cl9 k = cl k := fun k hk => (g11 (k) (by omega)).trans (fc k hk)
  refine lv_aload_n hx hb dX10_init_19 rfl (lv_at hl 0 rfl) ?_
  refine lv_aload_n hx hb dX10_init_20 rfl (lv_at hl 3 rfl) ?_
  refine g_put X w (o) rfl (by omega) c12 kc10 3 (by decide) rfl k_RX10_23 rfl rfl rfl (Nat.le_of_ble_eq_true rfl) dX10_init_21 (fun H locs w => ?_)
  have w : Wd D A s H locs (o + 1) ad (va_up cl9 (o) (.inr (10, [.ref (p0), .ref (p1), .ref (p2), .ref (p2), .null, .null, .null, .null, .null, .null, .null, .null, .null, .int (0), .int (0), .int (0), .int (0), .int (0), .int (0)]))) := w
  generalize e14 : va_up cl9 (o) (.inr (10, [.ref (p0), .ref (p1), .ref (p2), .ref (p2), .null, .null, .null, .null, .null, .null, .null, .null, .null, .int (0), .int (0), .int (0), .int (0), .int (0), .int (0)])) = cl13 at w
  have g15 : ∀ k, k ≠ o → cl13 k = cl9 k := fun k hk => by rw [← e14, va_up_ne _ _ hk]
  have c16 : cl13 (o) = .inr (10, [.ref (p0), .ref (p1), .ref (p2), .ref (p2), .null, .null, .null, .null, .null, .null, .null, .null, .null, .int (0), .int (0), .int (0), .int (0), .int (0), .int (0)]) := by rw [← e14, va_up_self]
  have fc : ∀ k, k < o → cl13 k = cl k := fun k hk => (g15 (k) (by omega)).trans (fc k hk)
  refine lv_aload_n hx hb dX10_init_24 rfl (lv_at hl 0 rfl) ?_
  refine g_new X w kc5 k_RX10_26 wt_5 wi_5 bl_5 (Nat.le_of_ble_eq_true rfl) (Nat.le_of_ble_eq_true rfl) dX10_init_25 (fun q17 H w => ?_)
  generalize e20 : va_up ad (o + 1) q17 = ad18 at w
  generalize e21 : va_up cl13 (o + 1) (.inr (5, [.null, .int 0])) = cl19 at w
  have g22 : ∀ k, k < o + 1 → ad18 k = ad k := fun k hk => by rw [← e20, va_up_ne _ _ (by omega)]
  have g23 : ∀ k, k < o + 1 → cl19 k = cl13 k := fun k hk => by rw [← e21, va_up_ne _ _ (by omega)]
  have a24 : ad18 (o) = ad (o) := g22 (o) (by omega)
  have c25 : cl19 (o) = .inr (10, [.ref (p0), .ref (p1), .ref (p2), .ref (p2), .null, .null, .null, .null, .null, .null, .null, .null, .null, .int (0), .int (0), .int (0), .int (0), .int (0), .int (0)]) := (g23 (o) (by omega)).trans c16
  have fa : ∀ k, k < o + 1 → ad18 k = ad k := fun k hk => (g22 (k) (by omega)).trans (fa k hk)
  have fc : ∀ k, k < o → cl19 k = cl k := fun k hk => (g23 (k) (by omega)).trans (fc k hk)
  have a26 : ad18 (o + 1) = q17 := by rw [← e20, va_up_self]
  have c27 : cl19 (o + 1) = .inr (5, [.null, .int 0]) := by rw [← e21, va_up_self]
  refine lv_dup hx hb dX10_init_28 rfl ?_
  refine c_init (As := []) (rest := [.ref (q17), .ref (ad (o))]) X w (cn_5 l D G t (o + 2) ad18 cl19 (o + 1) rfl c27 (d - 1) (by omega)) YX5_init k_RX10_28 (by rw [a26]) rfl rfl hl.1 (rm_call (by omega) (by decide)) (Nat.le_of_ble_eq_true rfl) dX10_init_29 (⟨Nat.le_of_ble_eq_true rfl, Nat.le_of_ble_eq_true rfl⟩) (fun u H locs hp w => ?_)
  obtain ⟨ad28, cl29, rfl, g30, g31, b32⟩ := hp
  have w : Wd D A s H locs (o + 3) ad28 cl29 := w
  have b32 : Blk cl29 (o + 1) (bX5 G ad28 (o + 1)) := b32
  have a33 : ad28 (o) = ad (o) := (g30 (o) (by omega)).trans a24
  have c34 : cl29 (o) = .inr (10, [.ref (p0), .ref (p1), .ref (p2), .ref (p2), .null, .null, .null, .null, .null, .null, .null, .null, .null, .int (0), .int (0), .int (0), .int (0), .int (0), .int (0)]) := (g31 (o) (by omega)).trans c25
  have fa : ∀ k, k < o + 1 → ad28 k = ad k := fun k hk => (g30 (k) (by omega)).trans (fa k hk)
  have fc : ∀ k, k < o → cl29 k = cl k := fun k hk => (g31 (k) (by omega)).trans (fc k hk)
  refine g_putF X w (o) a33 (by omega) c34 kc10 4 (by decide) rfl rfl k_RX10_29 rfl hin rfl rfl (Nat.le_of_ble_eq_true rfl) dX10_init_32 (fun H locs w => ?_)
  have w : Wd D A s H locs (o + 3) ad28 (va_up cl29 (o) (.inr (10, [.ref (p0), .ref (p1), .ref (p2), .ref (p2), .ref (q17), .null, .null, .null, .null, .null, .null, .null, .null, .int (0), .int (0), .int (0), .int (0), .int (0), .int (0)]))) := w
  generalize e36 : va_up cl29 (o) (.inr (10, [.ref (p0), .ref (p1), .ref (p2), .ref (p2), .ref (q17), .null, .null, .null, .null, .null, .null, .null, .null, .int (0), .int (0), .int (0), .int (0), .int (0), .int (0)])) = cl35 at w
  have g37 : ∀ k, k ≠ o → cl35 k = cl29 k := fun k hk => by rw [← e36, va_up_ne _ _ hk]
  have c38 : cl35 (o) = .inr (10, [.ref (p0), .ref (p1), .ref (p2), .ref (p2), .ref (q17), .null, .null, .null, .null, .null, .null, .null, .null, .int (0), .int (0), .int (0), .int (0), .int (0), .int (0)]) := by rw [← e36, va_up_self]
  have fc : ∀ k, k < o → cl35 k = cl k := fun k hk => (g37 (k) (by omega)).trans (fc k hk)
  refine lv_aload_n hx hb dX10_init_35 rfl (lv_at hl 0 rfl) ?_
  refine g_new X w kc5 k_RX10_26 wt_5 wi_5 bl_5 (Nat.le_of_ble_eq_true rfl) (Nat.le_of_ble_eq_true rfl) dX10_init_36 (fun q39 H w => ?_)
  generalize e42 : va_up ad28 (o + 3) q39 = ad40 at w
  generalize e43 : va_up cl35 (o + 3) (.inr (5, [.null, .int 0])) = cl41 at w
  have g44 : ∀ k, k < o + 3 → ad40 k = ad28 k := fun k hk => by rw [← e42, va_up_ne _ _ (by omega)]
  have g45 : ∀ k, k < o + 3 → cl41 k = cl35 k := fun k hk => by rw [← e43, va_up_ne _ _ (by omega)]
  have a46 : ad40 (o) = ad (o) := (g44 (o) (by omega)).trans a33
  have c47 : cl41 (o) = .inr (10, [.ref (p0), .ref (p1), .ref (p2), .ref (p2), .ref (q17), .null, .null, .null, .null, .null, .null, .null, .null, .int (0), .int (0), .int (0), .int (0), .int (0), .int (0)]) := (g45 (o) (by omega)).trans c38
  have fa : ∀ k, k < o + 1 → ad40 k = ad k := fun k hk => (g44 (k) (by omega)).trans (fa k hk)
  have fc : ∀ k, k < o → cl41 k = cl k := fun k hk => (g45 (k) (by omega)).trans (fc k hk)
  have a48 : ad40 (o + 3) = q39 := by rw [← e42, va_up_self]
  have c49 : cl41 (o + 3) = .inr (5, [.null, .int 0]) := by rw [← e43, va_up_self]
  refine lv_dup hx hb dX10_init_39 rfl ?_
  refine c_init (As := []) (rest := [.ref (q39), .ref (ad (o))]) X w (cn_5 l D G t (o + 4) ad40 cl41 (o + 3) rfl c49 (d - 1) (by omega)) YX5_init k_RX10_28 (by rw [a48]) rfl rfl hl.1 (rm_call (by omega) (by decide)) (Nat.le_of_ble_eq_true rfl) dX10_init_40 (⟨Nat.le_of_ble_eq_true rfl, Nat.le_of_ble_eq_true rfl⟩) (fun u H locs hp w => ?_)
  obtain ⟨ad50, cl51, rfl, g52, g53, b54⟩ := hp
  have w : Wd D A s H locs (o + 5) ad50 cl51 := w
  have b54 : Blk cl51 (o + 3) (bX5 G ad50 (o + 3)) := b54
  have a55 : ad50 (o) = ad (o) := (g52 (o) (by omega)).trans a46
  have c56 : cl51 (o) = .inr (10, [.ref (p0), .ref (p1), .ref (p2), .ref (p2), .ref (q17), .null, .null, .null, .null, .null, .null, .null, .null, .int (0), .int (0), .int (0), .int (0), .int (0), .int (0)]) := (g53 (o) (by omega)).trans c47
  have fa : ∀ k, k < o + 1 → ad50 k = ad k := fun k hk => (g52 (k) (by omega)).trans (fa k hk)
  have fc : ∀ k, k < o → cl51 k = cl k := fun k hk => (g53 (k) (by omega)).trans (fc k hk)
  refine g_putF X w (o) a55 (by omega) c56 kc10 5 (by decide) rfl rfl k_RX10_33 rfl hin rfl rfl (Nat.le_of_ble_eq_true rfl) dX10_init_43 (fun H locs w => ?_)
  have w : Wd D A s H locs (o + 5) ad50 (va_up cl51 (o) (.inr (10, [.ref (p0), .ref (p1), .ref (p2), .ref (p2), .ref (q17), .ref (q39), .null, .null, .null, .null, .null, .null, .null, .int (0), .int (0), .int (0), .int (0), .int (0), .int (0)]))) := w
  generalize e58 : va_up cl51 (o) (.inr (10, [.ref (p0), .ref (p1), .ref (p2), .ref (p2), .ref (q17), .ref (q39), .null, .null, .null, .null, .null, .null, .null, .int (0), .int (0), .int (0), .int (0), .int (0), .int (0)])) = cl57 at w
  have g59 : ∀ k, k ≠ o → cl57 k = cl51 k := fun k hk => by rw [← e58, va_up_ne _ _ hk]
  have c60 : cl57 (o) = .inr (10, [.ref (p0), .ref (p1), .ref (p2), .ref (p2), .ref (q17), .ref (q39), .null, .null, .null, .null, .null, .null, .null, .int (0), .int (0), .int (0), .int (0), .int (0), .int (0)]) := by rw [← e58, va_up_self]
  have fc : ∀ k, k < o → cl57 k = cl k := fun k hk => (g59 (k) (by omega)).trans (fc k hk)
  refine lv_aload_n hx hb dX10_init_46 rfl (lv_at hl 0 rfl) ?_
  refine g_new X w kc5 k_RX10_26 wt_5 wi_5 bl_5 (Nat.le_of_ble_eq_true rfl) (Nat.le_of_ble_eq_true rfl) dX10_init_47 (fun q61 H w => ?_)
  generalize e64 : va_up ad50 (o + 5) q61 = ad62 at w
  generalize e65 : va_up cl57 (o + 5) (.inr (5, [.null, .int 0])) = cl63 at w
  have g66 : ∀ k, k < o + 5 → ad62 k = ad50 k := fun k hk => by rw [← e64, va_up_ne _ _ (by omega)]
  have g67 : ∀ k, k < o + 5 → cl63 k = cl57 k := fun k hk => by rw [← e65, va_up_ne _ _ (by omega)]
  have a68 : ad62 (o) = ad (o) := (g66 (o) (by omega)).trans a55
  have c69 : cl63 (o) = .inr (10, [.ref (p0), .ref (p1), .ref (p2), .ref (p2), .ref (q17), .ref (q39), .null, .null, .null, .null, .null, .null, .null, .int (0), .int (0), .int (0), .int (0), .int (0), .int (0)]) := (g67 (o) (by omega)).trans c60
  have fa : ∀ k, k < o + 1 → ad62 k = ad k := fun k hk => (g66 (k) (by omega)).trans (fa k hk)
  have fc : ∀ k, k < o → cl63 k = cl k := fun k hk => (g67 (k) (by omega)).trans (fc k hk)
  have a70 : ad62 (o + 5) = q61 := by rw [← e64, va_up_self]
  have c71 : cl63 (o + 5) = .inr (5, [.null, .int 0]) := by rw [← e65, va_up_self]
  refine lv_dup hx hb dX10_init_50 rfl ?_
  refine c_init (As := []) (rest := [.ref (q61), .ref (ad (o))]) X w (cn_5 l D G t (o + 6) ad62 cl63 (o + 5) rfl c71 (d - 1) (by omega)) YX5_init k_RX10_28 (by rw [a70]) rfl rfl hl.1 (rm_call (by omega) (by decide)) (Nat.le_of_ble_eq_true rfl) dX10_init_51 (⟨Nat.le_of_ble_eq_true rfl, Nat.le_of_ble_eq_true rfl⟩) (fun u H locs hp w => ?_)
  obtain ⟨ad72, cl73, rfl, g74, g75, b76⟩ := hp
  have w : Wd D A s H locs (o + 7) ad72 cl73 := w
  have b76 : Blk cl73 (o + 5) (bX5 G ad72 (o + 5)) := b76
  have a77 : ad72 (o) = ad (o) := (g74 (o) (by omega)).trans a68
  have c78 : cl73 (o) = .inr (10, [.ref (p0), .ref (p1), .ref (p2), .ref (p2), .ref (q17), .ref (q39), .null, .null, .null, .null, .null, .null, .null, .int (0), .int (0), .int (0), .int (0), .int (0), .int (0)]) := (g75 (o) (by omega)).trans c69
  have fa : ∀ k, k < o + 1 → ad72 k = ad k := fun k hk => (g74 (k) (by omega)).trans (fa k hk)
  have fc : ∀ k, k < o → cl73 k = cl k := fun k hk => (g75 (k) (by omega)).trans (fc k hk)
  refine g_putF X w (o) a77 (by omega) c78 kc10 6 (by decide) rfl rfl k_RX10_36 rfl hin rfl rfl (Nat.le_of_ble_eq_true rfl) dX10_init_54 (fun H locs w => ?_)
  have w : Wd D A s H locs (o + 7) ad72 (va_up cl73 (o) (.inr (10, [.ref (p0), .ref (p1), .ref (p2), .ref (p2), .ref (q17), .ref (q39), .ref (q61), .null, .null, .null, .null, .null, .null, .int (0), .int (0), .int (0), .int (0), .int (0), .int (0)]))) := w
  generalize e80 : va_up cl73 (o) (.inr (10, [.ref (p0), .ref (p1), .ref (p2), .ref (p2), .ref (q17), .ref (q39), .ref (q61), .null, .null, .null, .null, .null, .null, .int (0), .int (0), .int (0), .int (0), .int (0), .int (0)])) = cl79 at w
  have g81 : ∀ k, k ≠ o → cl79 k = cl73 k := fun k hk => by rw [← e80, va_up_ne _ _ hk]
  have c82 : cl79 (o) = .inr (10, [.ref (p0), .ref (p1), .ref (p2), .ref (p2), .ref (q17), .ref (q39), .ref (q61), .null, .null, .null, .null, .null, .null, .int (0), .int (0), .int (0), .int (0), .int (0), .int (0)]) := by rw [← e80, va_up_self]
  have fc : ∀ k, k < o → cl79 k = cl k := fun k hk => (g81 (k) (by omega)).trans (fc k hk)
  refine lv_aload_n hx hb dX10_init_57 rfl (lv_at hl 0 rfl) ?_
  refine g_new X w kc5 k_RX10_26 wt_5 wi_5 bl_5 (Nat.le_of_ble_eq_true rfl) (Nat.le_of_ble_eq_true rfl) dX10_init_58 (fun q83 H w => ?_)
  generalize e86 : va_up ad72 (o + 7) q83 = ad84 at w
  generalize e87 : va_up cl79 (o + 7) (.inr (5, [.null, .int 0])) = cl85 at w
  have g88 : ∀ k, k < o + 7 → ad84 k = ad72 k := fun k hk => by rw [← e86, va_up_ne _ _ (by omega)]
  have g89 : ∀ k, k < o + 7 → cl85 k = cl79 k := fun k hk => by rw [← e87, va_up_ne _ _ (by omega)]
  have a90 : ad84 (o) = ad (o) := (g88 (o) (by omega)).trans a77
  have c91 : cl85 (o) = .inr (10, [.ref (p0), .ref (p1), .ref (p2), .ref (p2), .ref (q17), .ref (q39), .ref (q61), .null, .null, .null, .null, .null, .null, .int (0), .int (0), .int (0), .int (0), .int (0), .int (0)]) := (g89 (o) (by omega)).trans c82
  have fa : ∀ k, k < o + 1 → ad84 k = ad k := fun k hk => (g88 (k) (by omega)).trans (fa k hk)
  have fc : ∀ k, k < o → cl85 k = cl k := fun k hk => (g89 (k) (by omega)).trans (fc k hk)
  have a92 : ad84 (o + 7) = q83 := by rw [← e86, va_up_self]
  have c93 : cl85 (o + 7) = .inr (5, [.null, .int 0]) := by rw [← e87, va_up_self]
  refine lv_dup hx hb dX10_init_61 rfl ?_
  refine c_init (As := []) (rest := [.ref (q83), .ref (ad (o))]) X w (cn_5 l D G t (o + 8) ad84 cl85 (o + 7) rfl c93 (d - 1) (by omega)) YX5_init k_RX10_28 (by rw [a92]) rfl rfl hl.1 (rm_call (by omega) (by decide)) (Nat.le_of_ble_eq_true rfl) dX10_init_62 (⟨Nat.le_of_ble_eq_true rfl, Nat.le_of_ble_eq_true rfl⟩) (fun u H locs hp w => ?_)
  obtain ⟨ad94, cl95, rfl, g96, g97, b98⟩ := hp
  have w : Wd D A s H locs (o + 9) ad94 cl95 := w
  have b98 : Blk cl95 (o + 7) (bX5 G ad94 (o + 7)) := b98
  have a99 : ad94 (o) = ad (o) := (g96 (o) (by omega)).trans a90
  have c100 : cl95 (o) = .inr (10, [.ref (p0), .ref (p1), .ref (p2), .ref (p2), .ref (q17), .ref (q39), .ref (q61), .null, .null, .null, .null, .null, .null, .int (0), .int (0), .int (0), .int (0), .int (0), .int (0)]) := (g97 (o) (by omega)).trans c91
  have fa : ∀ k, k < o + 1 → ad94 k = ad k := fun k hk => (g96 (k) (by omega)).trans (fa k hk)
  have fc : ∀ k, k < o → cl95 k = cl k := fun k hk => (g97 (k) (by omega)).trans (fc k hk)
  refine g_putF X w (o) a99 (by omega) c100 kc10 7 (by decide) rfl rfl k_RX10_39 rfl hin rfl rfl (Nat.le_of_ble_eq_true rfl) dX10_init_65 (fun H locs w => ?_)
  have w : Wd D A s H locs (o + 9) ad94 (va_up cl95 (o) (.inr (10, [.ref (p0), .ref (p1), .ref (p2), .ref (p2), .ref (q17), .ref (q39), .ref (q61), .ref (q83), .null, .null, .null, .null, .null, .int (0), .int (0), .int (0), .int (0), .int (0), .int (0)]))) := w
  generalize e102 : va_up cl95 (o) (.inr (10, [.ref (p0), .ref (p1), .ref (p2), .ref (p2), .ref (q17), .ref (q39), .ref (q61), .ref (q83), .null, .null, .null, .null, .null, .int (0), .int (0), .int (0), .int (0), .int (0), .int (0)])) = cl101 at w
  have g103 : ∀ k, k ≠ o → cl101 k = cl95 k := fun k hk => by rw [← e102, va_up_ne _ _ hk]
  have c104 : cl101 (o) = .inr (10, [.ref (p0), .ref (p1), .ref (p2), .ref (p2), .ref (q17), .ref (q39), .ref (q61), .ref (q83), .null, .null, .null, .null, .null, .int (0), .int (0), .int (0), .int (0), .int (0), .int (0)]) := by rw [← e102, va_up_self]
  have fc : ∀ k, k < o → cl101 k = cl k := fun k hk => (g103 (k) (by omega)).trans (fc k hk)
  refine lv_aload_n hx hb dX10_init_68 rfl (lv_at hl 0 rfl) ?_
  refine g_new X w kc5 k_RX10_26 wt_5 wi_5 bl_5 (Nat.le_of_ble_eq_true rfl) (Nat.le_of_ble_eq_true rfl) dX10_init_69 (fun q105 H w => ?_)
  generalize e108 : va_up ad94 (o + 9) q105 = ad106 at w
  generalize e109 : va_up cl101 (o + 9) (.inr (5, [.null, .int 0])) = cl107 at w
  have g110 : ∀ k, k < o + 9 → ad106 k = ad94 k := fun k hk => by rw [← e108, va_up_ne _ _ (by omega)]
  have g111 : ∀ k, k < o + 9 → cl107 k = cl101 k := fun k hk => by rw [← e109, va_up_ne _ _ (by omega)]
  have a112 : ad106 (o) = ad (o) := (g110 (o) (by omega)).trans a99
  have c113 : cl107 (o) = .inr (10, [.ref (p0), .ref (p1), .ref (p2), .ref (p2), .ref (q17), .ref (q39), .ref (q61), .ref (q83), .null, .null, .null, .null, .null, .int (0), .int (0), .int (0), .int (0), .int (0), .int (0)]) := (g111 (o) (by omega)).trans c104
  have fa : ∀ k, k < o + 1 → ad106 k = ad k := fun k hk => (g110 (k) (by omega)).trans (fa k hk)
  have fc : ∀ k, k < o → cl107 k = cl k := fun k hk => (g111 (k) (by omega)).trans (fc k hk)
  have a114 : ad106 (o + 9) = q105 := by rw [← e108, va_up_self]
  have c115 : cl107 (o + 9) = .inr (5, [.null, .int 0]) := by rw [← e109, va_up_self]
  refine lv_dup hx hb dX10_init_72 rfl ?_
  refine c_init (As := []) (rest := [.ref (q105), .ref (ad (o))]) X w (cn_5 l D G t (o + 10) ad106 cl107 (o + 9) rfl c115 (d - 1) (by omega)) YX5_init k_RX10_28 (by rw [a114]) rfl rfl hl.1 (rm_call (by omega) (by decide)) (Nat.le_of_ble_eq_true rfl) dX10_init_73 (⟨Nat.le_of_ble_eq_true rfl, Nat.le_of_ble_eq_true rfl⟩) (fun u H locs hp w => ?_)
  obtain ⟨ad116, cl117, rfl, g118, g119, b120⟩ := hp
  have w : Wd D A s H locs (o + 11) ad116 cl117 := w
  have b120 : Blk cl117 (o + 9) (bX5 G ad116 (o + 9)) := b120
  have a121 : ad116 (o) = ad (o) := (g118 (o) (by omega)).trans a112
  have c122 : cl117 (o) = .inr (10, [.ref (p0), .ref (p1), .ref (p2), .ref (p2), .ref (q17), .ref (q39), .ref (q61), .ref (q83), .null, .null, .null, .null, .null, .int (0), .int (0), .int (0), .int (0), .int (0), .int (0)]) := (g119 (o) (by omega)).trans c113
  have fa : ∀ k, k < o + 1 → ad116 k = ad k := fun k hk => (g118 (k) (by omega)).trans (fa k hk)
  have fc : ∀ k, k < o → cl117 k = cl k := fun k hk => (g119 (k) (by omega)).trans (fc k hk)
  refine g_putF X w (o) a121 (by omega) c122 kc10 8 (by decide) rfl rfl k_RX10_42 rfl hin rfl rfl (Nat.le_of_ble_eq_true rfl) dX10_init_76 (fun H locs w => ?_)
  have w : Wd D A s H locs (o + 11) ad116 (va_up cl117 (o) (.inr (10, [.ref (p0), .ref (p1), .ref (p2), .ref (p2), .ref (q17), .ref (q39), .ref (q61), .ref (q83), .ref (q105), .null, .null, .null, .null, .int (0), .int (0), .int (0), .int (0), .int (0), .int (0)]))) := w
  generalize e124 : va_up cl117 (o) (.inr (10, [.ref (p0), .ref (p1), .ref (p2), .ref (p2), .ref (q17), .ref (q39), .ref (q61), .ref (q83), .ref (q105), .null, .null, .null, .null, .int (0), .int (0), .int (0), .int (0), .int (0), .int (0)])) = cl123 at w
  have g125 : ∀ k, k ≠ o → cl123 k = cl117 k := fun k hk => by rw [← e124, va_up_ne _ _ hk]
  have c126 : cl123 (o) = .inr (10, [.ref (p0), .ref (p1), .ref (p2), .ref (p2), .ref (q17), .ref (q39), .ref (q61), .ref (q83), .ref (q105), .null, .null, .null, .null, .int (0), .int (0), .int (0), .int (0), .int (0), .int (0)]) := by rw [← e124, va_up_self]
  have fc : ∀ k, k < o → cl123 k = cl k := fun k hk => (g125 (k) (by omega)).trans (fc k hk)
  refine lv_aload_n hx hb dX10_init_79 rfl (lv_at hl 0 rfl) ?_
  refine g_new X w kc8 k_RX10_45 wt_8 wi_8 bl_8 (Nat.le_of_ble_eq_true rfl) (Nat.le_of_ble_eq_true rfl) dX10_init_80 (fun q127 H w => ?_)
  generalize e130 : va_up ad116 (o + 11) q127 = ad128 at w
  generalize e131 : va_up cl123 (o + 11) (.inr (8, [.null, .null])) = cl129 at w
  have g132 : ∀ k, k < o + 11 → ad128 k = ad116 k := fun k hk => by rw [← e130, va_up_ne _ _ (by omega)]
  have g133 : ∀ k, k < o + 11 → cl129 k = cl123 k := fun k hk => by rw [← e131, va_up_ne _ _ (by omega)]
  have a134 : ad128 (o) = ad (o) := (g132 (o) (by omega)).trans a121
  have c135 : cl129 (o) = .inr (10, [.ref (p0), .ref (p1), .ref (p2), .ref (p2), .ref (q17), .ref (q39), .ref (q61), .ref (q83), .ref (q105), .null, .null, .null, .null, .int (0), .int (0), .int (0), .int (0), .int (0), .int (0)]) := (g133 (o) (by omega)).trans c126
  have fa : ∀ k, k < o + 1 → ad128 k = ad k := fun k hk => (g132 (k) (by omega)).trans (fa k hk)
  have fc : ∀ k, k < o → cl129 k = cl k := fun k hk => (g133 (k) (by omega)).trans (fc k hk)
  have a136 : ad128 (o + 11) = q127 := by rw [← e130, va_up_self]
  have c137 : cl129 (o + 11) = .inr (8, [.null, .null]) := by rw [← e131, va_up_self]
  refine lv_dup hx hb dX10_init_83 rfl ?_
  refine c_init (As := []) (rest := [.ref (q127), .ref (ad (o))]) X w (cn_8 l D G t (o + 12) ad128 cl129 (o + 11) rfl c137 (d - 1) (by omega)) YX8_init k_RX10_47 (by rw [a136]) rfl rfl hl.1 (rm_call (by omega) (by decide)) (Nat.le_of_ble_eq_true rfl) dX10_init_84 (⟨Nat.le_of_ble_eq_true rfl, Nat.le_of_ble_eq_true rfl⟩) (fun u H locs hp w => ?_)
  obtain ⟨ad138, cl139, rfl, g140, g141, b142⟩ := hp
  have w : Wd D A s H locs (o + 16) ad138 cl139 := w
  have b142 : Blk cl139 (o + 11) (bX8 G ad138 (o + 11)) := b142
  have a143 : ad138 (o) = ad (o) := (g140 (o) (by omega)).trans a134
  have c144 : cl139 (o) = .inr (10, [.ref (p0), .ref (p1), .ref (p2), .ref (p2), .ref (q17), .ref (q39), .ref (q61), .ref (q83), .ref (q105), .null, .null, .null, .null, .int (0), .int (0), .int (0), .int (0), .int (0), .int (0)]) := (g141 (o) (by omega)).trans c135
  have fa : ∀ k, k < o + 1 → ad138 k = ad k := fun k hk => (g140 (k) (by omega)).trans (fa k hk)
  have fc : ∀ k, k < o → cl139 k = cl k := fun k hk => (g141 (k) (by omega)).trans (fc k hk)
  refine g_putF X w (o) a143 (by omega) c144 kc10 9 (by decide) rfl rfl k_RX10_48 rfl hin rfl rfl (Nat.le_of_ble_eq_true rfl) dX10_init_87 (fun H locs w => ?_)
  have w : Wd D A s H locs (o + 16) ad138 (va_up cl139 (o) (.inr (10, [.ref (p0), .ref (p1), .ref (p2), .ref (p2), .ref (q17), .ref (q39), .ref (q61), .ref (q83), .ref (q105), .ref (q127), .null, .null, .null, .int (0), .int (0), .int (0), .int (0), .int (0), .int (0)]))) := w
  generalize e146 : va_up cl139 (o) (.inr (10, [.ref (p0), .ref (p1), .ref (p2), .ref (p2), .ref (q17), .ref (q39), .ref (q61), .ref (q83), .ref (q105), .ref (q127), .null, .null, .null, .int (0), .int (0), .int (0), .int (0), .int (0), .int (0)])) = cl145 at w
  have g147 : ∀ k, k ≠ o → cl145 k = cl139 k := fun k hk => by rw [← e146, va_up_ne _ _ hk]
  have c148 : cl145 (o) = .inr (10, [.ref (p0), .ref (p1), .ref (p2), .ref (p2), .ref (q17), .ref (q39), .ref (q61), .ref (q83), .ref (q105), .ref (q127), .null, .null, .null, .int (0), .int (0), .int (0), .int (0), .int (0), .int (0)]) := by rw [← e146, va_up_self]
  have fc : ∀ k, k < o → cl145 k = cl k := fun k hk => (g147 (k) (by omega)).trans (fc k hk)
  refine lv_aload_n hx hb dX10_init_90 rfl (lv_at hl 0 rfl) ?_
  refine g_new X w kc5 k_RX10_26 wt_5 wi_5 bl_5 (Nat.le_of_ble_eq_true rfl) (Nat.le_of_ble_eq_true rfl) dX10_init_91 (fun q149 H w => ?_)
  generalize e152 : va_up ad138 (o + 16) q149 = ad150 at w
  generalize e153 : va_up cl145 (o + 16) (.inr (5, [.null, .int 0])) = cl151 at w
  have g154 : ∀ k, k < o + 16 → ad150 k = ad138 k := fun k hk => by rw [← e152, va_up_ne _ _ (by omega)]
  have g155 : ∀ k, k < o + 16 → cl151 k = cl145 k := fun k hk => by rw [← e153, va_up_ne _ _ (by omega)]
  have a156 : ad150 (o) = ad (o) := (g154 (o) (by omega)).trans a143
  have c157 : cl151 (o) = .inr (10, [.ref (p0), .ref (p1), .ref (p2), .ref (p2), .ref (q17), .ref (q39), .ref (q61), .ref (q83), .ref (q105), .ref (q127), .null, .null, .null, .int (0), .int (0), .int (0), .int (0), .int (0), .int (0)]) := (g155 (o) (by omega)).trans c148
  have fa : ∀ k, k < o + 1 → ad150 k = ad k := fun k hk => (g154 (k) (by omega)).trans (fa k hk)
  have fc : ∀ k, k < o → cl151 k = cl k := fun k hk => (g155 (k) (by omega)).trans (fc k hk)
  have a158 : ad150 (o + 16) = q149 := by rw [← e152, va_up_self]
  have c159 : cl151 (o + 16) = .inr (5, [.null, .int 0]) := by rw [← e153, va_up_self]
  refine lv_dup hx hb dX10_init_94 rfl ?_
  refine c_init (As := []) (rest := [.ref (q149), .ref (ad (o))]) X w (cn_5 l D G t (o + 17) ad150 cl151 (o + 16) rfl c159 (d - 1) (by omega)) YX5_init k_RX10_28 (by rw [a158]) rfl rfl hl.1 (rm_call (by omega) (by decide)) (Nat.le_of_ble_eq_true rfl) dX10_init_95 (⟨Nat.le_of_ble_eq_true rfl, Nat.le_of_ble_eq_true rfl⟩) (fun u H locs hp w => ?_)
  obtain ⟨ad160, cl161, rfl, g162, g163, b164⟩ := hp
  have w : Wd D A s H locs (o + 18) ad160 cl161 := w
  have b164 : Blk cl161 (o + 16) (bX5 G ad160 (o + 16)) := b164
  have a165 : ad160 (o) = ad (o) := (g162 (o) (by omega)).trans a156
  have c166 : cl161 (o) = .inr (10, [.ref (p0), .ref (p1), .ref (p2), .ref (p2), .ref (q17), .ref (q39), .ref (q61), .ref (q83), .ref (q105), .ref (q127), .null, .null, .null, .int (0), .int (0), .int (0), .int (0), .int (0), .int (0)]) := (g163 (o) (by omega)).trans c157
  have fa : ∀ k, k < o + 1 → ad160 k = ad k := fun k hk => (g162 (k) (by omega)).trans (fa k hk)
  have fc : ∀ k, k < o → cl161 k = cl k := fun k hk => (g163 (k) (by omega)).trans (fc k hk)
  refine g_putF X w (o) a165 (by omega) c166 kc10 10 (by decide) rfl rfl k_RX10_52 rfl hin rfl rfl (Nat.le_of_ble_eq_true rfl) dX10_init_98 (fun H locs w => ?_)
  have w : Wd D A s H locs (o + 18) ad160 (va_up cl161 (o) (.inr (10, [.ref (p0), .ref (p1), .ref (p2), .ref (p2), .ref (q17), .ref (q39), .ref (q61), .ref (q83), .ref (q105), .ref (q127), .ref (q149), .null, .null, .int (0), .int (0), .int (0), .int (0), .int (0), .int (0)]))) := w
  generalize e168 : va_up cl161 (o) (.inr (10, [.ref (p0), .ref (p1), .ref (p2), .ref (p2), .ref (q17), .ref (q39), .ref (q61), .ref (q83), .ref (q105), .ref (q127), .ref (q149), .null, .null, .int (0), .int (0), .int (0), .int (0), .int (0), .int (0)])) = cl167 at w
  have g169 : ∀ k, k ≠ o → cl167 k = cl161 k := fun k hk => by rw [← e168, va_up_ne _ _ hk]
  have c170 : cl167 (o) = .inr (10, [.ref (p0), .ref (p1), .ref (p2), .ref (p2), .ref (q17), .ref (q39), .ref (q61), .ref (q83), .ref (q105), .ref (q127), .ref (q149), .null, .null, .int (0), .int (0), .int (0), .int (0), .int (0), .int (0)]) := by rw [← e168, va_up_self]
  have fc : ∀ k, k < o → cl167 k = cl k := fun k hk => (g169 (k) (by omega)).trans (fc k hk)
  refine lv_aload_n hx hb dX10_init_101 rfl (lv_at hl 0 rfl) ?_
  refine g_new X w kc8 k_RX10_45 wt_8 wi_8 bl_8 (Nat.le_of_ble_eq_true rfl) (Nat.le_of_ble_eq_true rfl) dX10_init_102 (fun q171 H w => ?_)
  generalize e174 : va_up ad160 (o + 18) q171 = ad172 at w
  generalize e175 : va_up cl167 (o + 18) (.inr (8, [.null, .null])) = cl173 at w
  have g176 : ∀ k, k < o + 18 → ad172 k = ad160 k := fun k hk => by rw [← e174, va_up_ne _ _ (by omega)]
  have g177 : ∀ k, k < o + 18 → cl173 k = cl167 k := fun k hk => by rw [← e175, va_up_ne _ _ (by omega)]
  have a178 : ad172 (o) = ad (o) := (g176 (o) (by omega)).trans a165
  have c179 : cl173 (o) = .inr (10, [.ref (p0), .ref (p1), .ref (p2), .ref (p2), .ref (q17), .ref (q39), .ref (q61), .ref (q83), .ref (q105), .ref (q127), .ref (q149), .null, .null, .int (0), .int (0), .int (0), .int (0), .int (0), .int (0)]) := (g177 (o) (by omega)).trans c170
  have fa : ∀ k, k < o + 1 → ad172 k = ad k := fun k hk => (g176 (k) (by omega)).trans (fa k hk)
  have fc : ∀ k, k < o → cl173 k = cl k := fun k hk => (g177 (k) (by omega)).trans (fc k hk)
  have a180 : ad172 (o + 18) = q171 := by rw [← e174, va_up_self]
  have c181 : cl173 (o + 18) = .inr (8, [.null, .null]) := by rw [← e175, va_up_self]
  refine lv_dup hx hb dX10_init_105 rfl ?_
  refine c_init (As := []) (rest := [.ref (q171), .ref (ad (o))]) X w (cn_8 l D G t (o + 19) ad172 cl173 (o + 18) rfl c181 (d - 1) (by omega)) YX8_init k_RX10_47 (by rw [a180]) rfl rfl hl.1 (rm_call (by omega) (by decide)) (Nat.le_of_ble_eq_true rfl) dX10_init_106 (⟨Nat.le_of_ble_eq_true rfl, Nat.le_of_ble_eq_true rfl⟩) (fun u H locs hp w => ?_)
  obtain ⟨ad182, cl183, rfl, g184, g185, b186⟩ := hp
  have w : Wd D A s H locs (o + 23) ad182 cl183 := w
  have b186 : Blk cl183 (o + 18) (bX8 G ad182 (o + 18)) := b186
  have a187 : ad182 (o) = ad (o) := (g184 (o) (by omega)).trans a178
  have c188 : cl183 (o) = .inr (10, [.ref (p0), .ref (p1), .ref (p2), .ref (p2), .ref (q17), .ref (q39), .ref (q61), .ref (q83), .ref (q105), .ref (q127), .ref (q149), .null, .null, .int (0), .int (0), .int (0), .int (0), .int (0), .int (0)]) := (g185 (o) (by omega)).trans c179
  have fa : ∀ k, k < o + 1 → ad182 k = ad k := fun k hk => (g184 (k) (by omega)).trans (fa k hk)
  have fc : ∀ k, k < o → cl183 k = cl k := fun k hk => (g185 (k) (by omega)).trans (fc k hk)
  refine g_putF X w (o) a187 (by omega) c188 kc10 11 (by decide) rfl rfl k_RX10_55 rfl hin rfl rfl (Nat.le_of_ble_eq_true rfl) dX10_init_109 (fun H locs w => ?_)
  have w : Wd D A s H locs (o + 23) ad182 (va_up cl183 (o) (.inr (10, [.ref (p0), .ref (p1), .ref (p2), .ref (p2), .ref (q17), .ref (q39), .ref (q61), .ref (q83), .ref (q105), .ref (q127), .ref (q149), .ref (q171), .null, .int (0), .int (0), .int (0), .int (0), .int (0), .int (0)]))) := w
  generalize e190 : va_up cl183 (o) (.inr (10, [.ref (p0), .ref (p1), .ref (p2), .ref (p2), .ref (q17), .ref (q39), .ref (q61), .ref (q83), .ref (q105), .ref (q127), .ref (q149), .ref (q171), .null, .int (0), .int (0), .int (0), .int (0), .int (0), .int (0)])) = cl189 at w
  have g191 : ∀ k, k ≠ o → cl189 k = cl183 k := fun k hk => by rw [← e190, va_up_ne _ _ hk]
  have c192 : cl189 (o) = .inr (10, [.ref (p0), .ref (p1), .ref (p2), .ref (p2), .ref (q17), .ref (q39), .ref (q61), .ref (q83), .ref (q105), .ref (q127), .ref (q149), .ref (q171), .null, .int (0), .int (0), .int (0), .int (0), .int (0), .int (0)]) := by rw [← e190, va_up_self]
  have fc : ∀ k, k < o → cl189 k = cl k := fun k hk => (g191 (k) (by omega)).trans (fc k hk)
  refine lv_aload_n hx hb dX10_init_112 rfl (lv_at hl 0 rfl) ?_
  refine g_new X w kc5 k_RX10_26 wt_5 wi_5 bl_5 (Nat.le_of_ble_eq_true rfl) (Nat.le_of_ble_eq_true rfl) dX10_init_113 (fun q193 H w => ?_)
  generalize e196 : va_up ad182 (o + 23) q193 = ad194 at w
  generalize e197 : va_up cl189 (o + 23) (.inr (5, [.null, .int 0])) = cl195 at w
  have g198 : ∀ k, k < o + 23 → ad194 k = ad182 k := fun k hk => by rw [← e196, va_up_ne _ _ (by omega)]
  have g199 : ∀ k, k < o + 23 → cl195 k = cl189 k := fun k hk => by rw [← e197, va_up_ne _ _ (by omega)]
  have a200 : ad194 (o) = ad (o) := (g198 (o) (by omega)).trans a187
  have c201 : cl195 (o) = .inr (10, [.ref (p0), .ref (p1), .ref (p2), .ref (p2), .ref (q17), .ref (q39), .ref (q61), .ref (q83), .ref (q105), .ref (q127), .ref (q149), .ref (q171), .null, .int (0), .int (0), .int (0), .int (0), .int (0), .int (0)]) := (g199 (o) (by omega)).trans c192
  have fa : ∀ k, k < o + 1 → ad194 k = ad k := fun k hk => (g198 (k) (by omega)).trans (fa k hk)
  have fc : ∀ k, k < o → cl195 k = cl k := fun k hk => (g199 (k) (by omega)).trans (fc k hk)
  have a202 : ad194 (o + 23) = q193 := by rw [← e196, va_up_self]
  have c203 : cl195 (o + 23) = .inr (5, [.null, .int 0]) := by rw [← e197, va_up_self]
  refine lv_dup hx hb dX10_init_116 rfl ?_
  refine c_init (As := []) (rest := [.ref (q193), .ref (ad (o))]) X w (cn_5 l D G t (o + 24) ad194 cl195 (o + 23) rfl c203 (d - 1) (by omega)) YX5_init k_RX10_28 (by rw [a202]) rfl rfl hl.1 (rm_call (by omega) (by decide)) (Nat.le_of_ble_eq_true rfl) dX10_init_117 (⟨Nat.le_of_ble_eq_true rfl, Nat.le_of_ble_eq_true rfl⟩) (fun u H locs hp w => ?_)
  obtain ⟨ad204, cl205, rfl, g206, g207, b208⟩ := hp
  have w : Wd D A s H locs (o + 25) ad204 cl205 := w
  have b208 : Blk cl205 (o + 23) (bX5 G ad204 (o + 23)) := b208
  have a209 : ad204 (o) = ad (o) := (g206 (o) (by omega)).trans a200
  have c210 : cl205 (o) = .inr (10, [.ref (p0), .ref (p1), .ref (p2), .ref (p2), .ref (q17), .ref (q39), .ref (q61), .ref (q83), .ref (q105), .ref (q127), .ref (q149), .ref (q171), .null, .int (0), .int (0), .int (0), .int (0), .int (0), .int (0)]) := (g207 (o) (by omega)).trans c201
  have fa : ∀ k, k < o + 1 → ad204 k = ad k := fun k hk => (g206 (k) (by omega)).trans (fa k hk)
  have fc : ∀ k, k < o → cl205 k = cl k := fun k hk => (g207 (k) (by omega)).trans (fc k hk)
  refine g_putF X w (o) a209 (by omega) c210 kc10 12 (by decide) rfl rfl k_RX10_58 rfl hin rfl rfl (Nat.le_of_ble_eq_true rfl) dX10_init_120 (fun H locs w => ?_)
  have w : Wd D A s H locs (o + 25) ad204 (va_up cl205 (o) (.inr (10, [.ref (p0), .ref (p1), .ref (p2), .ref (p2), .ref (q17), .ref (q39), .ref (q61), .ref (q83), .ref (q105), .ref (q127), .ref (q149), .ref (q171), .ref (q193), .int (0), .int (0), .int (0), .int (0), .int (0), .int (0)]))) := w
  generalize e212 : va_up cl205 (o) (.inr (10, [.ref (p0), .ref (p1), .ref (p2), .ref (p2), .ref (q17), .ref (q39), .ref (q61), .ref (q83), .ref (q105), .ref (q127), .ref (q149), .ref (q171), .ref (q193), .int (0), .int (0), .int (0), .int (0), .int (0), .int (0)])) = cl211 at w
  have g213 : ∀ k, k ≠ o → cl211 k = cl205 k := fun k hk => by rw [← e212, va_up_ne _ _ hk]
  have c214 : cl211 (o) = .inr (10, [.ref (p0), .ref (p1), .ref (p2), .ref (p2), .ref (q17), .ref (q39), .ref (q61), .ref (q83), .ref (q105), .ref (q127), .ref (q149), .ref (q171), .ref (q193), .int (0), .int (0), .int (0), .int (0), .int (0), .int (0)]) := by rw [← e212, va_up_self]
  have fc : ∀ k, k < o → cl211 k = cl k := fun k hk => (g213 (k) (by omega)).trans (fc k hk)
  have FA31 : ∀ k, k < o + 25 → ad204 k = ad204 k := fun _ _ => rfl
  have FC31 : ∀ k, k ≠ o → k ≠ o → k < o + 25 → cl211 k = cl211 k := fun _ _ _ _ => rfl
  have FA30 : ∀ k, k < o + 25 → ad204 k = ad204 k := fun k hk => FA31 k (by omega)
  have FC30 : ∀ k, k ≠ o → k ≠ o → k < o + 25 → cl211 k = cl205 k := fun k h0 h9 hk => (FC31 k h0 h9 (by omega)).trans (g213 k h0)
  have FA29 : ∀ k, k < o + 24 → ad204 k = ad194 k := fun k hk => (FA30 k (by omega)).trans (g206 k (by omega))
  have FC29 : ∀ k, k ≠ o → k ≠ o → k < o + 23 → cl211 k = cl195 k := fun k h0 h9 hk => (FC30 k h0 h9 (by omega)).trans (g207 k (by omega))
  have FA28 : ∀ k, k < o + 23 → ad204 k = ad182 k := fun k hk => (FA29 k (by omega)).trans (g198 k (by omega))
  have FC28 : ∀ k, k ≠ o → k ≠ o → k < o + 23 → cl211 k = cl189 k := fun k h0 h9 hk => (FC29 k h0 h9 (by omega)).trans (g199 k (by omega))
  have FA27 : ∀ k, k < o + 23 → ad204 k = ad182 k := fun k hk => FA28 k (by omega)
  have FC27 : ∀ k, k ≠ o → k ≠ o → k < o + 23 → cl211 k = cl183 k := fun k h0 h9 hk => (FC28 k h0 h9 (by omega)).trans (g191 k h0)
  have FA26 : ∀ k, k < o + 19 → ad204 k = ad172 k := fun k hk => (FA27 k (by omega)).trans (g184 k (by omega))
  have FC26 : ∀ k, k ≠ o → k ≠ o → k < o + 18 → cl211 k = cl173 k := fun k h0 h9 hk => (FC27 k h0 h9 (by omega)).trans (g185 k (by omega))
  have FA25 : ∀ k, k < o + 18 → ad204 k = ad160 k := fun k hk => (FA26 k (by omega)).trans (g176 k (by omega))
  have FC25 : ∀ k, k ≠ o → k ≠ o → k < o + 18 → cl211 k = cl167 k := fun k h0 h9 hk => (FC26 k h0 h9 (by omega)).trans (g177 k (by omega))
  have FA24 : ∀ k, k < o + 18 → ad204 k = ad160 k := fun k hk => FA25 k (by omega)
  have FC24 : ∀ k, k ≠ o → k ≠ o → k < o + 18 → cl211 k = cl161 k := fun k h0 h9 hk => (FC25 k h0 h9 (by omega)).trans (g169 k h0)
  have FA23 : ∀ k, k < o + 17 → ad204 k = ad150 k := fun k hk => (FA24 k (by omega)).trans (g162 k (by omega))
  have FC23 : ∀ k, k ≠ o → k ≠ o → k < o + 16 → cl211 k = cl151 k := fun k h0 h9 hk => (FC24 k h0 h9 (by omega)).trans (g163 k (by omega))
  have FA22 : ∀ k, k < o + 16 → ad204 k = ad138 k := fun k hk => (FA23 k (by omega)).trans (g154 k (by omega))
  have FC22 : ∀ k, k ≠ o → k ≠ o → k < o + 16 → cl211 k = cl145 k := fun k h0 h9 hk => (FC23 k h0 h9 (by omega)).trans (g155 k (by omega))
  have FA21 : ∀ k, k < o + 16 → ad204 k = ad138 k := fun k hk => FA22 k (by omega)
  have FC21 : ∀ k, k ≠ o → k ≠ o → k < o + 16 → cl211 k = cl139 k := fun k h0 h9 hk => (FC22 k h0 h9 (by omega)).trans (g147 k h0)
  have FA20 : ∀ k, k < o + 12 → ad204 k = ad128 k := fun k hk => (FA21 k (by omega)).trans (g140 k (by omega))
  have FC20 : ∀ k, k ≠ o → k ≠ o → k < o + 11 → cl211 k = cl129 k := fun k h0 h9 hk => (FC21 k h0 h9 (by omega)).trans (g141 k (by omega))
  have FA19 : ∀ k, k < o + 11 → ad204 k = ad116 k := fun k hk => (FA20 k (by omega)).trans (g132 k (by omega))
  have FC19 : ∀ k, k ≠ o → k ≠ o → k < o + 11 → cl211 k = cl123 k := fun k h0 h9 hk => (FC20 k h0 h9 (by omega)).trans (g133 k (by omega))
  have FA18 : ∀ k, k < o + 11 → ad204 k = ad116 k := fun k hk => FA19 k (by omega)
  have FC18 : ∀ k, k ≠ o → k ≠ o → k < o + 11 → cl211 k = cl117 k := fun k h0 h9 hk => (FC19 k h0 h9 (by omega)).trans (g125 k h0)
  have FA17 : ∀ k, k < o + 10 → ad204 k = ad106 k := fun k hk => (FA18 k (by omega)).trans (g118 k (by omega))
  have FC17 : ∀ k, k ≠ o → k ≠ o → k < o + 9 → cl211 k = cl107 k := fun k h0 h9 hk => (FC18 k h0 h9 (by omega)).trans (g119 k (by omega))
  have FA16 : ∀ k, k < o + 9 → ad204 k = ad94 k := fun k hk => (FA17 k (by omega)).trans (g110 k (by omega))
  have FC16 : ∀ k, k ≠ o → k ≠ o → k < o + 9 → cl211 k = cl101 k := fun k h0 h9 hk => (FC17 k h0 h9 (by omega)).trans (g111 k (by omega))
  have FA15 : ∀ k, k < o + 9 → ad204 k = ad94 k := fun k hk => FA16 k (by omega)
  have FC15 : ∀ k, k ≠ o → k ≠ o → k < o + 9 → cl211 k = cl95 k := fun k h0 h9 hk => (FC16 k h0 h9 (by omega)).trans (g103 k h0)
  have FA14 : ∀ k, k < o + 8 → ad204 k = ad84 k := fun k hk => (FA15 k (by omega)).trans (g96 k (by omega))
  have FC14 : ∀ k, k ≠ o → k ≠ o → k < o + 7 → cl211 k = cl85 k := fun k h0 h9 hk => (FC15 k h0 h9 (by omega)).trans (g97 k (by omega))
  have FA13 : ∀ k, k < o + 7 → ad204 k = ad72 k := fun k hk => (FA14 k (by omega)).trans (g88 k (by omega))
  have FC13 : ∀ k, k ≠ o → k ≠ o → k < o + 7 → cl211 k = cl79 k := fun k h0 h9 hk => (FC14 k h0 h9 (by omega)).trans (g89 k (by omega))
  have FA12 : ∀ k, k < o + 7 → ad204 k = ad72 k := fun k hk => FA13 k (by omega)
  have FC12 : ∀ k, k ≠ o → k ≠ o → k < o + 7 → cl211 k = cl73 k := fun k h0 h9 hk => (FC13 k h0 h9 (by omega)).trans (g81 k h0)
  have FA11 : ∀ k, k < o + 6 → ad204 k = ad62 k := fun k hk => (FA12 k (by omega)).trans (g74 k (by omega))
  have FC11 : ∀ k, k ≠ o → k ≠ o → k < o + 5 → cl211 k = cl63 k := fun k h0 h9 hk => (FC12 k h0 h9 (by omega)).trans (g75 k (by omega))
  have FA10 : ∀ k, k < o + 5 → ad204 k = ad50 k := fun k hk => (FA11 k (by omega)).trans (g66 k (by omega))
  have FC10 : ∀ k, k ≠ o → k ≠ o → k < o + 5 → cl211 k = cl57 k := fun k h0 h9 hk => (FC11 k h0 h9 (by omega)).trans (g67 k (by omega))
  have FA9 : ∀ k, k < o + 5 → ad204 k = ad50 k := fun k hk => FA10 k (by omega)
  have FC9 : ∀ k, k ≠ o → k ≠ o → k < o + 5 → cl211 k = cl51 k := fun k h0 h9 hk => (FC10 k h0 h9 (by omega)).trans (g59 k h0)
  have FA8 : ∀ k, k < o + 4 → ad204 k = ad40 k := fun k hk => (FA9 k (by omega)).trans (g52 k (by omega))
  have FC8 : ∀ k, k ≠ o → k ≠ o → k < o + 3 → cl211 k = cl41 k := fun k h0 h9 hk => (FC9 k h0 h9 (by omega)).trans (g53 k (by omega))
  have FA7 : ∀ k, k < o + 3 → ad204 k = ad28 k := fun k hk => (FA8 k (by omega)).trans (g44 k (by omega))
  have FC7 : ∀ k, k ≠ o → k ≠ o → k < o + 3 → cl211 k = cl35 k := fun k h0 h9 hk => (FC8 k h0 h9 (by omega)).trans (g45 k (by omega))
  have FA6 : ∀ k, k < o + 3 → ad204 k = ad28 k := fun k hk => FA7 k (by omega)
  have FC6 : ∀ k, k ≠ o → k ≠ o → k < o + 3 → cl211 k = cl29 k := fun k h0 h9 hk => (FC7 k h0 h9 (by omega)).trans (g37 k h0)
  have FA5 : ∀ k, k < o + 2 → ad204 k = ad18 k := fun k hk => (FA6 k (by omega)).trans (g30 k (by omega))
  have FC5 : ∀ k, k ≠ o → k ≠ o → k < o + 1 → cl211 k = cl19 k := fun k h0 h9 hk => (FC6 k h0 h9 (by omega)).trans (g31 k (by omega))
  have FA4 : ∀ k, k < o + 1 → ad204 k = ad k := fun k hk => (FA5 k (by omega)).trans (g22 k (by omega))
  have FC4 : ∀ k, k ≠ o → k ≠ o → k < o + 1 → cl211 k = cl13 k := fun k h0 h9 hk => (FC5 k h0 h9 (by omega)).trans (g23 k (by omega))
  have FA3 : ∀ k, k < o + 1 → ad204 k = ad k := fun k hk => FA4 k (by omega)
  have FC3 : ∀ k, k ≠ o → k ≠ o → k < o + 1 → cl211 k = cl9 k := fun k h0 h9 hk => (FC4 k h0 h9 (by omega)).trans (g15 k h0)
  have FA2 : ∀ k, k < o + 1 → ad204 k = ad k := fun k hk => FA3 k (by omega)
  have FC2 : ∀ k, k ≠ o → k ≠ o → k < o + 1 → cl211 k = cl5 k := fun k h0 h9 hk => (FC3 k h0 h9 (by omega)).trans (g11 k h0)
  have FA1 : ∀ k, k < o + 1 → ad204 k = ad k := fun k hk => FA2 k (by omega)
  have FC1 : ∀ k, k ≠ o → k ≠ o → k < o + 1 → cl211 k = cl1 k := fun k h0 h9 hk => (FC2 k h0 h9 (by omega)).trans (g7 k h0)
  have FA0 : ∀ k, k < o + 1 → ad204 k = ad k := fun k hk => FA1 k (by omega)
  have FC0 : ∀ k, k ≠ o → k ≠ o → k < o + 1 → cl211 k = cl k := fun k h0 h9 hk => (FC1 k h0 h9 (by omega)).trans (g3 k h0)
  have b215 : Blk cl211 (o + 1) (bX5 G ad204 (o + 1)) := by rw [cg5 (n := 2) (Nat.le_refl _) (fun k h1 h2 => FA6 k (by omega))]; exact b32.tr (n := 2) (Nat.le_of_eq ln5) (fun k h1 h2 => FC6 k (by omega) (by omega) (by omega))
  have b216 : Blk cl211 (o + 3) (bX5 G ad204 (o + 3)) := by rw [cg5 (n := 2) (Nat.le_refl _) (fun k h1 h2 => FA9 k (by omega))]; exact b54.tr (n := 2) (Nat.le_of_eq ln5) (fun k h1 h2 => FC9 k (by omega) (by omega) (by omega))
  have b217 : Blk cl211 (o + 5) (bX5 G ad204 (o + 5)) := by rw [cg5 (n := 2) (Nat.le_refl _) (fun k h1 h2 => FA12 k (by omega))]; exact b76.tr (n := 2) (Nat.le_of_eq ln5) (fun k h1 h2 => FC12 k (by omega) (by omega) (by omega))
  have b218 : Blk cl211 (o + 7) (bX5 G ad204 (o + 7)) := by rw [cg5 (n := 2) (Nat.le_refl _) (fun k h1 h2 => FA15 k (by omega))]; exact b98.tr (n := 2) (Nat.le_of_eq ln5) (fun k h1 h2 => FC15 k (by omega) (by omega) (by omega))
  have b219 : Blk cl211 (o + 9) (bX5 G ad204 (o + 9)) := by rw [cg5 (n := 2) (Nat.le_refl _) (fun k h1 h2 => FA18 k (by omega))]; exact b120.tr (n := 2) (Nat.le_of_eq ln5) (fun k h1 h2 => FC18 k (by omega) (by omega) (by omega))
  have b220 : Blk cl211 (o + 11) (bX8 G ad204 (o + 11)) := by rw [cg8 (n := 5) (Nat.le_refl _) (fun k h1 h2 => FA21 k (by omega))]; exact b142.tr (n := 5) (Nat.le_of_eq ln8) (fun k h1 h2 => FC21 k (by omega) (by omega) (by omega))
  have b221 : Blk cl211 (o + 16) (bX5 G ad204 (o + 16)) := by rw [cg5 (n := 2) (Nat.le_refl _) (fun k h1 h2 => FA24 k (by omega))]; exact b164.tr (n := 2) (Nat.le_of_eq ln5) (fun k h1 h2 => FC24 k (by omega) (by omega) (by omega))
  have b222 : Blk cl211 (o + 18) (bX8 G ad204 (o + 18)) := by rw [cg8 (n := 5) (Nat.le_refl _) (fun k h1 h2 => FA27 k (by omega))]; exact b186.tr (n := 5) (Nat.le_of_eq ln8) (fun k h1 h2 => FC27 k (by omega) (by omega) (by omega))
  have b223 : Blk cl211 (o + 23) (bX5 G ad204 (o + 23)) := by rw [cg5 (n := 2) (Nat.le_refl _) (fun k h1 h2 => FA30 k (by omega))]; exact b208.tr (n := 2) (Nat.le_of_eq ln5) (fun k h1 h2 => FC30 k (by omega) (by omega) (by omega))
  have z224 : ad204 (o + 1) = q17 := (FA5 (o + 1) (by omega)).trans a26
  have z225 : ad204 (o + 3) = q39 := (FA8 (o + 3) (by omega)).trans a48
  have z226 : ad204 (o + 5) = q61 := (FA11 (o + 5) (by omega)).trans a70
  have z227 : ad204 (o + 7) = q83 := (FA14 (o + 7) (by omega)).trans a92
  have z228 : ad204 (o + 9) = q105 := (FA17 (o + 9) (by omega)).trans a114
  have z229 : ad204 (o + 11) = q127 := (FA20 (o + 11) (by omega)).trans a136
  have z230 : ad204 (o + 16) = q149 := (FA23 (o + 16) (by omega)).trans a158
  have z231 : ad204 (o + 18) = q171 := (FA26 (o + 18) (by omega)).trans a180
  have z232 : ad204 (o + 23) = q193 := (FA29 (o + 23) (by omega)).trans a202
  refine e_V X hr w ⟨ad204, cl211, rfl, fa, fc, ?_⟩ (Nat.le_of_ble_eq_true rfl) (Nat.le_of_ble_eq_true rfl) dX10_init_123
  refine Blk.cons ?_ (b215.app (by rw [ln5]) (b216.app (by rw [ln5]) (b217.app (by rw [ln5]) (b218.app (by rw [ln5]) (b219.app (by rw [ln5]) (b220.app (by rw [ln8]) (b221.app (by rw [ln5]) (b222.app (by rw [ln8]) (b223)))))))))
  rw [c214, z224, z225, z226, z227, z228, z229, z230, z231, z232]
