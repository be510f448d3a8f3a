/-! Row: reading loops, alter, cut -/
theorem row_ext {xs ys : List Int32} (hl : xs.length = ys.length) (h : ∀ j, j < xs.length → xs.getD j 0 = ys.getD j 0) : xs = ys := by
  apply List.ext_getElem hl
  intro j h1 h2
  have := h j h1
  simpa [List.getD_eq_getElem?_getD, h1, h2] using this
/-- whether the signs of k places stand alike -/
def standsL (g h : Int32 → Int32) : Nat → Int32 → Bool
  | 0, _ => true
  | k + 1, x => if g x &&& 127 = h x &&& 127 then standsL g h k (x + 1) else false
def raltL (xs : List Int32) (x v : Int32) : List Int32 := if x < 0 then xs else if nI xs.length ≤ x then xs else xs.set x.toNatClampNeg v
def rcutL (xs : List Int32) (x : Int32) : List Int32 := if x < 0 then xs else if nI xs.length ≤ x then xs else xs.take x.toNatClampNeg
theorem b_0 : narrow .boolean (.int 0) = .int 0 := rfl
theorem b_1 : narrow .boolean (.int 1) = .int 1 := rfl
abbrev cX5_like : ByteArray := prog_7_method_13_code
def yX5_like : MethodName := ⟨RX5, "like", "(LTypeRoom$Row;)Z"⟩
theorem wcX5_like : Cond.code yX5_like cX5_like 3 (some .boolean) ∈ tb := tb_6 (i := 233) rfl rfl
theorem wnX5_like : Cond.instanceMethod yX5_like ∈ tb := tb_6 (i := 231) (by decide +kernel) rfl
theorem wlX5_like : Cond.selects RX5 yX5_like yX5_like ∈ tb := tb_6 (i := 232) (by decide +kernel) rfl
theorem YX5_like : Yv yX5_like cX5_like 3 (some .boolean) 1 := ⟨wcX5_like, wlX5_like, wnX5_like, wi_5, by decide +kernel, by decide +kernel, by decide +kernel⟩
theorem dX5_like_0 : decode cX5_like 0 = .ok (.aload_n 0, 1) := by decide +kernel
theorem dX5_like_1 : decode cX5_like 1 = .ok (.getfield 15, 3) := by decide +kernel
theorem dX5_like_4 : decode cX5_like 4 = .ok (.aload_n 1, 1) := by decide +kernel
theorem dX5_like_5 : decode cX5_like 5 = .ok (.getfield 15, 3) := by decide +kernel
theorem dX5_like_8 : decode cX5_like 8 = .ok (.if_icmp .eq 5, 3) := by decide +kernel
theorem dX5_like_11 : decode cX5_like 11 = .ok (.iconst 0, 1) := by decide +kernel
theorem dX5_like_12 : decode cX5_like 12 = .ok (.ireturn, 1) := by decide +kernel
theorem dX5_like_13 : decode cX5_like 13 = .ok (.iconst 0, 1) := by decide +kernel
theorem dX5_like_14 : decode cX5_like 14 = .ok (.istore_n 2, 1) := by decide +kernel
theorem dX5_like_15 : decode cX5_like 15 = .ok (.iload_n 2, 1) := by decide +kernel
theorem dX5_like_16 : decode cX5_like 16 = .ok (.aload_n 0, 1) := by decide +kernel
theorem dX5_like_17 : decode cX5_like 17 = .ok (.getfield 15, 3) := by decide +kernel
theorem dX5_like_20 : decode cX5_like 20 = .ok (.if_icmp .ge 24, 3) := by decide +kernel
theorem dX5_like_23 : decode cX5_like 23 = .ok (.aload_n 0, 1) := by decide +kernel
theorem dX5_like_24 : decode cX5_like 24 = .ok (.iload_n 2, 1) := by decide +kernel
theorem dX5_like_25 : decode cX5_like 25 = .ok (.invokevirtual 33, 3) := by decide +kernel
theorem dX5_like_28 : decode cX5_like 28 = .ok (.aload_n 1, 1) := by decide +kernel
theorem dX5_like_29 : decode cX5_like 29 = .ok (.iload_n 2, 1) := by decide +kernel
theorem dX5_like_30 : decode cX5_like 30 = .ok (.invokevirtual 33, 3) := by decide +kernel
theorem dX5_like_33 : decode cX5_like 33 = .ok (.if_icmp .eq 5, 3) := by decide +kernel
theorem dX5_like_36 : decode cX5_like 36 = .ok (.iconst 0, 1) := by decide +kernel
theorem dX5_like_37 : decode cX5_like 37 = .ok (.ireturn, 1) := by decide +kernel
theorem dX5_like_38 : decode cX5_like 38 = .ok (.iinc 2 1, 3) := by decide +kernel
theorem dX5_like_41 : decode cX5_like 41 = .ok (.goto (-26), 3) := by decide +kernel
theorem dX5_like_44 : decode cX5_like 44 = .ok (.iconst 1, 1) := by decide +kernel
theorem dX5_like_45 : decode cX5_like 45 = .ok (.ireturn, 1) := by decide +kernel
abbrev cX5_stands : ByteArray := prog_7_method_14_code
def yX5_stands : MethodName := ⟨RX5, "stands", "(ILTypeRoom$Row;II)Z"⟩
theorem wcX5_stands : Cond.code yX5_stands cX5_stands 6 (some .boolean) ∈ tb := tb_3 (i := 217) rfl rfl
theorem wnX5_stands : Cond.instanceMethod yX5_stands ∈ tb := tb_3 (i := 215) (by decide +kernel) rfl
theorem wlX5_stands : Cond.selects RX5 yX5_stands yX5_stands ∈ tb := tb_3 (i := 216) (by decide +kernel) rfl
theorem YX5_stands : Yv yX5_stands cX5_stands 6 (some .boolean) 4 := ⟨wcX5_stands, wlX5_stands, wnX5_stands, wi_5, by decide +kernel, by decide +kernel, by decide +kernel⟩
theorem dX5_stands_0 : decode cX5_stands 0 = .ok (.iload_n 3, 1) := by decide +kernel
theorem dX5_stands_1 : decode cX5_stands 1 = .ok (.istore 5, 2) := by decide +kernel
theorem dX5_stands_3 : decode cX5_stands 3 = .ok (.iload 5, 2) := by decide +kernel
theorem dX5_stands_5 : decode cX5_stands 5 = .ok (.iload 4, 2) := by decide +kernel
theorem dX5_stands_7 : decode cX5_stands 7 = .ok (.if_icmp .ge 36, 3) := by decide +kernel
theorem dX5_stands_10 : decode cX5_stands 10 = .ok (.aload_n 0, 1) := by decide +kernel
theorem dX5_stands_11 : decode cX5_stands 11 = .ok (.iload_n 1, 1) := by decide +kernel
theorem dX5_stands_12 : decode cX5_stands 12 = .ok (.iload 5, 2) := by decide +kernel
theorem dX5_stands_14 : decode cX5_stands 14 = .ok (.iadd, 1) := by decide +kernel
theorem dX5_stands_15 : decode cX5_stands 15 = .ok (.iload_n 3, 1) := by decide +kernel
theorem dX5_stands_16 : decode cX5_stands 16 = .ok (.isub, 1) := by decide +kernel
theorem dX5_stands_17 : decode cX5_stands 17 = .ok (.invokevirtual 33, 3) := by decide +kernel
theorem dX5_stands_20 : decode cX5_stands 20 = .ok (.bipush 127, 2) := by decide +kernel
theorem dX5_stands_22 : decode cX5_stands 22 = .ok (.iand, 1) := by decide +kernel
theorem dX5_stands_23 : decode cX5_stands 23 = .ok (.aload_n 2, 1) := by decide +kernel
theorem dX5_stands_24 : decode cX5_stands 24 = .ok (.iload 5, 2) := by decide +kernel
theorem dX5_stands_26 : decode cX5_stands 26 = .ok (.invokevirtual 33, 3) := by decide +kernel
theorem dX5_stands_29 : decode cX5_stands 29 = .ok (.bipush 127, 2) := by decide +kernel
theorem dX5_stands_31 : decode cX5_stands 31 = .ok (.iand, 1) := by decide +kernel
theorem dX5_stands_32 : decode cX5_stands 32 = .ok (.if_icmp .eq 5, 3) := by decide +kernel
theorem dX5_stands_35 : decode cX5_stands 35 = .ok (.iconst 0, 1) := by decide +kernel
theorem dX5_stands_36 : decode cX5_stands 36 = .ok (.ireturn, 1) := by decide +kernel
theorem dX5_stands_37 : decode cX5_stands 37 = .ok (.iinc 5 1, 3) := by decide +kernel
theorem dX5_stands_40 : decode cX5_stands 40 = .ok (.goto (-37), 3) := by decide +kernel
theorem dX5_stands_43 : decode cX5_stands 43 = .ok (.iconst 1, 1) := by decide +kernel
theorem dX5_stands_44 : decode cX5_stands 44 = .ok (.ireturn, 1) := by decide +kernel
abbrev cX5_alter : ByteArray := prog_7_method_4_code
def yX5_alter : MethodName := ⟨RX5, "alter", "(II)V"⟩
theorem wcX5_alter : Cond.code yX5_alter cX5_alter 3 none ∈ tb := tb_4 (i := 222) rfl rfl
theorem wnX5_alter : Cond.instanceMethod yX5_alter ∈ tb := tb_4 (i := 220) (by decide +kernel) rfl
theorem wlX5_alter : Cond.selects RX5 yX5_alter yX5_alter ∈ tb := tb_4 (i := 221) (by decide +kernel) rfl
theorem YX5_alter : Yv yX5_alter cX5_alter 3 none 2 := ⟨wcX5_alter, wlX5_alter, wnX5_alter, wi_5, by decide +kernel, by decide +kernel, by decide +kernel⟩
theorem dX5_alter_0 : decode cX5_alter 0 = .ok (.iload_n 1, 1) := by decide +kernel
theorem dX5_alter_1 : decode cX5_alter 1 = .ok (.ifCond .lt 18, 3) := by decide +kernel
theorem dX5_alter_4 : decode cX5_alter 4 = .ok (.iload_n 1, 1) := by decide +kernel
theorem dX5_alter_5 : decode cX5_alter 5 = .ok (.aload_n 0, 1) := by decide +kernel
theorem dX5_alter_6 : decode cX5_alter 6 = .ok (.getfield 15, 3) := by decide +kernel
theorem dX5_alter_9 : decode cX5_alter 9 = .ok (.if_icmp .ge 10, 3) := by decide +kernel
theorem dX5_alter_12 : decode cX5_alter 12 = .ok (.aload_n 0, 1) := by decide +kernel
theorem dX5_alter_13 : decode cX5_alter 13 = .ok (.getfield 9, 3) := by decide +kernel
theorem dX5_alter_16 : decode cX5_alter 16 = .ok (.iload_n 1, 1) := by decide +kernel
theorem dX5_alter_17 : decode cX5_alter 17 = .ok (.iload_n 2, 1) := by decide +kernel
theorem dX5_alter_18 : decode cX5_alter 18 = .ok (.iastore, 1) := by decide +kernel
theorem dX5_alter_19 : decode cX5_alter 19 = .ok (.return_, 1) := by decide +kernel
abbrev cX5_cut : ByteArray := prog_7_method_5_code
def yX5_cut : MethodName := ⟨RX5, "cut", "(I)V"⟩
theorem wcX5_cut : Cond.code yX5_cut cX5_cut 2 none ∈ tb := tb_5 (i := 56) rfl rfl
theorem wnX5_cut : Cond.instanceMethod yX5_cut ∈ tb := tb_5 (i := 54) (by decide +kernel) rfl
theorem wlX5_cut : Cond.selects RX5 yX5_cut yX5_cut ∈ tb := tb_5 (i := 55) (by decide +kernel) rfl
theorem YX5_cut : Yv yX5_cut cX5_cut 2 none 1 := ⟨wcX5_cut, wlX5_cut, wnX5_cut, wi_5, by decide +kernel, by decide +kernel, by decide +kernel⟩
theorem dX5_cut_0 : decode cX5_cut 0 = .ok (.iload_n 1, 1) := by decide +kernel
theorem dX5_cut_1 : decode cX5_cut 1 = .ok (.ifCond .lt 16, 3) := by decide +kernel
theorem dX5_cut_4 : decode cX5_cut 4 = .ok (.iload_n 1, 1) := by decide +kernel
theorem dX5_cut_5 : decode cX5_cut 5 = .ok (.aload_n 0, 1) := by decide +kernel
theorem dX5_cut_6 : decode cX5_cut 6 = .ok (.getfield 15, 3) := by decide +kernel
theorem dX5_cut_9 : decode cX5_cut 9 = .ok (.if_icmp .ge 8, 3) := by decide +kernel
theorem dX5_cut_12 : decode cX5_cut 12 = .ok (.aload_n 0, 1) := by decide +kernel
theorem dX5_cut_13 : decode cX5_cut 13 = .ok (.iload_n 1, 1) := by decide +kernel
theorem dX5_cut_14 : decode cX5_cut 14 = .ok (.putfield 15, 3) := by decide +kernel
theorem dX5_cut_17 : decode cX5_cut 17 = .ok (.return_, 1) := by decide +kernel
set_option maxHeartbeats 4000000 in
set_option maxRecDepth 100000 in
theorem lp_X5_like {p : Program} {l : Launch} {e : Env} {s : State} {m : MethodId} {args : Array Value} {below : List Frame} {meth : Method} {c : Code} {A : Nat → Prop} {D : va_G} {G : Nat → ClassId} {t : Nat → Nat} (X : Cx p s m args meth c cX5_like 3 RX5 D G t A) (hr : meth.sig.returnType = some .boolean) {N i cap j capj d : Nat} {ad : Nat → Nat} {cl : Nat → va_E} {xs ys : List Int32} (hR : RowL G N ad cl i cap xs) (hRj : RowL G N ad cl j capj ys) (hd : 2 ≤ d) (hn : xs.length = ys.length) : ∀ (k q : Nat) (H : Heap) (locs : List Loc) (cells slots : Nat) (ls : Array Slot), q + k = xs.length → (∀ z, z < q → xs.getD z 0 = ys.getD z 0) → cells + 0 ≤ 0 → slots + 0 ≤ 0 → Wd D A s H locs N ad cl → lv_has ls 3 [(2, .int (nI q)), (0, .ref (ad i)), (1, .ref (ad j))] → W p l e (rmD d 0 0) s m args below meth c H locs cells slots (MQ below (va_Qi (fun r u => r = (if xs = ys then 1 else 0) ∧ u = (N, ad, cl)) (PB D G A) A) args s 0 0 A) (F0 m 15 ls []) := by
  obtain ⟨hx, hb, hml, hown, hts, -⟩ := id X
  have hcM := hR.2.2.2.2.2
  have hcx := hR.2.2.2.1
  intro k
  induction k with
  | zero =>
    intro q H locs cells slots ls hk hq hce hse w hl
    refine lv_iload_n hx hb dX5_like_15 rfl (lv_at hl 0 rfl) ?_
    refine lv_aload_n hx hb dX5_like_16 rfl (lv_at hl 1 rfl) ?_
    refine g_get X w (i) rfl (by have := hR.1; omega) hR.2.1 kc5 1 (by decide) rfl k_RX5_15 rfl dX5_like_17 ?_
    refine lv_icmp_ge (tgt := 44) hx hb dX5_like_20 (by decide) (fun h1 => ?_) (fun h1 => absurd (nI_le (by omega) (by omega)) h1)
    refine lv_iconst (v := 1) hx hb dX5_like_44 (by decide) ?_
    exact e_Z X hr b_1 w ⟨(if_pos (row_ext hn (fun z hz => hq z (by omega)))).symm, rfl⟩ (by omega) (by omega) dX5_like_45
  | succ k ih =>
    intro q H locs cells slots ls hk hq hce hse w hl
    have g1 : rget xs (nI q) = xs.getD q 0 := rget_at (by omega) (by omega)
    have g2 : rget ys (nI q) = ys.getD q 0 := rget_at (by omega) (by omega)
    refine lv_iload_n hx hb dX5_like_15 rfl (lv_at hl 0 rfl) ?_
    refine lv_aload_n hx hb dX5_like_16 rfl (lv_at hl 1 rfl) ?_
    refine g_get X w (i) rfl (by have := hR.1; omega) hR.2.1 kc5 1 (by decide) rfl k_RX5_15 rfl dX5_like_17 ?_
    refine lv_icmp_ge (tgt := 44) hx hb dX5_like_20 (by decide) (fun h2 => absurd h2 (nI_ge (by omega) (by omega))) (fun h2 => ?_)
    refine lv_aload_n hx hb dX5_like_23 rfl (lv_at hl 1 rfl) ?_
    refine lv_iload_n hx hb dX5_like_24 rfl (lv_at hl 0 rfl) ?_
    refine c_I (As := [.int (nI q)]) (rest := []) X w (ct_X5_get l D G t N ad cl i cap xs hR (nI q) (d - 1)) YX5_get k_RX5_33 (i) rfl (by have := hR.1; omega) hR.2.1 kc5 (rfl) rfl rfl hl.1 (rm_call (by omega) (by decide)) (Nat.le_of_ble_eq_true rfl) dX5_like_25 (⟨hce, hse⟩) (fun r u H locs hp w => ?_)
    obtain ⟨rfl, rfl⟩ := hp
    have w : Wd D A s H locs N ad cl := w
    refine lv_aload_n hx hb dX5_like_28 rfl (lv_at hl 2 rfl) ?_
    refine lv_iload_n hx hb dX5_like_29 rfl (lv_at hl 0 rfl) ?_
    refine c_I (As := [.int (nI q)]) (rest := [.int (rget xs (nI q))]) X w (ct_X5_get l D G t N ad cl j capj ys hRj (nI q) (d - 1)) YX5_get k_RX5_33 (j) rfl (by have := hRj.1; omega) hRj.2.1 kc5 (rfl) rfl rfl hl.1 (rm_call (by omega) (by decide)) (Nat.le_of_ble_eq_true rfl) dX5_like_30 (⟨hce, hse⟩) (fun r u H locs hp w => ?_)
    obtain ⟨rfl, rfl⟩ := hp
    have w : Wd D A s H locs N ad cl := w
    refine lv_icmp_eq (tgt := 38) hx hb dX5_like_33 (by decide) (fun h3 => ?_) (fun h3 => ?_)
    · refine lv_iinc (v := nI (q + 1)) (lv' := [(2, .int (nI (q + 1))), (0, .ref (ad (i))), (1, .ref (ad (j)))]) hx hb dX5_like_38 hl (k := 0) rfl (nI_1 q) (by decide) rfl (fun ls hl => ?_)
      refine lv_goto (tgt := 15) hx hb dX5_like_41 (by decide) ?_
      exact ih (q + 1) _ _ _ _ _ (by omega) (lt_s hq (by rw [← g1, ← g2]; exact h3)) hce hse w (lv_sub hl [0, 1, 2] rfl)
    · refine lv_iconst (v := 0) hx hb dX5_like_36 (by decide) ?_
      refine e_Z X hr b_0 w ⟨(if_neg (fun z => h3 ?_)).symm, rfl⟩ (by omega) (by omega) dX5_like_37
      rw [g1, g2, z]
set_option maxHeartbeats 4000000 in
set_option maxRecDepth 100000 in
theorem ct_X5_like (l : Launch) (D : va_G) (G : Nat → ClassId) (t : Nat → Nat) (N : Nat) (ad : Nat → Nat) (cl : Nat → va_E) (i cap : Nat) (xs : List Int32) (hR : RowL G N ad cl i cap xs) (j capj : Nat) (ys : List Int32) (hRj : RowL G N ad cl j capj ys) (d : Nat) (hd : 2 ≤ d) : CtZ l yX5_like cX5_like 3 (rmD d 0 0) D G t (N, ad, cl) [.ref (ad i), .ref (ad j)] (fun r u => r = (if xs = ys then 1 else 0) ∧ u = (N, ad, cl)) := by
  have hcM := hR.2.2.2.2.2
  have hcx := hR.2.2.2.1
  have hcM2 := hRj.2.2.2.2.2
  have hcx2 := hRj.2.2.2.1
  refine ct_Z (own := RX5) (by decide +kernel) rfl (Nat.le_of_ble_eq_true rfl) rfl ?_
  intro p e s m args below meth c A ls X hr hl w
  obtain ⟨hx, hb, hml, hown, hts, -⟩ := id X
  have hl : lv_has ls 3 [(0, .ref (ad (i))), (1, .ref (ad (j)))] := hl
  refine lv_aload_n hx hb dX5_like_0 rfl (lv_at hl 0 rfl) ?_
  refine g_get X w (i) rfl (by have := hR.1; omega) hR.2.1 kc5 1 (by decide) rfl k_RX5_15 rfl dX5_like_1 ?_
  refine lv_aload_n hx hb dX5_like_4 rfl (lv_at hl 1 rfl) ?_
  refine g_get X w (j) rfl (by have := hRj.1; omega) hRj.2.1 kc5 1 (by decide) rfl k_RX5_15 rfl dX5_like_5 ?_
  refine lv_icmp_eq (tgt := 13) hx hb dX5_like_8 (by decide) (fun h1 => ?_) (fun h1 => ?_)
  · refine lv_iconst (v := 0) hx hb dX5_like_13 (by decide) ?_
    refine lv_istore_n (lv' := [(2, .int (0)), (0, .ref (ad (i))), (1, .ref (ad (j)))]) hx hb dX5_like_14 rfl hl (by decide) rfl (fun ls hl => ?_)
    exact lp_X5_like X hr hR hRj hd ((nI_eq (by omega) (by omega)).mp h1) xs.length 0 _ _ _ _ _ (by omega) lt_0 (Nat.le_refl _) (Nat.le_refl _) w (lv_sub hl [0, 1, 2] rfl)
  · refine lv_iconst (v := 0) hx hb dX5_like_11 (by decide) ?_
    refine e_Z X hr b_0 w ⟨(if_neg (fun z => h1 ?_)).symm, rfl⟩ (Nat.le_refl _) (Nat.le_refl _) dX5_like_12
    rw [z]
set_option maxHeartbeats 4000000 in
set_option maxRecDepth 100000 in
theorem lp_X5_stands {p : Program} {l : Launch} {e : Env} {s : State} {m : MethodId} {args : Array Value} {below : List Frame} {meth : Method} {c : Code} {A : Nat → Prop} {D : va_G} {G : Nat → ClassId} {t : Nat → Nat} (X : Cx p s m args meth c cX5_stands 6 RX5 D G t A) (hr : meth.sig.returnType = some .boolean) {N i cap j capj d : Nat} {ad : Nat → Nat} {cl : Nat → va_E} {xs ys : List Int32} (hR : RowL G N ad cl i cap xs) (hRj : RowL G N ad cl j capj ys) (hd : 2 ≤ d) {a f z : Int32} {r0 : Bool} : ∀ (k : Nat) (x : Int32) (H : Heap) (locs : List Loc) (cells slots : Nat) (ls : Array Slot), (z.toInt - x.toInt).toNat = k → standsL (fun y => rget xs ((a + y) - f)) (rget ys) k x = r0 → cells + 0 ≤ 0 → slots + 0 ≤ 0 → Wd D A s H locs N ad cl → lv_has ls 6 [(5, .int x), (0, .ref (ad i)), (1, .int a), (2, .ref (ad j)), (3, .int f), (4, .int z)] → W p l e (rmD d 0 0) s m args below meth c H locs cells slots (MQ below (va_Qi (fun r u => r = (if r0 = true then 1 else 0) ∧ u = (N, ad, cl)) (PB D G A) A) args s 0 0 A) (F0 m 3 ls []) := by
  obtain ⟨hx, hb, hml, hown, hts, -⟩ := id X
  intro k
  induction k with
  | zero =>
    intro x H locs cells slots ls hk hq hce hse w hl
    refine lv_iload hx hb dX5_stands_3 (lv_at hl 0 rfl) ?_
    refine lv_iload hx hb dX5_stands_5 (lv_at hl 5 rfl) ?_
    refine lv_icmp_ge (tgt := 43) hx hb dX5_stands_7 (by decide) (fun h1 => ?_) (fun h1 => absurd (i32_stop hk) h1)
    refine lv_iconst (v := 1) hx hb dX5_stands_43 (by decide) ?_
    exact e_Z X hr b_1 w ⟨by rw [← hq]; rfl, rfl⟩ (by omega) (by omega) dX5_stands_44
  | succ k ih =>
    intro x H locs cells slots ls hk hq hce hse w hl
    obtain ⟨hxz, hk2⟩ := i32_step hk
    refine lv_iload hx hb dX5_stands_3 (lv_at hl 0 rfl) ?_
    refine lv_iload hx hb dX5_stands_5 (lv_at hl 5 rfl) ?_
    refine lv_icmp_ge (tgt := 43) hx hb dX5_stands_7 (by decide) (fun h2 => absurd h2 (Int32.not_le.mpr hxz)) (fun h2 => ?_)
    refine lv_aload_n hx hb dX5_stands_10 rfl (lv_at hl 1 rfl) ?_
    refine lv_iload_n hx hb dX5_stands_11 rfl (lv_at hl 2 rfl) ?_
    refine lv_iload hx hb dX5_stands_12 (lv_at hl 0 rfl) ?_
    refine lv_iadd hx hb dX5_stands_14 ?_
    refine lv_iload_n hx hb dX5_stands_15 rfl (lv_at hl 4 rfl) ?_
    refine lv_isub hx hb dX5_stands_16 ?_
    refine c_I (As := [.int ((a + x) - f)]) (rest := []) X w (ct_X5_get l D G t N ad cl i cap xs hR ((a + x) - f) (d - 1)) YX5_get k_RX5_33 (i) rfl (by have := hR.1; omega) hR.2.1 kc5 (rfl) rfl rfl hl.1 (rm_call (by omega) (by decide)) (Nat.le_of_ble_eq_true rfl) dX5_stands_17 (⟨hce, hse⟩) (fun r u H locs hp w => ?_)
    obtain ⟨rfl, rfl⟩ := hp
    have w : Wd D A s H locs N ad cl := w
    refine lv_bipush (v := 127) hx hb dX5_stands_20 (by decide) ?_
    refine lv_iand hx hb dX5_stands_22 ?_
    refine lv_aload_n hx hb dX5_stands_23 rfl (lv_at hl 3 rfl) ?_
    refine lv_iload hx hb dX5_stands_24 (lv_at hl 0 rfl) ?_
    refine c_I (As := [.int (x)]) (rest := [.int ((rget xs ((a + x) - f)) &&& 127)]) X w (ct_X5_get l D G t N ad cl j capj ys hRj (x) (d - 1)) YX5_get k_RX5_33 (j) rfl (by have := hRj.1; omega) hRj.2.1 kc5 (rfl) rfl rfl hl.1 (rm_call (by omega) (by decide)) (Nat.le_of_ble_eq_true rfl) dX5_stands_26 (⟨hce, hse⟩) (fun r u H locs hp w => ?_)
    obtain ⟨rfl, rfl⟩ := hp
    have w : Wd D A s H locs N ad cl := w
    refine lv_bipush (v := 127) hx hb dX5_stands_29 (by decide) ?_
    refine lv_iand hx hb dX5_stands_31 ?_
    refine lv_icmp_eq (tgt := 37) hx hb dX5_stands_32 (by decide) (fun h3 => ?_) (fun h3 => ?_)
    · refine lv_iinc (v := x + 1) (lv' := [(5, .int (x + 1)), (0, .ref (ad (i))), (1, .int (a)), (2, .ref (ad (j))), (3, .int (f)), (4, .int (z))]) hx hb dX5_stands_37 hl (k := 0) rfl (rfl) (by decide) rfl (fun ls hl => ?_)
      refine lv_goto (tgt := 3) hx hb dX5_stands_40 (by decide) ?_
      exact ih _ _ _ _ _ _ hk2 (by rw [← hq, standsL, if_pos h3]) hce hse w (lv_sub hl [0, 1, 2, 3, 4, 5] rfl)
    · refine lv_iconst (v := 0) hx hb dX5_stands_35 (by decide) ?_
      exact e_Z X hr b_0 w ⟨by rw [← hq, standsL, if_neg h3]; rfl, rfl⟩ (by omega) (by omega) dX5_stands_36
set_option maxHeartbeats 4000000 in
set_option maxRecDepth 100000 in
theorem ct_X5_stands (l : Launch) (D : va_G) (G : Nat → ClassId) (t : Nat → Nat) (N : Nat) (ad : Nat → Nat) (cl : Nat → va_E) (i cap : Nat) (xs : List Int32) (hR : RowL G N ad cl i cap xs) (j capj : Nat) (ys : List Int32) (hRj : RowL G N ad cl j capj ys) (a f z : Int32) (d : Nat) (hd : 2 ≤ d) : CtZ l yX5_stands cX5_stands 6 (rmD d 0 0) D G t (N, ad, cl) [.ref (ad i), .int a, .ref (ad j), .int f, .int z] (fun r u => r = (if standsL (fun y => rget xs ((a + y) - f)) (rget ys) (z.toInt - f.toInt).toNat f = true then 1 else 0) ∧ u = (N, ad, cl)) := by
  refine ct_Z (own := RX5) (by decide +kernel) rfl (Nat.le_of_ble_eq_true rfl) rfl ?_
  intro p e s m args below meth c A ls X hr hl w
  obtain ⟨hx, hb, hml, hown, hts, -⟩ := id X
  have hl : lv_has ls 6 [(0, .ref (ad (i))), (1, .int (a)), (2, .ref (ad (j))), (3, .int (f)), (4, .int (z))] := hl
  refine lv_iload_n hx hb dX5_stands_0 rfl (lv_at hl 3 rfl) ?_
  refine lv_istore (lv' := [(5, .int (f)), (0, .ref (ad (i))), (1, .int (a)), (2, .ref (ad (j))), (3, .int (f)), (4, .int (z))]) hx hb dX5_stands_1 hl (by decide) rfl (fun ls hl => ?_)
  exact lp_X5_stands X hr hR hRj hd _ _ _ _ _ _ _ rfl rfl (Nat.le_refl _) (Nat.le_refl _) w (lv_sub hl [0, 1, 2, 3, 4, 5] rfl)
set_option maxHeartbeats 4000000 in
set_option maxRecDepth 100000 in
theorem ct_X5_alter (l : Launch) (D : va_G) (G : Nat → ClassId) (t : Nat → Nat) (N : Nat) (ad : Nat → Nat) (cl : Nat → va_E) (i cap : Nat) (xs : List Int32) (hR : RowL G N ad cl i cap xs) (x v : Int32) (d : Nat) : CtV l yX5_alter cX5_alter 3 (rmD d 0 0) D G t (N, ad, cl) [.ref (ad i), .int x, .int v] (fun u => ∃ ad' cl', u = (N, ad', cl') ∧ RowL G N ad' cl' i cap (raltL xs x v) ∧ FrR N i ad cl ad' cl') := by
  have hR0 := hR
  obtain ⟨hN, hc0, ⟨f, hc1, hf⟩, hcap, hcm, hcM⟩ := hR
  refine ct_V (own := RX5) (by decide +kernel) rfl (Nat.le_of_ble_eq_true rfl) rfl ?_
  intro p e s m args below meth c A ls X hr hin hl w
  obtain ⟨hx, hb, hml, hown, hts, -⟩ := id X
  have hl : lv_has ls 3 [(0, .ref (ad (i))), (1, .int (x)), (2, .int (v))] := hl
  refine lv_iload_n hx hb dX5_alter_0 rfl (lv_at hl 1 rfl) ?_
  refine lv_if_lt (tgt := 19) hx hb dX5_alter_1 (by decide) (fun h1 => ?_) (fun h1 => ?_)
  · exact e_V X hr w ⟨ad, cl, rfl, by rw [(by rw [raltL, if_pos h1] : raltL xs x v = xs)]; exact hR0, FrR.rf⟩ (Nat.zero_le _) (Nat.zero_le _) dX5_alter_19
  · refine lv_iload_n hx hb dX5_alter_4 rfl (lv_at hl 1 rfl) ?_
    refine lv_aload_n hx hb dX5_alter_5 rfl (lv_at hl 0 rfl) ?_
    refine g_get X w (i) rfl (by omega) hc0 kc5 1 (by decide) rfl k_RX5_15 rfl dX5_alter_6 ?_
    refine lv_icmp_ge (tgt := 19) hx hb dX5_alter_9 (by decide) (fun h2 => ?_) (fun h2 => ?_)
    · exact e_V X hr w ⟨ad, cl, rfl, by rw [(by rw [raltL, if_neg h1, if_pos h2] : raltL xs x v = xs)]; exact hR0, FrR.rf⟩ (Nat.zero_le _) (Nat.zero_le _) dX5_alter_19
    · obtain ⟨j, hj, ej, -, ec, -⟩ := pk_mu h1 h2 (by omega)
      refine lv_aload_n hx hb dX5_alter_12 rfl (lv_at hl 0 rfl) ?_
      refine g_get X w (i) rfl (by omega) hc0 kc5 0 (by decide) rfl k_RX5_9 rfl dX5_alter_13 ?_
      refine lv_iload_n hx hb dX5_alter_16 rfl (lv_at hl 1 rfl) ?_
      refine lv_iload_n hx hb dX5_alter_17 rfl (lv_at hl 2 rfl) ?_
      refine g_iast X w (i + 1) rfl (by omega) hc1 (x := x) (by rw [ej]; exact row_in (by omega) hcM) dX5_alter_18 (fun H locs w => ?_)
      have w : Wd D A s H locs (N) ad (va_up cl (i + 1) (.inl (G 0, cap, .inl (upd (f) j (v))))) := by rw [← ec]; exact w
      generalize e4 : va_up cl (i + 1) (.inl (G 0, cap, .inl (upd (f) j (v)))) = cl3 at w
      have c5 : cl3 (i) = .inr (5, [.ref (ad (i + 1)), .int (nI xs.length)]) := by rw [← e4, va_up_ne _ _ (by omega)]; exact hc0
      have c6 : cl3 (i + 1) = .inl (G 0, cap, .inl (upd (f) j (v))) := by rw [← e4, va_up_self]
      refine e_V X hr w ⟨ad, cl3, rfl, ?_, fun _ _ _ => rfl, fun k h0 h1 h2 => ?_⟩ (Nat.zero_le _) (Nat.zero_le _) dX5_alter_19
      · rw [raltL, if_neg h1, if_neg h2, ec]
        refine ⟨hN, by rw [List.length_set]; exact c5, ⟨_, c6, fun z hz => ?_⟩, by rw [List.length_set]; exact hcap, hcm, hcM⟩
        rw [List.length_set] at hz
        by_cases hzj : z = j
        · rw [hzj, pk_us]; simp [List.getD_eq_getElem?_getD, hj]
        · rw [pk_un hzj, hf z hz]; simp [List.getD_eq_getElem?_getD, List.getElem?_set_ne (Ne.symm hzj)]
      · rw [← e4, va_up_ne _ _ h2]
set_option maxHeartbeats 4000000 in
set_option maxRecDepth 100000 in
theorem ct_X5_cut (l : Launch) (D : va_G) (G : Nat → ClassId) (t : Nat → Nat) (N : Nat) (ad : Nat → Nat) (cl : Nat → va_E) (i cap : Nat) (xs : List Int32) (hR : RowL G N ad cl i cap xs) (x : Int32) (d : Nat) : CtV l yX5_cut cX5_cut 2 (rmD d 0 0) D G t (N, ad, cl) [.ref (ad i), .int x] (fun u => ∃ ad' cl', u = (N, ad', cl') ∧ RowL G N ad' cl' i cap (rcutL xs x) ∧ FrR N i ad cl ad' cl') := by
  have hR0 := hR
  obtain ⟨hN, hc0, ⟨f, hc1, hf⟩, hcap, hcm, hcM⟩ := hR
  refine ct_V (own := RX5) (by decide +kernel) rfl (Nat.le_of_ble_eq_true rfl) rfl ?_
  intro p e s m args below meth c A ls X hr hin hl w
  obtain ⟨hx, hb, hml, hown, hts, -⟩ := id X
  have hl : lv_has ls 2 [(0, .ref (ad (i))), (1, .int (x))] := hl
  refine lv_iload_n hx hb dX5_cut_0 rfl (lv_at hl 1 rfl) ?_
  refine lv_if_lt (tgt := 17) hx hb dX5_cut_1 (by decide) (fun h1 => ?_) (fun h1 => ?_)
  · exact e_V X hr w ⟨ad, cl, rfl, by rw [(by rw [rcutL, if_pos h1] : rcutL xs x = xs)]; exact hR0, FrR.rf⟩ (Nat.zero_le _) (Nat.zero_le _) dX5_cut_17
  · refine lv_iload_n hx hb dX5_cut_4 rfl (lv_at hl 1 rfl) ?_
    refine lv_aload_n hx hb dX5_cut_5 rfl (lv_at hl 0 rfl) ?_
    refine g_get X w (i) rfl (by omega) hc0 kc5 1 (by decide) rfl k_RX5_15 rfl dX5_cut_6 ?_
    refine lv_icmp_ge (tgt := 17) hx hb dX5_cut_9 (by decide) (fun h2 => ?_) (fun h2 => ?_)
    · exact e_V X hr w ⟨ad, cl, rfl, by rw [(by rw [rcutL, if_neg h1, if_pos h2] : rcutL xs x = xs)]; exact hR0, FrR.rf⟩ (Nat.zero_le _) (Nat.zero_le _) dX5_cut_17
    · obtain ⟨j, hj, ej, -, ec, -⟩ := pk_mu h1 h2 (by omega)
      refine lv_aload_n hx hb dX5_cut_12 rfl (lv_at hl 0 rfl) ?_
      refine lv_iload_n hx hb dX5_cut_13 rfl (lv_at hl 1 rfl) ?_
      refine g_put X w (i) rfl (by omega) hc0 kc5 1 (by decide) rfl k_RX5_15 rfl rfl rfl (Nat.le_of_ble_eq_true rfl) dX5_cut_14 (fun H locs w => ?_)
      have w : Wd D A s H locs (N) ad (va_up cl (i) (.inr (5, [.ref (ad (i + 1)), .int (x)]))) := w
      generalize e4 : va_up cl (i) (.inr (5, [.ref (ad (i + 1)), .int (x)])) = cl3 at w
      have c5 : cl3 (i) = .inr (5, [.ref (ad (i + 1)), .int (x)]) := by rw [← e4, va_up_self]
      have c6 : cl3 (i + 1) = .inl (G 0, cap, .inl (f)) := by rw [← e4, va_up_ne _ _ (by omega)]; exact hc1
      refine e_V X hr w ⟨ad, cl3, rfl, ?_, fun _ _ _ => rfl, fun k h0 h1 h2 => ?_⟩ (Nat.zero_le _) (Nat.zero_le _) dX5_cut_17
      · rw [rcutL, if_neg h1, if_neg h2, ec]
        have hlt : (xs.take j).length = j := by rw [List.length_take]; omega
        refine ⟨hN, by rw [hlt, ← ej]; exact c5, ⟨f, c6, fun z hz => ?_⟩, by rw [hlt]; omega, hcm, hcM⟩
        rw [hlt] at hz
        rw [hf z (by omega)]; simp [List.getD_eq_getElem?_getD, List.getElem?_take, hz]
      · rw [← e4, va_up_ne _ _ h1]
