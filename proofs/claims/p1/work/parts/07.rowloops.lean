/-! Row: what goes round a loop of puts -/
theorem rm_call {d mc ms n2 : Nat} (hd : 1 ≤ d) (hn : n2 ≤ 41) : (d - 1) + 1 ≤ (rmD d mc ms).frames ∧ 8 + (n2 + 11) + 60 * (d - 1) ≤ (rmD d mc ms).locals := ⟨by show d - 1 + 1 ≤ d; omega, by show _ ≤ 60 * d; omega⟩
def gcapN : Nat → Nat → Nat → Nat
  | cap, _, 0 => cap
  | cap, n, k + 1 => gcapN (gcap cap n) (n + 1) k
def gmcN : Nat → Nat → Nat → Nat
  | _, _, 0 => 0
  | cap, n, k + 1 => gmc cap n + gmcN (gcap cap n) (n + 1) k
def gmsN : Nat → Nat → Nat → Nat
  | _, _, 0 => 0
  | cap, n, k + 1 => gms cap n + gmsN (gcap cap n) (n + 1) k
def pourL (g : Int32 → Int32) : Nat → Int32 → List Int32
  | 0, _ => []
  | k + 1, x => g x :: pourL g k (x + 1)
theorem i32_step {x z : Int32} {k : Nat} (h : (z.toInt - x.toInt).toNat = k + 1) : x < z ∧ (z.toInt - (x + 1).toInt).toNat = k := by
  have hx : x.toInt < z.toInt := by omega
  have h1 := Int32.toInt_lt z
  have h2 := Int32.le_toInt x
  have h3 : (x + 1).toInt = x.toInt + 1 := by
    rw [Int32.toInt_add, show (1 : Int32).toInt = 1 from rfl, Int.bmod_eq_of_le] <;> omega
  exact ⟨Int32.lt_iff_toInt_lt.mpr hx, by omega⟩
theorem i32_stop {x z : Int32} (h : (z.toInt - x.toInt).toNat = 0) : z ≤ x := Int32.le_iff_toInt_le.mpr (by omega)
abbrev cX5_pour : ByteArray := prog_7_method_8_code
def yX5_pour : MethodName := ⟨RX5, "pour", "(LTypeRoom$Row;II)V"⟩
theorem wcX5_pour : Cond.code yX5_pour cX5_pour 5 none ∈ tb := tb_3 (i := 181) rfl rfl
theorem wnX5_pour : Cond.instanceMethod yX5_pour ∈ tb := tb_3 (i := 179) (by decide +kernel) rfl
theorem wlX5_pour : Cond.selects RX5 yX5_pour yX5_pour ∈ tb := tb_3 (i := 180) (by decide +kernel) rfl
theorem YX5_pour : Yv yX5_pour cX5_pour 5 none 3 := ⟨wcX5_pour, wlX5_pour, wnX5_pour, wi_5, by decide +kernel, by decide +kernel, by decide +kernel⟩
theorem dX5_pour_0 : decode cX5_pour 0 = .ok (.iload_n 2, 1) := by decide +kernel
theorem dX5_pour_1 : decode cX5_pour 1 = .ok (.istore 4, 2) := by decide +kernel
theorem dX5_pour_3 : decode cX5_pour 3 = .ok (.iload 4, 2) := by decide +kernel
theorem dX5_pour_5 : decode cX5_pour 5 = .ok (.iload_n 3, 1) := by decide +kernel
theorem dX5_pour_6 : decode cX5_pour 6 = .ok (.if_icmp .ge 19, 3) := by decide +kernel
theorem dX5_pour_9 : decode cX5_pour 9 = .ok (.aload_n 0, 1) := by decide +kernel
theorem dX5_pour_10 : decode cX5_pour 10 = .ok (.aload_n 1, 1) := by decide +kernel
theorem dX5_pour_11 : decode cX5_pour 11 = .ok (.iload 4, 2) := by decide +kernel
theorem dX5_pour_13 : decode cX5_pour 13 = .ok (.invokevirtual 33, 3) := by decide +kernel
theorem dX5_pour_16 : decode cX5_pour 16 = .ok (.invokevirtual 37, 3) := by decide +kernel
theorem dX5_pour_19 : decode cX5_pour 19 = .ok (.iinc 4 1, 3) := by decide +kernel
theorem dX5_pour_22 : decode cX5_pour 22 = .ok (.goto (-19), 3) := by decide +kernel
theorem dX5_pour_25 : decode cX5_pour 25 = .ok (.return_, 1) := by decide +kernel
theorem k_RX5_33 : Cond.methodLink RX5 33 yX5_get ∈ tb := tb_3 (i := 182) (by decide +kernel) rfl
theorem k_RX5_37 : Cond.methodLink RX5 37 yX5_put ∈ tb := tb_3 (i := 186) (by decide +kernel) rfl
abbrev cX5_pourMasked : ByteArray := prog_7_method_9_code
def yX5_pourMasked : MethodName := ⟨RX5, "pourMasked", "(LTypeRoom$Row;III)V"⟩
theorem wcX5_pourMasked : Cond.code yX5_pourMasked cX5_pourMasked 6 none ∈ tb := tb_6 (i := 66) rfl rfl
theorem wnX5_pourMasked : Cond.instanceMethod yX5_pourMasked ∈ tb := tb_6 (i := 64) (by decide +kernel) rfl
theorem wlX5_pourMasked : Cond.selects RX5 yX5_pourMasked yX5_pourMasked ∈ tb := tb_6 (i := 65) (by decide +kernel) rfl
theorem YX5_pourMasked : Yv yX5_pourMasked cX5_pourMasked 6 none 4 := ⟨wcX5_pourMasked, wlX5_pourMasked, wnX5_pourMasked, wi_5, by decide +kernel, by decide +kernel, by decide +kernel⟩
theorem dX5_pourMasked_0 : decode cX5_pourMasked 0 = .ok (.iload_n 2, 1) := by decide +kernel
theorem dX5_pourMasked_1 : decode cX5_pourMasked 1 = .ok (.istore 5, 2) := by decide +kernel
theorem dX5_pourMasked_3 : decode cX5_pourMasked 3 = .ok (.iload 5, 2) := by decide +kernel
theorem dX5_pourMasked_5 : decode cX5_pourMasked 5 = .ok (.iload_n 3, 1) := by decide +kernel
theorem dX5_pourMasked_6 : decode cX5_pourMasked 6 = .ok (.if_icmp .ge 22, 3) := by decide +kernel
theorem dX5_pourMasked_9 : decode cX5_pourMasked 9 = .ok (.aload_n 0, 1) := by decide +kernel
theorem dX5_pourMasked_10 : decode cX5_pourMasked 10 = .ok (.aload_n 1, 1) := by decide +kernel
theorem dX5_pourMasked_11 : decode cX5_pourMasked 11 = .ok (.iload 5, 2) := by decide +kernel
theorem dX5_pourMasked_13 : decode cX5_pourMasked 13 = .ok (.invokevirtual 33, 3) := by decide +kernel
theorem dX5_pourMasked_16 : decode cX5_pourMasked 16 = .ok (.iload 4, 2) := by decide +kernel
theorem dX5_pourMasked_18 : decode cX5_pourMasked 18 = .ok (.iand, 1) := by decide +kernel
theorem dX5_pourMasked_19 : decode cX5_pourMasked 19 = .ok (.invokevirtual 37, 3) := by decide +kernel
theorem dX5_pourMasked_22 : decode cX5_pourMasked 22 = .ok (.iinc 5 1, 3) := by decide +kernel
theorem dX5_pourMasked_25 : decode cX5_pourMasked 25 = .ok (.goto (-22), 3) := by decide +kernel
theorem dX5_pourMasked_28 : decode cX5_pourMasked 28 = .ok (.return_, 1) := by decide +kernel
abbrev cX5_putMany : ByteArray := prog_7_method_10_code
def yX5_putMany : MethodName := ⟨RX5, "putMany", "(II)V"⟩
theorem wcX5_putMany : Cond.code yX5_putMany cX5_putMany 4 none ∈ tb := tb_5 (i := 22) rfl rfl
theorem wnX5_putMany : Cond.instanceMethod yX5_putMany ∈ tb := tb_5 (i := 20) (by decide +kernel) rfl
theorem wlX5_putMany : Cond.selects RX5 yX5_putMany yX5_putMany ∈ tb := tb_5 (i := 21) (by decide +kernel) rfl
theorem YX5_putMany : Yv yX5_putMany cX5_putMany 4 none 2 := ⟨wcX5_putMany, wlX5_putMany, wnX5_putMany, wi_5, by decide +kernel, by decide +kernel, by decide +kernel⟩
theorem dX5_putMany_0 : decode cX5_putMany 0 = .ok (.iconst 0, 1) := by decide +kernel
theorem dX5_putMany_1 : decode cX5_putMany 1 = .ok (.istore_n 3, 1) := by decide +kernel
theorem dX5_putMany_2 : decode cX5_putMany 2 = .ok (.iload_n 3, 1) := by decide +kernel
theorem dX5_putMany_3 : decode cX5_putMany 3 = .ok (.iload_n 2, 1) := by decide +kernel
theorem dX5_putMany_4 : decode cX5_putMany 4 = .ok (.if_icmp .ge 14, 3) := by decide +kernel
theorem dX5_putMany_7 : decode cX5_putMany 7 = .ok (.aload_n 0, 1) := by decide +kernel
theorem dX5_putMany_8 : decode cX5_putMany 8 = .ok (.iload_n 1, 1) := by decide +kernel
theorem dX5_putMany_9 : decode cX5_putMany 9 = .ok (.invokevirtual 37, 3) := by decide +kernel
theorem dX5_putMany_12 : decode cX5_putMany 12 = .ok (.iinc 3 1, 3) := by decide +kernel
theorem dX5_putMany_15 : decode cX5_putMany 15 = .ok (.goto (-13), 3) := by decide +kernel
theorem dX5_putMany_18 : decode cX5_putMany 18 = .ok (.return_, 1) := by decide +kernel
abbrev cX5_copy : ByteArray := prog_7_method_7_code
def yX5_copy : MethodName := ⟨RX5, "copy", "(LTypeRoom$Row;)V"⟩
theorem wcX5_copy : Cond.code yX5_copy cX5_copy 2 none ∈ tb := tb_3 (i := 173) rfl rfl
theorem wnX5_copy : Cond.instanceMethod yX5_copy ∈ tb := tb_3 (i := 171) (by decide +kernel) rfl
theorem wlX5_copy : Cond.selects RX5 yX5_copy yX5_copy ∈ tb := tb_3 (i := 172) (by decide +kernel) rfl
theorem YX5_copy : Yv yX5_copy cX5_copy 2 none 1 := ⟨wcX5_copy, wlX5_copy, wnX5_copy, wi_5, by decide +kernel, by decide +kernel, by decide +kernel⟩
theorem dX5_copy_0 : decode cX5_copy 0 = .ok (.aload_n 0, 1) := by decide +kernel
theorem dX5_copy_1 : decode cX5_copy 1 = .ok (.invokevirtual 26, 3) := by decide +kernel
theorem dX5_copy_4 : decode cX5_copy 4 = .ok (.aload_n 0, 1) := by decide +kernel
theorem dX5_copy_5 : decode cX5_copy 5 = .ok (.aload_n 1, 1) := by decide +kernel
theorem dX5_copy_6 : decode cX5_copy 6 = .ok (.iconst 0, 1) := by decide +kernel
theorem dX5_copy_7 : decode cX5_copy 7 = .ok (.aload_n 1, 1) := by decide +kernel
theorem dX5_copy_8 : decode cX5_copy 8 = .ok (.getfield 15, 3) := by decide +kernel
theorem dX5_copy_11 : decode cX5_copy 11 = .ok (.invokevirtual 29, 3) := by decide +kernel
theorem dX5_copy_14 : decode cX5_copy 14 = .ok (.return_, 1) := by decide +kernel
theorem k_RX5_26 : Cond.methodLink RX5 26 yX5_clear ∈ tb := tb_3 (i := 174) (by decide +kernel) rfl
theorem k_RX5_29 : Cond.methodLink RX5 29 yX5_pour ∈ tb := tb_3 (i := 178) (by decide +kernel) rfl
set_option maxHeartbeats 4000000 in
set_option maxRecDepth 100000 in
theorem lp_X5_pour {p : Program} {l : Launch} {e : Env} {s : State} {m : MethodId} {args : Array Value} {below : List Frame} {meth : Method} {c : Code} {A : Nat → Prop} {D : va_G} {G : Nat → ClassId} {t : Nat → Nat} (X : Cx p s m args meth c cX5_pour 5 RX5 D G t A) (hr : meth.sig.returnType = none) {N i j capj capR mc ms d : Nat} {ys : List Int32} {z : Int32} {ad0 : Nat → Nat} {cl0 : Nat → va_E} {res : List Int32} (hd : 2 ≤ d) (hji : j ≠ i) (hj1 : j ≠ i + 1) (hj2 : j + 1 ≠ i) : ∀ (k : Nat) (ad : Nat → Nat) (cl : Nat → va_E) (cap : Nat) (xs : List Int32) (x : Int32) (H : Heap) (locs : List Loc) (cells slots : Nat) (ls : Array Slot), RowL G N ad cl i cap xs → RowL G N ad cl j capj ys → FrR N i ad0 cl0 ad cl → (z.toInt - x.toInt).toNat = k → xs.length + k ≤ 131072 → xs ++ pourL (rget ys) k x = res → gcapN cap xs.length k = capR → cells + gmcN cap xs.length k = mc → slots + gmsN cap xs.length k = ms → Wd D A s H locs N ad cl → lv_has ls 5 [(4, .int (x)), (0, .ref (ad0 i)), (1, .ref (ad0 j)), (3, .int (z))] → W p l e (rmD d mc ms) s m args below meth c H locs cells slots (MQ below (va_Qv (fun u => ∃ ad' cl', u = (N, ad', cl') ∧ RowL G N ad' cl' i capR res ∧ FrR N i ad0 cl0 ad' cl') (PB D G A) A) args s mc ms A) (F0 m 3 ls []) := by
  obtain ⟨hx, hb, hml, hown, hts, -⟩ := id X
  intro k
  induction k with
  | zero =>
    intro ad cl cap xs x H locs cells slots ls hR hRj hF hk hlen hres hcap hmc hms w hl
    refine lv_iload hx hb dX5_pour_3 (lv_at hl 0 rfl) ?_
    refine lv_iload_n hx hb dX5_pour_5 rfl (lv_at hl 3 rfl) ?_
    refine lv_icmp_ge (tgt := 25) hx hb dX5_pour_6 (by decide) (fun h1 => ?_) (fun h1 => absurd (i32_stop hk) h1)
    refine e_V X hr w ⟨ad, cl, rfl, ?_, hF⟩ (by simp only [gmcN] at hmc; omega) (by simp only [gmsN] at hms; omega) dX5_pour_25
    rw [← hcap, ← hres]
    show RowL G N ad cl i cap (xs ++ [])
    rw [List.append_nil]
    exact hR
  | succ k ih =>
    intro ad cl cap xs x H locs cells slots ls hR hRj hF hk hlen hres hcap hmc hms w hl
    obtain ⟨hxz, hk2⟩ := i32_step hk
    have hai : ad i = ad0 i := hF.1 i (by have := hR.1; omega) (by omega)
    have haj : ad j = ad0 j := hF.1 j (by have := hRj.1; omega) hj1
    refine lv_iload hx hb dX5_pour_3 (lv_at hl 0 rfl) ?_
    refine lv_iload_n hx hb dX5_pour_5 rfl (lv_at hl 3 rfl) ?_
    refine lv_icmp_ge (tgt := 25) hx hb dX5_pour_6 (by decide) (fun h2 => absurd h2 (Int32.not_le.mpr hxz)) (fun h2 => ?_)
    refine lv_aload_n hx hb dX5_pour_9 rfl (lv_at hl 1 rfl) ?_
    refine lv_aload_n hx hb dX5_pour_10 rfl (lv_at hl 2 rfl) ?_
    refine lv_iload hx hb dX5_pour_11 (lv_at hl 0 rfl) ?_
    refine c_I (As := [.int (x)]) (rest := [.ref (ad0 i)]) X w (ct_X5_get l D G t N ad cl j capj ys hRj (x) (d - 1)) YX5_get k_RX5_33 (j) haj (by have := hRj.1; omega) hRj.2.1 kc5 (by rw [haj]) rfl rfl hl.1 (rm_call (by omega) (by decide)) (Nat.le_of_ble_eq_true rfl) dX5_pour_13 (⟨by show cells + 0 ≤ mc; omega, by show slots + 0 ≤ ms; omega⟩) (fun r u H locs hp w => ?_)
    obtain ⟨rfl, rfl⟩ := hp
    have w : Wd D A s H locs N ad cl := w
    refine c_V (As := [.int (rget ys (x))]) (rest := []) X w (ct_X5_put l D G t N ad cl i cap xs hR (rget ys (x)) (by omega) (d - 1) (by omega)) YX5_put k_RX5_37 (i) hai (by have := hR.1; omega) hR.2.1 kc5 (by rw [hai]) rfl rfl hl.1 (rm_call (by omega) (by decide)) (Nat.le_of_ble_eq_true rfl) dX5_pour_16 (⟨by show cells + _ ≤ mc; rw [← hmc]; simp only [gmcN]; omega, by show slots + _ ≤ ms; rw [← hms]; simp only [gmsN]; omega⟩) (fun u H locs hp w => ?_)
    obtain ⟨ad2, cl2, rfl, hR2, hF2⟩ := hp
    have hRj2 := hRj.fr hF2 (Nat.le_refl _) hji hj1 hj2
    refine lv_iinc (v := x + 1) (lv' := [(4, .int (x + 1)), (0, .ref (ad0 i)), (1, .ref (ad0 j)), (3, .int (z))]) hx hb dX5_pour_19 hl (k := 0) rfl (rfl) (by decide) rfl (fun ls hl => ?_)
    refine lv_goto (tgt := 3) hx hb dX5_pour_22 (by decide) ?_
    exact ih _ _ _ _ _ _ _ _ _ _ hR2 hRj2 (hF.tr hF2) hk2 (by rw [List.length_append]; simp; omega) (by rw [← hres, List.append_assoc]; rfl) (by rw [← hcap, List.length_append]; rfl) (by rw [← hmc, List.length_append]; simp only [gmcN, List.length_cons, List.length_nil, Nat.zero_add]; omega) (by rw [← hms, List.length_append]; simp only [gmsN, List.length_cons, List.length_nil, Nat.zero_add]; omega) w (lv_sub hl [0, 1, 2, 3] rfl)
set_option maxHeartbeats 4000000 in
set_option maxRecDepth 100000 in
theorem ct_X5_pour (l : Launch) (D : va_G) (G : Nat → ClassId) (t : Nat → Nat) (N : Nat) (ad : Nat → Nat) (cl : Nat → va_E) (i cap : Nat) (xs : List Int32) (hR : RowL G N ad cl i cap xs) (j capj : Nat) (ys : List Int32) (hRj : RowL G N ad cl j capj ys) (hji : j ≠ i) (hj1 : j ≠ i + 1) (hj2 : j + 1 ≠ i) (x z : Int32) (hlen : xs.length + (z.toInt - x.toInt).toNat ≤ 131072) (d : Nat) (hd : 2 ≤ d) : CtV l yX5_pour cX5_pour 5 (rmD d (gmcN cap xs.length (z.toInt - x.toInt).toNat) (gmsN cap xs.length (z.toInt - x.toInt).toNat)) D G t (N, ad, cl) [.ref (ad i), .ref (ad j), .int x, .int z] (fun u => ∃ ad' cl', u = (N, ad', cl') ∧ RowL G N ad' cl' i (gcapN cap xs.length (z.toInt - x.toInt).toNat) (xs ++ pourL (rget ys) (z.toInt - x.toInt).toNat x) ∧ FrR N i ad cl ad' cl') := by
  refine ct_V (own := RX5) (by decide +kernel) rfl (Nat.le_of_ble_eq_true rfl) rfl ?_
  intro p e s m args below meth c A ls X hr hin hl w
  obtain ⟨hx, hb, hml, hown, hts, -⟩ := id X
  have hl : lv_has ls 5 [(0, .ref (ad (i))), (1, .ref (ad (j))), (2, .int (x)), (3, .int (z))] := hl
  refine lv_iload_n hx hb dX5_pour_0 rfl (lv_at hl 2 rfl) ?_
  refine lv_istore (lv' := [(4, .int (x)), (0, .ref (ad (i))), (1, .ref (ad (j))), (2, .int (x)), (3, .int (z))]) hx hb dX5_pour_1 hl (by decide) rfl (fun ls hl => ?_)
  exact lp_X5_pour X hr hd hji hj1 hj2 _ _ _ _ _ _ _ _ _ _ _ hR hRj FrR.rf rfl hlen rfl rfl (Nat.zero_add _) (Nat.zero_add _) w (lv_sub hl [0, 1, 2, 4] rfl)
set_option maxHeartbeats 4000000 in
set_option maxRecDepth 100000 in
theorem lp_X5_pourMasked {p : Program} {l : Launch} {e : Env} {s : State} {m : MethodId} {args : Array Value} {below : List Frame} {meth : Method} {c : Code} {A : Nat → Prop} {D : va_G} {G : Nat → ClassId} {t : Nat → Nat} (X : Cx p s m args meth c cX5_pourMasked 6 RX5 D G t A) (hr : meth.sig.returnType = none) {N i j capj capR mc ms d : Nat} {ys : List Int32} {z : Int32} {b : Int32} {ad0 : Nat → Nat} {cl0 : Nat → va_E} {res : List Int32} (hd : 2 ≤ d) (hji : j ≠ i) (hj1 : j ≠ i + 1) (hj2 : j + 1 ≠ i) : ∀ (k : Nat) (ad : Nat → Nat) (cl : Nat → va_E) (cap : Nat) (xs : List Int32) (x : Int32) (H : Heap) (locs : List Loc) (cells slots : Nat) (ls : Array Slot), RowL G N ad cl i cap xs → RowL G N ad cl j capj ys → FrR N i ad0 cl0 ad cl → (z.toInt - x.toInt).toNat = k → xs.length + k ≤ 131072 → xs ++ pourL (fun y => rget ys y &&& b) k x = res → gcapN cap xs.length k = capR → cells + gmcN cap xs.length k = mc → slots + gmsN cap xs.length k = ms → Wd D A s H locs N ad cl → lv_has ls 6 [(5, .int (x)), (0, .ref (ad0 i)), (1, .ref (ad0 j)), (3, .int (z)), (4, .int (b))] → W p l e (rmD d mc ms) s m args below meth c H locs cells slots (MQ below (va_Qv (fun u => ∃ ad' cl', u = (N, ad', cl') ∧ RowL G N ad' cl' i capR res ∧ FrR N i ad0 cl0 ad' cl') (PB D G A) A) args s mc ms A) (F0 m 3 ls []) := by
  obtain ⟨hx, hb, hml, hown, hts, -⟩ := id X
  intro k
  induction k with
  | zero =>
    intro ad cl cap xs x H locs cells slots ls hR hRj hF hk hlen hres hcap hmc hms w hl
    refine lv_iload hx hb dX5_pourMasked_3 (lv_at hl 0 rfl) ?_
    refine lv_iload_n hx hb dX5_pourMasked_5 rfl (lv_at hl 3 rfl) ?_
    refine lv_icmp_ge (tgt := 28) hx hb dX5_pourMasked_6 (by decide) (fun h1 => ?_) (fun h1 => absurd (i32_stop hk) h1)
    refine e_V X hr w ⟨ad, cl, rfl, ?_, hF⟩ (by simp only [gmcN] at hmc; omega) (by simp only [gmsN] at hms; omega) dX5_pourMasked_28
    rw [← hcap, ← hres]
    show RowL G N ad cl i cap (xs ++ [])
    rw [List.append_nil]
    exact hR
  | succ k ih =>
    intro ad cl cap xs x H locs cells slots ls hR hRj hF hk hlen hres hcap hmc hms w hl
    obtain ⟨hxz, hk2⟩ := i32_step hk
    have hai : ad i = ad0 i := hF.1 i (by have := hR.1; omega) (by omega)
    have haj : ad j = ad0 j := hF.1 j (by have := hRj.1; omega) hj1
    refine lv_iload hx hb dX5_pourMasked_3 (lv_at hl 0 rfl) ?_
    refine lv_iload_n hx hb dX5_pourMasked_5 rfl (lv_at hl 3 rfl) ?_
    refine lv_icmp_ge (tgt := 28) hx hb dX5_pourMasked_6 (by decide) (fun h2 => absurd h2 (Int32.not_le.mpr hxz)) (fun h2 => ?_)
    refine lv_aload_n hx hb dX5_pourMasked_9 rfl (lv_at hl 1 rfl) ?_
    refine lv_aload_n hx hb dX5_pourMasked_10 rfl (lv_at hl 2 rfl) ?_
    refine lv_iload hx hb dX5_pourMasked_11 (lv_at hl 0 rfl) ?_
    refine c_I (As := [.int (x)]) (rest := [.ref (ad0 i)]) X w (ct_X5_get l D G t N ad cl j capj ys hRj (x) (d - 1)) YX5_get k_RX5_33 (j) haj (by have := hRj.1; omega) hRj.2.1 kc5 (by rw [haj]) rfl rfl hl.1 (rm_call (by omega) (by decide)) (Nat.le_of_ble_eq_true rfl) dX5_pourMasked_13 (⟨by show cells + 0 ≤ mc; omega, by show slots + 0 ≤ ms; omega⟩) (fun r u H locs hp w => ?_)
    obtain ⟨rfl, rfl⟩ := hp
    have w : Wd D A s H locs N ad cl := w
    refine lv_iload hx hb dX5_pourMasked_16 (lv_at hl 4 rfl) ?_
    refine lv_iand hx hb dX5_pourMasked_18 ?_
    refine c_V (As := [.int ((rget ys (x)) &&& b)]) (rest := []) X w (ct_X5_put l D G t N ad cl i cap xs hR ((rget ys (x)) &&& b) (by omega) (d - 1) (by omega)) YX5_put k_RX5_37 (i) hai (by have := hR.1; omega) hR.2.1 kc5 (by rw [hai]) rfl rfl hl.1 (rm_call (by omega) (by decide)) (Nat.le_of_ble_eq_true rfl) dX5_pourMasked_19 (⟨by show cells + _ ≤ mc; rw [← hmc]; simp only [gmcN]; omega, by show slots + _ ≤ ms; rw [← hms]; simp only [gmsN]; omega⟩) (fun u H locs hp w => ?_)
    obtain ⟨ad2, cl2, rfl, hR2, hF2⟩ := hp
    have hRj2 := hRj.fr hF2 (Nat.le_refl _) hji hj1 hj2
    refine lv_iinc (v := x + 1) (lv' := [(5, .int (x + 1)), (0, .ref (ad0 i)), (1, .ref (ad0 j)), (3, .int (z)), (4, .int (b))]) hx hb dX5_pourMasked_22 hl (k := 0) rfl (rfl) (by decide) rfl (fun ls hl => ?_)
    refine lv_goto (tgt := 3) hx hb dX5_pourMasked_25 (by decide) ?_
    exact ih _ _ _ _ _ _ _ _ _ _ hR2 hRj2 (hF.tr hF2) hk2 (by rw [List.length_append]; simp; omega) (by rw [← hres, List.append_assoc]; rfl) (by rw [← hcap, List.length_append]; rfl) (by rw [← hmc, List.length_append]; simp only [gmcN, List.length_cons, List.length_nil, Nat.zero_add]; omega) (by rw [← hms, List.length_append]; simp only [gmsN, List.length_cons, List.length_nil, Nat.zero_add]; omega) w (lv_sub hl [0, 1, 2, 3, 4] rfl)
set_option maxHeartbeats 4000000 in
set_option maxRecDepth 100000 in
theorem ct_X5_pourMasked (l : Launch) (D : va_G) (G : Nat → ClassId) (t : Nat → Nat) (N : Nat) (ad : Nat → Nat) (cl : Nat → va_E) (i cap : Nat) (xs : List Int32) (hR : RowL G N ad cl i cap xs) (j capj : Nat) (ys : List Int32) (hRj : RowL G N ad cl j capj ys) (hji : j ≠ i) (hj1 : j ≠ i + 1) (hj2 : j + 1 ≠ i) (x z b : Int32) (hlen : xs.length + (z.toInt - x.toInt).toNat ≤ 131072) (d : Nat) (hd : 2 ≤ d) : CtV l yX5_pourMasked cX5_pourMasked 6 (rmD d (gmcN cap xs.length (z.toInt - x.toInt).toNat) (gmsN cap xs.length (z.toInt - x.toInt).toNat)) D G t (N, ad, cl) [.ref (ad i), .ref (ad j), .int x, .int z, .int b] (fun u => ∃ ad' cl', u = (N, ad', cl') ∧ RowL G N ad' cl' i (gcapN cap xs.length (z.toInt - x.toInt).toNat) (xs ++ pourL (fun y => rget ys y &&& b) (z.toInt - x.toInt).toNat x) ∧ FrR N i ad cl ad' cl') := by
  refine ct_V (own := RX5) (by decide +kernel) rfl (Nat.le_of_ble_eq_true rfl) rfl ?_
  intro p e s m args below meth c A ls X hr hin hl w
  obtain ⟨hx, hb, hml, hown, hts, -⟩ := id X
  have hl : lv_has ls 6 [(0, .ref (ad (i))), (1, .ref (ad (j))), (2, .int (x)), (3, .int (z)), (4, .int (b))] := hl
  refine lv_iload_n hx hb dX5_pourMasked_0 rfl (lv_at hl 2 rfl) ?_
  refine lv_istore (lv' := [(5, .int (x)), (0, .ref (ad (i))), (1, .ref (ad (j))), (2, .int (x)), (3, .int (z)), (4, .int (b))]) hx hb dX5_pourMasked_1 hl (by decide) rfl (fun ls hl => ?_)
  exact lp_X5_pourMasked X hr hd hji hj1 hj2 _ _ _ _ _ _ _ _ _ _ _ hR hRj FrR.rf rfl hlen rfl rfl (Nat.zero_add _) (Nat.zero_add _) w (lv_sub hl [0, 1, 2, 4, 5] rfl)
set_option maxHeartbeats 4000000 in
set_option maxRecDepth 100000 in
theorem lp_X5_putMany {p : Program} {l : Launch} {e : Env} {s : State} {m : MethodId} {args : Array Value} {below : List Frame} {meth : Method} {c : Code} {A : Nat → Prop} {D : va_G} {G : Nat → ClassId} {t : Nat → Nat} (X : Cx p s m args meth c cX5_putMany 4 RX5 D G t A) (hr : meth.sig.returnType = none) {N i capR mc ms d : Nat} {z : Int32} {v : Int32} {ad0 : Nat → Nat} {cl0 : Nat → va_E} {res : List Int32} (hd : 2 ≤ d) : ∀ (k : Nat) (ad : Nat → Nat) (cl : Nat → va_E) (cap : Nat) (xs : List Int32) (x : Int32) (H : Heap) (locs : List Loc) (cells slots : Nat) (ls : Array Slot), RowL G N ad cl i cap xs → FrR N i ad0 cl0 ad cl → (z.toInt - x.toInt).toNat = k → xs.length + k ≤ 131072 → xs ++ pourL (fun _ => v) k x = res → gcapN cap xs.length k = capR → cells + gmcN cap xs.length k = mc → slots + gmsN cap xs.length k = ms → Wd D A s H locs N ad cl → lv_has ls 4 [(3, .int (x)), (0, .ref (ad0 i)), (1, .int (v)), (2, .int (z))] → W p l e (rmD d mc ms) s m args below meth c H locs cells slots (MQ below (va_Qv (fun u => ∃ ad' cl', u = (N, ad', cl') ∧ RowL G N ad' cl' i capR res ∧ FrR N i ad0 cl0 ad' cl') (PB D G A) A) args s mc ms A) (F0 m 2 ls []) := by
  obtain ⟨hx, hb, hml, hown, hts, -⟩ := id X
  intro k
  induction k with
  | zero =>
    intro ad cl cap xs x H locs cells slots ls hR hF hk hlen hres hcap hmc hms w hl
    refine lv_iload_n hx hb dX5_putMany_2 rfl (lv_at hl 0 rfl) ?_
    refine lv_iload_n hx hb dX5_putMany_3 rfl (lv_at hl 3 rfl) ?_
    refine lv_icmp_ge (tgt := 18) hx hb dX5_putMany_4 (by decide) (fun h1 => ?_) (fun h1 => absurd (i32_stop hk) h1)
    refine e_V X hr w ⟨ad, cl, rfl, ?_, hF⟩ (by simp only [gmcN] at hmc; omega) (by simp only [gmsN] at hms; omega) dX5_putMany_18
    rw [← hcap, ← hres]
    show RowL G N ad cl i cap (xs ++ [])
    rw [List.append_nil]
    exact hR
  | succ k ih =>
    intro ad cl cap xs x H locs cells slots ls hR hF hk hlen hres hcap hmc hms w hl
    obtain ⟨hxz, hk2⟩ := i32_step hk
    have hai : ad i = ad0 i := hF.1 i (by have := hR.1; omega) (by omega)
    refine lv_iload_n hx hb dX5_putMany_2 rfl (lv_at hl 0 rfl) ?_
    refine lv_iload_n hx hb dX5_putMany_3 rfl (lv_at hl 3 rfl) ?_
    refine lv_icmp_ge (tgt := 18) hx hb dX5_putMany_4 (by decide) (fun h2 => absurd h2 (Int32.not_le.mpr hxz)) (fun h2 => ?_)
    refine lv_aload_n hx hb dX5_putMany_7 rfl (lv_at hl 1 rfl) ?_
    refine lv_iload_n hx hb dX5_putMany_8 rfl (lv_at hl 2 rfl) ?_
    refine c_V (As := [.int (v)]) (rest := []) X w (ct_X5_put l D G t N ad cl i cap xs hR (v) (by omega) (d - 1) (by omega)) YX5_put k_RX5_37 (i) hai (by have := hR.1; omega) hR.2.1 kc5 (by rw [hai]) rfl rfl hl.1 (rm_call (by omega) (by decide)) (Nat.le_of_ble_eq_true rfl) dX5_putMany_9 (⟨by show cells + _ ≤ mc; rw [← hmc]; simp only [gmcN]; omega, by show slots + _ ≤ ms; rw [← hms]; simp only [gmsN]; omega⟩) (fun u H locs hp w => ?_)
    obtain ⟨ad2, cl2, rfl, hR2, hF2⟩ := hp
    refine lv_iinc (v := x + 1) (lv' := [(3, .int (x + 1)), (0, .ref (ad0 i)), (1, .int (v)), (2, .int (z))]) hx hb dX5_putMany_12 hl (k := 0) rfl (rfl) (by decide) rfl (fun ls hl => ?_)
    refine lv_goto (tgt := 2) hx hb dX5_putMany_15 (by decide) ?_
    exact ih _ _ _ _ _ _ _ _ _ _ hR2 (hF.tr hF2) hk2 (by rw [List.length_append]; simp; omega) (by rw [← hres, List.append_assoc]; rfl) (by rw [← hcap, List.length_append]; rfl) (by rw [← hmc, List.length_append]; simp only [gmcN, List.length_cons, List.length_nil, Nat.zero_add]; omega) (by rw [← hms, List.length_append]; simp only [gmsN, List.length_cons, List.length_nil, Nat.zero_add]; omega) w (lv_sub hl [0, 1, 2, 3] rfl)
set_option maxHeartbeats 4000000 in
set_option maxRecDepth 100000 in
theorem ct_X5_putMany (l : Launch) (D : va_G) (G : Nat → ClassId) (t : Nat → Nat) (N : Nat) (ad : Nat → Nat) (cl : Nat → va_E) (i cap : Nat) (xs : List Int32) (hR : RowL G N ad cl i cap xs) (v z : Int32) (hlen : xs.length + (z.toInt - (0 : Int32).toInt).toNat ≤ 131072) (d : Nat) (hd : 2 ≤ d) : CtV l yX5_putMany cX5_putMany 4 (rmD d (gmcN cap xs.length (z.toInt - (0 : Int32).toInt).toNat) (gmsN cap xs.length (z.toInt - (0 : Int32).toInt).toNat)) D G t (N, ad, cl) [.ref (ad i), .int v, .int z] (fun u => ∃ ad' cl', u = (N, ad', cl') ∧ RowL G N ad' cl' i (gcapN cap xs.length (z.toInt - (0 : Int32).toInt).toNat) (xs ++ pourL (fun _ => v) (z.toInt - (0 : Int32).toInt).toNat 0) ∧ FrR N i ad cl ad' cl') := by
  refine ct_V (own := RX5) (by decide +kernel) rfl (Nat.le_of_ble_eq_true rfl) rfl ?_
  intro p e s m args below meth c A ls X hr hin hl w
  obtain ⟨hx, hb, hml, hown, hts, -⟩ := id X
  have hl : lv_has ls 4 [(0, .ref (ad (i))), (1, .int (v)), (2, .int (z))] := hl
  refine lv_iconst (v := 0) hx hb dX5_putMany_0 (by decide) ?_
  refine lv_istore_n (lv' := [(3, .int (0)), (0, .ref (ad (i))), (1, .int (v)), (2, .int (z))]) hx hb dX5_putMany_1 rfl hl (by decide) rfl (fun ls hl => ?_)
  exact lp_X5_putMany X hr hd  _ _ _ _ _ _ _ _ _ _ _ hR FrR.rf rfl hlen rfl rfl (Nat.zero_add _) (Nat.zero_add _) w (lv_sub hl [0, 1, 2, 3] rfl)
theorem pourL_len {g : Int32 → Int32} : ∀ (k : Nat) (x : Int32), (pourL g k x).length = k
  | 0, _ => rfl
  | k + 1, x => by rw [pourL, List.length_cons, pourL_len k]
theorem pourL_at {ys : List Int32} (hl : ys.length < 2 ^ 31) : ∀ (k a : Nat), a + k ≤ ys.length → pourL (rget ys) k (nI a) = (ys.drop a).take k
  | 0, a, _ => by simp [pourL]
  | k + 1, a, h => by
    rw [pourL, nI_1, pourL_at hl k (a + 1) (by omega), rget_at (by omega) hl]
    have h1 : a < ys.length := by omega
    rw [List.drop_eq_getElem_cons h1, List.take_succ_cons]
    simp [List.getD_eq_getElem?_getD, h1]
theorem pourL_all {ys : List Int32} (hl : ys.length < 2 ^ 31) : pourL (rget ys) ys.length 0 = ys := by
  rw [← nI_0, pourL_at hl _ 0 (by omega), List.drop_zero, List.take_length]
theorem nI_sub0 {n : Nat} (h : n < 2 ^ 31) : ((nI n).toInt - (0 : Int32).toInt).toNat = n := by rw [nI_toInt h, show (0 : Int32).toInt = 0 from rfl]; omega
set_option maxHeartbeats 4000000 in
set_option maxRecDepth 100000 in
theorem ct_X5_copy (l : Launch) (D : va_G) (G : Nat → ClassId) (t : Nat → Nat) (N : Nat) (ad : Nat → Nat) (cl : Nat → va_E) (i cap : Nat) (xs : List Int32) (hR : RowL G N ad cl i cap xs) (j capj : Nat) (ys : List Int32) (hRj : RowL G N ad cl j capj ys) (hji : j ≠ i) (hj1 : j ≠ i + 1) (hj2 : j + 1 ≠ i) (hlen : ys.length ≤ 131072) (d : Nat) (hd : 3 ≤ d) : CtV l yX5_copy cX5_copy 2 (rmD d (gmcN cap 0 ys.length) (gmsN cap 0 ys.length)) D G t (N, ad, cl) [.ref (ad i), .ref (ad j)] (fun u => ∃ ad' cl', u = (N, ad', cl') ∧ RowL G N ad' cl' i (gcapN cap 0 ys.length) ys ∧ FrR N i ad cl ad' cl') := by
  refine ct_V (own := RX5) (by decide +kernel) rfl (Nat.le_of_ble_eq_true rfl) rfl ?_
  intro p e s m args below meth c A ls X hr hin hl w
  obtain ⟨hx, hb, hml, hown, hts, -⟩ := id X
  have hl : lv_has ls 2 [(0, .ref (ad (i))), (1, .ref (ad (j)))] := hl
  refine lv_aload_n hx hb dX5_copy_0 rfl (lv_at hl 0 rfl) ?_
  refine c_V (As := []) (rest := []) X w (ct_X5_clear l D G t N ad cl i cap xs hR (d - 1)) YX5_clear k_RX5_26 (i) rfl (by have := hR.1; omega) hR.2.1 kc5 (rfl) rfl rfl hl.1 (rm_call (by omega) (by decide)) (Nat.le_of_ble_eq_true rfl) dX5_copy_1 (⟨Nat.zero_le _, Nat.zero_le _⟩) (fun u H locs hp w => ?_)
  obtain ⟨ad2, cl2, rfl, hR2, hF2⟩ := hp
  have w : Wd D A s H locs N ad2 cl2 := w
  have hRj2 := hRj.fr hF2 (Nat.le_refl _) hji hj1 hj2
  have hai : ad2 i = ad i := hF2.1 i (by have := hR.1; omega) (by omega)
  have haj : ad2 j = ad j := hF2.1 j (by have := hRj.1; omega) hj1
  refine lv_aload_n hx hb dX5_copy_4 rfl (lv_at hl 0 rfl) ?_
  refine lv_aload_n hx hb dX5_copy_5 rfl (lv_at hl 1 rfl) ?_
  refine lv_iconst (v := 0) hx hb dX5_copy_6 (by decide) ?_
  refine lv_aload_n hx hb dX5_copy_7 rfl (lv_at hl 1 rfl) ?_
  refine g_get X w (j) haj (by have := hRj.1; omega) hRj2.2.1 kc5 1 (by decide) rfl k_RX5_15 rfl dX5_copy_8 ?_
  refine c_V (As := [.ref (ad (j)), .int (0), .int (nI ys.length)]) (rest := []) X w (ct_X5_pour l D G t N ad2 cl2 i cap [] hR2 j capj ys hRj2 hji hj1 hj2 0 (nI ys.length) (by rw [nI_sub0 (by omega)]; show 0 + _ ≤ _; omega) (d - 1) (by omega)) YX5_pour k_RX5_29 (i) hai (by have := hR.1; omega) hR2.2.1 kc5 (by rw [hai, haj]) rfl rfl hl.1 (rm_call (by omega) (by decide)) (Nat.le_of_ble_eq_true rfl) dX5_copy_11 (⟨by rw [nI_sub0 (by omega)]; show 0 + 0 + gmcN cap 0 ys.length ≤ gmcN cap 0 ys.length; omega, by rw [nI_sub0 (by omega)]; show 0 + 0 + gmsN cap 0 ys.length ≤ gmsN cap 0 ys.length; omega⟩) (fun u H locs hp w => ?_)
  obtain ⟨ad3, cl3, rfl, hR3, hF3⟩ := hp
  have w : Wd D A s H locs N ad3 cl3 := w
  rw [nI_sub0 (by omega)] at hR3
  rw [nI_sub0 (by omega)]
  rw [List.nil_append, pourL_all (by omega)] at hR3
  exact e_V X hr w ⟨ad3, cl3, rfl, hR3, hF2.tr hF3⟩ (by show 0 + 0 + gmcN cap 0 ys.length ≤ gmcN cap 0 ys.length; omega) (by show 0 + 0 + gmsN cap 0 ys.length ≤ gmsN cap 0 ys.length; omega) dX5_copy_14
