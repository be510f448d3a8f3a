/-! TypeRoom$Row: a row of numbers. Row i of the pool: its object is cell i, its array cell i + 1 -/
theorem wo_oi : Cond.instanceMethod Lib.objectInit ∈ tb := tb_1 (i := 32) (by decide +kernel) rfl
theorem wo_oc : Cond.code Lib.objectInit ⟨#[0xb1]⟩ 1 none ∈ tb := tb_1 (i := 33) (by decide +kernel) rfl
theorem wa_I : Cond.arrayClass .int ∈ tb := tb_1 (i := 57) (by decide +kernel) rfl
theorem wo_copy : Cond.methodLink RX5 20 arraycopyName ∈ tb := tb_3 (i := 161) (by decide +kernel) rfl
theorem wo_nat : Cond.native arraycopyName ∈ tb := tb_1 (i := 88) (by decide +kernel) rfl
theorem wo_sta : Cond.static arraycopyName ∈ tb := tb_1 (i := 87) (by decide +kernel) rfl
theorem wo_ini : Cond.initialized "java/lang/System" ∈ tb := tb_1 (i := 5) (by decide +kernel) rfl
section
variable {p : Program} {l : Launch} {e : Env} {R : Room} {s : State} {m : MethodId} {args : Array Value} {below : List Frame} {meth : Method} {c : Code} {H : Heap} {locs : List Loc} {cells slots : Nat} {Q : State → Prop} {pc : Nat} {ls : Array Slot} {rest : List Value}
variable {cc : ByteArray} {nL : Nat} {own : String} {D : va_G} {G : Nat → ClassId} {t : Nat → Nat} {A : Nat → Prop} {N : Nat} {ad : Nat → Nat} {cl : Nat → va_E}
theorem lv_eqi {x y : Int32} (h : x = y) (k : W p l e R s m args below meth c H locs cells slots Q (F0 m pc ls (.int y :: rest))) : W p l e R s m args below meth c H locs cells slots Q (F0 m pc ls (.int x :: rest)) := by rw [h]; exact k
theorem g_oinit (X : Cx p s m args meth c cc nL own D G t A) (hls : ls.size = nL) {idx a : Nat} (hl : Cond.methodLink own idx Lib.objectInit ∈ tb) (hdg : decode cc pc = .ok (.invokespecial idx, 3)) (h8 : (rest.map fun v => v.category).sum ≤ 8) (hR : 1 ≤ R.frames ∧ 20 ≤ R.locals) (kk : W p l e R s m args below meth c H locs cells slots Q (F0 m (pc + 3) ls rest)) : W p l e R s m args below meth c H locs cells slots Q (F0 m pc ls (.ref a :: rest)) := by
  obtain ⟨hx, hb, hml, hown, hts, -⟩ := id X
  exact W.objInit hx hb hown (hts _ hl) (hts _ wo_oi) (hts _ wo_oc) rfl (hls.trans hml.symm) rfl hdg hR.1 (by have := lv_room (m := m) (pc := pc) (ls := ls) (rest := rest) h8; have h3 := hR.2; show 2 * (F0 m pc ls (.ref a :: rest)).monitorRoom + _ + 12 ≤ _; have h4 : (F0 m pc ls (.ref a :: rest)).monitorRoom = (F0 m pc ls rest).monitorRoom := rfl; rw [h4]; omega) kk
theorem nfw : nativeFrameWords "java/lang/System" "arraycopy" 5 + 11 ≤ 52 := by decide +kernel
theorem g_copyI (X : Cx p s m args meth c cc nL own D G t A) (w : Wd D A s H locs N ad cl) (hls : ls.size = nL) {idx : Nat} (hl : Cond.methodLink own idx arraycopyName ∈ tb) (i j : Nat) {a b : Nat} (ha : ad i = a) (hb' : ad j = b) (hi : i < N) (hj : j < N) {n0 n1 : Nat} {f g : Nat → Int32} (hc0 : cl i = .inl (G 0, n0, .inl f)) (hc1 : cl j = .inl (G 0, n1, .inl g)) {sp dp n : Int32} (k0 k1 k2 : Nat) (e0 : sp = nI k0) (e1 : dp = nI k1) (e2 : n = nI k2) (h0 : k0 + k2 ≤ n0) (h1 : k1 + k2 ≤ n1) (hb0 : n0 < 2 ^ 30) (hb1 : n1 < 2 ^ 30) (h8 : (rest.map fun v => v.category).sum ≤ 8) (hR : 1 ≤ R.frames ∧ 60 ≤ R.locals) (hdg : decode cc pc = .ok (.invokestatic idx, 3))
    (kk : ∀ (H : Heap) (locs : List Loc), Wd D A s H locs N ad (va_up cl j (.inl (G 0, n1, .inl (va_cpy f g k0 k1 k2)))) → W p l e R s m args below meth c H locs cells slots Q (F0 m (pc + 3) ls rest)) : W p l e R s m args below meth c H locs cells slots Q (F0 m pc ls (.int n :: .int dp :: .ref b :: .int sp :: .ref a :: rest)) := by
  subst ha; subst hb'; subst e0; subst e1; subst e2
  obtain ⟨hx, hb, hml, hown, hts, hK, -⟩ := id X
  have q0 : (nI k0).toNatClampNeg = k0 := nI_clamp (by omega)
  have q1 : (nI k1).toNatClampNeg = k1 := nI_clamp (by omega)
  have q2 : (nI k2).toNatClampNeg = k2 := nI_clamp (by omega)
  refine va_copyi (rest := rest) (sp := nI k0) (dp := nI k1) (n := nI k2) (ty := .int) hx hb (hml.trans hls.symm) hown (hts _ hl) (hts _ wo_nat) (hts _ wo_sta) (hts _ wo_ini) hK w.1 w.2.1 w.2.2 i j 0 0 (by rw [wd_get hi, hc0]) (by rw [wd_get hj, hc1]) rfl rfl rfl (nI_pos (by omega)) (nI_pos (by omega)) (nI_pos (by omega)) (by rw [q0, q2]; exact h0) (by rw [q1, q2]; exact h1) (fun _ _ => rfl) hR.1 (Nat.le_trans (Nat.add_le_add h8 nfw) hR.2) hdg (fun H1 l1 h1 h2 h3 => kk H1 l1 ⟨?_, ?_, h3⟩)
  · rw [wd_set hj, q0, q1, q2] at h1; exact h1
  · rw [wd_set hj, q0, q1, q2] at h2; exact h2
end
def RowL (G : Nat → ClassId) (N : Nat) (ad : Nat → Nat) (cl : Nat → va_E) (i cap : Nat) (xs : List Int32) : Prop :=
  i + 1 < N ∧ cl i = .inr (5, [.ref (ad (i + 1)), .int (nI xs.length)]) ∧ (∃ f : Nat → Int32, cl (i + 1) = .inl (G 0, cap, .inl f) ∧ ∀ j, j < xs.length → f j = xs.getD j 0) ∧ xs.length ≤ cap ∧ 16 ≤ cap ∧ cap ≤ 262144
/-- nothing has changed but row i -/
def FrR (N i : Nat) (ad : Nat → Nat) (cl : Nat → va_E) (ad' : Nat → Nat) (cl' : Nat → va_E) : Prop := (∀ k, k < N → k ≠ i + 1 → ad' k = ad k) ∧ ∀ k, k < N → k ≠ i → k ≠ i + 1 → cl' k = cl k
theorem FrR.rf {N i : Nat} {ad : Nat → Nat} {cl : Nat → va_E} : FrR N i ad cl ad cl := ⟨fun _ _ _ => rfl, fun _ _ _ _ => rfl⟩
theorem FrR.tr {N i : Nat} {ad ad1 ad2 : Nat → Nat} {cl cl1 cl2 : Nat → va_E} (h : FrR N i ad cl ad1 cl1) (h' : FrR N i ad1 cl1 ad2 cl2) : FrR N i ad cl ad2 cl2 := ⟨fun k h0 hk => (h'.1 k h0 hk).trans (h.1 k h0 hk), fun k h0 h1 h2 => (h'.2 k h0 h1 h2).trans (h.2 k h0 h1 h2)⟩
theorem rm_loc {d k : Nat} (hd : 1 ≤ d) (hk : k ≤ 60) : k ≤ 60 * d := by omega
/-- another row stays as it was -/
theorem RowL.fr {G : Nat → ClassId} {N N' i j cap : Nat} {ad ad' : Nat → Nat} {cl cl' : Nat → va_E} {xs : List Int32} (h : RowL G N ad cl j cap xs) (hf : FrR N i ad cl ad' cl') (hN : N ≤ N') (h1 : j ≠ i) (h2 : j ≠ i + 1) (h3 : j + 1 ≠ i) : RowL G N' ad' cl' j cap xs := by
  obtain ⟨a, b, ⟨f, c, d⟩, g⟩ := h
  refine ⟨by omega, ?_, ⟨f, ?_, d⟩, g⟩
  · rw [hf.2 j (by omega) h1 h2, hf.1 (j + 1) a (by omega)]; exact b
  · rw [hf.2 (j + 1) a (by omega) (by omega)]; exact c
/-- a row in a world that has grown: old cells stay, but o -/
theorem RowL.grow {G : Nat → ClassId} {N N' o j cap : Nat} {ad ad' : Nat → Nat} {cl cl' : Nat → va_E} {xs : List Int32} (h : RowL G N ad cl j cap xs) (ha : ∀ k, k < N → ad' k = ad k) (hc : ∀ k, k < N → k ≠ o → cl' k = cl k) (hN : N ≤ N') (h1 : j ≠ o) (h2 : j + 1 ≠ o) : RowL G N' ad' cl' j cap xs := by
  obtain ⟨a, b, ⟨f, c, d⟩, g⟩ := h
  refine ⟨by omega, ?_, ⟨f, ?_, d⟩, g⟩
  · rw [hc j (by omega) h1, ha (j + 1) (by omega)]; exact b
  · rw [hc (j + 1) (by omega) h2]; exact c
def rget (xs : List Int32) (x : Int32) : Int32 := if x < 0 then -1 else if nI xs.length ≤ x then -1 else xs.getD x.toNatClampNeg 0
theorem rget_neg {xs : List Int32} {x : Int32} (h : x < 0) : rget xs x = -1 := if_pos h
theorem rget_ge {xs : List Int32} {x : Int32} (h0 : ¬ x < 0) (h : nI xs.length ≤ x) : rget xs x = -1 := by rw [rget, if_neg h0, if_pos h]
theorem rget_lt {xs : List Int32} {x : Int32} (h0 : ¬ x < 0) (h : ¬ nI xs.length ≤ x) : rget xs x = xs.getD x.toNatClampNeg 0 := by rw [rget, if_neg h0, if_neg h]
theorem rget_at {xs : List Int32} {j : Nat} (h : j < xs.length) (hl : xs.length < 2 ^ 31) : rget xs (nI j) = xs.getD j 0 := by
  rw [rget_lt (nI_pos (by omega)) (nI_ge h hl), nI_clamp (by omega)]
def gcap (cap n : Nat) : Nat := if n < cap then cap else 2 * cap
def gmc (cap n : Nat) : Nat := if n < cap then 0 else 1
def gms (cap n : Nat) : Nat := if n < cap then 0 else 2 * cap
theorem row_snoc {f f' : Nat → Int32} {xs : List Int32} {v : Int32} (h : ∀ j, j < xs.length → f j = xs.getD j 0) (h1 : ∀ j, j < xs.length → f' j = f j) (h2 : f' xs.length = v) : ∀ j, j < (xs ++ [v]).length → f' j = (xs ++ [v]).getD j 0 := by
  intro j hj
  rw [List.length_append] at hj
  by_cases hjl : j < xs.length
  · rw [h1 j hjl, h j hjl]
    simp [List.getD_eq_getElem?_getD, List.getElem?_append_left hjl]
  · have : j = xs.length := by simp at hj; omega
    subst this
    rw [h2]
    simp [List.getD_eq_getElem?_getD]
theorem row_len {xs : List Int32} {v : Int32} : nI xs.length + 1 = nI (xs ++ [v]).length := by rw [nI_1, List.length_append]; rfl
theorem row_dbl {n : Nat} : nI n * 2 = nI (2 * n) := by rw [show (2 : Int32) = nI 2 from rfl, pk_mul, Nat.mul_comm]
theorem row_in {n N : Nat} (h : n < N) (hN : N ≤ 262144) : vp_in (nI n) N := vp_in_nI h (by omega)
theorem wd_updc {f : Nat → Int32} {n : Nat} {v : Int32} (h : n < 2 ^ 31) : upd f (nI n).toNatClampNeg v = upd f n v := by rw [nI_clamp h]
abbrev cX5_get : ByteArray := prog_7_method_2_code
def yX5_get : MethodName := ⟨RX5, "get", "(I)I"⟩
theorem wcX5_get : Cond.code yX5_get cX5_get 2 (some .int) ∈ tb := tb_3 (i := 185) rfl rfl
theorem wi_5 : Cond.initialized RX5 ∈ tb := tb_1 (i := 2) (by decide +kernel) rfl
theorem wnX5_get : Cond.instanceMethod yX5_get ∈ tb := tb_3 (i := 183) (by decide +kernel) rfl
theorem wlX5_get : Cond.selects RX5 yX5_get yX5_get ∈ tb := tb_3 (i := 184) (by decide +kernel) rfl
theorem YX5_get : Yv yX5_get cX5_get 2 (some .int) 1 := ⟨wcX5_get, wlX5_get, wnX5_get, wi_5, by decide +kernel, by decide +kernel, by decide +kernel⟩
theorem dX5_get_0 : decode cX5_get 0 = .ok (.iload_n 1, 1) := by decide +kernel
theorem dX5_get_1 : decode cX5_get 1 = .ok (.ifCond .lt 20, 3) := by decide +kernel
theorem dX5_get_4 : decode cX5_get 4 = .ok (.iload_n 1, 1) := by decide +kernel
theorem dX5_get_5 : decode cX5_get 5 = .ok (.aload_n 0, 1) := by decide +kernel
theorem dX5_get_6 : decode cX5_get 6 = .ok (.getfield 15, 3) := by decide +kernel
theorem dX5_get_9 : decode cX5_get 9 = .ok (.if_icmp .ge 12, 3) := by decide +kernel
theorem dX5_get_12 : decode cX5_get 12 = .ok (.aload_n 0, 1) := by decide +kernel
theorem dX5_get_13 : decode cX5_get 13 = .ok (.getfield 9, 3) := by decide +kernel
theorem dX5_get_16 : decode cX5_get 16 = .ok (.iload_n 1, 1) := by decide +kernel
theorem dX5_get_17 : decode cX5_get 17 = .ok (.iaload, 1) := by decide +kernel
theorem dX5_get_18 : decode cX5_get 18 = .ok (.goto 4, 3) := by decide +kernel
theorem dX5_get_21 : decode cX5_get 21 = .ok (.iconst (-1), 1) := by decide +kernel
theorem dX5_get_22 : decode cX5_get 22 = .ok (.ireturn, 1) := by decide +kernel
theorem k_RX5_15 : Cond.fieldLink RX5 15 RX5 "size" "I" ∈ tb := tb_1 (i := 42) (by decide +kernel) rfl
theorem k_RX5_9 : Cond.fieldLink RX5 9 RX5 "cells" "[I" ∈ tb := tb_1 (i := 40) (by decide +kernel) rfl
abbrev cX5_clear : ByteArray := prog_7_method_6_code
def yX5_clear : MethodName := ⟨RX5, "clear", "()V"⟩
theorem wcX5_clear : Cond.code yX5_clear cX5_clear 1 none ∈ tb := tb_3 (i := 177) rfl rfl
theorem wnX5_clear : Cond.instanceMethod yX5_clear ∈ tb := tb_3 (i := 175) (by decide +kernel) rfl
theorem wlX5_clear : Cond.selects RX5 yX5_clear yX5_clear ∈ tb := tb_3 (i := 176) (by decide +kernel) rfl
theorem YX5_clear : Yv yX5_clear cX5_clear 1 none 0 := ⟨wcX5_clear, wlX5_clear, wnX5_clear, wi_5, by decide +kernel, by decide +kernel, by decide +kernel⟩
theorem dX5_clear_0 : decode cX5_clear 0 = .ok (.aload_n 0, 1) := by decide +kernel
theorem dX5_clear_1 : decode cX5_clear 1 = .ok (.iconst 0, 1) := by decide +kernel
theorem dX5_clear_2 : decode cX5_clear 2 = .ok (.putfield 15, 3) := by decide +kernel
theorem dX5_clear_5 : decode cX5_clear 5 = .ok (.return_, 1) := by decide +kernel
abbrev cX5_init : ByteArray := prog_7_method_1_code
def yX5_init : MethodName := ⟨RX5, "<init>", "()V"⟩
theorem wcX5_init : Cond.code yX5_init cX5_init 1 none ∈ tb := tb_1 (i := 38) rfl rfl
theorem wnX5_init : Cond.instanceMethod yX5_init ∈ tb := tb_1 (i := 37) (by decide +kernel) rfl
theorem YX5_init : Yi yX5_init cX5_init 1 0 := ⟨wcX5_init, wnX5_init, wi_5, rfl, by decide +kernel, by decide +kernel, by decide +kernel⟩
theorem dX5_init_0 : decode cX5_init 0 = .ok (.aload_n 0, 1) := by decide +kernel
theorem dX5_init_1 : decode cX5_init 1 = .ok (.invokespecial 3, 3) := by decide +kernel
theorem dX5_init_4 : decode cX5_init 4 = .ok (.aload_n 0, 1) := by decide +kernel
theorem dX5_init_5 : decode cX5_init 5 = .ok (.bipush 16, 2) := by decide +kernel
theorem dX5_init_7 : decode cX5_init 7 = .ok (.newarray .int, 2) := by decide +kernel
theorem dX5_init_9 : decode cX5_init 9 = .ok (.putfield 9, 3) := by decide +kernel
theorem dX5_init_12 : decode cX5_init 12 = .ok (.return_, 1) := by decide +kernel
theorem k_RX5_3 : Cond.methodLink RX5 3 ⟨"java/lang/Object", "<init>", "()V"⟩ ∈ tb := tb_1 (i := 39) (by decide +kernel) rfl
abbrev cX5_put : ByteArray := prog_7_method_3_code
def yX5_put : MethodName := ⟨RX5, "put", "(I)V"⟩
theorem wcX5_put : Cond.code yX5_put cX5_put 3 none ∈ tb := tb_3 (i := 159) rfl rfl
theorem wnX5_put : Cond.instanceMethod yX5_put ∈ tb := tb_3 (i := 157) (by decide +kernel) rfl
theorem wlX5_put : Cond.selects RX5 yX5_put yX5_put ∈ tb := tb_3 (i := 158) (by decide +kernel) rfl
theorem YX5_put : Yv yX5_put cX5_put 3 none 1 := ⟨wcX5_put, wlX5_put, wnX5_put, wi_5, by decide +kernel, by decide +kernel, by decide +kernel⟩
theorem dX5_put_0 : decode cX5_put 0 = .ok (.aload_n 0, 1) := by decide +kernel
theorem dX5_put_1 : decode cX5_put 1 = .ok (.getfield 15, 3) := by decide +kernel
theorem dX5_put_4 : decode cX5_put 4 = .ok (.ldc 19, 2) := by decide +kernel
theorem dX5_put_6 : decode cX5_put 6 = .ok (.if_icmp .lt 4, 3) := by decide +kernel
theorem dX5_put_9 : decode cX5_put 9 = .ok (.return_, 1) := by decide +kernel
theorem dX5_put_10 : decode cX5_put 10 = .ok (.aload_n 0, 1) := by decide +kernel
theorem dX5_put_11 : decode cX5_put 11 = .ok (.getfield 15, 3) := by decide +kernel
theorem dX5_put_14 : decode cX5_put 14 = .ok (.aload_n 0, 1) := by decide +kernel
theorem dX5_put_15 : decode cX5_put 15 = .ok (.getfield 9, 3) := by decide +kernel
theorem dX5_put_18 : decode cX5_put 18 = .ok (.arraylength, 1) := by decide +kernel
theorem dX5_put_19 : decode cX5_put 19 = .ok (.if_icmp .lt 33, 3) := by decide +kernel
theorem dX5_put_22 : decode cX5_put 22 = .ok (.aload_n 0, 1) := by decide +kernel
theorem dX5_put_23 : decode cX5_put 23 = .ok (.getfield 9, 3) := by decide +kernel
theorem dX5_put_26 : decode cX5_put 26 = .ok (.arraylength, 1) := by decide +kernel
theorem dX5_put_27 : decode cX5_put 27 = .ok (.iconst 2, 1) := by decide +kernel
theorem dX5_put_28 : decode cX5_put 28 = .ok (.imul, 1) := by decide +kernel
theorem dX5_put_29 : decode cX5_put 29 = .ok (.newarray .int, 2) := by decide +kernel
theorem dX5_put_31 : decode cX5_put 31 = .ok (.astore_n 2, 1) := by decide +kernel
theorem dX5_put_32 : decode cX5_put 32 = .ok (.aload_n 0, 1) := by decide +kernel
theorem dX5_put_33 : decode cX5_put 33 = .ok (.getfield 9, 3) := by decide +kernel
theorem dX5_put_36 : decode cX5_put 36 = .ok (.iconst 0, 1) := by decide +kernel
theorem dX5_put_37 : decode cX5_put 37 = .ok (.aload_n 2, 1) := by decide +kernel
theorem dX5_put_38 : decode cX5_put 38 = .ok (.iconst 0, 1) := by decide +kernel
theorem dX5_put_39 : decode cX5_put 39 = .ok (.aload_n 0, 1) := by decide +kernel
theorem dX5_put_40 : decode cX5_put 40 = .ok (.getfield 9, 3) := by decide +kernel
theorem dX5_put_43 : decode cX5_put 43 = .ok (.arraylength, 1) := by decide +kernel
theorem dX5_put_44 : decode cX5_put 44 = .ok (.invokestatic 20, 3) := by decide +kernel
theorem dX5_put_47 : decode cX5_put 47 = .ok (.aload_n 0, 1) := by decide +kernel
theorem dX5_put_48 : decode cX5_put 48 = .ok (.aload_n 2, 1) := by decide +kernel
theorem dX5_put_49 : decode cX5_put 49 = .ok (.putfield 9, 3) := by decide +kernel
theorem dX5_put_52 : decode cX5_put 52 = .ok (.aload_n 0, 1) := by decide +kernel
theorem dX5_put_53 : decode cX5_put 53 = .ok (.getfield 9, 3) := by decide +kernel
theorem dX5_put_56 : decode cX5_put 56 = .ok (.aload_n 0, 1) := by decide +kernel
theorem dX5_put_57 : decode cX5_put 57 = .ok (.getfield 15, 3) := by decide +kernel
theorem dX5_put_60 : decode cX5_put 60 = .ok (.iload_n 1, 1) := by decide +kernel
theorem dX5_put_61 : decode cX5_put 61 = .ok (.iastore, 1) := by decide +kernel
theorem dX5_put_62 : decode cX5_put 62 = .ok (.aload_n 0, 1) := by decide +kernel
theorem dX5_put_63 : decode cX5_put 63 = .ok (.dup, 1) := by decide +kernel
theorem dX5_put_64 : decode cX5_put 64 = .ok (.getfield 15, 3) := by decide +kernel
theorem dX5_put_67 : decode cX5_put 67 = .ok (.iconst 1, 1) := by decide +kernel
theorem dX5_put_68 : decode cX5_put 68 = .ok (.iadd, 1) := by decide +kernel
theorem dX5_put_69 : decode cX5_put 69 = .ok (.putfield 15, 3) := by decide +kernel
theorem dX5_put_72 : decode cX5_put 72 = .ok (.return_, 1) := by decide +kernel
theorem k_RX5_19 : Cond.constant RX5 19 (131072) ∈ tb := tb_3 (i := 160) (by decide +kernel) rfl
set_option maxHeartbeats 4000000 in
set_option maxRecDepth 100000 in
theorem ct_X5_get (l : Launch) (D : va_G) (G : Nat → ClassId) (t : Nat → Nat) (N : Nat) (ad : Nat → Nat) (cl : Nat → va_E) (i cap : Nat) (xs : List Int32) (hR : RowL G N ad cl i cap xs) (x : Int32) (d : Nat) : CtI l yX5_get cX5_get 2 (rmD d 0 0) D G t (N, ad, cl) [.ref (ad i), .int x] (fun r u => r = rget xs x ∧ u = (N, ad, cl)) := by
  obtain ⟨hN, hc0, ⟨f, hc1, hf⟩, hcap, hcm, hcM⟩ := hR
  refine ct_I (own := RX5) (by decide +kernel) rfl (Nat.le_of_ble_eq_true rfl) rfl ?_
  intro p e s m args below meth c A ls X hr hl w
  obtain ⟨hx, hb, hml, hown, hts, -⟩ := id X
  have hl : lv_has ls 2 [(0, .ref (ad (i))), (1, .int (x))] := hl
  refine lv_iload_n hx hb dX5_get_0 rfl (lv_at hl 1 rfl) ?_
  refine lv_if_lt (tgt := 21) hx hb dX5_get_1 (by decide) (fun h1 => ?_) (fun h1 => ?_)
  · refine lv_iconst (v := (-1)) hx hb dX5_get_21 (by decide) ?_
    exact e_I X hr w ⟨(rget_neg h1).symm, rfl⟩ (Nat.zero_le _) (Nat.zero_le _) dX5_get_22
  · refine lv_iload_n hx hb dX5_get_4 rfl (lv_at hl 1 rfl) ?_
    refine lv_aload_n hx hb dX5_get_5 rfl (lv_at hl 0 rfl) ?_
    refine g_get X w (i) rfl (by omega) hc0 kc5 1 (by decide) rfl k_RX5_15 rfl dX5_get_6 ?_
    refine lv_icmp_ge (tgt := 21) hx hb dX5_get_9 (by decide) (fun h2 => ?_) (fun h2 => ?_)
    · refine lv_iconst (v := (-1)) hx hb dX5_get_21 (by decide) ?_
      exact e_I X hr w ⟨(rget_ge h1 h2).symm, rfl⟩ (Nat.zero_le _) (Nat.zero_le _) dX5_get_22
    · obtain ⟨j, hj, ej, -, ec, -⟩ := pk_mu h1 h2 (by omega)
      refine lv_aload_n hx hb dX5_get_12 rfl (lv_at hl 0 rfl) ?_
      refine g_get X w (i) rfl (by omega) hc0 kc5 0 (by decide) rfl k_RX5_9 rfl dX5_get_13 ?_
      refine lv_iload_n hx hb dX5_get_16 rfl (lv_at hl 1 rfl) ?_
      refine g_iald X w (i + 1) rfl (by omega) hc1 (x := x) (by rw [ej]; exact row_in (by omega) hcM) dX5_get_17 ?_
      refine lv_goto (tgt := 22) hx hb dX5_get_18 (by decide) ?_
      exact e_I X hr w ⟨by rw [rget_lt h1 h2, ec, hf j hj], rfl⟩ (Nat.zero_le _) (Nat.zero_le _) dX5_get_22
set_option maxHeartbeats 4000000 in
set_option maxRecDepth 100000 in
theorem ct_X5_clear (l : Launch) (D : va_G) (G : Nat → ClassId) (t : Nat → Nat) (N : Nat) (ad : Nat → Nat) (cl : Nat → va_E) (i cap : Nat) (xs : List Int32) (hR : RowL G N ad cl i cap xs) (d : Nat) : CtV l yX5_clear cX5_clear 1 (rmD d 0 0) D G t (N, ad, cl) [.ref (ad i)] (fun u => ∃ ad' cl', u = (N, ad', cl') ∧ RowL G N ad' cl' i cap [] ∧ FrR N i ad cl ad' cl') := by
  obtain ⟨hN, hc0, ⟨f, hc1, hf⟩, hcap, hcm, hcM⟩ := hR
  refine ct_V (own := RX5) (by decide +kernel) rfl (Nat.le_of_ble_eq_true rfl) rfl ?_
  intro p e s m args below meth c A ls X hr hin hl w
  obtain ⟨hx, hb, hml, hown, hts, -⟩ := id X
  have hl : lv_has ls 1 [(0, .ref (ad (i)))] := hl
  refine lv_aload_n hx hb dX5_clear_0 rfl (lv_at hl 0 rfl) ?_
  refine lv_iconst (v := 0) hx hb dX5_clear_1 (by decide) ?_
  refine g_put X w (i) rfl (by omega) hc0 kc5 1 (by decide) rfl k_RX5_15 rfl rfl rfl (Nat.le_of_ble_eq_true rfl) dX5_clear_2 (fun H locs w => ?_)
  have w : Wd D A s H locs (N) ad (va_up cl (i) (.inr (5, [.ref (ad (i + 1)), .int (0)]))) := w
  generalize e2 : va_up cl (i) (.inr (5, [.ref (ad (i + 1)), .int (0)])) = cl1 at w
  have c3 : cl1 (i) = .inr (5, [.ref (ad (i + 1)), .int (0)]) := by rw [← e2, va_up_self]
  have c4 : cl1 (i + 1) = .inl (G 0, cap, .inl (f)) := by rw [← e2, va_up_ne _ _ (by omega)]; exact hc1
  refine e_V X hr w ⟨ad, cl1, rfl, ⟨hN, c3, ⟨f, c4, fun j hj => absurd hj (Nat.not_lt_zero j)⟩, Nat.zero_le _, hcm, hcM⟩, fun _ _ _ => rfl, fun k h0 h1 h2 => ?_⟩ (Nat.zero_le _) (Nat.zero_le _) dX5_clear_5
  rw [← e2, va_up_ne _ _ h1]
set_option maxHeartbeats 4000000 in
set_option maxRecDepth 100000 in
theorem ct_X5_init (l : Launch) (D : va_G) (G : Nat → ClassId) (t : Nat → Nat) (N : Nat) (ad : Nat → Nat) (cl : Nat → va_E) (i : Nat) (hiN : i + 1 = N) (hc0 : cl i = .inr (5, [.null, .int 0])) (d : Nat) (hd : 1 ≤ d) : CtV l yX5_init cX5_init 1 (rmD d 1 16) D G t (N, ad, cl) [.ref (ad i)] (fun u => ∃ ad' cl', u = (N + 1, ad', cl') ∧ RowL G (N + 1) ad' cl' i 16 [] ∧ (∀ k, k < N → ad' k = ad k) ∧ ∀ k, k < N → k ≠ i → cl' k = cl k) := by
  refine ct_V (own := RX5) (by decide +kernel) rfl (Nat.le_of_ble_eq_true rfl) rfl ?_
  intro p e s m args below meth c A ls X hr hin hl w
  obtain ⟨hx, hb, hml, hown, hts, -⟩ := id X
  have hl : lv_has ls 1 [(0, .ref (ad (i)))] := hl
  refine lv_aload_n hx hb dX5_init_0 rfl (lv_at hl 0 rfl) ?_
  refine g_oinit X hl.1 k_RX5_3 dX5_init_1 (by decide) ⟨hd, rm_loc hd (by decide)⟩ ?_
  refine lv_aload_n hx hb dX5_init_4 rfl (lv_at hl 0 rfl) ?_
  refine lv_bipush (v := 16) hx hb dX5_init_5 (by decide) ?_
  refine g_newI X w wa_I (n := 16) (by decide) (by decide) (by omega) (by simp) (by simp) dX5_init_7 (fun q1 H w => ?_)
  generalize e4 : va_up ad (N) q1 = ad2 at w
  generalize e5 : va_up cl (N) (.inl (G 0, 16, .inl (fun _ => 0))) = cl3 at w
  have a6 : ad2 (i) = ad (i) := by rw [← e4, va_up_ne _ _ (by omega)]
  have a7 : ad2 (N) = q1 := by rw [← e4, va_up_self]
  have c8 : cl3 (i) = .inr (5, [.null, .int (0)]) := by rw [← e5, va_up_ne _ _ (by omega)]; exact hc0
  have c9 : cl3 (N) = .inl (G 0, 16, .inl (fun _ => 0)) := by rw [← e5, va_up_self]
  refine g_put X w (i) a6 (by omega) c8 kc5 0 (by decide) rfl k_RX5_9 rfl rfl rfl (Nat.le_of_ble_eq_true rfl) dX5_init_9 (fun H locs w => ?_)
  have w : Wd D A s H locs (N + 1) ad2 (va_up cl3 (i) (.inr (5, [.ref (q1), .int (0)]))) := w
  generalize e11 : va_up cl3 (i) (.inr (5, [.ref (q1), .int (0)])) = cl10 at w
  have c12 : cl10 (i) = .inr (5, [.ref (q1), .int (0)]) := by rw [← e11, va_up_self]
  have c13 : cl10 (N) = .inl (G 0, 16, .inl (fun _ => 0)) := by rw [← e11, va_up_ne _ _ (by omega)]; exact c9
  refine e_V X hr w ⟨ad2, cl10, rfl, ⟨by omega, ?_, ⟨fun _ => 0, ?_, fun j hj => absurd hj (Nat.not_lt_zero j)⟩, Nat.zero_le _, Nat.le_refl _, by decide⟩, fun k hk => ?_, fun k hk h1 => ?_⟩ (Nat.le_of_ble_eq_true rfl) (Nat.le_of_ble_eq_true rfl) dX5_init_12
  · rw [c12, hiN, a7]; rfl
  · rw [hiN]; exact c13
  · rw [← e4, va_up_ne _ _ (by omega)]
  · rw [← e11, va_up_ne _ _ h1, ← e5, va_up_ne _ _ (by omega)]
set_option maxHeartbeats 4000000 in
set_option maxRecDepth 100000 in
theorem ct_X5_put (l : Launch) (D : va_G) (G : Nat → ClassId) (t : Nat → Nat) (N : Nat) (ad : Nat → Nat) (cl : Nat → va_E) (i cap : Nat) (xs : List Int32) (hR : RowL G N ad cl i cap xs) (v : Int32) (hlen : xs.length < 131072) (d : Nat) (hd : 1 ≤ d) : CtV l yX5_put cX5_put 3 (rmD d (gmc cap xs.length) (gms cap xs.length)) D G t (N, ad, cl) [.ref (ad i), .int v] (fun u => ∃ ad' cl', u = (N, ad', cl') ∧ RowL G N ad' cl' i (gcap cap xs.length) (xs ++ [v]) ∧ FrR N i ad cl ad' cl') := by
  obtain ⟨hN, hc0, ⟨f, hc1, hf⟩, hcap, hcm, hcM⟩ := hR
  refine ct_V (own := RX5) (by decide +kernel) rfl (Nat.le_of_ble_eq_true rfl) rfl ?_
  intro p e s m args below meth c A ls X hr hin hl w
  obtain ⟨hx, hb, hml, hown, hts, -⟩ := id X
  have hl : lv_has ls 3 [(0, .ref (ad (i))), (1, .int (v))] := hl
  refine lv_aload_n hx hb dX5_put_0 rfl (lv_at hl 0 rfl) ?_
  refine g_get X w (i) rfl (by omega) hc0 kc5 1 (by decide) rfl k_RX5_15 rfl dX5_put_1 ?_
  refine lv_ldc hx hb hown (hts _ k_RX5_19) dX5_put_4 ?_
  refine lv_icmp_lt (tgt := 10) hx hb dX5_put_6 (by decide) (fun h1 => ?_) (fun h1 => absurd (nI_lt (b := 131072) hlen (by decide)) h1)
  refine lv_aload_n hx hb dX5_put_10 rfl (lv_at hl 0 rfl) ?_
  refine g_get X w (i) rfl (by omega) hc0 kc5 1 (by decide) rfl k_RX5_15 rfl dX5_put_11 ?_
  refine lv_aload_n hx hb dX5_put_14 rfl (lv_at hl 0 rfl) ?_
  refine g_get X w (i) rfl (by omega) hc0 kc5 0 (by decide) rfl k_RX5_9 rfl dX5_put_15 ?_
  refine g_alen X w (i + 1) rfl (by omega) hc1 rfl dX5_put_18 ?_
  refine lv_icmp_lt (tgt := 52) hx hb dX5_put_19 (by decide) (fun h2 => ?_) (fun h2 => ?_)
  · have hn : xs.length < cap := (nI_ltI (by omega) (by omega)).mp h2
    refine lv_aload_n hx hb dX5_put_52 rfl (lv_at hl 0 rfl) ?_
    refine g_get X w (i) rfl (by omega) hc0 kc5 0 (by decide) rfl k_RX5_9 rfl dX5_put_53 ?_
    refine lv_aload_n hx hb dX5_put_56 rfl (lv_at hl 0 rfl) ?_
    refine g_get X w (i) rfl (by omega) hc0 kc5 1 (by decide) rfl k_RX5_15 rfl dX5_put_57 ?_
    refine lv_iload_n hx hb dX5_put_60 rfl (lv_at hl 1 rfl) ?_
    refine g_iast X w (i + 1) rfl (by omega) hc1 (x := nI xs.length) (row_in (by omega) (by omega)) dX5_put_61 (fun H locs w => ?_)
    have w : Wd D A s H locs (N) ad (va_up cl (i + 1) (.inl (G 0, cap, .inl (upd (f) xs.length (v))))) := by rw [← wd_updc (by omega)]; exact w
    generalize e4 : va_up cl (i + 1) (.inl (G 0, cap, .inl (upd (f) xs.length (v)))) = cl3 at w
    have c5 : cl3 (i) = .inr (5, [.ref (ad (i + 1)), .int (nI xs.length)]) := by rw [← e4, va_up_ne _ _ (by omega)]; exact hc0
    have c6 : cl3 (i + 1) = .inl (G 0, cap, .inl (upd (f) xs.length (v))) := by rw [← e4, va_up_self]
    refine lv_aload_n hx hb dX5_put_62 rfl (lv_at hl 0 rfl) ?_
    refine lv_dup hx hb dX5_put_63 rfl ?_
    refine g_get X w (i) rfl (by omega) c5 kc5 1 (by decide) rfl k_RX5_15 rfl dX5_put_64 ?_
    refine lv_iconst (v := 1) hx hb dX5_put_67 (by decide) ?_
    refine lv_iadd hx hb dX5_put_68 ?_
    refine lv_eqi (row_len (v := v)) ?_
    refine g_put X w (i) rfl (by omega) c5 kc5 1 (by decide) rfl k_RX5_15 rfl rfl rfl (Nat.le_of_ble_eq_true rfl) dX5_put_69 (fun H locs w => ?_)
    have w : Wd D A s H locs (N) ad (va_up cl3 (i) (.inr (5, [.ref (ad (i + 1)), .int (nI (xs ++ [v]).length)]))) := w
    generalize e8 : va_up cl3 (i) (.inr (5, [.ref (ad (i + 1)), .int (nI (xs ++ [v]).length)])) = cl7 at w
    have c9 : cl7 (i) = .inr (5, [.ref (ad (i + 1)), .int (nI (xs ++ [v]).length)]) := by rw [← e8, va_up_self]
    have c10 : cl7 (i + 1) = .inl (G 0, cap, .inl (upd (f) xs.length (v))) := by rw [← e8, va_up_ne _ _ (by omega)]; exact c6
    have g1 : gmc cap xs.length = 0 := if_pos hn
    have g2 : gms cap xs.length = 0 := if_pos hn
    have g3 : gcap cap xs.length = cap := if_pos hn
    simp only [g1, g2, g3]
    refine e_V X hr w ⟨ad, cl7, rfl, ⟨hN, c9, ⟨_, c10, row_snoc hf (fun j hj => pk_un (by omega)) pk_us⟩, by rw [List.length_append]; simp; omega, hcm, hcM⟩, fun _ _ _ => rfl, fun k h0 h1 h2 => ?_⟩ (Nat.zero_le _) (Nat.zero_le _) dX5_put_72
    rw [← e8, va_up_ne _ _ h1, ← e4, va_up_ne _ _ h2]
  · have hn : xs.length = cap := by
      have := Nat.lt_or_ge xs.length cap
      rcases this with q | q
      · exact absurd (nI_lt q (by omega)) h2
      · omega
    have g0 : ¬ xs.length < cap := by omega
    have g1 : gmc cap xs.length = 1 := if_neg g0
    have g2 : gms cap xs.length = 2 * cap := if_neg g0
    refine lv_aload_n hx hb dX5_put_22 rfl (lv_at hl 0 rfl) ?_
    refine g_get X w (i) rfl (by omega) hc0 kc5 0 (by decide) rfl k_RX5_9 rfl dX5_put_23 ?_
    refine g_alen X w (i + 1) rfl (by omega) hc1 rfl dX5_put_26 ?_
    refine lv_iconst (v := 2) hx hb dX5_put_27 (by decide) ?_
    refine lv_imul hx hb dX5_put_28 ?_
    refine lv_eqi row_dbl ?_
    refine g_newI X w wa_I (n := 2 * cap) (nI_pos (by omega)) (nI_clamp (by omega)) (by omega) (by rw [g1]; exact Nat.le_refl _) (by rw [g2]; simp) dX5_put_29 (fun q11 H w => ?_)
    generalize e14 : va_up ad (N) q11 = ad12 at w
    generalize e15 : va_up cl (N) (.inl (G 0, 2 * cap, .inl (fun _ => 0))) = cl13 at w
    have a16 : ad12 (i) = ad (i) := by rw [← e14, va_up_ne _ _ (by omega)]
    have a17 : ad12 (i + 1) = ad (i + 1) := by rw [← e14, va_up_ne _ _ (by omega)]
    have a18 : ad12 (N) = q11 := by rw [← e14, va_up_self]
    have c19 : cl13 (i) = .inr (5, [.ref (ad (i + 1)), .int (nI xs.length)]) := by rw [← e15, va_up_ne _ _ (by omega)]; exact hc0
    have c20 : cl13 (i + 1) = .inl (G 0, cap, .inl (f)) := by rw [← e15, va_up_ne _ _ (by omega)]; exact hc1
    have c21 : cl13 (N) = .inl (G 0, 2 * cap, .inl (fun _ => 0)) := by rw [← e15, va_up_self]
    refine lv_astore_n (lv' := [(2, .ref (q11)), (0, .ref (ad (i))), (1, .int (v))]) hx hb dX5_put_31 rfl hl (by decide) rfl (fun ls hl => ?_)
    refine lv_aload_n hx hb dX5_put_32 rfl (lv_at hl 1 rfl) ?_
    refine g_get X w (i) a16 (by omega) c19 kc5 0 (by decide) rfl k_RX5_9 rfl dX5_put_33 ?_
    refine lv_iconst (v := 0) hx hb dX5_put_36 (by decide) ?_
    refine lv_aload_n hx hb dX5_put_37 rfl (lv_at hl 0 rfl) ?_
    refine lv_iconst (v := 0) hx hb dX5_put_38 (by decide) ?_
    refine lv_aload_n hx hb dX5_put_39 rfl (lv_at hl 1 rfl) ?_
    refine g_get X w (i) a16 (by omega) c19 kc5 0 (by decide) rfl k_RX5_9 rfl dX5_put_40 ?_
    refine g_alen X w (i + 1) a17 (by omega) c20 rfl dX5_put_43 ?_
    refine g_copyI X w hl.1 wo_copy (i + 1) (N) a17 a18 (by omega) (by omega) c20 c21 0 0 cap rfl rfl rfl (by omega) (by omega) (by omega) (by omega) (by decide) ⟨hd, rm_loc hd (by decide)⟩ dX5_put_44 (fun H locs w => ?_)
    have w : Wd D A s H locs (N + 1) ad12 (va_up cl13 (N) (.inl (G 0, 2 * cap, .inl (va_cpy f (fun _ => 0) 0 0 cap)))) := w
    generalize e23 : va_up cl13 (N) (.inl (G 0, 2 * cap, .inl (va_cpy f (fun _ => 0) 0 0 cap))) = cl22 at w
    have c24 : cl22 (i) = .inr (5, [.ref (ad (i + 1)), .int (nI xs.length)]) := by rw [← e23, va_up_ne _ _ (by omega)]; exact c19
    have c25 : cl22 (i + 1) = .inl (G 0, cap, .inl (f)) := by rw [← e23, va_up_ne _ _ (by omega)]; exact c20
    have c26 : cl22 (N) = .inl (G 0, 2 * cap, .inl (va_cpy f (fun _ => 0) 0 0 cap)) := by rw [← e23, va_up_self]
    refine lv_aload_n hx hb dX5_put_47 rfl (lv_at hl 1 rfl) ?_
    refine lv_aload_n hx hb dX5_put_48 rfl (lv_at hl 0 rfl) ?_
    refine g_put X w (i) a16 (by omega) c24 kc5 0 (by decide) rfl k_RX5_9 rfl rfl rfl (Nat.le_of_ble_eq_true rfl) dX5_put_49 (fun H locs w => ?_)
    have w : Wd D A s H locs (N + 1) ad12 (va_up cl22 (i) (.inr (5, [.ref (q11), .int (nI xs.length)]))) := w
    generalize e28 : va_up cl22 (i) (.inr (5, [.ref (q11), .int (nI xs.length)])) = cl27 at w
    have c29 : cl27 (i) = .inr (5, [.ref (q11), .int (nI xs.length)]) := by rw [← e28, va_up_self]
    have c30 : cl27 (i + 1) = .inl (G 0, cap, .inl (f)) := by rw [← e28, va_up_ne _ _ (by omega)]; exact c25
    have c31 : cl27 (N) = .inl (G 0, 2 * cap, .inl (va_cpy f (fun _ => 0) 0 0 cap)) := by rw [← e28, va_up_ne _ _ (by omega)]; exact c26
    refine lv_aload_n hx hb dX5_put_52 rfl (lv_at hl 1 rfl) ?_
    refine g_get X w (i) a16 (by omega) c29 kc5 0 (by decide) rfl k_RX5_9 rfl dX5_put_53 ?_
    refine lv_aload_n hx hb dX5_put_56 rfl (lv_at hl 1 rfl) ?_
    refine g_get X w (i) a16 (by omega) c29 kc5 1 (by decide) rfl k_RX5_15 rfl dX5_put_57 ?_
    refine lv_iload_n hx hb dX5_put_60 rfl (lv_at hl 2 rfl) ?_
    refine g_iast X w (N) a18 (by omega) c31 (x := nI xs.length) (row_in (by omega) (by omega)) dX5_put_61 (fun H locs w => ?_)
    have w : Wd D A s H locs (N + 1) ad12 (va_up cl27 (N) (.inl (G 0, 2 * cap, .inl (upd (va_cpy f (fun _ => 0) 0 0 cap) xs.length (v))))) := by rw [← wd_updc (by omega)]; exact w
    generalize e33 : va_up cl27 (N) (.inl (G 0, 2 * cap, .inl (upd (va_cpy f (fun _ => 0) 0 0 cap) xs.length (v)))) = cl32 at w
    have c34 : cl32 (i) = .inr (5, [.ref (q11), .int (nI xs.length)]) := by rw [← e33, va_up_ne _ _ (by omega)]; exact c29
    have c35 : cl32 (i + 1) = .inl (G 0, cap, .inl (f)) := by rw [← e33, va_up_ne _ _ (by omega)]; exact c30
    have c36 : cl32 (N) = .inl (G 0, 2 * cap, .inl (upd (va_cpy f (fun _ => 0) 0 0 cap) xs.length (v))) := by rw [← e33, va_up_self]
    refine lv_aload_n hx hb dX5_put_62 rfl (lv_at hl 1 rfl) ?_
    refine lv_dup hx hb dX5_put_63 rfl ?_
    refine g_get X w (i) a16 (by omega) c34 kc5 1 (by decide) rfl k_RX5_15 rfl dX5_put_64 ?_
    refine lv_iconst (v := 1) hx hb dX5_put_67 (by decide) ?_
    refine lv_iadd hx hb dX5_put_68 ?_
    refine lv_eqi (row_len (v := v)) ?_
    refine g_put X w (i) a16 (by omega) c34 kc5 1 (by decide) rfl k_RX5_15 rfl rfl rfl (Nat.le_of_ble_eq_true rfl) dX5_put_69 (fun H locs w => ?_)
    have w : Wd D A s H locs (N + 1) ad12 (va_up cl32 (i) (.inr (5, [.ref (q11), .int (nI (xs ++ [v]).length)]))) := w
    generalize e38 : va_up cl32 (i) (.inr (5, [.ref (q11), .int (nI (xs ++ [v]).length)])) = cl37 at w
    have c39 : cl37 (i) = .inr (5, [.ref (q11), .int (nI (xs ++ [v]).length)]) := by rw [← e38, va_up_self]
    have c40 : cl37 (i + 1) = .inl (G 0, cap, .inl (f)) := by rw [← e38, va_up_ne _ _ (by omega)]; exact c35
    have c41 : cl37 (N) = .inl (G 0, 2 * cap, .inl (upd (va_cpy f (fun _ => 0) 0 0 cap) xs.length (v))) := by rw [← e38, va_up_ne _ _ (by omega)]; exact c36
    have g0 : ¬ xs.length < cap := by omega
    have g1 : gmc cap xs.length = 1 := if_neg g0
    have g2 : gms cap xs.length = 2 * cap := if_neg g0
    have g3 : gcap cap xs.length = 2 * cap := if_neg g0
    simp only [g1, g2, g3]
    have w := w.swap (j := i + 1) (by omega)
    refine e_V X hr w ⟨_, _, rfl, ⟨hN, ?_, ⟨upd (va_cpy f (fun _ => 0) 0 0 cap) xs.length v, ?_, row_snoc (f := f) hf (fun j hj => ?_) pk_us⟩, by rw [List.length_append]; simp; omega, by omega, by omega⟩, fun k h0 h1 => ?_, fun k h0 h1 h2 => ?_⟩ (by omega) (by omega) dX5_put_72
    · rw [va_up_ne _ _ (by omega), va_up_self, c39, a18]
    · rw [va_up_self]; exact c41
    · rw [pk_un (by omega), pk_cpy_in (Nat.zero_le _) (by omega)]; simp
    · rw [va_up_ne _ _ h1, ← e14, va_up_ne _ _ (by omega)]
    · rw [va_up_ne _ _ h2, ← e38, va_up_ne _ _ h1, ← e33, va_up_ne _ _ (by omega), ← e28, va_up_ne _ _ h1, ← e23, va_up_ne _ _ (by omega), ← e15, va_up_ne _ _ (by omega)]
