/-! TEXT CONSTANTS: length, charAt; floorMod -/
abbrev cJ_len : ByteArray := prog_21_method_54_code
def yJ_len : MethodName := ⟨"java/lang/String", "length", "()I"⟩
theorem wcJ_len : Cond.code yJ_len cJ_len 1 (some .int) ∈ tb := tb_4 (i := 135) rfl rfl
theorem wiJ_0 : Cond.initialized "java/lang/String" ∈ tb := tb_1 (i := 21) (by decide +kernel) rfl
theorem wnJ_len : Cond.instanceMethod yJ_len ∈ tb := tb_4 (i := 133) (by decide +kernel) rfl
theorem wlJ_len : Cond.selects "java/lang/String" yJ_len yJ_len ∈ tb := tb_4 (i := 134) (by decide +kernel) rfl
theorem YJ_len : Yv yJ_len cJ_len 1 (some .int) 0 := ⟨wcJ_len, wlJ_len, wnJ_len, wiJ_0, by decide +kernel, by decide +kernel, by decide +kernel⟩
theorem dJ_len_0 : decode cJ_len 0 = .ok (.aload_n 0, 1) := by decide +kernel
theorem dJ_len_1 : decode cJ_len 1 = .ok (.getfield 9, 3) := by decide +kernel
theorem dJ_len_4 : decode cJ_len 4 = .ok (.arraylength, 1) := by decide +kernel
theorem dJ_len_5 : decode cJ_len 5 = .ok (.aload_n 0, 1) := by decide +kernel
theorem dJ_len_6 : decode cJ_len 6 = .ok (.invokevirtual 335, 3) := by decide +kernel
theorem dJ_len_9 : decode cJ_len 9 = .ok (.ishr, 1) := by decide +kernel
theorem dJ_len_10 : decode cJ_len 10 = .ok (.ireturn, 1) := by decide +kernel
abbrev cJ_coder : ByteArray := prog_21_method_152_code
def yJ_coder : MethodName := ⟨"java/lang/String", "coder", "()B"⟩
theorem wcJ_coder : Cond.code yJ_coder cJ_coder 1 (some .byte) ∈ tb := tb_4 (i := 139) rfl rfl
theorem wnJ_coder : Cond.instanceMethod yJ_coder ∈ tb := tb_4 (i := 137) (by decide +kernel) rfl
theorem wlJ_coder : Cond.selects "java/lang/String" yJ_coder yJ_coder ∈ tb := tb_4 (i := 138) (by decide +kernel) rfl
theorem YJ_coder : Yv yJ_coder cJ_coder 1 (some .byte) 0 := ⟨wcJ_coder, wlJ_coder, wnJ_coder, wiJ_0, by decide +kernel, by decide +kernel, by decide +kernel⟩
theorem dJ_coder_0 : decode cJ_coder 0 = .ok (.getstatic 38, 3) := by decide +kernel
theorem dJ_coder_3 : decode cJ_coder 3 = .ok (.ifCond .eq 10, 3) := by decide +kernel
theorem dJ_coder_6 : decode cJ_coder 6 = .ok (.aload_n 0, 1) := by decide +kernel
theorem dJ_coder_7 : decode cJ_coder 7 = .ok (.getfield 15, 3) := by decide +kernel
theorem dJ_coder_10 : decode cJ_coder 10 = .ok (.goto 4, 3) := by decide +kernel
theorem dJ_coder_13 : decode cJ_coder 13 = .ok (.iconst 1, 1) := by decide +kernel
theorem dJ_coder_14 : decode cJ_coder 14 = .ok (.ireturn, 1) := by decide +kernel
abbrev cJ_lat : ByteArray := prog_21_method_154_code
def yJ_lat : MethodName := ⟨"java/lang/String", "isLatin1", "()Z"⟩
theorem wcJ_lat : Cond.code yJ_lat cJ_lat 1 (some .boolean) ∈ tb := tb_4 (i := 149) rfl rfl
theorem wnJ_lat : Cond.instanceMethod yJ_lat ∈ tb := tb_4 (i := 147) (by decide +kernel) rfl
theorem wlJ_lat : Cond.selects "java/lang/String" yJ_lat yJ_lat ∈ tb := tb_4 (i := 148) (by decide +kernel) rfl
theorem YJ_lat : Yv yJ_lat cJ_lat 1 (some .boolean) 0 := ⟨wcJ_lat, wlJ_lat, wnJ_lat, wiJ_0, by decide +kernel, by decide +kernel, by decide +kernel⟩
theorem dJ_lat_0 : decode cJ_lat 0 = .ok (.getstatic 38, 3) := by decide +kernel
theorem dJ_lat_3 : decode cJ_lat 3 = .ok (.ifCond .eq 14, 3) := by decide +kernel
theorem dJ_lat_6 : decode cJ_lat 6 = .ok (.aload_n 0, 1) := by decide +kernel
theorem dJ_lat_7 : decode cJ_lat 7 = .ok (.getfield 15, 3) := by decide +kernel
theorem dJ_lat_10 : decode cJ_lat 10 = .ok (.ifCond .ne 7, 3) := by decide +kernel
theorem dJ_lat_13 : decode cJ_lat 13 = .ok (.iconst 1, 1) := by decide +kernel
theorem dJ_lat_14 : decode cJ_lat 14 = .ok (.goto 4, 3) := by decide +kernel
theorem dJ_lat_17 : decode cJ_lat 17 = .ok (.iconst 0, 1) := by decide +kernel
theorem dJ_lat_18 : decode cJ_lat 18 = .ok (.ireturn, 1) := by decide +kernel
abbrev cJ_chk : ByteArray := prog_21_method_155_code
def yJ_chk : MethodName := ⟨"java/lang/String", "checkIndex", "(II)V"⟩
theorem wcJ_chk : Cond.code yJ_chk cJ_chk 2 none ∈ tb := tb_4 (i := 155) rfl rfl
theorem wsJ_chk : Cond.static yJ_chk ∈ tb := tb_4 (i := 154) (by decide +kernel) rfl
theorem YJ_chk : Ys yJ_chk cJ_chk 2 none 2 := ⟨wcJ_chk, wsJ_chk, wiJ_0, by decide +kernel, by decide +kernel, by decide +kernel⟩
theorem dJ_chk_0 : decode cJ_chk 0 = .ok (.iload_n 0, 1) := by decide +kernel
theorem dJ_chk_1 : decode cJ_chk 1 = .ok (.iload_n 1, 1) := by decide +kernel
theorem dJ_chk_2 : decode cJ_chk 2 = .ok (.getstatic 1053, 3) := by decide +kernel
theorem dJ_chk_5 : decode cJ_chk 5 = .ok (.invokestatic 1059, 3) := by decide +kernel
theorem dJ_chk_8 : decode cJ_chk 8 = .ok (.pop, 1) := by decide +kernel
theorem dJ_chk_9 : decode cJ_chk 9 = .ok (.return_, 1) := by decide +kernel
abbrev cJ_lch : ByteArray := prog_22_method_2_code
def yJ_lch : MethodName := ⟨"java/lang/StringLatin1", "charAt", "([BI)C"⟩
theorem wcJ_lch : Cond.code yJ_lch cJ_lch 2 (some .char) ∈ tb := tb_4 (i := 152) rfl rfl
theorem wiJ_1 : Cond.initialized "java/lang/StringLatin1" ∈ tb := tb_1 (i := 22) (by decide +kernel) rfl
theorem wsJ_lch : Cond.static yJ_lch ∈ tb := tb_4 (i := 151) (by decide +kernel) rfl
theorem YJ_lch : Ys yJ_lch cJ_lch 2 (some .char) 2 := ⟨wcJ_lch, wsJ_lch, wiJ_1, by decide +kernel, by decide +kernel, by decide +kernel⟩
theorem dJ_lch_0 : decode cJ_lch 0 = .ok (.iload_n 1, 1) := by decide +kernel
theorem dJ_lch_1 : decode cJ_lch 1 = .ok (.aload_n 0, 1) := by decide +kernel
theorem dJ_lch_2 : decode cJ_lch 2 = .ok (.arraylength, 1) := by decide +kernel
theorem dJ_lch_3 : decode cJ_lch 3 = .ok (.invokestatic 9, 3) := by decide +kernel
theorem dJ_lch_6 : decode cJ_lch 6 = .ok (.aload_n 0, 1) := by decide +kernel
theorem dJ_lch_7 : decode cJ_lch 7 = .ok (.iload_n 1, 1) := by decide +kernel
theorem dJ_lch_8 : decode cJ_lch 8 = .ok (.baload, 1) := by decide +kernel
theorem dJ_lch_9 : decode cJ_lch 9 = .ok (.sipush 255, 3) := by decide +kernel
theorem dJ_lch_12 : decode cJ_lch 12 = .ok (.iand, 1) := by decide +kernel
theorem dJ_lch_13 : decode cJ_lch 13 = .ok (.i2c, 1) := by decide +kernel
theorem dJ_lch_14 : decode cJ_lch 14 = .ok (.ireturn, 1) := by decide +kernel
abbrev cJ_pre : ByteArray := prog_26_method_11_code
def yJ_pre : MethodName := ⟨"jdk/internal/util/Preconditions", "checkIndex", "(IILjava/util/function/BiFunction;)I"⟩
theorem wcJ_pre : Cond.code yJ_pre cJ_pre 3 (some .int) ∈ tb := tb_4 (i := 160) rfl rfl
theorem wiJ_2 : Cond.initialized "jdk/internal/util/Preconditions" ∈ tb := tb_1 (i := 23) (by decide +kernel) rfl
theorem wsJ_pre : Cond.static yJ_pre ∈ tb := tb_4 (i := 159) (by decide +kernel) rfl
theorem YJ_pre : Ys yJ_pre cJ_pre 3 (some .int) 3 := ⟨wcJ_pre, wsJ_pre, wiJ_2, by decide +kernel, by decide +kernel, by decide +kernel⟩
theorem dJ_pre_0 : decode cJ_pre 0 = .ok (.iload_n 0, 1) := by decide +kernel
theorem dJ_pre_1 : decode cJ_pre 1 = .ok (.ifCond .lt 8, 3) := by decide +kernel
theorem dJ_pre_4 : decode cJ_pre 4 = .ok (.iload_n 0, 1) := by decide +kernel
theorem dJ_pre_5 : decode cJ_pre 5 = .ok (.iload_n 1, 1) := by decide +kernel
theorem dJ_pre_6 : decode cJ_pre 6 = .ok (.if_icmp .lt 10, 3) := by decide +kernel
theorem dJ_pre_9 : decode cJ_pre 9 = .ok (.aload_n 2, 1) := by decide +kernel
theorem dJ_pre_10 : decode cJ_pre 10 = .ok (.iload_n 0, 1) := by decide +kernel
theorem dJ_pre_11 : decode cJ_pre 11 = .ok (.iload_n 1, 1) := by decide +kernel
theorem dJ_pre_12 : decode cJ_pre 12 = .ok (.invokestatic 95, 3) := by decide +kernel
theorem dJ_pre_15 : decode cJ_pre 15 = .ok (.athrow, 1) := by decide +kernel
theorem dJ_pre_16 : decode cJ_pre 16 = .ok (.iload_n 0, 1) := by decide +kernel
theorem dJ_pre_17 : decode cJ_pre 17 = .ok (.ireturn, 1) := by decide +kernel
abbrev cJ_cha : ByteArray := prog_21_method_56_code
def yJ_cha : MethodName := ⟨"java/lang/String", "charAt", "(I)C"⟩
theorem wcJ_cha : Cond.code yJ_cha cJ_cha 2 (some .char) ∈ tb := tb_4 (i := 145) rfl rfl
theorem wnJ_cha : Cond.instanceMethod yJ_cha ∈ tb := tb_4 (i := 143) (by decide +kernel) rfl
theorem wlJ_cha : Cond.selects "java/lang/String" yJ_cha yJ_cha ∈ tb := tb_4 (i := 144) (by decide +kernel) rfl
theorem YJ_cha : Yv yJ_cha cJ_cha 2 (some .char) 1 := ⟨wcJ_cha, wlJ_cha, wnJ_cha, wiJ_0, by decide +kernel, by decide +kernel, by decide +kernel⟩
theorem dJ_cha_0 : decode cJ_cha 0 = .ok (.aload_n 0, 1) := by decide +kernel
theorem dJ_cha_1 : decode cJ_cha 1 = .ok (.invokevirtual 492, 3) := by decide +kernel
theorem dJ_cha_4 : decode cJ_cha 4 = .ok (.ifCond .eq 12, 3) := by decide +kernel
theorem dJ_cha_7 : decode cJ_cha 7 = .ok (.aload_n 0, 1) := by decide +kernel
theorem dJ_cha_8 : decode cJ_cha 8 = .ok (.getfield 9, 3) := by decide +kernel
theorem dJ_cha_11 : decode cJ_cha 11 = .ok (.iload_n 1, 1) := by decide +kernel
theorem dJ_cha_12 : decode cJ_cha 12 = .ok (.invokestatic 495, 3) := by decide +kernel
theorem dJ_cha_15 : decode cJ_cha 15 = .ok (.ireturn, 1) := by decide +kernel
theorem dJ_cha_16 : decode cJ_cha 16 = .ok (.aload_n 0, 1) := by decide +kernel
theorem dJ_cha_17 : decode cJ_cha 17 = .ok (.getfield 9, 3) := by decide +kernel
theorem dJ_cha_20 : decode cJ_cha 20 = .ok (.iload_n 1, 1) := by decide +kernel
theorem dJ_cha_21 : decode cJ_cha 21 = .ok (.invokestatic 498, 3) := by decide +kernel
theorem dJ_cha_24 : decode cJ_cha 24 = .ok (.ireturn, 1) := by decide +kernel
abbrev cJ_fmd : ByteArray := prog_19_method_50_code
def yJ_fmd : MethodName := ⟨"java/lang/Math", "floorMod", "(II)I"⟩
theorem wcJ_fmd : Cond.code yJ_fmd cJ_fmd 3 (some .int) ∈ tb := tb_6 (i := 26) rfl rfl
theorem wiJ_3 : Cond.initialized "java/lang/Math" ∈ tb := tb_1 (i := 15) (by decide +kernel) rfl
theorem wsJ_fmd : Cond.static yJ_fmd ∈ tb := tb_6 (i := 25) (by decide +kernel) rfl
theorem YJ_fmd : Ys yJ_fmd cJ_fmd 3 (some .int) 2 := ⟨wcJ_fmd, wsJ_fmd, wiJ_3, by decide +kernel, by decide +kernel, by decide +kernel⟩
theorem dJ_fmd_0 : decode cJ_fmd 0 = .ok (.iload_n 0, 1) := by decide +kernel
theorem dJ_fmd_1 : decode cJ_fmd 1 = .ok (.iload_n 1, 1) := by decide +kernel
theorem dJ_fmd_2 : decode cJ_fmd 2 = .ok (.irem, 1) := by decide +kernel
theorem dJ_fmd_3 : decode cJ_fmd 3 = .ok (.istore_n 2, 1) := by decide +kernel
theorem dJ_fmd_4 : decode cJ_fmd 4 = .ok (.iload_n 0, 1) := by decide +kernel
theorem dJ_fmd_5 : decode cJ_fmd 5 = .ok (.iload_n 1, 1) := by decide +kernel
theorem dJ_fmd_6 : decode cJ_fmd 6 = .ok (.ixor, 1) := by decide +kernel
theorem dJ_fmd_7 : decode cJ_fmd 7 = .ok (.ifCond .ge 11, 3) := by decide +kernel
theorem dJ_fmd_10 : decode cJ_fmd 10 = .ok (.iload_n 2, 1) := by decide +kernel
theorem dJ_fmd_11 : decode cJ_fmd 11 = .ok (.ifCond .eq 7, 3) := by decide +kernel
theorem dJ_fmd_14 : decode cJ_fmd 14 = .ok (.iload_n 2, 1) := by decide +kernel
theorem dJ_fmd_15 : decode cJ_fmd 15 = .ok (.iload_n 1, 1) := by decide +kernel
theorem dJ_fmd_16 : decode cJ_fmd 16 = .ok (.iadd, 1) := by decide +kernel
theorem dJ_fmd_17 : decode cJ_fmd 17 = .ok (.ireturn, 1) := by decide +kernel
theorem dJ_fmd_18 : decode cJ_fmd 18 = .ok (.iload_n 2, 1) := by decide +kernel
theorem dJ_fmd_19 : decode cJ_fmd 19 = .ok (.ireturn, 1) := by decide +kernel
theorem kJ_cs : Cond.fieldLink "java/lang/String" 38 "java/lang/String" "COMPACT_STRINGS" "Z" ∈ tb := tb_4 (i := 140) (by decide +kernel) rfl
theorem kJ_va : Cond.fieldLink "java/lang/String" 9 "java/lang/String" "value" "[B" ∈ tb := tb_12 (i := 156) (by decide +kernel) rfl
theorem kJ_co : Cond.fieldLink "java/lang/String" 15 "java/lang/String" "coder" "B" ∈ tb := tb_12 (i := 157) (by decide +kernel) rfl
theorem kJ_fo : Cond.fieldLink "java/lang/String" 1053 "jdk/internal/util/Preconditions" "SIOOBE_FORMATTER" "Ljava/util/function/BiFunction;" ∈ tb := tb_4 (i := 156) (by decide +kernel) rfl
theorem kJ_335 : Cond.methodLink "java/lang/String" 335 yJ_coder ∈ tb := tb_4 (i := 136) (by decide +kernel) rfl
theorem kJ_492 : Cond.methodLink "java/lang/String" 492 yJ_lat ∈ tb := tb_4 (i := 146) (by decide +kernel) rfl
theorem kJ_495 : Cond.methodLink "java/lang/String" 495 yJ_lch ∈ tb := tb_4 (i := 150) (by decide +kernel) rfl
theorem kJ_9 : Cond.methodLink "java/lang/StringLatin1" 9 yJ_chk ∈ tb := tb_4 (i := 153) (by decide +kernel) rfl
theorem kJ_1059 : Cond.methodLink "java/lang/String" 1059 yJ_pre ∈ tb := tb_4 (i := 158) (by decide +kernel) rfl
/-- from a walk of a body to its contract, for a method that no native stands in for (whatever its class) -/
theorem met_F {l : Launch} {y : MethodName} {ws ws' : List Cond} {rm : Room} {Pc : Array Value → State → Prop} {Qc : Array Value → State → Outcome → State → Prop} {mc ms : Nat} {free : Addr → Prop} {cc : ByteArray} {maxL : Nat} {ret : Option FieldType} (hy : plainFor y = true) (hw : ws = Cond.code y cc maxL ret :: ws')
    (body : ∀ p e s m args below meth c s₁, BodyLoose p l y (headSpec ws rm) cc maxL ret e s m args below meth c s₁ → c.maxLocals = maxL → Pc args s → W p l e (headSpec ws rm).room s m args below meth c s.heap [] 0 0 (MQ below Qc args s mc ms free) (entryFrame m args maxL)) : Met l y ws rm Pc Qc mc ms free := by
  refine MetFree.of_bodySF (code := cc) (maxLocals := maxL) (ret := ret) hy (fun args s m h hn => ?_) (fun p e s m args below meth c s₁ B hml hP _ => ?_)
  · obtain ⟨meth, c, h1, h2, h3, h4, h5, h6, -⟩ := Cond.code_spec hn (atoms_spec (ws := ws) h _ (by rw [hw]; exact List.mem_cons_self))
    exact ⟨meth, c, h1, h2, h3, h4, h5, h6⟩
  · have hh : s₁.heap = s.heap := by rw [B.state]; rfl
    obtain ⟨t, a1, o, b1, b2, b3⟩ := body p e s m args below meth c s₁ B hml hP s₁ hh (Stand.of_body B)
    exact ⟨t, o, a1, b1, b2, ⟨b3.1, b3.2⟩⟩
/-- a contract that answers a number of some kind -/
def CtR (ret : FieldType) (l : Launch) (y : MethodName) (cc : ByteArray) (nL : Nat) (rm : Room) (D : va_G) (G : Nat → ClassId) (t : Nat → Nat) (u : PS) (av : List Value) (post : Int32 → PS → Prop) : Prop :=
  ∀ sz, Met l y (wY y cc nL (some ret)) rm (va_Pc av (PP D G t u sz)) (va_Qi post (PB D G (PA u sz)) (PA u sz)) rm.cells rm.slots (PA u sz)
theorem ct_R {ret : FieldType} {l : Launch} {y : MethodName} {cc : ByteArray} {nL : Nat} {rm : Room} {D : va_G} {G : Nat → ClassId} {t : Nat → Nat} {N : Nat} {ad : Nat → Nat} {cl : Nat → va_E} {av : List Value} {post : Int32 → PS → Prop} {own : String} (hy : plainFor y = true) (ho : y.cls = own) (hlen : (lg_sl av).length ≤ nL) {lv : List (Nat × Value)} (hlv : lv_args 0 av = lv)
    (body : ∀ p e s m args below meth c A ls, Cx p s m args meth c cc nL own D G t A → meth.sig.returnType = some ret → lv_has ls nL lv → Wd D A s s.heap [] N ad cl → W p l e rm s m args below meth c s.heap [] 0 0 (MQ below (va_Qi post (PB D G A) A) args s rm.cells rm.slots A) (F0 m 0 ls [])) : CtR ret l y cc nL rm D G t (N, ad, cl) av post := by
  intro sz
  refine met_F (cc := cc) (maxL := nL) (ret := some ret) hy rfl ?_
  intro p e s m args below meth c s₁ B hml hv
  obtain ⟨rfl, hsz, hP, hK, hD0, hZ, hN⟩ := hv
  have hts := atoms_spec (ws := wY y cc nL (some ret)) B.pre
  have hown : s.vm.findClass y.cls = some m.cls := findClass_of_methodNamed B.named
  subst hsz
  have hD := hD0.self (sz := s.heap.size)
  have hl := lv_entry av (n := nL) hlen
  rw [lg_entry_eq]
  rw [hlv] at hl
  exact body p e s m _ below meth c _ _ ⟨B.exec, B.bytes, hml, by rw [← ho]; exact hown, fun w hw => hts w (List.mem_cons_of_mem _ hw), hK, fun q h => Or.inr h, hZ, hN, B.notSynchronized⟩ B.returns hl ⟨hP, hD, va_S.rf⟩
section
variable {p : Program} {l : Launch} {e : Env} {R : Room} {s : State} {m : MethodId} {args : Array Value} {below : List Frame} {meth : Method} {c : Code} {H : Heap} {locs : List Loc} {cells slots : Nat} {Q : State → Prop}
variable {cc : ByteArray} {nL pc : Nat} {own : String} {ls : Array Slot} {rest : List Value} {D : va_G} {G : Nat → ClassId} {t : Nat → Nat} {A : Nat → Prop} {N : Nat} {ad : Nat → Nat} {cl : Nat → va_E}
theorem e_R {ty : FieldType} {mc ms : Nat} {post : Int32 → PS → Prop} {v : Int32} (X : Cx p s m args meth c cc nL own D G t A) (hr : meth.sig.returnType = some ty) (hv : narrow ty (.int v) = .int v) (w : Wd D A s H locs N ad cl) (hp : post v (N, ad, cl)) (h1 : cells ≤ mc) (h2 : slots ≤ ms) (hdg : decode cc pc = .ok (.ireturn, 1)) : W p l e R s m args below meth c H locs cells slots (MQ below (va_Qi post (PB D G A) A) args s mc ms A) (F0 m pc ls [.int v]) := by
  obtain ⟨hx, hb, hml, hown, hts, hK, hA, hZ, hN, hlo⟩ := X
  refine W.widen (k := mc) (n := ms) h1 h2 ?_
  exact W.zret hx hb hr hv (fun t9 ht hW => ⟨⟨v, (N, ad, cl), rfl, hp, by rw [ht]; exact w.1, va_K.moved hW.alike hK, w.2.1⟩, w.2.2.F ht⟩) w.2.2.2.2 hdg hlo
/-- a call on a text constant -/
theorem c_RV {ty : FieldType} {y : MethodName} {c2 : ByteArray} {n2 d mc ms n idx : Nat} {av As : List Value} {post : Int32 → PS → Prop} {i : Nat} {st : List Value} (X : Cx p s m args meth c cc nL own D G t A) (w : Wd D A s H locs N ad cl) (M : CtR ty l y c2 n2 (rmD d mc ms) D G t (N, ad, cl) av post) (Y : Yv y c2 n2 (some ty) n) (hyc : y.cls = "java/lang/String") (hl : Cond.methodLink own idx y ∈ tb) (hi : i < 11) (hav : av = .ref (t (7 + i)) :: As) (hst : st = As.reverse ++ .ref (t (7 + i)) :: rest) (hn : As.length = n) (hls : ls.size = nL)
    (hR : d + 1 ≤ R.frames ∧ 8 + (n2 + 11) + 60 * d ≤ R.locals) (hW : (rest.map fun v => v.category).sum ≤ 8) (hdg : decode cc pc = .ok (.invokevirtual idx, 3)) (hf : cells + mc ≤ R.cells ∧ slots + ms ≤ R.slots)
    (kk : ∀ (r : Int32) (u' : PS) (H : Heap) (locs : List Loc), post r u' → Wd D A s H locs u'.1 u'.2.1 u'.2.2 → W p l e R s m args below meth c H locs (cells + mc) (slots + ms) Q (F0 m (pc + 3) ls (.int r :: rest))) : W p l e R s m args below meth c H locs cells slots Q (F0 m pc ls st) := by
  subst hav; subst hst
  have X0 := X
  obtain ⟨hx, hb, hml, hown, hts, hK, hA, hZ, hN, hlo⟩ := X
  have hF := w.free X0
  obtain ⟨cell, o1, o2, o3, -⟩ := ((hZ.2.2.2.2.2.2.2.1 i hi).1).kept w.2.2.2.1
  refine va_calli (va_runV (As := As) (rest := rest) ⟨hx, hb, hml, hown, hts⟩ (M H.size) (cw_V X0 Y hl hR) ⟨PP.blind, ⟨cell, o1, o2, by rw [hyc]; exact o3⟩, fun U hU hW => ⟨rfl, PP.of X0 w hU hW⟩⟩ rfl hn hls rfl (lv_room hW) hdg hf) w.2.2 (fun q _ h => hF q h) hF (fun r u' T H1 locs1 hT hvm hp hB _ _ hS => ?_)
  exact kk r u' H1 locs1 hp (w.back X0 hT hB hS)
theorem c_RS {ty : FieldType} {y : MethodName} {c2 : ByteArray} {n2 d mc ms n idx : Nat} {av As : List Value} {post : Int32 → PS → Prop} {st : List Value} (X : Cx p s m args meth c cc nL own D G t A) (w : Wd D A s H locs N ad cl) (M : CtR ty l y c2 n2 (rmD d mc ms) D G t (N, ad, cl) av post) (Y : Ys y c2 n2 (some ty) n) (hl : Cond.methodLink own idx y ∈ tb) (hav : av = As) (hst : st = As.reverse ++ rest) (hn : As.length = n) (hls : ls.size = nL)
    (hR : d + 1 ≤ R.frames ∧ 8 + (n2 + 11) + 60 * d ≤ R.locals) (hW : (rest.map fun v => v.category).sum ≤ 8) (hdg : decode cc pc = .ok (.invokestatic idx, 3)) (hf : cells + mc ≤ R.cells ∧ slots + ms ≤ R.slots)
    (kk : ∀ (r : Int32) (u' : PS) (H : Heap) (locs : List Loc), post r u' → Wd D A s H locs u'.1 u'.2.1 u'.2.2 → W p l e R s m args below meth c H locs (cells + mc) (slots + ms) Q (F0 m (pc + 3) ls (.int r :: rest))) : W p l e R s m args below meth c H locs cells slots Q (F0 m pc ls st) := by
  subst hav; subst hst
  have X0 := X
  obtain ⟨hx, hb, hml, hown, hts, hK, hA, hZ, hN, hlo⟩ := X
  have hF := w.free X0
  refine va_calli (va_runS (As := av) (rest := rest) ⟨hx, hb, hml, hown, hts⟩ (M H.size) (cw_S X0 Y hl hR) ⟨PP.blind, fun U hU hW => ⟨rfl, PP.of X0 w hU hW⟩⟩ rfl hn hls rfl (lv_room hW) hdg hf) w.2.2 (fun q _ h => hF q h) hF (fun r u' T H1 locs1 hT hvm hp hB _ _ hS => ?_)
  exact kk r u' H1 locs1 hp (w.back X0 hT hB hS)
theorem c_SV {y : MethodName} {c2 : ByteArray} {n2 d mc ms n idx : Nat} {av As : List Value} {post : PS → Prop} {st : List Value} (X : Cx p s m args meth c cc nL own D G t A) (w : Wd D A s H locs N ad cl) (M : CtV l y c2 n2 (rmD d mc ms) D G t (N, ad, cl) av post) (Y : Ys y c2 n2 none n) (hl : Cond.methodLink own idx y ∈ tb) (hav : av = As) (hst : st = As.reverse ++ rest) (hn : As.length = n) (hls : ls.size = nL)
    (hR : d + 1 ≤ R.frames ∧ 8 + (n2 + 11) + 60 * d ≤ R.locals) (hW : (rest.map fun v => v.category).sum ≤ 8) (hdg : decode cc pc = .ok (.invokestatic idx, 3)) (hf : cells + mc ≤ R.cells ∧ slots + ms ≤ R.slots)
    (kk : ∀ (u' : PS) (H : Heap) (locs : List Loc), post u' → Wd D A s H locs u'.1 u'.2.1 u'.2.2 → W p l e R s m args below meth c H locs (cells + mc) (slots + ms) Q (F0 m (pc + 3) ls rest)) : W p l e R s m args below meth c H locs cells slots Q (F0 m pc ls st) := by
  subst hav; subst hst
  have X0 := X
  obtain ⟨hx, hb, hml, hown, hts, hK, hA, hZ, hN, hlo⟩ := X
  have hF := w.free X0
  refine va_callv (va_runS (As := av) (rest := rest) ⟨hx, hb, hml, hown, hts⟩ (M H.size) (cw_S X0 Y hl hR) ⟨PP.blind, fun U hU hW => ⟨rfl, PP.of X0 w hU hW⟩⟩ rfl hn hls rfl (lv_room hW) hdg hf) w.2.2 (fun q _ h => hF q h) hF (fun u' T H1 locs1 hT hvm hp hB _ _ hS => ?_)
  exact kk u' H1 locs1 hp (w.back X0 hT hB hS)
end
def strC (i k : Nat) : Int32 := (strBy.getD i []).getD k 0
theorem str_ch : ∀ i, i < 11 → ∀ k, k < strLn.getD i 0 → ((strC i k &&& 255).toUInt32 % 65536).toInt32 = strC i k ∧ narrow .char (.int (strC i k)) = .int (strC i k) := by decide +kernel
theorem str_ln : ∀ i, i < 11 → nI (strLn.getD i 0) >>> ((0 : Int32) &&& 31) = nI (strLn.getD i 0) ∧ strLn.getD i 0 ≤ 100 := by decide +kernel
section
variable (l : Launch) (D : va_G) (G : Nat → ClassId) (t : Nat → Nat) (N : Nat) (ad : Nat → Nat) (cl : Nat → va_E) (d : Nat)
theorem ct_coder (i : Nat) (hi : i < 11) : CtR .byte l yJ_coder cJ_coder 1 (rmD d 0 0) D G t (N, ad, cl) [.ref (t (7 + i))] (fun r u => r = 0 ∧ u = (N, ad, cl)) := by
  refine ct_R (own := "java/lang/String") (by decide +kernel) rfl (Nat.le_refl 1) rfl ?_
  intro p e s m args below meth c A ls X hr hl w
  obtain ⟨hx, hb, hml, hown, hts, hK, hA, hZ, hN, hlo⟩ := id X
  obtain ⟨z1, z2, z3⟩ := hZ.2.2.2.2.2.2.2
  have hl : lv_has ls 1 [(0, .ref (t (7 + i)))] := hl
  refine va_gets hx hb z2 w.2.2 hown (hts _ kJ_cs) (fun _ h => h) dJ_coder_0 ?_
  refine lv_if_eq (tgt := 13) hx hb dJ_coder_3 (by decide) (fun h => absurd h (by decide)) (fun _ => ?_)
  refine lv_aload_n hx hb dJ_coder_6 rfl (lv_at hl 0 rfl) ?_
  refine vk_getf hx hb (z1 i hi).2.1 w.2.2 hown (hts _ kJ_co) (fun _ h => h) dJ_coder_7 ?_
  refine lv_goto (tgt := 14) hx hb dJ_coder_10 (by decide) ?_
  exact e_R X hr (by decide) w ⟨rfl, rfl⟩ (Nat.zero_le _) (Nat.zero_le _) dJ_coder_14
theorem ct_lat (i : Nat) (hi : i < 11) : CtR .boolean l yJ_lat cJ_lat 1 (rmD d 0 0) D G t (N, ad, cl) [.ref (t (7 + i))] (fun r u => r = 1 ∧ u = (N, ad, cl)) := by
  refine ct_R (own := "java/lang/String") (by decide +kernel) rfl (Nat.le_refl 1) rfl ?_
  intro p e s m args below meth c A ls X hr hl w
  obtain ⟨hx, hb, hml, hown, hts, hK, hA, hZ, hN, hlo⟩ := id X
  obtain ⟨z1, z2, z3⟩ := hZ.2.2.2.2.2.2.2
  have hl : lv_has ls 1 [(0, .ref (t (7 + i)))] := hl
  refine va_gets hx hb z2 w.2.2 hown (hts _ kJ_cs) (fun _ h => h) dJ_lat_0 ?_
  refine lv_if_eq (tgt := 17) hx hb dJ_lat_3 (by decide) (fun h => absurd h (by decide)) (fun _ => ?_)
  refine lv_aload_n hx hb dJ_lat_6 rfl (lv_at hl 0 rfl) ?_
  refine vk_getf hx hb (z1 i hi).2.1 w.2.2 hown (hts _ kJ_co) (fun _ h => h) dJ_lat_7 ?_
  refine lv_if_ne (tgt := 17) hx hb dJ_lat_10 (by decide) (fun h => absurd rfl h) (fun _ => ?_)
  refine lv_iconst (v := 1) hx hb dJ_lat_13 (by decide) ?_
  refine lv_goto (tgt := 18) hx hb dJ_lat_14 (by decide) ?_
  exact e_R X hr (by decide) w ⟨rfl, rfl⟩ (Nat.zero_le _) (Nat.zero_le _) dJ_lat_18
theorem ct_len (i : Nat) (hi : i < 11) (hd : 1 ≤ d) : CtR .int l yJ_len cJ_len 1 (rmD d 0 0) D G t (N, ad, cl) [.ref (t (7 + i))] (fun r u => r = nI (strLn.getD i 0) ∧ u = (N, ad, cl)) := by
  refine ct_R (own := "java/lang/String") (by decide +kernel) rfl (Nat.le_refl 1) rfl ?_
  intro p e s m args below meth c A ls X hr hl w
  obtain ⟨hx, hb, hml, hown, hts, hK, hA, hZ, hN, hlo⟩ := id X
  obtain ⟨z1, z2, z3⟩ := hZ.2.2.2.2.2.2.2
  have hls := hl.1
  have hl : lv_has ls 1 [(0, .ref (t (7 + i)))] := hl
  refine lv_aload_n hx hb dJ_len_0 rfl (lv_at hl 0 rfl) ?_
  refine vk_getf hx hb (z1 i hi).2.2.1 w.2.2 hown (hts _ kJ_va) (fun _ h => h) dJ_len_1 ?_
  refine va_tlen hx hb (z1 i hi).2.2.2 w.2.2 rfl dJ_len_4 ?_
  refine lv_aload_n hx hb dJ_len_5 rfl (lv_at hl 0 rfl) ?_
  refine c_RV (d := d - 1) X w (ct_coder l D G t N ad cl (d - 1) i hi) YJ_coder rfl kJ_335 hi (As := []) rfl rfl rfl hls ⟨by show d - 1 + 1 ≤ d; omega, by show 8 + (1 + 11) + 60 * (d - 1) ≤ 60 * d; omega⟩ (by show _ ≤ 8; simp [Value.category]) dJ_len_6 ⟨Nat.zero_le _, Nat.zero_le _⟩ (fun r u' H locs hp w => ?_)
  obtain ⟨rfl, rfl⟩ := hp
  refine lv_ishr hx hb dJ_len_9 ?_
  rw [show Int32.ofNat (strLn.getD i 0) >>> ((0 : Int32) &&& 31) = nI (strLn.getD i 0) from (str_ln i hi).1]
  exact e_R X hr rfl w ⟨rfl, rfl⟩ (Nat.zero_le _) (Nat.zero_le _) dJ_len_10
theorem ct_pre (x n : Int32) (v : Value) (h0 : ¬ x < 0) (h1 : x < n) (hv : v.category = 1) : CtR .int l yJ_pre cJ_pre 3 (rmD d 0 0) D G t (N, ad, cl) [.int x, .int n, v] (fun r u => u = (N, ad, cl)) := by
  have hsl3 : (lg_sl [.int x, .int n, v]).length ≤ 3 := by
    have e : (lg_sl [.int x, .int n, v]).length = 2 + (if v.category = 2 then [Slot.val v, Slot.second] else [Slot.val v]).length := by
      show (_ ++ (_ ++ (_ ++ []))).length = _
      rw [List.append_nil, List.length_append, List.length_append]
      show 1 + (1 + (if v.category = 2 then [Slot.val v, Slot.second] else [Slot.val v]).length) = _
      omega
    rw [e, if_neg (by rw [hv]; decide)]
    exact Nat.le_refl 3
  refine ct_R (own := "jdk/internal/util/Preconditions") (by decide +kernel) rfl hsl3 (lv := [(0, .int x), (1, .int n), (2, v)]) rfl ?_
  intro p e s m args below meth c A ls X hr hl w
  obtain ⟨hx, hb, hml, hown, hts, hK, hA, hZ, hN, hlo⟩ := id X
  refine lv_iload_n hx hb dJ_pre_0 rfl (lv_at hl 0 rfl) ?_
  refine lv_if_lt (tgt := 9) hx hb dJ_pre_1 (by decide) (fun h => absurd h h0) (fun _ => ?_)
  refine lv_iload_n hx hb dJ_pre_4 rfl (lv_at hl 0 rfl) ?_
  refine lv_iload_n hx hb dJ_pre_5 rfl (lv_at hl 1 rfl) ?_
  refine lv_icmp_lt (tgt := 16) hx hb dJ_pre_6 (by decide) (fun _ => ?_) (fun h => absurd h1 h)
  refine lv_iload_n hx hb dJ_pre_16 rfl (lv_at hl 0 rfl) ?_
  exact e_R X hr rfl w rfl (Nat.zero_le _) (Nat.zero_le _) dJ_pre_17
theorem ct_chk (x n : Int32) (h0 : ¬ x < 0) (h1 : x < n) (hd : 1 ≤ d) : CtV l yJ_chk cJ_chk 2 (rmD d 0 0) D G t (N, ad, cl) [.int x, .int n] (fun u => u = (N, ad, cl)) := by
  refine ct_V (own := "java/lang/String") (by decide +kernel) rfl (Nat.le_refl 2) (lv := [(0, .int x), (1, .int n)]) rfl ?_
  intro p e s m args below meth c A ls X hr hin hl w
  obtain ⟨hx, hb, hml, hown, hts, hK, hA, hZ, hN, hlo⟩ := id X
  obtain ⟨z1, z2, z3⟩ := hZ.2.2.2.2.2.2.2
  have hls := hl.1
  refine lv_iload_n hx hb dJ_chk_0 rfl (lv_at hl 0 rfl) ?_
  refine lv_iload_n hx hb dJ_chk_1 rfl (lv_at hl 1 rfl) ?_
  have go : ∀ v : Value, v.category = 1 → va_Z "jdk/internal/util/Preconditions" "SIOOBE_FORMATTER" "Ljava/util/function/BiFunction;" v A s s.heap → W p l e (rmD d 0 0) s m args below meth c s.heap [] 0 0 (MQ below (va_Qv (fun u => u = (N, ad, cl)) (PB D G A) A) args s (rmD d 0 0).cells (rmD d 0 0).slots A) (F0 m 2 ls [.int n, .int x]) := by
    intro v hv hz
    refine va_gets hx hb hz w.2.2 hown (hts _ kJ_fo) (fun _ h => h) dJ_chk_2 ?_
    refine c_RS (d := d - 1) X w (ct_pre l D G t N ad cl (d - 1) x n v h0 h1 hv) YJ_pre kJ_1059 (As := [.int x, .int n, v]) rfl rfl rfl hls ⟨by show d - 1 + 1 ≤ d; omega, by show 8 + (3 + 11) + 60 * (d - 1) ≤ 60 * d; omega⟩ (by show _ ≤ 8; simp [Value.category]) dJ_chk_5 ⟨Nat.zero_le _, Nat.zero_le _⟩ (fun r u' H locs hp w => ?_)
    subst hp
    refine lv_pop hx hb dJ_chk_8 rfl ?_
    exact e_V X hr w rfl (Nat.zero_le _) (Nat.zero_le _) dJ_chk_9
  rcases z3 with z3 | ⟨q, z3⟩
  · exact go _ rfl z3
  · exact go _ rfl z3
theorem ct_lch (i k : Nat) (hi : i < 11) (hk : k < strLn.getD i 0) (hd : 2 ≤ d) : CtR .char l yJ_lch cJ_lch 2 (rmD d 0 0) D G t (N, ad, cl) [.ref (t (18 + i)), .int (nI k)] (fun r u => r = strC i k ∧ u = (N, ad, cl)) := by
  refine ct_R (own := "java/lang/StringLatin1") (by decide +kernel) rfl (Nat.le_refl 2) (lv := [(0, .ref (t (18 + i))), (1, .int (nI k))]) rfl ?_
  intro p e s m args below meth c A ls X hr hl w
  obtain ⟨hx, hb, hml, hown, hts, hK, hA, hZ, hN, hlo⟩ := id X
  obtain ⟨z1, z2, z3⟩ := hZ.2.2.2.2.2.2.2
  have hls := hl.1
  have h100 := (str_ln i hi).2
  refine lv_iload_n hx hb dJ_lch_0 rfl (lv_at hl 1 rfl) ?_
  refine lv_aload_n hx hb dJ_lch_1 rfl (lv_at hl 0 rfl) ?_
  refine va_tlen hx hb (z1 i hi).2.2.2 w.2.2 rfl dJ_lch_2 ?_
  refine c_SV (d := d - 1) X w (ct_chk l D G t N ad cl (d - 1) (nI k) (nI (strLn.getD i 0)) (nI_pos (by omega)) (nI_lt hk (by omega)) (by omega)) YJ_chk kJ_9 (As := [.int (nI k), .int (nI (strLn.getD i 0))]) rfl rfl rfl hls ⟨by show d - 1 + 1 ≤ d; omega, by show 8 + (2 + 11) + 60 * (d - 1) ≤ 60 * d; omega⟩ (by show _ ≤ 8; simp [Value.category]) dJ_lch_3 ⟨Nat.zero_le _, Nat.zero_le _⟩ (fun u' H locs hp w => ?_)
  subst hp
  refine lv_aload_n hx hb dJ_lch_6 rfl (lv_at hl 0 rfl) ?_
  refine lv_iload_n hx hb dJ_lch_7 rfl (lv_at hl 1 rfl) ?_
  refine va_tb hx hb (z1 i hi).2.2.2 w.2.2 (nI_in hk (by omega)) (v := .int (strC i k)) (by rw [nI_clamp (by omega)]; rfl) dJ_lch_8 ?_
  refine lv_sipush (v := 255) hx hb dJ_lch_9 (by decide) ?_
  refine lv_iand hx hb dJ_lch_12 ?_
  refine lv_i2c (v := strC i k) hx hb dJ_lch_13 (str_ch i hi k hk).1 ?_
  exact e_R X hr (str_ch i hi k hk).2 w ⟨rfl, rfl⟩ (Nat.zero_le _) (Nat.zero_le _) dJ_lch_14
theorem ct_cha (i k : Nat) (hi : i < 11) (hk : k < strLn.getD i 0) (hd : 3 ≤ d) : CtR .char l yJ_cha cJ_cha 2 (rmD d 0 0) D G t (N, ad, cl) [.ref (t (7 + i)), .int (nI k)] (fun r u => r = strC i k ∧ u = (N, ad, cl)) := by
  refine ct_R (own := "java/lang/String") (by decide +kernel) rfl (Nat.le_refl 2) (lv := [(0, .ref (t (7 + i))), (1, .int (nI k))]) rfl ?_
  intro p e s m args below meth c A ls X hr hl w
  obtain ⟨hx, hb, hml, hown, hts, hK, hA, hZ, hN, hlo⟩ := id X
  obtain ⟨z1, z2, z3⟩ := hZ.2.2.2.2.2.2.2
  have hls := hl.1
  refine lv_aload_n hx hb dJ_cha_0 rfl (lv_at hl 0 rfl) ?_
  refine c_RV (d := d - 1) X w (ct_lat l D G t N ad cl (d - 1) i hi) YJ_lat rfl kJ_492 hi (As := []) rfl rfl rfl hls ⟨by show d - 1 + 1 ≤ d; omega, by show 8 + (1 + 11) + 60 * (d - 1) ≤ 60 * d; omega⟩ (by show _ ≤ 8; simp [Value.category]) dJ_cha_1 ⟨Nat.zero_le _, Nat.zero_le _⟩ (fun r u' H locs hp w => ?_)
  obtain ⟨rfl, rfl⟩ := hp
  refine lv_if_eq (tgt := 16) hx hb dJ_cha_4 (by decide) (fun h => absurd h (by decide)) (fun _ => ?_)
  refine lv_aload_n hx hb dJ_cha_7 rfl (lv_at hl 0 rfl) ?_
  refine vk_getf hx hb (z1 i hi).2.2.1 w.2.2 hown (hts _ kJ_va) (fun _ h => h) dJ_cha_8 ?_
  refine lv_iload_n hx hb dJ_cha_11 rfl (lv_at hl 1 rfl) ?_
  refine c_RS (d := d - 1) X w (ct_lch l D G t N ad cl (d - 1) i k hi hk (by omega)) YJ_lch kJ_495 (As := [.ref (t (18 + i)), .int (nI k)]) rfl rfl rfl hls ⟨by show d - 1 + 1 ≤ d; omega, by show 8 + (2 + 11) + 60 * (d - 1) ≤ 60 * d; omega⟩ (by show _ ≤ 8; simp [Value.category]) dJ_cha_12 ⟨Nat.zero_le _, Nat.zero_le _⟩ (fun r u' H locs hp w => ?_)
  obtain ⟨rfl, rfl⟩ := hp
  exact e_R X hr (str_ch i hi k hk).2 w ⟨rfl, rfl⟩ (Nat.zero_le _) (Nat.zero_le _) dJ_cha_15
/-- floorMod -/
def fmod (x y : Int32) : Int32 := if 0 ≤ x ^^^ y then x - x / y * y else if x - x / y * y = 0 then x - x / y * y else x - x / y * y + y
theorem ct_fmd (x y : Int32) (h0 : ¬ y = 0) : CtR .int l yJ_fmd cJ_fmd 3 (rmD d 0 0) D G t (N, ad, cl) [.int x, .int y] (fun r u => r = fmod x y ∧ u = (N, ad, cl)) := by
  refine ct_R (own := "java/lang/Math") (by decide +kernel) rfl (Nat.le_succ 2) (lv := [(0, .int x), (1, .int y)]) rfl ?_
  intro p e s m args below meth c A ls X hr hl w
  obtain ⟨hx, hb, hml, hown, hts, hK, hA, hZ, hN, hlo⟩ := id X
  refine lv_iload_n hx hb dJ_fmd_0 rfl (lv_at hl 0 rfl) ?_
  refine lv_iload_n hx hb dJ_fmd_1 rfl (lv_at hl 1 rfl) ?_
  refine lv_irem hx hb dJ_fmd_2 h0 ?_
  refine lv_istore_n (lv' := [(2, .int (x - x / y * y)), (0, .int x), (1, .int y)]) hx hb dJ_fmd_3 rfl hl (by decide) rfl (fun ls hl => ?_)
  refine lv_iload_n hx hb dJ_fmd_4 rfl (lv_at hl 1 rfl) ?_
  refine lv_iload_n hx hb dJ_fmd_5 rfl (lv_at hl 2 rfl) ?_
  refine lv_ixor hx hb dJ_fmd_6 ?_
  refine lv_if_ge (tgt := 18) hx hb dJ_fmd_7 (by decide) (fun h1 => ?_) (fun h1 => ?_)
  · have hf : fmod x y = x - x / y * y := by unfold fmod; rw [if_pos h1]
    refine lv_iload_n hx hb dJ_fmd_18 rfl (lv_at hl 0 rfl) ?_
    exact e_R X hr rfl w ⟨hf.symm, rfl⟩ (Nat.zero_le _) (Nat.zero_le _) dJ_fmd_19
  · refine lv_iload_n hx hb dJ_fmd_10 rfl (lv_at hl 0 rfl) ?_
    refine lv_if_eq (tgt := 18) hx hb dJ_fmd_11 (by decide) (fun h2 => ?_) (fun h2 => ?_)
    · have hf : fmod x y = x - x / y * y := by unfold fmod; rw [if_neg h1, if_pos h2]
      refine lv_iload_n hx hb dJ_fmd_18 rfl (lv_at hl 0 rfl) ?_
      exact e_R X hr rfl w ⟨hf.symm, rfl⟩ (Nat.zero_le _) (Nat.zero_le _) dJ_fmd_19
    · have hf : fmod x y = x - x / y * y + y := by unfold fmod; rw [if_neg h1, if_neg h2]
      refine lv_iload_n hx hb dJ_fmd_14 rfl (lv_at hl 0 rfl) ?_
      refine lv_iload_n hx hb dJ_fmd_15 rfl (lv_at hl 2 rfl) ?_
      refine lv_iadd hx hb dJ_fmd_16 ?_
      exact e_R X hr rfl w ⟨hf.symm, rfl⟩ (Nat.zero_le _) (Nat.zero_le _) dJ_fmd_17
end
section
variable {p : Program} {l : Launch} {e : Env} {R : Room} {s : State} {m : MethodId} {args : Array Value} {below : List Frame} {meth : Method} {c : Code} {H : Heap} {locs : List Loc} {cells slots : Nat} {Q : State → Prop}
variable {cc : ByteArray} {nL pc : Nat} {own : String} {ls : Array Slot} {rest : List Value} {D : va_G} {G : Nat → ClassId} {t : Nat → Nat} {A : Nat → Prop} {N : Nat} {ad : Nat → Nat} {cl : Nat → va_E}
theorem va_fmod {idx : Nat} (X : Cx p s m args meth c cc nL own D G t A) (w : Wd D A s H locs N ad cl) (hls : ls.size = nL) (hl : Cond.methodLink own idx yJ_fmd ∈ tb) (hR : 1 ≤ R.frames ∧ 60 ≤ R.locals) (h8 : (rest.map fun v => v.category).sum ≤ 8) (hc : cells ≤ R.cells) (hs : slots ≤ R.slots) {x y : Int32} (h0 : ¬ y = 0) (hdg : decode cc pc = .ok (.invokestatic idx, 3))
    (kk : ∀ (H : Heap) (locs : List Loc), Wd D A s H locs N ad cl → W p l e R s m args below meth c H locs cells slots Q (F0 m (pc + 3) ls (.int (fmod x y) :: rest))) : W p l e R s m args below meth c H locs cells slots Q (F0 m pc ls (.int y :: .int x :: rest)) := by
  refine c_RS (d := 0) (mc := 0) (ms := 0) X w (ct_fmd l D G t N ad cl 0 x y h0) YJ_fmd hl (As := [.int x, .int y]) rfl rfl rfl hls ⟨by omega, by omega⟩ h8 hdg ⟨hc, hs⟩ (fun r u' H locs hp w => ?_)
  obtain ⟨rfl, rfl⟩ := hp
  exact kk H locs w
end

