/-! CLASSES, METHODS AND LINKS, BY NUMBER -/
def rx : Nat → String
  | 0 => RX0
  | 1 => RX1
  | 2 => RX2
  | 3 => RX3
  | 4 => RX4
  | 5 => RX5
  | 6 => RX6
  | 7 => RX7
  | 8 => RX8
  | 9 => RX9
  | 10 => RX10
  | 11 => RX11
  | 12 => RX12
  | _ => R_law
def tx : Nat → u_T
  | 0 => TX0
  | 1 => TX1
  | 2 => TX2
  | 3 => TX3
  | 4 => TX4
  | 5 => TX5
  | 6 => TX6
  | 7 => TX7
  | 8 => TX8
  | 9 => TX9
  | 10 => TX10
  | 11 => TX11
  | 12 => TX12
  | _ => TX0
def nfx : Nat → Nat
  | 0 => 13
  | 1 => 11
  | 2 => 16
  | 3 => 8
  | 4 => 3
  | 5 => 2
  | 6 => 8
  | 7 => 19
  | 8 => 2
  | 9 => 10
  | 10 => 19
  | 11 => 15
  | 12 => 164
  | _ => 0
def tyx : Nat → (Nat → FieldType)
  | 0 => tyX0
  | 1 => tyX1
  | 2 => tyX2
  | 3 => tyX3
  | 4 => tyX4
  | 5 => tyX5
  | 6 => tyX6
  | 7 => tyX7
  | 8 => tyX8
  | 9 => tyX9
  | 10 => tyX10
  | 11 => tyX11
  | 12 => tyX12
  | _ => tyX0
theorem kcx : ∀ i, i < 13 → Kc i (rx i) (tx i) (nfx i) (tyx i)
  | 0, _ => kc0
  | 1, _ => kc1
  | 2, _ => kc2
  | 3, _ => kc3
  | 4, _ => kc4
  | 5, _ => kc5
  | 6, _ => kc6
  | 7, _ => kc7
  | 8, _ => kc8
  | 9, _ => kc9
  | 10, _ => kc10
  | 11, _ => kc11
  | 12, _ => kc12
  | n + 13, h => absurd h (by omega)
theorem pl_0 : plainName (rx 0) = true := by decide +kernel
theorem pl_1 : plainName (rx 1) = true := by decide +kernel
theorem pl_2 : plainName (rx 2) = true := by decide +kernel
theorem pl_3 : plainName (rx 3) = true := by decide +kernel
theorem pl_4 : plainName (rx 4) = true := by decide +kernel
theorem pl_5 : plainName (rx 5) = true := by decide +kernel
theorem pl_6 : plainName (rx 6) = true := by decide +kernel
theorem pl_7 : plainName (rx 7) = true := by decide +kernel
theorem pl_8 : plainName (rx 8) = true := by decide +kernel
theorem pl_9 : plainName (rx 9) = true := by decide +kernel
theorem pl_10 : plainName (rx 10) = true := by decide +kernel
theorem pl_11 : plainName (rx 11) = true := by decide +kernel
theorem pl_12 : plainName (rx 12) = true := by decide +kernel
theorem pl_13 : plainName (rx 13) = true := by decide +kernel
def AllP {α : Type} (f : α → Prop) : List α → Prop
  | [] => True
  | a :: l => f a ∧ AllP f l
theorem AllP.mem {α : Type} {f : α → Prop} : ∀ {l : List α} {a : α}, AllP f l → a ∈ l → f a
  | [], _, _, h => absurd h List.not_mem_nil
  | b :: l, a, h, hm => by
    rcases List.mem_cons.mp hm with rfl | hm
    · exact h.1
    · exact AllP.mem h.2 hm
theorem AllP.app {α : Type} {f : α → Prop} : ∀ {l k : List α}, AllP f l → AllP f k → AllP f (l ++ k)
  | [], _, _, h => h
  | _ :: l, _, h, h' => ⟨h.1, AllP.app h.2 h'⟩
def YvW (y : MethodName) (cc : ByteArray) (nL : Nat) (ret : Option FieldType) (hh : List (Nat × Nat × Nat × Nat)) (n : Nat) : Prop :=
  Cond.codeWith y cc nL ret hh ∈ tb ∧ Cond.selects y.cls y y ∈ tb ∧ Cond.instanceMethod y ∈ tb ∧ Cond.initialized y.cls ∈ tb ∧ y.cls ≠ "java/lang/invoke/MethodHandle" ∧ y.cls ≠ "java/lang/invoke/VarHandle" ∧ (parseMethodDescriptor y.desc).map (fun d => d.parameters.length) = some n
def YsW (y : MethodName) (cc : ByteArray) (nL : Nat) (ret : Option FieldType) (hh : List (Nat × Nat × Nat × Nat)) (n : Nat) : Prop :=
  Cond.codeWith y cc nL ret hh ∈ tb ∧ Cond.static y ∈ tb ∧ Cond.initialized y.cls ∈ tb ∧ y.cls ≠ "java/lang/invoke/MethodHandle" ∧ y.cls ≠ "java/lang/invoke/VarHandle" ∧ (parseMethodDescriptor y.desc).map (fun d => d.parameters.length) = some n
/-- a method: its name, code, locals, what it returns, its parameters, its kind (0 by receiver, 1 static, 2, 3 the same with a table, 9 the law), its class, its table -/
abbrev MR : Type := MethodName × ByteArray × Nat × Option FieldType × Nat × Nat × Nat × List (Nat × Nat × Nat × Nat)
def MF (q : MR) : Prop := q.2.2.2.2.2.1 = 9 ∨ (plainName q.1.cls = true ∧ q.1.cls = rx q.2.2.2.2.2.2.1 ∧ q.2.2.1 ≤ 41 ∧ ((q.2.2.2.2.2.1 = 0 ∧ q.2.2.2.2.2.2.2 = [] ∧ Yv q.1 q.2.1 q.2.2.1 q.2.2.2.1 q.2.2.2.2.1) ∨ (q.2.2.2.2.2.1 = 1 ∧ q.2.2.2.2.2.2.2 = [] ∧ Ys q.1 q.2.1 q.2.2.1 q.2.2.2.1 q.2.2.2.2.1) ∨ (q.2.2.2.2.2.1 = 2 ∧ q.2.2.2.1 = some .int ∧ YvW q.1 q.2.1 q.2.2.1 q.2.2.2.1 q.2.2.2.2.2.2.2 q.2.2.2.2.1) ∨ (q.2.2.2.2.2.1 = 3 ∧ q.2.2.2.1 = some .int ∧ YsW q.1 q.2.1 q.2.2.1 q.2.2.2.1 q.2.2.2.2.2.2.2 q.2.2.2.2.1)))
abbrev cX0_roomOf : ByteArray := prog_2_method_4_code
def yX0_roomOf : MethodName := ⟨RX0, "roomOf", "(I)I"⟩
theorem wcX0_roomOf : Cond.code yX0_roomOf cX0_roomOf 2 (some .int) ∈ tb := tb_5 (i := 109) rfl rfl
theorem wnX0_roomOf : Cond.instanceMethod yX0_roomOf ∈ tb := tb_5 (i := 107) (by decide +kernel) rfl
theorem wlX0_roomOf : Cond.selects RX0 yX0_roomOf yX0_roomOf ∈ tb := tb_5 (i := 108) (by decide +kernel) rfl
theorem YX0_roomOf : Yv yX0_roomOf cX0_roomOf 2 (some .int) 1 := ⟨wcX0_roomOf, wlX0_roomOf, wnX0_roomOf, wi_0, by decide +kernel, by decide +kernel, by decide +kernel⟩
abbrev cX0_parts : ByteArray := prog_2_method_5_code
def yX0_parts : MethodName := ⟨RX0, "parts", "(I)Z"⟩
theorem wcX0_parts : Cond.code yX0_parts cX0_parts 2 (some .boolean) ∈ tb := tb_5 (i := 147) rfl rfl
theorem wnX0_parts : Cond.instanceMethod yX0_parts ∈ tb := tb_5 (i := 145) (by decide +kernel) rfl
theorem wlX0_parts : Cond.selects RX0 yX0_parts yX0_parts ∈ tb := tb_5 (i := 146) (by decide +kernel) rfl
theorem YX0_parts : Yv yX0_parts cX0_parts 2 (some .boolean) 1 := ⟨wcX0_parts, wlX0_parts, wnX0_parts, wi_0, by decide +kernel, by decide +kernel, by decide +kernel⟩
abbrev cX0_partLetters : ByteArray := prog_2_method_6_code
def yX0_partLetters : MethodName := ⟨RX0, "partLetters", "(LTypeRoom$Row;II)V"⟩
theorem wcX0_partLetters : Cond.code yX0_partLetters cX0_partLetters 8 none ∈ tb := tb_5 (i := 126) rfl rfl
theorem wnX0_partLetters : Cond.instanceMethod yX0_partLetters ∈ tb := tb_5 (i := 124) (by decide +kernel) rfl
theorem wlX0_partLetters : Cond.selects RX0 yX0_partLetters yX0_partLetters ∈ tb := tb_5 (i := 125) (by decide +kernel) rfl
theorem YX0_partLetters : Yv yX0_partLetters cX0_partLetters 8 none 3 := ⟨wcX0_partLetters, wlX0_partLetters, wnX0_partLetters, wi_0, by decide +kernel, by decide +kernel, by decide +kernel⟩
abbrev cX0_layException : ByteArray := prog_2_method_7_code
def yX0_layException : MethodName := ⟨RX0, "layException", "(I)V"⟩
theorem wcX0_layException : Cond.code yX0_layException cX0_layException 4 none ∈ tb := tb_5 (i := 138) rfl rfl
theorem wnX0_layException : Cond.instanceMethod yX0_layException ∈ tb := tb_5 (i := 137) (by decide +kernel) rfl
theorem wlX0_layException : Cond.selects RX0 yX0_layException yX0_layException ∈ tb := tb_s (i := 18) (by decide +kernel) rfl
theorem YX0_layException : Yv yX0_layException cX0_layException 4 none 1 := ⟨wcX0_layException, wlX0_layException, wnX0_layException, wi_0, by decide +kernel, by decide +kernel, by decide +kernel⟩
abbrev cX0_isExceptionOf : ByteArray := prog_2_method_8_code
def yX0_isExceptionOf : MethodName := ⟨RX0, "isExceptionOf", "(ILTypeRoom$Row;II)Z"⟩
theorem wcX0_isExceptionOf : Cond.code yX0_isExceptionOf cX0_isExceptionOf 8 (some .boolean) ∈ tb := tb_5 (i := 131) rfl rfl
theorem wnX0_isExceptionOf : Cond.instanceMethod yX0_isExceptionOf ∈ tb := tb_5 (i := 130) (by decide +kernel) rfl
theorem wlX0_isExceptionOf : Cond.selects RX0 yX0_isExceptionOf yX0_isExceptionOf ∈ tb := tb_s (i := 17) (by decide +kernel) rfl
theorem YX0_isExceptionOf : Yv yX0_isExceptionOf cX0_isExceptionOf 8 (some .boolean) 4 := ⟨wcX0_isExceptionOf, wlX0_isExceptionOf, wnX0_isExceptionOf, wi_0, by decide +kernel, by decide +kernel, by decide +kernel⟩
abbrev cX0_layPattern : ByteArray := prog_2_method_9_code
def yX0_layPattern : MethodName := ⟨RX0, "layPattern", "(IILTypeRoom$Row;II)V"⟩
theorem wcX0_layPattern : Cond.code yX0_layPattern cX0_layPattern 12 none ∈ tb := tb_5 (i := 142) rfl rfl
theorem wnX0_layPattern : Cond.instanceMethod yX0_layPattern ∈ tb := tb_5 (i := 141) (by decide +kernel) rfl
theorem wlX0_layPattern : Cond.selects RX0 yX0_layPattern yX0_layPattern ∈ tb := tb_s (i := 19) (by decide +kernel) rfl
theorem YX0_layPattern : Yv yX0_layPattern cX0_layPattern 12 none 5 := ⟨wcX0_layPattern, wlX0_layPattern, wnX0_layPattern, wi_0, by decide +kernel, by decide +kernel, by decide +kernel⟩
abbrev cX0_pointAt : ByteArray := prog_2_method_10_code
def yX0_pointAt : MethodName := ⟨RX0, "pointAt", "(LTypeRoom$Row;III)I"⟩
theorem wcX0_pointAt : Cond.code yX0_pointAt cX0_pointAt 8 (some .int) ∈ tb := tb_5 (i := 121) rfl rfl
theorem wnX0_pointAt : Cond.instanceMethod yX0_pointAt ∈ tb := tb_5 (i := 120) (by decide +kernel) rfl
theorem wlX0_pointAt : Cond.selects RX0 yX0_pointAt yX0_pointAt ∈ tb := tb_s (i := 16) (by decide +kernel) rfl
theorem YX0_pointAt : Yv yX0_pointAt cX0_pointAt 8 (some .int) 4 := ⟨wcX0_pointAt, wlX0_pointAt, wnX0_pointAt, wi_0, by decide +kernel, by decide +kernel, by decide +kernel⟩
abbrev cX0_putLine : ByteArray := prog_2_method_11_code
def yX0_putLine : MethodName := ⟨RX0, "putLine", "(IIZ)V"⟩
theorem wcX0_putLine : Cond.code yX0_putLine cX0_putLine 4 none ∈ tb := tb_5 (i := 151) rfl rfl
theorem wnX0_putLine : Cond.instanceMethod yX0_putLine ∈ tb := tb_5 (i := 150) (by decide +kernel) rfl
theorem wlX0_putLine : Cond.selects RX0 yX0_putLine yX0_putLine ∈ tb := tb_s (i := 20) (by decide +kernel) rfl
theorem YX0_putLine : Yv yX0_putLine cX0_putLine 4 none 3 := ⟨wcX0_putLine, wlX0_putLine, wnX0_putLine, wi_0, by decide +kernel, by decide +kernel, by decide +kernel⟩
abbrev cX0_fill : ByteArray := prog_2_method_12_code
def yX0_fill : MethodName := ⟨RX0, "fill", "(LTypeRoom$Row;IIII)V"⟩
theorem wcX0_fill : Cond.code yX0_fill cX0_fill 15 none ∈ tb := tb_5 (i := 115) rfl rfl
theorem wnX0_fill : Cond.instanceMethod yX0_fill ∈ tb := tb_5 (i := 113) (by decide +kernel) rfl
theorem wlX0_fill : Cond.selects RX0 yX0_fill yX0_fill ∈ tb := tb_5 (i := 114) (by decide +kernel) rfl
theorem YX0_fill : Yv yX0_fill cX0_fill 15 none 5 := ⟨wcX0_fill, wlX0_fill, wnX0_fill, wi_0, by decide +kernel, by decide +kernel, by decide +kernel⟩
abbrev cX0_fillBest : ByteArray := prog_2_method_13_code
def yX0_fillBest : MethodName := ⟨RX0, "fillBest", "(LTypeRoom$Row;II)Z"⟩
theorem wcX0_fillBest : Cond.code yX0_fillBest cX0_fillBest 7 (some .boolean) ∈ tb := tb_6 (i := 178) rfl rfl
theorem wnX0_fillBest : Cond.instanceMethod yX0_fillBest ∈ tb := tb_6 (i := 176) (by decide +kernel) rfl
theorem wlX0_fillBest : Cond.selects RX0 yX0_fillBest yX0_fillBest ∈ tb := tb_6 (i := 177) (by decide +kernel) rfl
theorem YX0_fillBest : Yv yX0_fillBest cX0_fillBest 7 (some .boolean) 3 := ⟨wcX0_fillBest, wlX0_fillBest, wnX0_fillBest, wi_0, by decide +kernel, by decide +kernel, by decide +kernel⟩
abbrev cX0_choose : ByteArray := prog_2_method_14_code
def yX0_choose : MethodName := ⟨RX0, "choose", "(LTypeRoom$Row;II)V"⟩
theorem wcX0_choose : Cond.code yX0_choose cX0_choose 6 none ∈ tb := tb_6 (i := 182) rfl rfl
theorem wnX0_choose : Cond.instanceMethod yX0_choose ∈ tb := tb_6 (i := 181) (by decide +kernel) rfl
theorem wlX0_choose : Cond.selects RX0 yX0_choose yX0_choose ∈ tb := tb_s (i := 56) (by decide +kernel) rfl
theorem YX0_choose : Yv yX0_choose cX0_choose 6 none 3 := ⟨wcX0_choose, wlX0_choose, wnX0_choose, wi_0, by decide +kernel, by decide +kernel, by decide +kernel⟩
abbrev cX0_costOf : ByteArray := prog_2_method_15_code
def yX0_costOf : MethodName := ⟨RX0, "costOf", "(LTypeRoom$Row;III)I"⟩
theorem wcX0_costOf : Cond.code yX0_costOf cX0_costOf 10 (some .int) ∈ tb := tb_6 (i := 186) rfl rfl
theorem wnX0_costOf : Cond.instanceMethod yX0_costOf ∈ tb := tb_6 (i := 185) (by decide +kernel) rfl
theorem wlX0_costOf : Cond.selects RX0 yX0_costOf yX0_costOf ∈ tb := tb_s (i := 57) (by decide +kernel) rfl
theorem YX0_costOf : Yv yX0_costOf cX0_costOf 10 (some .int) 4 := ⟨wcX0_costOf, wlX0_costOf, wnX0_costOf, wi_0, by decide +kernel, by decide +kernel, by decide +kernel⟩
abbrev cX0_print : ByteArray := prog_2_method_16_code
def yX0_print : MethodName := ⟨RX0, "print", "(LTypeRoom$Row;ILTypeRoom$Row;)V"⟩
theorem wcX0_print : Cond.code yX0_print cX0_print 14 none ∈ tb := tb_5 (i := 160) rfl rfl
theorem wnX0_print : Cond.instanceMethod yX0_print ∈ tb := tb_5 (i := 158) (by decide +kernel) rfl
theorem wlX0_print : Cond.selects RX0 yX0_print yX0_print ∈ tb := tb_5 (i := 159) (by decide +kernel) rfl
theorem YX0_print : Yv yX0_print cX0_print 14 none 3 := ⟨wcX0_print, wlX0_print, wnX0_print, wi_0, by decide +kernel, by decide +kernel, by decide +kernel⟩
abbrev cX1_beginBlock : ByteArray := prog_3_method_3_code
def yX1_beginBlock : MethodName := ⟨RX1, "beginBlock", "(I)V"⟩
theorem wcX1_beginBlock : Cond.code yX1_beginBlock cX1_beginBlock 2 none ∈ tb := tb_5 (i := 18) rfl rfl
theorem wnX1_beginBlock : Cond.instanceMethod yX1_beginBlock ∈ tb := tb_5 (i := 16) (by decide +kernel) rfl
theorem wlX1_beginBlock : Cond.selects RX1 yX1_beginBlock yX1_beginBlock ∈ tb := tb_5 (i := 17) (by decide +kernel) rfl
theorem YX1_beginBlock : Yv yX1_beginBlock cX1_beginBlock 2 none 1 := ⟨wcX1_beginBlock, wlX1_beginBlock, wnX1_beginBlock, wi_1, by decide +kernel, by decide +kernel, by decide +kernel⟩
abbrev cX1_finish : ByteArray := prog_3_method_4_code
def yX1_finish : MethodName := ⟨RX1, "finish", "(IIZ)V"⟩
theorem wcX1_finish : Cond.code yX1_finish cX1_finish 5 none ∈ tb := tb_5 (i := 60) rfl rfl
theorem wnX1_finish : Cond.instanceMethod yX1_finish ∈ tb := tb_5 (i := 58) (by decide +kernel) rfl
theorem wlX1_finish : Cond.selects RX1 yX1_finish yX1_finish ∈ tb := tb_5 (i := 59) (by decide +kernel) rfl
theorem YX1_finish : Yv yX1_finish cX1_finish 5 none 3 := ⟨wcX1_finish, wlX1_finish, wnX1_finish, wi_1, by decide +kernel, by decide +kernel, by decide +kernel⟩
abbrev cX1_paginate : ByteArray := prog_3_method_5_code
def yX1_paginate : MethodName := ⟨RX1, "paginate", "(I)V"⟩
theorem wcX1_paginate : Cond.code yX1_paginate cX1_paginate 5 none ∈ tb := tb_6 (i := 207) rfl rfl
theorem wnX1_paginate : Cond.instanceMethod yX1_paginate ∈ tb := tb_6 (i := 205) (by decide +kernel) rfl
theorem wlX1_paginate : Cond.selects RX1 yX1_paginate yX1_paginate ∈ tb := tb_6 (i := 206) (by decide +kernel) rfl
theorem YX1_paginate : Yv yX1_paginate cX1_paginate 5 none 1 := ⟨wcX1_paginate, wlX1_paginate, wnX1_paginate, wi_1, by decide +kernel, by decide +kernel, by decide +kernel⟩
abbrev cX1_pageEnd : ByteArray := prog_3_method_6_code
def yX1_pageEnd : MethodName := ⟨RX1, "pageEnd", "(II)I"⟩
theorem wcX1_pageEnd : Cond.code yX1_pageEnd cX1_pageEnd 8 (some .int) ∈ tb := tb_6 (i := 212) rfl rfl
theorem wnX1_pageEnd : Cond.instanceMethod yX1_pageEnd ∈ tb := tb_6 (i := 211) (by decide +kernel) rfl
theorem wlX1_pageEnd : Cond.selects RX1 yX1_pageEnd yX1_pageEnd ∈ tb := tb_s (i := 62) (by decide +kernel) rfl
theorem YX1_pageEnd : Yv yX1_pageEnd cX1_pageEnd 8 (some .int) 2 := ⟨wcX1_pageEnd, wlX1_pageEnd, wnX1_pageEnd, wi_1, by decide +kernel, by decide +kernel, by decide +kernel⟩
abbrev cX1_firstNote : ByteArray := prog_3_method_7_code
def yX1_firstNote : MethodName := ⟨RX1, "firstNote", "(I)I"⟩
theorem wcX1_firstNote : Cond.code yX1_firstNote cX1_firstNote 3 (some .int) ∈ tb := tb_6 (i := 216) rfl rfl
theorem wnX1_firstNote : Cond.instanceMethod yX1_firstNote ∈ tb := tb_6 (i := 214) (by decide +kernel) rfl
theorem wlX1_firstNote : Cond.selects RX1 yX1_firstNote yX1_firstNote ∈ tb := tb_6 (i := 215) (by decide +kernel) rfl
theorem YX1_firstNote : Yv yX1_firstNote cX1_firstNote 3 (some .int) 1 := ⟨wcX1_firstNote, wlX1_firstNote, wnX1_firstNote, wi_1, by decide +kernel, by decide +kernel, by decide +kernel⟩
abbrev cX1_turnToPages : ByteArray := prog_3_method_8_code
def yX1_turnToPages : MethodName := ⟨RX1, "turnToPages", "(LTypeRoom$Row;)V"⟩
theorem wcX1_turnToPages : Cond.code yX1_turnToPages cX1_turnToPages 4 none ∈ tb := tb_6 (i := 220) rfl rfl
theorem wnX1_turnToPages : Cond.instanceMethod yX1_turnToPages ∈ tb := tb_6 (i := 218) (by decide +kernel) rfl
theorem wlX1_turnToPages : Cond.selects RX1 yX1_turnToPages yX1_turnToPages ∈ tb := tb_6 (i := 219) (by decide +kernel) rfl
theorem YX1_turnToPages : Yv yX1_turnToPages cX1_turnToPages 4 none 1 := ⟨wcX1_turnToPages, wlX1_turnToPages, wnX1_turnToPages, wi_1, by decide +kernel, by decide +kernel, by decide +kernel⟩
abbrev cX2_like : ByteArray := prog_4_method_3_code
def yX2_like : MethodName := ⟨RX2, "like", "(LTypeRoom$Marks;)Z"⟩
theorem wcX2_like : Cond.code yX2_like cX2_like 2 (some .boolean) ∈ tb := tb_6 (i := 225) rfl rfl
theorem wnX2_like : Cond.instanceMethod yX2_like ∈ tb := tb_6 (i := 223) (by decide +kernel) rfl
theorem wlX2_like : Cond.selects RX2 yX2_like yX2_like ∈ tb := tb_6 (i := 224) (by decide +kernel) rfl
theorem YX2_like : Yv yX2_like cX2_like 2 (some .boolean) 1 := ⟨wcX2_like, wlX2_like, wnX2_like, wi_2, by decide +kernel, by decide +kernel, by decide +kernel⟩
abbrev cX2_putLabel : ByteArray := prog_4_method_4_code
def yX2_putLabel : MethodName := ⟨RX2, "putLabel", "(LTypeRoom$Row;I)V"⟩
theorem wcX2_putLabel : Cond.code yX2_putLabel cX2_putLabel 3 none ∈ tb := tb_5 (i := 26) rfl rfl
theorem wnX2_putLabel : Cond.instanceMethod yX2_putLabel ∈ tb := tb_5 (i := 24) (by decide +kernel) rfl
theorem wlX2_putLabel : Cond.selects RX2 yX2_putLabel yX2_putLabel ∈ tb := tb_5 (i := 25) (by decide +kernel) rfl
theorem YX2_putLabel : Yv yX2_putLabel cX2_putLabel 3 none 2 := ⟨wcX2_putLabel, wlX2_putLabel, wnX2_putLabel, wi_2, by decide +kernel, by decide +kernel, by decide +kernel⟩
abbrev cX2_order : ByteArray := prog_4_method_5_code
def yX2_order : MethodName := ⟨RX2, "order", "(LTypeRoom$Row;)V"⟩
theorem wcX2_order : Cond.code yX2_order cX2_order 5 none ∈ tb := tb_5 (i := 74) rfl rfl
theorem wnX2_order : Cond.instanceMethod yX2_order ∈ tb := tb_5 (i := 72) (by decide +kernel) rfl
theorem wlX2_order : Cond.selects RX2 yX2_order yX2_order ∈ tb := tb_5 (i := 73) (by decide +kernel) rfl
theorem YX2_order : Yv yX2_order cX2_order 5 none 1 := ⟨wcX2_order, wlX2_order, wnX2_order, wi_2, by decide +kernel, by decide +kernel, by decide +kernel⟩
abbrev cX2_compareKeys : ByteArray := prog_4_method_6_code
def yX2_compareKeys : MethodName := ⟨RX2, "compareKeys", "(II)I"⟩
theorem wcX2_compareKeys : Cond.code yX2_compareKeys cX2_compareKeys 11 (some .int) ∈ tb := tb_5 (i := 80) rfl rfl
theorem wnX2_compareKeys : Cond.instanceMethod yX2_compareKeys ∈ tb := tb_5 (i := 78) (by decide +kernel) rfl
theorem wlX2_compareKeys : Cond.selects RX2 yX2_compareKeys yX2_compareKeys ∈ tb := tb_5 (i := 79) (by decide +kernel) rfl
theorem YX2_compareKeys : Yv yX2_compareKeys cX2_compareKeys 11 (some .int) 2 := ⟨wcX2_compareKeys, wlX2_compareKeys, wnX2_compareKeys, wi_2, by decide +kernel, by decide +kernel, by decide +kernel⟩
abbrev cX2_putEntry : ByteArray := prog_4_method_7_code
def yX2_putEntry : MethodName := ⟨RX2, "putEntry", "(ILTypeRoom$Row;)V"⟩
theorem wcX2_putEntry : Cond.code yX2_putEntry cX2_putEntry 5 none ∈ tb := tb_5 (i := 91) rfl rfl
theorem wnX2_putEntry : Cond.instanceMethod yX2_putEntry ∈ tb := tb_5 (i := 89) (by decide +kernel) rfl
theorem wlX2_putEntry : Cond.selects RX2 yX2_putEntry yX2_putEntry ∈ tb := tb_5 (i := 90) (by decide +kernel) rfl
theorem YX2_putEntry : Yv yX2_putEntry cX2_putEntry 5 none 2 := ⟨wcX2_putEntry, wlX2_putEntry, wnX2_putEntry, wi_2, by decide +kernel, by decide +kernel, by decide +kernel⟩
abbrev cX3_copy : ByteArray := prog_5_method_3_code
def yX3_copy : MethodName := ⟨RX3, "copy", "(LTypeRoom$Proof;)V"⟩
theorem wcX3_copy : Cond.code yX3_copy cX3_copy 2 none ∈ tb := tb_7 (i := 217) rfl rfl
theorem wnX3_copy : Cond.instanceMethod yX3_copy ∈ tb := tb_7 (i := 215) (by decide +kernel) rfl
theorem wlX3_copy : Cond.selects RX3 yX3_copy yX3_copy ∈ tb := tb_7 (i := 216) (by decide +kernel) rfl
theorem YX3_copy : Yv yX3_copy cX3_copy 2 none 1 := ⟨wcX3_copy, wlX3_copy, wnX3_copy, wi_3, by decide +kernel, by decide +kernel, by decide +kernel⟩
abbrev cX3_lineCount : ByteArray := prog_5_method_4_code
def yX3_lineCount : MethodName := ⟨RX3, "lineCount", "()I"⟩
theorem wcX3_lineCount : Cond.code yX3_lineCount cX3_lineCount 1 (some .int) ∈ tb := tb_7 (i := 6) rfl rfl
theorem wnX3_lineCount : Cond.instanceMethod yX3_lineCount ∈ tb := tb_7 (i := 4) (by decide +kernel) rfl
theorem wlX3_lineCount : Cond.selects RX3 yX3_lineCount yX3_lineCount ∈ tb := tb_7 (i := 5) (by decide +kernel) rfl
theorem YX3_lineCount : Yv yX3_lineCount cX3_lineCount 1 (some .int) 0 := ⟨wcX3_lineCount, wlX3_lineCount, wnX3_lineCount, wi_3, by decide +kernel, by decide +kernel, by decide +kernel⟩
abbrev cX3_tally : ByteArray := prog_5_method_5_code
def yX3_tally : MethodName := ⟨RX3, "tally", "(I)I"⟩
theorem wcX3_tally : Cond.code yX3_tally cX3_tally 2 (some .int) ∈ tb := tb_7 (i := 80) rfl rfl
theorem wnX3_tally : Cond.instanceMethod yX3_tally ∈ tb := tb_7 (i := 78) (by decide +kernel) rfl
theorem wlX3_tally : Cond.selects RX3 yX3_tally yX3_tally ∈ tb := tb_7 (i := 79) (by decide +kernel) rfl
theorem YX3_tally : Yv yX3_tally cX3_tally 2 (some .int) 1 := ⟨wcX3_tally, wlX3_tally, wnX3_tally, wi_3, by decide +kernel, by decide +kernel, by decide +kernel⟩
abbrev cX3_linesOf : ByteArray := prog_5_method_6_code
def yX3_linesOf : MethodName := ⟨RX3, "linesOf", "(I)I"⟩
theorem wcX3_linesOf : Cond.code yX3_linesOf cX3_linesOf 3 (some .int) ∈ tb := tb_7 (i := 166) rfl rfl
theorem wnX3_linesOf : Cond.instanceMethod yX3_linesOf ∈ tb := tb_7 (i := 164) (by decide +kernel) rfl
theorem wlX3_linesOf : Cond.selects RX3 yX3_linesOf yX3_linesOf ∈ tb := tb_7 (i := 165) (by decide +kernel) rfl
theorem YX3_linesOf : Yv yX3_linesOf cX3_linesOf 3 (some .int) 1 := ⟨wcX3_linesOf, wlX3_linesOf, wnX3_linesOf, wi_3, by decide +kernel, by decide +kernel, by decide +kernel⟩
abbrev cX3_lengthOf : ByteArray := prog_5_method_7_code
def yX3_lengthOf : MethodName := ⟨RX3, "lengthOf", "(I)I"⟩
theorem wcX3_lengthOf : Cond.code yX3_lengthOf cX3_lengthOf 2 (some .int) ∈ tb := tb_7 (i := 181) rfl rfl
theorem wnX3_lengthOf : Cond.instanceMethod yX3_lengthOf ∈ tb := tb_7 (i := 179) (by decide +kernel) rfl
theorem wlX3_lengthOf : Cond.selects RX3 yX3_lengthOf yX3_lengthOf ∈ tb := tb_7 (i := 180) (by decide +kernel) rfl
theorem YX3_lengthOf : Yv yX3_lengthOf cX3_lengthOf 2 (some .int) 1 := ⟨wcX3_lengthOf, wlX3_lengthOf, wnX3_lengthOf, wi_3, by decide +kernel, by decide +kernel, by decide +kernel⟩
abbrev cX3_takeTallies : ByteArray := prog_5_method_8_code
def yX3_takeTallies : MethodName := ⟨RX3, "takeTallies", "(LTypeRoom$Marks;IIZ)V"⟩
theorem wcX3_takeTallies : Cond.code yX3_takeTallies cX3_takeTallies 5 none ∈ tb := tb_7 (i := 42) rfl rfl
theorem wnX3_takeTallies : Cond.instanceMethod yX3_takeTallies ∈ tb := tb_7 (i := 40) (by decide +kernel) rfl
theorem wlX3_takeTallies : Cond.selects RX3 yX3_takeTallies yX3_takeTallies ∈ tb := tb_7 (i := 41) (by decide +kernel) rfl
theorem YX3_takeTallies : Yv yX3_takeTallies cX3_takeTallies 5 none 4 := ⟨wcX3_takeTallies, wlX3_takeTallies, wnX3_takeTallies, wi_3, by decide +kernel, by decide +kernel, by decide +kernel⟩
abbrev cX3_showHead : ByteArray := prog_5_method_9_code
def yX3_showHead : MethodName := ⟨RX3, "showHead", "(LTypeRoom$Marks;III)V"⟩
theorem wcX3_showHead : Cond.code yX3_showHead cX3_showHead 9 none ∈ tb := tb_7 (i := 11) rfl rfl
theorem wnX3_showHead : Cond.instanceMethod yX3_showHead ∈ tb := tb_7 (i := 9) (by decide +kernel) rfl
theorem wlX3_showHead : Cond.selects RX3 yX3_showHead yX3_showHead ∈ tb := tb_7 (i := 10) (by decide +kernel) rfl
theorem YX3_showHead : Yv yX3_showHead cX3_showHead 9 none 4 := ⟨wcX3_showHead, wlX3_showHead, wnX3_showHead, wi_3, by decide +kernel, by decide +kernel, by decide +kernel⟩
abbrev cX3_showPage : ByteArray := prog_5_method_10_code
def yX3_showPage : MethodName := ⟨RX3, "showPage", "(LTypeRoom$Galley;II)V"⟩
theorem wcX3_showPage : Cond.code yX3_showPage cX3_showPage 9 none ∈ tb := tb_7 (i := 29) rfl rfl
theorem wnX3_showPage : Cond.instanceMethod yX3_showPage ∈ tb := tb_7 (i := 27) (by decide +kernel) rfl
theorem wlX3_showPage : Cond.selects RX3 yX3_showPage yX3_showPage ∈ tb := tb_7 (i := 28) (by decide +kernel) rfl
theorem YX3_showPage : Yv yX3_showPage cX3_showPage 9 none 3 := ⟨wcX3_showPage, wlX3_showPage, wnX3_showPage, wi_3, by decide +kernel, by decide +kernel, by decide +kernel⟩
abbrev cX3_showNotes : ByteArray := prog_5_method_11_code
def yX3_showNotes : MethodName := ⟨RX3, "showNotes", "(LTypeRoom$Galley;III)V"⟩
theorem wcX3_showNotes : Cond.code yX3_showNotes cX3_showNotes 8 none ∈ tb := tb_7 (i := 38) rfl rfl
theorem wnX3_showNotes : Cond.instanceMethod yX3_showNotes ∈ tb := tb_7 (i := 37) (by decide +kernel) rfl
theorem wlX3_showNotes : Cond.selects RX3 yX3_showNotes yX3_showNotes ∈ tb := tb_s (i := 65) (by decide +kernel) rfl
theorem YX3_showNotes : Yv yX3_showNotes cX3_showNotes 8 none 4 := ⟨wcX3_showNotes, wlX3_showNotes, wnX3_showNotes, wi_3, by decide +kernel, by decide +kernel, by decide +kernel⟩
abbrev cX3_showMade : ByteArray := prog_5_method_12_code
def yX3_showMade : MethodName := ⟨RX3, "showMade", "(LTypeRoom$Galley;I)V"⟩
theorem wcX3_showMade : Cond.code yX3_showMade cX3_showMade 3 none ∈ tb := tb_7 (i := 33) rfl rfl
theorem wnX3_showMade : Cond.instanceMethod yX3_showMade ∈ tb := tb_7 (i := 32) (by decide +kernel) rfl
theorem wlX3_showMade : Cond.selects RX3 yX3_showMade yX3_showMade ∈ tb := tb_s (i := 64) (by decide +kernel) rfl
theorem YX3_showMade : Yv yX3_showMade cX3_showMade 3 none 2 := ⟨wcX3_showMade, wlX3_showMade, wnX3_showMade, wi_3, by decide +kernel, by decide +kernel, by decide +kernel⟩
abbrev cX3_closeLine : ByteArray := prog_5_method_13_code
def yX3_closeLine : MethodName := ⟨RX3, "closeLine", "(I)V"⟩
theorem wcX3_closeLine : Cond.code yX3_closeLine cX3_closeLine 4 none ∈ tb := tb_7 (i := 23) rfl rfl
theorem wnX3_closeLine : Cond.instanceMethod yX3_closeLine ∈ tb := tb_7 (i := 22) (by decide +kernel) rfl
theorem wlX3_closeLine : Cond.selects RX3 yX3_closeLine yX3_closeLine ∈ tb := tb_s (i := 63) (by decide +kernel) rfl
theorem YX3_closeLine : Yv yX3_closeLine cX3_closeLine 4 none 1 := ⟨wcX3_closeLine, wlX3_closeLine, wnX3_closeLine, wi_3, by decide +kernel, by decide +kernel, by decide +kernel⟩
abbrev cX3_sameLine : ByteArray := prog_5_method_14_code
def yX3_sameLine : MethodName := ⟨RX3, "sameLine", "(ILTypeRoom$Proof;I)Z"⟩
theorem wcX3_sameLine : Cond.code yX3_sameLine cX3_sameLine 4 (some .boolean) ∈ tb := tb_8 (i := 3) rfl rfl
theorem wnX3_sameLine : Cond.instanceMethod yX3_sameLine ∈ tb := tb_8 (i := 2) (by decide +kernel) rfl
theorem wlX3_sameLine : Cond.selects RX3 yX3_sameLine yX3_sameLine ∈ tb := tb_s (i := 74) (by decide +kernel) rfl
theorem YX3_sameLine : Yv yX3_sameLine cX3_sameLine 4 (some .boolean) 3 := ⟨wcX3_sameLine, wlX3_sameLine, wnX3_sameLine, wi_3, by decide +kernel, by decide +kernel, by decide +kernel⟩
abbrev cX3_firstChange : ByteArray := prog_5_method_15_code
def yX3_firstChange : MethodName := ⟨RX3, "firstChange", "(LTypeRoom$Proof;)I"⟩
theorem wcX3_firstChange : Cond.code yX3_firstChange cX3_firstChange 4 (some .int) ∈ tb := tb_8 (i := 10) rfl rfl
theorem wnX3_firstChange : Cond.instanceMethod yX3_firstChange ∈ tb := tb_8 (i := 8) (by decide +kernel) rfl
theorem wlX3_firstChange : Cond.selects RX3 yX3_firstChange yX3_firstChange ∈ tb := tb_8 (i := 9) (by decide +kernel) rfl
theorem YX3_firstChange : Yv yX3_firstChange cX3_firstChange 4 (some .int) 1 := ⟨wcX3_firstChange, wlX3_firstChange, wnX3_firstChange, wi_3, by decide +kernel, by decide +kernel, by decide +kernel⟩
abbrev cX3_common : ByteArray := prog_5_method_16_code
def yX3_common : MethodName := ⟨RX3, "common", "(LTypeRoom$Proof;)I"⟩
theorem wcX3_common : Cond.code yX3_common cX3_common 11 (some .int) ∈ tb := tb_7 (i := 239) rfl rfl
theorem wnX3_common : Cond.instanceMethod yX3_common ∈ tb := tb_7 (i := 237) (by decide +kernel) rfl
theorem wlX3_common : Cond.selects RX3 yX3_common yX3_common ∈ tb := tb_7 (i := 238) (by decide +kernel) rfl
theorem YX3_common : Yv yX3_common cX3_common 11 (some .int) 1 := ⟨wcX3_common, wlX3_common, wnX3_common, wi_3, by decide +kernel, by decide +kernel, by decide +kernel⟩
abbrev cX5_pack : ByteArray := prog_7_method_12_code
def yX5_pack : MethodName := ⟨RX5, "pack", "(LTypeRoom$Row;III)V"⟩
theorem wcX5_pack : Cond.code yX5_pack cX5_pack 10 none ∈ tb := tb_5 (i := 96) rfl rfl
theorem wnX5_pack : Cond.instanceMethod yX5_pack ∈ tb := tb_5 (i := 94) (by decide +kernel) rfl
theorem wlX5_pack : Cond.selects RX5 yX5_pack yX5_pack ∈ tb := tb_5 (i := 95) (by decide +kernel) rfl
theorem YX5_pack : Yv yX5_pack cX5_pack 10 none 4 := ⟨wcX5_pack, wlX5_pack, wnX5_pack, wi_5, by decide +kernel, by decide +kernel, by decide +kernel⟩
abbrev cX5_putNumber : ByteArray := prog_7_method_15_code
def yX5_putNumber : MethodName := ⟨RX5, "putNumber", "(II)V"⟩
theorem wcX5_putNumber : Cond.code yX5_putNumber cX5_putNumber 3 none ∈ tb := tb_5 (i := 30) rfl rfl
theorem wnX5_putNumber : Cond.instanceMethod yX5_putNumber ∈ tb := tb_5 (i := 28) (by decide +kernel) rfl
theorem wlX5_putNumber : Cond.selects RX5 yX5_putNumber yX5_putNumber ∈ tb := tb_5 (i := 29) (by decide +kernel) rfl
theorem YX5_putNumber : Yv yX5_putNumber cX5_putNumber 3 none 2 := ⟨wcX5_putNumber, wlX5_putNumber, wnX5_putNumber, wi_5, by decide +kernel, by decide +kernel, by decide +kernel⟩
abbrev cX5_putRoman : ByteArray := prog_7_method_16_code
def yX5_putRoman : MethodName := ⟨RX5, "putRoman", "(II)V"⟩
theorem wcX5_putRoman : Cond.code yX5_putRoman cX5_putRoman 9 none ∈ tb := tb_5 (i := 34) rfl rfl
theorem wnX5_putRoman : Cond.instanceMethod yX5_putRoman ∈ tb := tb_5 (i := 33) (by decide +kernel) rfl
theorem wlX5_putRoman : Cond.selects RX5 yX5_putRoman yX5_putRoman ∈ tb := tb_s (i := 12) (by decide +kernel) rfl
theorem YX5_putRoman : Yv yX5_putRoman cX5_putRoman 9 none 2 := ⟨wcX5_putRoman, wlX5_putRoman, wnX5_putRoman, wi_5, by decide +kernel, by decide +kernel, by decide +kernel⟩
abbrev cX5_putLettered : ByteArray := prog_7_method_17_code
def yX5_putLettered : MethodName := ⟨RX5, "putLettered", "(I)V"⟩
theorem wcX5_putLettered : Cond.code yX5_putLettered cX5_putLettered 8 none ∈ tb := tb_5 (i := 43) rfl rfl
theorem wnX5_putLettered : Cond.instanceMethod yX5_putLettered ∈ tb := tb_5 (i := 42) (by decide +kernel) rfl
theorem wlX5_putLettered : Cond.selects RX5 yX5_putLettered yX5_putLettered ∈ tb := tb_s (i := 13) (by decide +kernel) rfl
theorem YX5_putLettered : Yv yX5_putLettered cX5_putLettered 8 none 1 := ⟨wcX5_putLettered, wlX5_putLettered, wnX5_putLettered, wi_5, by decide +kernel, by decide +kernel, by decide +kernel⟩
abbrev cX5_putDigits : ByteArray := prog_7_method_18_code
def yX5_putDigits : MethodName := ⟨RX5, "putDigits", "(II)V"⟩
theorem wcX5_putDigits : Cond.code yX5_putDigits cX5_putDigits 8 none ∈ tb := tb_5 (i := 48) rfl rfl
theorem wnX5_putDigits : Cond.instanceMethod yX5_putDigits ∈ tb := tb_5 (i := 47) (by decide +kernel) rfl
theorem wlX5_putDigits : Cond.selects RX5 yX5_putDigits yX5_putDigits ∈ tb := tb_s (i := 14) (by decide +kernel) rfl
theorem YX5_putDigits : Yv yX5_putDigits cX5_putDigits 8 none 2 := ⟨wcX5_putDigits, wlX5_putDigits, wnX5_putDigits, wi_5, by decide +kernel, by decide +kernel, by decide +kernel⟩
abbrev cX6_nameIndex : ByteArray := prog_8_method_4_code
def yX6_nameIndex : MethodName := ⟨RX6, "nameIndex", "(Ljava/lang/String;LTypeRoom$Row;II)I"⟩
theorem wcX6_nameIndex : Cond.code yX6_nameIndex cX6_nameIndex 9 (some .int) ∈ tb := tb_4 (i := 131) rfl rfl
theorem wsX6_nameIndex : Cond.static yX6_nameIndex ∈ tb := tb_4 (i := 130) (by decide +kernel) rfl
theorem YX6_nameIndex : Ys yX6_nameIndex cX6_nameIndex 9 (some .int) 4 := ⟨wcX6_nameIndex, wsX6_nameIndex, wi_6, by decide +kernel, by decide +kernel, by decide +kernel⟩
abbrev cX6_follow : ByteArray := prog_8_method_5_code
def yX6_follow : MethodName := ⟨RX6, "follow", "(LTypeRoom$Row;II)I"⟩
theorem wcX6_follow : Cond.code yX6_follow cX6_follow 7 (some .int) ∈ tb := tb_4 (i := 126) rfl rfl
theorem wnX6_follow : Cond.instanceMethod yX6_follow ∈ tb := tb_4 (i := 124) (by decide +kernel) rfl
theorem wlX6_follow : Cond.selects RX6 yX6_follow yX6_follow ∈ tb := tb_4 (i := 125) (by decide +kernel) rfl
theorem YX6_follow : Yv yX6_follow cX6_follow 7 (some .int) 3 := ⟨wcX6_follow, wlX6_follow, wnX6_follow, wi_6, by decide +kernel, by decide +kernel, by decide +kernel⟩
abbrev cX6_define : ByteArray := prog_8_method_6_code
def yX6_define : MethodName := ⟨RX6, "define", "(LTypeRoom$Row;II)V"⟩
theorem wcX6_define : Cond.code yX6_define cX6_define 8 none ∈ tb := tb_4 (i := 187) rfl rfl
theorem wnX6_define : Cond.instanceMethod yX6_define ∈ tb := tb_4 (i := 186) (by decide +kernel) rfl
theorem wlX6_define : Cond.selects RX6 yX6_define yX6_define ∈ tb := tb_s (i := 8) (by decide +kernel) rfl
theorem YX6_define : Yv yX6_define cX6_define 8 none 3 := ⟨wcX6_define, wlX6_define, wnX6_define, wi_6, by decide +kernel, by decide +kernel, by decide +kernel⟩
abbrev cX6_change : ByteArray := prog_8_method_7_code
def yX6_change : MethodName := ⟨RX6, "change", "(LTypeRoom$Row;II)V"⟩
theorem wcX6_change : Cond.code yX6_change cX6_change 10 none ∈ tb := tb_4 (i := 226) rfl rfl
theorem wnX6_change : Cond.instanceMethod yX6_change ∈ tb := tb_4 (i := 225) (by decide +kernel) rfl
theorem wlX6_change : Cond.selects RX6 yX6_change yX6_change ∈ tb := tb_s (i := 9) (by decide +kernel) rfl
theorem YX6_change : Yv yX6_change cX6_change 10 none 3 := ⟨wcX6_change, wlX6_change, wnX6_change, wi_6, by decide +kernel, by decide +kernel, by decide +kernel⟩
abbrev cX6_takeWords : ByteArray := prog_8_method_8_code
def yX6_takeWords : MethodName := ⟨RX6, "takeWords", "(LTypeRoom$Row;IIZ)V"⟩
theorem wcX6_takeWords : Cond.code yX6_takeWords cX6_takeWords 9 none ∈ tb := tb_4 (i := 235) rfl rfl
theorem wnX6_takeWords : Cond.instanceMethod yX6_takeWords ∈ tb := tb_4 (i := 234) (by decide +kernel) rfl
theorem wlX6_takeWords : Cond.selects RX6 yX6_takeWords yX6_takeWords ∈ tb := tb_s (i := 10) (by decide +kernel) rfl
theorem YX6_takeWords : Yv yX6_takeWords cX6_takeWords 9 none 4 := ⟨wcX6_takeWords, wlX6_takeWords, wnX6_takeWords, wi_6, by decide +kernel, by decide +kernel, by decide +kernel⟩
abbrev cX6_isPattern : ByteArray := prog_8_method_9_code
def yX6_isPattern : MethodName := ⟨RX6, "isPattern", "(LTypeRoom$Row;II)Z"⟩
theorem wcX6_isPattern : Cond.code yX6_isPattern cX6_isPattern 6 (some .boolean) ∈ tb := tb_4 (i := 238) rfl rfl
theorem wsX6_isPattern : Cond.static yX6_isPattern ∈ tb := tb_4 (i := 237) (by decide +kernel) rfl
theorem YX6_isPattern : Ys yX6_isPattern cX6_isPattern 6 (some .boolean) 3 := ⟨wcX6_isPattern, wsX6_isPattern, wi_6, by decide +kernel, by decide +kernel, by decide +kernel⟩
abbrev cX6_isException : ByteArray := prog_8_method_10_code
def yX6_isException : MethodName := ⟨RX6, "isException", "(LTypeRoom$Row;II)Z"⟩
theorem wcX6_isException : Cond.code yX6_isException cX6_isException 5 (some .boolean) ∈ tb := tb_5 (i := 4) rfl rfl
theorem wsX6_isException : Cond.static yX6_isException ∈ tb := tb_5 (i := 3) (by decide +kernel) rfl
theorem YX6_isException : Ys yX6_isException cX6_isException 5 (some .boolean) 3 := ⟨wcX6_isException, wsX6_isException, wi_6, by decide +kernel, by decide +kernel, by decide +kernel⟩
abbrev cX7_open : ByteArray := prog_9_method_2_code
def yX7_open : MethodName := ⟨RX7, "open", "()V"⟩
theorem wcX7_open : Cond.code yX7_open cX7_open 5 none ∈ tb := tb_4 (i := 4) rfl rfl
theorem wnX7_open : Cond.instanceMethod yX7_open ∈ tb := tb_4 (i := 2) (by decide +kernel) rfl
theorem wlX7_open : Cond.selects RX7 yX7_open yX7_open ∈ tb := tb_4 (i := 3) (by decide +kernel) rfl
theorem YX7_open : Yv yX7_open cX7_open 5 none 0 := ⟨wcX7_open, wlX7_open, wnX7_open, wi_7, by decide +kernel, by decide +kernel, by decide +kernel⟩
abbrev cX7_forget : ByteArray := prog_9_method_3_code
def yX7_forget : MethodName := ⟨RX7, "forget", "()V"⟩
theorem wcX7_forget : Cond.code yX7_forget cX7_forget 1 none ∈ tb := tb_6 (i := 238) rfl rfl
theorem wnX7_forget : Cond.instanceMethod yX7_forget ∈ tb := tb_6 (i := 236) (by decide +kernel) rfl
theorem wlX7_forget : Cond.selects RX7 yX7_forget yX7_forget ∈ tb := tb_6 (i := 237) (by decide +kernel) rfl
theorem YX7_forget : Yv yX7_forget cX7_forget 1 none 0 := ⟨wcX7_forget, wlX7_forget, wnX7_forget, wi_7, by decide +kernel, by decide +kernel, by decide +kernel⟩
abbrev cX7_show : ByteArray := prog_9_method_4_code
def yX7_show : MethodName := ⟨RX7, "show", "(LTypeRoom$Proof;)V"⟩
theorem wcX7_show : Cond.code yX7_show cX7_show 3 none ∈ tb := tb_7 (i := 2) rfl rfl
theorem wnX7_show : Cond.instanceMethod yX7_show ∈ tb := tb_7 (i := 0) (by decide +kernel) rfl
theorem wlX7_show : Cond.selects RX7 yX7_show yX7_show ∈ tb := tb_7 (i := 1) (by decide +kernel) rfl
theorem YX7_show : Yv yX7_show cX7_show 3 none 1 := ⟨wcX7_show, wlX7_show, wnX7_show, wi_7, by decide +kernel, by decide +kernel, by decide +kernel⟩
abbrev cX7_kindOf : ByteArray := prog_9_method_5_code
def yX7_kindOf : MethodName := ⟨RX7, "kindOf", "(II)I"⟩
theorem wcX7_kindOf : Cond.code yX7_kindOf cX7_kindOf 7 (some .int) ∈ tb := tb_4 (i := 11) rfl rfl
theorem wnX7_kindOf : Cond.instanceMethod yX7_kindOf ∈ tb := tb_4 (i := 10) (by decide +kernel) rfl
theorem wlX7_kindOf : Cond.selects RX7 yX7_kindOf yX7_kindOf ∈ tb := tb_s (i := 3) (by decide +kernel) rfl
theorem YX7_kindOf : Yv yX7_kindOf cX7_kindOf 7 (some .int) 2 := ⟨wcX7_kindOf, wlX7_kindOf, wnX7_kindOf, wi_7, by decide +kernel, by decide +kernel, by decide +kernel⟩
abbrev cX7_levelOf : ByteArray := prog_9_method_6_code
def yX7_levelOf : MethodName := ⟨RX7, "levelOf", "(II)I"⟩
theorem wcX7_levelOf : Cond.code yX7_levelOf cX7_levelOf 5 (some .int) ∈ tb := tb_4 (i := 15) rfl rfl
theorem wnX7_levelOf : Cond.instanceMethod yX7_levelOf ∈ tb := tb_4 (i := 14) (by decide +kernel) rfl
theorem wlX7_levelOf : Cond.selects RX7 yX7_levelOf yX7_levelOf ∈ tb := tb_s (i := 4) (by decide +kernel) rfl
theorem YX7_levelOf : Yv yX7_levelOf cX7_levelOf 5 (some .int) 2 := ⟨wcX7_levelOf, wlX7_levelOf, wnX7_levelOf, wi_7, by decide +kernel, by decide +kernel, by decide +kernel⟩
abbrev cX7_round : ByteArray := prog_9_method_7_code
def yX7_round : MethodName := ⟨RX7, "round", "(I)V"⟩
theorem wcX7_round : Cond.code yX7_round cX7_round 7 none ∈ tb := tb_4 (i := 31) rfl rfl
theorem wnX7_round : Cond.instanceMethod yX7_round ∈ tb := tb_4 (i := 29) (by decide +kernel) rfl
theorem wlX7_round : Cond.selects RX7 yX7_round yX7_round ∈ tb := tb_4 (i := 30) (by decide +kernel) rfl
theorem YX7_round : Yv yX7_round cX7_round 7 none 1 := ⟨wcX7_round, wlX7_round, wnX7_round, wi_7, by decide +kernel, by decide +kernel, by decide +kernel⟩
abbrev cX7_closeRound : ByteArray := prog_9_method_8_code
def yX7_closeRound : MethodName := ⟨RX7, "closeRound", "()V"⟩
theorem wcX7_closeRound : Cond.code yX7_closeRound cX7_closeRound 1 none ∈ tb := tb_6 (i := 199) rfl rfl
theorem wnX7_closeRound : Cond.instanceMethod yX7_closeRound ∈ tb := tb_6 (i := 198) (by decide +kernel) rfl
theorem wlX7_closeRound : Cond.selects RX7 yX7_closeRound yX7_closeRound ∈ tb := tb_s (i := 60) (by decide +kernel) rfl
theorem YX7_closeRound : Yv yX7_closeRound cX7_closeRound 1 none 0 := ⟨wcX7_closeRound, wlX7_closeRound, wnX7_closeRound, wi_7, by decide +kernel, by decide +kernel, by decide +kernel⟩
abbrev cX7_openRound : ByteArray := prog_9_method_9_code
def yX7_openRound : MethodName := ⟨RX7, "openRound", "(I)V"⟩
theorem wcX7_openRound : Cond.code yX7_openRound cX7_openRound 4 none ∈ tb := tb_4 (i := 35) rfl rfl
theorem wnX7_openRound : Cond.instanceMethod yX7_openRound ∈ tb := tb_4 (i := 34) (by decide +kernel) rfl
theorem wlX7_openRound : Cond.selects RX7 yX7_openRound yX7_openRound ∈ tb := tb_s (i := 5) (by decide +kernel) rfl
theorem YX7_openRound : Yv yX7_openRound cX7_openRound 4 none 1 := ⟨wcX7_openRound, wlX7_openRound, wnX7_openRound, wi_7, by decide +kernel, by decide +kernel, by decide +kernel⟩
abbrev cX7_pageRoom : ByteArray := prog_9_method_10_code
def yX7_pageRoom : MethodName := ⟨RX7, "pageRoom", "()I"⟩
theorem wcX7_pageRoom : Cond.code yX7_pageRoom cX7_pageRoom 1 (some .int) ∈ tb := tb_6 (i := 203) rfl rfl
theorem wnX7_pageRoom : Cond.instanceMethod yX7_pageRoom ∈ tb := tb_6 (i := 202) (by decide +kernel) rfl
theorem wlX7_pageRoom : Cond.selects RX7 yX7_pageRoom yX7_pageRoom ∈ tb := tb_s (i := 61) (by decide +kernel) rfl
theorem YX7_pageRoom : Yv yX7_pageRoom cX7_pageRoom 1 (some .int) 0 := ⟨wcX7_pageRoom, wlX7_pageRoom, wnX7_pageRoom, wi_7, by decide +kernel, by decide +kernel, by decide +kernel⟩
abbrev cX7_blockEnd : ByteArray := prog_9_method_11_code
def yX7_blockEnd : MethodName := ⟨RX7, "blockEnd", "(I)I"⟩
theorem wcX7_blockEnd : Cond.code yX7_blockEnd cX7_blockEnd 5 (some .int) ∈ tb := tb_4 (i := 119) rfl rfl
theorem wnX7_blockEnd : Cond.instanceMethod yX7_blockEnd ∈ tb := tb_4 (i := 118) (by decide +kernel) rfl
theorem wlX7_blockEnd : Cond.selects RX7 yX7_blockEnd yX7_blockEnd ∈ tb := tb_s (i := 7) (by decide +kernel) rfl
theorem YX7_blockEnd : Yv yX7_blockEnd cX7_blockEnd 5 (some .int) 1 := ⟨wcX7_blockEnd, wlX7_blockEnd, wnX7_blockEnd, wi_7, by decide +kernel, by decide +kernel, by decide +kernel⟩
abbrev cX7_gather : ByteArray := prog_9_method_12_code
def yX7_gather : MethodName := ⟨RX7, "gather", "(III)V"⟩
theorem wcX7_gather : Cond.code yX7_gather cX7_gather 5 none ∈ tb := tb_5 (i := 183) rfl rfl
theorem wnX7_gather : Cond.instanceMethod yX7_gather ∈ tb := tb_5 (i := 182) (by decide +kernel) rfl
theorem wlX7_gather : Cond.selects RX7 yX7_gather yX7_gather ∈ tb := tb_s (i := 23) (by decide +kernel) rfl
theorem YX7_gather : Yv yX7_gather cX7_gather 5 none 3 := ⟨wcX7_gather, wlX7_gather, wnX7_gather, wi_7, by decide +kernel, by decide +kernel, by decide +kernel⟩
abbrev cX7_heading : ByteArray := prog_9_method_13_code
def yX7_heading : MethodName := ⟨RX7, "heading", "(I)V"⟩
theorem wcX7_heading : Cond.code yX7_heading cX7_heading 7 none ∈ tb := tb_5 (i := 167) rfl rfl
theorem wnX7_heading : Cond.instanceMethod yX7_heading ∈ tb := tb_5 (i := 166) (by decide +kernel) rfl
theorem wlX7_heading : Cond.selects RX7 yX7_heading yX7_heading ∈ tb := tb_s (i := 22) (by decide +kernel) rfl
theorem YX7_heading : Yv yX7_heading cX7_heading 7 none 1 := ⟨wcX7_heading, wlX7_heading, wnX7_heading, wi_7, by decide +kernel, by decide +kernel, by decide +kernel⟩
abbrev cX7_beginParagraph : ByteArray := prog_9_method_14_code
def yX7_beginParagraph : MethodName := ⟨RX7, "beginParagraph", "(II)V"⟩
theorem wcX7_beginParagraph : Cond.code yX7_beginParagraph cX7_beginParagraph 3 none ∈ tb := tb_6 (i := 195) rfl rfl
theorem wnX7_beginParagraph : Cond.instanceMethod yX7_beginParagraph ∈ tb := tb_6 (i := 194) (by decide +kernel) rfl
theorem wlX7_beginParagraph : Cond.selects RX7 yX7_beginParagraph yX7_beginParagraph ∈ tb := tb_s (i := 59) (by decide +kernel) rfl
theorem YX7_beginParagraph : Yv yX7_beginParagraph cX7_beginParagraph 3 none 2 := ⟨wcX7_beginParagraph, wlX7_beginParagraph, wnX7_beginParagraph, wi_7, by decide +kernel, by decide +kernel, by decide +kernel⟩
abbrev cX7_beginItem : ByteArray := prog_9_method_15_code
def yX7_beginItem : MethodName := ⟨RX7, "beginItem", "(IIZ)V"⟩
theorem wcX7_beginItem : Cond.code yX7_beginItem cX7_beginItem 7 none ∈ tb := tb_6 (i := 170) rfl rfl
theorem wnX7_beginItem : Cond.instanceMethod yX7_beginItem ∈ tb := tb_6 (i := 169) (by decide +kernel) rfl
theorem wlX7_beginItem : Cond.selects RX7 yX7_beginItem yX7_beginItem ∈ tb := tb_s (i := 54) (by decide +kernel) rfl
theorem YX7_beginItem : Yv yX7_beginItem cX7_beginItem 7 none 3 := ⟨wcX7_beginItem, wlX7_beginItem, wnX7_beginItem, wi_7, by decide +kernel, by decide +kernel, by decide +kernel⟩
abbrev cX7_fillText : ByteArray := prog_9_method_16_code
def yX7_fillText : MethodName := ⟨RX7, "fillText", "(IZ)V"⟩
theorem wcX7_fillText : Cond.code yX7_fillText cX7_fillText 10 none ∈ tb := tb_6 (i := 174) rfl rfl
theorem wnX7_fillText : Cond.instanceMethod yX7_fillText ∈ tb := tb_6 (i := 173) (by decide +kernel) rfl
theorem wlX7_fillText : Cond.selects RX7 yX7_fillText yX7_fillText ∈ tb := tb_s (i := 55) (by decide +kernel) rfl
theorem YX7_fillText : Yv yX7_fillText cX7_fillText 10 none 2 := ⟨wcX7_fillText, wlX7_fillText, wnX7_fillText, wi_7, by decide +kernel, by decide +kernel, by decide +kernel⟩
abbrev cX7_printNotes : ByteArray := prog_9_method_17_code
def yX7_printNotes : MethodName := ⟨RX7, "printNotes", "()V"⟩
theorem wcX7_printNotes : Cond.code yX7_printNotes cX7_printNotes 3 none ∈ tb := tb_6 (i := 191) rfl rfl
theorem wnX7_printNotes : Cond.instanceMethod yX7_printNotes ∈ tb := tb_6 (i := 190) (by decide +kernel) rfl
theorem wlX7_printNotes : Cond.selects RX7 yX7_printNotes yX7_printNotes ∈ tb := tb_s (i := 58) (by decide +kernel) rfl
theorem YX7_printNotes : Yv yX7_printNotes cX7_printNotes 3 none 0 := ⟨wcX7_printNotes, wlX7_printNotes, wnX7_printNotes, wi_7, by decide +kernel, by decide +kernel, by decide +kernel⟩
abbrev cX7_printLines : ByteArray := prog_9_method_18_code
def yX7_printLines : MethodName := ⟨RX7, "printLines", "(LTypeRoom$Row;IZ)V"⟩
theorem wcX7_printLines : Cond.code yX7_printLines cX7_printLines 9 none ∈ tb := tb_5 (i := 156) rfl rfl
theorem wnX7_printLines : Cond.instanceMethod yX7_printLines ∈ tb := tb_5 (i := 155) (by decide +kernel) rfl
theorem wlX7_printLines : Cond.selects RX7 yX7_printLines yX7_printLines ∈ tb := tb_s (i := 21) (by decide +kernel) rfl
theorem YX7_printLines : Yv yX7_printLines cX7_printLines 9 none 3 := ⟨wcX7_printLines, wlX7_printLines, wnX7_printLines, wi_7, by decide +kernel, by decide +kernel, by decide +kernel⟩
abbrev cX7_lineOf : ByteArray := prog_9_method_19_code
def yX7_lineOf : MethodName := ⟨RX7, "lineOf", "(I)I"⟩
theorem wcX7_lineOf : Cond.code yX7_lineOf cX7_lineOf 3 (some .int) ∈ tb := tb_6 (i := 103) rfl rfl
theorem wnX7_lineOf : Cond.instanceMethod yX7_lineOf ∈ tb := tb_6 (i := 102) (by decide +kernel) rfl
theorem wlX7_lineOf : Cond.selects RX7 yX7_lineOf yX7_lineOf ∈ tb := tb_s (i := 49) (by decide +kernel) rfl
theorem YX7_lineOf : Yv yX7_lineOf cX7_lineOf 3 (some .int) 1 := ⟨wcX7_lineOf, wlX7_lineOf, wnX7_lineOf, wi_7, by decide +kernel, by decide +kernel, by decide +kernel⟩
abbrev cX7_carry : ByteArray := prog_9_method_20_code
def yX7_carry : MethodName := ⟨RX7, "carry", "(III)V"⟩
theorem wcX7_carry : Cond.code yX7_carry cX7_carry 7 none ∈ tb := tb_6 (i := 95) rfl rfl
theorem wnX7_carry : Cond.instanceMethod yX7_carry ∈ tb := tb_6 (i := 94) (by decide +kernel) rfl
theorem wlX7_carry : Cond.selects RX7 yX7_carry yX7_carry ∈ tb := tb_s (i := 48) (by decide +kernel) rfl
theorem YX7_carry : Yv yX7_carry cX7_carry 7 none 3 := ⟨wcX7_carry, wlX7_carry, wnX7_carry, wi_7, by decide +kernel, by decide +kernel, by decide +kernel⟩
abbrev cX7_workTable : ByteArray := prog_9_method_21_code
def yX7_workTable : MethodName := ⟨RX7, "workTable", "(II)V"⟩
theorem wcX7_workTable : Cond.code yX7_workTable cX7_workTable 5 none ∈ tb := tb_6 (i := 107) rfl rfl
theorem wnX7_workTable : Cond.instanceMethod yX7_workTable ∈ tb := tb_6 (i := 106) (by decide +kernel) rfl
theorem wlX7_workTable : Cond.selects RX7 yX7_workTable yX7_workTable ∈ tb := tb_s (i := 50) (by decide +kernel) rfl
theorem YX7_workTable : Yv yX7_workTable cX7_workTable 5 none 2 := ⟨wcX7_workTable, wlX7_workTable, wnX7_workTable, wi_7, by decide +kernel, by decide +kernel, by decide +kernel⟩
abbrev cX7_raw : ByteArray := prog_9_method_22_code
def yX7_raw : MethodName := ⟨RX7, "raw", "(II)V"⟩
theorem wcX7_raw : Cond.code yX7_raw cX7_raw 5 none ∈ tb := tb_6 (i := 166) rfl rfl
theorem wnX7_raw : Cond.instanceMethod yX7_raw ∈ tb := tb_6 (i := 165) (by decide +kernel) rfl
theorem wlX7_raw : Cond.selects RX7 yX7_raw yX7_raw ∈ tb := tb_s (i := 53) (by decide +kernel) rfl
theorem YX7_raw : Yv yX7_raw cX7_raw 5 none 2 := ⟨wcX7_raw, wlX7_raw, wnX7_raw, wi_7, by decide +kernel, by decide +kernel, by decide +kernel⟩
abbrev cX7_contents : ByteArray := prog_9_method_23_code
def yX7_contents : MethodName := ⟨RX7, "contents", "()V"⟩
theorem wcX7_contents : Cond.code yX7_contents cX7_contents 5 none ∈ tb := tb_5 (i := 9) rfl rfl
theorem wnX7_contents : Cond.instanceMethod yX7_contents ∈ tb := tb_5 (i := 8) (by decide +kernel) rfl
theorem wlX7_contents : Cond.selects RX7 yX7_contents yX7_contents ∈ tb := tb_s (i := 11) (by decide +kernel) rfl
theorem YX7_contents : Yv yX7_contents cX7_contents 5 none 0 := ⟨wcX7_contents, wlX7_contents, wnX7_contents, wi_7, by decide +kernel, by decide +kernel, by decide +kernel⟩
abbrev cX7_index : ByteArray := prog_9_method_24_code
def yX7_index : MethodName := ⟨RX7, "index", "()V"⟩
theorem wcX7_index : Cond.code yX7_index cX7_index 2 none ∈ tb := tb_5 (i := 70) rfl rfl
theorem wnX7_index : Cond.instanceMethod yX7_index ∈ tb := tb_5 (i := 69) (by decide +kernel) rfl
theorem wlX7_index : Cond.selects RX7 yX7_index yX7_index ∈ tb := tb_s (i := 15) (by decide +kernel) rfl
theorem YX7_index : Yv yX7_index cX7_index 2 none 0 := ⟨wcX7_index, wlX7_index, wnX7_index, wi_7, by decide +kernel, by decide +kernel, by decide +kernel⟩
abbrev cX8_close : ByteArray := prog_10_method_3_code
def yX8_close : MethodName := ⟨RX8, "close", "()V"⟩
theorem wcX8_close : Cond.code yX8_close cX8_close 1 none ∈ tb := tb_4 (i := 216) rfl rfl
theorem wnX8_close : Cond.instanceMethod yX8_close ∈ tb := tb_4 (i := 214) (by decide +kernel) rfl
theorem wlX8_close : Cond.selects RX8 yX8_close yX8_close ∈ tb := tb_4 (i := 215) (by decide +kernel) rfl
theorem YX8_close : Yv yX8_close cX8_close 1 none 0 := ⟨wcX8_close, wlX8_close, wnX8_close, wi_8, by decide +kernel, by decide +kernel, by decide +kernel⟩
abbrev cX8_rows : ByteArray := prog_10_method_4_code
def yX8_rows : MethodName := ⟨RX8, "rows", "()I"⟩
theorem wcX8_rows : Cond.code yX8_rows cX8_rows 1 (some .int) ∈ tb := tb_4 (i := 211) rfl rfl
theorem wnX8_rows : Cond.instanceMethod yX8_rows ∈ tb := tb_4 (i := 209) (by decide +kernel) rfl
theorem wlX8_rows : Cond.selects RX8 yX8_rows yX8_rows ∈ tb := tb_4 (i := 210) (by decide +kernel) rfl
theorem YX8_rows : Yv yX8_rows cX8_rows 1 (some .int) 0 := ⟨wcX8_rows, wlX8_rows, wnX8_rows, wi_8, by decide +kernel, by decide +kernel, by decide +kernel⟩
abbrev cX8_copy : ByteArray := prog_10_method_7_code
def yX8_copy : MethodName := ⟨RX8, "copy", "(LTypeRoom$Shelf;)V"⟩
theorem wcX8_copy : Cond.code yX8_copy cX8_copy 2 none ∈ tb := tb_7 (i := 221) rfl rfl
theorem wnX8_copy : Cond.instanceMethod yX8_copy ∈ tb := tb_7 (i := 219) (by decide +kernel) rfl
theorem wlX8_copy : Cond.selects RX8 yX8_copy yX8_copy ∈ tb := tb_7 (i := 220) (by decide +kernel) rfl
theorem YX8_copy : Yv yX8_copy cX8_copy 2 none 1 := ⟨wcX8_copy, wlX8_copy, wnX8_copy, wi_8, by decide +kernel, by decide +kernel, by decide +kernel⟩
abbrev cX8_like : ByteArray := prog_10_method_8_code
def yX8_like : MethodName := ⟨RX8, "like", "(LTypeRoom$Shelf;)Z"⟩
theorem wcX8_like : Cond.code yX8_like cX8_like 2 (some .boolean) ∈ tb := tb_6 (i := 229) rfl rfl
theorem wnX8_like : Cond.instanceMethod yX8_like ∈ tb := tb_6 (i := 227) (by decide +kernel) rfl
theorem wlX8_like : Cond.selects RX8 yX8_like yX8_like ∈ tb := tb_6 (i := 228) (by decide +kernel) rfl
theorem YX8_like : Yv yX8_like cX8_like 2 (some .boolean) 1 := ⟨wcX8_like, wlX8_like, wnX8_like, wi_8, by decide +kernel, by decide +kernel, by decide +kernel⟩
abbrev cX8_seek : ByteArray := prog_10_method_9_code
def yX8_seek : MethodName := ⟨RX8, "seek", "(LTypeRoom$Row;II)I"⟩
theorem wcX8_seek : Cond.code yX8_seek cX8_seek 5 (some .int) ∈ tb := tb_4 (i := 198) rfl rfl
theorem wnX8_seek : Cond.instanceMethod yX8_seek ∈ tb := tb_4 (i := 196) (by decide +kernel) rfl
theorem wlX8_seek : Cond.selects RX8 yX8_seek yX8_seek ∈ tb := tb_4 (i := 197) (by decide +kernel) rfl
theorem YX8_seek : Yv yX8_seek cX8_seek 5 (some .int) 3 := ⟨wcX8_seek, wlX8_seek, wnX8_seek, wi_8, by decide +kernel, by decide +kernel, by decide +kernel⟩
abbrev cX9_open : ByteArray := prog_11_method_2_code
def yX9_open : MethodName := ⟨RX9, "open", "()V"⟩
theorem wcX9_open : Cond.code yX9_open cX9_open 2 none ∈ tb := tb_6 (i := 111) rfl rfl
theorem wnX9_open : Cond.instanceMethod yX9_open ∈ tb := tb_6 (i := 109) (by decide +kernel) rfl
theorem wlX9_open : Cond.selects RX9 yX9_open yX9_open ∈ tb := tb_6 (i := 110) (by decide +kernel) rfl
theorem YX9_open : Yv yX9_open cX9_open 2 none 0 := ⟨wcX9_open, wlX9_open, wnX9_open, wi_9, by decide +kernel, by decide +kernel, by decide +kernel⟩
abbrev cX9_part : ByteArray := prog_11_method_3_code
def yX9_part : MethodName := ⟨RX9, "part", "(LTypeRoom$Row;II)V"⟩
theorem wcX9_part : Cond.code yX9_part cX9_part 9 none ∈ tb := tb_6 (i := 117) rfl rfl
theorem wnX9_part : Cond.instanceMethod yX9_part ∈ tb := tb_6 (i := 115) (by decide +kernel) rfl
theorem wlX9_part : Cond.selects RX9 yX9_part yX9_part ∈ tb := tb_6 (i := 116) (by decide +kernel) rfl
theorem YX9_part : Yv yX9_part cX9_part 9 none 3 := ⟨wcX9_part, wlX9_part, wnX9_part, wi_9, by decide +kernel, by decide +kernel, by decide +kernel⟩
abbrev cX9_takeAlignment : ByteArray := prog_11_method_4_code
def yX9_takeAlignment : MethodName := ⟨RX9, "takeAlignment", "(LTypeRoom$Row;)Z"⟩
theorem wcX9_takeAlignment : Cond.code yX9_takeAlignment cX9_takeAlignment 3 (some .boolean) ∈ tb := tb_6 (i := 124) rfl rfl
theorem wnX9_takeAlignment : Cond.instanceMethod yX9_takeAlignment ∈ tb := tb_6 (i := 122) (by decide +kernel) rfl
theorem wlX9_takeAlignment : Cond.selects RX9 yX9_takeAlignment yX9_takeAlignment ∈ tb := tb_6 (i := 123) (by decide +kernel) rfl
theorem YX9_takeAlignment : Yv yX9_takeAlignment cX9_takeAlignment 3 (some .boolean) 1 := ⟨wcX9_takeAlignment, wlX9_takeAlignment, wnX9_takeAlignment, wi_9, by decide +kernel, by decide +kernel, by decide +kernel⟩
abbrev cX9_alignOf : ByteArray := prog_11_method_5_code
def yX9_alignOf : MethodName := ⟨RX9, "alignOf", "(LTypeRoom$Row;II)I"⟩
theorem wcX9_alignOf : Cond.code yX9_alignOf cX9_alignOf 6 (some .int) ∈ tb := tb_6 (i := 127) rfl rfl
theorem wsX9_alignOf : Cond.static yX9_alignOf ∈ tb := tb_6 (i := 126) (by decide +kernel) rfl
theorem YX9_alignOf : Ys yX9_alignOf cX9_alignOf 6 (some .int) 3 := ⟨wcX9_alignOf, wsX9_alignOf, wi_9, by decide +kernel, by decide +kernel, by decide +kernel⟩
abbrev cX9_takeCell : ByteArray := prog_11_method_6_code
def yX9_takeCell : MethodName := ⟨RX9, "takeCell", "(LTypeRoom$Row;)V"⟩
theorem wcX9_takeCell : Cond.code yX9_takeCell cX9_takeCell 3 none ∈ tb := tb_6 (i := 131) rfl rfl
theorem wnX9_takeCell : Cond.instanceMethod yX9_takeCell ∈ tb := tb_6 (i := 129) (by decide +kernel) rfl
theorem wlX9_takeCell : Cond.selects RX9 yX9_takeCell yX9_takeCell ∈ tb := tb_6 (i := 130) (by decide +kernel) rfl
theorem YX9_takeCell : Yv yX9_takeCell cX9_takeCell 3 none 1 := ⟨wcX9_takeCell, wlX9_takeCell, wnX9_takeCell, wi_9, by decide +kernel, by decide +kernel, by decide +kernel⟩
abbrev cX9_closeRow : ByteArray := prog_11_method_7_code
def yX9_closeRow : MethodName := ⟨RX9, "closeRow", "()V"⟩
theorem wcX9_closeRow : Cond.code yX9_closeRow cX9_closeRow 1 none ∈ tb := tb_6 (i := 139) rfl rfl
theorem wnX9_closeRow : Cond.instanceMethod yX9_closeRow ∈ tb := tb_6 (i := 137) (by decide +kernel) rfl
theorem wlX9_closeRow : Cond.selects RX9 yX9_closeRow yX9_closeRow ∈ tb := tb_6 (i := 138) (by decide +kernel) rfl
theorem YX9_closeRow : Yv yX9_closeRow cX9_closeRow 1 none 0 := ⟨wcX9_closeRow, wlX9_closeRow, wnX9_closeRow, wi_9, by decide +kernel, by decide +kernel, by decide +kernel⟩
abbrev cX9_narrow : ByteArray := prog_11_method_8_code
def yX9_narrow : MethodName := ⟨RX9, "narrow", "(I)V"⟩
theorem wcX9_narrow : Cond.code yX9_narrow cX9_narrow 6 none ∈ tb := tb_6 (i := 143) rfl rfl
theorem wnX9_narrow : Cond.instanceMethod yX9_narrow ∈ tb := tb_6 (i := 141) (by decide +kernel) rfl
theorem wlX9_narrow : Cond.selects RX9 yX9_narrow yX9_narrow ∈ tb := tb_6 (i := 142) (by decide +kernel) rfl
theorem YX9_narrow : Yv yX9_narrow cX9_narrow 6 none 1 := ⟨wcX9_narrow, wlX9_narrow, wnX9_narrow, wi_9, by decide +kernel, by decide +kernel, by decide +kernel⟩
abbrev cX9_print : ByteArray := prog_11_method_9_code
def yX9_print : MethodName := ⟨RX9, "print", "(I)V"⟩
theorem wcX9_print : Cond.code yX9_print cX9_print 6 none ∈ tb := tb_6 (i := 147) rfl rfl
theorem wnX9_print : Cond.instanceMethod yX9_print ∈ tb := tb_6 (i := 145) (by decide +kernel) rfl
theorem wlX9_print : Cond.selects RX9 yX9_print yX9_print ∈ tb := tb_6 (i := 146) (by decide +kernel) rfl
theorem YX9_print : Yv yX9_print cX9_print 6 none 1 := ⟨wcX9_print, wlX9_print, wnX9_print, wi_9, by decide +kernel, by decide +kernel, by decide +kernel⟩
abbrev cX9_printDashes : ByteArray := prog_11_method_10_code
def yX9_printDashes : MethodName := ⟨RX9, "printDashes", "()V"⟩
theorem wcX9_printDashes : Cond.code yX9_printDashes cX9_printDashes 3 none ∈ tb := tb_6 (i := 162) rfl rfl
theorem wnX9_printDashes : Cond.instanceMethod yX9_printDashes ∈ tb := tb_6 (i := 161) (by decide +kernel) rfl
theorem wlX9_printDashes : Cond.selects RX9 yX9_printDashes yX9_printDashes ∈ tb := tb_s (i := 52) (by decide +kernel) rfl
theorem YX9_printDashes : Yv yX9_printDashes cX9_printDashes 3 none 0 := ⟨wcX9_printDashes, wlX9_printDashes, wnX9_printDashes, wi_9, by decide +kernel, by decide +kernel, by decide +kernel⟩
abbrev cX9_printParts : ByteArray := prog_11_method_11_code
def yX9_printParts : MethodName := ⟨RX9, "printParts", "(I)V"⟩
theorem wcX9_printParts : Cond.code yX9_printParts cX9_printParts 11 none ∈ tb := tb_6 (i := 155) rfl rfl
theorem wnX9_printParts : Cond.instanceMethod yX9_printParts ∈ tb := tb_6 (i := 154) (by decide +kernel) rfl
theorem wlX9_printParts : Cond.selects RX9 yX9_printParts yX9_printParts ∈ tb := tb_s (i := 51) (by decide +kernel) rfl
theorem YX9_printParts : Yv yX9_printParts cX9_printParts 11 none 1 := ⟨wcX9_printParts, wlX9_printParts, wnX9_printParts, wi_9, by decide +kernel, by decide +kernel, by decide +kernel⟩
abbrev cX10_openRound : ByteArray := prog_12_method_2_code
def yX10_openRound : MethodName := ⟨RX10, "openRound", "(LTypeRoom$Marks;LTypeRoom$Marks;)V"⟩
theorem wcX10_openRound : Cond.code yX10_openRound cX10_openRound 3 none ∈ tb := tb_4 (i := 45) rfl rfl
theorem wnX10_openRound : Cond.instanceMethod yX10_openRound ∈ tb := tb_4 (i := 43) (by decide +kernel) rfl
theorem wlX10_openRound : Cond.selects RX10 yX10_openRound yX10_openRound ∈ tb := tb_4 (i := 44) (by decide +kernel) rfl
theorem YX10_openRound : Yv yX10_openRound cX10_openRound 3 none 2 := ⟨wcX10_openRound, wlX10_openRound, wnX10_openRound, wi_10, by decide +kernel, by decide +kernel, by decide +kernel⟩
abbrev cX10_beginWith : ByteArray := prog_12_method_4_code
def yX10_beginWith : MethodName := ⟨RX10, "beginWith", "(LTypeRoom$Row;)V"⟩
theorem wcX10_beginWith : Cond.code yX10_beginWith cX10_beginWith 2 none ∈ tb := tb_5 (i := 178) rfl rfl
theorem wnX10_beginWith : Cond.instanceMethod yX10_beginWith ∈ tb := tb_5 (i := 176) (by decide +kernel) rfl
theorem wlX10_beginWith : Cond.selects RX10 yX10_beginWith yX10_beginWith ∈ tb := tb_5 (i := 177) (by decide +kernel) rfl
theorem YX10_beginWith : Yv yX10_beginWith cX10_beginWith 2 none 1 := ⟨wcX10_beginWith, wlX10_beginWith, wnX10_beginWith, wi_10, by decide +kernel, by decide +kernel, by decide +kernel⟩
abbrev cX10_workAlone : ByteArray := prog_12_method_5_code
def yX10_workAlone : MethodName := ⟨RX10, "workAlone", "(LTypeRoom$Row;LTypeRoom$Marks;)V"⟩
theorem wcX10_workAlone : Cond.code yX10_workAlone cX10_workAlone 3 none ∈ tb := tb_7 (i := 58) rfl rfl
theorem wnX10_workAlone : Cond.instanceMethod yX10_workAlone ∈ tb := tb_7 (i := 56) (by decide +kernel) rfl
theorem wlX10_workAlone : Cond.selects RX10 yX10_workAlone yX10_workAlone ∈ tb := tb_7 (i := 57) (by decide +kernel) rfl
theorem YX10_workAlone : Yv yX10_workAlone cX10_workAlone 3 none 2 := ⟨wcX10_workAlone, wlX10_workAlone, wnX10_workAlone, wi_10, by decide +kernel, by decide +kernel, by decide +kernel⟩
abbrev cX10_work : ByteArray := prog_12_method_6_code
def yX10_work : MethodName := ⟨RX10, "work", "(LTypeRoom$Row;III)V"⟩
theorem wcX10_work : Cond.code yX10_work cX10_work 9 none ∈ tb := tb_5 (i := 187) rfl rfl
theorem wnX10_work : Cond.instanceMethod yX10_work ∈ tb := tb_5 (i := 185) (by decide +kernel) rfl
theorem wlX10_work : Cond.selects RX10 yX10_work yX10_work ∈ tb := tb_5 (i := 186) (by decide +kernel) rfl
theorem YX10_work : Yv yX10_work cX10_work 9 none 4 := ⟨wcX10_work, wlX10_work, wnX10_work, wi_10, by decide +kernel, by decide +kernel, by decide +kernel⟩
abbrev cX10_escape : ByteArray := prog_12_method_7_code
def yX10_escape : MethodName := ⟨RX10, "escape", "(LTypeRoom$Row;III)I"⟩
theorem wcX10_escape : Cond.code yX10_escape cX10_escape 6 (some .int) ∈ tb := tb_5 (i := 192) rfl rfl
theorem wnX10_escape : Cond.instanceMethod yX10_escape ∈ tb := tb_5 (i := 191) (by decide +kernel) rfl
theorem wlX10_escape : Cond.selects RX10 yX10_escape yX10_escape ∈ tb := tb_s (i := 24) (by decide +kernel) rfl
theorem YX10_escape : Yv yX10_escape cX10_escape 6 (some .int) 4 := ⟨wcX10_escape, wlX10_escape, wnX10_escape, wi_10, by decide +kernel, by decide +kernel, by decide +kernel⟩
abbrev cX10_inside : ByteArray := prog_12_method_8_code
def yX10_inside : MethodName := ⟨RX10, "inside", "(LTypeRoom$Row;III)V"⟩
theorem wcX10_inside : Cond.code yX10_inside cX10_inside 6 none ∈ tb := tb_5 (i := 221) rfl rfl
theorem wnX10_inside : Cond.instanceMethod yX10_inside ∈ tb := tb_5 (i := 220) (by decide +kernel) rfl
theorem wlX10_inside : Cond.selects RX10 yX10_inside yX10_inside ∈ tb := tb_s (i := 29) (by decide +kernel) rfl
theorem YX10_inside : Yv yX10_inside cX10_inside 6 none 4 := ⟨wcX10_inside, wlX10_inside, wnX10_inside, wi_10, by decide +kernel, by decide +kernel, by decide +kernel⟩
abbrev cX10_call : ByteArray := prog_12_method_9_code
def yX10_call : MethodName := ⟨RX10, "call", "(LTypeRoom$Row;III)I"⟩
theorem wcX10_call : Cond.code yX10_call cX10_call 16 (some .int) ∈ tb := tb_5 (i := 198) rfl rfl
theorem wnX10_call : Cond.instanceMethod yX10_call ∈ tb := tb_5 (i := 197) (by decide +kernel) rfl
theorem wlX10_call : Cond.selects RX10 yX10_call yX10_call ∈ tb := tb_s (i := 25) (by decide +kernel) rfl
theorem YX10_call : Yv yX10_call cX10_call 16 (some .int) 4 := ⟨wcX10_call, wlX10_call, wnX10_call, wi_10, by decide +kernel, by decide +kernel, by decide +kernel⟩
abbrev cX10_workBody : ByteArray := prog_12_method_10_code
def yX10_workBody : MethodName := ⟨RX10, "workBody", "(III)V"⟩
theorem wcX10_workBody : Cond.code yX10_workBody cX10_workBody 7 none ∈ tb := tb_5 (i := 226) rfl rfl
theorem wnX10_workBody : Cond.instanceMethod yX10_workBody ∈ tb := tb_5 (i := 225) (by decide +kernel) rfl
theorem wlX10_workBody : Cond.selects RX10 yX10_workBody yX10_workBody ∈ tb := tb_s (i := 30) (by decide +kernel) rfl
theorem YX10_workBody : Yv yX10_workBody cX10_workBody 7 none 3 := ⟨wcX10_workBody, wlX10_workBody, wnX10_workBody, wi_10, by decide +kernel, by decide +kernel, by decide +kernel⟩
abbrev cX10_arityOf : ByteArray := prog_12_method_11_code
def yX10_arityOf : MethodName := ⟨RX10, "arityOf", "(II)I"⟩
theorem wcX10_arityOf : Cond.code yX10_arityOf cX10_arityOf 4 (some .int) ∈ tb := tb_5 (i := 206) rfl rfl
theorem wnX10_arityOf : Cond.instanceMethod yX10_arityOf ∈ tb := tb_5 (i := 205) (by decide +kernel) rfl
theorem wlX10_arityOf : Cond.selects RX10 yX10_arityOf yX10_arityOf ∈ tb := tb_s (i := 26) (by decide +kernel) rfl
theorem YX10_arityOf : Yv yX10_arityOf cX10_arityOf 4 (some .int) 2 := ⟨wcX10_arityOf, wlX10_arityOf, wnX10_arityOf, wi_10, by decide +kernel, by decide +kernel, by decide +kernel⟩
abbrev cX10_findArguments : ByteArray := prog_12_method_12_code
def yX10_findArguments : MethodName := ⟨RX10, "findArguments", "(LTypeRoom$Row;III)I"⟩
theorem wcX10_findArguments : Cond.code yX10_findArguments cX10_findArguments 8 (some .int) ∈ tb := tb_5 (i := 212) rfl rfl
theorem wnX10_findArguments : Cond.instanceMethod yX10_findArguments ∈ tb := tb_5 (i := 211) (by decide +kernel) rfl
theorem wlX10_findArguments : Cond.selects RX10 yX10_findArguments yX10_findArguments ∈ tb := tb_s (i := 27) (by decide +kernel) rfl
theorem YX10_findArguments : Yv yX10_findArguments cX10_findArguments 8 (some .int) 4 := ⟨wcX10_findArguments, wlX10_findArguments, wnX10_findArguments, wi_10, by decide +kernel, by decide +kernel, by decide +kernel⟩
abbrev cX10_closing : ByteArray := prog_12_method_13_code
def yX10_closing : MethodName := ⟨RX10, "closing", "(LTypeRoom$Row;II)I"⟩
theorem wcX10_closing : Cond.code yX10_closing cX10_closing 7 (some .int) ∈ tb := tb_5 (i := 216) rfl rfl
theorem wnX10_closing : Cond.instanceMethod yX10_closing ∈ tb := tb_5 (i := 215) (by decide +kernel) rfl
theorem wlX10_closing : Cond.selects RX10 yX10_closing yX10_closing ∈ tb := tb_s (i := 28) (by decide +kernel) rfl
theorem YX10_closing : Yv yX10_closing cX10_closing 7 (some .int) 3 := ⟨wcX10_closing, wlX10_closing, wnX10_closing, wi_10, by decide +kernel, by decide +kernel, by decide +kernel⟩
abbrev cX10_putArgument : ByteArray := prog_12_method_14_code
def yX10_putArgument : MethodName := ⟨RX10, "putArgument", "(I)V"⟩
theorem wcX10_putArgument : Cond.code yX10_putArgument cX10_putArgument 3 none ∈ tb := tb_6 (i := 88) rfl rfl
theorem wnX10_putArgument : Cond.instanceMethod yX10_putArgument ∈ tb := tb_6 (i := 87) (by decide +kernel) rfl
theorem wlX10_putArgument : Cond.selects RX10 yX10_putArgument yX10_putArgument ∈ tb := tb_s (i := 47) (by decide +kernel) rfl
theorem YX10_putArgument : Yv yX10_putArgument cX10_putArgument 3 none 1 := ⟨wcX10_putArgument, wlX10_putArgument, wnX10_putArgument, wi_10, by decide +kernel, by decide +kernel, by decide +kernel⟩
abbrev cX10_put : ByteArray := prog_12_method_15_code
def yX10_put : MethodName := ⟨RX10, "put", "(I)V"⟩
theorem wcX10_put : Cond.code yX10_put cX10_put 2 none ∈ tb := tb_6 (i := 1) rfl rfl
theorem wnX10_put : Cond.instanceMethod yX10_put ∈ tb := tb_6 (i := 0) (by decide +kernel) rfl
theorem wlX10_put : Cond.selects RX10 yX10_put yX10_put ∈ tb := tb_s (i := 33) (by decide +kernel) rfl
theorem YX10_put : Yv yX10_put cX10_put 2 none 1 := ⟨wcX10_put, wlX10_put, wnX10_put, wi_10, by decide +kernel, by decide +kernel, by decide +kernel⟩
abbrev cX10_putPart : ByteArray := prog_12_method_16_code
def yX10_putPart : MethodName := ⟨RX10, "putPart", "(II)V"⟩
theorem wcX10_putPart : Cond.code yX10_putPart cX10_putPart 4 none ∈ tb := tb_6 (i := 10) rfl rfl
theorem wnX10_putPart : Cond.instanceMethod yX10_putPart ∈ tb := tb_6 (i := 9) (by decide +kernel) rfl
theorem wlX10_putPart : Cond.selects RX10 yX10_putPart yX10_putPart ∈ tb := tb_s (i := 35) (by decide +kernel) rfl
theorem YX10_putPart : Yv yX10_putPart cX10_putPart 4 none 2 := ⟨wcX10_putPart, wlX10_putPart, wnX10_putPart, wi_10, by decide +kernel, by decide +kernel, by decide +kernel⟩
abbrev cX10_putScratch : ByteArray := prog_12_method_17_code
def yX10_putScratch : MethodName := ⟨RX10, "putScratch", "()V"⟩
theorem wcX10_putScratch : Cond.code yX10_putScratch cX10_putScratch 2 none ∈ tb := tb_6 (i := 39) rfl rfl
theorem wnX10_putScratch : Cond.instanceMethod yX10_putScratch ∈ tb := tb_6 (i := 38) (by decide +kernel) rfl
theorem wlX10_putScratch : Cond.selects RX10 yX10_putScratch yX10_putScratch ∈ tb := tb_s (i := 39) (by decide +kernel) rfl
theorem YX10_putScratch : Yv yX10_putScratch cX10_putScratch 2 none 0 := ⟨wcX10_putScratch, wlX10_putScratch, wnX10_putScratch, wi_10, by decide +kernel, by decide +kernel, by decide +kernel⟩
abbrev cX10_reshape : ByteArray := prog_12_method_18_code
def yX10_reshape : MethodName := ⟨RX10, "reshape", "(II)V"⟩
theorem wcX10_reshape : Cond.code yX10_reshape cX10_reshape 12 none ∈ tb := tb_5 (i := 237) rfl rfl
theorem wnX10_reshape : Cond.instanceMethod yX10_reshape ∈ tb := tb_5 (i := 236) (by decide +kernel) rfl
theorem wlX10_reshape : Cond.selects RX10 yX10_reshape yX10_reshape ∈ tb := tb_s (i := 32) (by decide +kernel) rfl
theorem YX10_reshape : Yv yX10_reshape cX10_reshape 12 none 2 := ⟨wcX10_reshape, wlX10_reshape, wnX10_reshape, wi_10, by decide +kernel, by decide +kernel, by decide +kernel⟩
abbrev cX10_recast : ByteArray := prog_12_method_19_code
def yX10_recast : MethodName := ⟨RX10, "recast", "(IIII)I"⟩
theorem wcX10_recast : Cond.code yX10_recast cX10_recast 7 (some .int) ∈ tb := tb_6 (i := 18) rfl rfl
theorem wsX10_recast : Cond.static yX10_recast ∈ tb := tb_6 (i := 17) (by decide +kernel) rfl
theorem YX10_recast : Ys yX10_recast cX10_recast 7 (some .int) 4 := ⟨wcX10_recast, wsX10_recast, wi_10, by decide +kernel, by decide +kernel, by decide +kernel⟩
abbrev cX10_putNthWord : ByteArray := prog_12_method_20_code
def yX10_putNthWord : MethodName := ⟨RX10, "putNthWord", "(III)V"⟩
theorem wcX10_putNthWord : Cond.code yX10_putNthWord cX10_putNthWord 8 none ∈ tb := tb_6 (i := 15) rfl rfl
theorem wnX10_putNthWord : Cond.instanceMethod yX10_putNthWord ∈ tb := tb_6 (i := 14) (by decide +kernel) rfl
theorem wlX10_putNthWord : Cond.selects RX10 yX10_putNthWord yX10_putNthWord ∈ tb := tb_s (i := 36) (by decide +kernel) rfl
theorem YX10_putNthWord : Yv yX10_putNthWord cX10_putNthWord 8 none 3 := ⟨wcX10_putNthWord, wlX10_putNthWord, wnX10_putNthWord, wi_10, by decide +kernel, by decide +kernel, by decide +kernel⟩
abbrev cX10_reckon : ByteArray := prog_12_method_21_code
def yX10_reckon : MethodName := ⟨RX10, "reckon", "(II)V"⟩
theorem wcX10_reckon : Cond.code yX10_reckon cX10_reckon 5 none ∈ tb := tb_6 (i := 30) rfl rfl
theorem wnX10_reckon : Cond.instanceMethod yX10_reckon ∈ tb := tb_6 (i := 29) (by decide +kernel) rfl
theorem wlX10_reckon : Cond.selects RX10 yX10_reckon yX10_reckon ∈ tb := tb_s (i := 37) (by decide +kernel) rfl
theorem YX10_reckon : Yv yX10_reckon cX10_reckon 5 none 2 := ⟨wcX10_reckon, wlX10_reckon, wnX10_reckon, wi_10, by decide +kernel, by decide +kernel, by decide +kernel⟩
abbrev cX10_placeOf : ByteArray := prog_12_method_22_code
def yX10_placeOf : MethodName := ⟨RX10, "placeOf", "(I)I"⟩
theorem wcX10_placeOf : Cond.code yX10_placeOf cX10_placeOf 6 (some .int) ∈ tb := tb_6 (i := 34) rfl rfl
theorem wnX10_placeOf : Cond.instanceMethod yX10_placeOf ∈ tb := tb_6 (i := 33) (by decide +kernel) rfl
theorem wlX10_placeOf : Cond.selects RX10 yX10_placeOf yX10_placeOf ∈ tb := tb_s (i := 38) (by decide +kernel) rfl
theorem YX10_placeOf : Yv yX10_placeOf cX10_placeOf 6 (some .int) 1 := ⟨wcX10_placeOf, wlX10_placeOf, wnX10_placeOf, wi_10, by decide +kernel, by decide +kernel, by decide +kernel⟩
abbrev cX10_tellCounter : ByteArray := prog_12_method_23_code
def yX10_tellCounter : MethodName := ⟨RX10, "tellCounter", "(II)V"⟩
theorem wcX10_tellCounter : Cond.code yX10_tellCounter cX10_tellCounter 5 none ∈ tb := tb_6 (i := 43) rfl rfl
theorem wnX10_tellCounter : Cond.instanceMethod yX10_tellCounter ∈ tb := tb_6 (i := 42) (by decide +kernel) rfl
theorem wlX10_tellCounter : Cond.selects RX10 yX10_tellCounter yX10_tellCounter ∈ tb := tb_s (i := 40) (by decide +kernel) rfl
theorem YX10_tellCounter : Yv yX10_tellCounter cX10_tellCounter 5 none 2 := ⟨wcX10_tellCounter, wlX10_tellCounter, wnX10_tellCounter, wi_10, by decide +kernel, by decide +kernel, by decide +kernel⟩
abbrev cX10_sameArguments : ByteArray := prog_12_method_24_code
def yX10_sameArguments : MethodName := ⟨RX10, "sameArguments", "(I)Z"⟩
theorem wcX10_sameArguments : Cond.code yX10_sameArguments cX10_sameArguments 5 (some .boolean) ∈ tb := tb_5 (i := 232) rfl rfl
theorem wnX10_sameArguments : Cond.instanceMethod yX10_sameArguments ∈ tb := tb_5 (i := 231) (by decide +kernel) rfl
theorem wlX10_sameArguments : Cond.selects RX10 yX10_sameArguments yX10_sameArguments ∈ tb := tb_s (i := 31) (by decide +kernel) rfl
theorem YX10_sameArguments : Yv yX10_sameArguments cX10_sameArguments 5 (some .boolean) 1 := ⟨wcX10_sameArguments, wlX10_sameArguments, wnX10_sameArguments, wi_10, by decide +kernel, by decide +kernel, by decide +kernel⟩
abbrev cX10_number : ByteArray := prog_12_method_25_code
def yX10_number : MethodName := ⟨RX10, "number", "(III)I"⟩
theorem wcX10_number : Cond.code yX10_number cX10_number 12 (some .int) ∈ tb := tb_6 (i := 5) rfl rfl
theorem wnX10_number : Cond.instanceMethod yX10_number ∈ tb := tb_6 (i := 4) (by decide +kernel) rfl
theorem wlX10_number : Cond.selects RX10 yX10_number yX10_number ∈ tb := tb_s (i := 34) (by decide +kernel) rfl
theorem YX10_number : Yv yX10_number cX10_number 12 (some .int) 3 := ⟨wcX10_number, wlX10_number, wnX10_number, wi_10, by decide +kernel, by decide +kernel, by decide +kernel⟩
abbrev cX10_needKey : ByteArray := prog_12_method_26_code
def yX10_needKey : MethodName := ⟨RX10, "needKey", "(I)V"⟩
theorem wcX10_needKey : Cond.code yX10_needKey cX10_needKey 6 none ∈ tb := tb_6 (i := 47) rfl rfl
theorem wnX10_needKey : Cond.instanceMethod yX10_needKey ∈ tb := tb_6 (i := 46) (by decide +kernel) rfl
theorem wlX10_needKey : Cond.selects RX10 yX10_needKey yX10_needKey ∈ tb := tb_s (i := 41) (by decide +kernel) rfl
theorem YX10_needKey : Yv yX10_needKey cX10_needKey 6 none 1 := ⟨wcX10_needKey, wlX10_needKey, wnX10_needKey, wi_10, by decide +kernel, by decide +kernel, by decide +kernel⟩
abbrev cX10_note : ByteArray := prog_12_method_27_code
def yX10_note : MethodName := ⟨RX10, "note", "(I)V"⟩
theorem wcX10_note : Cond.code yX10_note cX10_note 2 none ∈ tb := tb_6 (i := 57) rfl rfl
theorem wnX10_note : Cond.instanceMethod yX10_note ∈ tb := tb_6 (i := 56) (by decide +kernel) rfl
theorem wlX10_note : Cond.selects RX10 yX10_note yX10_note ∈ tb := tb_s (i := 42) (by decide +kernel) rfl
theorem YX10_note : Yv yX10_note cX10_note 2 none 1 := ⟨wcX10_note, wlX10_note, wnX10_note, wi_10, by decide +kernel, by decide +kernel, by decide +kernel⟩
abbrev cX10_label : ByteArray := prog_12_method_28_code
def yX10_label : MethodName := ⟨RX10, "label", "(I)V"⟩
theorem wcX10_label : Cond.code yX10_label cX10_label 4 none ∈ tb := tb_6 (i := 62) rfl rfl
theorem wnX10_label : Cond.instanceMethod yX10_label ∈ tb := tb_6 (i := 61) (by decide +kernel) rfl
theorem wlX10_label : Cond.selects RX10 yX10_label yX10_label ∈ tb := tb_s (i := 43) (by decide +kernel) rfl
theorem YX10_label : Yv yX10_label cX10_label 4 none 1 := ⟨wcX10_label, wlX10_label, wnX10_label, wi_10, by decide +kernel, by decide +kernel, by decide +kernel⟩
abbrev cX10_index : ByteArray := prog_12_method_29_code
def yX10_index : MethodName := ⟨RX10, "index", "(I)V"⟩
theorem wcX10_index : Cond.code yX10_index cX10_index 3 none ∈ tb := tb_6 (i := 74) rfl rfl
theorem wnX10_index : Cond.instanceMethod yX10_index ∈ tb := tb_6 (i := 73) (by decide +kernel) rfl
theorem wlX10_index : Cond.selects RX10 yX10_index yX10_index ∈ tb := tb_s (i := 45) (by decide +kernel) rfl
theorem YX10_index : Yv yX10_index cX10_index 3 none 1 := ⟨wcX10_index, wlX10_index, wnX10_index, wi_10, by decide +kernel, by decide +kernel, by decide +kernel⟩
abbrev cX10_lastSolid : ByteArray := prog_12_method_30_code
def yX10_lastSolid : MethodName := ⟨RX10, "lastSolid", "()I"⟩
theorem wcX10_lastSolid : Cond.code yX10_lastSolid cX10_lastSolid 2 (some .int) ∈ tb := tb_6 (i := 70) rfl rfl
theorem wnX10_lastSolid : Cond.instanceMethod yX10_lastSolid ∈ tb := tb_6 (i := 69) (by decide +kernel) rfl
theorem wlX10_lastSolid : Cond.selects RX10 yX10_lastSolid yX10_lastSolid ∈ tb := tb_s (i := 44) (by decide +kernel) rfl
theorem YX10_lastSolid : Yv yX10_lastSolid cX10_lastSolid 2 (some .int) 0 := ⟨wcX10_lastSolid, wlX10_lastSolid, wnX10_lastSolid, wi_10, by decide +kernel, by decide +kernel, by decide +kernel⟩
abbrev cX10_firstSolid : ByteArray := prog_12_method_31_code
def yX10_firstSolid : MethodName := ⟨RX10, "firstSolid", "()I"⟩
theorem wcX10_firstSolid : Cond.code yX10_firstSolid cX10_firstSolid 2 (some .int) ∈ tb := tb_6 (i := 99) rfl rfl
theorem wnX10_firstSolid : Cond.instanceMethod yX10_firstSolid ∈ tb := tb_6 (i := 97) (by decide +kernel) rfl
theorem wlX10_firstSolid : Cond.selects RX10 yX10_firstSolid yX10_firstSolid ∈ tb := tb_6 (i := 98) (by decide +kernel) rfl
theorem YX10_firstSolid : Yv yX10_firstSolid cX10_firstSolid 2 (some .int) 0 := ⟨wcX10_firstSolid, wlX10_firstSolid, wnX10_firstSolid, wi_10, by decide +kernel, by decide +kernel, by decide +kernel⟩
abbrev cX10_refer : ByteArray := prog_12_method_32_code
def yX10_refer : MethodName := ⟨RX10, "refer", "(II)V"⟩
theorem wcX10_refer : Cond.code yX10_refer cX10_refer 4 none ∈ tb := tb_6 (i := 78) rfl rfl
theorem wnX10_refer : Cond.instanceMethod yX10_refer ∈ tb := tb_6 (i := 77) (by decide +kernel) rfl
theorem wlX10_refer : Cond.selects RX10 yX10_refer yX10_refer ∈ tb := tb_s (i := 46) (by decide +kernel) rfl
theorem YX10_refer : Yv yX10_refer cX10_refer 4 none 2 := ⟨wcX10_refer, wlX10_refer, wnX10_refer, wi_10, by decide +kernel, by decide +kernel, by decide +kernel⟩
abbrev cX11_feed : ByteArray := prog_1_method_2_code
def yX11_feed : MethodName := ⟨RX11, "feed", "(JJJ)I"⟩
theorem wcX11_feed : Cond.code yX11_feed cX11_feed 7 (some .int) ∈ tb := tb_3 (i := 151) rfl rfl
theorem wnX11_feed : Cond.instanceMethod yX11_feed ∈ tb := tb_3 (i := 149) (by decide +kernel) rfl
theorem wlX11_feed : Cond.selects RX11 yX11_feed yX11_feed ∈ tb := tb_3 (i := 150) (by decide +kernel) rfl
theorem YX11_feed : Yv yX11_feed cX11_feed 7 (some .int) 3 := ⟨wcX11_feed, wlX11_feed, wnX11_feed, wi_11, by decide +kernel, by decide +kernel, by decide +kernel⟩
abbrev cX11_write : ByteArray := prog_1_method_3_code
def yX11_write : MethodName := ⟨RX11, "write", "()I"⟩
theorem wcX11_write : Cond.code yX11_write cX11_write 1 (some .int) ∈ tb := tb_3 (i := 165) rfl rfl
theorem wnX11_write : Cond.instanceMethod yX11_write ∈ tb := tb_3 (i := 163) (by decide +kernel) rfl
theorem wlX11_write : Cond.selects RX11 yX11_write yX11_write ∈ tb := tb_3 (i := 164) (by decide +kernel) rfl
theorem YX11_write : Yv yX11_write cX11_write 1 (some .int) 0 := ⟨wcX11_write, wlX11_write, wnX11_write, wi_11, by decide +kernel, by decide +kernel, by decide +kernel⟩
abbrev cX11_add : ByteArray := prog_1_method_4_code
def yX11_add : MethodName := ⟨RX11, "add", "()I"⟩
theorem wcX11_add : Cond.code yX11_add cX11_add 1 (some .int) ∈ tb := tb_3 (i := 199) rfl rfl
theorem wnX11_add : Cond.instanceMethod yX11_add ∈ tb := tb_3 (i := 197) (by decide +kernel) rfl
theorem wlX11_add : Cond.selects RX11 yX11_add yX11_add ∈ tb := tb_3 (i := 198) (by decide +kernel) rfl
theorem YX11_add : Yv yX11_add cX11_add 1 (some .int) 0 := ⟨wcX11_add, wlX11_add, wnX11_add, wi_11, by decide +kernel, by decide +kernel, by decide +kernel⟩
abbrev cX11_replace : ByteArray := prog_1_method_5_code
def yX11_replace : MethodName := ⟨RX11, "replace", "(I)I"⟩
theorem wcX11_replace : Cond.code yX11_replace cX11_replace 3 (some .int) ∈ tb := tb_7 (i := 89) rfl rfl
theorem wnX11_replace : Cond.instanceMethod yX11_replace ∈ tb := tb_7 (i := 87) (by decide +kernel) rfl
theorem wlX11_replace : Cond.selects RX11 yX11_replace yX11_replace ∈ tb := tb_7 (i := 88) (by decide +kernel) rfl
theorem YX11_replace : Yv yX11_replace cX11_replace 3 (some .int) 1 := ⟨wcX11_replace, wlX11_replace, wnX11_replace, wi_11, by decide +kernel, by decide +kernel, by decide +kernel⟩
abbrev cX11_back : ByteArray := prog_1_method_6_code
def yX11_back : MethodName := ⟨RX11, "back", "()Z"⟩
theorem wcX11_back : Cond.code yX11_back cX11_back 1 (some .boolean) ∈ tb := tb_3 (i := 209) rfl rfl
theorem wnX11_back : Cond.instanceMethod yX11_back ∈ tb := tb_3 (i := 207) (by decide +kernel) rfl
theorem wlX11_back : Cond.selects RX11 yX11_back yX11_back ∈ tb := tb_3 (i := 208) (by decide +kernel) rfl
theorem YX11_back : Yv yX11_back cX11_back 1 (some .boolean) 0 := ⟨wcX11_back, wlX11_back, wnX11_back, wi_11, by decide +kernel, by decide +kernel, by decide +kernel⟩
abbrev cX11_find : ByteArray := prog_1_method_7_code
def yX11_find : MethodName := ⟨RX11, "find", "(I)I"⟩
theorem wcX11_find : Cond.code yX11_find cX11_find 4 (some .int) ∈ tb := tb_3 (i := 213) rfl rfl
theorem wnX11_find : Cond.instanceMethod yX11_find ∈ tb := tb_3 (i := 211) (by decide +kernel) rfl
theorem wlX11_find : Cond.selects RX11 yX11_find yX11_find ∈ tb := tb_3 (i := 212) (by decide +kernel) rfl
theorem YX11_find : Yv yX11_find cX11_find 4 (some .int) 1 := ⟨wcX11_find, wlX11_find, wnX11_find, wi_11, by decide +kernel, by decide +kernel, by decide +kernel⟩
abbrev cX11_set : ByteArray := prog_1_method_9_code
def yX11_set : MethodName := ⟨RX11, "set", "()I"⟩
theorem wcX11_set : Cond.codeWith yX11_set cX11_set 3 (some .int) [(23, 54, 57, 150)] ∈ tb := tb_3 (i := 225) rfl rfl
theorem wnX11_set : Cond.instanceMethod yX11_set ∈ tb := tb_3 (i := 223) (by decide +kernel) rfl
theorem wlX11_set : Cond.selects RX11 yX11_set yX11_set ∈ tb := tb_3 (i := 224) (by decide +kernel) rfl
theorem YX11_set : YvW yX11_set cX11_set 3 (some .int) [(23, 54, 57, 150)] 0 := ⟨wcX11_set, wlX11_set, wnX11_set, wi_11, by decide +kernel, by decide +kernel, by decide +kernel⟩
abbrev cX11_lines : ByteArray := prog_1_method_11_code
def yX11_lines : MethodName := ⟨RX11, "lines", "(I)I"⟩
theorem wcX11_lines : Cond.code yX11_lines cX11_lines 2 (some .int) ∈ tb := tb_7 (i := 143) rfl rfl
theorem wnX11_lines : Cond.instanceMethod yX11_lines ∈ tb := tb_7 (i := 141) (by decide +kernel) rfl
theorem wlX11_lines : Cond.selects RX11 yX11_lines yX11_lines ∈ tb := tb_7 (i := 142) (by decide +kernel) rfl
theorem YX11_lines : Yv yX11_lines cX11_lines 2 (some .int) 1 := ⟨wcX11_lines, wlX11_lines, wnX11_lines, wi_11, by decide +kernel, by decide +kernel, by decide +kernel⟩
abbrev cX11_length : ByteArray := prog_1_method_12_code
def yX11_length : MethodName := ⟨RX11, "length", "(II)I"⟩
theorem wcX11_length : Cond.code yX11_length cX11_length 3 (some .int) ∈ tb := tb_7 (i := 173) rfl rfl
theorem wnX11_length : Cond.instanceMethod yX11_length ∈ tb := tb_7 (i := 171) (by decide +kernel) rfl
theorem wlX11_length : Cond.selects RX11 yX11_length yX11_length ∈ tb := tb_7 (i := 172) (by decide +kernel) rfl
theorem YX11_length : Yv yX11_length cX11_length 3 (some .int) 2 := ⟨wcX11_length, wlX11_length, wnX11_length, wi_11, by decide +kernel, by decide +kernel, by decide +kernel⟩
abbrev cX11_sign : ByteArray := prog_1_method_13_code
def yX11_sign : MethodName := ⟨RX11, "sign", "(III)I"⟩
theorem wcX11_sign : Cond.code yX11_sign cX11_sign 4 (some .int) ∈ tb := tb_7 (i := 188) rfl rfl
theorem wnX11_sign : Cond.instanceMethod yX11_sign ∈ tb := tb_7 (i := 186) (by decide +kernel) rfl
theorem wlX11_sign : Cond.selects RX11 yX11_sign yX11_sign ∈ tb := tb_7 (i := 187) (by decide +kernel) rfl
theorem YX11_sign : Yv yX11_sign cX11_sign 4 (some .int) 3 := ⟨wcX11_sign, wlX11_sign, wnX11_sign, wi_11, by decide +kernel, by decide +kernel, by decide +kernel⟩
abbrev cX11_style : ByteArray := prog_1_method_14_code
def yX11_style : MethodName := ⟨RX11, "style", "(III)I"⟩
theorem wcX11_style : Cond.code yX11_style cX11_style 4 (some .int) ∈ tb := tb_7 (i := 199) rfl rfl
theorem wnX11_style : Cond.instanceMethod yX11_style ∈ tb := tb_7 (i := 197) (by decide +kernel) rfl
theorem wlX11_style : Cond.selects RX11 yX11_style yX11_style ∈ tb := tb_7 (i := 198) (by decide +kernel) rfl
theorem YX11_style : Yv yX11_style cX11_style 4 (some .int) 3 := ⟨wcX11_style, wlX11_style, wnX11_style, wi_11, by decide +kernel, by decide +kernel, by decide +kernel⟩
abbrev cX11_origin : ByteArray := prog_1_method_15_code
def yX11_origin : MethodName := ⟨RX11, "origin", "(II)I"⟩
theorem wcX11_origin : Cond.code yX11_origin cX11_origin 3 (some .int) ∈ tb := tb_7 (i := 206) rfl rfl
theorem wnX11_origin : Cond.instanceMethod yX11_origin ∈ tb := tb_7 (i := 204) (by decide +kernel) rfl
theorem wlX11_origin : Cond.selects RX11 yX11_origin yX11_origin ∈ tb := tb_7 (i := 205) (by decide +kernel) rfl
theorem YX11_origin : Yv yX11_origin cX11_origin 3 (some .int) 2 := ⟨wcX11_origin, wlX11_origin, wnX11_origin, wi_11, by decide +kernel, by decide +kernel, by decide +kernel⟩
abbrev cX11_labelled : ByteArray := prog_1_method_16_code
def yX11_labelled : MethodName := ⟨RX11, "labelled", "()I"⟩
theorem wcX11_labelled : Cond.code yX11_labelled cX11_labelled 3 (some .int) ∈ tb := tb_7 (i := 47) rfl rfl
theorem wnX11_labelled : Cond.instanceMethod yX11_labelled ∈ tb := tb_7 (i := 45) (by decide +kernel) rfl
theorem wlX11_labelled : Cond.selects RX11 yX11_labelled yX11_labelled ∈ tb := tb_7 (i := 46) (by decide +kernel) rfl
theorem YX11_labelled : Yv yX11_labelled cX11_labelled 3 (some .int) 0 := ⟨wcX11_labelled, wlX11_labelled, wnX11_labelled, wi_11, by decide +kernel, by decide +kernel, by decide +kernel⟩
abbrev cX11_tell : ByteArray := prog_1_method_17_code
def yX11_tell : MethodName := ⟨RX11, "tell", "()I"⟩
theorem wcX11_tell : Cond.codeWith yX11_tell cX11_tell 3 (some .int) [(75, 93, 96, 150)] ∈ tb := tb_7 (i := 54) rfl rfl
theorem wnX11_tell : Cond.instanceMethod yX11_tell ∈ tb := tb_7 (i := 52) (by decide +kernel) rfl
theorem wlX11_tell : Cond.selects RX11 yX11_tell yX11_tell ∈ tb := tb_7 (i := 53) (by decide +kernel) rfl
theorem YX11_tell : YvW yX11_tell cX11_tell 3 (some .int) [(75, 93, 96, 150)] 0 := ⟨wcX11_tell, wlX11_tell, wnX11_tell, wi_11, by decide +kernel, by decide +kernel, by decide +kernel⟩
abbrev cX11_hyphens : ByteArray := prog_1_method_18_code
def yX11_hyphens : MethodName := ⟨RX11, "hyphens", "()I"⟩
theorem wcX11_hyphens : Cond.code yX11_hyphens cX11_hyphens 3 (some .int) ∈ tb := tb_7 (i := 65) rfl rfl
theorem wnX11_hyphens : Cond.instanceMethod yX11_hyphens ∈ tb := tb_7 (i := 63) (by decide +kernel) rfl
theorem wlX11_hyphens : Cond.selects RX11 yX11_hyphens yX11_hyphens ∈ tb := tb_7 (i := 64) (by decide +kernel) rfl
theorem YX11_hyphens : Yv yX11_hyphens cX11_hyphens 3 (some .int) 0 := ⟨wcX11_hyphens, wlX11_hyphens, wnX11_hyphens, wi_11, by decide +kernel, by decide +kernel, by decide +kernel⟩
abbrev cX11_keep : ByteArray := prog_1_method_20_code
def yX11_keep : MethodName := ⟨RX11, "keep", "()I"⟩
theorem wcX11_keep : Cond.code yX11_keep cX11_keep 1 (some .int) ∈ tb := tb_7 (i := 213) rfl rfl
theorem wnX11_keep : Cond.instanceMethod yX11_keep ∈ tb := tb_7 (i := 211) (by decide +kernel) rfl
theorem wlX11_keep : Cond.selects RX11 yX11_keep yX11_keep ∈ tb := tb_7 (i := 212) (by decide +kernel) rfl
theorem YX11_keep : Yv yX11_keep cX11_keep 1 (some .int) 0 := ⟨wcX11_keep, wlX11_keep, wnX11_keep, wi_11, by decide +kernel, by decide +kernel, by decide +kernel⟩
abbrev cX11_changed : ByteArray := prog_1_method_21_code
def yX11_changed : MethodName := ⟨RX11, "changed", "(I)I"⟩
theorem wcX11_changed : Cond.code yX11_changed cX11_changed 2 (some .int) ∈ tb := tb_7 (i := 231) rfl rfl
theorem wnX11_changed : Cond.instanceMethod yX11_changed ∈ tb := tb_7 (i := 229) (by decide +kernel) rfl
theorem wlX11_changed : Cond.selects RX11 yX11_changed yX11_changed ∈ tb := tb_7 (i := 230) (by decide +kernel) rfl
theorem YX11_changed : Yv yX11_changed cX11_changed 2 (some .int) 1 := ⟨wcX11_changed, wlX11_changed, wnX11_changed, wi_11, by decide +kernel, by decide +kernel, by decide +kernel⟩
abbrev cX11_count : ByteArray := prog_1_method_22_code
