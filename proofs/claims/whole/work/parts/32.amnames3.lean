theorem wnX12_isInWord : Cond.instanceMethod yX12_isInWord ∈ tb := tb_12 (i := 64) (by decide +kernel) rfl
theorem wlX12_isInWord : Cond.selects RX12 yX12_isInWord yX12_isInWord ∈ tb := tb_s (i := 184) (by decide +kernel) rfl
theorem YX12_isInWord : Yv yX12_isInWord cX12_isInWord 2 (some .boolean) 1 := ⟨wcX12_isInWord, wlX12_isInWord, wnX12_isInWord, wi_12, by decide +kernel, by decide +kernel, by decide +kernel⟩
abbrev cX12_standsAt : ByteArray := prog_14_method_127_code
def yX12_standsAt : MethodName := ⟨RX12, "standsAt", "(III)Z"⟩
theorem wcX12_standsAt : Cond.code yX12_standsAt cX12_standsAt 6 (some .boolean) ∈ tb := tb_12 (i := 61) rfl rfl
theorem wnX12_standsAt : Cond.instanceMethod yX12_standsAt ∈ tb := tb_12 (i := 60) (by decide +kernel) rfl
theorem wlX12_standsAt : Cond.selects RX12 yX12_standsAt yX12_standsAt ∈ tb := tb_s (i := 183) (by decide +kernel) rfl
theorem YX12_standsAt : Yv yX12_standsAt cX12_standsAt 6 (some .boolean) 3 := ⟨wcX12_standsAt, wlX12_standsAt, wnX12_standsAt, wi_12, by decide +kernel, by decide +kernel, by decide +kernel⟩
abbrev cX12_replace : ByteArray := prog_14_method_128_code
def yX12_replace : MethodName := ⟨RX12, "replace", "(I)I"⟩
theorem wcX12_replace : Cond.code yX12_replace cX12_replace 13 (some .int) ∈ tb := tb_12 (i := 57) rfl rfl
theorem wnX12_replace : Cond.instanceMethod yX12_replace ∈ tb := tb_12 (i := 55) (by decide +kernel) rfl
theorem wlX12_replace : Cond.selects RX12 yX12_replace yX12_replace ∈ tb := tb_12 (i := 56) (by decide +kernel) rfl
theorem YX12_replace : Yv yX12_replace cX12_replace 13 (some .int) 1 := ⟨wcX12_replace, wlX12_replace, wnX12_replace, wi_12, by decide +kernel, by decide +kernel, by decide +kernel⟩
abbrev cX12_back : ByteArray := prog_14_method_129_code
def yX12_back : MethodName := ⟨RX12, "back", "()Z"⟩
theorem wcX12_back : Cond.code yX12_back cX12_back 2 (some .boolean) ∈ tb := tb_12 (i := 69) rfl rfl
theorem wnX12_back : Cond.instanceMethod yX12_back ∈ tb := tb_12 (i := 67) (by decide +kernel) rfl
theorem wlX12_back : Cond.selects RX12 yX12_back yX12_back ∈ tb := tb_12 (i := 68) (by decide +kernel) rfl
theorem YX12_back : Yv yX12_back cX12_back 2 (some .boolean) 0 := ⟨wcX12_back, wlX12_back, wnX12_back, wi_12, by decide +kernel, by decide +kernel, by decide +kernel⟩
abbrev cX12_find : ByteArray := prog_14_method_130_code
def yX12_find : MethodName := ⟨RX12, "find", "(I)I"⟩
theorem wcX12_find : Cond.code yX12_find cX12_find 4 (some .int) ∈ tb := tb_12 (i := 73) rfl rfl
theorem wnX12_find : Cond.instanceMethod yX12_find ∈ tb := tb_12 (i := 71) (by decide +kernel) rfl
theorem wlX12_find : Cond.selects RX12 yX12_find yX12_find ∈ tb := tb_12 (i := 72) (by decide +kernel) rfl
theorem YX12_find : Yv yX12_find cX12_find 4 (some .int) 1 := ⟨wcX12_find, wlX12_find, wnX12_find, wi_12, by decide +kernel, by decide +kernel, by decide +kernel⟩
abbrev cX12_isThere : ByteArray := prog_14_method_132_code
def yX12_isThere : MethodName := ⟨RX12, "isThere", "(IIZ)Z"⟩
theorem wcX12_isThere : Cond.code yX12_isThere cX12_isThere 4 (some .boolean) ∈ tb := tb_12 (i := 89) rfl rfl
theorem wnX12_isThere : Cond.instanceMethod yX12_isThere ∈ tb := tb_12 (i := 88) (by decide +kernel) rfl
theorem wlX12_isThere : Cond.selects RX12 yX12_isThere yX12_isThere ∈ tb := tb_s (i := 185) (by decide +kernel) rfl
theorem YX12_isThere : Yv yX12_isThere cX12_isThere 4 (some .boolean) 3 := ⟨wcX12_isThere, wlX12_isThere, wnX12_isThere, wi_12, by decide +kernel, by decide +kernel, by decide +kernel⟩
abbrev cX12_isSign : ByteArray := prog_14_method_133_code
def yX12_isSign : MethodName := ⟨RX12, "isSign", "(III)Z"⟩
theorem wcX12_isSign : Cond.code yX12_isSign cX12_isSign 4 (some .boolean) ∈ tb := tb_12 (i := 101) rfl rfl
theorem wnX12_isSign : Cond.instanceMethod yX12_isSign ∈ tb := tb_12 (i := 100) (by decide +kernel) rfl
theorem wlX12_isSign : Cond.selects RX12 yX12_isSign yX12_isSign ∈ tb := tb_s (i := 186) (by decide +kernel) rfl
theorem YX12_isSign : Yv yX12_isSign cX12_isSign 4 (some .boolean) 3 := ⟨wcX12_isSign, wlX12_isSign, wnX12_isSign, wi_12, by decide +kernel, by decide +kernel, by decide +kernel⟩
abbrev cX12_lines : ByteArray := prog_14_method_135_code
def yX12_lines : MethodName := ⟨RX12, "lines", "(I)I"⟩
theorem wcX12_lines : Cond.code yX12_lines cX12_lines 2 (some .int) ∈ tb := tb_12 (i := 85) rfl rfl
theorem wnX12_lines : Cond.instanceMethod yX12_lines ∈ tb := tb_12 (i := 83) (by decide +kernel) rfl
theorem wlX12_lines : Cond.selects RX12 yX12_lines yX12_lines ∈ tb := tb_12 (i := 84) (by decide +kernel) rfl
theorem YX12_lines : Yv yX12_lines cX12_lines 2 (some .int) 1 := ⟨wcX12_lines, wlX12_lines, wnX12_lines, wi_12, by decide +kernel, by decide +kernel, by decide +kernel⟩
abbrev cX12_length : ByteArray := prog_14_method_136_code
def yX12_length : MethodName := ⟨RX12, "length", "(II)I"⟩
theorem wcX12_length : Cond.code yX12_length cX12_length 3 (some .int) ∈ tb := tb_12 (i := 93) rfl rfl
theorem wnX12_length : Cond.instanceMethod yX12_length ∈ tb := tb_12 (i := 91) (by decide +kernel) rfl
theorem wlX12_length : Cond.selects RX12 yX12_length yX12_length ∈ tb := tb_12 (i := 92) (by decide +kernel) rfl
theorem YX12_length : Yv yX12_length cX12_length 3 (some .int) 2 := ⟨wcX12_length, wlX12_length, wnX12_length, wi_12, by decide +kernel, by decide +kernel, by decide +kernel⟩
abbrev cX12_sign : ByteArray := prog_14_method_137_code
def yX12_sign : MethodName := ⟨RX12, "sign", "(III)I"⟩
theorem wcX12_sign : Cond.code yX12_sign cX12_sign 4 (some .int) ∈ tb := tb_12 (i := 97) rfl rfl
theorem wnX12_sign : Cond.instanceMethod yX12_sign ∈ tb := tb_12 (i := 95) (by decide +kernel) rfl
theorem wlX12_sign : Cond.selects RX12 yX12_sign yX12_sign ∈ tb := tb_12 (i := 96) (by decide +kernel) rfl
theorem YX12_sign : Yv yX12_sign cX12_sign 4 (some .int) 3 := ⟨wcX12_sign, wlX12_sign, wnX12_sign, wi_12, by decide +kernel, by decide +kernel, by decide +kernel⟩
abbrev cX12_style : ByteArray := prog_14_method_138_code
def yX12_style : MethodName := ⟨RX12, "style", "(III)I"⟩
theorem wcX12_style : Cond.code yX12_style cX12_style 4 (some .int) ∈ tb := tb_12 (i := 105) rfl rfl
theorem wnX12_style : Cond.instanceMethod yX12_style ∈ tb := tb_12 (i := 103) (by decide +kernel) rfl
theorem wlX12_style : Cond.selects RX12 yX12_style yX12_style ∈ tb := tb_12 (i := 104) (by decide +kernel) rfl
theorem YX12_style : Yv yX12_style cX12_style 4 (some .int) 3 := ⟨wcX12_style, wlX12_style, wnX12_style, wi_12, by decide +kernel, by decide +kernel, by decide +kernel⟩
abbrev cX12_origin : ByteArray := prog_14_method_139_code
def yX12_origin : MethodName := ⟨RX12, "origin", "(II)I"⟩
theorem wcX12_origin : Cond.code yX12_origin cX12_origin 3 (some .int) ∈ tb := tb_12 (i := 109) rfl rfl
theorem wnX12_origin : Cond.instanceMethod yX12_origin ∈ tb := tb_12 (i := 107) (by decide +kernel) rfl
theorem wlX12_origin : Cond.selects RX12 yX12_origin yX12_origin ∈ tb := tb_12 (i := 108) (by decide +kernel) rfl
theorem YX12_origin : Yv yX12_origin cX12_origin 3 (some .int) 2 := ⟨wcX12_origin, wlX12_origin, wnX12_origin, wi_12, by decide +kernel, by decide +kernel, by decide +kernel⟩
abbrev cX12_labelled : ByteArray := prog_14_method_140_code
def yX12_labelled : MethodName := ⟨RX12, "labelled", "()I"⟩
theorem wcX12_labelled : Cond.code yX12_labelled cX12_labelled 4 (some .int) ∈ tb := tb_12 (i := 113) rfl rfl
theorem wnX12_labelled : Cond.instanceMethod yX12_labelled ∈ tb := tb_12 (i := 111) (by decide +kernel) rfl
theorem wlX12_labelled : Cond.selects RX12 yX12_labelled yX12_labelled ∈ tb := tb_12 (i := 112) (by decide +kernel) rfl
theorem YX12_labelled : Yv yX12_labelled cX12_labelled 4 (some .int) 0 := ⟨wcX12_labelled, wlX12_labelled, wnX12_labelled, wi_12, by decide +kernel, by decide +kernel, by decide +kernel⟩
abbrev cX12_tell : ByteArray := prog_14_method_141_code
def yX12_tell : MethodName := ⟨RX12, "tell", "()I"⟩
theorem wcX12_tell : Cond.code yX12_tell cX12_tell 8 (some .int) ∈ tb := tb_12 (i := 117) rfl rfl
theorem wnX12_tell : Cond.instanceMethod yX12_tell ∈ tb := tb_12 (i := 115) (by decide +kernel) rfl
theorem wlX12_tell : Cond.selects RX12 yX12_tell yX12_tell ∈ tb := tb_12 (i := 116) (by decide +kernel) rfl
theorem YX12_tell : Yv yX12_tell cX12_tell 8 (some .int) 0 := ⟨wcX12_tell, wlX12_tell, wnX12_tell, wi_12, by decide +kernel, by decide +kernel, by decide +kernel⟩
abbrev cX12_hyphens : ByteArray := prog_14_method_142_code
def yX12_hyphens : MethodName := ⟨RX12, "hyphens", "()I"⟩
theorem wcX12_hyphens : Cond.code yX12_hyphens cX12_hyphens 5 (some .int) ∈ tb := tb_12 (i := 121) rfl rfl
theorem wnX12_hyphens : Cond.instanceMethod yX12_hyphens ∈ tb := tb_12 (i := 119) (by decide +kernel) rfl
theorem wlX12_hyphens : Cond.selects RX12 yX12_hyphens yX12_hyphens ∈ tb := tb_12 (i := 120) (by decide +kernel) rfl
theorem YX12_hyphens : Yv yX12_hyphens cX12_hyphens 5 (some .int) 0 := ⟨wcX12_hyphens, wlX12_hyphens, wnX12_hyphens, wi_12, by decide +kernel, by decide +kernel, by decide +kernel⟩
abbrev cX12_keep : ByteArray := prog_14_method_144_code
def yX12_keep : MethodName := ⟨RX12, "keep", "()I"⟩
theorem wcX12_keep : Cond.code yX12_keep cX12_keep 2 (some .int) ∈ tb := tb_12 (i := 129) rfl rfl
theorem wnX12_keep : Cond.instanceMethod yX12_keep ∈ tb := tb_12 (i := 127) (by decide +kernel) rfl
theorem wlX12_keep : Cond.selects RX12 yX12_keep yX12_keep ∈ tb := tb_12 (i := 128) (by decide +kernel) rfl
theorem YX12_keep : Yv yX12_keep cX12_keep 2 (some .int) 0 := ⟨wcX12_keep, wlX12_keep, wnX12_keep, wi_12, by decide +kernel, by decide +kernel, by decide +kernel⟩
abbrev cX12_areRows : ByteArray := prog_14_method_145_code
def yX12_areRows : MethodName := ⟨RX12, "areRows", "([BI[BII)Z"⟩
theorem wcX12_areRows : Cond.code yX12_areRows cX12_areRows 7 (some .boolean) ∈ tb := tb_12 (i := 144) rfl rfl
theorem wsX12_areRows : Cond.static yX12_areRows ∈ tb := tb_12 (i := 143) (by decide +kernel) rfl
theorem YX12_areRows : Ys yX12_areRows cX12_areRows 7 (some .boolean) 5 := ⟨wcX12_areRows, wsX12_areRows, wi_12, by decide +kernel, by decide +kernel, by decide +kernel⟩
abbrev cX12_isLine : ByteArray := prog_14_method_146_code
def yX12_isLine : MethodName := ⟨RX12, "isLine", "(II)Z"⟩
theorem wcX12_isLine : Cond.code yX12_isLine cX12_isLine 3 (some .boolean) ∈ tb := tb_12 (i := 148) rfl rfl
theorem wnX12_isLine : Cond.instanceMethod yX12_isLine ∈ tb := tb_12 (i := 147) (by decide +kernel) rfl
theorem wlX12_isLine : Cond.selects RX12 yX12_isLine yX12_isLine ∈ tb := tb_s (i := 189) (by decide +kernel) rfl
theorem YX12_isLine : Yv yX12_isLine cX12_isLine 3 (some .boolean) 2 := ⟨wcX12_isLine, wlX12_isLine, wnX12_isLine, wi_12, by decide +kernel, by decide +kernel, by decide +kernel⟩
abbrev cX12_numbers : ByteArray := prog_14_method_147_code
def yX12_numbers : MethodName := ⟨RX12, "numbers", "()V"⟩
theorem wcX12_numbers : Cond.code yX12_numbers cX12_numbers 3 none ∈ tb := tb_12 (i := 141) rfl rfl
theorem wnX12_numbers : Cond.instanceMethod yX12_numbers ∈ tb := tb_12 (i := 140) (by decide +kernel) rfl
theorem wlX12_numbers : Cond.selects RX12 yX12_numbers yX12_numbers ∈ tb := tb_s (i := 188) (by decide +kernel) rfl
theorem YX12_numbers : Yv yX12_numbers cX12_numbers 3 none 0 := ⟨wcX12_numbers, wlX12_numbers, wnX12_numbers, wi_12, by decide +kernel, by decide +kernel, by decide +kernel⟩
abbrev cX12_common : ByteArray := prog_14_method_148_code
def yX12_common : MethodName := ⟨RX12, "common", "()I"⟩
theorem wcX12_common : Cond.code yX12_common cX12_common 3 (some .int) ∈ tb := tb_12 (i := 137) rfl rfl
theorem wnX12_common : Cond.instanceMethod yX12_common ∈ tb := tb_12 (i := 136) (by decide +kernel) rfl
theorem wlX12_common : Cond.selects RX12 yX12_common yX12_common ∈ tb := tb_s (i := 187) (by decide +kernel) rfl
theorem YX12_common : Yv yX12_common cX12_common 3 (some .int) 0 := ⟨wcX12_common, wlX12_common, wnX12_common, wi_12, by decide +kernel, by decide +kernel, by decide +kernel⟩
abbrev cX12_changed : ByteArray := prog_14_method_149_code
def yX12_changed : MethodName := ⟨RX12, "changed", "(I)I"⟩
theorem wcX12_changed : Cond.code yX12_changed cX12_changed 3 (some .int) ∈ tb := tb_12 (i := 133) rfl rfl
theorem wnX12_changed : Cond.instanceMethod yX12_changed ∈ tb := tb_12 (i := 131) (by decide +kernel) rfl
theorem wlX12_changed : Cond.selects RX12 yX12_changed yX12_changed ∈ tb := tb_12 (i := 132) (by decide +kernel) rfl
theorem YX12_changed : Yv yX12_changed cX12_changed 3 (some .int) 1 := ⟨wcX12_changed, wlX12_changed, wnX12_changed, wi_12, by decide +kernel, by decide +kernel, by decide +kernel⟩
abbrev cX12_count : ByteArray := prog_14_method_150_code
def yX12_count : MethodName := ⟨RX12, "count", "(I)I"⟩
theorem wcX12_count : Cond.code yX12_count cX12_count 4 (some .int) ∈ tb := tb_12 (i := 152) rfl rfl
theorem wnX12_count : Cond.instanceMethod yX12_count ∈ tb := tb_12 (i := 150) (by decide +kernel) rfl
theorem wlX12_count : Cond.selects RX12 yX12_count yX12_count ∈ tb := tb_12 (i := 151) (by decide +kernel) rfl
theorem YX12_count : Yv yX12_count cX12_count 4 (some .int) 1 := ⟨wcX12_count, wlX12_count, wnX12_count, wi_12, by decide +kernel, by decide +kernel, by decide +kernel⟩
abbrev cL_replace : ByteArray := method_3_code
def yL_replace : MethodName := ⟨RL, "replace", "(LTypeRoom;I[J)I"⟩
theorem wcL_replace : Cond.codeWith yL_replace cL_replace 4 (some .int) [(0, 9, 12, 13)] ∈ tb := tb_7 (i := 84) rfl rfl
theorem wi_13 : Cond.initialized RL ∈ tb := tb_1 (i := 0) (by decide +kernel) rfl
theorem wsL_replace : Cond.static yL_replace ∈ tb := tb_7 (i := 83) (by decide +kernel) rfl
theorem YL_replace : YsW yL_replace cL_replace 4 (some .int) [(0, 9, 12, 13)] 3 := ⟨wcL_replace, wsL_replace, wi_13, by decide +kernel, by decide +kernel, by decide +kernel⟩
theorem wsL_pages : Cond.static yL_pages ∈ tb := tb_7 (i := 124) (by decide +kernel) rfl
theorem YL_pages : YsW yL_pages cL_pages 3 (some .int) [(0, 8, 11, 19)] 2 := ⟨wcL_pages, wsL_pages, wi_13, by decide +kernel, by decide +kernel, by decide +kernel⟩
abbrev cL_lines : ByteArray := method_5_code
def yL_lines : MethodName := ⟨RL, "lines", "(LTypeRoom;I[J)I"⟩
theorem wcL_lines : Cond.codeWith yL_lines cL_lines 4 (some .int) [(0, 9, 12, 19), (0, 9, 15, 24)] ∈ tb := tb_7 (i := 138) rfl rfl
theorem wsL_lines : Cond.static yL_lines ∈ tb := tb_7 (i := 137) (by decide +kernel) rfl
theorem YL_lines : YsW yL_lines cL_lines 4 (some .int) [(0, 9, 12, 19), (0, 9, 15, 24)] 3 := ⟨wcL_lines, wsL_lines, wi_13, by decide +kernel, by decide +kernel, by decide +kernel⟩
abbrev cL_length : ByteArray := method_6_code
def yL_length : MethodName := ⟨RL, "length", "(LTypeRoom;II[J)I"⟩
theorem wcL_length : Cond.codeWith yL_length cL_length 5 (some .int) [(0, 10, 13, 19), (0, 10, 17, 24)] ∈ tb := tb_7 (i := 169) rfl rfl
theorem wsL_length : Cond.static yL_length ∈ tb := tb_7 (i := 168) (by decide +kernel) rfl
theorem YL_length : YsW yL_length cL_length 5 (some .int) [(0, 10, 13, 19), (0, 10, 17, 24)] 4 := ⟨wcL_length, wsL_length, wi_13, by decide +kernel, by decide +kernel, by decide +kernel⟩
abbrev cL_sign : ByteArray := method_7_code
def yL_sign : MethodName := ⟨RL, "sign", "(LTypeRoom;III[J)I"⟩
theorem wcL_sign : Cond.codeWith yL_sign cL_sign 6 (some .int) [(0, 12, 15, 19), (0, 12, 19, 24)] ∈ tb := tb_7 (i := 184) rfl rfl
theorem wsL_sign : Cond.static yL_sign ∈ tb := tb_7 (i := 183) (by decide +kernel) rfl
theorem YL_sign : YsW yL_sign cL_sign 6 (some .int) [(0, 12, 15, 19), (0, 12, 19, 24)] 5 := ⟨wcL_sign, wsL_sign, wi_13, by decide +kernel, by decide +kernel, by decide +kernel⟩
abbrev cL_style : ByteArray := method_8_code
def yL_style : MethodName := ⟨RL, "style", "(LTypeRoom;III[J)I"⟩
theorem wcL_style : Cond.codeWith yL_style cL_style 6 (some .int) [(0, 12, 15, 19), (0, 12, 19, 24)] ∈ tb := tb_7 (i := 195) rfl rfl
theorem wsL_style : Cond.static yL_style ∈ tb := tb_7 (i := 194) (by decide +kernel) rfl
theorem YL_style : YsW yL_style cL_style 6 (some .int) [(0, 12, 15, 19), (0, 12, 19, 24)] 5 := ⟨wcL_style, wsL_style, wi_13, by decide +kernel, by decide +kernel, by decide +kernel⟩
abbrev cL_origin : ByteArray := method_9_code
def yL_origin : MethodName := ⟨RL, "origin", "(LTypeRoom;II[J)I"⟩
theorem wcL_origin : Cond.codeWith yL_origin cL_origin 5 (some .int) [(0, 10, 13, 19), (0, 10, 17, 24)] ∈ tb := tb_7 (i := 202) rfl rfl
theorem wsL_origin : Cond.static yL_origin ∈ tb := tb_7 (i := 201) (by decide +kernel) rfl
theorem YL_origin : YsW yL_origin cL_origin 5 (some .int) [(0, 10, 13, 19), (0, 10, 17, 24)] 4 := ⟨wcL_origin, wsL_origin, wi_13, by decide +kernel, by decide +kernel, by decide +kernel⟩
abbrev cL_keep : ByteArray := method_10_code
def yL_keep : MethodName := ⟨RL, "keep", "(LTypeRoom;[J)I"⟩
theorem wcL_keep : Cond.codeWith yL_keep cL_keep 3 (some .int) [(0, 8, 11, 19)] ∈ tb := tb_7 (i := 209) rfl rfl
theorem wsL_keep : Cond.static yL_keep ∈ tb := tb_7 (i := 208) (by decide +kernel) rfl
theorem YL_keep : YsW yL_keep cL_keep 3 (some .int) [(0, 8, 11, 19)] 2 := ⟨wcL_keep, wsL_keep, wi_13, by decide +kernel, by decide +kernel, by decide +kernel⟩
abbrev cL_changed : ByteArray := method_11_code
def yL_changed : MethodName := ⟨RL, "changed", "(LTypeRoom;I[J)I"⟩
theorem wcL_changed : Cond.codeWith yL_changed cL_changed 4 (some .int) [(0, 9, 12, 19), (0, 9, 15, 13)] ∈ tb := tb_7 (i := 227) rfl rfl
theorem wsL_changed : Cond.static yL_changed ∈ tb := tb_7 (i := 226) (by decide +kernel) rfl
theorem YL_changed : YsW yL_changed cL_changed 4 (some .int) [(0, 9, 12, 19), (0, 9, 15, 13)] 3 := ⟨wcL_changed, wsL_changed, wi_13, by decide +kernel, by decide +kernel, by decide +kernel⟩
theorem k_RX7_87 : Cond.fieldLinkNest RX7 87 RX5 "size" "I" "TypeRoom" ∈ tables_1 := tn_1 (i := 44) (by decide +kernel)
theorem k_RX9_66 : Cond.fieldLinkNest RX9 66 RX5 "size" "I" "TypeRoom" ∈ tables_1 := tn_1 (i := 46) (by decide +kernel)
theorem k_RX10_85 : Cond.fieldLinkNest RX10 85 RX5 "size" "I" "TypeRoom" ∈ tables_1 := tn_1 (i := 47) (by decide +kernel)
theorem k_RX0_70 : Cond.fieldLinkNest RX0 70 RX5 "size" "I" "TypeRoom" ∈ tables_1 := tn_1 (i := 48) (by decide +kernel)
theorem k_RX1_75 : Cond.fieldLinkNest RX1 75 RX5 "size" "I" "TypeRoom" ∈ tables_1 := tn_1 (i := 49) (by decide +kernel)
theorem k_RX2_87 : Cond.fieldLinkNest RX2 87 RX5 "size" "I" "TypeRoom" ∈ tables_1 := tn_1 (i := 50) (by decide +kernel)
theorem k_RX3_60 : Cond.fieldLinkNest RX3 60 RX5 "size" "I" "TypeRoom" ∈ tables_1 := tn_1 (i := 51) (by decide +kernel)
theorem k_RX11_158 : Cond.fieldLinkNest RX11 158 RX4 "here" "I" "TypeRoom" ∈ tables_1 := tn_1 (i := 66) (by decide +kernel)
theorem k_RX11_266 : Cond.fieldLinkNest RX11 266 RX4 "ever" "I" "TypeRoom" ∈ tables_1 := tn_1 (i := 68) (by decide +kernel)
theorem k_RX11_152 : Cond.fieldLinkNest RX11 152 RX4 "kind" "I" "TypeRoom" ∈ tables_1 := tn_1 (i := 70) (by decide +kernel)
theorem k_RX1_72 : Cond.fieldLinkNest RX1 72 RX8 "signs" "LTypeRoom$Row;" "TypeRoom" ∈ tables_1 := tn_1 (i := 98) (by decide +kernel)
theorem k_RX9_82 : Cond.fieldLinkNest RX9 82 RX8 "signs" "LTypeRoom$Row;" "TypeRoom" ∈ tables_1 := tn_1 (i := 99) (by decide +kernel)
theorem k_RX2_111 : Cond.fieldLinkNest RX2 111 RX8 "signs" "LTypeRoom$Row;" "TypeRoom" ∈ tables_1 := tn_1 (i := 100) (by decide +kernel)
theorem k_RX6_113 : Cond.fieldLinkNest RX6 113 RX8 "signs" "LTypeRoom$Row;" "TypeRoom" ∈ tables_1 := tn_1 (i := 101) (by decide +kernel)
theorem k_RX0_110 : Cond.fieldLinkNest RX0 110 RX8 "signs" "LTypeRoom$Row;" "TypeRoom" ∈ tables_1 := tn_1 (i := 102) (by decide +kernel)
theorem k_RX3_98 : Cond.fieldLinkNest RX3 98 RX8 "signs" "LTypeRoom$Row;" "TypeRoom" ∈ tables_1 := tn_1 (i := 103) (by decide +kernel)
theorem k_RX10_206 : Cond.fieldLinkNest RX10 206 RX8 "signs" "LTypeRoom$Row;" "TypeRoom" ∈ tables_1 := tn_1 (i := 104) (by decide +kernel)
theorem k_RX7_301 : Cond.fieldLinkNest RX7 301 RX8 "signs" "LTypeRoom$Row;" "TypeRoom" ∈ tables_1 := tn_1 (i := 105) (by decide +kernel)
theorem k_RX11_215 : Cond.fieldLinkNest RX11 215 RX8 "signs" "LTypeRoom$Row;" "TypeRoom" ∈ tables_1 := tn_1 (i := 106) (by decide +kernel)
theorem k_RX10_140 : Cond.fieldLinkNest RX10 140 RX6 "names" "LTypeRoom$Shelf;" "TypeRoom" ∈ tables_1 := tn_1 (i := 118) (by decide +kernel)
theorem k_RX11_269 : Cond.fieldLinkNest RX11 269 RX6 "names" "LTypeRoom$Shelf;" "TypeRoom" ∈ tables_1 := tn_1 (i := 119) (by decide +kernel)
theorem k_RX10_197 : Cond.fieldLinkNest RX10 197 RX6 "arities" "LTypeRoom$Row;" "TypeRoom" ∈ tables_1 := tn_1 (i := 121) (by decide +kernel)
theorem k_RX10_200 : Cond.fieldLinkNest RX10 200 RX6 "bodyOf" "LTypeRoom$Row;" "TypeRoom" ∈ tables_1 := tn_1 (i := 123) (by decide +kernel)
theorem k_RX10_203 : Cond.fieldLinkNest RX10 203 RX6 "bodies" "LTypeRoom$Shelf;" "TypeRoom" ∈ tables_1 := tn_1 (i := 125) (by decide +kernel)
theorem k_RX0_97 : Cond.fieldLinkNest RX0 97 RX6 "patterns" "LTypeRoom$Shelf;" "TypeRoom" ∈ tables_1 := tn_1 (i := 127) (by decide +kernel)
theorem k_RX11_275 : Cond.fieldLinkNest RX11 275 RX6 "patterns" "LTypeRoom$Shelf;" "TypeRoom" ∈ tables_1 := tn_1 (i := 128) (by decide +kernel)
theorem k_RX0_79 : Cond.fieldLinkNest RX0 79 RX6 "exceptions" "LTypeRoom$Shelf;" "TypeRoom" ∈ tables_1 := tn_1 (i := 130) (by decide +kernel)
theorem k_RX11_278 : Cond.fieldLinkNest RX11 278 RX6 "exceptions" "LTypeRoom$Shelf;" "TypeRoom" ∈ tables_1 := tn_1 (i := 131) (by decide +kernel)
theorem k_RX3_82 : Cond.fieldLinkNest RX3 82 RX2 "labels" "LTypeRoom$Shelf;" "TypeRoom" ∈ tables_1 := tn_1 (i := 160) (by decide +kernel)
theorem k_RX7_288 : Cond.fieldLinkNest RX7 288 RX2 "labels" "LTypeRoom$Shelf;" "TypeRoom" ∈ tables_1 := tn_1 (i := 161) (by decide +kernel)
theorem k_RX11_202 : Cond.fieldLinkNest RX11 202 RX2 "labels" "LTypeRoom$Shelf;" "TypeRoom" ∈ tables_1 := tn_1 (i := 162) (by decide +kernel)
theorem k_RX10_289 : Cond.fieldLinkNest RX10 289 RX2 "labels" "LTypeRoom$Shelf;" "TypeRoom" ∈ tables_1 := tn_1 (i := 163) (by decide +kernel)
theorem k_RX11_212 : Cond.fieldLinkNest RX11 212 RX2 "refs" "LTypeRoom$Shelf;" "TypeRoom" ∈ tables_1 := tn_1 (i := 165) (by decide +kernel)
theorem k_RX10_295 : Cond.fieldLinkNest RX10 295 RX2 "refs" "LTypeRoom$Shelf;" "TypeRoom" ∈ tables_1 := tn_1 (i := 166) (by decide +kernel)
theorem k_RX7_222 : Cond.fieldLinkNest RX7 222 RX2 "labelAt" "LTypeRoom$Row;" "TypeRoom" ∈ tables_1 := tn_1 (i := 168) (by decide +kernel)
theorem k_RX11_224 : Cond.fieldLinkNest RX11 224 RX2 "labelAt" "LTypeRoom$Row;" "TypeRoom" ∈ tables_1 := tn_1 (i := 169) (by decide +kernel)
theorem k_RX10_301 : Cond.fieldLinkNest RX10 301 RX2 "labelAt" "LTypeRoom$Row;" "TypeRoom" ∈ tables_1 := tn_1 (i := 170) (by decide +kernel)
theorem k_RX3_79 : Cond.fieldLinkNest RX3 79 RX2 "titles" "LTypeRoom$Shelf;" "TypeRoom" ∈ tables_1 := tn_1 (i := 172) (by decide +kernel)
theorem k_RX7_254 : Cond.fieldLinkNest RX7 254 RX2 "titles" "LTypeRoom$Shelf;" "TypeRoom" ∈ tables_1 := tn_1 (i := 173) (by decide +kernel)
theorem k_RX3_92 : Cond.fieldLinkNest RX3 92 RX2 "levels" "LTypeRoom$Row;" "TypeRoom" ∈ tables_1 := tn_1 (i := 175) (by decide +kernel)
theorem k_RX7_310 : Cond.fieldLinkNest RX7 310 RX2 "levels" "LTypeRoom$Row;" "TypeRoom" ∈ tables_1 := tn_1 (i := 176) (by decide +kernel)
theorem k_RX7_228 : Cond.fieldLinkNest RX7 228 RX2 "headAt" "LTypeRoom$Row;" "TypeRoom" ∈ tables_1 := tn_1 (i := 178) (by decide +kernel)
theorem k_RX3_95 : Cond.fieldLinkNest RX3 95 RX2 "headLines" "LTypeRoom$Row;" "TypeRoom" ∈ tables_1 := tn_1 (i := 180) (by decide +kernel)
theorem k_RX7_331 : Cond.fieldLinkNest RX7 331 RX2 "headLines" "LTypeRoom$Row;" "TypeRoom" ∈ tables_1 := tn_1 (i := 181) (by decide +kernel)
theorem k_RX7_291 : Cond.fieldLinkNest RX7 291 RX2 "keys" "LTypeRoom$Shelf;" "TypeRoom" ∈ tables_1 := tn_1 (i := 183) (by decide +kernel)
theorem k_RX10_307 : Cond.fieldLinkNest RX10 307 RX2 "keys" "LTypeRoom$Shelf;" "TypeRoom" ∈ tables_1 := tn_1 (i := 184) (by decide +kernel)
theorem k_RX7_231 : Cond.fieldLinkNest RX7 231 RX2 "keyAt" "LTypeRoom$Row;" "TypeRoom" ∈ tables_1 := tn_1 (i := 186) (by decide +kernel)
theorem k_RX10_310 : Cond.fieldLinkNest RX10 310 RX2 "keyAt" "LTypeRoom$Row;" "TypeRoom" ∈ tables_1 := tn_1 (i := 187) (by decide +kernel)
theorem k_RX7_269 : Cond.fieldLinkNest RX7 269 RX2 "latest" "LTypeRoom$Row;" "TypeRoom" ∈ tables_1 := tn_1 (i := 191) (by decide +kernel)
theorem k_RX10_298 : Cond.fieldLinkNest RX10 298 RX2 "latest" "LTypeRoom$Row;" "TypeRoom" ∈ tables_1 := tn_1 (i := 192) (by decide +kernel)
theorem k_RX3_74 : Cond.fieldLinkNest RX3 74 RX2 "notes" "I" "TypeRoom" ∈ tables_1 := tn_1 (i := 194) (by decide +kernel)
theorem k_RX7_369 : Cond.fieldLinkNest RX7 369 RX2 "notes" "I" "TypeRoom" ∈ tables_1 := tn_1 (i := 195) (by decide +kernel)
theorem k_RX10_282 : Cond.fieldLinkNest RX10 282 RX2 "notes" "I" "TypeRoom" ∈ tables_1 := tn_1 (i := 196) (by decide +kernel)
theorem k_RX3_85 : Cond.fieldLinkNest RX3 85 RX2 "unknown" "I" "TypeRoom" ∈ tables_1 := tn_1 (i := 198) (by decide +kernel)
theorem k_RX10_313 : Cond.fieldLinkNest RX10 313 RX2 "unknown" "I" "TypeRoom" ∈ tables_1 := tn_1 (i := 199) (by decide +kernel)
theorem k_RX2_73 : Cond.fieldLink RX2 73 RX2 "first" "I" ∈ tb := tb_1 (i := 200) (by decide +kernel) rfl
theorem k_RX7_234 : Cond.fieldLinkNest RX7 234 RX2 "first" "I" "TypeRoom" ∈ tables_1 := tn_1 (i := 201) (by decide +kernel)
theorem k_RX10_319 : Cond.fieldLinkNest RX10 319 RX2 "first" "I" "TypeRoom" ∈ tables_1 := tn_1 (i := 202) (by decide +kernel)
theorem k_RX2_76 : Cond.fieldLink RX2 76 RX2 "system" "I" ∈ tb := tb_1 (i := 203) (by decide +kernel) rfl
theorem k_RX7_237 : Cond.fieldLinkNest RX7 237 RX2 "system" "I" "TypeRoom" ∈ tables_1 := tn_1 (i := 204) (by decide +kernel)
theorem k_RX10_322 : Cond.fieldLinkNest RX10 322 RX2 "system" "I" "TypeRoom" ∈ tables_1 := tn_1 (i := 205) (by decide +kernel)
theorem k_RX7_298 : Cond.fieldLinkNest RX7 298 RX10 "row" "LTypeRoom$Row;" "TypeRoom" ∈ tables_1 := tn_2 (i := 14) (by decide +kernel)
theorem k_RX11_234 : Cond.fieldLinkNest RX11 234 RX10 "arena" "LTypeRoom$Row;" "TypeRoom" ∈ tables_1 := tn_2 (i := 16) (by decide +kernel)
theorem k_RX7_357 : Cond.fieldLinkNest RX7 357 RX10 "notes" "LTypeRoom$Shelf;" "TypeRoom" ∈ tables_1 := tn_2 (i := 23) (by decide +kernel)
theorem k_RX7_363 : Cond.fieldLinkNest RX7 363 RX10 "carriers" "LTypeRoom$Row;" "TypeRoom" ∈ tables_1 := tn_2 (i := 25) (by decide +kernel)
theorem k_RX9_103 : Cond.fieldLinkNest RX9 103 RX0 "starts" "LTypeRoom$Row;" "TypeRoom" ∈ tables_1 := tn_2 (i := 81) (by decide +kernel)
theorem k_RX7_386 : Cond.fieldLinkNest RX7 386 RX0 "starts" "LTypeRoom$Row;" "TypeRoom" ∈ tables_1 := tn_2 (i := 82) (by decide +kernel)
theorem k_RX9_135 : Cond.fieldLinkNest RX9 135 RX0 "stops" "LTypeRoom$Row;" "TypeRoom" ∈ tables_1 := tn_2 (i := 84) (by decide +kernel)
theorem k_RX7_396 : Cond.fieldLinkNest RX7 396 RX0 "stops" "LTypeRoom$Row;" "TypeRoom" ∈ tables_1 := tn_2 (i := 85) (by decide +kernel)
theorem k_RX7_393 : Cond.fieldLinkNest RX7 393 RX0 "puts" "LTypeRoom$Row;" "TypeRoom" ∈ tables_1 := tn_2 (i := 87) (by decide +kernel)
theorem k_RX7_341 : Cond.fieldLinkNest RX7 341 RX0 "prefix" "LTypeRoom$Row;" "TypeRoom" ∈ tables_1 := tn_2 (i := 89) (by decide +kernel)
theorem k_RX7_321 : Cond.fieldLinkNest RX7 321 RX0 "hang" "I" "TypeRoom" ∈ tables_1 := tn_2 (i := 95) (by decide +kernel)
theorem k_RX7_347 : Cond.fieldLinkNest RX7 347 RX0 "justify" "I" "TypeRoom" ∈ tables_1 := tn_2 (i := 97) (by decide +kernel)
theorem k_RX7_350 : Cond.fieldLinkNest RX7 350 RX0 "hyphen" "Z" "TypeRoom" ∈ tables_1 := tn_2 (i := 99) (by decide +kernel)
theorem k_RX9_128 : Cond.fieldLinkNest RX9 128 RX1 "made" "LTypeRoom$Shelf;" "TypeRoom" ∈ tables_1 := tn_2 (i := 146) (by decide +kernel)
theorem k_RX3_153 : Cond.fieldLinkNest RX3 153 RX1 "made" "LTypeRoom$Shelf;" "TypeRoom" ∈ tables_1 := tn_2 (i := 147) (by decide +kernel)
theorem k_RX7_380 : Cond.fieldLinkNest RX7 380 RX1 "made" "LTypeRoom$Shelf;" "TypeRoom" ∈ tables_1 := tn_2 (i := 148) (by decide +kernel)
theorem k_RX3_156 : Cond.fieldLinkNest RX3 156 RX1 "origins" "LTypeRoom$Row;" "TypeRoom" ∈ tables_1 := tn_2 (i := 150) (by decide +kernel)
theorem k_RX3_157 : Cond.fieldLinkNest RX3 157 RX1 "flags" "LTypeRoom$Row;" "TypeRoom" ∈ tables_1 := tn_2 (i := 152) (by decide +kernel)
theorem k_RX7_180 : Cond.fieldLinkNest RX7 180 RX1 "flow" "LTypeRoom$Row;" "TypeRoom" ∈ tables_1 := tn_2 (i := 154) (by decide +kernel)
theorem k_RX3_130 : Cond.fieldLinkNest RX3 130 RX1 "flow" "LTypeRoom$Row;" "TypeRoom" ∈ tables_1 := tn_2 (i := 155) (by decide +kernel)
theorem k_RX3_140 : Cond.fieldLinkNest RX3 140 RX1 "noteAt" "LTypeRoom$Row;" "TypeRoom" ∈ tables_1 := tn_2 (i := 157) (by decide +kernel)
theorem k_RX7_360 : Cond.fieldLinkNest RX7 360 RX1 "noteAt" "LTypeRoom$Row;" "TypeRoom" ∈ tables_1 := tn_2 (i := 158) (by decide +kernel)
theorem k_RX3_146 : Cond.fieldLinkNest RX3 146 RX1 "noteFrom" "LTypeRoom$Row;" "TypeRoom" ∈ tables_1 := tn_2 (i := 160) (by decide +kernel)
theorem k_RX7_377 : Cond.fieldLinkNest RX7 377 RX1 "noteFrom" "LTypeRoom$Row;" "TypeRoom" ∈ tables_1 := tn_2 (i := 161) (by decide +kernel)
theorem k_RX3_143 : Cond.fieldLinkNest RX3 143 RX1 "noteTo" "LTypeRoom$Row;" "TypeRoom" ∈ tables_1 := tn_2 (i := 163) (by decide +kernel)
theorem k_RX7_383 : Cond.fieldLinkNest RX7 383 RX1 "noteTo" "LTypeRoom$Row;" "TypeRoom" ∈ tables_1 := tn_2 (i := 164) (by decide +kernel)
theorem k_RX7_114 : Cond.fieldLinkNest RX7 114 RX1 "pageFrom" "LTypeRoom$Row;" "TypeRoom" ∈ tables_1 := tn_2 (i := 166) (by decide +kernel)
theorem k_RX3_122 : Cond.fieldLinkNest RX3 122 RX1 "pageFrom" "LTypeRoom$Row;" "TypeRoom" ∈ tables_1 := tn_2 (i := 167) (by decide +kernel)
theorem k_RX3_127 : Cond.fieldLinkNest RX3 127 RX1 "pageTo" "LTypeRoom$Row;" "TypeRoom" ∈ tables_1 := tn_2 (i := 169) (by decide +kernel)
theorem k_RX7_407 : Cond.fieldLinkNest RX7 407 RX9 "spans" "LTypeRoom$Row;" "TypeRoom" ∈ tables_1 := tn_2 (i := 210) (by decide +kernel)
theorem k_RX9_54 : Cond.fieldLink RX9 54 RX9 "columns" "I" ∈ tb := tb_2 (i := 214) (by decide +kernel) rfl
theorem k_RX7_190 : Cond.fieldLinkNest RX7 190 RX9 "columns" "I" "TypeRoom" ∈ tables_1 := tn_2 (i := 215) (by decide +kernel)
theorem k_RX11_195 : Cond.fieldLinkNest RX11 195 RX7 "now" "LTypeRoom$Marks;" "TypeRoom" ∈ tables_1 := tn_3 (i := 9) (by decide +kernel)
theorem k_RX7_151 : Cond.fieldLink RX7 151 RX7 "line" "I" ∈ tb := tb_3 (i := 18) (by decide +kernel) rfl
theorem k_RX11_155 : Cond.fieldLinkNest RX11 155 RX7 "line" "I" "TypeRoom" ∈ tables_1 := tn_3 (i := 19) (by decide +kernel)
theorem k_RX7_107 : Cond.fieldLink RX7 107 RX7 "rounds" "I" ∈ tb := tb_3 (i := 20) (by decide +kernel) rfl
theorem k_RX7_110 : Cond.fieldLink RX7 110 RX7 "settled" "Z" ∈ tb := tb_3 (i := 21) (by decide +kernel) rfl
theorem k_RX11_142 : Cond.fieldLinkNest RX11 142 RX7 "settled" "Z" "TypeRoom" ∈ tables_1 := tn_3 (i := 22) (by decide +kernel)
theorem k_RX11_310 : Cond.fieldLinkNest RX11 310 RX3 "shown" "LTypeRoom$Shelf;" "TypeRoom" ∈ tables_1 := tn_3 (i := 75) (by decide +kernel)
theorem k_RX11_192 : Cond.fieldLinkNest RX11 192 RX3 "origins" "LTypeRoom$Row;" "TypeRoom" ∈ tables_1 := tn_3 (i := 77) (by decide +kernel)
theorem k_RX7_117 : Cond.fieldLinkNest RX7 117 RX3 "pageStarts" "LTypeRoom$Row;" "TypeRoom" ∈ tables_1 := tn_3 (i := 79) (by decide +kernel)
theorem k_RX11_161 : Cond.fieldLink RX11 161 RX11 "setWork" "I" ∈ tb := tb_3 (i := 116) (by decide +kernel) rfl
theorem k_TypeRoomLaw_52 : Cond.methodLink "TypeRoomLaw" 52 yX11_feed ∈ tb := tb_3 (i := 148) (by decide +kernel) rfl
theorem k_RX11_85 : Cond.methodLink RX11 85 yX11_feedBytes ∈ tb := tb_3 (i := 152) (by decide +kernel) rfl
theorem k_RX11_227 : Cond.methodLink RX11 227 yX5_put ∈ tb := tb_3 (i := 156) (by decide +kernel) rfl
theorem k_RX5_20 : Cond.methodLink RX5 20 ⟨"java/lang/System", "arraycopy", "(Ljava/lang/Object;ILjava/lang/Object;II)V"⟩ ∈ tb := tb_3 (i := 161) (by decide +kernel) rfl
theorem k_TypeRoomLaw_57 : Cond.methodLink "TypeRoomLaw" 57 yX11_write ∈ tb := tb_3 (i := 162) (by decide +kernel) rfl
theorem k_RX11_93 : Cond.methodLink RX11 93 yX11_remember ∈ tb := tb_3 (i := 166) (by decide +kernel) rfl
theorem k_RX11_281 : Cond.methodLink RX11 281 ⟨"java/lang/Math", "min", "(II)I"⟩ ∈ tb := tb_3 (i := 187) (by decide +kernel) rfl
theorem k_RX11_100 : Cond.methodLink RX11 100 yX5_clear ∈ tb := tb_3 (i := 190) (by decide +kernel) rfl
theorem k_RX11_103 : Cond.methodLink RX11 103 yX11_lineCount ∈ tb := tb_3 (i := 191) (by decide +kernel) rfl
theorem k_TypeRoomLaw_61 : Cond.methodLink "TypeRoomLaw" 61 yX11_add ∈ tb := tb_3 (i := 196) (by decide +kernel) rfl
theorem k_RX11_107 : Cond.methodLink RX11 107 yX4_pay ∈ tb := tb_3 (i := 200) (by decide +kernel) rfl
theorem k_RX11_111 : Cond.methodLink RX11 111 yX5_pour ∈ tb := tb_3 (i := 205) (by decide +kernel) rfl
theorem k_TypeRoomLaw_74 : Cond.methodLink "TypeRoomLaw" 74 yX11_back ∈ tb := tb_3 (i := 206) (by decide +kernel) rfl
theorem k_TypeRoomLaw_79 : Cond.methodLink "TypeRoomLaw" 79 yX11_find ∈ tb := tb_3 (i := 210) (by decide +kernel) rfl
theorem k_RX11_128 : Cond.methodLink RX11 128 yX5_stands ∈ tb := tb_3 (i := 214) (by decide +kernel) rfl
theorem k_TypeRoomLaw_83 : Cond.methodLink "TypeRoomLaw" 83 yX11_letter ∈ tb := tb_3 (i := 218) (by decide +kernel) rfl
theorem k_TypeRoomLaw_87 : Cond.methodLink "TypeRoomLaw" 87 yX11_set ∈ tb := tb_3 (i := 222) (by decide +kernel) rfl
theorem k_RX11_135 : Cond.methodLink RX11 135 yX4_open ∈ tb := tb_3 (i := 227) (by decide +kernel) rfl
theorem k_RX11_138 : Cond.methodLink RX11 138 yX3_forget ∈ tb := tb_3 (i := 231) (by decide +kernel) rfl
theorem k_RX11_141 : Cond.methodLink RX11 141 yX7_open ∈ tb := tb_4 (i := 1) (by decide +kernel) rfl
theorem k_RX7_84 : Cond.methodLink RX7 84 yX5_clear ∈ tb := tb_4 (i := 5) (by decide +kernel) rfl
theorem k_RX7_91 : Cond.methodLink RX7 91 yX5_get ∈ tb := tb_4 (i := 6) (by decide +kernel) rfl
theorem k_RX7_95 : Cond.methodLink RX7 95 yX5_put ∈ tb := tb_4 (i := 7) (by decide +kernel) rfl
theorem k_RX7_99 : Cond.methodLink RX7 99 yX7_kindOf ∈ tb := tb_4 (i := 8) (by decide +kernel) rfl
theorem k_RX7_148 : Cond.methodLink RX7 148 yX7_levelOf ∈ tb := tb_4 (i := 12) (by decide +kernel) rfl
theorem k_RX7_103 : Cond.methodLink RX7 103 yX2_clear ∈ tb := tb_4 (i := 16) (by decide +kernel) rfl
theorem k_RX7_104 : Cond.methodLink RX7 104 yX6_clear ∈ tb := tb_4 (i := 22) (by decide +kernel) rfl
theorem k_RX11_146 : Cond.methodLink RX11 146 yX7_round ∈ tb := tb_4 (i := 28) (by decide +kernel) rfl
theorem k_RX7_154 : Cond.methodLink RX7 154 yX7_openRound ∈ tb := tb_4 (i := 32) (by decide +kernel) rfl
theorem k_RX7_244 : Cond.methodLink RX7 244 yX1_clear ∈ tb := tb_4 (i := 36) (by decide +kernel) rfl
theorem k_RX7_245 : Cond.methodLink RX7 245 yX10_openRound ∈ tb := tb_4 (i := 42) (by decide +kernel) rfl
theorem k_RX7_157 : Cond.methodLink RX7 157 yX4_spend ∈ tb := tb_4 (i := 48) (by decide +kernel) rfl
theorem k_RX4_25 : Cond.methodLink RX4 25 ⟨"java/lang/IllegalStateException", "<init>", "()V"⟩ ∈ tb := tb_4 (i := 94) (by decide +kernel) rfl
theorem k_RX7_162 : Cond.methodLink RX7 162 yX7_blockEnd ∈ tb := tb_4 (i := 116) (by decide +kernel) rfl
theorem k_RX7_165 : Cond.methodLink RX7 165 ⟨"java/lang/Math", "max", "(II)I"⟩ ∈ tb := tb_4 (i := 120) (by decide +kernel) rfl
theorem k_RX7_170 : Cond.methodLink RX7 170 yX6_follow ∈ tb := tb_4 (i := 123) (by decide +kernel) rfl
theorem k_RX6_68 : Cond.methodLink RX6 68 yX5_get ∈ tb := tb_4 (i := 127) (by decide +kernel) rfl
theorem k_RX6_74 : Cond.methodLink RX6 74 yX6_nameIndex ∈ tb := tb_4 (i := 129) (by decide +kernel) rfl
theorem k_RX6_58 : Cond.methodLink RX6 58 ⟨"java/lang/String", "length", "()I"⟩ ∈ tb := tb_4 (i := 132) (by decide +kernel) rfl
theorem k_RX6_64 : Cond.methodLink RX6 64 ⟨"java/lang/String", "charAt", "(I)C"⟩ ∈ tb := tb_4 (i := 142) (by decide +kernel) rfl
theorem k_RX6_78 : Cond.methodLink RX6 78 yX4_fail ∈ tb := tb_4 (i := 180) (by decide +kernel) rfl
theorem k_RX6_84 : Cond.methodLink RX6 84 yX6_define ∈ tb := tb_4 (i := 184) (by decide +kernel) rfl
theorem k_RX6_95 : Cond.methodLinkNest RX6 95 yX11_isLetter "TypeRoom" ∈ tables_1 := tn_4 (i := 188) (by decide +kernel)
theorem k_RX6_103 : Cond.methodLinkNest RX6 103 yX11_isDigit "TypeRoom" ∈ tables_1 := tn_4 (i := 192) (by decide +kernel)
theorem k_RX6_106 : Cond.methodLink RX6 106 yX8_seek ∈ tb := tb_4 (i := 195) (by decide +kernel) rfl
theorem k_RX8_44 : Cond.methodLink RX8 44 yX8_to ∈ tb := tb_4 (i := 199) (by decide +kernel) rfl
theorem k_RX8_48 : Cond.methodLink RX8 48 yX8_from ∈ tb := tb_4 (i := 203) (by decide +kernel) rfl
theorem k_RX8_51 : Cond.methodLink RX8 51 yX5_stands ∈ tb := tb_4 (i := 207) (by decide +kernel) rfl
theorem k_RX6_110 : Cond.methodLink RX6 110 yX8_rows ∈ tb := tb_4 (i := 208) (by decide +kernel) rfl
theorem k_RX6_116 : Cond.methodLink RX6 116 yX5_pour ∈ tb := tb_4 (i := 212) (by decide +kernel) rfl
theorem k_RX6_119 : Cond.methodLink RX6 119 yX8_close ∈ tb := tb_4 (i := 213) (by decide +kernel) rfl
theorem k_RX8_28 : Cond.methodLink RX8 28 yX5_put ∈ tb := tb_4 (i := 217) (by decide +kernel) rfl
theorem k_RX6_122 : Cond.methodLink RX6 122 yX5_put ∈ tb := tb_4 (i := 218) (by decide +kernel) rfl
theorem k_RX6_125 : Cond.methodLink RX6 125 yX5_alter ∈ tb := tb_4 (i := 219) (by decide +kernel) rfl
theorem k_RX6_88 : Cond.methodLink RX6 88 yX6_change ∈ tb := tb_4 (i := 223) (by decide +kernel) rfl
theorem k_RX6_131 : Cond.fieldLink RX6 131 RX6 "LEAST" "[I" ∈ tb := tb_4 (i := 228) (by decide +kernel) rfl
theorem k_RX6_134 : Cond.fieldLink RX6 134 RX6 "MOST" "[I" ∈ tb := tb_4 (i := 230) (by decide +kernel) rfl
theorem k_RX6_91 : Cond.methodLink RX6 91 yX6_takeWords ∈ tb := tb_4 (i := 232) (by decide +kernel) rfl
theorem k_RX6_137 : Cond.methodLink RX6 137 yX6_isPattern ∈ tb := tb_4 (i := 236) (by decide +kernel) rfl
theorem k_RX6_147 : Cond.methodLinkNest RX6 147 yX11_isSmall "TypeRoom" ∈ tables_1 := tn_4 (i := 239) (by decide +kernel)
theorem k_RX6_141 : Cond.methodLink RX6 141 yX6_isException ∈ tb := tb_5 (i := 2) (by decide +kernel) rfl
theorem k_RX6_144 : Cond.methodLink RX6 144 yX4_spend ∈ tb := tb_5 (i := 5) (by decide +kernel) rfl
theorem k_RX7_174 : Cond.methodLink RX7 174 yX7_contents ∈ tb := tb_5 (i := 6) (by decide +kernel) rfl
theorem k_RX7_126 : Cond.methodLink RX7 126 yX6_told ∈ tb := tb_5 (i := 10) (by decide +kernel) rfl
theorem k_RX7_258 : Cond.methodLink RX7 258 yX8_rows ∈ tb := tb_5 (i := 14) (by decide +kernel) rfl
theorem k_RX7_193 : Cond.methodLink RX7 193 yX1_beginBlock ∈ tb := tb_5 (i := 15) (by decide +kernel) rfl
theorem k_RX1_58 : Cond.methodLink RX1 58 yX5_putMany ∈ tb := tb_5 (i := 19) (by decide +kernel) rfl
theorem k_RX7_419 : Cond.methodLink RX7 419 yX2_putLabel ∈ tb := tb_5 (i := 23) (by decide +kernel) rfl
theorem k_RX2_79 : Cond.methodLink RX2 79 yX5_putNumber ∈ tb := tb_5 (i := 27) (by decide +kernel) rfl
theorem k_RX5_41 : Cond.methodLink RX5 41 yX5_putRoman ∈ tb := tb_5 (i := 31) (by decide +kernel) rfl
theorem k_RX5_51 : Cond.fieldLink RX5 51 RX5 "ROMAN_VALUES" "[I" ∈ tb := tb_5 (i := 35) (by decide +kernel) rfl
theorem k_RX5_56 : Cond.methodLink RX5 56 ⟨"java/lang/String", "length", "()I"⟩ ∈ tb := tb_5 (i := 38) (by decide +kernel) rfl
theorem k_RX5_62 : Cond.methodLink RX5 62 ⟨"java/lang/String", "charAt", "(I)C"⟩ ∈ tb := tb_5 (i := 39) (by decide +kernel) rfl
theorem k_RX5_45 : Cond.methodLink RX5 45 yX5_putLettered ∈ tb := tb_5 (i := 40) (by decide +kernel) rfl
theorem k_RX5_48 : Cond.methodLink RX5 48 yX5_putDigits ∈ tb := tb_5 (i := 45) (by decide +kernel) rfl
theorem k_RX7_272 : Cond.methodLink RX7 272 yX5_putMany ∈ tb := tb_5 (i := 49) (by decide +kernel) rfl
theorem k_RX7_371 : Cond.methodLink RX7 371 yX8_from ∈ tb := tb_5 (i := 50) (by decide +kernel) rfl
theorem k_RX7_374 : Cond.methodLink RX7 374 yX8_to ∈ tb := tb_5 (i := 51) (by decide +kernel) rfl
theorem k_RX7_250 : Cond.methodLink RX7 250 yX5_pour ∈ tb := tb_5 (i := 52) (by decide +kernel) rfl
theorem k_RX7_423 : Cond.methodLink RX7 423 yX5_cut ∈ tb := tb_5 (i := 53) (by decide +kernel) rfl
theorem k_RX7_387 : Cond.methodLink RX7 387 yX1_finish ∈ tb := tb_5 (i := 57) (by decide +kernel) rfl
theorem k_RX1_62 : Cond.methodLink RX1 62 yX8_rows ∈ tb := tb_5 (i := 61) (by decide +kernel) rfl
theorem k_RX1_66 : Cond.methodLink RX1 66 yX4_fail ∈ tb := tb_5 (i := 62) (by decide +kernel) rfl
theorem k_RX1_79 : Cond.methodLink RX1 79 yX8_from ∈ tb := tb_5 (i := 63) (by decide +kernel) rfl
theorem k_RX1_83 : Cond.methodLink RX1 83 yX4_spend ∈ tb := tb_5 (i := 64) (by decide +kernel) rfl
theorem k_RX1_86 : Cond.methodLink RX1 86 yX8_close ∈ tb := tb_5 (i := 65) (by decide +kernel) rfl
theorem k_RX1_89 : Cond.methodLink RX1 89 yX5_put ∈ tb := tb_5 (i := 66) (by decide +kernel) rfl
theorem k_RX7_177 : Cond.methodLink RX7 177 yX7_index ∈ tb := tb_5 (i := 67) (by decide +kernel) rfl
theorem k_RX7_140 : Cond.methodLink RX7 140 yX2_order ∈ tb := tb_5 (i := 71) (by decide +kernel) rfl
theorem k_RX2_83 : Cond.methodLink RX2 83 yX8_rows ∈ tb := tb_5 (i := 75) (by decide +kernel) rfl
theorem k_RX2_90 : Cond.methodLink RX2 90 yX5_get ∈ tb := tb_5 (i := 76) (by decide +kernel) rfl
theorem k_RX2_94 : Cond.methodLink RX2 94 yX2_compareKeys ∈ tb := tb_5 (i := 77) (by decide +kernel) rfl
theorem k_RX2_105 : Cond.methodLink RX2 105 yX8_from ∈ tb := tb_5 (i := 81) (by decide +kernel) rfl
theorem k_RX2_108 : Cond.methodLink RX2 108 yX8_to ∈ tb := tb_5 (i := 82) (by decide +kernel) rfl
theorem k_RX2_114 : Cond.methodLinkNest RX2 114 yX11_small "TypeRoom" ∈ tables_1 := tn_5 (i := 83) (by decide +kernel)
theorem k_RX2_98 : Cond.methodLink RX2 98 yX5_put ∈ tb := tb_5 (i := 86) (by decide +kernel) rfl
theorem k_RX2_102 : Cond.methodLink RX2 102 yX5_alter ∈ tb := tb_5 (i := 87) (by decide +kernel) rfl
theorem k_RX7_426 : Cond.methodLink RX7 426 yX2_putEntry ∈ tb := tb_5 (i := 88) (by decide +kernel) rfl
theorem k_RX2_117 : Cond.methodLink RX2 117 yX5_pour ∈ tb := tb_5 (i := 92) (by decide +kernel) rfl
theorem k_RX2_121 : Cond.methodLink RX2 121 yX5_pack ∈ tb := tb_5 (i := 93) (by decide +kernel) rfl
theorem k_RX7_316 : Cond.methodLink RX7 316 yX0_openPlain ∈ tb := tb_5 (i := 97) (by decide +kernel) rfl
theorem k_RX7_324 : Cond.methodLink RX7 324 yX0_roomOf ∈ tb := tb_5 (i := 106) (by decide +kernel) rfl
theorem k_RX0_66 : Cond.methodLink RX0 66 yX6_told ∈ tb := tb_5 (i := 110) (by decide +kernel) rfl
theorem k_RX0_73 : Cond.methodLink RX0 73 ⟨"java/lang/Math", "max", "(II)I"⟩ ∈ tb := tb_5 (i := 111) (by decide +kernel) rfl
theorem k_RX7_327 : Cond.methodLink RX7 327 yX0_fill ∈ tb := tb_5 (i := 112) (by decide +kernel) rfl
theorem k_RX0_136 : Cond.methodLink RX0 136 ⟨"java/lang/Math", "min", "(II)I"⟩ ∈ tb := tb_5 (i := 116) (by decide +kernel) rfl
theorem k_RX0_113 : Cond.methodLink RX0 113 yX5_get ∈ tb := tb_5 (i := 117) (by decide +kernel) rfl
theorem k_RX0_139 : Cond.methodLink RX0 139 yX0_pointAt ∈ tb := tb_5 (i := 118) (by decide +kernel) rfl
theorem k_RX0_123 : Cond.methodLinkNest RX0 123 yX11_isLetter "TypeRoom" ∈ tables_1 := tn_5 (i := 122) (by decide +kernel)
theorem k_RX0_126 : Cond.methodLink RX0 126 yX0_partLetters ∈ tb := tb_5 (i := 123) (by decide +kernel) rfl
theorem k_RX0_83 : Cond.methodLink RX0 83 yX8_rows ∈ tb := tb_5 (i := 127) (by decide +kernel) rfl
theorem k_RX0_89 : Cond.methodLink RX0 89 yX0_isExceptionOf ∈ tb := tb_5 (i := 128) (by decide +kernel) rfl
theorem k_RX0_104 : Cond.methodLink RX0 104 yX8_from ∈ tb := tb_5 (i := 132) (by decide +kernel) rfl
theorem k_RX0_107 : Cond.methodLink RX0 107 yX8_to ∈ tb := tb_5 (i := 133) (by decide +kernel) rfl
theorem k_RX0_116 : Cond.methodLinkNest RX0 116 yX11_small "TypeRoom" ∈ tables_1 := tn_5 (i := 134) (by decide +kernel)
theorem k_RX0_93 : Cond.methodLink RX0 93 yX0_layException ∈ tb := tb_5 (i := 135) (by decide +kernel) rfl
theorem k_RX0_100 : Cond.methodLink RX0 100 yX0_layPattern ∈ tb := tb_5 (i := 139) (by decide +kernel) rfl
theorem k_RX0_119 : Cond.methodLinkNest RX0 119 yX11_isDigit "TypeRoom" ∈ tables_1 := tn_5 (i := 143) (by decide +kernel)
theorem k_RX0_130 : Cond.methodLink RX0 130 yX0_parts ∈ tb := tb_5 (i := 144) (by decide +kernel) rfl
theorem k_RX0_143 : Cond.methodLink RX0 143 yX0_putLine ∈ tb := tb_5 (i := 148) (by decide +kernel) rfl
theorem k_RX0_133 : Cond.methodLink RX0 133 yX5_put ∈ tb := tb_5 (i := 152) (by decide +kernel) rfl
theorem k_RX7_334 : Cond.methodLink RX7 334 yX7_printLines ∈ tb := tb_5 (i := 153) (by decide +kernel) rfl
theorem k_RX7_390 : Cond.methodLink RX7 390 yX0_print ∈ tb := tb_5 (i := 157) (by decide +kernel) rfl
theorem k_RX0_157 : Cond.methodLink RX0 157 yX0_roomOf ∈ tb := tb_5 (i := 161) (by decide +kernel) rfl
theorem k_RX0_160 : Cond.methodLink RX0 160 yX5_pour ∈ tb := tb_5 (i := 162) (by decide +kernel) rfl
theorem k_RX0_163 : Cond.methodLink RX0 163 yX5_putMany ∈ tb := tb_5 (i := 163) (by decide +kernel) rfl
theorem k_RX7_183 : Cond.methodLink RX7 183 yX7_heading ∈ tb := tb_5 (i := 164) (by decide +kernel) rfl
theorem k_RX7_263 : Cond.methodLink RX7 263 yX4_fail ∈ tb := tb_5 (i := 168) (by decide +kernel) rfl
theorem k_RX7_266 : Cond.methodLink RX7 266 ⟨"java/lang/Math", "min", "(II)I"⟩ ∈ tb := tb_5 (i := 169) (by decide +kernel) rfl
theorem k_RX7_275 : Cond.methodLink RX7 275 yX5_putNumber ∈ tb := tb_5 (i := 170) (by decide +kernel) rfl
theorem k_RX7_278 : Cond.methodLink RX7 278 yX10_openText ∈ tb := tb_5 (i := 171) (by decide +kernel) rfl
theorem k_RX7_281 : Cond.methodLink RX7 281 yX10_beginWith ∈ tb := tb_5 (i := 175) (by decide +kernel) rfl
theorem k_RX10_88 : Cond.methodLink RX10 88 yX5_pour ∈ tb := tb_5 (i := 179) (by decide +kernel) rfl
theorem k_RX7_284 : Cond.methodLink RX7 284 yX7_gather ∈ tb := tb_5 (i := 180) (by decide +kernel) rfl
theorem k_RX7_294 : Cond.methodLink RX7 294 yX10_work ∈ tb := tb_5 (i := 184) (by decide +kernel) rfl
theorem k_RX10_104 : Cond.methodLink RX10 104 yX5_get ∈ tb := tb_5 (i := 188) (by decide +kernel) rfl
theorem k_RX10_108 : Cond.methodLink RX10 108 yX10_escape ∈ tb := tb_5 (i := 189) (by decide +kernel) rfl
theorem k_RX10_119 : Cond.methodLink RX10 119 yX4_fail ∈ tb := tb_5 (i := 193) (by decide +kernel) rfl
theorem k_RX10_130 : Cond.methodLinkNest RX10 130 yX11_isLetter "TypeRoom" ∈ tables_1 := tn_5 (i := 194) (by decide +kernel)
theorem k_RX10_134 : Cond.methodLink RX10 134 yX10_call ∈ tb := tb_5 (i := 195) (by decide +kernel) rfl
theorem k_RX10_137 : Cond.methodLink RX10 137 yX4_spend ∈ tb := tb_5 (i := 199) (by decide +kernel) rfl
theorem k_RX10_145 : Cond.methodLink RX10 145 yX8_seek ∈ tb := tb_5 (i := 200) (by decide +kernel) rfl
theorem k_RX10_150 : Cond.methodLink RX10 150 yX6_nameIndex ∈ tb := tb_5 (i := 202) (by decide +kernel) rfl
theorem k_RX10_154 : Cond.methodLink RX10 154 yX10_arityOf ∈ tb := tb_5 (i := 203) (by decide +kernel) rfl
theorem k_RX10_215 : Cond.fieldLink RX10 215 RX10 "ARITIES" "[I" ∈ tb := tb_5 (i := 207) (by decide +kernel) rfl
theorem k_RX10_158 : Cond.methodLink RX10 158 yX10_findArguments ∈ tb := tb_5 (i := 209) (by decide +kernel) rfl
theorem k_RX10_112 : Cond.methodLink RX10 112 yX10_closing ∈ tb := tb_5 (i := 213) (by decide +kernel) rfl
theorem k_RX10_161 : Cond.methodLink RX10 161 yX5_put ∈ tb := tb_5 (i := 217) (by decide +kernel) rfl
theorem k_RX10_116 : Cond.methodLink RX10 116 yX10_inside ∈ tb := tb_5 (i := 218) (by decide +kernel) rfl
theorem k_RX10_100 : Cond.methodLink RX10 100 yX10_work ∈ tb := tb_5 (i := 222) (by decide +kernel) rfl
theorem k_RX10_162 : Cond.methodLink RX10 162 yX10_workBody ∈ tb := tb_5 (i := 223) (by decide +kernel) rfl
theorem k_RX10_209 : Cond.methodLink RX10 209 yX8_from ∈ tb := tb_5 (i := 227) (by decide +kernel) rfl
theorem k_RX10_212 : Cond.methodLink RX10 212 yX8_to ∈ tb := tb_5 (i := 228) (by decide +kernel) rfl
theorem k_RX10_166 : Cond.methodLink RX10 166 yX10_sameArguments ∈ tb := tb_5 (i := 229) (by decide +kernel) rfl
theorem k_RX10_262 : Cond.methodLink RX10 262 yX5_stands ∈ tb := tb_5 (i := 233) (by decide +kernel) rfl
theorem k_RX10_169 : Cond.methodLink RX10 169 yX10_reshape ∈ tb := tb_5 (i := 234) (by decide +kernel) rfl
theorem k_RX10_127 : Cond.methodLink RX10 127 yX10_put ∈ tb := tb_5 (i := 238) (by decide +kernel) rfl
theorem k_RX10_225 : Cond.methodLink RX10 225 yX10_number ∈ tb := tb_6 (i := 2) (by decide +kernel) rfl
theorem k_RX10_219 : Cond.methodLinkNest RX10 219 yX11_isDigit "TypeRoom" ∈ tables_1 := tn_6 (i := 6) (by decide +kernel)
theorem k_RX10_222 : Cond.methodLink RX10 222 yX10_putPart ∈ tb := tb_6 (i := 7) (by decide +kernel) rfl
theorem k_RX10_229 : Cond.methodLink RX10 229 ⟨"java/lang/Math", "min", "(II)I"⟩ ∈ tb := tb_6 (i := 11) (by decide +kernel) rfl
theorem k_RX10_234 : Cond.methodLink RX10 234 yX10_putNthWord ∈ tb := tb_6 (i := 12) (by decide +kernel) rfl
theorem k_RX10_237 : Cond.methodLink RX10 237 yX10_recast ∈ tb := tb_6 (i := 16) (by decide +kernel) rfl
theorem k_RX10_241 : Cond.methodLinkNest RX10 241 yX11_great "TypeRoom" ∈ tables_1 := tn_6 (i := 19) (by decide +kernel)
theorem k_RX10_244 : Cond.methodLinkNest RX10 244 yX11_small "TypeRoom" ∈ tables_1 := tn_6 (i := 22) (by decide +kernel)
theorem k_RX10_247 : Cond.methodLinkNest RX10 247 yX11_isSmall "TypeRoom" ∈ tables_1 := tn_6 (i := 23) (by decide +kernel)
theorem k_RX10_250 : Cond.methodLink RX10 250 ⟨"java/lang/Math", "floorMod", "(II)I"⟩ ∈ tb := tb_6 (i := 24) (by decide +kernel) rfl
theorem k_RX10_173 : Cond.methodLink RX10 173 yX10_reckon ∈ tb := tb_6 (i := 27) (by decide +kernel) rfl
theorem k_RX10_253 : Cond.methodLink RX10 253 yX10_placeOf ∈ tb := tb_6 (i := 31) (by decide +kernel) rfl
theorem k_RX10_256 : Cond.methodLink RX10 256 yX5_putNumber ∈ tb := tb_6 (i := 35) (by decide +kernel) rfl
theorem k_RX10_259 : Cond.methodLink RX10 259 yX10_putScratch ∈ tb := tb_6 (i := 36) (by decide +kernel) rfl
theorem k_RX10_176 : Cond.methodLink RX10 176 yX10_tellCounter ∈ tb := tb_6 (i := 40) (by decide +kernel) rfl
theorem k_RX10_266 : Cond.methodLink RX10 266 yX10_needKey ∈ tb := tb_6 (i := 44) (by decide +kernel) rfl
theorem k_RX10_279 : Cond.methodLinkNest RX10 279 yX11_isWordSign "TypeRoom" ∈ tables_1 := tn_6 (i := 48) (by decide +kernel)
theorem k_RX10_269 : Cond.methodLink RX10 269 yX8_rows ∈ tb := tb_6 (i := 51) (by decide +kernel) rfl
theorem k_RX10_273 : Cond.methodLink RX10 273 yX8_close ∈ tb := tb_6 (i := 52) (by decide +kernel) rfl
theorem k_RX10_276 : Cond.methodLink RX10 276 yX5_alter ∈ tb := tb_6 (i := 53) (by decide +kernel) rfl
theorem k_RX10_179 : Cond.methodLink RX10 179 yX10_note ∈ tb := tb_6 (i := 54) (by decide +kernel) rfl
theorem k_RX10_286 : Cond.methodLink RX10 286 yX5_pack ∈ tb := tb_6 (i := 58) (by decide +kernel) rfl
theorem k_RX10_182 : Cond.methodLink RX10 182 yX10_label ∈ tb := tb_6 (i := 59) (by decide +kernel) rfl
theorem k_RX10_292 : Cond.methodLink RX10 292 yX5_pourMasked ∈ tb := tb_6 (i := 63) (by decide +kernel) rfl
theorem k_RX10_304 : Cond.methodLink RX10 304 yX10_lastSolid ∈ tb := tb_6 (i := 67) (by decide +kernel) rfl
theorem k_RX10_185 : Cond.methodLink RX10 185 yX10_index ∈ tb := tb_6 (i := 71) (by decide +kernel) rfl
theorem k_RX10_188 : Cond.methodLink RX10 188 yX10_refer ∈ tb := tb_6 (i := 75) (by decide +kernel) rfl
theorem k_RX10_316 : Cond.methodLink RX10 316 yX5_putMany ∈ tb := tb_6 (i := 79) (by decide +kernel) rfl
theorem k_RX10_191 : Cond.methodLink RX10 191 yX5_remove ∈ tb := tb_6 (i := 80) (by decide +kernel) rfl
theorem k_RX10_194 : Cond.methodLink RX10 194 yX5_cut ∈ tb := tb_6 (i := 84) (by decide +kernel) rfl
theorem k_RX10_124 : Cond.methodLink RX10 124 yX10_putArgument ∈ tb := tb_6 (i := 85) (by decide +kernel) rfl
theorem k_RX7_304 : Cond.methodLink RX7 304 yX5_pourMasked ∈ tb := tb_6 (i := 89) (by decide +kernel) rfl
theorem k_RX7_307 : Cond.methodLink RX7 307 yX8_close ∈ tb := tb_6 (i := 90) (by decide +kernel) rfl
theorem k_RX7_313 : Cond.methodLink RX7 313 yX5_alter ∈ tb := tb_6 (i := 91) (by decide +kernel) rfl
theorem k_RX7_338 : Cond.methodLink RX7 338 yX7_carry ∈ tb := tb_6 (i := 92) (by decide +kernel) rfl
theorem k_RX7_344 : Cond.methodLink RX7 344 yX10_firstSolid ∈ tb := tb_6 (i := 96) (by decide +kernel) rfl
theorem k_RX7_366 : Cond.methodLink RX7 366 yX7_lineOf ∈ tb := tb_6 (i := 100) (by decide +kernel) rfl
theorem k_RX7_186 : Cond.methodLink RX7 186 yX7_workTable ∈ tb := tb_6 (i := 104) (by decide +kernel) rfl
theorem k_RX7_397 : Cond.methodLink RX7 397 yX9_open ∈ tb := tb_6 (i := 108) (by decide +kernel) rfl
theorem k_RX9_50 : Cond.methodLink RX9 50 yX8_clear ∈ tb := tb_6 (i := 112) (by decide +kernel) rfl
theorem k_RX9_53 : Cond.methodLink RX9 53 yX5_clear ∈ tb := tb_6 (i := 113) (by decide +kernel) rfl
theorem k_RX7_400 : Cond.methodLink RX7 400 yX9_part ∈ tb := tb_6 (i := 114) (by decide +kernel) rfl
theorem k_RX9_58 : Cond.methodLink RX9 58 yX5_get ∈ tb := tb_6 (i := 118) (by decide +kernel) rfl
theorem k_RX9_62 : Cond.methodLink RX9 62 yX5_put ∈ tb := tb_6 (i := 119) (by decide +kernel) rfl
theorem k_RX9_69 : Cond.methodLink RX9 69 yX4_fail ∈ tb := tb_6 (i := 120) (by decide +kernel) rfl
theorem k_RX7_403 : Cond.methodLink RX7 403 yX9_takeAlignment ∈ tb := tb_6 (i := 121) (by decide +kernel) rfl
theorem k_RX9_74 : Cond.methodLink RX9 74 yX9_alignOf ∈ tb := tb_6 (i := 125) (by decide +kernel) rfl
theorem k_RX7_410 : Cond.methodLink RX7 410 yX9_takeCell ∈ tb := tb_6 (i := 128) (by decide +kernel) rfl
theorem k_RX9_78 : Cond.methodLink RX9 78 yX8_rows ∈ tb := tb_6 (i := 132) (by decide +kernel) rfl
theorem k_RX9_85 : Cond.methodLink RX9 85 yX5_pour ∈ tb := tb_6 (i := 133) (by decide +kernel) rfl
theorem k_RX9_89 : Cond.methodLink RX9 89 yX8_close ∈ tb := tb_6 (i := 134) (by decide +kernel) rfl
theorem k_RX9_92 : Cond.methodLink RX9 92 ⟨"java/lang/Math", "max", "(II)I"⟩ ∈ tb := tb_6 (i := 135) (by decide +kernel) rfl
theorem k_RX7_413 : Cond.methodLink RX7 413 yX9_closeRow ∈ tb := tb_6 (i := 136) (by decide +kernel) rfl
theorem k_RX7_416 : Cond.methodLink RX7 416 yX9_narrow ∈ tb := tb_6 (i := 140) (by decide +kernel) rfl
theorem k_RX7_196 : Cond.methodLink RX7 196 yX9_print ∈ tb := tb_6 (i := 144) (by decide +kernel) rfl
theorem k_RX9_98 : Cond.methodLink RX9 98 yX0_openPlain ∈ tb := tb_6 (i := 148) (by decide +kernel) rfl
theorem k_RX9_106 : Cond.methodLink RX9 106 yX8_from ∈ tb := tb_6 (i := 149) (by decide +kernel) rfl
theorem k_RX9_109 : Cond.methodLink RX9 109 yX8_to ∈ tb := tb_6 (i := 150) (by decide +kernel) rfl
theorem k_RX9_112 : Cond.methodLink RX9 112 yX0_fill ∈ tb := tb_6 (i := 151) (by decide +kernel) rfl
theorem k_RX9_116 : Cond.methodLink RX9 116 yX9_printParts ∈ tb := tb_6 (i := 152) (by decide +kernel) rfl
theorem k_RX9_131 : Cond.methodLink RX9 131 yX5_putMany ∈ tb := tb_6 (i := 156) (by decide +kernel) rfl
theorem k_RX9_138 : Cond.methodLink RX9 138 yX5_cut ∈ tb := tb_6 (i := 157) (by decide +kernel) rfl
theorem k_RX9_121 : Cond.methodLink RX9 121 yX1_finish ∈ tb := tb_6 (i := 158) (by decide +kernel) rfl
theorem k_RX9_125 : Cond.methodLink RX9 125 yX9_printDashes ∈ tb := tb_6 (i := 159) (by decide +kernel) rfl
theorem k_RX7_199 : Cond.methodLink RX7 199 yX7_raw ∈ tb := tb_6 (i := 163) (by decide +kernel) rfl
theorem k_RX7_202 : Cond.methodLink RX7 202 yX7_beginItem ∈ tb := tb_6 (i := 167) (by decide +kernel) rfl
theorem k_RX7_206 : Cond.methodLink RX7 206 yX7_fillText ∈ tb := tb_6 (i := 171) (by decide +kernel) rfl
theorem k_RX7_353 : Cond.methodLink RX7 353 yX0_fillBest ∈ tb := tb_6 (i := 175) (by decide +kernel) rfl
theorem k_RX0_147 : Cond.methodLink RX0 147 yX0_choose ∈ tb := tb_6 (i := 179) (by decide +kernel) rfl
theorem k_RX0_150 : Cond.methodLink RX0 150 yX0_costOf ∈ tb := tb_6 (i := 183) (by decide +kernel) rfl
theorem k_RX0_153 : Cond.methodLink RX0 153 yX5_alter ∈ tb := tb_6 (i := 187) (by decide +kernel) rfl
theorem k_RX7_210 : Cond.methodLink RX7 210 yX7_printNotes ∈ tb := tb_6 (i := 188) (by decide +kernel) rfl
theorem k_RX7_213 : Cond.methodLink RX7 213 yX7_beginParagraph ∈ tb := tb_6 (i := 192) (by decide +kernel) rfl
theorem k_RX7_216 : Cond.methodLink RX7 216 yX7_closeRound ∈ tb := tb_6 (i := 196) (by decide +kernel) rfl
theorem k_RX7_133 : Cond.methodLink RX7 133 yX7_pageRoom ∈ tb := tb_6 (i := 200) (by decide +kernel) rfl
theorem k_RX7_219 : Cond.methodLink RX7 219 yX1_paginate ∈ tb := tb_6 (i := 204) (by decide +kernel) rfl
theorem k_RX1_92 : Cond.methodLink RX1 92 yX5_get ∈ tb := tb_6 (i := 208) (by decide +kernel) rfl
theorem k_RX1_95 : Cond.methodLink RX1 95 yX1_pageEnd ∈ tb := tb_6 (i := 209) (by decide +kernel) rfl
theorem k_RX1_99 : Cond.methodLink RX1 99 yX1_firstNote ∈ tb := tb_6 (i := 213) (by decide +kernel) rfl
theorem k_RX7_225 : Cond.methodLink RX7 225 yX1_turnToPages ∈ tb := tb_6 (i := 217) (by decide +kernel) rfl
theorem k_RX1_102 : Cond.methodLink RX1 102 yX5_alter ∈ tb := tb_6 (i := 221) (by decide +kernel) rfl
theorem k_RX7_240 : Cond.methodLink RX7 240 yX2_like ∈ tb := tb_6 (i := 222) (by decide +kernel) rfl
theorem k_RX2_66 : Cond.methodLink RX2 66 yX8_like ∈ tb := tb_6 (i := 226) (by decide +kernel) rfl
theorem k_RX8_40 : Cond.methodLink RX8 40 yX5_like ∈ tb := tb_6 (i := 230) (by decide +kernel) rfl
theorem k_RX2_70 : Cond.methodLink RX2 70 yX5_like ∈ tb := tb_6 (i := 234) (by decide +kernel) rfl
theorem k_RX11_164 : Cond.methodLink RX11 164 yX7_forget ∈ tb := tb_6 (i := 235) (by decide +kernel) rfl
theorem k_RX11_165 : Cond.methodLink RX11 165 yX7_show ∈ tb := tb_6 (i := 239) (by decide +kernel) rfl
theorem k_RX7_122 : Cond.methodLink RX7 122 yX3_lineCount ∈ tb := tb_7 (i := 3) (by decide +kernel) rfl
theorem k_RX3_56 : Cond.methodLink RX3 56 yX8_rows ∈ tb := tb_7 (i := 7) (by decide +kernel) rfl
theorem k_RX7_129 : Cond.methodLink RX7 129 yX3_showHead ∈ tb := tb_7 (i := 8) (by decide +kernel) rfl
theorem k_RX3_88 : Cond.methodLink RX3 88 yX2_putLabel ∈ tb := tb_7 (i := 12) (by decide +kernel) rfl
theorem k_RX3_64 : Cond.methodLink RX3 64 yX5_get ∈ tb := tb_7 (i := 13) (by decide +kernel) rfl
theorem k_RX3_101 : Cond.methodLink RX3 101 ⟨"java/lang/Math", "max", "(II)I"⟩ ∈ tb := tb_7 (i := 14) (by decide +kernel) rfl
theorem k_RX3_71 : Cond.methodLink RX3 71 yX8_from ∈ tb := tb_7 (i := 15) (by decide +kernel) rfl
theorem k_RX3_68 : Cond.methodLink RX3 68 yX8_to ∈ tb := tb_7 (i := 16) (by decide +kernel) rfl
theorem k_RX3_107 : Cond.methodLink RX3 107 ⟨"java/lang/Math", "min", "(II)I"⟩ ∈ tb := tb_7 (i := 17) (by decide +kernel) rfl
theorem k_RX3_110 : Cond.methodLink RX3 110 yX5_pour ∈ tb := tb_7 (i := 18) (by decide +kernel) rfl
theorem k_RX3_114 : Cond.methodLink RX3 114 yX5_putMany ∈ tb := tb_7 (i := 19) (by decide +kernel) rfl
theorem k_RX3_118 : Cond.methodLink RX3 118 yX3_closeLine ∈ tb := tb_7 (i := 20) (by decide +kernel) rfl
theorem k_RX3_160 : Cond.methodLink RX3 160 yX5_put ∈ tb := tb_7 (i := 24) (by decide +kernel) rfl
theorem k_RX3_163 : Cond.methodLink RX3 163 yX8_close ∈ tb := tb_7 (i := 25) (by decide +kernel) rfl
theorem k_RX7_136 : Cond.methodLink RX7 136 yX3_showPage ∈ tb := tb_7 (i := 26) (by decide +kernel) rfl
theorem k_RX3_133 : Cond.methodLink RX3 133 yX3_showMade ∈ tb := tb_7 (i := 30) (by decide +kernel) rfl
theorem k_RX3_137 : Cond.methodLink RX3 137 yX1_firstNote ∈ tb := tb_7 (i := 34) (by decide +kernel) rfl
theorem k_RX3_149 : Cond.methodLink RX3 149 yX3_showNotes ∈ tb := tb_7 (i := 35) (by decide +kernel) rfl
theorem k_RX7_144 : Cond.methodLink RX7 144 yX3_takeTallies ∈ tb := tb_7 (i := 39) (by decide +kernel) rfl
theorem k_TypeRoomLaw_112 : Cond.methodLink "TypeRoomLaw" 112 yX11_labelled ∈ tb := tb_7 (i := 44) (by decide +kernel) rfl
theorem k_RX11_206 : Cond.methodLink RX11 206 yX8_seek ∈ tb := tb_7 (i := 48) (by decide +kernel) rfl
theorem k_RX11_218 : Cond.methodLink RX11 218 yX8_from ∈ tb := tb_7 (i := 49) (by decide +kernel) rfl
theorem k_RX11_221 : Cond.methodLink RX11 221 yX8_to ∈ tb := tb_7 (i := 50) (by decide +kernel) rfl
theorem k_TypeRoomLaw_116 : Cond.methodLink "TypeRoomLaw" 116 yX11_tell ∈ tb := tb_7 (i := 51) (by decide +kernel) rfl
theorem k_RX11_230 : Cond.methodLink RX11 230 yX10_workAlone ∈ tb := tb_7 (i := 55) (by decide +kernel) rfl
theorem k_RX10_92 : Cond.methodLink RX10 92 yX10_openRound ∈ tb := tb_7 (i := 59) (by decide +kernel) rfl
theorem k_RX10_96 : Cond.methodLink RX10 96 yX10_openText ∈ tb := tb_7 (i := 60) (by decide +kernel) rfl
theorem k_RX11_237 : Cond.methodLink RX11 237 yX5_pourMasked ∈ tb := tb_7 (i := 61) (by decide +kernel) rfl
theorem k_TypeRoomLaw_120 : Cond.methodLink "TypeRoomLaw" 120 yX11_hyphens ∈ tb := tb_7 (i := 62) (by decide +kernel) rfl
theorem k_RX11_241 : Cond.methodLink RX11 241 yX11_isLetter ∈ tb := tb_7 (i := 66) (by decide +kernel) rfl
theorem k_RX11_244 : Cond.methodLink RX11 244 yX0_partLetters ∈ tb := tb_7 (i := 67) (by decide +kernel) rfl
theorem k_RX11_247 : Cond.methodLink RX11 247 yX0_parts ∈ tb := tb_7 (i := 68) (by decide +kernel) rfl
theorem k_TypeRoomLaw_124 : Cond.methodLink "TypeRoomLaw" 124 yX11_answer ∈ tb := tb_7 (i := 69) (by decide +kernel) rfl
theorem k_TypeRoomLaw_134 : Cond.methodLink "TypeRoomLaw" 134 yX11_count ∈ tb := tb_7 (i := 73) (by decide +kernel) rfl
theorem k_RX11_263 : Cond.methodLink RX11 263 yX3_tally ∈ tb := tb_7 (i := 77) (by decide +kernel) rfl
theorem k_RX11_272 : Cond.methodLink RX11 272 yX8_rows ∈ tb := tb_7 (i := 81) (by decide +kernel) rfl
theorem k_TypeRoomLaw_65 : Cond.methodLink "TypeRoomLaw" 65 yL_replace ∈ tb := tb_7 (i := 82) (by decide +kernel) rfl
theorem k_TypeRoomLaw_7 : Cond.methodLink "TypeRoomLaw" 7 yX11_replace ∈ tb := tb_7 (i := 86) (by decide +kernel) rfl
theorem k_RX11_117 : Cond.methodLink RX11 117 ⟨"java/lang/IllegalArgumentException", "<init>", "()V"⟩ ∈ tb := tb_7 (i := 99) (by decide +kernel) rfl
theorem k_RX11_118 : Cond.methodLink RX11 118 yX11_putInPlace ∈ tb := tb_7 (i := 105) (by decide +kernel) rfl
theorem k_RX11_286 : Cond.methodLink RX11 286 yX11_standsAt ∈ tb := tb_7 (i := 109) (by decide +kernel) rfl
theorem k_RX11_294 : Cond.methodLink RX11 294 yX11_small ∈ tb := tb_7 (i := 113) (by decide +kernel) rfl
theorem k_RX11_297 : Cond.methodLink RX11 297 yX11_isWordSign ∈ tb := tb_7 (i := 114) (by decide +kernel) rfl
theorem k_RX11_290 : Cond.methodLink RX11 290 yX11_putNew ∈ tb := tb_7 (i := 115) (by decide +kernel) rfl
theorem k_RX11_300 : Cond.methodLink RX11 300 yX11_isGreat ∈ tb := tb_7 (i := 119) (by decide +kernel) rfl
theorem k_RX11_303 : Cond.methodLink RX11 303 yX11_great ∈ tb := tb_7 (i := 122) (by decide +kernel) rfl
theorem k_TypeRoomLaw_91 : Cond.methodLink "TypeRoomLaw" 91 yL_pages ∈ tb := tb_7 (i := 123) (by decide +kernel) rfl
theorem k_RX11_306 : Cond.methodLink RX11 306 ⟨"java/lang/IllegalStateException", "<init>", "()V"⟩ ∈ tb := tb_7 (i := 135) (by decide +kernel) rfl
theorem k_TypeRoomLaw_95 : Cond.methodLink "TypeRoomLaw" 95 yL_lines ∈ tb := tb_7 (i := 136) (by decide +kernel) rfl
theorem k_TypeRoomLaw_21 : Cond.methodLink "TypeRoomLaw" 21 yX11_lines ∈ tb := tb_7 (i := 140) (by decide +kernel) rfl
theorem k_RX11_175 : Cond.methodLink RX11 175 yX11_needPage ∈ tb := tb_7 (i := 144) (by decide +kernel) rfl
theorem k_RX11_309 : Cond.methodLink RX11 309 ⟨"java/lang/IndexOutOfBoundsException", "<init>", "()V"⟩ ∈ tb := tb_7 (i := 157) (by decide +kernel) rfl
theorem k_RX11_178 : Cond.methodLink RX11 178 yX3_linesOf ∈ tb := tb_7 (i := 163) (by decide +kernel) rfl
theorem k_TypeRoomLaw_98 : Cond.methodLink "TypeRoomLaw" 98 yL_length ∈ tb := tb_7 (i := 167) (by decide +kernel) rfl
theorem k_TypeRoomLaw_26 : Cond.methodLink "TypeRoomLaw" 26 yX11_length ∈ tb := tb_7 (i := 170) (by decide +kernel) rfl
theorem k_RX11_181 : Cond.methodLink RX11 181 yX11_needLine ∈ tb := tb_7 (i := 174) (by decide +kernel) rfl
theorem k_RX11_185 : Cond.methodLink RX11 185 yX3_lengthOf ∈ tb := tb_7 (i := 178) (by decide +kernel) rfl
theorem k_TypeRoomLaw_102 : Cond.methodLink "TypeRoomLaw" 102 yL_sign ∈ tb := tb_7 (i := 182) (by decide +kernel) rfl
theorem k_TypeRoomLaw_30 : Cond.methodLink "TypeRoomLaw" 30 yX11_sign ∈ tb := tb_7 (i := 185) (by decide +kernel) rfl
theorem k_RX11_188 : Cond.methodLink RX11 188 yX11_needSign ∈ tb := tb_7 (i := 189) (by decide +kernel) rfl
theorem k_TypeRoomLaw_106 : Cond.methodLink "TypeRoomLaw" 106 yL_style ∈ tb := tb_7 (i := 193) (by decide +kernel) rfl
theorem k_TypeRoomLaw_34 : Cond.methodLink "TypeRoomLaw" 34 yX11_style ∈ tb := tb_7 (i := 196) (by decide +kernel) rfl
theorem k_TypeRoomLaw_109 : Cond.methodLink "TypeRoomLaw" 109 yL_origin ∈ tb := tb_7 (i := 200) (by decide +kernel) rfl
theorem k_TypeRoomLaw_37 : Cond.methodLink "TypeRoomLaw" 37 yX11_origin ∈ tb := tb_7 (i := 203) (by decide +kernel) rfl
theorem k_TypeRoomLaw_128 : Cond.methodLink "TypeRoomLaw" 128 yL_keep ∈ tb := tb_7 (i := 207) (by decide +kernel) rfl
theorem k_TypeRoomLaw_40 : Cond.methodLink "TypeRoomLaw" 40 yX11_keep ∈ tb := tb_7 (i := 210) (by decide +kernel) rfl
theorem k_RX11_250 : Cond.methodLink RX11 250 yX3_copy ∈ tb := tb_7 (i := 214) (by decide +kernel) rfl
theorem k_RX3_49 : Cond.methodLink RX3 49 yX8_copy ∈ tb := tb_7 (i := 218) (by decide +kernel) rfl
theorem k_RX8_36 : Cond.methodLink RX8 36 yX5_copy ∈ tb := tb_7 (i := 222) (by decide +kernel) rfl
theorem k_RX3_53 : Cond.methodLink RX3 53 yX5_copy ∈ tb := tb_7 (i := 223) (by decide +kernel) rfl
theorem k_RX11_252 : Cond.methodLink RX11 252 yX3_lineCount ∈ tb := tb_7 (i := 224) (by decide +kernel) rfl
theorem k_TypeRoomLaw_131 : Cond.methodLink "TypeRoomLaw" 131 yL_changed ∈ tb := tb_7 (i := 225) (by decide +kernel) rfl
theorem k_TypeRoomLaw_43 : Cond.methodLink "TypeRoomLaw" 43 yX11_changed ∈ tb := tb_7 (i := 228) (by decide +kernel) rfl
theorem k_RX11_253 : Cond.methodLink RX11 253 yX11_needKept ∈ tb := tb_7 (i := 232) (by decide +kernel) rfl
theorem k_RX11_256 : Cond.methodLink RX11 256 yX3_common ∈ tb := tb_7 (i := 236) (by decide +kernel) rfl
theorem k_RX3_173 : Cond.methodLink RX3 173 yX3_sameLine ∈ tb := tb_8 (i := 0) (by decide +kernel) rfl
theorem k_RX3_166 : Cond.methodLink RX3 166 yX3_lengthOf ∈ tb := tb_8 (i := 4) (by decide +kernel) rfl
theorem k_RX3_169 : Cond.methodLink RX3 169 yX5_stands ∈ tb := tb_8 (i := 5) (by decide +kernel) rfl
theorem k_RX3_177 : Cond.methodLink RX3 177 yX5_alter ∈ tb := tb_8 (i := 6) (by decide +kernel) rfl
theorem k_RX11_260 : Cond.methodLink RX11 260 yX3_firstChange ∈ tb := tb_8 (i := 7) (by decide +kernel) rfl
theorem k_RX12_901 : Cond.fieldLink RX12 901 RX12 "taped" "I" ∈ tb := tb_8 (i := 30) (by decide +kernel) rfl
theorem k_RX12_904 : Cond.fieldLink RX12 904 RX12 "olds" "I" ∈ tb := tb_8 (i := 32) (by decide +kernel) rfl
theorem k_RX12_803 : Cond.fieldLink RX12 803 RX12 "srcSize" "I" ∈ tb := tb_8 (i := 34) (by decide +kernel) rfl
theorem k_RX12_800 : Cond.fieldLink RX12 800 RX12 "srcLines" "I" ∈ tb := tb_8 (i := 36) (by decide +kernel) rfl
theorem k_RX12_380 : Cond.fieldLink RX12 380 RX12 "top" "I" ∈ tb := tb_8 (i := 40) (by decide +kernel) rfl
theorem k_RX12_567 : Cond.fieldLink RX12 567 RX12 "noteTop" "I" ∈ tb := tb_8 (i := 41) (by decide +kernel) rfl
theorem k_RX12_386 : Cond.fieldLink RX12 386 RX12 "style" "I" ∈ tb := tb_8 (i := 42) (by decide +kernel) rfl
theorem k_RX12_458 : Cond.fieldLink RX12 458 RX12 "keepTop" "I" ∈ tb := tb_8 (i := 45) (by decide +kernel) rfl
theorem k_RX12_456 : Cond.fieldLink RX12 456 RX12 "calls" "I" ∈ tb := tb_8 (i := 46) (by decide +kernel) rfl
theorem k_RX12_359 : Cond.fieldLink RX12 359 RX12 "fault" "I" ∈ tb := tb_8 (i := 52) (by decide +kernel) rfl
theorem k_RX12_688 : Cond.fieldLink RX12 688 RX12 "blockLine" "I" ∈ tb := tb_8 (i := 53) (by decide +kernel) rfl
theorem k_RX12_806 : Cond.fieldLink RX12 806 RX12 "lastBlock" "I" ∈ tb := tb_8 (i := 54) (by decide +kernel) rfl
theorem k_RX12_374 : Cond.fieldLink RX12 374 RX12 "nested" "I" ∈ tb := tb_8 (i := 55) (by decide +kernel) rfl
theorem k_RX12_362 : Cond.fieldLink RX12 362 RX12 "work" "I" ∈ tb := tb_8 (i := 56) (by decide +kernel) rfl
theorem k_RX12_366 : Cond.fieldLink RX12 366 RX12 "ever" "I" ∈ tb := tb_8 (i := 57) (by decide +kernel) rfl
theorem k_RX12_892 : Cond.fieldLink RX12 892 RX12 "setWork" "I" ∈ tb := tb_8 (i := 58) (by decide +kernel) rfl
theorem k_RX12_403 : Cond.fieldLink RX12 403 RX12 "macros" "I" ∈ tb := tb_8 (i := 70) (by decide +kernel) rfl
theorem k_RX12_644 : Cond.fieldLink RX12 644 RX12 "patterns" "I" ∈ tb := tb_8 (i := 71) (by decide +kernel) rfl
theorem k_RX12_647 : Cond.fieldLink RX12 647 RX12 "exceptions" "I" ∈ tb := tb_8 (i := 72) (by decide +kernel) rfl
theorem k_RX12_555 : Cond.fieldLink RX12 555 RX12 "counters" "I" ∈ tb := tb_8 (i := 81) (by decide +kernel) rfl
theorem k_RX12_572 : Cond.fieldLink RX12 572 RX12 "now" "I" ∈ tb := tb_8 (i := 82) (by decide +kernel) rfl
theorem k_RX12_740 : Cond.fieldLink RX12 740 RX12 "titleTop" "I" ∈ tb := tb_8 (i := 97) (by decide +kernel) rfl
theorem k_RX12_584 : Cond.fieldLink RX12 584 RX12 "keyTop" "I" ∈ tb := tb_8 (i := 104) (by decide +kernel) rfl
theorem k_RX12_578 : Cond.fieldLink RX12 578 RX12 "refNowSize" "I" ∈ tb := tb_8 (i := 107) (by decide +kernel) rfl
theorem k_RX12_587 : Cond.fieldLink RX12 587 RX12 "unknown" "I" ∈ tb := tb_8 (i := 108) (by decide +kernel) rfl
theorem k_RX12_564 : Cond.fieldLink RX12 564 RX12 "notes" "I" ∈ tb := tb_8 (i := 109) (by decide +kernel) rfl
theorem k_RX12_561 : Cond.fieldLink RX12 561 RX12 "waits" "I" ∈ tb := tb_8 (i := 117) (by decide +kernel) rfl
theorem k_RX12_450 : Cond.fieldLink RX12 450 RX12 "may" "I" ∈ tb := tb_8 (i := 118) (by decide +kernel) rfl
theorem k_RX12_685 : Cond.fieldLink RX12 685 RX12 "lsTop" "I" ∈ tb := tb_8 (i := 121) (by decide +kernel) rfl
theorem k_RX12_682 : Cond.fieldLink RX12 682 RX12 "lines" "I" ∈ tb := tb_8 (i := 122) (by decide +kernel) rfl
theorem k_RX12_627 : Cond.fieldLink RX12 627 RX12 "els" "I" ∈ tb := tb_8 (i := 135) (by decide +kernel) rfl
theorem k_RX12_726 : Cond.fieldLink RX12 726 RX12 "anyLines" "Z" ∈ tb := tb_8 (i := 136) (by decide +kernel) rfl
theorem k_RX12_934 : Cond.fieldLink RX12 934 RX12 "hasKept" "Z" ∈ tb := tb_8 (i := 138) (by decide +kernel) rfl
theorem k_RX12_838 : Cond.fieldLink RX12 838 RX12 "proofLines" "I" ∈ tb := tb_8 (i := 147) (by decide +kernel) rfl
theorem k_RX12_841 : Cond.fieldLink RX12 841 RX12 "proofTop" "I" ∈ tb := tb_8 (i := 148) (by decide +kernel) rfl
theorem k_RX12_880 : Cond.fieldLink RX12 880 RX12 "rounds" "I" ∈ tb := tb_8 (i := 149) (by decide +kernel) rfl
theorem k_RX12_877 : Cond.fieldLink RX12 877 RX12 "settled" "I" ∈ tb := tb_8 (i := 150) (by decide +kernel) rfl
theorem k_RX12_895 : Cond.fieldLink RX12 895 RX12 "proofNotes" "I" ∈ tb := tb_8 (i := 151) (by decide +kernel) rfl
theorem k_RX12_898 : Cond.fieldLink RX12 898 RX12 "proofUnknown" "I" ∈ tb := tb_8 (i := 152) (by decide +kernel) rfl
theorem k_RX12_931 : Cond.fieldLink RX12 931 RX12 "keptLines" "I" ∈ tb := tb_8 (i := 158) (by decide +kernel) rfl
theorem k_RX12_383 : Cond.fieldLink RX12 383 RX12 "smallSize" "I" ∈ tb := tb_8 (i := 166) (by decide +kernel) rfl
theorem k_RX12_660 : Cond.fieldLink RX12 660 RX12 "outB" "I" ∈ tb := tb_8 (i := 169) (by decide +kernel) rfl
theorem k_RX12_673 : Cond.fieldLink RX12 673 RX12 "outNext" "I" ∈ tb := tb_8 (i := 170) (by decide +kernel) rfl
theorem k_RX12_663 : Cond.fieldLink RX12 663 RX12 "outPut" "Z" ∈ tb := tb_8 (i := 171) (by decide +kernel) rfl
theorem k_RX12_473 : Cond.fieldLink RX12 473 RX12 "wanted" "J" ∈ tb := tb_8 (i := 182) (by decide +kernel) rfl
theorem k_RX12_676 : Cond.fieldLink RX12 676 RX12 "lineN" "I" ∈ tb := tb_8 (i := 183) (by decide +kernel) rfl
theorem k_RX12_711 : Cond.fieldLink RX12 711 RX12 "aheadSize" "I" ∈ tb := tb_8 (i := 184) (by decide +kernel) rfl
theorem k_RX12_701 : Cond.fieldLink RX12 701 RX12 "firstEnd" "I" ∈ tb := tb_8 (i := 186) (by decide +kernel) rfl
theorem k_TypeRoomLaw_71 : Cond.methodLink "TypeRoomLaw" 71 yX12_thrown ∈ tb := tb_10 (i := 37) (by decide +kernel) rfl
theorem k_TypeRoomLaw_90 : Cond.methodLink "TypeRoomLaw" 90 yX12_set ∈ tb := tb_10 (i := 41) (by decide +kernel) rfl
theorem k_RX12_871 : Cond.methodLink RX12 871 yX12_splits ∈ tb := tb_10 (i := 45) (by decide +kernel) rfl
theorem k_RX12_883 : Cond.methodLink RX12 883 yX12_round ∈ tb := tb_10 (i := 49) (by decide +kernel) rfl
theorem k_RX12_377 : Cond.methodLink RX12 377 yX12_spend ∈ tb := tb_10 (i := 53) (by decide +kernel) rfl
theorem k_RX12_370 : Cond.methodLink RX12 370 yX12_fail ∈ tb := tb_10 (i := 59) (by decide +kernel) rfl
theorem k_RX12_809 : Cond.methodLink RX12 809 yX12_kindOf ∈ tb := tb_10 (i := 63) (by decide +kernel) rfl
theorem k_RX12_757 : Cond.methodLink RX12 757 yX12_lineEnd ∈ tb := tb_10 (i := 67) (by decide +kernel) rfl
theorem k_RX12_812 : Cond.methodLink RX12 812 yX12_block ∈ tb := tb_10 (i := 71) (by decide +kernel) rfl
theorem k_RX12_816 : Cond.methodLink RX12 816 yX12_directive ∈ tb := tb_10 (i := 75) (by decide +kernel) rfl
theorem k_RX12_592 : Cond.methodLink RX12 592 yX12_isWord ∈ tb := tb_10 (i := 80) (by decide +kernel) rfl
theorem k_RX12_443 : Cond.methodLink RX12 443 yX12_wordOf ∈ tb := tb_10 (i := 84) (by decide +kernel) rfl
theorem k_RX12_393 : Cond.methodLink RX12 393 ⟨"java/lang/String", "length", "()I"⟩ ∈ tb := tb_10 (i := 88) (by decide +kernel) rfl
theorem k_RX12_399 : Cond.methodLink RX12 399 ⟨"java/lang/String", "charAt", "(I)C"⟩ ∈ tb := tb_10 (i := 89) (by decide +kernel) rfl
theorem k_RX12_596 : Cond.methodLink RX12 596 yX12_defines ∈ tb := tb_10 (i := 90) (by decide +kernel) rfl
theorem k_RX12_432 : Cond.methodLink RX12 432 yX12_isLetter ∈ tb := tb_10 (i := 94) (by decide +kernel) rfl
theorem k_RX12_352 : Cond.methodLink RX12 352 yX12_isSmall ∈ tb := tb_10 (i := 97) (by decide +kernel) rfl
theorem k_RX12_356 : Cond.methodLink RX12 356 yX12_isGreat ∈ tb := tb_10 (i := 100) (by decide +kernel) rfl
theorem k_RX12_438 : Cond.methodLink RX12 438 yX12_isDigit ∈ tb := tb_10 (i := 104) (by decide +kernel) rfl
theorem k_RX12_447 : Cond.methodLink RX12 447 yX12_macroOf ∈ tb := tb_10 (i := 107) (by decide +kernel) rfl
theorem k_RX12_601 : Cond.methodLink RX12 601 yX12_sets ∈ tb := tb_10 (i := 112) (by decide +kernel) rfl
theorem k_RX12_632 : Cond.methodLink RX12 632 yX12_leastOf ∈ tb := tb_10 (i := 117) (by decide +kernel) rfl
theorem k_RX12_635 : Cond.methodLink RX12 635 yX12_mostOf ∈ tb := tb_10 (i := 120) (by decide +kernel) rfl
theorem k_RX12_606 : Cond.methodLink RX12 606 yX12_listed ∈ tb := tb_10 (i := 124) (by decide +kernel) rfl
theorem k_RX12_638 : Cond.methodLink RX12 638 yX12_isPattern ∈ tb := tb_10 (i := 128) (by decide +kernel) rfl
theorem k_RX12_641 : Cond.methodLink RX12 641 yX12_isException ∈ tb := tb_10 (i := 132) (by decide +kernel) rfl
theorem k_RX12_650 : Cond.methodLink RX12 650 yX12_keepPattern ∈ tb := tb_10 (i := 136) (by decide +kernel) rfl
theorem k_RX12_653 : Cond.methodLink RX12 653 yX12_keepException ∈ tb := tb_10 (i := 140) (by decide +kernel) rfl
theorem k_RX12_614 : Cond.methodLink RX12 614 yX12_contents ∈ tb := tb_10 (i := 146) (by decide +kernel) rfl
theorem k_RX12_536 : Cond.methodLink RX12 536 yX12_writes ∈ tb := tb_10 (i := 150) (by decide +kernel) rfl
theorem k_RX12_544 : Cond.methodLink RX12 544 yX12_roman ∈ tb := tb_10 (i := 155) (by decide +kernel) rfl
theorem k_RX12_550 : Cond.methodLink RX12 550 yX12_small ∈ tb := tb_10 (i := 159) (by decide +kernel) rfl
theorem k_RX12_552 : Cond.methodLink RX12 552 yX12_turned ∈ tb := tb_10 (i := 164) (by decide +kernel) rfl
theorem k_RX12_679 : Cond.methodLink RX12 679 yX12_adds ∈ tb := tb_10 (i := 168) (by decide +kernel) rfl
theorem k_RX12_721 : Cond.methodLink RX12 721 yX12_makes ∈ tb := tb_10 (i := 172) (by decide +kernel) rfl
theorem k_RX12_746 : Cond.methodLink RX12 746 yX12_lies ∈ tb := tb_10 (i := 176) (by decide +kernel) rfl
theorem k_RX12_619 : Cond.methodLink RX12 619 yX12_register ∈ tb := tb_10 (i := 181) (by decide +kernel) rfl
theorem k_RX12_791 : Cond.methodLink RX12 791 yX12_keyBehind ∈ tb := tb_10 (i := 185) (by decide +kernel) rfl
theorem k_RX12_785 : Cond.methodLink RX12 785 yX12_compare ∈ tb := tb_10 (i := 189) (by decide +kernel) rfl
theorem k_RX12_527 : Cond.methodLink RX12 527 yX12_low ∈ tb := tb_10 (i := 193) (by decide +kernel) rfl
theorem k_RX12_788 : Cond.methodLink RX12 788 yX12_plain ∈ tb := tb_10 (i := 196) (by decide +kernel) rfl
theorem k_RX12_794 : Cond.methodLink RX12 794 yX12_hasPage ∈ tb := tb_10 (i := 200) (by decide +kernel) rfl
theorem k_RX12_797 : Cond.methodLink RX12 797 yX12_plainLabel ∈ tb := tb_10 (i := 204) (by decide +kernel) rfl
theorem k_RX12_729 : Cond.methodLink RX12 729 yX12_points ∈ tb := tb_10 (i := 208) (by decide +kernel) rfl
theorem k_RX12_558 : Cond.methodLink RX12 558 yX12_at ∈ tb := tb_10 (i := 212) (by decide +kernel) rfl
theorem k_RX12_656 : Cond.methodLink RX12 656 yX12_letters ∈ tb := tb_10 (i := 216) (by decide +kernel) rfl
theorem k_RX12_733 : Cond.methodLink RX12 733 yX12_filled ∈ tb := tb_10 (i := 220) (by decide +kernel) rfl
theorem k_RX12_670 : Cond.methodLink RX12 670 yX12_behindBlanks ∈ tb := tb_10 (i := 224) (by decide +kernel) rfl
theorem k_RX12_697 : Cond.methodLink RX12 697 yX12_weighs ∈ tb := tb_10 (i := 228) (by decide +kernel) rfl
theorem k_RX12_724 : Cond.methodLink RX12 724 yX12_weighs_ ∈ tb := tb_10 (i := 232) (by decide +kernel) rfl
theorem k_RX12_667 : Cond.methodLink RX12 667 yX12_wordEnd ∈ tb := tb_10 (i := 236) (by decide +kernel) rfl
theorem k_RX12_704 : Cond.methodLink RX12 704 yX12_fills ∈ tb := tb_11 (i := 0) (by decide +kernel) rfl
theorem k_RX12_707 : Cond.methodLink RX12 707 yX12_laid ∈ tb := tb_11 (i := 4) (by decide +kernel) rfl
theorem k_RX12_694 : Cond.methodLink RX12 694 yX12_blanks ∈ tb := tb_11 (i := 8) (by decide +kernel) rfl
theorem k_RX12_714 : Cond.methodLink RX12 714 yX12_taken ∈ tb := tb_11 (i := 12) (by decide +kernel) rfl
theorem k_RX12_691 : Cond.methodLink RX12 691 yX12_gaps ∈ tb := tb_11 (i := 16) (by decide +kernel) rfl
theorem k_RX12_717 : Cond.methodLink RX12 717 yX12_content ∈ tb := tb_11 (i := 20) (by decide +kernel) rfl
theorem k_RX12_533 : Cond.methodLink RX12 533 yX12_shown ∈ tb := tb_11 (i := 24) (by decide +kernel) rfl
theorem k_RX12_624 : Cond.methodLink RX12 624 yX12_cuts ∈ tb := tb_11 (i := 28) (by decide +kernel) rfl
theorem k_RX12_819 : Cond.methodLink RX12 819 yX12_table ∈ tb := tb_11 (i := 32) (by decide +kernel) rfl
theorem k_RX12_737 : Cond.methodLink RX12 737 yX12_begins ∈ tb := tb_11 (i := 36) (by decide +kernel) rfl
theorem k_RX12_767 : Cond.methodLink RX12 767 yX12_parts ∈ tb := tb_11 (i := 40) (by decide +kernel) rfl
theorem k_RX12_760 : Cond.methodLink RX12 760 yX12_parted ∈ tb := tb_11 (i := 44) (by decide +kernel) rfl
theorem k_RX12_764 : Cond.methodLink RX12 764 yX12_isBlank ∈ tb := tb_11 (i := 48) (by decide +kernel) rfl
theorem k_RX12_770 : Cond.methodLink RX12 770 yX12_aligns ∈ tb := tb_11 (i := 52) (by decide +kernel) rfl
theorem k_RX12_429 : Cond.methodLink RX12 429 yX12_works ∈ tb := tb_11 (i := 56) (by decide +kernel) rfl
theorem k_RX12_406 : Cond.methodLink RX12 406 yX12_signAt ∈ tb := tb_11 (i := 60) (by decide +kernel) rfl
theorem k_RX12_410 : Cond.methodLink RX12 410 yX12_escaped ∈ tb := tb_11 (i := 64) (by decide +kernel) rfl
theorem k_RX12_435 : Cond.methodLink RX12 435 yX12_calls ∈ tb := tb_11 (i := 68) (by decide +kernel) rfl
theorem k_RX12_453 : Cond.methodLink RX12 453 yX12_argumentsOf ∈ tb := tb_11 (i := 72) (by decide +kernel) rfl
theorem k_RX12_414 : Cond.methodLink RX12 414 yX12_closes ∈ tb := tb_11 (i := 75) (by decide +kernel) rfl
theorem k_RX12_461 : Cond.methodLink RX12 461 yX12_takes ∈ tb := tb_11 (i := 79) (by decide +kernel) rfl
theorem k_RX12_425 : Cond.methodLink RX12 425 yX12_enters ∈ tb := tb_11 (i := 83) (by decide +kernel) rfl
theorem k_RX12_464 : Cond.methodLink RX12 464 yX12_body ∈ tb := tb_11 (i := 87) (by decide +kernel) rfl
theorem k_RX12_467 : Cond.methodLink RX12 467 yX12_gives ∈ tb := tb_11 (i := 91) (by decide +kernel) rfl
theorem k_RX12_477 : Cond.methodLink RX12 477 yX12_cases ∈ tb := tb_11 (i := 95) (by decide +kernel) rfl
theorem k_RX12_470 : Cond.methodLink RX12 470 yX12_arg ∈ tb := tb_11 (i := 99) (by decide +kernel) rfl
theorem k_RX12_530 : Cond.methodLink RX12 530 yX12_great ∈ tb := tb_11 (i := 103) (by decide +kernel) rfl
theorem k_RX12_389 : Cond.methodLink RX12 389 yX12_put ∈ tb := tb_11 (i := 106) (by decide +kernel) rfl
theorem k_RX12_480 : Cond.methodLink RX12 480 yX12_isNumber ∈ tb := tb_11 (i := 110) (by decide +kernel) rfl
theorem k_RX12_484 : Cond.methodLink RX12 484 yX12_rotated ∈ tb := tb_11 (i := 114) (by decide +kernel) rfl
theorem k_RX12_487 : Cond.methodLink RX12 487 yX12_puts ∈ tb := tb_11 (i := 118) (by decide +kernel) rfl
theorem k_RX12_490 : Cond.methodLink RX12 490 yX12_part ∈ tb := tb_11 (i := 122) (by decide +kernel) rfl
theorem k_RX12_493 : Cond.methodLink RX12 493 yX12_word ∈ tb := tb_11 (i := 126) (by decide +kernel) rfl
theorem k_RX12_496 : Cond.methodLink RX12 496 yX12_told ∈ tb := tb_11 (i := 130) (by decide +kernel) rfl
theorem k_RX12_539 : Cond.methodLink RX12 539 yX12_putSmall ∈ tb := tb_11 (i := 134) (by decide +kernel) rfl
theorem k_RX12_500 : Cond.methodLink RX12 500 yX12_placeOf ∈ tb := tb_11 (i := 138) (by decide +kernel) rfl
theorem k_RX12_503 : Cond.methodLink RX12 503 yX12_isKey ∈ tb := tb_11 (i := 142) (by decide +kernel) rfl
theorem k_RX12_506 : Cond.methodLink RX12 506 yX12_counts ∈ tb := tb_11 (i := 146) (by decide +kernel) rfl
theorem k_RX12_510 : Cond.methodLink RX12 510 yX12_areAlike ∈ tb := tb_11 (i := 150) (by decide +kernel) rfl
theorem k_RX12_418 : Cond.methodLink RX12 418 yX12_group ∈ tb := tb_11 (i := 154) (by decide +kernel) rfl
theorem k_RX12_514 : Cond.methodLink RX12 514 yX12_note ∈ tb := tb_11 (i := 158) (by decide +kernel) rfl
theorem k_RX12_570 : Cond.methodLink RX12 570 yX12_waits ∈ tb := tb_11 (i := 162) (by decide +kernel) rfl
theorem k_RX12_517 : Cond.methodLink RX12 517 yX12_label ∈ tb := tb_11 (i := 166) (by decide +kernel) rfl
theorem k_RX12_575 : Cond.methodLink RX12 575 yX12_labelOf ∈ tb := tb_11 (i := 170) (by decide +kernel) rfl
theorem k_RX12_581 : Cond.methodLink RX12 581 yX12_latest ∈ tb := tb_11 (i := 174) (by decide +kernel) rfl
theorem k_RX12_520 : Cond.methodLink RX12 520 yX12_index ∈ tb := tb_11 (i := 178) (by decide +kernel) rfl
theorem k_RX12_523 : Cond.methodLink RX12 523 yX12_refers ∈ tb := tb_11 (i := 182) (by decide +kernel) rfl
theorem k_RX12_422 : Cond.methodLink RX12 422 yX12_argument ∈ tb := tb_11 (i := 186) (by decide +kernel) rfl
theorem k_RX12_773 : Cond.methodLink RX12 773 yX12_trims ∈ tb := tb_11 (i := 190) (by decide +kernel) rfl
theorem k_RX12_776 : Cond.methodLink RX12 776 yX12_narrows ∈ tb := tb_11 (i := 194) (by decide +kernel) rfl
theorem k_RX12_779 : Cond.methodLink RX12 779 yX12_row ∈ tb := tb_11 (i := 198) (by decide +kernel) rfl
theorem k_RX12_782 : Cond.methodLink RX12 782 yX12_ruled ∈ tb := tb_11 (i := 202) (by decide +kernel) rfl
theorem k_RX12_822 : Cond.methodLink RX12 822 yX12_raws ∈ tb := tb_11 (i := 206) (by decide +kernel) rfl
theorem k_RX12_825 : Cond.methodLink RX12 825 yX12_heading ∈ tb := tb_11 (i := 210) (by decide +kernel) rfl
theorem k_RX12_743 : Cond.methodLink RX12 743 yX12_carries ∈ tb := tb_11 (i := 214) (by decide +kernel) rfl
theorem k_RX12_828 : Cond.methodLink RX12 828 yX12_item ∈ tb := tb_11 (i := 218) (by decide +kernel) rfl
theorem k_RX12_753 : Cond.methodLink RX12 753 yX12_text ∈ tb := tb_11 (i := 222) (by decide +kernel) rfl
theorem k_RX12_750 : Cond.methodLink RX12 750 yX12_notesLines ∈ tb := tb_11 (i := 226) (by decide +kernel) rfl
theorem k_RX12_832 : Cond.methodLink RX12 832 yX12_paragraph ∈ tb := tb_11 (i := 230) (by decide +kernel) rfl
theorem k_RX12_886 : Cond.methodLink RX12 886 yX12_lay ∈ tb := tb_11 (i := 234) (by decide +kernel) rfl
theorem k_RX12_844 : Cond.methodLink RX12 844 yX12_noteLines ∈ tb := tb_11 (i := 238) (by decide +kernel) rfl
theorem k_RX12_848 : Cond.methodLink RX12 848 yX12_page ∈ tb := tb_12 (i := 3) (by decide +kernel) rfl
theorem k_RX12_858 : Cond.methodLink RX12 858 yX12_head ∈ tb := tb_12 (i := 7) (by decide +kernel) rfl
theorem k_RX12_851 : Cond.methodLink RX12 851 yX12_proofLine ∈ tb := tb_12 (i := 11) (by decide +kernel) rfl
theorem k_RX12_855 : Cond.methodLink RX12 855 yX12_proofSign ∈ tb := tb_12 (i := 15) (by decide +kernel) rfl
theorem k_RX12_861 : Cond.methodLink RX12 861 yX12_proofCopy ∈ tb := tb_12 (i := 19) (by decide +kernel) rfl
theorem k_RX12_889 : Cond.methodLink RX12 889 yX12_areSettled ∈ tb := tb_12 (i := 23) (by decide +kernel) rfl
theorem k_RX12_864 : Cond.methodLink RX12 864 yX12_areSame ∈ tb := tb_12 (i := 27) (by decide +kernel) rfl
theorem k_TypeRoomLaw_56 : Cond.methodLink "TypeRoomLaw" 56 yX12_feed ∈ tb := tb_12 (i := 30) (by decide +kernel) rfl
theorem k_TypeRoomLaw_60 : Cond.methodLink "TypeRoomLaw" 60 yX12_write ∈ tb := tb_12 (i := 34) (by decide +kernel) rfl
theorem k_RX12_907 : Cond.methodLink RX12 907 yX12_remembers ∈ tb := tb_12 (i := 38) (by decide +kernel) rfl
theorem k_RX12_910 : Cond.methodLink RX12 910 yX12_linesOf ∈ tb := tb_12 (i := 42) (by decide +kernel) rfl
theorem k_TypeRoomLaw_64 : Cond.methodLink "TypeRoomLaw" 64 yX12_add ∈ tb := tb_12 (i := 46) (by decide +kernel) rfl
theorem k_RX12_913 : Cond.methodLink RX12 913 yX12_spendsEver ∈ tb := tb_12 (i := 50) (by decide +kernel) rfl
theorem k_TypeRoomLaw_70 : Cond.methodLink "TypeRoomLaw" 70 yX12_replace ∈ tb := tb_12 (i := 54) (by decide +kernel) rfl
theorem k_RX12_919 : Cond.methodLink RX12 919 yX12_standsAt ∈ tb := tb_12 (i := 58) (by decide +kernel) rfl
theorem k_RX12_916 : Cond.methodLink RX12 916 yX12_isInWord ∈ tb := tb_12 (i := 62) (by decide +kernel) rfl
theorem k_TypeRoomLaw_78 : Cond.methodLink "TypeRoomLaw" 78 yX12_back ∈ tb := tb_12 (i := 66) (by decide +kernel) rfl
theorem k_TypeRoomLaw_82 : Cond.methodLink "TypeRoomLaw" 82 yX12_find ∈ tb := tb_12 (i := 70) (by decide +kernel) rfl
theorem k_TypeRoomLaw_86 : Cond.methodLink "TypeRoomLaw" 86 yX12_letter ∈ tb := tb_12 (i := 74) (by decide +kernel) rfl
theorem k_TypeRoomLaw_94 : Cond.methodLink "TypeRoomLaw" 94 yX12_pages ∈ tb := tb_12 (i := 78) (by decide +kernel) rfl
theorem k_TypeRoomLaw_97 : Cond.methodLink "TypeRoomLaw" 97 yX12_lines ∈ tb := tb_12 (i := 82) (by decide +kernel) rfl
theorem k_RX12_922 : Cond.methodLink RX12 922 yX12_isThere ∈ tb := tb_12 (i := 86) (by decide +kernel) rfl
theorem k_TypeRoomLaw_101 : Cond.methodLink "TypeRoomLaw" 101 yX12_length ∈ tb := tb_12 (i := 90) (by decide +kernel) rfl
theorem k_TypeRoomLaw_105 : Cond.methodLink "TypeRoomLaw" 105 yX12_sign ∈ tb := tb_12 (i := 94) (by decide +kernel) rfl
theorem k_RX12_925 : Cond.methodLink RX12 925 yX12_isSign ∈ tb := tb_12 (i := 98) (by decide +kernel) rfl
theorem k_TypeRoomLaw_108 : Cond.methodLink "TypeRoomLaw" 108 yX12_style ∈ tb := tb_12 (i := 102) (by decide +kernel) rfl
theorem k_TypeRoomLaw_111 : Cond.methodLink "TypeRoomLaw" 111 yX12_origin ∈ tb := tb_12 (i := 106) (by decide +kernel) rfl
theorem k_TypeRoomLaw_115 : Cond.methodLink "TypeRoomLaw" 115 yX12_labelled ∈ tb := tb_12 (i := 110) (by decide +kernel) rfl
theorem k_TypeRoomLaw_119 : Cond.methodLink "TypeRoomLaw" 119 yX12_tell ∈ tb := tb_12 (i := 114) (by decide +kernel) rfl
theorem k_TypeRoomLaw_123 : Cond.methodLink "TypeRoomLaw" 123 yX12_hyphens ∈ tb := tb_12 (i := 118) (by decide +kernel) rfl
theorem k_TypeRoomLaw_127 : Cond.methodLink "TypeRoomLaw" 127 yX12_answer ∈ tb := tb_12 (i := 122) (by decide +kernel) rfl
theorem k_TypeRoomLaw_130 : Cond.methodLink "TypeRoomLaw" 130 yX12_keep ∈ tb := tb_12 (i := 126) (by decide +kernel) rfl
theorem k_TypeRoomLaw_133 : Cond.methodLink "TypeRoomLaw" 133 yX12_changed ∈ tb := tb_12 (i := 130) (by decide +kernel) rfl
theorem k_RX12_947 : Cond.methodLink RX12 947 yX12_common ∈ tb := tb_12 (i := 134) (by decide +kernel) rfl
theorem k_RX12_944 : Cond.methodLink RX12 944 yX12_numbers ∈ tb := tb_12 (i := 138) (by decide +kernel) rfl
theorem k_RX12_937 : Cond.methodLink RX12 937 yX12_areRows ∈ tb := tb_12 (i := 142) (by decide +kernel) rfl
theorem k_RX12_941 : Cond.methodLink RX12 941 yX12_isLine ∈ tb := tb_12 (i := 145) (by decide +kernel) rfl
theorem k_TypeRoomLaw_137 : Cond.methodLink "TypeRoomLaw" 137 yX12_count ∈ tb := tb_12 (i := 149) (by decide +kernel) rfl
theorem k_RX5_66 : Cond.constantLong RX5 66 (26) ∈ tb := tb_5 (i := 44) (by decide +kernel) rfl
theorem k_RX12_365 : Cond.constant RX12 365 (60000) ∈ tb := tb_10 (i := 57) (by decide +kernel) rfl
theorem k_RX12_369 : Cond.constant RX12 369 (400000) ∈ tb := tb_10 (i := 58) (by decide +kernel) rfl
theorem k_RX12_542 : Cond.constantLong RX12 542 (3999) ∈ tb := tb_10 (i := 154) (by decide +kernel) rfl
theorem k_RX12_548 : Cond.constantLong RX12 548 (26) ∈ tb := tb_10 (i := 163) (by decide +kernel) rfl
theorem k_RX12_847 : Cond.constant RX12 847 (1000000) ∈ tb := tb_12 (i := 2) (by decide +kernel) rfl
theorem k_TypeRoomLaw_50 : Cond.constantLong "TypeRoomLaw" 50 (4294967295) ∈ tb := tb_12 (i := 153) (by decide +kernel) rfl

