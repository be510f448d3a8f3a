def yX11_count : MethodName := ⟨RX11, "count", "(I)I"⟩
theorem wcX11_count : Cond.code yX11_count cX11_count 2 (some .int) ∈ tb := tb_7 (i := 76) rfl rfl
theorem wnX11_count : Cond.instanceMethod yX11_count ∈ tb := tb_7 (i := 74) (by decide +kernel) rfl
theorem wlX11_count : Cond.selects RX11 yX11_count yX11_count ∈ tb := tb_7 (i := 75) (by decide +kernel) rfl
theorem YX11_count : Yv yX11_count cX11_count 2 (some .int) 1 := ⟨wcX11_count, wlX11_count, wnX11_count, wi_11, by decide +kernel, by decide +kernel, by decide +kernel⟩
abbrev cX11_feedBytes : ByteArray := prog_1_method_23_code
def yX11_feedBytes : MethodName := ⟨RX11, "feedBytes", "(J)V"⟩
theorem wcX11_feedBytes : Cond.code yX11_feedBytes cX11_feedBytes 5 none ∈ tb := tb_3 (i := 155) rfl rfl
theorem wnX11_feedBytes : Cond.instanceMethod yX11_feedBytes ∈ tb := tb_3 (i := 154) (by decide +kernel) rfl
theorem wlX11_feedBytes : Cond.selects RX11 yX11_feedBytes yX11_feedBytes ∈ tb := tb_s (i := 0) (by decide +kernel) rfl
theorem YX11_feedBytes : Yv yX11_feedBytes cX11_feedBytes 5 none 1 := ⟨wcX11_feedBytes, wlX11_feedBytes, wnX11_feedBytes, wi_11, by decide +kernel, by decide +kernel, by decide +kernel⟩
abbrev cX11_putInPlace : ByteArray := prog_1_method_26_code
def yX11_putInPlace : MethodName := ⟨RX11, "putInPlace", "(I)I"⟩
theorem wcX11_putInPlace : Cond.code yX11_putInPlace cX11_putInPlace 6 (some .int) ∈ tb := tb_7 (i := 108) rfl rfl
theorem wnX11_putInPlace : Cond.instanceMethod yX11_putInPlace ∈ tb := tb_7 (i := 107) (by decide +kernel) rfl
theorem wlX11_putInPlace : Cond.selects RX11 yX11_putInPlace yX11_putInPlace ∈ tb := tb_s (i := 66) (by decide +kernel) rfl
theorem YX11_putInPlace : Yv yX11_putInPlace cX11_putInPlace 6 (some .int) 1 := ⟨wcX11_putInPlace, wlX11_putInPlace, wnX11_putInPlace, wi_11, by decide +kernel, by decide +kernel, by decide +kernel⟩
abbrev cX11_standsAt : ByteArray := prog_1_method_27_code
def yX11_standsAt : MethodName := ⟨RX11, "standsAt", "(III)Z"⟩
theorem wcX11_standsAt : Cond.code yX11_standsAt cX11_standsAt 7 (some .boolean) ∈ tb := tb_7 (i := 112) rfl rfl
theorem wnX11_standsAt : Cond.instanceMethod yX11_standsAt ∈ tb := tb_7 (i := 111) (by decide +kernel) rfl
theorem wlX11_standsAt : Cond.selects RX11 yX11_standsAt yX11_standsAt ∈ tb := tb_s (i := 67) (by decide +kernel) rfl
theorem YX11_standsAt : Yv yX11_standsAt cX11_standsAt 7 (some .boolean) 3 := ⟨wcX11_standsAt, wlX11_standsAt, wnX11_standsAt, wi_11, by decide +kernel, by decide +kernel, by decide +kernel⟩
abbrev cX11_putNew : ByteArray := prog_1_method_28_code
def yX11_putNew : MethodName := ⟨RX11, "putNew", "(III)V"⟩
theorem wcX11_putNew : Cond.code yX11_putNew cX11_putNew 10 none ∈ tb := tb_7 (i := 118) rfl rfl
theorem wnX11_putNew : Cond.instanceMethod yX11_putNew ∈ tb := tb_7 (i := 117) (by decide +kernel) rfl
theorem wlX11_putNew : Cond.selects RX11 yX11_putNew yX11_putNew ∈ tb := tb_s (i := 68) (by decide +kernel) rfl
theorem YX11_putNew : Yv yX11_putNew cX11_putNew 10 none 3 := ⟨wcX11_putNew, wlX11_putNew, wnX11_putNew, wi_11, by decide +kernel, by decide +kernel, by decide +kernel⟩
abbrev cX11_needPage : ByteArray := prog_1_method_31_code
def yX11_needPage : MethodName := ⟨RX11, "needPage", "(I)V"⟩
theorem wcX11_needPage : Cond.code yX11_needPage cX11_needPage 2 none ∈ tb := tb_7 (i := 147) rfl rfl
theorem wnX11_needPage : Cond.instanceMethod yX11_needPage ∈ tb := tb_7 (i := 146) (by decide +kernel) rfl
theorem wlX11_needPage : Cond.selects RX11 yX11_needPage yX11_needPage ∈ tb := tb_s (i := 70) (by decide +kernel) rfl
theorem YX11_needPage : Yv yX11_needPage cX11_needPage 2 none 1 := ⟨wcX11_needPage, wlX11_needPage, wnX11_needPage, wi_11, by decide +kernel, by decide +kernel, by decide +kernel⟩
abbrev cX11_needLine : ByteArray := prog_1_method_32_code
def yX11_needLine : MethodName := ⟨RX11, "needLine", "(II)I"⟩
theorem wcX11_needLine : Cond.code yX11_needLine cX11_needLine 3 (some .int) ∈ tb := tb_7 (i := 177) rfl rfl
theorem wnX11_needLine : Cond.instanceMethod yX11_needLine ∈ tb := tb_7 (i := 176) (by decide +kernel) rfl
theorem wlX11_needLine : Cond.selects RX11 yX11_needLine yX11_needLine ∈ tb := tb_s (i := 71) (by decide +kernel) rfl
theorem YX11_needLine : Yv yX11_needLine cX11_needLine 3 (some .int) 2 := ⟨wcX11_needLine, wlX11_needLine, wnX11_needLine, wi_11, by decide +kernel, by decide +kernel, by decide +kernel⟩
abbrev cX11_needSign : ByteArray := prog_1_method_33_code
def yX11_needSign : MethodName := ⟨RX11, "needSign", "(III)I"⟩
theorem wcX11_needSign : Cond.code yX11_needSign cX11_needSign 5 (some .int) ∈ tb := tb_7 (i := 192) rfl rfl
theorem wnX11_needSign : Cond.instanceMethod yX11_needSign ∈ tb := tb_7 (i := 191) (by decide +kernel) rfl
theorem wlX11_needSign : Cond.selects RX11 yX11_needSign yX11_needSign ∈ tb := tb_s (i := 72) (by decide +kernel) rfl
theorem YX11_needSign : Yv yX11_needSign cX11_needSign 5 (some .int) 3 := ⟨wcX11_needSign, wlX11_needSign, wnX11_needSign, wi_11, by decide +kernel, by decide +kernel, by decide +kernel⟩
abbrev cX11_isSmall : ByteArray := prog_1_method_34_code
def yX11_isSmall : MethodName := ⟨RX11, "isSmall", "(I)Z"⟩
theorem wcX11_isSmall : Cond.code yX11_isSmall cX11_isSmall 1 (some .boolean) ∈ tb := tb_5 (i := 1) rfl rfl
theorem wsX11_isSmall : Cond.static yX11_isSmall ∈ tb := tb_5 (i := 0) (by decide +kernel) rfl
theorem YX11_isSmall : Ys yX11_isSmall cX11_isSmall 1 (some .boolean) 1 := ⟨wcX11_isSmall, wsX11_isSmall, wi_11, by decide +kernel, by decide +kernel, by decide +kernel⟩
abbrev cX11_isGreat : ByteArray := prog_1_method_35_code
def yX11_isGreat : MethodName := ⟨RX11, "isGreat", "(I)Z"⟩
theorem wcX11_isGreat : Cond.code yX11_isGreat cX11_isGreat 1 (some .boolean) ∈ tb := tb_7 (i := 121) rfl rfl
theorem wsX11_isGreat : Cond.static yX11_isGreat ∈ tb := tb_7 (i := 120) (by decide +kernel) rfl
theorem YX11_isGreat : Ys yX11_isGreat cX11_isGreat 1 (some .boolean) 1 := ⟨wcX11_isGreat, wsX11_isGreat, wi_11, by decide +kernel, by decide +kernel, by decide +kernel⟩
abbrev cX11_isLetter : ByteArray := prog_1_method_36_code
def yX11_isLetter : MethodName := ⟨RX11, "isLetter", "(I)Z"⟩
theorem wcX11_isLetter : Cond.code yX11_isLetter cX11_isLetter 1 (some .boolean) ∈ tb := tb_4 (i := 190) rfl rfl
theorem wsX11_isLetter : Cond.static yX11_isLetter ∈ tb := tb_4 (i := 189) (by decide +kernel) rfl
theorem YX11_isLetter : Ys yX11_isLetter cX11_isLetter 1 (some .boolean) 1 := ⟨wcX11_isLetter, wsX11_isLetter, wi_11, by decide +kernel, by decide +kernel, by decide +kernel⟩
abbrev cX11_isDigit : ByteArray := prog_1_method_37_code
def yX11_isDigit : MethodName := ⟨RX11, "isDigit", "(I)Z"⟩
theorem wcX11_isDigit : Cond.code yX11_isDigit cX11_isDigit 1 (some .boolean) ∈ tb := tb_4 (i := 194) rfl rfl
theorem wsX11_isDigit : Cond.static yX11_isDigit ∈ tb := tb_4 (i := 193) (by decide +kernel) rfl
theorem YX11_isDigit : Ys yX11_isDigit cX11_isDigit 1 (some .boolean) 1 := ⟨wcX11_isDigit, wsX11_isDigit, wi_11, by decide +kernel, by decide +kernel, by decide +kernel⟩
abbrev cX11_isWordSign : ByteArray := prog_1_method_38_code
def yX11_isWordSign : MethodName := ⟨RX11, "isWordSign", "(I)Z"⟩
theorem wcX11_isWordSign : Cond.code yX11_isWordSign cX11_isWordSign 1 (some .boolean) ∈ tb := tb_6 (i := 50) rfl rfl
theorem wsX11_isWordSign : Cond.static yX11_isWordSign ∈ tb := tb_6 (i := 49) (by decide +kernel) rfl
theorem YX11_isWordSign : Ys yX11_isWordSign cX11_isWordSign 1 (some .boolean) 1 := ⟨wcX11_isWordSign, wsX11_isWordSign, wi_11, by decide +kernel, by decide +kernel, by decide +kernel⟩
abbrev cX11_great : ByteArray := prog_1_method_39_code
def yX11_great : MethodName := ⟨RX11, "great", "(I)I"⟩
theorem wcX11_great : Cond.code yX11_great cX11_great 1 (some .int) ∈ tb := tb_6 (i := 21) rfl rfl
theorem wsX11_great : Cond.static yX11_great ∈ tb := tb_6 (i := 20) (by decide +kernel) rfl
theorem YX11_great : Ys yX11_great cX11_great 1 (some .int) 1 := ⟨wcX11_great, wsX11_great, wi_11, by decide +kernel, by decide +kernel, by decide +kernel⟩
abbrev cX11_small : ByteArray := prog_1_method_40_code
def yX11_small : MethodName := ⟨RX11, "small", "(I)I"⟩
theorem wcX11_small : Cond.code yX11_small cX11_small 1 (some .int) ∈ tb := tb_5 (i := 85) rfl rfl
theorem wsX11_small : Cond.static yX11_small ∈ tb := tb_5 (i := 84) (by decide +kernel) rfl
theorem YX11_small : Ys yX11_small cX11_small 1 (some .int) 1 := ⟨wcX11_small, wsX11_small, wi_11, by decide +kernel, by decide +kernel, by decide +kernel⟩
abbrev cX12_leastOf : ByteArray := prog_14_method_4_code
def yX12_leastOf : MethodName := ⟨RX12, "leastOf", "(I)I"⟩
theorem wcX12_leastOf : Cond.code yX12_leastOf cX12_leastOf 1 (some .int) ∈ tb := tb_10 (i := 119) rfl rfl
theorem wsX12_leastOf : Cond.static yX12_leastOf ∈ tb := tb_10 (i := 118) (by decide +kernel) rfl
theorem YX12_leastOf : Ys yX12_leastOf cX12_leastOf 1 (some .int) 1 := ⟨wcX12_leastOf, wsX12_leastOf, wi_12, by decide +kernel, by decide +kernel, by decide +kernel⟩
abbrev cX12_mostOf : ByteArray := prog_14_method_5_code
def yX12_mostOf : MethodName := ⟨RX12, "mostOf", "(I)I"⟩
theorem wcX12_mostOf : Cond.code yX12_mostOf cX12_mostOf 1 (some .int) ∈ tb := tb_10 (i := 122) rfl rfl
theorem wsX12_mostOf : Cond.static yX12_mostOf ∈ tb := tb_10 (i := 121) (by decide +kernel) rfl
theorem YX12_mostOf : Ys yX12_mostOf cX12_mostOf 1 (some .int) 1 := ⟨wcX12_mostOf, wsX12_mostOf, wi_12, by decide +kernel, by decide +kernel, by decide +kernel⟩
abbrev cX12_isSmall : ByteArray := prog_14_method_6_code
def yX12_isSmall : MethodName := ⟨RX12, "isSmall", "(I)Z"⟩
theorem wcX12_isSmall : Cond.code yX12_isSmall cX12_isSmall 1 (some .boolean) ∈ tb := tb_10 (i := 99) rfl rfl
theorem wsX12_isSmall : Cond.static yX12_isSmall ∈ tb := tb_10 (i := 98) (by decide +kernel) rfl
theorem YX12_isSmall : Ys yX12_isSmall cX12_isSmall 1 (some .boolean) 1 := ⟨wcX12_isSmall, wsX12_isSmall, wi_12, by decide +kernel, by decide +kernel, by decide +kernel⟩
abbrev cX12_isGreat : ByteArray := prog_14_method_7_code
def yX12_isGreat : MethodName := ⟨RX12, "isGreat", "(I)Z"⟩
theorem wcX12_isGreat : Cond.code yX12_isGreat cX12_isGreat 1 (some .boolean) ∈ tb := tb_10 (i := 102) rfl rfl
theorem wsX12_isGreat : Cond.static yX12_isGreat ∈ tb := tb_10 (i := 101) (by decide +kernel) rfl
theorem YX12_isGreat : Ys yX12_isGreat cX12_isGreat 1 (some .boolean) 1 := ⟨wcX12_isGreat, wsX12_isGreat, wi_12, by decide +kernel, by decide +kernel, by decide +kernel⟩
abbrev cX12_isLetter : ByteArray := prog_14_method_8_code
def yX12_isLetter : MethodName := ⟨RX12, "isLetter", "(I)Z"⟩
theorem wcX12_isLetter : Cond.code yX12_isLetter cX12_isLetter 1 (some .boolean) ∈ tb := tb_10 (i := 96) rfl rfl
theorem wsX12_isLetter : Cond.static yX12_isLetter ∈ tb := tb_10 (i := 95) (by decide +kernel) rfl
theorem YX12_isLetter : Ys yX12_isLetter cX12_isLetter 1 (some .boolean) 1 := ⟨wcX12_isLetter, wsX12_isLetter, wi_12, by decide +kernel, by decide +kernel, by decide +kernel⟩
abbrev cX12_isDigit : ByteArray := prog_14_method_9_code
def yX12_isDigit : MethodName := ⟨RX12, "isDigit", "(I)Z"⟩
theorem wcX12_isDigit : Cond.code yX12_isDigit cX12_isDigit 1 (some .boolean) ∈ tb := tb_10 (i := 106) rfl rfl
theorem wsX12_isDigit : Cond.static yX12_isDigit ∈ tb := tb_10 (i := 105) (by decide +kernel) rfl
theorem YX12_isDigit : Ys yX12_isDigit cX12_isDigit 1 (some .boolean) 1 := ⟨wcX12_isDigit, wsX12_isDigit, wi_12, by decide +kernel, by decide +kernel, by decide +kernel⟩
abbrev cX12_low : ByteArray := prog_14_method_10_code
def yX12_low : MethodName := ⟨RX12, "low", "(I)I"⟩
theorem wcX12_low : Cond.code yX12_low cX12_low 1 (some .int) ∈ tb := tb_10 (i := 195) rfl rfl
theorem wsX12_low : Cond.static yX12_low ∈ tb := tb_10 (i := 194) (by decide +kernel) rfl
theorem YX12_low : Ys yX12_low cX12_low 1 (some .int) 1 := ⟨wcX12_low, wsX12_low, wi_12, by decide +kernel, by decide +kernel, by decide +kernel⟩
abbrev cX12_great : ByteArray := prog_14_method_11_code
def yX12_great : MethodName := ⟨RX12, "great", "(I)I"⟩
theorem wcX12_great : Cond.code yX12_great cX12_great 1 (some .int) ∈ tb := tb_11 (i := 105) rfl rfl
theorem wsX12_great : Cond.static yX12_great ∈ tb := tb_11 (i := 104) (by decide +kernel) rfl
theorem YX12_great : Ys yX12_great cX12_great 1 (some .int) 1 := ⟨wcX12_great, wsX12_great, wi_12, by decide +kernel, by decide +kernel, by decide +kernel⟩
abbrev cX12_shown : ByteArray := prog_14_method_12_code
def yX12_shown : MethodName := ⟨RX12, "shown", "(I)I"⟩
theorem wcX12_shown : Cond.code yX12_shown cX12_shown 1 (some .int) ∈ tb := tb_11 (i := 26) rfl rfl
theorem wsX12_shown : Cond.static yX12_shown ∈ tb := tb_11 (i := 25) (by decide +kernel) rfl
theorem YX12_shown : Ys yX12_shown cX12_shown 1 (some .int) 1 := ⟨wcX12_shown, wsX12_shown, wi_12, by decide +kernel, by decide +kernel, by decide +kernel⟩
abbrev cX12_at : ByteArray := prog_14_method_13_code
def yX12_at : MethodName := ⟨RX12, "at", "(I)I"⟩
theorem wcX12_at : Cond.code yX12_at cX12_at 2 (some .int) ∈ tb := tb_10 (i := 215) rfl rfl
theorem wnX12_at : Cond.instanceMethod yX12_at ∈ tb := tb_10 (i := 214) (by decide +kernel) rfl
theorem wlX12_at : Cond.selects RX12 yX12_at yX12_at ∈ tb := tb_s (i := 109) (by decide +kernel) rfl
theorem YX12_at : Yv yX12_at cX12_at 2 (some .int) 1 := ⟨wcX12_at, wlX12_at, wnX12_at, wi_12, by decide +kernel, by decide +kernel, by decide +kernel⟩
abbrev cX12_signAt : ByteArray := prog_14_method_14_code
def yX12_signAt : MethodName := ⟨RX12, "signAt", "(I)I"⟩
theorem wcX12_signAt : Cond.code yX12_signAt cX12_signAt 2 (some .int) ∈ tb := tb_11 (i := 63) rfl rfl
theorem wnX12_signAt : Cond.instanceMethod yX12_signAt ∈ tb := tb_11 (i := 62) (by decide +kernel) rfl
theorem wlX12_signAt : Cond.selects RX12 yX12_signAt yX12_signAt ∈ tb := tb_s (i := 130) (by decide +kernel) rfl
theorem YX12_signAt : Yv yX12_signAt cX12_signAt 2 (some .int) 1 := ⟨wcX12_signAt, wlX12_signAt, wnX12_signAt, wi_12, by decide +kernel, by decide +kernel, by decide +kernel⟩
abbrev cX12_fail : ByteArray := prog_14_method_15_code
def yX12_fail : MethodName := ⟨RX12, "fail", "(I)V"⟩
theorem wcX12_fail : Cond.code yX12_fail cX12_fail 2 none ∈ tb := tb_10 (i := 62) rfl rfl
theorem wnX12_fail : Cond.instanceMethod yX12_fail ∈ tb := tb_10 (i := 61) (by decide +kernel) rfl
theorem wlX12_fail : Cond.selects RX12 yX12_fail yX12_fail ∈ tb := tb_s (i := 79) (by decide +kernel) rfl
theorem YX12_fail : Yv yX12_fail cX12_fail 2 none 1 := ⟨wcX12_fail, wlX12_fail, wnX12_fail, wi_12, by decide +kernel, by decide +kernel, by decide +kernel⟩
abbrev cX12_spend : ByteArray := prog_14_method_16_code
def yX12_spend : MethodName := ⟨RX12, "spend", "(I)Z"⟩
theorem wcX12_spend : Cond.code yX12_spend cX12_spend 2 (some .boolean) ∈ tb := tb_10 (i := 56) rfl rfl
theorem wnX12_spend : Cond.instanceMethod yX12_spend ∈ tb := tb_10 (i := 55) (by decide +kernel) rfl
theorem wlX12_spend : Cond.selects RX12 yX12_spend yX12_spend ∈ tb := tb_s (i := 78) (by decide +kernel) rfl
theorem YX12_spend : Yv yX12_spend cX12_spend 2 (some .boolean) 1 := ⟨wcX12_spend, wlX12_spend, wnX12_spend, wi_12, by decide +kernel, by decide +kernel, by decide +kernel⟩
abbrev cX12_enters : ByteArray := prog_14_method_17_code
def yX12_enters : MethodName := ⟨RX12, "enters", "()Z"⟩
theorem wcX12_enters : Cond.code yX12_enters cX12_enters 1 (some .boolean) ∈ tb := tb_11 (i := 86) rfl rfl
theorem wnX12_enters : Cond.instanceMethod yX12_enters ∈ tb := tb_11 (i := 85) (by decide +kernel) rfl
theorem wlX12_enters : Cond.selects RX12 yX12_enters yX12_enters ∈ tb := tb_s (i := 135) (by decide +kernel) rfl
theorem YX12_enters : Yv yX12_enters cX12_enters 1 (some .boolean) 0 := ⟨wcX12_enters, wlX12_enters, wnX12_enters, wi_12, by decide +kernel, by decide +kernel, by decide +kernel⟩
abbrev cX12_put : ByteArray := prog_14_method_18_code
def yX12_put : MethodName := ⟨RX12, "put", "(II)V"⟩
theorem wcX12_put : Cond.code yX12_put cX12_put 3 none ∈ tb := tb_11 (i := 109) rfl rfl
theorem wnX12_put : Cond.instanceMethod yX12_put ∈ tb := tb_11 (i := 108) (by decide +kernel) rfl
theorem wlX12_put : Cond.selects RX12 yX12_put yX12_put ∈ tb := tb_s (i := 140) (by decide +kernel) rfl
theorem YX12_put : Yv yX12_put cX12_put 3 none 2 := ⟨wcX12_put, wlX12_put, wnX12_put, wi_12, by decide +kernel, by decide +kernel, by decide +kernel⟩
abbrev cX12_putSmall : ByteArray := prog_14_method_19_code
def yX12_putSmall : MethodName := ⟨RX12, "putSmall", "()V"⟩
theorem wcX12_putSmall : Cond.code yX12_putSmall cX12_putSmall 2 none ∈ tb := tb_11 (i := 137) rfl rfl
theorem wnX12_putSmall : Cond.instanceMethod yX12_putSmall ∈ tb := tb_11 (i := 136) (by decide +kernel) rfl
theorem wlX12_putSmall : Cond.selects RX12 yX12_putSmall yX12_putSmall ∈ tb := tb_s (i := 147) (by decide +kernel) rfl
theorem YX12_putSmall : Yv yX12_putSmall cX12_putSmall 2 none 0 := ⟨wcX12_putSmall, wlX12_putSmall, wnX12_putSmall, wi_12, by decide +kernel, by decide +kernel, by decide +kernel⟩
abbrev cX12_wordOf : ByteArray := prog_14_method_20_code
def yX12_wordOf : MethodName := ⟨RX12, "wordOf", "(Ljava/lang/String;II)I"⟩
theorem wcX12_wordOf : Cond.code yX12_wordOf cX12_wordOf 9 (some .int) ∈ tb := tb_10 (i := 87) rfl rfl
theorem wnX12_wordOf : Cond.instanceMethod yX12_wordOf ∈ tb := tb_10 (i := 86) (by decide +kernel) rfl
theorem wlX12_wordOf : Cond.selects RX12 yX12_wordOf yX12_wordOf ∈ tb := tb_s (i := 85) (by decide +kernel) rfl
theorem YX12_wordOf : Yv yX12_wordOf cX12_wordOf 9 (some .int) 3 := ⟨wcX12_wordOf, wlX12_wordOf, wnX12_wordOf, wi_12, by decide +kernel, by decide +kernel, by decide +kernel⟩
abbrev cX12_macroOf : ByteArray := prog_14_method_21_code
def yX12_macroOf : MethodName := ⟨RX12, "macroOf", "(II)I"⟩
theorem wcX12_macroOf : Cond.code yX12_macroOf cX12_macroOf 6 (some .int) ∈ tb := tb_10 (i := 110) rfl rfl
theorem wnX12_macroOf : Cond.instanceMethod yX12_macroOf ∈ tb := tb_10 (i := 109) (by decide +kernel) rfl
theorem wlX12_macroOf : Cond.selects RX12 yX12_macroOf yX12_macroOf ∈ tb := tb_s (i := 87) (by decide +kernel) rfl
theorem YX12_macroOf : Yv yX12_macroOf cX12_macroOf 6 (some .int) 2 := ⟨wcX12_macroOf, wlX12_macroOf, wnX12_macroOf, wi_12, by decide +kernel, by decide +kernel, by decide +kernel⟩
abbrev cX12_argumentsOf : ByteArray := prog_14_method_22_code
def yX12_argumentsOf : MethodName := ⟨RX12, "argumentsOf", "(I)I"⟩
theorem wcX12_argumentsOf : Cond.code yX12_argumentsOf cX12_argumentsOf 1 (some .int) ∈ tb := tb_11 (i := 74) rfl rfl
theorem wsX12_argumentsOf : Cond.static yX12_argumentsOf ∈ tb := tb_11 (i := 73) (by decide +kernel) rfl
theorem YX12_argumentsOf : Ys yX12_argumentsOf cX12_argumentsOf 1 (some .int) 1 := ⟨wcX12_argumentsOf, wsX12_argumentsOf, wi_12, by decide +kernel, by decide +kernel, by decide +kernel⟩
abbrev cX12_closes : ByteArray := prog_14_method_23_code
def yX12_closes : MethodName := ⟨RX12, "closes", "(II)I"⟩
theorem wcX12_closes : Cond.code yX12_closes cX12_closes 6 (some .int) ∈ tb := tb_11 (i := 78) rfl rfl
theorem wnX12_closes : Cond.instanceMethod yX12_closes ∈ tb := tb_11 (i := 77) (by decide +kernel) rfl
theorem wlX12_closes : Cond.selects RX12 yX12_closes yX12_closes ∈ tb := tb_s (i := 133) (by decide +kernel) rfl
theorem YX12_closes : Yv yX12_closes cX12_closes 6 (some .int) 2 := ⟨wcX12_closes, wlX12_closes, wnX12_closes, wi_12, by decide +kernel, by decide +kernel, by decide +kernel⟩
abbrev cX12_works : ByteArray := prog_14_method_24_code
def yX12_works : MethodName := ⟨RX12, "works", "(III)V"⟩
theorem wcX12_works : Cond.code yX12_works cX12_works 7 none ∈ tb := tb_11 (i := 59) rfl rfl
theorem wnX12_works : Cond.instanceMethod yX12_works ∈ tb := tb_11 (i := 58) (by decide +kernel) rfl
theorem wlX12_works : Cond.selects RX12 yX12_works yX12_works ∈ tb := tb_s (i := 129) (by decide +kernel) rfl
theorem YX12_works : Yv yX12_works cX12_works 7 none 3 := ⟨wcX12_works, wlX12_works, wnX12_works, wi_12, by decide +kernel, by decide +kernel, by decide +kernel⟩
abbrev cX12_group : ByteArray := prog_14_method_25_code
def yX12_group : MethodName := ⟨RX12, "group", "(III)V"⟩
theorem wcX12_group : Cond.code yX12_group cX12_group 5 none ∈ tb := tb_11 (i := 157) rfl rfl
theorem wnX12_group : Cond.instanceMethod yX12_group ∈ tb := tb_11 (i := 156) (by decide +kernel) rfl
theorem wlX12_group : Cond.selects RX12 yX12_group yX12_group ∈ tb := tb_s (i := 152) (by decide +kernel) rfl
theorem YX12_group : Yv yX12_group cX12_group 5 none 3 := ⟨wcX12_group, wlX12_group, wnX12_group, wi_12, by decide +kernel, by decide +kernel, by decide +kernel⟩
abbrev cX12_escaped : ByteArray := prog_14_method_26_code
def yX12_escaped : MethodName := ⟨RX12, "escaped", "(III)I"⟩
theorem wcX12_escaped : Cond.code yX12_escaped cX12_escaped 5 (some .int) ∈ tb := tb_11 (i := 67) rfl rfl
theorem wnX12_escaped : Cond.instanceMethod yX12_escaped ∈ tb := tb_11 (i := 66) (by decide +kernel) rfl
theorem wlX12_escaped : Cond.selects RX12 yX12_escaped yX12_escaped ∈ tb := tb_s (i := 131) (by decide +kernel) rfl
theorem YX12_escaped : Yv yX12_escaped cX12_escaped 5 (some .int) 3 := ⟨wcX12_escaped, wlX12_escaped, wnX12_escaped, wi_12, by decide +kernel, by decide +kernel, by decide +kernel⟩
abbrev cX12_argument : ByteArray := prog_14_method_27_code
def yX12_argument : MethodName := ⟨RX12, "argument", "(III)V"⟩
theorem wcX12_argument : Cond.code yX12_argument cX12_argument 7 none ∈ tb := tb_11 (i := 189) rfl rfl
theorem wnX12_argument : Cond.instanceMethod yX12_argument ∈ tb := tb_11 (i := 188) (by decide +kernel) rfl
theorem wlX12_argument : Cond.selects RX12 yX12_argument yX12_argument ∈ tb := tb_s (i := 160) (by decide +kernel) rfl
theorem YX12_argument : Yv yX12_argument cX12_argument 7 none 3 := ⟨wcX12_argument, wlX12_argument, wnX12_argument, wi_12, by decide +kernel, by decide +kernel, by decide +kernel⟩
abbrev cX12_calls : ByteArray := prog_14_method_28_code
def yX12_calls : MethodName := ⟨RX12, "calls", "(III)I"⟩
theorem wcX12_calls : Cond.code yX12_calls cX12_calls 12 (some .int) ∈ tb := tb_11 (i := 71) rfl rfl
theorem wnX12_calls : Cond.instanceMethod yX12_calls ∈ tb := tb_11 (i := 70) (by decide +kernel) rfl
theorem wlX12_calls : Cond.selects RX12 yX12_calls yX12_calls ∈ tb := tb_s (i := 132) (by decide +kernel) rfl
theorem YX12_calls : Yv yX12_calls cX12_calls 12 (some .int) 3 := ⟨wcX12_calls, wlX12_calls, wnX12_calls, wi_12, by decide +kernel, by decide +kernel, by decide +kernel⟩
abbrev cX12_takes : ByteArray := prog_14_method_29_code
def yX12_takes : MethodName := ⟨RX12, "takes", "(III)V"⟩
theorem wcX12_takes : Cond.code yX12_takes cX12_takes 8 none ∈ tb := tb_11 (i := 82) rfl rfl
theorem wnX12_takes : Cond.instanceMethod yX12_takes ∈ tb := tb_11 (i := 81) (by decide +kernel) rfl
theorem wlX12_takes : Cond.selects RX12 yX12_takes yX12_takes ∈ tb := tb_s (i := 134) (by decide +kernel) rfl
theorem YX12_takes : Yv yX12_takes cX12_takes 8 none 3 := ⟨wcX12_takes, wlX12_takes, wnX12_takes, wi_12, by decide +kernel, by decide +kernel, by decide +kernel⟩
abbrev cX12_body : ByteArray := prog_14_method_30_code
def yX12_body : MethodName := ⟨RX12, "body", "(II)V"⟩
theorem wcX12_body : Cond.code yX12_body cX12_body 4 none ∈ tb := tb_11 (i := 90) rfl rfl
theorem wnX12_body : Cond.instanceMethod yX12_body ∈ tb := tb_11 (i := 89) (by decide +kernel) rfl
theorem wlX12_body : Cond.selects RX12 yX12_body yX12_body ∈ tb := tb_s (i := 136) (by decide +kernel) rfl
theorem YX12_body : Yv yX12_body cX12_body 4 none 2 := ⟨wcX12_body, wlX12_body, wnX12_body, wi_12, by decide +kernel, by decide +kernel, by decide +kernel⟩
abbrev cX12_arg : ByteArray := prog_14_method_31_code
def yX12_arg : MethodName := ⟨RX12, "arg", "(I)I"⟩
theorem wcX12_arg : Cond.code yX12_arg cX12_arg 2 (some .int) ∈ tb := tb_11 (i := 102) rfl rfl
theorem wnX12_arg : Cond.instanceMethod yX12_arg ∈ tb := tb_11 (i := 101) (by decide +kernel) rfl
theorem wlX12_arg : Cond.selects RX12 yX12_arg yX12_arg ∈ tb := tb_s (i := 139) (by decide +kernel) rfl
theorem YX12_arg : Yv yX12_arg cX12_arg 2 (some .int) 1 := ⟨wcX12_arg, wlX12_arg, wnX12_arg, wi_12, by decide +kernel, by decide +kernel, by decide +kernel⟩
abbrev cX12_isNumber : ByteArray := prog_14_method_32_code
def yX12_isNumber : MethodName := ⟨RX12, "isNumber", "(III)Z"⟩
theorem wcX12_isNumber : Cond.code yX12_isNumber cX12_isNumber 9 (some .boolean) ∈ tb := tb_11 (i := 113) rfl rfl
theorem wnX12_isNumber : Cond.instanceMethod yX12_isNumber ∈ tb := tb_11 (i := 112) (by decide +kernel) rfl
theorem wlX12_isNumber : Cond.selects RX12 yX12_isNumber yX12_isNumber ∈ tb := tb_s (i := 141) (by decide +kernel) rfl
theorem YX12_isNumber : Yv yX12_isNumber cX12_isNumber 9 (some .boolean) 3 := ⟨wcX12_isNumber, wlX12_isNumber, wnX12_isNumber, wi_12, by decide +kernel, by decide +kernel, by decide +kernel⟩
abbrev cX12_isKey : ByteArray := prog_14_method_33_code
def yX12_isKey : MethodName := ⟨RX12, "isKey", "(I)Z"⟩
theorem wcX12_isKey : Cond.code yX12_isKey cX12_isKey 5 (some .boolean) ∈ tb := tb_11 (i := 145) rfl rfl
theorem wnX12_isKey : Cond.instanceMethod yX12_isKey ∈ tb := tb_11 (i := 144) (by decide +kernel) rfl
theorem wlX12_isKey : Cond.selects RX12 yX12_isKey yX12_isKey ∈ tb := tb_s (i := 149) (by decide +kernel) rfl
theorem YX12_isKey : Yv yX12_isKey cX12_isKey 5 (some .boolean) 1 := ⟨wcX12_isKey, wlX12_isKey, wnX12_isKey, wi_12, by decide +kernel, by decide +kernel, by decide +kernel⟩
abbrev cX12_gives : ByteArray := prog_14_method_34_code
def yX12_gives : MethodName := ⟨RX12, "gives", "(III)V"⟩
theorem wcX12_gives : Cond.code yX12_gives cX12_gives 8 none ∈ tb := tb_11 (i := 94) rfl rfl
theorem wnX12_gives : Cond.instanceMethod yX12_gives ∈ tb := tb_11 (i := 93) (by decide +kernel) rfl
theorem wlX12_gives : Cond.selects RX12 yX12_gives yX12_gives ∈ tb := tb_s (i := 137) (by decide +kernel) rfl
theorem YX12_gives : Yv yX12_gives cX12_gives 8 none 3 := ⟨wcX12_gives, wlX12_gives, wnX12_gives, wi_12, by decide +kernel, by decide +kernel, by decide +kernel⟩
abbrev cX12_puts : ByteArray := prog_14_method_35_code
def yX12_puts : MethodName := ⟨RX12, "puts", "(II)V"⟩
theorem wcX12_puts : Cond.code yX12_puts cX12_puts 4 none ∈ tb := tb_11 (i := 121) rfl rfl
theorem wnX12_puts : Cond.instanceMethod yX12_puts ∈ tb := tb_11 (i := 120) (by decide +kernel) rfl
theorem wlX12_puts : Cond.selects RX12 yX12_puts yX12_puts ∈ tb := tb_s (i := 143) (by decide +kernel) rfl
theorem YX12_puts : Yv yX12_puts cX12_puts 4 none 2 := ⟨wcX12_puts, wlX12_puts, wnX12_puts, wi_12, by decide +kernel, by decide +kernel, by decide +kernel⟩
abbrev cX12_cases : ByteArray := prog_14_method_36_code
def yX12_cases : MethodName := ⟨RX12, "cases", "(II)V"⟩
theorem wcX12_cases : Cond.code yX12_cases cX12_cases 6 none ∈ tb := tb_11 (i := 98) rfl rfl
theorem wnX12_cases : Cond.instanceMethod yX12_cases ∈ tb := tb_11 (i := 97) (by decide +kernel) rfl
theorem wlX12_cases : Cond.selects RX12 yX12_cases yX12_cases ∈ tb := tb_s (i := 138) (by decide +kernel) rfl
theorem YX12_cases : Yv yX12_cases cX12_cases 6 none 2 := ⟨wcX12_cases, wlX12_cases, wnX12_cases, wi_12, by decide +kernel, by decide +kernel, by decide +kernel⟩
abbrev cX12_rotated : ByteArray := prog_14_method_37_code
def yX12_rotated : MethodName := ⟨RX12, "rotated", "(II)V"⟩
theorem wcX12_rotated : Cond.code yX12_rotated cX12_rotated 6 none ∈ tb := tb_11 (i := 117) rfl rfl
theorem wnX12_rotated : Cond.instanceMethod yX12_rotated ∈ tb := tb_11 (i := 116) (by decide +kernel) rfl
theorem wlX12_rotated : Cond.selects RX12 yX12_rotated yX12_rotated ∈ tb := tb_s (i := 142) (by decide +kernel) rfl
theorem YX12_rotated : Yv yX12_rotated cX12_rotated 6 none 2 := ⟨wcX12_rotated, wlX12_rotated, wnX12_rotated, wi_12, by decide +kernel, by decide +kernel, by decide +kernel⟩
abbrev cX12_part : ByteArray := prog_14_method_38_code
def yX12_part : MethodName := ⟨RX12, "part", "(I)V"⟩
theorem wcX12_part : Cond.code yX12_part cX12_part 6 none ∈ tb := tb_11 (i := 125) rfl rfl
theorem wnX12_part : Cond.instanceMethod yX12_part ∈ tb := tb_11 (i := 124) (by decide +kernel) rfl
theorem wlX12_part : Cond.selects RX12 yX12_part yX12_part ∈ tb := tb_s (i := 144) (by decide +kernel) rfl
theorem YX12_part : Yv yX12_part cX12_part 6 none 1 := ⟨wcX12_part, wlX12_part, wnX12_part, wi_12, by decide +kernel, by decide +kernel, by decide +kernel⟩
abbrev cX12_word : ByteArray := prog_14_method_39_code
def yX12_word : MethodName := ⟨RX12, "word", "(II)V"⟩
theorem wcX12_word : Cond.code yX12_word cX12_word 6 none ∈ tb := tb_11 (i := 129) rfl rfl
theorem wnX12_word : Cond.instanceMethod yX12_word ∈ tb := tb_11 (i := 128) (by decide +kernel) rfl
theorem wlX12_word : Cond.selects RX12 yX12_word yX12_word ∈ tb := tb_s (i := 145) (by decide +kernel) rfl
theorem YX12_word : Yv yX12_word cX12_word 6 none 2 := ⟨wcX12_word, wlX12_word, wnX12_word, wi_12, by decide +kernel, by decide +kernel, by decide +kernel⟩
abbrev cX12_placeOf : ByteArray := prog_14_method_40_code
def yX12_placeOf : MethodName := ⟨RX12, "placeOf", "(II)I"⟩
theorem wcX12_placeOf : Cond.code yX12_placeOf cX12_placeOf 7 (some .int) ∈ tb := tb_11 (i := 141) rfl rfl
theorem wnX12_placeOf : Cond.instanceMethod yX12_placeOf ∈ tb := tb_11 (i := 140) (by decide +kernel) rfl
theorem wlX12_placeOf : Cond.selects RX12 yX12_placeOf yX12_placeOf ∈ tb := tb_s (i := 148) (by decide +kernel) rfl
theorem YX12_placeOf : Yv yX12_placeOf cX12_placeOf 7 (some .int) 2 := ⟨wcX12_placeOf, wlX12_placeOf, wnX12_placeOf, wi_12, by decide +kernel, by decide +kernel, by decide +kernel⟩
abbrev cX12_areAlike : ByteArray := prog_14_method_41_code
def yX12_areAlike : MethodName := ⟨RX12, "areAlike", "(II)Z"⟩
theorem wcX12_areAlike : Cond.code yX12_areAlike cX12_areAlike 6 (some .boolean) ∈ tb := tb_11 (i := 153) rfl rfl
theorem wnX12_areAlike : Cond.instanceMethod yX12_areAlike ∈ tb := tb_11 (i := 152) (by decide +kernel) rfl
theorem wlX12_areAlike : Cond.selects RX12 yX12_areAlike yX12_areAlike ∈ tb := tb_s (i := 151) (by decide +kernel) rfl
theorem YX12_areAlike : Yv yX12_areAlike cX12_areAlike 6 (some .boolean) 2 := ⟨wcX12_areAlike, wlX12_areAlike, wnX12_areAlike, wi_12, by decide +kernel, by decide +kernel, by decide +kernel⟩
abbrev cX12_told : ByteArray := prog_14_method_42_code
def yX12_told : MethodName := ⟨RX12, "told", "(JI)V"⟩
theorem wcX12_told : Cond.code yX12_told cX12_told 4 none ∈ tb := tb_11 (i := 133) rfl rfl
theorem wnX12_told : Cond.instanceMethod yX12_told ∈ tb := tb_11 (i := 132) (by decide +kernel) rfl
theorem wlX12_told : Cond.selects RX12 yX12_told yX12_told ∈ tb := tb_s (i := 146) (by decide +kernel) rfl
theorem YX12_told : Yv yX12_told cX12_told 4 none 2 := ⟨wcX12_told, wlX12_told, wnX12_told, wi_12, by decide +kernel, by decide +kernel, by decide +kernel⟩
abbrev cX12_small : ByteArray := prog_14_method_43_code
def yX12_small : MethodName := ⟨RX12, "small", "(I)V"⟩
theorem wcX12_small : Cond.code yX12_small cX12_small 2 none ∈ tb := tb_10 (i := 162) rfl rfl
theorem wnX12_small : Cond.instanceMethod yX12_small ∈ tb := tb_10 (i := 161) (by decide +kernel) rfl
theorem wlX12_small : Cond.selects RX12 yX12_small yX12_small ∈ tb := tb_s (i := 97) (by decide +kernel) rfl
theorem YX12_small : Yv yX12_small cX12_small 2 none 1 := ⟨wcX12_small, wlX12_small, wnX12_small, wi_12, by decide +kernel, by decide +kernel, by decide +kernel⟩
abbrev cX12_writes : ByteArray := prog_14_method_44_code
def yX12_writes : MethodName := ⟨RX12, "writes", "(JI)V"⟩
theorem wcX12_writes : Cond.code yX12_writes cX12_writes 9 none ∈ tb := tb_10 (i := 153) rfl rfl
theorem wnX12_writes : Cond.instanceMethod yX12_writes ∈ tb := tb_10 (i := 152) (by decide +kernel) rfl
theorem wlX12_writes : Cond.selects RX12 yX12_writes yX12_writes ∈ tb := tb_s (i := 95) (by decide +kernel) rfl
theorem YX12_writes : Yv yX12_writes cX12_writes 9 none 2 := ⟨wcX12_writes, wlX12_writes, wnX12_writes, wi_12, by decide +kernel, by decide +kernel, by decide +kernel⟩
abbrev cX12_turned : ByteArray := prog_14_method_45_code
def yX12_turned : MethodName := ⟨RX12, "turned", "(I)V"⟩
theorem wcX12_turned : Cond.code yX12_turned cX12_turned 5 none ∈ tb := tb_10 (i := 167) rfl rfl
theorem wnX12_turned : Cond.instanceMethod yX12_turned ∈ tb := tb_10 (i := 166) (by decide +kernel) rfl
theorem wlX12_turned : Cond.selects RX12 yX12_turned yX12_turned ∈ tb := tb_s (i := 98) (by decide +kernel) rfl
theorem YX12_turned : Yv yX12_turned cX12_turned 5 none 1 := ⟨wcX12_turned, wlX12_turned, wnX12_turned, wi_12, by decide +kernel, by decide +kernel, by decide +kernel⟩
abbrev cX12_roman : ByteArray := prog_14_method_46_code
def yX12_roman : MethodName := ⟨RX12, "roman", "(IIIII)V"⟩
theorem wcX12_roman : Cond.code yX12_roman cX12_roman 7 none ∈ tb := tb_10 (i := 158) rfl rfl
theorem wnX12_roman : Cond.instanceMethod yX12_roman ∈ tb := tb_10 (i := 157) (by decide +kernel) rfl
theorem wlX12_roman : Cond.selects RX12 yX12_roman yX12_roman ∈ tb := tb_s (i := 96) (by decide +kernel) rfl
theorem YX12_roman : Yv yX12_roman cX12_roman 7 none 5 := ⟨wcX12_roman, wlX12_roman, wnX12_roman, wi_12, by decide +kernel, by decide +kernel, by decide +kernel⟩
abbrev cX12_counts : ByteArray := prog_14_method_47_code
def yX12_counts : MethodName := ⟨RX12, "counts", "(ZII)V"⟩
theorem wcX12_counts : Cond.code yX12_counts cX12_counts 9 none ∈ tb := tb_11 (i := 149) rfl rfl
theorem wnX12_counts : Cond.instanceMethod yX12_counts ∈ tb := tb_11 (i := 148) (by decide +kernel) rfl
theorem wlX12_counts : Cond.selects RX12 yX12_counts yX12_counts ∈ tb := tb_s (i := 150) (by decide +kernel) rfl
theorem YX12_counts : Yv yX12_counts cX12_counts 9 none 3 := ⟨wcX12_counts, wlX12_counts, wnX12_counts, wi_12, by decide +kernel, by decide +kernel, by decide +kernel⟩
abbrev cX12_latest : ByteArray := prog_14_method_48_code
def yX12_latest : MethodName := ⟨RX12, "latest", "()I"⟩
theorem wcX12_latest : Cond.code yX12_latest cX12_latest 2 (some .int) ∈ tb := tb_11 (i := 177) rfl rfl
theorem wnX12_latest : Cond.instanceMethod yX12_latest ∈ tb := tb_11 (i := 176) (by decide +kernel) rfl
theorem wlX12_latest : Cond.selects RX12 yX12_latest yX12_latest ∈ tb := tb_s (i := 157) (by decide +kernel) rfl
theorem YX12_latest : Yv yX12_latest cX12_latest 2 (some .int) 0 := ⟨wcX12_latest, wlX12_latest, wnX12_latest, wi_12, by decide +kernel, by decide +kernel, by decide +kernel⟩
abbrev cX12_waits : ByteArray := prog_14_method_49_code
def yX12_waits : MethodName := ⟨RX12, "waits", "(III)V"⟩
theorem wcX12_waits : Cond.code yX12_waits cX12_waits 4 none ∈ tb := tb_11 (i := 165) rfl rfl
theorem wnX12_waits : Cond.instanceMethod yX12_waits ∈ tb := tb_11 (i := 164) (by decide +kernel) rfl
theorem wlX12_waits : Cond.selects RX12 yX12_waits yX12_waits ∈ tb := tb_s (i := 154) (by decide +kernel) rfl
theorem YX12_waits : Yv yX12_waits cX12_waits 4 none 3 := ⟨wcX12_waits, wlX12_waits, wnX12_waits, wi_12, by decide +kernel, by decide +kernel, by decide +kernel⟩
abbrev cX12_note : ByteArray := prog_14_method_50_code
def yX12_note : MethodName := ⟨RX12, "note", "(I)V"⟩
theorem wcX12_note : Cond.code yX12_note cX12_note 4 none ∈ tb := tb_11 (i := 161) rfl rfl
theorem wnX12_note : Cond.instanceMethod yX12_note ∈ tb := tb_11 (i := 160) (by decide +kernel) rfl
theorem wlX12_note : Cond.selects RX12 yX12_note yX12_note ∈ tb := tb_s (i := 153) (by decide +kernel) rfl
theorem YX12_note : Yv yX12_note cX12_note 4 none 1 := ⟨wcX12_note, wlX12_note, wnX12_note, wi_12, by decide +kernel, by decide +kernel, by decide +kernel⟩
abbrev cX12_labelOf : ByteArray := prog_14_method_51_code
def yX12_labelOf : MethodName := ⟨RX12, "labelOf", "(III)I"⟩
theorem wcX12_labelOf : Cond.code yX12_labelOf cX12_labelOf 8 (some .int) ∈ tb := tb_11 (i := 173) rfl rfl
theorem wnX12_labelOf : Cond.instanceMethod yX12_labelOf ∈ tb := tb_11 (i := 172) (by decide +kernel) rfl
theorem wlX12_labelOf : Cond.selects RX12 yX12_labelOf yX12_labelOf ∈ tb := tb_s (i := 156) (by decide +kernel) rfl
theorem YX12_labelOf : Yv yX12_labelOf cX12_labelOf 8 (some .int) 3 := ⟨wcX12_labelOf, wlX12_labelOf, wnX12_labelOf, wi_12, by decide +kernel, by decide +kernel, by decide +kernel⟩
abbrev cX12_label : ByteArray := prog_14_method_52_code
def yX12_label : MethodName := ⟨RX12, "label", "(I)V"⟩
theorem wcX12_label : Cond.code yX12_label cX12_label 5 none ∈ tb := tb_11 (i := 169) rfl rfl
theorem wnX12_label : Cond.instanceMethod yX12_label ∈ tb := tb_11 (i := 168) (by decide +kernel) rfl
theorem wlX12_label : Cond.selects RX12 yX12_label yX12_label ∈ tb := tb_s (i := 155) (by decide +kernel) rfl
theorem YX12_label : Yv yX12_label cX12_label 5 none 1 := ⟨wcX12_label, wlX12_label, wnX12_label, wi_12, by decide +kernel, by decide +kernel, by decide +kernel⟩
abbrev cX12_index : ByteArray := prog_14_method_53_code
def yX12_index : MethodName := ⟨RX12, "index", "(I)V"⟩
theorem wcX12_index : Cond.code yX12_index cX12_index 6 none ∈ tb := tb_11 (i := 181) rfl rfl
theorem wnX12_index : Cond.instanceMethod yX12_index ∈ tb := tb_11 (i := 180) (by decide +kernel) rfl
theorem wlX12_index : Cond.selects RX12 yX12_index yX12_index ∈ tb := tb_s (i := 158) (by decide +kernel) rfl
theorem YX12_index : Yv yX12_index cX12_index 6 none 1 := ⟨wcX12_index, wlX12_index, wnX12_index, wi_12, by decide +kernel, by decide +kernel, by decide +kernel⟩
abbrev cX12_refers : ByteArray := prog_14_method_54_code
def yX12_refers : MethodName := ⟨RX12, "refers", "(ZI)V"⟩
theorem wcX12_refers : Cond.code yX12_refers cX12_refers 6 none ∈ tb := tb_11 (i := 185) rfl rfl
theorem wnX12_refers : Cond.instanceMethod yX12_refers ∈ tb := tb_11 (i := 184) (by decide +kernel) rfl
theorem wlX12_refers : Cond.selects RX12 yX12_refers yX12_refers ∈ tb := tb_s (i := 159) (by decide +kernel) rfl
theorem YX12_refers : Yv yX12_refers cX12_refers 6 none 2 := ⟨wcX12_refers, wlX12_refers, wnX12_refers, wi_12, by decide +kernel, by decide +kernel, by decide +kernel⟩
abbrev cX12_directive : ByteArray := prog_14_method_55_code
def yX12_directive : MethodName := ⟨RX12, "directive", "(II)V"⟩
theorem wcX12_directive : Cond.code yX12_directive cX12_directive 5 none ∈ tb := tb_10 (i := 78) rfl rfl
theorem wnX12_directive : Cond.instanceMethod yX12_directive ∈ tb := tb_10 (i := 77) (by decide +kernel) rfl
theorem wlX12_directive : Cond.selects RX12 yX12_directive yX12_directive ∈ tb := tb_s (i := 83) (by decide +kernel) rfl
theorem YX12_directive : Yv yX12_directive cX12_directive 5 none 2 := ⟨wcX12_directive, wlX12_directive, wnX12_directive, wi_12, by decide +kernel, by decide +kernel, by decide +kernel⟩
abbrev cX12_isWord : ByteArray := prog_14_method_56_code
def yX12_isWord : MethodName := ⟨RX12, "isWord", "(IILjava/lang/String;)Z"⟩
theorem wcX12_isWord : Cond.code yX12_isWord cX12_isWord 4 (some .boolean) ∈ tb := tb_10 (i := 83) rfl rfl
theorem wnX12_isWord : Cond.instanceMethod yX12_isWord ∈ tb := tb_10 (i := 82) (by decide +kernel) rfl
theorem wlX12_isWord : Cond.selects RX12 yX12_isWord yX12_isWord ∈ tb := tb_s (i := 84) (by decide +kernel) rfl
theorem YX12_isWord : Yv yX12_isWord cX12_isWord 4 (some .boolean) 3 := ⟨wcX12_isWord, wlX12_isWord, wnX12_isWord, wi_12, by decide +kernel, by decide +kernel, by decide +kernel⟩
abbrev cX12_cuts : ByteArray := prog_14_method_57_code
def yX12_cuts : MethodName := ⟨RX12, "cuts", "()Z"⟩
theorem wcX12_cuts : Cond.code yX12_cuts cX12_cuts 1 (some .boolean) ∈ tb := tb_11 (i := 31) rfl rfl
theorem wnX12_cuts : Cond.instanceMethod yX12_cuts ∈ tb := tb_11 (i := 30) (by decide +kernel) rfl
theorem wlX12_cuts : Cond.selects RX12 yX12_cuts yX12_cuts ∈ tb := tb_s (i := 122) (by decide +kernel) rfl
theorem YX12_cuts : Yv yX12_cuts cX12_cuts 1 (some .boolean) 0 := ⟨wcX12_cuts, wlX12_cuts, wnX12_cuts, wi_12, by decide +kernel, by decide +kernel, by decide +kernel⟩
abbrev cX12_defines : ByteArray := prog_14_method_58_code
def yX12_defines : MethodName := ⟨RX12, "defines", "(II)Z"⟩
theorem wcX12_defines : Cond.code yX12_defines cX12_defines 7 (some .boolean) ∈ tb := tb_10 (i := 93) rfl rfl
theorem wnX12_defines : Cond.instanceMethod yX12_defines ∈ tb := tb_10 (i := 92) (by decide +kernel) rfl
theorem wlX12_defines : Cond.selects RX12 yX12_defines yX12_defines ∈ tb := tb_s (i := 86) (by decide +kernel) rfl
theorem YX12_defines : Yv yX12_defines cX12_defines 7 (some .boolean) 2 := ⟨wcX12_defines, wlX12_defines, wnX12_defines, wi_12, by decide +kernel, by decide +kernel, by decide +kernel⟩
abbrev cX12_sets : ByteArray := prog_14_method_59_code
def yX12_sets : MethodName := ⟨RX12, "sets", "(II)Z"⟩
theorem wcX12_sets : Cond.code yX12_sets cX12_sets 9 (some .boolean) ∈ tb := tb_10 (i := 115) rfl rfl
theorem wnX12_sets : Cond.instanceMethod yX12_sets ∈ tb := tb_10 (i := 114) (by decide +kernel) rfl
theorem wlX12_sets : Cond.selects RX12 yX12_sets yX12_sets ∈ tb := tb_s (i := 88) (by decide +kernel) rfl
theorem YX12_sets : Yv yX12_sets cX12_sets 9 (some .boolean) 2 := ⟨wcX12_sets, wlX12_sets, wnX12_sets, wi_12, by decide +kernel, by decide +kernel, by decide +kernel⟩
abbrev cX12_isPattern : ByteArray := prog_14_method_60_code
def yX12_isPattern : MethodName := ⟨RX12, "isPattern", "(II)Z"⟩
theorem wcX12_isPattern : Cond.code yX12_isPattern cX12_isPattern 6 (some .boolean) ∈ tb := tb_10 (i := 131) rfl rfl
theorem wnX12_isPattern : Cond.instanceMethod yX12_isPattern ∈ tb := tb_10 (i := 130) (by decide +kernel) rfl
theorem wlX12_isPattern : Cond.selects RX12 yX12_isPattern yX12_isPattern ∈ tb := tb_s (i := 90) (by decide +kernel) rfl
theorem YX12_isPattern : Yv yX12_isPattern cX12_isPattern 6 (some .boolean) 2 := ⟨wcX12_isPattern, wlX12_isPattern, wnX12_isPattern, wi_12, by decide +kernel, by decide +kernel, by decide +kernel⟩
abbrev cX12_isException : ByteArray := prog_14_method_61_code
def yX12_isException : MethodName := ⟨RX12, "isException", "(II)Z"⟩
theorem wcX12_isException : Cond.code yX12_isException cX12_isException 4 (some .boolean) ∈ tb := tb_10 (i := 135) rfl rfl
theorem wnX12_isException : Cond.instanceMethod yX12_isException ∈ tb := tb_10 (i := 134) (by decide +kernel) rfl
theorem wlX12_isException : Cond.selects RX12 yX12_isException yX12_isException ∈ tb := tb_s (i := 91) (by decide +kernel) rfl
theorem YX12_isException : Yv yX12_isException cX12_isException 4 (some .boolean) 2 := ⟨wcX12_isException, wlX12_isException, wnX12_isException, wi_12, by decide +kernel, by decide +kernel, by decide +kernel⟩
abbrev cX12_listed : ByteArray := prog_14_method_62_code
def yX12_listed : MethodName := ⟨RX12, "listed", "(IIZ)Z"⟩
theorem wcX12_listed : Cond.code yX12_listed cX12_listed 8 (some .boolean) ∈ tb := tb_10 (i := 127) rfl rfl
theorem wnX12_listed : Cond.instanceMethod yX12_listed ∈ tb := tb_10 (i := 126) (by decide +kernel) rfl
theorem wlX12_listed : Cond.selects RX12 yX12_listed yX12_listed ∈ tb := tb_s (i := 89) (by decide +kernel) rfl
theorem YX12_listed : Yv yX12_listed cX12_listed 8 (some .boolean) 3 := ⟨wcX12_listed, wlX12_listed, wnX12_listed, wi_12, by decide +kernel, by decide +kernel, by decide +kernel⟩
abbrev cX12_keepPattern : ByteArray := prog_14_method_63_code
def yX12_keepPattern : MethodName := ⟨RX12, "keepPattern", "(II)V"⟩
theorem wcX12_keepPattern : Cond.code yX12_keepPattern cX12_keepPattern 5 none ∈ tb := tb_10 (i := 139) rfl rfl
theorem wnX12_keepPattern : Cond.instanceMethod yX12_keepPattern ∈ tb := tb_10 (i := 138) (by decide +kernel) rfl
theorem wlX12_keepPattern : Cond.selects RX12 yX12_keepPattern yX12_keepPattern ∈ tb := tb_s (i := 92) (by decide +kernel) rfl
theorem YX12_keepPattern : Yv yX12_keepPattern cX12_keepPattern 5 none 2 := ⟨wcX12_keepPattern, wlX12_keepPattern, wnX12_keepPattern, wi_12, by decide +kernel, by decide +kernel, by decide +kernel⟩
abbrev cX12_keepException : ByteArray := prog_14_method_64_code
def yX12_keepException : MethodName := ⟨RX12, "keepException", "(II)V"⟩
theorem wcX12_keepException : Cond.code yX12_keepException cX12_keepException 5 none ∈ tb := tb_10 (i := 143) rfl rfl
theorem wnX12_keepException : Cond.instanceMethod yX12_keepException ∈ tb := tb_10 (i := 142) (by decide +kernel) rfl
theorem wlX12_keepException : Cond.selects RX12 yX12_keepException yX12_keepException ∈ tb := tb_s (i := 93) (by decide +kernel) rfl
theorem YX12_keepException : Yv yX12_keepException cX12_keepException 5 none 2 := ⟨wcX12_keepException, wlX12_keepException, wnX12_keepException, wi_12, by decide +kernel, by decide +kernel, by decide +kernel⟩
abbrev cX12_letters : ByteArray := prog_14_method_65_code
def yX12_letters : MethodName := ⟨RX12, "letters", "(IIII)V"⟩
theorem wcX12_letters : Cond.code yX12_letters cX12_letters 12 none ∈ tb := tb_10 (i := 219) rfl rfl
theorem wnX12_letters : Cond.instanceMethod yX12_letters ∈ tb := tb_10 (i := 218) (by decide +kernel) rfl
theorem wlX12_letters : Cond.selects RX12 yX12_letters yX12_letters ∈ tb := tb_s (i := 110) (by decide +kernel) rfl
theorem YX12_letters : Yv yX12_letters cX12_letters 12 none 4 := ⟨wcX12_letters, wlX12_letters, wnX12_letters, wi_12, by decide +kernel, by decide +kernel, by decide +kernel⟩
abbrev cX12_points : ByteArray := prog_14_method_66_code
def yX12_points : MethodName := ⟨RX12, "points", "(IIZ)V"⟩
theorem wcX12_points : Cond.code yX12_points cX12_points 8 none ∈ tb := tb_10 (i := 211) rfl rfl
theorem wnX12_points : Cond.instanceMethod yX12_points ∈ tb := tb_10 (i := 210) (by decide +kernel) rfl
theorem wlX12_points : Cond.selects RX12 yX12_points yX12_points ∈ tb := tb_s (i := 108) (by decide +kernel) rfl
theorem YX12_points : Yv yX12_points cX12_points 8 none 3 := ⟨wcX12_points, wlX12_points, wnX12_points, wi_12, by decide +kernel, by decide +kernel, by decide +kernel⟩
abbrev cX12_behindBlanks : ByteArray := prog_14_method_67_code
def yX12_behindBlanks : MethodName := ⟨RX12, "behindBlanks", "(II)I"⟩
theorem wcX12_behindBlanks : Cond.code yX12_behindBlanks cX12_behindBlanks 4 (some .int) ∈ tb := tb_10 (i := 227) rfl rfl
theorem wnX12_behindBlanks : Cond.instanceMethod yX12_behindBlanks ∈ tb := tb_10 (i := 226) (by decide +kernel) rfl
theorem wlX12_behindBlanks : Cond.selects RX12 yX12_behindBlanks yX12_behindBlanks ∈ tb := tb_s (i := 112) (by decide +kernel) rfl
theorem YX12_behindBlanks : Yv yX12_behindBlanks cX12_behindBlanks 4 (some .int) 2 := ⟨wcX12_behindBlanks, wlX12_behindBlanks, wnX12_behindBlanks, wi_12, by decide +kernel, by decide +kernel, by decide +kernel⟩
abbrev cX12_wordEnd : ByteArray := prog_14_method_68_code
def yX12_wordEnd : MethodName := ⟨RX12, "wordEnd", "(II)I"⟩
theorem wcX12_wordEnd : Cond.code yX12_wordEnd cX12_wordEnd 4 (some .int) ∈ tb := tb_10 (i := 239) rfl rfl
theorem wnX12_wordEnd : Cond.instanceMethod yX12_wordEnd ∈ tb := tb_10 (i := 238) (by decide +kernel) rfl
theorem wlX12_wordEnd : Cond.selects RX12 yX12_wordEnd yX12_wordEnd ∈ tb := tb_s (i := 115) (by decide +kernel) rfl
theorem YX12_wordEnd : Yv yX12_wordEnd cX12_wordEnd 4 (some .int) 2 := ⟨wcX12_wordEnd, wlX12_wordEnd, wnX12_wordEnd, wi_12, by decide +kernel, by decide +kernel, by decide +kernel⟩
abbrev cX12_fills : ByteArray := prog_14_method_69_code
def yX12_fills : MethodName := ⟨RX12, "fills", "(III)V"⟩
theorem wcX12_fills : Cond.code yX12_fills cX12_fills 9 none ∈ tb := tb_11 (i := 3) rfl rfl
theorem wnX12_fills : Cond.instanceMethod yX12_fills ∈ tb := tb_11 (i := 2) (by decide +kernel) rfl
theorem wlX12_fills : Cond.selects RX12 yX12_fills yX12_fills ∈ tb := tb_s (i := 116) (by decide +kernel) rfl
theorem YX12_fills : Yv yX12_fills cX12_fills 9 none 3 := ⟨wcX12_fills, wlX12_fills, wnX12_fills, wi_12, by decide +kernel, by decide +kernel, by decide +kernel⟩
abbrev cX12_adds : ByteArray := prog_14_method_70_code
def yX12_adds : MethodName := ⟨RX12, "adds", "(II)V"⟩
theorem wcX12_adds : Cond.code yX12_adds cX12_adds 3 none ∈ tb := tb_10 (i := 171) rfl rfl
theorem wnX12_adds : Cond.instanceMethod yX12_adds ∈ tb := tb_10 (i := 170) (by decide +kernel) rfl
theorem wlX12_adds : Cond.selects RX12 yX12_adds yX12_adds ∈ tb := tb_s (i := 99) (by decide +kernel) rfl
theorem YX12_adds : Yv yX12_adds cX12_adds 3 none 2 := ⟨wcX12_adds, wlX12_adds, wnX12_adds, wi_12, by decide +kernel, by decide +kernel, by decide +kernel⟩
abbrev cX12_blanks : ByteArray := prog_14_method_71_code
def yX12_blanks : MethodName := ⟨RX12, "blanks", "(I)V"⟩
theorem wcX12_blanks : Cond.code yX12_blanks cX12_blanks 3 none ∈ tb := tb_11 (i := 11) rfl rfl
theorem wnX12_blanks : Cond.instanceMethod yX12_blanks ∈ tb := tb_11 (i := 10) (by decide +kernel) rfl
theorem wlX12_blanks : Cond.selects RX12 yX12_blanks yX12_blanks ∈ tb := tb_s (i := 118) (by decide +kernel) rfl
theorem YX12_blanks : Yv yX12_blanks cX12_blanks 3 none 1 := ⟨wcX12_blanks, wlX12_blanks, wnX12_blanks, wi_12, by decide +kernel, by decide +kernel, by decide +kernel⟩
abbrev cX12_makes : ByteArray := prog_14_method_72_code
def yX12_makes : MethodName := ⟨RX12, "makes", "(IIZ)Z"⟩
theorem wcX12_makes : Cond.code yX12_makes cX12_makes 5 (some .boolean) ∈ tb := tb_10 (i := 175) rfl rfl
theorem wnX12_makes : Cond.instanceMethod yX12_makes ∈ tb := tb_10 (i := 174) (by decide +kernel) rfl
theorem wlX12_makes : Cond.selects RX12 yX12_makes yX12_makes ∈ tb := tb_s (i := 100) (by decide +kernel) rfl
theorem YX12_makes : Yv yX12_makes cX12_makes 5 (some .boolean) 3 := ⟨wcX12_makes, wlX12_makes, wnX12_makes, wi_12, by decide +kernel, by decide +kernel, by decide +kernel⟩
abbrev cX12_taken : ByteArray := prog_14_method_73_code
def yX12_taken : MethodName := ⟨RX12, "taken", "(II)I"⟩
theorem wcX12_taken : Cond.code yX12_taken cX12_taken 5 (some .int) ∈ tb := tb_11 (i := 15) rfl rfl
theorem wnX12_taken : Cond.instanceMethod yX12_taken ∈ tb := tb_11 (i := 14) (by decide +kernel) rfl
theorem wlX12_taken : Cond.selects RX12 yX12_taken yX12_taken ∈ tb := tb_s (i := 119) (by decide +kernel) rfl
theorem YX12_taken : Yv yX12_taken cX12_taken 5 (some .int) 2 := ⟨wcX12_taken, wlX12_taken, wnX12_taken, wi_12, by decide +kernel, by decide +kernel, by decide +kernel⟩
abbrev cX12_gaps : ByteArray := prog_14_method_74_code
def yX12_gaps : MethodName := ⟨RX12, "gaps", "(II)I"⟩
theorem wcX12_gaps : Cond.code yX12_gaps cX12_gaps 5 (some .int) ∈ tb := tb_11 (i := 19) rfl rfl
theorem wnX12_gaps : Cond.instanceMethod yX12_gaps ∈ tb := tb_11 (i := 18) (by decide +kernel) rfl
theorem wlX12_gaps : Cond.selects RX12 yX12_gaps yX12_gaps ∈ tb := tb_s (i := 120) (by decide +kernel) rfl
theorem YX12_gaps : Yv yX12_gaps cX12_gaps 5 (some .int) 2 := ⟨wcX12_gaps, wlX12_gaps, wnX12_gaps, wi_12, by decide +kernel, by decide +kernel, by decide +kernel⟩
abbrev cX12_content : ByteArray := prog_14_method_75_code
def yX12_content : MethodName := ⟨RX12, "content", "(IIZIIZ)V"⟩
theorem wcX12_content : Cond.code yX12_content cX12_content 11 none ∈ tb := tb_11 (i := 23) rfl rfl
theorem wnX12_content : Cond.instanceMethod yX12_content ∈ tb := tb_11 (i := 22) (by decide +kernel) rfl
theorem wlX12_content : Cond.selects RX12 yX12_content yX12_content ∈ tb := tb_s (i := 121) (by decide +kernel) rfl
theorem YX12_content : Yv yX12_content cX12_content 11 none 6 := ⟨wcX12_content, wlX12_content, wnX12_content, wi_12, by decide +kernel, by decide +kernel, by decide +kernel⟩
abbrev cX12_filled : ByteArray := prog_14_method_76_code
def yX12_filled : MethodName := ⟨RX12, "filled", "(IIIIII)I"⟩
theorem wcX12_filled : Cond.code yX12_filled cX12_filled 17 (some .int) ∈ tb := tb_10 (i := 223) rfl rfl
theorem wnX12_filled : Cond.instanceMethod yX12_filled ∈ tb := tb_10 (i := 222) (by decide +kernel) rfl
theorem wlX12_filled : Cond.selects RX12 yX12_filled yX12_filled ∈ tb := tb_s (i := 111) (by decide +kernel) rfl
theorem YX12_filled : Yv yX12_filled cX12_filled 17 (some .int) 6 := ⟨wcX12_filled, wlX12_filled, wnX12_filled, wi_12, by decide +kernel, by decide +kernel, by decide +kernel⟩
abbrev cX12_laid : ByteArray := prog_14_method_77_code
def yX12_laid : MethodName := ⟨RX12, "laid", "(IIZIIIZI)V"⟩
theorem wcX12_laid : Cond.code yX12_laid cX12_laid 13 none ∈ tb := tb_11 (i := 7) rfl rfl
theorem wnX12_laid : Cond.instanceMethod yX12_laid ∈ tb := tb_11 (i := 6) (by decide +kernel) rfl
theorem wlX12_laid : Cond.selects RX12 yX12_laid yX12_laid ∈ tb := tb_s (i := 117) (by decide +kernel) rfl
theorem YX12_laid : Yv yX12_laid cX12_laid 13 none 8 := ⟨wcX12_laid, wlX12_laid, wnX12_laid, wi_12, by decide +kernel, by decide +kernel, by decide +kernel⟩
abbrev cX12_weighs : ByteArray := prog_14_method_78_code
def yX12_weighs : MethodName := ⟨RX12, "weighs", "(IIII)Z"⟩
theorem wcX12_weighs : Cond.code yX12_weighs cX12_weighs 8 (some .boolean) ∈ tb := tb_10 (i := 231) rfl rfl
theorem wnX12_weighs : Cond.instanceMethod yX12_weighs ∈ tb := tb_10 (i := 230) (by decide +kernel) rfl
theorem wlX12_weighs : Cond.selects RX12 yX12_weighs yX12_weighs ∈ tb := tb_s (i := 113) (by decide +kernel) rfl
theorem YX12_weighs : Yv yX12_weighs cX12_weighs 8 (some .boolean) 4 := ⟨wcX12_weighs, wlX12_weighs, wnX12_weighs, wi_12, by decide +kernel, by decide +kernel, by decide +kernel⟩
abbrev cX12_weighs_ : ByteArray := prog_14_method_79_code
def yX12_weighs_ : MethodName := ⟨RX12, "weighs", "(III)Z"⟩
theorem wcX12_weighs_ : Cond.code yX12_weighs_ cX12_weighs_ 13 (some .boolean) ∈ tb := tb_10 (i := 235) rfl rfl
theorem wnX12_weighs_ : Cond.instanceMethod yX12_weighs_ ∈ tb := tb_10 (i := 234) (by decide +kernel) rfl
theorem wlX12_weighs_ : Cond.selects RX12 yX12_weighs_ yX12_weighs_ ∈ tb := tb_s (i := 114) (by decide +kernel) rfl
theorem YX12_weighs_ : Yv yX12_weighs_ cX12_weighs_ 13 (some .boolean) 3 := ⟨wcX12_weighs_, wlX12_weighs_, wnX12_weighs_, wi_12, by decide +kernel, by decide +kernel, by decide +kernel⟩
abbrev cX12_lies : ByteArray := prog_14_method_80_code
def yX12_lies : MethodName := ⟨RX12, "lies", "(IZI)V"⟩
theorem wcX12_lies : Cond.code yX12_lies cX12_lies 6 none ∈ tb := tb_10 (i := 179) rfl rfl
theorem wnX12_lies : Cond.instanceMethod yX12_lies ∈ tb := tb_10 (i := 178) (by decide +kernel) rfl
theorem wlX12_lies : Cond.selects RX12 yX12_lies yX12_lies ∈ tb := tb_s (i := 101) (by decide +kernel) rfl
theorem YX12_lies : Yv yX12_lies cX12_lies 6 none 3 := ⟨wcX12_lies, wlX12_lies, wnX12_lies, wi_12, by decide +kernel, by decide +kernel, by decide +kernel⟩
abbrev cX12_carries : ByteArray := prog_14_method_81_code
def yX12_carries : MethodName := ⟨RX12, "carries", "(III)V"⟩
theorem wcX12_carries : Cond.code yX12_carries cX12_carries 8 none ∈ tb := tb_11 (i := 217) rfl rfl
theorem wnX12_carries : Cond.instanceMethod yX12_carries ∈ tb := tb_11 (i := 216) (by decide +kernel) rfl
theorem wlX12_carries : Cond.selects RX12 yX12_carries yX12_carries ∈ tb := tb_s (i := 167) (by decide +kernel) rfl
theorem YX12_carries : Yv yX12_carries cX12_carries 8 none 3 := ⟨wcX12_carries, wlX12_carries, wnX12_carries, wi_12, by decide +kernel, by decide +kernel, by decide +kernel⟩
abbrev cX12_notesLines : ByteArray := prog_14_method_82_code
def yX12_notesLines : MethodName := ⟨RX12, "notesLines", "(I)V"⟩
theorem wcX12_notesLines : Cond.code yX12_notesLines cX12_notesLines 6 none ∈ tb := tb_11 (i := 229) rfl rfl
theorem wnX12_notesLines : Cond.instanceMethod yX12_notesLines ∈ tb := tb_11 (i := 228) (by decide +kernel) rfl
theorem wlX12_notesLines : Cond.selects RX12 yX12_notesLines yX12_notesLines ∈ tb := tb_s (i := 170) (by decide +kernel) rfl
theorem YX12_notesLines : Yv yX12_notesLines cX12_notesLines 6 none 1 := ⟨wcX12_notesLines, wlX12_notesLines, wnX12_notesLines, wi_12, by decide +kernel, by decide +kernel, by decide +kernel⟩
abbrev cX12_begins : ByteArray := prog_14_method_83_code
def yX12_begins : MethodName := ⟨RX12, "begins", "(I)V"⟩
theorem wcX12_begins : Cond.code yX12_begins cX12_begins 2 none ∈ tb := tb_11 (i := 39) rfl rfl
theorem wnX12_begins : Cond.instanceMethod yX12_begins ∈ tb := tb_11 (i := 38) (by decide +kernel) rfl
theorem wlX12_begins : Cond.selects RX12 yX12_begins yX12_begins ∈ tb := tb_s (i := 124) (by decide +kernel) rfl
theorem YX12_begins : Yv yX12_begins cX12_begins 2 none 1 := ⟨wcX12_begins, wlX12_begins, wnX12_begins, wi_12, by decide +kernel, by decide +kernel, by decide +kernel⟩
abbrev cX12_heading : ByteArray := prog_14_method_84_code
def yX12_heading : MethodName := ⟨RX12, "heading", "(III)V"⟩
theorem wcX12_heading : Cond.code yX12_heading cX12_heading 9 none ∈ tb := tb_11 (i := 213) rfl rfl
theorem wnX12_heading : Cond.instanceMethod yX12_heading ∈ tb := tb_11 (i := 212) (by decide +kernel) rfl
theorem wlX12_heading : Cond.selects RX12 yX12_heading yX12_heading ∈ tb := tb_s (i := 166) (by decide +kernel) rfl
theorem YX12_heading : Yv yX12_heading cX12_heading 9 none 3 := ⟨wcX12_heading, wlX12_heading, wnX12_heading, wi_12, by decide +kernel, by decide +kernel, by decide +kernel⟩
abbrev cX12_text : ByteArray := prog_14_method_85_code
def yX12_text : MethodName := ⟨RX12, "text", "(IIIIZ)V"⟩
theorem wcX12_text : Cond.code yX12_text cX12_text 11 none ∈ tb := tb_11 (i := 225) rfl rfl
theorem wnX12_text : Cond.instanceMethod yX12_text ∈ tb := tb_11 (i := 224) (by decide +kernel) rfl
theorem wlX12_text : Cond.selects RX12 yX12_text yX12_text ∈ tb := tb_s (i := 169) (by decide +kernel) rfl
theorem YX12_text : Yv yX12_text cX12_text 11 none 5 := ⟨wcX12_text, wlX12_text, wnX12_text, wi_12, by decide +kernel, by decide +kernel, by decide +kernel⟩
abbrev cX12_paragraph : ByteArray := prog_14_method_86_code
def yX12_paragraph : MethodName := ⟨RX12, "paragraph", "(II)V"⟩
theorem wcX12_paragraph : Cond.code yX12_paragraph cX12_paragraph 3 none ∈ tb := tb_11 (i := 233) rfl rfl
theorem wnX12_paragraph : Cond.instanceMethod yX12_paragraph ∈ tb := tb_11 (i := 232) (by decide +kernel) rfl
theorem wlX12_paragraph : Cond.selects RX12 yX12_paragraph yX12_paragraph ∈ tb := tb_s (i := 171) (by decide +kernel) rfl
theorem YX12_paragraph : Yv yX12_paragraph cX12_paragraph 3 none 2 := ⟨wcX12_paragraph, wlX12_paragraph, wnX12_paragraph, wi_12, by decide +kernel, by decide +kernel, by decide +kernel⟩
abbrev cX12_item : ByteArray := prog_14_method_87_code
def yX12_item : MethodName := ⟨RX12, "item", "(IZIIZ)V"⟩
theorem wcX12_item : Cond.code yX12_item cX12_item 8 none ∈ tb := tb_11 (i := 221) rfl rfl
theorem wnX12_item : Cond.instanceMethod yX12_item ∈ tb := tb_11 (i := 220) (by decide +kernel) rfl
theorem wlX12_item : Cond.selects RX12 yX12_item yX12_item ∈ tb := tb_s (i := 168) (by decide +kernel) rfl
theorem YX12_item : Yv yX12_item cX12_item 8 none 5 := ⟨wcX12_item, wlX12_item, wnX12_item, wi_12, by decide +kernel, by decide +kernel, by decide +kernel⟩
abbrev cX12_raws : ByteArray := prog_14_method_88_code
def yX12_raws : MethodName := ⟨RX12, "raws", "(II)V"⟩
theorem wcX12_raws : Cond.code yX12_raws cX12_raws 8 none ∈ tb := tb_11 (i := 209) rfl rfl
theorem wnX12_raws : Cond.instanceMethod yX12_raws ∈ tb := tb_11 (i := 208) (by decide +kernel) rfl
theorem wlX12_raws : Cond.selects RX12 yX12_raws yX12_raws ∈ tb := tb_s (i := 165) (by decide +kernel) rfl
theorem YX12_raws : Yv yX12_raws cX12_raws 8 none 2 := ⟨wcX12_raws, wlX12_raws, wnX12_raws, wi_12, by decide +kernel, by decide +kernel, by decide +kernel⟩
abbrev cX12_isBlank : ByteArray := prog_14_method_89_code
def yX12_isBlank : MethodName := ⟨RX12, "isBlank", "(II)Z"⟩
theorem wcX12_isBlank : Cond.code yX12_isBlank cX12_isBlank 5 (some .boolean) ∈ tb := tb_11 (i := 51) rfl rfl
theorem wnX12_isBlank : Cond.instanceMethod yX12_isBlank ∈ tb := tb_11 (i := 50) (by decide +kernel) rfl
theorem wlX12_isBlank : Cond.selects RX12 yX12_isBlank yX12_isBlank ∈ tb := tb_s (i := 127) (by decide +kernel) rfl
theorem YX12_isBlank : Yv yX12_isBlank cX12_isBlank 5 (some .boolean) 2 := ⟨wcX12_isBlank, wlX12_isBlank, wnX12_isBlank, wi_12, by decide +kernel, by decide +kernel, by decide +kernel⟩
abbrev cX12_parts : ByteArray := prog_14_method_90_code
def yX12_parts : MethodName := ⟨RX12, "parts", "(II)I"⟩
theorem wcX12_parts : Cond.code yX12_parts cX12_parts 9 (some .int) ∈ tb := tb_11 (i := 43) rfl rfl
theorem wnX12_parts : Cond.instanceMethod yX12_parts ∈ tb := tb_11 (i := 42) (by decide +kernel) rfl
theorem wlX12_parts : Cond.selects RX12 yX12_parts yX12_parts ∈ tb := tb_s (i := 125) (by decide +kernel) rfl
theorem YX12_parts : Yv yX12_parts cX12_parts 9 (some .int) 2 := ⟨wcX12_parts, wlX12_parts, wnX12_parts, wi_12, by decide +kernel, by decide +kernel, by decide +kernel⟩
abbrev cX12_parted : ByteArray := prog_14_method_91_code
def yX12_parted : MethodName := ⟨RX12, "parted", "(IIII)I"⟩
theorem wcX12_parted : Cond.code yX12_parted cX12_parted 5 (some .int) ∈ tb := tb_11 (i := 47) rfl rfl
theorem wnX12_parted : Cond.instanceMethod yX12_parted ∈ tb := tb_11 (i := 46) (by decide +kernel) rfl
theorem wlX12_parted : Cond.selects RX12 yX12_parted yX12_parted ∈ tb := tb_s (i := 126) (by decide +kernel) rfl
theorem YX12_parted : Yv yX12_parted cX12_parted 5 (some .int) 4 := ⟨wcX12_parted, wlX12_parted, wnX12_parted, wi_12, by decide +kernel, by decide +kernel, by decide +kernel⟩
abbrev cX12_aligns : ByteArray := prog_14_method_92_code
def yX12_aligns : MethodName := ⟨RX12, "aligns", "(II)Z"⟩
theorem wcX12_aligns : Cond.code yX12_aligns cX12_aligns 7 (some .boolean) ∈ tb := tb_11 (i := 55) rfl rfl
theorem wnX12_aligns : Cond.instanceMethod yX12_aligns ∈ tb := tb_11 (i := 54) (by decide +kernel) rfl
theorem wlX12_aligns : Cond.selects RX12 yX12_aligns yX12_aligns ∈ tb := tb_s (i := 128) (by decide +kernel) rfl
theorem YX12_aligns : Yv yX12_aligns cX12_aligns 7 (some .boolean) 2 := ⟨wcX12_aligns, wlX12_aligns, wnX12_aligns, wi_12, by decide +kernel, by decide +kernel, by decide +kernel⟩
abbrev cX12_table : ByteArray := prog_14_method_93_code
def yX12_table : MethodName := ⟨RX12, "table", "(II)V"⟩
theorem wcX12_table : Cond.code yX12_table cX12_table 13 none ∈ tb := tb_11 (i := 35) rfl rfl
theorem wnX12_table : Cond.instanceMethod yX12_table ∈ tb := tb_11 (i := 34) (by decide +kernel) rfl
theorem wlX12_table : Cond.selects RX12 yX12_table yX12_table ∈ tb := tb_s (i := 123) (by decide +kernel) rfl
theorem YX12_table : Yv yX12_table cX12_table 13 none 2 := ⟨wcX12_table, wlX12_table, wnX12_table, wi_12, by decide +kernel, by decide +kernel, by decide +kernel⟩
abbrev cX12_trims : ByteArray := prog_14_method_94_code
def yX12_trims : MethodName := ⟨RX12, "trims", "(II)V"⟩
theorem wcX12_trims : Cond.code yX12_trims cX12_trims 5 none ∈ tb := tb_11 (i := 193) rfl rfl
theorem wnX12_trims : Cond.instanceMethod yX12_trims ∈ tb := tb_11 (i := 192) (by decide +kernel) rfl
theorem wlX12_trims : Cond.selects RX12 yX12_trims yX12_trims ∈ tb := tb_s (i := 161) (by decide +kernel) rfl
theorem YX12_trims : Yv yX12_trims cX12_trims 5 none 2 := ⟨wcX12_trims, wlX12_trims, wnX12_trims, wi_12, by decide +kernel, by decide +kernel, by decide +kernel⟩
abbrev cX12_narrows : ByteArray := prog_14_method_95_code
def yX12_narrows : MethodName := ⟨RX12, "narrows", "(I)V"⟩
theorem wcX12_narrows : Cond.code yX12_narrows cX12_narrows 5 none ∈ tb := tb_11 (i := 197) rfl rfl
theorem wnX12_narrows : Cond.instanceMethod yX12_narrows ∈ tb := tb_11 (i := 196) (by decide +kernel) rfl
theorem wlX12_narrows : Cond.selects RX12 yX12_narrows yX12_narrows ∈ tb := tb_s (i := 162) (by decide +kernel) rfl
theorem YX12_narrows : Yv yX12_narrows cX12_narrows 5 none 1 := ⟨wcX12_narrows, wlX12_narrows, wnX12_narrows, wi_12, by decide +kernel, by decide +kernel, by decide +kernel⟩
abbrev cX12_row : ByteArray := prog_14_method_96_code
def yX12_row : MethodName := ⟨RX12, "row", "(II)V"⟩
theorem wcX12_row : Cond.code yX12_row cX12_row 11 none ∈ tb := tb_11 (i := 201) rfl rfl
theorem wnX12_row : Cond.instanceMethod yX12_row ∈ tb := tb_11 (i := 200) (by decide +kernel) rfl
theorem wlX12_row : Cond.selects RX12 yX12_row yX12_row ∈ tb := tb_s (i := 163) (by decide +kernel) rfl
theorem YX12_row : Yv yX12_row cX12_row 11 none 2 := ⟨wcX12_row, wlX12_row, wnX12_row, wi_12, by decide +kernel, by decide +kernel, by decide +kernel⟩
abbrev cX12_ruled : ByteArray := prog_14_method_97_code
def yX12_ruled : MethodName := ⟨RX12, "ruled", "(I)V"⟩
theorem wcX12_ruled : Cond.code yX12_ruled cX12_ruled 4 none ∈ tb := tb_11 (i := 205) rfl rfl
theorem wnX12_ruled : Cond.instanceMethod yX12_ruled ∈ tb := tb_11 (i := 204) (by decide +kernel) rfl
theorem wlX12_ruled : Cond.selects RX12 yX12_ruled yX12_ruled ∈ tb := tb_s (i := 164) (by decide +kernel) rfl
theorem YX12_ruled : Yv yX12_ruled cX12_ruled 4 none 1 := ⟨wcX12_ruled, wlX12_ruled, wnX12_ruled, wi_12, by decide +kernel, by decide +kernel, by decide +kernel⟩
abbrev cX12_contents : ByteArray := prog_14_method_98_code
def yX12_contents : MethodName := ⟨RX12, "contents", "()Z"⟩
theorem wcX12_contents : Cond.code yX12_contents cX12_contents 8 (some .boolean) ∈ tb := tb_10 (i := 149) rfl rfl
theorem wnX12_contents : Cond.instanceMethod yX12_contents ∈ tb := tb_10 (i := 148) (by decide +kernel) rfl
theorem wlX12_contents : Cond.selects RX12 yX12_contents yX12_contents ∈ tb := tb_s (i := 94) (by decide +kernel) rfl
theorem YX12_contents : Yv yX12_contents cX12_contents 8 (some .boolean) 0 := ⟨wcX12_contents, wlX12_contents, wnX12_contents, wi_12, by decide +kernel, by decide +kernel, by decide +kernel⟩
abbrev cX12_compare : ByteArray := prog_14_method_99_code
def yX12_compare : MethodName := ⟨RX12, "compare", "(II)I"⟩
theorem wcX12_compare : Cond.code yX12_compare cX12_compare 6 (some .int) ∈ tb := tb_10 (i := 192) rfl rfl
theorem wnX12_compare : Cond.instanceMethod yX12_compare ∈ tb := tb_10 (i := 191) (by decide +kernel) rfl
theorem wlX12_compare : Cond.selects RX12 yX12_compare yX12_compare ∈ tb := tb_s (i := 104) (by decide +kernel) rfl
theorem YX12_compare : Yv yX12_compare cX12_compare 6 (some .int) 2 := ⟨wcX12_compare, wlX12_compare, wnX12_compare, wi_12, by decide +kernel, by decide +kernel, by decide +kernel⟩
abbrev cX12_keyBehind : ByteArray := prog_14_method_100_code
def yX12_keyBehind : MethodName := ⟨RX12, "keyBehind", "(II)I"⟩
theorem wcX12_keyBehind : Cond.code yX12_keyBehind cX12_keyBehind 5 (some .int) ∈ tb := tb_10 (i := 188) rfl rfl
theorem wnX12_keyBehind : Cond.instanceMethod yX12_keyBehind ∈ tb := tb_10 (i := 187) (by decide +kernel) rfl
theorem wlX12_keyBehind : Cond.selects RX12 yX12_keyBehind yX12_keyBehind ∈ tb := tb_s (i := 103) (by decide +kernel) rfl
theorem YX12_keyBehind : Yv yX12_keyBehind cX12_keyBehind 5 (some .int) 2 := ⟨wcX12_keyBehind, wlX12_keyBehind, wnX12_keyBehind, wi_12, by decide +kernel, by decide +kernel, by decide +kernel⟩
abbrev cX12_hasPage : ByteArray := prog_14_method_101_code
def yX12_hasPage : MethodName := ⟨RX12, "hasPage", "(III)Z"⟩
theorem wcX12_hasPage : Cond.code yX12_hasPage cX12_hasPage 6 (some .boolean) ∈ tb := tb_10 (i := 203) rfl rfl
theorem wnX12_hasPage : Cond.instanceMethod yX12_hasPage ∈ tb := tb_10 (i := 202) (by decide +kernel) rfl
theorem wlX12_hasPage : Cond.selects RX12 yX12_hasPage yX12_hasPage ∈ tb := tb_s (i := 106) (by decide +kernel) rfl
theorem YX12_hasPage : Yv yX12_hasPage cX12_hasPage 6 (some .boolean) 3 := ⟨wcX12_hasPage, wlX12_hasPage, wnX12_hasPage, wi_12, by decide +kernel, by decide +kernel, by decide +kernel⟩
abbrev cX12_plain : ByteArray := prog_14_method_102_code
def yX12_plain : MethodName := ⟨RX12, "plain", "(I)V"⟩
theorem wcX12_plain : Cond.code yX12_plain cX12_plain 2 none ∈ tb := tb_10 (i := 199) rfl rfl
theorem wnX12_plain : Cond.instanceMethod yX12_plain ∈ tb := tb_10 (i := 198) (by decide +kernel) rfl
theorem wlX12_plain : Cond.selects RX12 yX12_plain yX12_plain ∈ tb := tb_s (i := 105) (by decide +kernel) rfl
theorem YX12_plain : Yv yX12_plain cX12_plain 2 none 1 := ⟨wcX12_plain, wlX12_plain, wnX12_plain, wi_12, by decide +kernel, by decide +kernel, by decide +kernel⟩
abbrev cX12_plainLabel : ByteArray := prog_14_method_103_code
def yX12_plainLabel : MethodName := ⟨RX12, "plainLabel", "(I)V"⟩
theorem wcX12_plainLabel : Cond.code yX12_plainLabel cX12_plainLabel 3 none ∈ tb := tb_10 (i := 207) rfl rfl
theorem wnX12_plainLabel : Cond.instanceMethod yX12_plainLabel ∈ tb := tb_10 (i := 206) (by decide +kernel) rfl
theorem wlX12_plainLabel : Cond.selects RX12 yX12_plainLabel yX12_plainLabel ∈ tb := tb_s (i := 107) (by decide +kernel) rfl
theorem YX12_plainLabel : Yv yX12_plainLabel cX12_plainLabel 3 none 1 := ⟨wcX12_plainLabel, wlX12_plainLabel, wnX12_plainLabel, wi_12, by decide +kernel, by decide +kernel, by decide +kernel⟩
abbrev cX12_register : ByteArray := prog_14_method_104_code
def yX12_register : MethodName := ⟨RX12, "register", "()Z"⟩
theorem wcX12_register : Cond.code yX12_register cX12_register 6 (some .boolean) ∈ tb := tb_10 (i := 184) rfl rfl
theorem wnX12_register : Cond.instanceMethod yX12_register ∈ tb := tb_10 (i := 183) (by decide +kernel) rfl
theorem wlX12_register : Cond.selects RX12 yX12_register yX12_register ∈ tb := tb_s (i := 102) (by decide +kernel) rfl
theorem YX12_register : Yv yX12_register cX12_register 6 (some .boolean) 0 := ⟨wcX12_register, wlX12_register, wnX12_register, wi_12, by decide +kernel, by decide +kernel, by decide +kernel⟩
abbrev cX12_lineEnd : ByteArray := prog_14_method_105_code
def yX12_lineEnd : MethodName := ⟨RX12, "lineEnd", "(I)I"⟩
theorem wcX12_lineEnd : Cond.code yX12_lineEnd cX12_lineEnd 3 (some .int) ∈ tb := tb_10 (i := 70) rfl rfl
theorem wnX12_lineEnd : Cond.instanceMethod yX12_lineEnd ∈ tb := tb_10 (i := 69) (by decide +kernel) rfl
theorem wlX12_lineEnd : Cond.selects RX12 yX12_lineEnd yX12_lineEnd ∈ tb := tb_s (i := 81) (by decide +kernel) rfl
theorem YX12_lineEnd : Yv yX12_lineEnd cX12_lineEnd 3 (some .int) 1 := ⟨wcX12_lineEnd, wlX12_lineEnd, wnX12_lineEnd, wi_12, by decide +kernel, by decide +kernel, by decide +kernel⟩
abbrev cX12_splits : ByteArray := prog_14_method_106_code
def yX12_splits : MethodName := ⟨RX12, "splits", "()V"⟩
theorem wcX12_splits : Cond.code yX12_splits cX12_splits 2 none ∈ tb := tb_10 (i := 48) rfl rfl
theorem wnX12_splits : Cond.instanceMethod yX12_splits ∈ tb := tb_10 (i := 47) (by decide +kernel) rfl
theorem wlX12_splits : Cond.selects RX12 yX12_splits yX12_splits ∈ tb := tb_s (i := 76) (by decide +kernel) rfl
theorem YX12_splits : Yv yX12_splits cX12_splits 2 none 0 := ⟨wcX12_splits, wlX12_splits, wnX12_splits, wi_12, by decide +kernel, by decide +kernel, by decide +kernel⟩
abbrev cX12_kindOf : ByteArray := prog_14_method_107_code
def yX12_kindOf : MethodName := ⟨RX12, "kindOf", "(I)I"⟩
theorem wcX12_kindOf : Cond.code yX12_kindOf cX12_kindOf 6 (some .int) ∈ tb := tb_10 (i := 66) rfl rfl
theorem wnX12_kindOf : Cond.instanceMethod yX12_kindOf ∈ tb := tb_10 (i := 65) (by decide +kernel) rfl
theorem wlX12_kindOf : Cond.selects RX12 yX12_kindOf yX12_kindOf ∈ tb := tb_s (i := 80) (by decide +kernel) rfl
theorem YX12_kindOf : Yv yX12_kindOf cX12_kindOf 6 (some .int) 1 := ⟨wcX12_kindOf, wlX12_kindOf, wnX12_kindOf, wi_12, by decide +kernel, by decide +kernel, by decide +kernel⟩
abbrev cX12_round : ByteArray := prog_14_method_108_code
def yX12_round : MethodName := ⟨RX12, "round", "()V"⟩
theorem wcX12_round : Cond.code yX12_round cX12_round 5 none ∈ tb := tb_10 (i := 52) rfl rfl
theorem wnX12_round : Cond.instanceMethod yX12_round ∈ tb := tb_10 (i := 51) (by decide +kernel) rfl
theorem wlX12_round : Cond.selects RX12 yX12_round yX12_round ∈ tb := tb_s (i := 77) (by decide +kernel) rfl
theorem YX12_round : Yv yX12_round cX12_round 5 none 0 := ⟨wcX12_round, wlX12_round, wnX12_round, wi_12, by decide +kernel, by decide +kernel, by decide +kernel⟩
abbrev cX12_block : ByteArray := prog_14_method_109_code
def yX12_block : MethodName := ⟨RX12, "block", "(IIIZ)V"⟩
theorem wcX12_block : Cond.code yX12_block cX12_block 8 none ∈ tb := tb_10 (i := 74) rfl rfl
theorem wnX12_block : Cond.instanceMethod yX12_block ∈ tb := tb_10 (i := 73) (by decide +kernel) rfl
theorem wlX12_block : Cond.selects RX12 yX12_block yX12_block ∈ tb := tb_s (i := 82) (by decide +kernel) rfl
theorem YX12_block : Yv yX12_block cX12_block 8 none 4 := ⟨wcX12_block, wlX12_block, wnX12_block, wi_12, by decide +kernel, by decide +kernel, by decide +kernel⟩
abbrev cX12_lay : ByteArray := prog_14_method_110_code
def yX12_lay : MethodName := ⟨RX12, "lay", "()V"⟩
theorem wcX12_lay : Cond.code yX12_lay cX12_lay 10 none ∈ tb := tb_11 (i := 237) rfl rfl
theorem wnX12_lay : Cond.instanceMethod yX12_lay ∈ tb := tb_11 (i := 236) (by decide +kernel) rfl
theorem wlX12_lay : Cond.selects RX12 yX12_lay yX12_lay ∈ tb := tb_s (i := 172) (by decide +kernel) rfl
theorem YX12_lay : Yv yX12_lay cX12_lay 10 none 0 := ⟨wcX12_lay, wlX12_lay, wnX12_lay, wi_12, by decide +kernel, by decide +kernel, by decide +kernel⟩
abbrev cX12_noteLines : ByteArray := prog_14_method_111_code
def yX12_noteLines : MethodName := ⟨RX12, "noteLines", "(I)I"⟩
theorem wcX12_noteLines : Cond.code yX12_noteLines cX12_noteLines 4 (some .int) ∈ tb := tb_12 (i := 1) rfl rfl
theorem wnX12_noteLines : Cond.instanceMethod yX12_noteLines ∈ tb := tb_12 (i := 0) (by decide +kernel) rfl
theorem wlX12_noteLines : Cond.selects RX12 yX12_noteLines yX12_noteLines ∈ tb := tb_s (i := 173) (by decide +kernel) rfl
theorem YX12_noteLines : Yv yX12_noteLines cX12_noteLines 4 (some .int) 1 := ⟨wcX12_noteLines, wlX12_noteLines, wnX12_noteLines, wi_12, by decide +kernel, by decide +kernel, by decide +kernel⟩
abbrev cX12_proofLine : ByteArray := prog_14_method_112_code
def yX12_proofLine : MethodName := ⟨RX12, "proofLine", "(IZ)V"⟩
theorem wcX12_proofLine : Cond.code yX12_proofLine cX12_proofLine 3 none ∈ tb := tb_12 (i := 14) rfl rfl
theorem wnX12_proofLine : Cond.instanceMethod yX12_proofLine ∈ tb := tb_12 (i := 13) (by decide +kernel) rfl
theorem wlX12_proofLine : Cond.selects RX12 yX12_proofLine yX12_proofLine ∈ tb := tb_s (i := 176) (by decide +kernel) rfl
theorem YX12_proofLine : Yv yX12_proofLine cX12_proofLine 3 none 2 := ⟨wcX12_proofLine, wlX12_proofLine, wnX12_proofLine, wi_12, by decide +kernel, by decide +kernel, by decide +kernel⟩
abbrev cX12_proofSign : ByteArray := prog_14_method_113_code
def yX12_proofSign : MethodName := ⟨RX12, "proofSign", "(II)V"⟩
theorem wcX12_proofSign : Cond.code yX12_proofSign cX12_proofSign 3 none ∈ tb := tb_12 (i := 18) rfl rfl
theorem wnX12_proofSign : Cond.instanceMethod yX12_proofSign ∈ tb := tb_12 (i := 17) (by decide +kernel) rfl
theorem wlX12_proofSign : Cond.selects RX12 yX12_proofSign yX12_proofSign ∈ tb := tb_s (i := 177) (by decide +kernel) rfl
theorem YX12_proofSign : Yv yX12_proofSign cX12_proofSign 3 none 2 := ⟨wcX12_proofSign, wlX12_proofSign, wnX12_proofSign, wi_12, by decide +kernel, by decide +kernel, by decide +kernel⟩
abbrev cX12_proofCopy : ByteArray := prog_14_method_114_code
def yX12_proofCopy : MethodName := ⟨RX12, "proofCopy", "(I)V"⟩
theorem wcX12_proofCopy : Cond.code yX12_proofCopy cX12_proofCopy 3 none ∈ tb := tb_12 (i := 22) rfl rfl
theorem wnX12_proofCopy : Cond.instanceMethod yX12_proofCopy ∈ tb := tb_12 (i := 21) (by decide +kernel) rfl
theorem wlX12_proofCopy : Cond.selects RX12 yX12_proofCopy yX12_proofCopy ∈ tb := tb_s (i := 178) (by decide +kernel) rfl
theorem YX12_proofCopy : Yv yX12_proofCopy cX12_proofCopy 3 none 1 := ⟨wcX12_proofCopy, wlX12_proofCopy, wnX12_proofCopy, wi_12, by decide +kernel, by decide +kernel, by decide +kernel⟩
abbrev cX12_page : ByteArray := prog_14_method_115_code
def yX12_page : MethodName := ⟨RX12, "page", "(III)V"⟩
theorem wcX12_page : Cond.code yX12_page cX12_page 11 none ∈ tb := tb_12 (i := 6) rfl rfl
theorem wnX12_page : Cond.instanceMethod yX12_page ∈ tb := tb_12 (i := 5) (by decide +kernel) rfl
theorem wlX12_page : Cond.selects RX12 yX12_page yX12_page ∈ tb := tb_s (i := 174) (by decide +kernel) rfl
theorem YX12_page : Yv yX12_page cX12_page 11 none 3 := ⟨wcX12_page, wlX12_page, wnX12_page, wi_12, by decide +kernel, by decide +kernel, by decide +kernel⟩
abbrev cX12_head : ByteArray := prog_14_method_116_code
def yX12_head : MethodName := ⟨RX12, "head", "(I)V"⟩
theorem wcX12_head : Cond.code yX12_head cX12_head 6 none ∈ tb := tb_12 (i := 10) rfl rfl
theorem wnX12_head : Cond.instanceMethod yX12_head ∈ tb := tb_12 (i := 9) (by decide +kernel) rfl
theorem wlX12_head : Cond.selects RX12 yX12_head yX12_head ∈ tb := tb_s (i := 175) (by decide +kernel) rfl
theorem YX12_head : Yv yX12_head cX12_head 6 none 1 := ⟨wcX12_head, wlX12_head, wnX12_head, wi_12, by decide +kernel, by decide +kernel, by decide +kernel⟩
abbrev cX12_areSettled : ByteArray := prog_14_method_117_code
def yX12_areSettled : MethodName := ⟨RX12, "areSettled", "()Z"⟩
theorem wcX12_areSettled : Cond.code yX12_areSettled cX12_areSettled 5 (some .boolean) ∈ tb := tb_12 (i := 26) rfl rfl
theorem wnX12_areSettled : Cond.instanceMethod yX12_areSettled ∈ tb := tb_12 (i := 25) (by decide +kernel) rfl
theorem wlX12_areSettled : Cond.selects RX12 yX12_areSettled yX12_areSettled ∈ tb := tb_s (i := 179) (by decide +kernel) rfl
theorem YX12_areSettled : Yv yX12_areSettled cX12_areSettled 5 (some .boolean) 0 := ⟨wcX12_areSettled, wlX12_areSettled, wnX12_areSettled, wi_12, by decide +kernel, by decide +kernel, by decide +kernel⟩
abbrev cX12_areSame : ByteArray := prog_14_method_118_code
def yX12_areSame : MethodName := ⟨RX12, "areSame", "([BIIII)Z"⟩
theorem wcX12_areSame : Cond.code yX12_areSame cX12_areSame 7 (some .boolean) ∈ tb := tb_12 (i := 29) rfl rfl
theorem wsX12_areSame : Cond.static yX12_areSame ∈ tb := tb_12 (i := 28) (by decide +kernel) rfl
theorem YX12_areSame : Ys yX12_areSame cX12_areSame 7 (some .boolean) 5 := ⟨wcX12_areSame, wsX12_areSame, wi_12, by decide +kernel, by decide +kernel, by decide +kernel⟩
abbrev cX12_set : ByteArray := prog_14_method_119_code
def yX12_set : MethodName := ⟨RX12, "set", "()I"⟩
theorem wcX12_set : Cond.code yX12_set cX12_set 2 (some .int) ∈ tb := tb_10 (i := 44) rfl rfl
theorem wnX12_set : Cond.instanceMethod yX12_set ∈ tb := tb_10 (i := 42) (by decide +kernel) rfl
theorem wlX12_set : Cond.selects RX12 yX12_set yX12_set ∈ tb := tb_10 (i := 43) (by decide +kernel) rfl
theorem YX12_set : Yv yX12_set cX12_set 2 (some .int) 0 := ⟨wcX12_set, wlX12_set, wnX12_set, wi_12, by decide +kernel, by decide +kernel, by decide +kernel⟩
abbrev cX12_feed : ByteArray := prog_14_method_120_code
def yX12_feed : MethodName := ⟨RX12, "feed", "(JJJ)I"⟩
theorem wcX12_feed : Cond.code yX12_feed cX12_feed 11 (some .int) ∈ tb := tb_12 (i := 33) rfl rfl
theorem wnX12_feed : Cond.instanceMethod yX12_feed ∈ tb := tb_12 (i := 31) (by decide +kernel) rfl
theorem wlX12_feed : Cond.selects RX12 yX12_feed yX12_feed ∈ tb := tb_12 (i := 32) (by decide +kernel) rfl
theorem YX12_feed : Yv yX12_feed cX12_feed 11 (some .int) 3 := ⟨wcX12_feed, wlX12_feed, wnX12_feed, wi_12, by decide +kernel, by decide +kernel, by decide +kernel⟩
abbrev cX12_linesOf : ByteArray := prog_14_method_121_code
def yX12_linesOf : MethodName := ⟨RX12, "linesOf", "()I"⟩
theorem wcX12_linesOf : Cond.code yX12_linesOf cX12_linesOf 3 (some .int) ∈ tb := tb_12 (i := 45) rfl rfl
theorem wnX12_linesOf : Cond.instanceMethod yX12_linesOf ∈ tb := tb_12 (i := 44) (by decide +kernel) rfl
theorem wlX12_linesOf : Cond.selects RX12 yX12_linesOf yX12_linesOf ∈ tb := tb_s (i := 181) (by decide +kernel) rfl
theorem YX12_linesOf : Yv yX12_linesOf cX12_linesOf 3 (some .int) 0 := ⟨wcX12_linesOf, wlX12_linesOf, wnX12_linesOf, wi_12, by decide +kernel, by decide +kernel, by decide +kernel⟩
abbrev cX12_remembers : ByteArray := prog_14_method_122_code
def yX12_remembers : MethodName := ⟨RX12, "remembers", "()V"⟩
theorem wcX12_remembers : Cond.code yX12_remembers cX12_remembers 2 none ∈ tb := tb_12 (i := 41) rfl rfl
theorem wnX12_remembers : Cond.instanceMethod yX12_remembers ∈ tb := tb_12 (i := 40) (by decide +kernel) rfl
theorem wlX12_remembers : Cond.selects RX12 yX12_remembers yX12_remembers ∈ tb := tb_s (i := 180) (by decide +kernel) rfl
theorem YX12_remembers : Yv yX12_remembers cX12_remembers 2 none 0 := ⟨wcX12_remembers, wlX12_remembers, wnX12_remembers, wi_12, by decide +kernel, by decide +kernel, by decide +kernel⟩
abbrev cX12_write : ByteArray := prog_14_method_123_code
def yX12_write : MethodName := ⟨RX12, "write", "()I"⟩
theorem wcX12_write : Cond.code yX12_write cX12_write 2 (some .int) ∈ tb := tb_12 (i := 37) rfl rfl
theorem wnX12_write : Cond.instanceMethod yX12_write ∈ tb := tb_12 (i := 35) (by decide +kernel) rfl
theorem wlX12_write : Cond.selects RX12 yX12_write yX12_write ∈ tb := tb_12 (i := 36) (by decide +kernel) rfl
theorem YX12_write : Yv yX12_write cX12_write 2 (some .int) 0 := ⟨wcX12_write, wlX12_write, wnX12_write, wi_12, by decide +kernel, by decide +kernel, by decide +kernel⟩
abbrev cX12_spendsEver : ByteArray := prog_14_method_124_code
def yX12_spendsEver : MethodName := ⟨RX12, "spendsEver", "(I)Z"⟩
theorem wcX12_spendsEver : Cond.code yX12_spendsEver cX12_spendsEver 2 (some .boolean) ∈ tb := tb_12 (i := 53) rfl rfl
theorem wnX12_spendsEver : Cond.instanceMethod yX12_spendsEver ∈ tb := tb_12 (i := 52) (by decide +kernel) rfl
theorem wlX12_spendsEver : Cond.selects RX12 yX12_spendsEver yX12_spendsEver ∈ tb := tb_s (i := 182) (by decide +kernel) rfl
theorem YX12_spendsEver : Yv yX12_spendsEver cX12_spendsEver 2 (some .boolean) 1 := ⟨wcX12_spendsEver, wlX12_spendsEver, wnX12_spendsEver, wi_12, by decide +kernel, by decide +kernel, by decide +kernel⟩
abbrev cX12_add : ByteArray := prog_14_method_125_code
def yX12_add : MethodName := ⟨RX12, "add", "()I"⟩
theorem wcX12_add : Cond.code yX12_add cX12_add 3 (some .int) ∈ tb := tb_12 (i := 49) rfl rfl
theorem wnX12_add : Cond.instanceMethod yX12_add ∈ tb := tb_12 (i := 47) (by decide +kernel) rfl
theorem wlX12_add : Cond.selects RX12 yX12_add yX12_add ∈ tb := tb_12 (i := 48) (by decide +kernel) rfl
theorem YX12_add : Yv yX12_add cX12_add 3 (some .int) 0 := ⟨wcX12_add, wlX12_add, wnX12_add, wi_12, by decide +kernel, by decide +kernel, by decide +kernel⟩
abbrev cX12_isInWord : ByteArray := prog_14_method_126_code
def yX12_isInWord : MethodName := ⟨RX12, "isInWord", "(I)Z"⟩
theorem wcX12_isInWord : Cond.code yX12_isInWord cX12_isInWord 2 (some .boolean) ∈ tb := tb_12 (i := 65) rfl rfl
