/-! x's cells and what stays: only arrays of rows move -/
def rowArr (z : Nat) : Bool := xRows.any (fun q => decide (z = q + 1))
def FrX (N : Nat) (ad : Nat → Nat) (cl : Nat → va_E) (ad' : Nat → Nat) (cl' : Nat → va_E) : Prop := (∀ z, z < N → rowArr z = false → ad' z = ad z) ∧ ∀ z, z < N → 246 ≤ z → cl' z = cl z
theorem FrX.rf {N : Nat} {ad : Nat → Nat} {cl : Nat → va_E} : FrX N ad cl ad cl := ⟨fun _ _ _ => rfl, fun _ _ _ => rfl⟩
theorem FrX.tr {N : Nat} {ad ad1 ad2 : Nat → Nat} {cl cl1 cl2 : Nat → va_E} (h : FrX N ad cl ad1 cl1) (h' : FrX N ad1 cl1 ad2 cl2) : FrX N ad cl ad2 cl2 := ⟨fun z h0 hk => (h'.1 z h0 hk).trans (h.1 z h0 hk), fun z h0 h1 => (h'.2 z h0 h1).trans (h.2 z h0 h1)⟩
theorem FrX.of {N q : Nat} {ad ad' : Nat → Nat} {cl cl' : Nat → va_E} (hq : q ∈ xRows) (h : FrR N q ad cl ad' cl') : FrX N ad cl ad' cl' := by
  have ok := okRow hq
  simp only [okRowB, Bool.and_eq_true, decide_eq_true_eq] at ok
  refine ⟨fun z hz hr => h.1 z hz (fun e => ?_), fun z hz h2 => h.2 z hz (by omega) (by omega)⟩
  have : rowArr z = true := List.any_eq_true.mpr ⟨q, hq, by simp [e]⟩
  rw [hr] at this
  cases this
theorem FrX.put {N z : Nat} {ad : Nat → Nat} {cl : Nat → va_E} {e : va_E} (hz : z < 246) : FrX N ad cl ad (va_up cl z e) := ⟨fun _ _ _ => rfl, fun k _ hk => va_up_ne _ _ (by omega)⟩
section
variable {p : Program} {l : Launch} {e : Env} {R : Room} {s : State} {m : MethodId} {args : Array Value} {below : List Frame} {meth : Method} {c : Code} {H : Heap} {locs : List Loc} {cells slots : Nat} {Q : State → Prop} {pc : Nat} {ls : Array Slot} {rest : List Value}
variable {cc : ByteArray} {nL : Nat} {own : String} {D : va_G} {G : Nat → ClassId} {t : Nat → Nat} {A : Nat → Prop} {N : Nat} {ad : Nat → Nat} {cl : Nat → va_E} {cp : Nat → Nat} {xs : Nat → List Int32} {v : Nat → Nat → Int32} {g : Nat → Nat → Int32} {nb : Nat → Nat}
theorem x_puti (X : Cx p s m args meth c cc nL own D G t A) (w : Wd D A s H locs N ad cl) (Wx : XW G N ad cl cp xs v g nb) {z ci Nf : Nat} {fs : List FS} (hm : (z, ci, fs) ∈ xObjs) (hz : z < 246) {a : Nat} (ha : ad z = a) {C : String} {T : u_T} {ty : Nat → FieldType} (kc : Kc ci C T Nf ty) (k : Nat) (hkN : k < Nf) (hT : (T k).1 = C) {idx : Nat} (hl : Cond.fieldLink own idx C (T k).2.1 (T k).2.2.1 ∈ tb) (hfin : (T k).2.2.2 = false) {x : Int32} (hn : narrow (ty k) (.int x) = .int x) (hfit : fits (ty k) (.int x) = true) (hk : fs[k]? = some (.inr (.inl ()))) (hdg : decode cc pc = .ok (.putfield idx, 3))
    (kk : ∀ (H : Heap) (locs : List Loc) (cl' : Nat → va_E), Wd D A s H locs N ad cl' → XW G N ad cl' cp xs (vset v z k x) g nb → FrX N ad cl ad cl' → W p l e R s m args below meth c H locs cells slots Q (F0 m (pc + 3) ls rest)) : W p l e R s m args below meth c H locs cells slots Q (F0 m pc ls (.int x :: .ref a :: rest)) :=
  g_put X w z ha (by have := Wx.1; omega) (Wx.o hm) kc k hkN hT hl hfin hn hfit (by rw [fmap_len]; exact (List.getElem?_eq_some_iff.mp hk).1) hdg (fun H locs w => kk H locs _ w (Wx.int hm k hk x) (FrX.put hz))
theorem x_putiN (X : Cx p s m args meth c cc nL own D G t A) (w : Wd D A s H locs N ad cl) (Wx : XW G N ad cl cp xs v g nb) {z ci Nf : Nat} {fs : List FS} (hm : (z, ci, fs) ∈ xObjs) (hz : z < 246) {a : Nat} (ha : ad z = a) {C host : String} {T : u_T} {ty : Nat → FieldType} (kc : Kc ci C T Nf ty) (k : Nat) (hkN : k < Nf) (hT : (T k).1 = C) {idx : Nat} (hl : Cond.fieldLinkNest own idx C (T k).2.1 (T k).2.2.1 host ∈ tables_1) (hfin : (T k).2.2.2 = false) {x : Int32} (hn : narrow (ty k) (.int x) = .int x) (hfit : fits (ty k) (.int x) = true) (hk : fs[k]? = some (.inr (.inl ()))) (hdg : decode cc pc = .ok (.putfield idx, 3))
    (kk : ∀ (H : Heap) (locs : List Loc) (cl' : Nat → va_E), Wd D A s H locs N ad cl' → XW G N ad cl' cp xs (vset v z k x) g nb → FrX N ad cl ad cl' → W p l e R s m args below meth c H locs cells slots Q (F0 m (pc + 3) ls rest)) : W p l e R s m args below meth c H locs cells slots Q (F0 m pc ls (.int x :: .ref a :: rest)) :=
  g_putN X w z ha (by have := Wx.1; omega) (Wx.o hm) kc k hkN hT hl hfin hn hfit (by rw [fmap_len]; exact (List.getElem?_eq_some_iff.mp hk).1) hdg (fun H locs w => kk H locs _ w (Wx.int hm k hk x) (FrX.put hz))
theorem lv_eqr {a b : Nat} (h : a = b) (k : W p l e R s m args below meth c H locs cells slots Q (F0 m pc ls (.ref b :: rest))) : W p l e R s m args below meth c H locs cells slots Q (F0 m pc ls (.ref a :: rest)) := by rw [h]; exact k
end
/-- rows that are emptied -/
def clr (xs : Nat → List Int32) (L : List Nat) : Nat → List Int32 := fun q => if q ∈ L then [] else xs q
theorem va_up_id {α : Type} (f : Nat → α) (k : Nat) : va_up f k (f k) = f := by
  funext j
  by_cases h : j = k
  · subst h; rw [va_up_self]
  · rw [va_up_ne _ _ h]
theorem clr_up (xs : Nat → List Int32) (L : List Nat) (q : Nat) : va_up (clr xs L) q [] = clr xs (q :: L) := by
  funext j
  by_cases h : j = q
  · subst h; rw [va_up_self, clr, if_pos List.mem_cons_self]
  · rw [va_up_ne _ _ h, clr, clr]
    by_cases hL : j ∈ L
    · rw [if_pos hL, if_pos (List.mem_cons_of_mem _ hL)]
    · rw [if_neg hL, if_neg (fun hm => (List.mem_cons.mp hm).elim h hL)]
theorem clr_clr (xs : Nat → List Int32) (L M : List Nat) : clr (clr xs L) M = clr xs (M ++ L) := by
  funext j
  simp only [clr, List.mem_append]
  by_cases hM : j ∈ M
  · rw [if_pos hM, if_pos (Or.inl hM)]
  · rw [if_neg hM]
    by_cases hL : j ∈ L
    · rw [if_pos hL, if_pos (Or.inr hL)]
    · rw [if_neg hL, if_neg (fun h => h.elim hM hL)]
theorem clr_nil (xs : Nat → List Int32) : clr xs [] = xs := by funext j; rw [clr, if_neg List.not_mem_nil]
abbrev cX8_clear : ByteArray := prog_10_method_2_code
def yX8_clear : MethodName := ⟨RX8, "clear", "()V"⟩
theorem wcX8_clear : Cond.code yX8_clear cX8_clear 1 none ∈ tb := tb_3 (i := 238) rfl rfl
theorem wnX8_clear : Cond.instanceMethod yX8_clear ∈ tb := tb_3 (i := 236) (by decide +kernel) rfl
theorem wlX8_clear : Cond.selects RX8 yX8_clear yX8_clear ∈ tb := tb_3 (i := 237) (by decide +kernel) rfl
theorem YX8_clear : Yv yX8_clear cX8_clear 1 none 0 := ⟨wcX8_clear, wlX8_clear, wnX8_clear, wi_8, by decide +kernel, by decide +kernel, by decide +kernel⟩
theorem dX8_clear_0 : decode cX8_clear 0 = .ok (.aload_n 0, 1) := by decide +kernel
theorem dX8_clear_1 : decode cX8_clear 1 = .ok (.getfield 12, 3) := by decide +kernel
theorem dX8_clear_4 : decode cX8_clear 4 = .ok (.invokevirtual 21, 3) := by decide +kernel
theorem dX8_clear_7 : decode cX8_clear 7 = .ok (.aload_n 0, 1) := by decide +kernel
theorem dX8_clear_8 : decode cX8_clear 8 = .ok (.getfield 18, 3) := by decide +kernel
theorem dX8_clear_11 : decode cX8_clear 11 = .ok (.invokevirtual 21, 3) := by decide +kernel
theorem dX8_clear_14 : decode cX8_clear 14 = .ok (.return_, 1) := by decide +kernel
theorem k_RX8_21 : Cond.methodLink RX8 21 yX5_clear ∈ tb := tb_3 (i := 239) (by decide +kernel) rfl
abbrev cX2_clear : ByteArray := prog_4_method_2_code
def yX2_clear : MethodName := ⟨RX2, "clear", "()V"⟩
theorem wcX2_clear : Cond.code yX2_clear cX2_clear 1 none ∈ tb := tb_4 (i := 19) rfl rfl
theorem wnX2_clear : Cond.instanceMethod yX2_clear ∈ tb := tb_4 (i := 17) (by decide +kernel) rfl
theorem wlX2_clear : Cond.selects RX2 yX2_clear yX2_clear ∈ tb := tb_4 (i := 18) (by decide +kernel) rfl
theorem YX2_clear : Yv yX2_clear cX2_clear 1 none 0 := ⟨wcX2_clear, wlX2_clear, wnX2_clear, wi_2, by decide +kernel, by decide +kernel, by decide +kernel⟩
theorem dX2_clear_0 : decode cX2_clear 0 = .ok (.aload_n 0, 1) := by decide +kernel
theorem dX2_clear_1 : decode cX2_clear 1 = .ok (.getfield 12, 3) := by decide +kernel
theorem dX2_clear_4 : decode cX2_clear 4 = .ok (.invokevirtual 55, 3) := by decide +kernel
theorem dX2_clear_7 : decode cX2_clear 7 = .ok (.aload_n 0, 1) := by decide +kernel
theorem dX2_clear_8 : decode cX2_clear 8 = .ok (.getfield 18, 3) := by decide +kernel
theorem dX2_clear_11 : decode cX2_clear 11 = .ok (.invokevirtual 55, 3) := by decide +kernel
theorem dX2_clear_14 : decode cX2_clear 14 = .ok (.aload_n 0, 1) := by decide +kernel
theorem dX2_clear_15 : decode cX2_clear 15 = .ok (.getfield 24, 3) := by decide +kernel
theorem dX2_clear_18 : decode cX2_clear 18 = .ok (.invokevirtual 58, 3) := by decide +kernel
theorem dX2_clear_21 : decode cX2_clear 21 = .ok (.aload_n 0, 1) := by decide +kernel
theorem dX2_clear_22 : decode cX2_clear 22 = .ok (.getfield 28, 3) := by decide +kernel
theorem dX2_clear_25 : decode cX2_clear 25 = .ok (.invokevirtual 55, 3) := by decide +kernel
theorem dX2_clear_28 : decode cX2_clear 28 = .ok (.aload_n 0, 1) := by decide +kernel
theorem dX2_clear_29 : decode cX2_clear 29 = .ok (.getfield 31, 3) := by decide +kernel
theorem dX2_clear_32 : decode cX2_clear 32 = .ok (.invokevirtual 58, 3) := by decide +kernel
theorem dX2_clear_35 : decode cX2_clear 35 = .ok (.aload_n 0, 1) := by decide +kernel
theorem dX2_clear_36 : decode cX2_clear 36 = .ok (.getfield 34, 3) := by decide +kernel
theorem dX2_clear_39 : decode cX2_clear 39 = .ok (.invokevirtual 58, 3) := by decide +kernel
theorem dX2_clear_42 : decode cX2_clear 42 = .ok (.aload_n 0, 1) := by decide +kernel
theorem dX2_clear_43 : decode cX2_clear 43 = .ok (.getfield 37, 3) := by decide +kernel
theorem dX2_clear_46 : decode cX2_clear 46 = .ok (.invokevirtual 58, 3) := by decide +kernel
theorem dX2_clear_49 : decode cX2_clear 49 = .ok (.aload_n 0, 1) := by decide +kernel
theorem dX2_clear_50 : decode cX2_clear 50 = .ok (.getfield 40, 3) := by decide +kernel
theorem dX2_clear_53 : decode cX2_clear 53 = .ok (.invokevirtual 55, 3) := by decide +kernel
theorem dX2_clear_56 : decode cX2_clear 56 = .ok (.aload_n 0, 1) := by decide +kernel
theorem dX2_clear_57 : decode cX2_clear 57 = .ok (.getfield 43, 3) := by decide +kernel
theorem dX2_clear_60 : decode cX2_clear 60 = .ok (.invokevirtual 58, 3) := by decide +kernel
theorem dX2_clear_63 : decode cX2_clear 63 = .ok (.aload_n 0, 1) := by decide +kernel
theorem dX2_clear_64 : decode cX2_clear 64 = .ok (.getfield 52, 3) := by decide +kernel
theorem dX2_clear_67 : decode cX2_clear 67 = .ok (.invokevirtual 58, 3) := by decide +kernel
theorem dX2_clear_70 : decode cX2_clear 70 = .ok (.aload_n 0, 1) := by decide +kernel
theorem dX2_clear_71 : decode cX2_clear 71 = .ok (.iconst 0, 1) := by decide +kernel
theorem dX2_clear_72 : decode cX2_clear 72 = .ok (.putfield 59, 3) := by decide +kernel
theorem dX2_clear_75 : decode cX2_clear 75 = .ok (.aload_n 0, 1) := by decide +kernel
theorem dX2_clear_76 : decode cX2_clear 76 = .ok (.iconst 0, 1) := by decide +kernel
theorem dX2_clear_77 : decode cX2_clear 77 = .ok (.putfield 63, 3) := by decide +kernel
theorem dX2_clear_80 : decode cX2_clear 80 = .ok (.return_, 1) := by decide +kernel
theorem k_RX2_55 : Cond.methodLink RX2 55 yX8_clear ∈ tb := tb_4 (i := 20) (by decide +kernel) rfl
theorem k_RX2_58 : Cond.methodLink RX2 58 yX5_clear ∈ tb := tb_4 (i := 21) (by decide +kernel) rfl
theorem k_RX2_59 : Cond.fieldLink RX2 59 RX2 "notes" "I" ∈ tb := tb_1 (i := 193) (by decide +kernel) rfl
theorem k_RX2_63 : Cond.fieldLink RX2 63 RX2 "unknown" "I" ∈ tb := tb_1 (i := 197) (by decide +kernel) rfl
abbrev cX1_clear : ByteArray := prog_3_method_2_code
def yX1_clear : MethodName := ⟨RX1, "clear", "()V"⟩
theorem wcX1_clear : Cond.code yX1_clear cX1_clear 1 none ∈ tb := tb_4 (i := 39) rfl rfl
theorem wnX1_clear : Cond.instanceMethod yX1_clear ∈ tb := tb_4 (i := 37) (by decide +kernel) rfl
theorem wlX1_clear : Cond.selects RX1 yX1_clear yX1_clear ∈ tb := tb_4 (i := 38) (by decide +kernel) rfl
theorem YX1_clear : Yv yX1_clear cX1_clear 1 none 0 := ⟨wcX1_clear, wlX1_clear, wnX1_clear, wi_1, by decide +kernel, by decide +kernel, by decide +kernel⟩
theorem dX1_clear_0 : decode cX1_clear 0 = .ok (.aload_n 0, 1) := by decide +kernel
theorem dX1_clear_1 : decode cX1_clear 1 = .ok (.getfield 18, 3) := by decide +kernel
theorem dX1_clear_4 : decode cX1_clear 4 = .ok (.invokevirtual 50, 3) := by decide +kernel
theorem dX1_clear_7 : decode cX1_clear 7 = .ok (.aload_n 0, 1) := by decide +kernel
theorem dX1_clear_8 : decode cX1_clear 8 = .ok (.getfield 25, 3) := by decide +kernel
theorem dX1_clear_11 : decode cX1_clear 11 = .ok (.invokevirtual 53, 3) := by decide +kernel
theorem dX1_clear_14 : decode cX1_clear 14 = .ok (.aload_n 0, 1) := by decide +kernel
theorem dX1_clear_15 : decode cX1_clear 15 = .ok (.getfield 29, 3) := by decide +kernel
theorem dX1_clear_18 : decode cX1_clear 18 = .ok (.invokevirtual 53, 3) := by decide +kernel
theorem dX1_clear_21 : decode cX1_clear 21 = .ok (.aload_n 0, 1) := by decide +kernel
theorem dX1_clear_22 : decode cX1_clear 22 = .ok (.getfield 32, 3) := by decide +kernel
theorem dX1_clear_25 : decode cX1_clear 25 = .ok (.invokevirtual 53, 3) := by decide +kernel
theorem dX1_clear_28 : decode cX1_clear 28 = .ok (.aload_n 0, 1) := by decide +kernel
theorem dX1_clear_29 : decode cX1_clear 29 = .ok (.getfield 35, 3) := by decide +kernel
theorem dX1_clear_32 : decode cX1_clear 32 = .ok (.invokevirtual 53, 3) := by decide +kernel
theorem dX1_clear_35 : decode cX1_clear 35 = .ok (.aload_n 0, 1) := by decide +kernel
theorem dX1_clear_36 : decode cX1_clear 36 = .ok (.getfield 38, 3) := by decide +kernel
theorem dX1_clear_39 : decode cX1_clear 39 = .ok (.invokevirtual 53, 3) := by decide +kernel
theorem dX1_clear_42 : decode cX1_clear 42 = .ok (.aload_n 0, 1) := by decide +kernel
theorem dX1_clear_43 : decode cX1_clear 43 = .ok (.getfield 41, 3) := by decide +kernel
theorem dX1_clear_46 : decode cX1_clear 46 = .ok (.invokevirtual 53, 3) := by decide +kernel
theorem dX1_clear_49 : decode cX1_clear 49 = .ok (.aload_n 0, 1) := by decide +kernel
theorem dX1_clear_50 : decode cX1_clear 50 = .ok (.getfield 44, 3) := by decide +kernel
theorem dX1_clear_53 : decode cX1_clear 53 = .ok (.invokevirtual 53, 3) := by decide +kernel
theorem dX1_clear_56 : decode cX1_clear 56 = .ok (.aload_n 0, 1) := by decide +kernel
theorem dX1_clear_57 : decode cX1_clear 57 = .ok (.getfield 47, 3) := by decide +kernel
theorem dX1_clear_60 : decode cX1_clear 60 = .ok (.invokevirtual 53, 3) := by decide +kernel
theorem dX1_clear_63 : decode cX1_clear 63 = .ok (.aload_n 0, 1) := by decide +kernel
theorem dX1_clear_64 : decode cX1_clear 64 = .ok (.iconst 0, 1) := by decide +kernel
theorem dX1_clear_65 : decode cX1_clear 65 = .ok (.putfield 54, 3) := by decide +kernel
theorem dX1_clear_68 : decode cX1_clear 68 = .ok (.return_, 1) := by decide +kernel
theorem k_RX1_50 : Cond.methodLink RX1 50 yX8_clear ∈ tb := tb_4 (i := 40) (by decide +kernel) rfl
theorem k_RX1_53 : Cond.methodLink RX1 53 yX5_clear ∈ tb := tb_4 (i := 41) (by decide +kernel) rfl
theorem k_RX1_54 : Cond.fieldLink RX1 54 RX1 "begun" "Z" ∈ tb := tb_2 (i := 170) (by decide +kernel) rfl
abbrev cX0_openLines : ByteArray := prog_2_method_3_code
def yX0_openLines : MethodName := ⟨RX0, "openLines", "()V"⟩
theorem wcX0_openLines : Cond.code yX0_openLines cX0_openLines 1 none ∈ tb := tb_5 (i := 105) rfl rfl
theorem wnX0_openLines : Cond.instanceMethod yX0_openLines ∈ tb := tb_5 (i := 103) (by decide +kernel) rfl
theorem wlX0_openLines : Cond.selects RX0 yX0_openLines yX0_openLines ∈ tb := tb_5 (i := 104) (by decide +kernel) rfl
theorem YX0_openLines : Yv yX0_openLines cX0_openLines 1 none 0 := ⟨wcX0_openLines, wlX0_openLines, wnX0_openLines, wi_0, by decide +kernel, by decide +kernel, by decide +kernel⟩
theorem dX0_openLines_0 : decode cX0_openLines 0 = .ok (.aload_n 0, 1) := by decide +kernel
theorem dX0_openLines_1 : decode cX0_openLines 1 = .ok (.getfield 18, 3) := by decide +kernel
theorem dX0_openLines_4 : decode cX0_openLines 4 = .ok (.invokevirtual 48, 3) := by decide +kernel
theorem dX0_openLines_7 : decode cX0_openLines 7 = .ok (.aload_n 0, 1) := by decide +kernel
theorem dX0_openLines_8 : decode cX0_openLines 8 = .ok (.getfield 22, 3) := by decide +kernel
theorem dX0_openLines_11 : decode cX0_openLines 11 = .ok (.invokevirtual 48, 3) := by decide +kernel
theorem dX0_openLines_14 : decode cX0_openLines 14 = .ok (.aload_n 0, 1) := by decide +kernel
theorem dX0_openLines_15 : decode cX0_openLines 15 = .ok (.getfield 25, 3) := by decide +kernel
theorem dX0_openLines_18 : decode cX0_openLines 18 = .ok (.invokevirtual 48, 3) := by decide +kernel
theorem dX0_openLines_21 : decode cX0_openLines 21 = .ok (.return_, 1) := by decide +kernel
theorem k_RX0_48 : Cond.methodLink RX0 48 yX5_clear ∈ tb := tb_5 (i := 101) (by decide +kernel) rfl
abbrev cX0_openPlain : ByteArray := prog_2_method_2_code
def yX0_openPlain : MethodName := ⟨RX0, "openPlain", "()V"⟩
theorem wcX0_openPlain : Cond.code yX0_openPlain cX0_openPlain 1 none ∈ tb := tb_5 (i := 100) rfl rfl
theorem wnX0_openPlain : Cond.instanceMethod yX0_openPlain ∈ tb := tb_5 (i := 98) (by decide +kernel) rfl
theorem wlX0_openPlain : Cond.selects RX0 yX0_openPlain yX0_openPlain ∈ tb := tb_5 (i := 99) (by decide +kernel) rfl
theorem YX0_openPlain : Yv yX0_openPlain cX0_openPlain 1 none 0 := ⟨wcX0_openPlain, wlX0_openPlain, wnX0_openPlain, wi_0, by decide +kernel, by decide +kernel, by decide +kernel⟩
theorem dX0_openPlain_0 : decode cX0_openPlain 0 = .ok (.aload_n 0, 1) := by decide +kernel
theorem dX0_openPlain_1 : decode cX0_openPlain 1 = .ok (.getfield 28, 3) := by decide +kernel
theorem dX0_openPlain_4 : decode cX0_openPlain 4 = .ok (.invokevirtual 48, 3) := by decide +kernel
theorem dX0_openPlain_7 : decode cX0_openPlain 7 = .ok (.aload_n 0, 1) := by decide +kernel
theorem dX0_openPlain_8 : decode cX0_openPlain 8 = .ok (.iconst 0, 1) := by decide +kernel
theorem dX0_openPlain_9 : decode cX0_openPlain 9 = .ok (.putfield 51, 3) := by decide +kernel
theorem dX0_openPlain_12 : decode cX0_openPlain 12 = .ok (.aload_n 0, 1) := by decide +kernel
theorem dX0_openPlain_13 : decode cX0_openPlain 13 = .ok (.iconst 0, 1) := by decide +kernel
theorem dX0_openPlain_14 : decode cX0_openPlain 14 = .ok (.putfield 54, 3) := by decide +kernel
theorem dX0_openPlain_17 : decode cX0_openPlain 17 = .ok (.aload_n 0, 1) := by decide +kernel
theorem dX0_openPlain_18 : decode cX0_openPlain 18 = .ok (.iconst 0, 1) := by decide +kernel
theorem dX0_openPlain_19 : decode cX0_openPlain 19 = .ok (.putfield 57, 3) := by decide +kernel
theorem dX0_openPlain_22 : decode cX0_openPlain 22 = .ok (.aload_n 0, 1) := by decide +kernel
theorem dX0_openPlain_23 : decode cX0_openPlain 23 = .ok (.invokevirtual 61, 3) := by decide +kernel
theorem dX0_openPlain_26 : decode cX0_openPlain 26 = .ok (.return_, 1) := by decide +kernel
theorem k_RX0_51 : Cond.fieldLink RX0 51 RX0 "hang" "I" ∈ tb := tb_2 (i := 94) (by decide +kernel) rfl
theorem k_RX0_54 : Cond.fieldLink RX0 54 RX0 "justify" "I" ∈ tb := tb_2 (i := 96) (by decide +kernel) rfl
theorem k_RX0_57 : Cond.fieldLink RX0 57 RX0 "hyphen" "Z" ∈ tb := tb_2 (i := 98) (by decide +kernel) rfl
theorem k_RX0_61 : Cond.methodLink RX0 61 yX0_openLines ∈ tb := tb_5 (i := 102) (by decide +kernel) rfl
abbrev cX10_openText : ByteArray := prog_12_method_3_code
def yX10_openText : MethodName := ⟨RX10, "openText", "(I)V"⟩
theorem wcX10_openText : Cond.code yX10_openText cX10_openText 2 none ∈ tb := tb_5 (i := 174) rfl rfl
theorem wnX10_openText : Cond.instanceMethod yX10_openText ∈ tb := tb_5 (i := 172) (by decide +kernel) rfl
theorem wlX10_openText : Cond.selects RX10 yX10_openText yX10_openText ∈ tb := tb_5 (i := 173) (by decide +kernel) rfl
theorem YX10_openText : Yv yX10_openText cX10_openText 2 none 1 := ⟨wcX10_openText, wlX10_openText, wnX10_openText, wi_10, by decide +kernel, by decide +kernel, by decide +kernel⟩
theorem dX10_openText_0 : decode cX10_openText 0 = .ok (.aload_n 0, 1) := by decide +kernel
theorem dX10_openText_1 : decode cX10_openText 1 = .ok (.iload_n 1, 1) := by decide +kernel
theorem dX10_openText_2 : decode cX10_openText 2 = .ok (.putfield 65, 3) := by decide +kernel
theorem dX10_openText_5 : decode cX10_openText 5 = .ok (.aload_n 0, 1) := by decide +kernel
theorem dX10_openText_6 : decode cX10_openText 6 = .ok (.getfield 29, 3) := by decide +kernel
theorem dX10_openText_9 : decode cX10_openText 9 = .ok (.invokevirtual 64, 3) := by decide +kernel
theorem dX10_openText_12 : decode cX10_openText 12 = .ok (.aload_n 0, 1) := by decide +kernel
theorem dX10_openText_13 : decode cX10_openText 13 = .ok (.getfield 33, 3) := by decide +kernel
theorem dX10_openText_16 : decode cX10_openText 16 = .ok (.invokevirtual 64, 3) := by decide +kernel
theorem dX10_openText_19 : decode cX10_openText 19 = .ok (.aload_n 0, 1) := by decide +kernel
theorem dX10_openText_20 : decode cX10_openText 20 = .ok (.getfield 36, 3) := by decide +kernel
theorem dX10_openText_23 : decode cX10_openText 23 = .ok (.invokevirtual 64, 3) := by decide +kernel
theorem dX10_openText_26 : decode cX10_openText 26 = .ok (.aload_n 0, 1) := by decide +kernel
theorem dX10_openText_27 : decode cX10_openText 27 = .ok (.getfield 39, 3) := by decide +kernel
theorem dX10_openText_30 : decode cX10_openText 30 = .ok (.invokevirtual 64, 3) := by decide +kernel
theorem dX10_openText_33 : decode cX10_openText 33 = .ok (.aload_n 0, 1) := by decide +kernel
theorem dX10_openText_34 : decode cX10_openText 34 = .ok (.getfield 55, 3) := by decide +kernel
theorem dX10_openText_37 : decode cX10_openText 37 = .ok (.invokevirtual 61, 3) := by decide +kernel
theorem dX10_openText_40 : decode cX10_openText 40 = .ok (.aload_n 0, 1) := by decide +kernel
theorem dX10_openText_41 : decode cX10_openText 41 = .ok (.getfield 58, 3) := by decide +kernel
theorem dX10_openText_44 : decode cX10_openText 44 = .ok (.invokevirtual 64, 3) := by decide +kernel
theorem dX10_openText_47 : decode cX10_openText 47 = .ok (.aload_n 0, 1) := by decide +kernel
theorem dX10_openText_48 : decode cX10_openText 48 = .ok (.iconst 0, 1) := by decide +kernel
theorem dX10_openText_49 : decode cX10_openText 49 = .ok (.putfield 69, 3) := by decide +kernel
theorem dX10_openText_52 : decode cX10_openText 52 = .ok (.aload_n 0, 1) := by decide +kernel
theorem dX10_openText_53 : decode cX10_openText 53 = .ok (.iconst 0, 1) := by decide +kernel
theorem dX10_openText_54 : decode cX10_openText 54 = .ok (.putfield 72, 3) := by decide +kernel
theorem dX10_openText_57 : decode cX10_openText 57 = .ok (.aload_n 0, 1) := by decide +kernel
theorem dX10_openText_58 : decode cX10_openText 58 = .ok (.iconst 0, 1) := by decide +kernel
theorem dX10_openText_59 : decode cX10_openText 59 = .ok (.putfield 75, 3) := by decide +kernel
theorem dX10_openText_62 : decode cX10_openText 62 = .ok (.aload_n 0, 1) := by decide +kernel
theorem dX10_openText_63 : decode cX10_openText 63 = .ok (.iconst 0, 1) := by decide +kernel
theorem dX10_openText_64 : decode cX10_openText 64 = .ok (.putfield 78, 3) := by decide +kernel
theorem dX10_openText_67 : decode cX10_openText 67 = .ok (.aload_n 0, 1) := by decide +kernel
theorem dX10_openText_68 : decode cX10_openText 68 = .ok (.iconst 0, 1) := by decide +kernel
theorem dX10_openText_69 : decode cX10_openText 69 = .ok (.putfield 81, 3) := by decide +kernel
theorem dX10_openText_72 : decode cX10_openText 72 = .ok (.return_, 1) := by decide +kernel
theorem k_RX10_65 : Cond.fieldLink RX10 65 RX10 "allowed" "I" ∈ tb := tb_2 (i := 26) (by decide +kernel) rfl
theorem k_RX10_64 : Cond.methodLink RX10 64 yX5_clear ∈ tb := tb_4 (i := 47) (by decide +kernel) rfl
theorem k_RX10_61 : Cond.methodLink RX10 61 yX8_clear ∈ tb := tb_4 (i := 46) (by decide +kernel) rfl
theorem k_RX10_69 : Cond.fieldLink RX10 69 RX10 "style" "I" ∈ tb := tb_2 (i := 27) (by decide +kernel) rfl
theorem k_RX10_72 : Cond.fieldLink RX10 72 RX10 "inArguments" "I" ∈ tb := tb_2 (i := 28) (by decide +kernel) rfl
theorem k_RX10_75 : Cond.fieldLink RX10 75 RX10 "frame" "I" ∈ tb := tb_2 (i := 29) (by decide +kernel) rfl
theorem k_RX10_78 : Cond.fieldLink RX10 78 RX10 "frameArity" "I" ∈ tb := tb_2 (i := 30) (by decide +kernel) rfl
theorem k_RX10_81 : Cond.fieldLink RX10 81 RX10 "gap" "Z" ∈ tb := tb_2 (i := 31) (by decide +kernel) rfl
abbrev cX4_open : ByteArray := prog_6_method_2_code
def yX4_open : MethodName := ⟨RX4, "open", "()V"⟩
theorem wcX4_open : Cond.code yX4_open cX4_open 1 none ∈ tb := tb_3 (i := 230) rfl rfl
theorem wnX4_open : Cond.instanceMethod yX4_open ∈ tb := tb_3 (i := 228) (by decide +kernel) rfl
theorem wlX4_open : Cond.selects RX4 yX4_open yX4_open ∈ tb := tb_3 (i := 229) (by decide +kernel) rfl
theorem YX4_open : Yv yX4_open cX4_open 1 none 0 := ⟨wcX4_open, wlX4_open, wnX4_open, wi_4, by decide +kernel, by decide +kernel, by decide +kernel⟩
theorem dX4_open_0 : decode cX4_open 0 = .ok (.aload_n 0, 1) := by decide +kernel
theorem dX4_open_1 : decode cX4_open 1 = .ok (.iconst 0, 1) := by decide +kernel
theorem dX4_open_2 : decode cX4_open 2 = .ok (.putfield 9, 3) := by decide +kernel
theorem dX4_open_5 : decode cX4_open 5 = .ok (.aload_n 0, 1) := by decide +kernel
theorem dX4_open_6 : decode cX4_open 6 = .ok (.iconst 0, 1) := by decide +kernel
theorem dX4_open_7 : decode cX4_open 7 = .ok (.putfield 15, 3) := by decide +kernel
theorem dX4_open_10 : decode cX4_open 10 = .ok (.return_, 1) := by decide +kernel
theorem k_RX4_9 : Cond.fieldLink RX4 9 RX4 "here" "I" ∈ tb := tb_1 (i := 65) (by decide +kernel) rfl
theorem k_RX4_15 : Cond.fieldLink RX4 15 RX4 "kind" "I" ∈ tb := tb_1 (i := 69) (by decide +kernel) rfl
set_option maxHeartbeats 4000000 in
set_option maxRecDepth 100000 in
theorem cx_8_clear_25 (l : Launch) (D : va_G) (G : Nat → ClassId) (t : Nat → Nat) (N : Nat) (ad : Nat → Nat) (cl : Nat → va_E) (c : Nat → Nat) (xs : Nat → List Int32) (v : Nat → Nat → Int32) (g : Nat → Nat → Int32) (nb : Nat → Nat) (Wx : XW G N ad cl c xs v g nb) (d : Nat) (hd : 2 ≤ d) : CtV l yX8_clear cX8_clear 1 (rmD d 0 0) D G t (N, ad, cl) [.ref (ad 25)] (fun u => ∃ ad' cl', u = (N, ad', cl') ∧ XW G N ad' cl' c (clr xs [28, 26]) (v) (g) nb ∧ FrX N ad cl ad' cl') := by
  refine ct_V (own := RX8) (by decide +kernel) rfl (Nat.le_of_ble_eq_true rfl) rfl ?_
  intro p e s m args below meth cd A ls X hr hin hl w
  obtain ⟨hx, hb, hml, hown, hts, -⟩ := id X
  have hl : lv_has ls 1 [(0, .ref (ad 25))] := hl
  have F : FrX N ad cl ad cl := FrX.rf
  rw [← clr_nil xs] at Wx
  refine lv_aload_n hx hb dX8_clear_0 rfl (lv_at hl 0 rfl) ?_
  refine g_get X w 25 rfl (by have := Wx.1; omega) (Wx.o xm_25) kc8 0 (by decide) rfl k_RX8_12 (v := .ref (ad 26)) rfl dX8_clear_1 ?_
  refine c_V (As := []) (rest := []) X w (ct_X5_clear l D G t N ad cl 26 _ _ (Wx.2.1 26 (by decide +kernel)) (d - 1)) YX5_clear k_RX8_21 (26) rfl (by have := Wx.1; omega) (Wx.2.1 26 (by decide +kernel)).2.1 kc5 (rfl) rfl rfl hl.1 (rm_call (by omega) (by decide)) (Nat.le_of_ble_eq_true rfl) dX8_clear_4 (⟨Nat.zero_le _, Nat.zero_le _⟩) (fun u H locs hp w => ?_)
  obtain ⟨ad1, cl2, rfl, hR9, hF9⟩ := hp
  have w : Wd D A s H locs N ad1 cl2 := w
  have Wx := Wx.row (q := 26) (by decide +kernel) hF9 hR9
  have F : FrX N ad cl ad1 cl2 := F.tr (FrX.of (q := 26) (by decide +kernel) hF9)
  rw [va_up_id, clr_up] at Wx
  refine lv_aload_n hx hb dX8_clear_7 rfl (lv_at hl 0 rfl) ?_
  refine g_get X w 25 (F.1 25 (by have := Wx.1; omega) rfl) (by have := Wx.1; omega) (Wx.o xm_25) kc8 1 (by decide) rfl k_RX8_18 (v := .ref (ad1 28)) rfl dX8_clear_8 ?_
  refine lv_eqr (F.1 28 (by have := Wx.1; omega) rfl) ?_
  refine c_V (As := []) (rest := []) X w (ct_X5_clear l D G t N ad1 cl2 28 _ _ (Wx.2.1 28 (by decide +kernel)) (d - 1)) YX5_clear k_RX8_21 (28) (F.1 28 (by have := Wx.1; omega) rfl) (by have := Wx.1; omega) (Wx.2.1 28 (by decide +kernel)).2.1 kc5 (by rw [(F.1 28 (by have := Wx.1; omega) rfl)]) rfl rfl hl.1 (rm_call (by omega) (by decide)) (Nat.le_of_ble_eq_true rfl) dX8_clear_11 (⟨Nat.zero_le _, Nat.zero_le _⟩) (fun u H locs hp w => ?_)
  obtain ⟨ad3, cl4, rfl, hR9, hF9⟩ := hp
  have w : Wd D A s H locs N ad3 cl4 := w
  have Wx := Wx.row (q := 28) (by decide +kernel) hF9 hR9
  have F : FrX N ad cl ad3 cl4 := F.tr (FrX.of (q := 28) (by decide +kernel) hF9)
  rw [va_up_id, clr_up] at Wx
  exact e_V X hr w ⟨ad3, cl4, rfl, Wx, F⟩ (Nat.le_of_ble_eq_true rfl) (Nat.le_of_ble_eq_true rfl) dX8_clear_14
set_option maxHeartbeats 4000000 in
set_option maxRecDepth 100000 in
theorem cx_8_clear_34 (l : Launch) (D : va_G) (G : Nat → ClassId) (t : Nat → Nat) (N : Nat) (ad : Nat → Nat) (cl : Nat → va_E) (c : Nat → Nat) (xs : Nat → List Int32) (v : Nat → Nat → Int32) (g : Nat → Nat → Int32) (nb : Nat → Nat) (Wx : XW G N ad cl c xs v g nb) (d : Nat) (hd : 2 ≤ d) : CtV l yX8_clear cX8_clear 1 (rmD d 0 0) D G t (N, ad, cl) [.ref (ad 34)] (fun u => ∃ ad' cl', u = (N, ad', cl') ∧ XW G N ad' cl' c (clr xs [37, 35]) (v) (g) nb ∧ FrX N ad cl ad' cl') := by
  refine ct_V (own := RX8) (by decide +kernel) rfl (Nat.le_of_ble_eq_true rfl) rfl ?_
  intro p e s m args below meth cd A ls X hr hin hl w
  obtain ⟨hx, hb, hml, hown, hts, -⟩ := id X
  have hl : lv_has ls 1 [(0, .ref (ad 34))] := hl
  have F : FrX N ad cl ad cl := FrX.rf
  rw [← clr_nil xs] at Wx
  refine lv_aload_n hx hb dX8_clear_0 rfl (lv_at hl 0 rfl) ?_
  refine g_get X w 34 rfl (by have := Wx.1; omega) (Wx.o xm_34) kc8 0 (by decide) rfl k_RX8_12 (v := .ref (ad 35)) rfl dX8_clear_1 ?_
  refine c_V (As := []) (rest := []) X w (ct_X5_clear l D G t N ad cl 35 _ _ (Wx.2.1 35 (by decide +kernel)) (d - 1)) YX5_clear k_RX8_21 (35) rfl (by have := Wx.1; omega) (Wx.2.1 35 (by decide +kernel)).2.1 kc5 (rfl) rfl rfl hl.1 (rm_call (by omega) (by decide)) (Nat.le_of_ble_eq_true rfl) dX8_clear_4 (⟨Nat.zero_le _, Nat.zero_le _⟩) (fun u H locs hp w => ?_)
  obtain ⟨ad1, cl2, rfl, hR9, hF9⟩ := hp
  have w : Wd D A s H locs N ad1 cl2 := w
  have Wx := Wx.row (q := 35) (by decide +kernel) hF9 hR9
  have F : FrX N ad cl ad1 cl2 := F.tr (FrX.of (q := 35) (by decide +kernel) hF9)
  rw [va_up_id, clr_up] at Wx
  refine lv_aload_n hx hb dX8_clear_7 rfl (lv_at hl 0 rfl) ?_
  refine g_get X w 34 (F.1 34 (by have := Wx.1; omega) rfl) (by have := Wx.1; omega) (Wx.o xm_34) kc8 1 (by decide) rfl k_RX8_18 (v := .ref (ad1 37)) rfl dX8_clear_8 ?_
  refine lv_eqr (F.1 37 (by have := Wx.1; omega) rfl) ?_
  refine c_V (As := []) (rest := []) X w (ct_X5_clear l D G t N ad1 cl2 37 _ _ (Wx.2.1 37 (by decide +kernel)) (d - 1)) YX5_clear k_RX8_21 (37) (F.1 37 (by have := Wx.1; omega) rfl) (by have := Wx.1; omega) (Wx.2.1 37 (by decide +kernel)).2.1 kc5 (by rw [(F.1 37 (by have := Wx.1; omega) rfl)]) rfl rfl hl.1 (rm_call (by omega) (by decide)) (Nat.le_of_ble_eq_true rfl) dX8_clear_11 (⟨Nat.zero_le _, Nat.zero_le _⟩) (fun u H locs hp w => ?_)
  obtain ⟨ad3, cl4, rfl, hR9, hF9⟩ := hp
  have w : Wd D A s H locs N ad3 cl4 := w
  have Wx := Wx.row (q := 37) (by decide +kernel) hF9 hR9
  have F : FrX N ad cl ad3 cl4 := F.tr (FrX.of (q := 37) (by decide +kernel) hF9)
  rw [va_up_id, clr_up] at Wx
  exact e_V X hr w ⟨ad3, cl4, rfl, Wx, F⟩ (Nat.le_of_ble_eq_true rfl) (Nat.le_of_ble_eq_true rfl) dX8_clear_14
set_option maxHeartbeats 4000000 in
set_option maxRecDepth 100000 in
theorem cx_8_clear_39 (l : Launch) (D : va_G) (G : Nat → ClassId) (t : Nat → Nat) (N : Nat) (ad : Nat → Nat) (cl : Nat → va_E) (c : Nat → Nat) (xs : Nat → List Int32) (v : Nat → Nat → Int32) (g : Nat → Nat → Int32) (nb : Nat → Nat) (Wx : XW G N ad cl c xs v g nb) (d : Nat) (hd : 2 ≤ d) : CtV l yX8_clear cX8_clear 1 (rmD d 0 0) D G t (N, ad, cl) [.ref (ad 39)] (fun u => ∃ ad' cl', u = (N, ad', cl') ∧ XW G N ad' cl' c (clr xs [42, 40]) (v) (g) nb ∧ FrX N ad cl ad' cl') := by
  refine ct_V (own := RX8) (by decide +kernel) rfl (Nat.le_of_ble_eq_true rfl) rfl ?_
  intro p e s m args below meth cd A ls X hr hin hl w
  obtain ⟨hx, hb, hml, hown, hts, -⟩ := id X
  have hl : lv_has ls 1 [(0, .ref (ad 39))] := hl
  have F : FrX N ad cl ad cl := FrX.rf
  rw [← clr_nil xs] at Wx
  refine lv_aload_n hx hb dX8_clear_0 rfl (lv_at hl 0 rfl) ?_
  refine g_get X w 39 rfl (by have := Wx.1; omega) (Wx.o xm_39) kc8 0 (by decide) rfl k_RX8_12 (v := .ref (ad 40)) rfl dX8_clear_1 ?_
  refine c_V (As := []) (rest := []) X w (ct_X5_clear l D G t N ad cl 40 _ _ (Wx.2.1 40 (by decide +kernel)) (d - 1)) YX5_clear k_RX8_21 (40) rfl (by have := Wx.1; omega) (Wx.2.1 40 (by decide +kernel)).2.1 kc5 (rfl) rfl rfl hl.1 (rm_call (by omega) (by decide)) (Nat.le_of_ble_eq_true rfl) dX8_clear_4 (⟨Nat.zero_le _, Nat.zero_le _⟩) (fun u H locs hp w => ?_)
  obtain ⟨ad1, cl2, rfl, hR9, hF9⟩ := hp
  have w : Wd D A s H locs N ad1 cl2 := w
  have Wx := Wx.row (q := 40) (by decide +kernel) hF9 hR9
  have F : FrX N ad cl ad1 cl2 := F.tr (FrX.of (q := 40) (by decide +kernel) hF9)
  rw [va_up_id, clr_up] at Wx
  refine lv_aload_n hx hb dX8_clear_7 rfl (lv_at hl 0 rfl) ?_
  refine g_get X w 39 (F.1 39 (by have := Wx.1; omega) rfl) (by have := Wx.1; omega) (Wx.o xm_39) kc8 1 (by decide) rfl k_RX8_18 (v := .ref (ad1 42)) rfl dX8_clear_8 ?_
  refine lv_eqr (F.1 42 (by have := Wx.1; omega) rfl) ?_
  refine c_V (As := []) (rest := []) X w (ct_X5_clear l D G t N ad1 cl2 42 _ _ (Wx.2.1 42 (by decide +kernel)) (d - 1)) YX5_clear k_RX8_21 (42) (F.1 42 (by have := Wx.1; omega) rfl) (by have := Wx.1; omega) (Wx.2.1 42 (by decide +kernel)).2.1 kc5 (by rw [(F.1 42 (by have := Wx.1; omega) rfl)]) rfl rfl hl.1 (rm_call (by omega) (by decide)) (Nat.le_of_ble_eq_true rfl) dX8_clear_11 (⟨Nat.zero_le _, Nat.zero_le _⟩) (fun u H locs hp w => ?_)
  obtain ⟨ad3, cl4, rfl, hR9, hF9⟩ := hp
  have w : Wd D A s H locs N ad3 cl4 := w
  have Wx := Wx.row (q := 42) (by decide +kernel) hF9 hR9
  have F : FrX N ad cl ad3 cl4 := F.tr (FrX.of (q := 42) (by decide +kernel) hF9)
  rw [va_up_id, clr_up] at Wx
  exact e_V X hr w ⟨ad3, cl4, rfl, Wx, F⟩ (Nat.le_of_ble_eq_true rfl) (Nat.le_of_ble_eq_true rfl) dX8_clear_14
set_option maxHeartbeats 4000000 in
set_option maxRecDepth 100000 in
theorem cx_8_clear_44 (l : Launch) (D : va_G) (G : Nat → ClassId) (t : Nat → Nat) (N : Nat) (ad : Nat → Nat) (cl : Nat → va_E) (c : Nat → Nat) (xs : Nat → List Int32) (v : Nat → Nat → Int32) (g : Nat → Nat → Int32) (nb : Nat → Nat) (Wx : XW G N ad cl c xs v g nb) (d : Nat) (hd : 2 ≤ d) : CtV l yX8_clear cX8_clear 1 (rmD d 0 0) D G t (N, ad, cl) [.ref (ad 44)] (fun u => ∃ ad' cl', u = (N, ad', cl') ∧ XW G N ad' cl' c (clr xs [47, 45]) (v) (g) nb ∧ FrX N ad cl ad' cl') := by
  refine ct_V (own := RX8) (by decide +kernel) rfl (Nat.le_of_ble_eq_true rfl) rfl ?_
  intro p e s m args below meth cd A ls X hr hin hl w
  obtain ⟨hx, hb, hml, hown, hts, -⟩ := id X
  have hl : lv_has ls 1 [(0, .ref (ad 44))] := hl
  have F : FrX N ad cl ad cl := FrX.rf
  rw [← clr_nil xs] at Wx
  refine lv_aload_n hx hb dX8_clear_0 rfl (lv_at hl 0 rfl) ?_
  refine g_get X w 44 rfl (by have := Wx.1; omega) (Wx.o xm_44) kc8 0 (by decide) rfl k_RX8_12 (v := .ref (ad 45)) rfl dX8_clear_1 ?_
  refine c_V (As := []) (rest := []) X w (ct_X5_clear l D G t N ad cl 45 _ _ (Wx.2.1 45 (by decide +kernel)) (d - 1)) YX5_clear k_RX8_21 (45) rfl (by have := Wx.1; omega) (Wx.2.1 45 (by decide +kernel)).2.1 kc5 (rfl) rfl rfl hl.1 (rm_call (by omega) (by decide)) (Nat.le_of_ble_eq_true rfl) dX8_clear_4 (⟨Nat.zero_le _, Nat.zero_le _⟩) (fun u H locs hp w => ?_)
  obtain ⟨ad1, cl2, rfl, hR9, hF9⟩ := hp
  have w : Wd D A s H locs N ad1 cl2 := w
  have Wx := Wx.row (q := 45) (by decide +kernel) hF9 hR9
  have F : FrX N ad cl ad1 cl2 := F.tr (FrX.of (q := 45) (by decide +kernel) hF9)
  rw [va_up_id, clr_up] at Wx
  refine lv_aload_n hx hb dX8_clear_7 rfl (lv_at hl 0 rfl) ?_
  refine g_get X w 44 (F.1 44 (by have := Wx.1; omega) rfl) (by have := Wx.1; omega) (Wx.o xm_44) kc8 1 (by decide) rfl k_RX8_18 (v := .ref (ad1 47)) rfl dX8_clear_8 ?_
  refine lv_eqr (F.1 47 (by have := Wx.1; omega) rfl) ?_
  refine c_V (As := []) (rest := []) X w (ct_X5_clear l D G t N ad1 cl2 47 _ _ (Wx.2.1 47 (by decide +kernel)) (d - 1)) YX5_clear k_RX8_21 (47) (F.1 47 (by have := Wx.1; omega) rfl) (by have := Wx.1; omega) (Wx.2.1 47 (by decide +kernel)).2.1 kc5 (by rw [(F.1 47 (by have := Wx.1; omega) rfl)]) rfl rfl hl.1 (rm_call (by omega) (by decide)) (Nat.le_of_ble_eq_true rfl) dX8_clear_11 (⟨Nat.zero_le _, Nat.zero_le _⟩) (fun u H locs hp w => ?_)
  obtain ⟨ad3, cl4, rfl, hR9, hF9⟩ := hp
  have w : Wd D A s H locs N ad3 cl4 := w
  have Wx := Wx.row (q := 47) (by decide +kernel) hF9 hR9
  have F : FrX N ad cl ad3 cl4 := F.tr (FrX.of (q := 47) (by decide +kernel) hF9)
  rw [va_up_id, clr_up] at Wx
  exact e_V X hr w ⟨ad3, cl4, rfl, Wx, F⟩ (Nat.le_of_ble_eq_true rfl) (Nat.le_of_ble_eq_true rfl) dX8_clear_14
set_option maxHeartbeats 4000000 in
set_option maxRecDepth 100000 in
theorem cx_8_clear_50 (l : Launch) (D : va_G) (G : Nat → ClassId) (t : Nat → Nat) (N : Nat) (ad : Nat → Nat) (cl : Nat → va_E) (c : Nat → Nat) (xs : Nat → List Int32) (v : Nat → Nat → Int32) (g : Nat → Nat → Int32) (nb : Nat → Nat) (Wx : XW G N ad cl c xs v g nb) (d : Nat) (hd : 2 ≤ d) : CtV l yX8_clear cX8_clear 1 (rmD d 0 0) D G t (N, ad, cl) [.ref (ad 50)] (fun u => ∃ ad' cl', u = (N, ad', cl') ∧ XW G N ad' cl' c (clr xs [53, 51]) (v) (g) nb ∧ FrX N ad cl ad' cl') := by
  refine ct_V (own := RX8) (by decide +kernel) rfl (Nat.le_of_ble_eq_true rfl) rfl ?_
  intro p e s m args below meth cd A ls X hr hin hl w
  obtain ⟨hx, hb, hml, hown, hts, -⟩ := id X
  have hl : lv_has ls 1 [(0, .ref (ad 50))] := hl
  have F : FrX N ad cl ad cl := FrX.rf
  rw [← clr_nil xs] at Wx
  refine lv_aload_n hx hb dX8_clear_0 rfl (lv_at hl 0 rfl) ?_
  refine g_get X w 50 rfl (by have := Wx.1; omega) (Wx.o xm_50) kc8 0 (by decide) rfl k_RX8_12 (v := .ref (ad 51)) rfl dX8_clear_1 ?_
  refine c_V (As := []) (rest := []) X w (ct_X5_clear l D G t N ad cl 51 _ _ (Wx.2.1 51 (by decide +kernel)) (d - 1)) YX5_clear k_RX8_21 (51) rfl (by have := Wx.1; omega) (Wx.2.1 51 (by decide +kernel)).2.1 kc5 (rfl) rfl rfl hl.1 (rm_call (by omega) (by decide)) (Nat.le_of_ble_eq_true rfl) dX8_clear_4 (⟨Nat.zero_le _, Nat.zero_le _⟩) (fun u H locs hp w => ?_)
  obtain ⟨ad1, cl2, rfl, hR9, hF9⟩ := hp
  have w : Wd D A s H locs N ad1 cl2 := w
  have Wx := Wx.row (q := 51) (by decide +kernel) hF9 hR9
  have F : FrX N ad cl ad1 cl2 := F.tr (FrX.of (q := 51) (by decide +kernel) hF9)
  rw [va_up_id, clr_up] at Wx
  refine lv_aload_n hx hb dX8_clear_7 rfl (lv_at hl 0 rfl) ?_
  refine g_get X w 50 (F.1 50 (by have := Wx.1; omega) rfl) (by have := Wx.1; omega) (Wx.o xm_50) kc8 1 (by decide) rfl k_RX8_18 (v := .ref (ad1 53)) rfl dX8_clear_8 ?_
  refine lv_eqr (F.1 53 (by have := Wx.1; omega) rfl) ?_
  refine c_V (As := []) (rest := []) X w (ct_X5_clear l D G t N ad1 cl2 53 _ _ (Wx.2.1 53 (by decide +kernel)) (d - 1)) YX5_clear k_RX8_21 (53) (F.1 53 (by have := Wx.1; omega) rfl) (by have := Wx.1; omega) (Wx.2.1 53 (by decide +kernel)).2.1 kc5 (by rw [(F.1 53 (by have := Wx.1; omega) rfl)]) rfl rfl hl.1 (rm_call (by omega) (by decide)) (Nat.le_of_ble_eq_true rfl) dX8_clear_11 (⟨Nat.zero_le _, Nat.zero_le _⟩) (fun u H locs hp w => ?_)
  obtain ⟨ad3, cl4, rfl, hR9, hF9⟩ := hp
  have w : Wd D A s H locs N ad3 cl4 := w
  have Wx := Wx.row (q := 53) (by decide +kernel) hF9 hR9
  have F : FrX N ad cl ad3 cl4 := F.tr (FrX.of (q := 53) (by decide +kernel) hF9)
  rw [va_up_id, clr_up] at Wx
  exact e_V X hr w ⟨ad3, cl4, rfl, Wx, F⟩ (Nat.le_of_ble_eq_true rfl) (Nat.le_of_ble_eq_true rfl) dX8_clear_14
set_option maxHeartbeats 4000000 in
set_option maxRecDepth 100000 in
theorem cx_8_clear_55 (l : Launch) (D : va_G) (G : Nat → ClassId) (t : Nat → Nat) (N : Nat) (ad : Nat → Nat) (cl : Nat → va_E) (c : Nat → Nat) (xs : Nat → List Int32) (v : Nat → Nat → Int32) (g : Nat → Nat → Int32) (nb : Nat → Nat) (Wx : XW G N ad cl c xs v g nb) (d : Nat) (hd : 2 ≤ d) : CtV l yX8_clear cX8_clear 1 (rmD d 0 0) D G t (N, ad, cl) [.ref (ad 55)] (fun u => ∃ ad' cl', u = (N, ad', cl') ∧ XW G N ad' cl' c (clr xs [58, 56]) (v) (g) nb ∧ FrX N ad cl ad' cl') := by
  refine ct_V (own := RX8) (by decide +kernel) rfl (Nat.le_of_ble_eq_true rfl) rfl ?_
  intro p e s m args below meth cd A ls X hr hin hl w
  obtain ⟨hx, hb, hml, hown, hts, -⟩ := id X
  have hl : lv_has ls 1 [(0, .ref (ad 55))] := hl
  have F : FrX N ad cl ad cl := FrX.rf
  rw [← clr_nil xs] at Wx
  refine lv_aload_n hx hb dX8_clear_0 rfl (lv_at hl 0 rfl) ?_
  refine g_get X w 55 rfl (by have := Wx.1; omega) (Wx.o xm_55) kc8 0 (by decide) rfl k_RX8_12 (v := .ref (ad 56)) rfl dX8_clear_1 ?_
  refine c_V (As := []) (rest := []) X w (ct_X5_clear l D G t N ad cl 56 _ _ (Wx.2.1 56 (by decide +kernel)) (d - 1)) YX5_clear k_RX8_21 (56) rfl (by have := Wx.1; omega) (Wx.2.1 56 (by decide +kernel)).2.1 kc5 (rfl) rfl rfl hl.1 (rm_call (by omega) (by decide)) (Nat.le_of_ble_eq_true rfl) dX8_clear_4 (⟨Nat.zero_le _, Nat.zero_le _⟩) (fun u H locs hp w => ?_)
  obtain ⟨ad1, cl2, rfl, hR9, hF9⟩ := hp
  have w : Wd D A s H locs N ad1 cl2 := w
  have Wx := Wx.row (q := 56) (by decide +kernel) hF9 hR9
  have F : FrX N ad cl ad1 cl2 := F.tr (FrX.of (q := 56) (by decide +kernel) hF9)
  rw [va_up_id, clr_up] at Wx
  refine lv_aload_n hx hb dX8_clear_7 rfl (lv_at hl 0 rfl) ?_
  refine g_get X w 55 (F.1 55 (by have := Wx.1; omega) rfl) (by have := Wx.1; omega) (Wx.o xm_55) kc8 1 (by decide) rfl k_RX8_18 (v := .ref (ad1 58)) rfl dX8_clear_8 ?_
  refine lv_eqr (F.1 58 (by have := Wx.1; omega) rfl) ?_
  refine c_V (As := []) (rest := []) X w (ct_X5_clear l D G t N ad1 cl2 58 _ _ (Wx.2.1 58 (by decide +kernel)) (d - 1)) YX5_clear k_RX8_21 (58) (F.1 58 (by have := Wx.1; omega) rfl) (by have := Wx.1; omega) (Wx.2.1 58 (by decide +kernel)).2.1 kc5 (by rw [(F.1 58 (by have := Wx.1; omega) rfl)]) rfl rfl hl.1 (rm_call (by omega) (by decide)) (Nat.le_of_ble_eq_true rfl) dX8_clear_11 (⟨Nat.zero_le _, Nat.zero_le _⟩) (fun u H locs hp w => ?_)
  obtain ⟨ad3, cl4, rfl, hR9, hF9⟩ := hp
  have w : Wd D A s H locs N ad3 cl4 := w
  have Wx := Wx.row (q := 58) (by decide +kernel) hF9 hR9
  have F : FrX N ad cl ad3 cl4 := F.tr (FrX.of (q := 58) (by decide +kernel) hF9)
  rw [va_up_id, clr_up] at Wx
  exact e_V X hr w ⟨ad3, cl4, rfl, Wx, F⟩ (Nat.le_of_ble_eq_true rfl) (Nat.le_of_ble_eq_true rfl) dX8_clear_14
set_option maxHeartbeats 4000000 in
set_option maxRecDepth 100000 in
theorem cx_8_clear_62 (l : Launch) (D : va_G) (G : Nat → ClassId) (t : Nat → Nat) (N : Nat) (ad : Nat → Nat) (cl : Nat → va_E) (c : Nat → Nat) (xs : Nat → List Int32) (v : Nat → Nat → Int32) (g : Nat → Nat → Int32) (nb : Nat → Nat) (Wx : XW G N ad cl c xs v g nb) (d : Nat) (hd : 2 ≤ d) : CtV l yX8_clear cX8_clear 1 (rmD d 0 0) D G t (N, ad, cl) [.ref (ad 62)] (fun u => ∃ ad' cl', u = (N, ad', cl') ∧ XW G N ad' cl' c (clr xs [65, 63]) (v) (g) nb ∧ FrX N ad cl ad' cl') := by
  refine ct_V (own := RX8) (by decide +kernel) rfl (Nat.le_of_ble_eq_true rfl) rfl ?_
  intro p e s m args below meth cd A ls X hr hin hl w
  obtain ⟨hx, hb, hml, hown, hts, -⟩ := id X
  have hl : lv_has ls 1 [(0, .ref (ad 62))] := hl
  have F : FrX N ad cl ad cl := FrX.rf
  rw [← clr_nil xs] at Wx
  refine lv_aload_n hx hb dX8_clear_0 rfl (lv_at hl 0 rfl) ?_
  refine g_get X w 62 rfl (by have := Wx.1; omega) (Wx.o xm_62) kc8 0 (by decide) rfl k_RX8_12 (v := .ref (ad 63)) rfl dX8_clear_1 ?_
  refine c_V (As := []) (rest := []) X w (ct_X5_clear l D G t N ad cl 63 _ _ (Wx.2.1 63 (by decide +kernel)) (d - 1)) YX5_clear k_RX8_21 (63) rfl (by have := Wx.1; omega) (Wx.2.1 63 (by decide +kernel)).2.1 kc5 (rfl) rfl rfl hl.1 (rm_call (by omega) (by decide)) (Nat.le_of_ble_eq_true rfl) dX8_clear_4 (⟨Nat.zero_le _, Nat.zero_le _⟩) (fun u H locs hp w => ?_)
  obtain ⟨ad1, cl2, rfl, hR9, hF9⟩ := hp
  have w : Wd D A s H locs N ad1 cl2 := w
  have Wx := Wx.row (q := 63) (by decide +kernel) hF9 hR9
  have F : FrX N ad cl ad1 cl2 := F.tr (FrX.of (q := 63) (by decide +kernel) hF9)
  rw [va_up_id, clr_up] at Wx
  refine lv_aload_n hx hb dX8_clear_7 rfl (lv_at hl 0 rfl) ?_
  refine g_get X w 62 (F.1 62 (by have := Wx.1; omega) rfl) (by have := Wx.1; omega) (Wx.o xm_62) kc8 1 (by decide) rfl k_RX8_18 (v := .ref (ad1 65)) rfl dX8_clear_8 ?_
  refine lv_eqr (F.1 65 (by have := Wx.1; omega) rfl) ?_
  refine c_V (As := []) (rest := []) X w (ct_X5_clear l D G t N ad1 cl2 65 _ _ (Wx.2.1 65 (by decide +kernel)) (d - 1)) YX5_clear k_RX8_21 (65) (F.1 65 (by have := Wx.1; omega) rfl) (by have := Wx.1; omega) (Wx.2.1 65 (by decide +kernel)).2.1 kc5 (by rw [(F.1 65 (by have := Wx.1; omega) rfl)]) rfl rfl hl.1 (rm_call (by omega) (by decide)) (Nat.le_of_ble_eq_true rfl) dX8_clear_11 (⟨Nat.zero_le _, Nat.zero_le _⟩) (fun u H locs hp w => ?_)
  obtain ⟨ad3, cl4, rfl, hR9, hF9⟩ := hp
  have w : Wd D A s H locs N ad3 cl4 := w
  have Wx := Wx.row (q := 65) (by decide +kernel) hF9 hR9
  have F : FrX N ad cl ad3 cl4 := F.tr (FrX.of (q := 65) (by decide +kernel) hF9)
  rw [va_up_id, clr_up] at Wx
  exact e_V X hr w ⟨ad3, cl4, rfl, Wx, F⟩ (Nat.le_of_ble_eq_true rfl) (Nat.le_of_ble_eq_true rfl) dX8_clear_14
set_option maxHeartbeats 4000000 in
set_option maxRecDepth 100000 in
theorem cx_8_clear_73 (l : Launch) (D : va_G) (G : Nat → ClassId) (t : Nat → Nat) (N : Nat) (ad : Nat → Nat) (cl : Nat → va_E) (c : Nat → Nat) (xs : Nat → List Int32) (v : Nat → Nat → Int32) (g : Nat → Nat → Int32) (nb : Nat → Nat) (Wx : XW G N ad cl c xs v g nb) (d : Nat) (hd : 2 ≤ d) : CtV l yX8_clear cX8_clear 1 (rmD d 0 0) D G t (N, ad, cl) [.ref (ad 73)] (fun u => ∃ ad' cl', u = (N, ad', cl') ∧ XW G N ad' cl' c (clr xs [76, 74]) (v) (g) nb ∧ FrX N ad cl ad' cl') := by
  refine ct_V (own := RX8) (by decide +kernel) rfl (Nat.le_of_ble_eq_true rfl) rfl ?_
  intro p e s m args below meth cd A ls X hr hin hl w
  obtain ⟨hx, hb, hml, hown, hts, -⟩ := id X
  have hl : lv_has ls 1 [(0, .ref (ad 73))] := hl
  have F : FrX N ad cl ad cl := FrX.rf
  rw [← clr_nil xs] at Wx
  refine lv_aload_n hx hb dX8_clear_0 rfl (lv_at hl 0 rfl) ?_
  refine g_get X w 73 rfl (by have := Wx.1; omega) (Wx.o xm_73) kc8 0 (by decide) rfl k_RX8_12 (v := .ref (ad 74)) rfl dX8_clear_1 ?_
  refine c_V (As := []) (rest := []) X w (ct_X5_clear l D G t N ad cl 74 _ _ (Wx.2.1 74 (by decide +kernel)) (d - 1)) YX5_clear k_RX8_21 (74) rfl (by have := Wx.1; omega) (Wx.2.1 74 (by decide +kernel)).2.1 kc5 (rfl) rfl rfl hl.1 (rm_call (by omega) (by decide)) (Nat.le_of_ble_eq_true rfl) dX8_clear_4 (⟨Nat.zero_le _, Nat.zero_le _⟩) (fun u H locs hp w => ?_)
  obtain ⟨ad1, cl2, rfl, hR9, hF9⟩ := hp
  have w : Wd D A s H locs N ad1 cl2 := w
  have Wx := Wx.row (q := 74) (by decide +kernel) hF9 hR9
  have F : FrX N ad cl ad1 cl2 := F.tr (FrX.of (q := 74) (by decide +kernel) hF9)
  rw [va_up_id, clr_up] at Wx
  refine lv_aload_n hx hb dX8_clear_7 rfl (lv_at hl 0 rfl) ?_
  refine g_get X w 73 (F.1 73 (by have := Wx.1; omega) rfl) (by have := Wx.1; omega) (Wx.o xm_73) kc8 1 (by decide) rfl k_RX8_18 (v := .ref (ad1 76)) rfl dX8_clear_8 ?_
  refine lv_eqr (F.1 76 (by have := Wx.1; omega) rfl) ?_
  refine c_V (As := []) (rest := []) X w (ct_X5_clear l D G t N ad1 cl2 76 _ _ (Wx.2.1 76 (by decide +kernel)) (d - 1)) YX5_clear k_RX8_21 (76) (F.1 76 (by have := Wx.1; omega) rfl) (by have := Wx.1; omega) (Wx.2.1 76 (by decide +kernel)).2.1 kc5 (by rw [(F.1 76 (by have := Wx.1; omega) rfl)]) rfl rfl hl.1 (rm_call (by omega) (by decide)) (Nat.le_of_ble_eq_true rfl) dX8_clear_11 (⟨Nat.zero_le _, Nat.zero_le _⟩) (fun u H locs hp w => ?_)
  obtain ⟨ad3, cl4, rfl, hR9, hF9⟩ := hp
  have w : Wd D A s H locs N ad3 cl4 := w
  have Wx := Wx.row (q := 76) (by decide +kernel) hF9 hR9
  have F : FrX N ad cl ad3 cl4 := F.tr (FrX.of (q := 76) (by decide +kernel) hF9)
  rw [va_up_id, clr_up] at Wx
  exact e_V X hr w ⟨ad3, cl4, rfl, Wx, F⟩ (Nat.le_of_ble_eq_true rfl) (Nat.le_of_ble_eq_true rfl) dX8_clear_14
set_option maxHeartbeats 4000000 in
set_option maxRecDepth 100000 in
theorem cx_8_clear_97 (l : Launch) (D : va_G) (G : Nat → ClassId) (t : Nat → Nat) (N : Nat) (ad : Nat → Nat) (cl : Nat → va_E) (c : Nat → Nat) (xs : Nat → List Int32) (v : Nat → Nat → Int32) (g : Nat → Nat → Int32) (nb : Nat → Nat) (Wx : XW G N ad cl c xs v g nb) (d : Nat) (hd : 2 ≤ d) : CtV l yX8_clear cX8_clear 1 (rmD d 0 0) D G t (N, ad, cl) [.ref (ad 97)] (fun u => ∃ ad' cl', u = (N, ad', cl') ∧ XW G N ad' cl' c (clr xs [100, 98]) (v) (g) nb ∧ FrX N ad cl ad' cl') := by
  refine ct_V (own := RX8) (by decide +kernel) rfl (Nat.le_of_ble_eq_true rfl) rfl ?_
  intro p e s m args below meth cd A ls X hr hin hl w
  obtain ⟨hx, hb, hml, hown, hts, -⟩ := id X
  have hl : lv_has ls 1 [(0, .ref (ad 97))] := hl
  have F : FrX N ad cl ad cl := FrX.rf
  rw [← clr_nil xs] at Wx
  refine lv_aload_n hx hb dX8_clear_0 rfl (lv_at hl 0 rfl) ?_
  refine g_get X w 97 rfl (by have := Wx.1; omega) (Wx.o xm_97) kc8 0 (by decide) rfl k_RX8_12 (v := .ref (ad 98)) rfl dX8_clear_1 ?_
  refine c_V (As := []) (rest := []) X w (ct_X5_clear l D G t N ad cl 98 _ _ (Wx.2.1 98 (by decide +kernel)) (d - 1)) YX5_clear k_RX8_21 (98) rfl (by have := Wx.1; omega) (Wx.2.1 98 (by decide +kernel)).2.1 kc5 (rfl) rfl rfl hl.1 (rm_call (by omega) (by decide)) (Nat.le_of_ble_eq_true rfl) dX8_clear_4 (⟨Nat.zero_le _, Nat.zero_le _⟩) (fun u H locs hp w => ?_)
  obtain ⟨ad1, cl2, rfl, hR9, hF9⟩ := hp
  have w : Wd D A s H locs N ad1 cl2 := w
  have Wx := Wx.row (q := 98) (by decide +kernel) hF9 hR9
  have F : FrX N ad cl ad1 cl2 := F.tr (FrX.of (q := 98) (by decide +kernel) hF9)
  rw [va_up_id, clr_up] at Wx
  refine lv_aload_n hx hb dX8_clear_7 rfl (lv_at hl 0 rfl) ?_
  refine g_get X w 97 (F.1 97 (by have := Wx.1; omega) rfl) (by have := Wx.1; omega) (Wx.o xm_97) kc8 1 (by decide) rfl k_RX8_18 (v := .ref (ad1 100)) rfl dX8_clear_8 ?_
  refine lv_eqr (F.1 100 (by have := Wx.1; omega) rfl) ?_
  refine c_V (As := []) (rest := []) X w (ct_X5_clear l D G t N ad1 cl2 100 _ _ (Wx.2.1 100 (by decide +kernel)) (d - 1)) YX5_clear k_RX8_21 (100) (F.1 100 (by have := Wx.1; omega) rfl) (by have := Wx.1; omega) (Wx.2.1 100 (by decide +kernel)).2.1 kc5 (by rw [(F.1 100 (by have := Wx.1; omega) rfl)]) rfl rfl hl.1 (rm_call (by omega) (by decide)) (Nat.le_of_ble_eq_true rfl) dX8_clear_11 (⟨Nat.zero_le _, Nat.zero_le _⟩) (fun u H locs hp w => ?_)
  obtain ⟨ad3, cl4, rfl, hR9, hF9⟩ := hp
  have w : Wd D A s H locs N ad3 cl4 := w
  have Wx := Wx.row (q := 100) (by decide +kernel) hF9 hR9
  have F : FrX N ad cl ad3 cl4 := F.tr (FrX.of (q := 100) (by decide +kernel) hF9)
  rw [va_up_id, clr_up] at Wx
  exact e_V X hr w ⟨ad3, cl4, rfl, Wx, F⟩ (Nat.le_of_ble_eq_true rfl) (Nat.le_of_ble_eq_true rfl) dX8_clear_14
set_option maxHeartbeats 4000000 in
set_option maxRecDepth 100000 in
theorem cx_8_clear_104 (l : Launch) (D : va_G) (G : Nat → ClassId) (t : Nat → Nat) (N : Nat) (ad : Nat → Nat) (cl : Nat → va_E) (c : Nat → Nat) (xs : Nat → List Int32) (v : Nat → Nat → Int32) (g : Nat → Nat → Int32) (nb : Nat → Nat) (Wx : XW G N ad cl c xs v g nb) (d : Nat) (hd : 2 ≤ d) : CtV l yX8_clear cX8_clear 1 (rmD d 0 0) D G t (N, ad, cl) [.ref (ad 104)] (fun u => ∃ ad' cl', u = (N, ad', cl') ∧ XW G N ad' cl' c (clr xs [107, 105]) (v) (g) nb ∧ FrX N ad cl ad' cl') := by
  refine ct_V (own := RX8) (by decide +kernel) rfl (Nat.le_of_ble_eq_true rfl) rfl ?_
  intro p e s m args below meth cd A ls X hr hin hl w
  obtain ⟨hx, hb, hml, hown, hts, -⟩ := id X
  have hl : lv_has ls 1 [(0, .ref (ad 104))] := hl
  have F : FrX N ad cl ad cl := FrX.rf
  rw [← clr_nil xs] at Wx
  refine lv_aload_n hx hb dX8_clear_0 rfl (lv_at hl 0 rfl) ?_
  refine g_get X w 104 rfl (by have := Wx.1; omega) (Wx.o xm_104) kc8 0 (by decide) rfl k_RX8_12 (v := .ref (ad 105)) rfl dX8_clear_1 ?_
  refine c_V (As := []) (rest := []) X w (ct_X5_clear l D G t N ad cl 105 _ _ (Wx.2.1 105 (by decide +kernel)) (d - 1)) YX5_clear k_RX8_21 (105) rfl (by have := Wx.1; omega) (Wx.2.1 105 (by decide +kernel)).2.1 kc5 (rfl) rfl rfl hl.1 (rm_call (by omega) (by decide)) (Nat.le_of_ble_eq_true rfl) dX8_clear_4 (⟨Nat.zero_le _, Nat.zero_le _⟩) (fun u H locs hp w => ?_)
  obtain ⟨ad1, cl2, rfl, hR9, hF9⟩ := hp
  have w : Wd D A s H locs N ad1 cl2 := w
  have Wx := Wx.row (q := 105) (by decide +kernel) hF9 hR9
  have F : FrX N ad cl ad1 cl2 := F.tr (FrX.of (q := 105) (by decide +kernel) hF9)
  rw [va_up_id, clr_up] at Wx
  refine lv_aload_n hx hb dX8_clear_7 rfl (lv_at hl 0 rfl) ?_
  refine g_get X w 104 (F.1 104 (by have := Wx.1; omega) rfl) (by have := Wx.1; omega) (Wx.o xm_104) kc8 1 (by decide) rfl k_RX8_18 (v := .ref (ad1 107)) rfl dX8_clear_8 ?_
  refine lv_eqr (F.1 107 (by have := Wx.1; omega) rfl) ?_
  refine c_V (As := []) (rest := []) X w (ct_X5_clear l D G t N ad1 cl2 107 _ _ (Wx.2.1 107 (by decide +kernel)) (d - 1)) YX5_clear k_RX8_21 (107) (F.1 107 (by have := Wx.1; omega) rfl) (by have := Wx.1; omega) (Wx.2.1 107 (by decide +kernel)).2.1 kc5 (by rw [(F.1 107 (by have := Wx.1; omega) rfl)]) rfl rfl hl.1 (rm_call (by omega) (by decide)) (Nat.le_of_ble_eq_true rfl) dX8_clear_11 (⟨Nat.zero_le _, Nat.zero_le _⟩) (fun u H locs hp w => ?_)
  obtain ⟨ad3, cl4, rfl, hR9, hF9⟩ := hp
  have w : Wd D A s H locs N ad3 cl4 := w
  have Wx := Wx.row (q := 107) (by decide +kernel) hF9 hR9
  have F : FrX N ad cl ad3 cl4 := F.tr (FrX.of (q := 107) (by decide +kernel) hF9)
  rw [va_up_id, clr_up] at Wx
  exact e_V X hr w ⟨ad3, cl4, rfl, Wx, F⟩ (Nat.le_of_ble_eq_true rfl) (Nat.le_of_ble_eq_true rfl) dX8_clear_14
set_option maxHeartbeats 4000000 in
set_option maxRecDepth 100000 in
theorem cx_8_clear_129 (l : Launch) (D : va_G) (G : Nat → ClassId) (t : Nat → Nat) (N : Nat) (ad : Nat → Nat) (cl : Nat → va_E) (c : Nat → Nat) (xs : Nat → List Int32) (v : Nat → Nat → Int32) (g : Nat → Nat → Int32) (nb : Nat → Nat) (Wx : XW G N ad cl c xs v g nb) (d : Nat) (hd : 2 ≤ d) : CtV l yX8_clear cX8_clear 1 (rmD d 0 0) D G t (N, ad, cl) [.ref (ad 129)] (fun u => ∃ ad' cl', u = (N, ad', cl') ∧ XW G N ad' cl' c (clr xs [132, 130]) (v) (g) nb ∧ FrX N ad cl ad' cl') := by
  refine ct_V (own := RX8) (by decide +kernel) rfl (Nat.le_of_ble_eq_true rfl) rfl ?_
  intro p e s m args below meth cd A ls X hr hin hl w
  obtain ⟨hx, hb, hml, hown, hts, -⟩ := id X
  have hl : lv_has ls 1 [(0, .ref (ad 129))] := hl
  have F : FrX N ad cl ad cl := FrX.rf
  rw [← clr_nil xs] at Wx
  refine lv_aload_n hx hb dX8_clear_0 rfl (lv_at hl 0 rfl) ?_
  refine g_get X w 129 rfl (by have := Wx.1; omega) (Wx.o xm_129) kc8 0 (by decide) rfl k_RX8_12 (v := .ref (ad 130)) rfl dX8_clear_1 ?_
  refine c_V (As := []) (rest := []) X w (ct_X5_clear l D G t N ad cl 130 _ _ (Wx.2.1 130 (by decide +kernel)) (d - 1)) YX5_clear k_RX8_21 (130) rfl (by have := Wx.1; omega) (Wx.2.1 130 (by decide +kernel)).2.1 kc5 (rfl) rfl rfl hl.1 (rm_call (by omega) (by decide)) (Nat.le_of_ble_eq_true rfl) dX8_clear_4 (⟨Nat.zero_le _, Nat.zero_le _⟩) (fun u H locs hp w => ?_)
  obtain ⟨ad1, cl2, rfl, hR9, hF9⟩ := hp
  have w : Wd D A s H locs N ad1 cl2 := w
  have Wx := Wx.row (q := 130) (by decide +kernel) hF9 hR9
  have F : FrX N ad cl ad1 cl2 := F.tr (FrX.of (q := 130) (by decide +kernel) hF9)
  rw [va_up_id, clr_up] at Wx
  refine lv_aload_n hx hb dX8_clear_7 rfl (lv_at hl 0 rfl) ?_
  refine g_get X w 129 (F.1 129 (by have := Wx.1; omega) rfl) (by have := Wx.1; omega) (Wx.o xm_129) kc8 1 (by decide) rfl k_RX8_18 (v := .ref (ad1 132)) rfl dX8_clear_8 ?_
  refine lv_eqr (F.1 132 (by have := Wx.1; omega) rfl) ?_
  refine c_V (As := []) (rest := []) X w (ct_X5_clear l D G t N ad1 cl2 132 _ _ (Wx.2.1 132 (by decide +kernel)) (d - 1)) YX5_clear k_RX8_21 (132) (F.1 132 (by have := Wx.1; omega) rfl) (by have := Wx.1; omega) (Wx.2.1 132 (by decide +kernel)).2.1 kc5 (by rw [(F.1 132 (by have := Wx.1; omega) rfl)]) rfl rfl hl.1 (rm_call (by omega) (by decide)) (Nat.le_of_ble_eq_true rfl) dX8_clear_11 (⟨Nat.zero_le _, Nat.zero_le _⟩) (fun u H locs hp w => ?_)
  obtain ⟨ad3, cl4, rfl, hR9, hF9⟩ := hp
  have w : Wd D A s H locs N ad3 cl4 := w
  have Wx := Wx.row (q := 132) (by decide +kernel) hF9 hR9
  have F : FrX N ad cl ad3 cl4 := F.tr (FrX.of (q := 132) (by decide +kernel) hF9)
  rw [va_up_id, clr_up] at Wx
  exact e_V X hr w ⟨ad3, cl4, rfl, Wx, F⟩ (Nat.le_of_ble_eq_true rfl) (Nat.le_of_ble_eq_true rfl) dX8_clear_14
set_option maxHeartbeats 4000000 in
set_option maxRecDepth 100000 in
theorem cx_8_clear_151 (l : Launch) (D : va_G) (G : Nat → ClassId) (t : Nat → Nat) (N : Nat) (ad : Nat → Nat) (cl : Nat → va_E) (c : Nat → Nat) (xs : Nat → List Int32) (v : Nat → Nat → Int32) (g : Nat → Nat → Int32) (nb : Nat → Nat) (Wx : XW G N ad cl c xs v g nb) (d : Nat) (hd : 2 ≤ d) : CtV l yX8_clear cX8_clear 1 (rmD d 0 0) D G t (N, ad, cl) [.ref (ad 151)] (fun u => ∃ ad' cl', u = (N, ad', cl') ∧ XW G N ad' cl' c (clr xs [154, 152]) (v) (g) nb ∧ FrX N ad cl ad' cl') := by
  refine ct_V (own := RX8) (by decide +kernel) rfl (Nat.le_of_ble_eq_true rfl) rfl ?_
  intro p e s m args below meth cd A ls X hr hin hl w
  obtain ⟨hx, hb, hml, hown, hts, -⟩ := id X
  have hl : lv_has ls 1 [(0, .ref (ad 151))] := hl
  have F : FrX N ad cl ad cl := FrX.rf
  rw [← clr_nil xs] at Wx
  refine lv_aload_n hx hb dX8_clear_0 rfl (lv_at hl 0 rfl) ?_
  refine g_get X w 151 rfl (by have := Wx.1; omega) (Wx.o xm_151) kc8 0 (by decide) rfl k_RX8_12 (v := .ref (ad 152)) rfl dX8_clear_1 ?_
  refine c_V (As := []) (rest := []) X w (ct_X5_clear l D G t N ad cl 152 _ _ (Wx.2.1 152 (by decide +kernel)) (d - 1)) YX5_clear k_RX8_21 (152) rfl (by have := Wx.1; omega) (Wx.2.1 152 (by decide +kernel)).2.1 kc5 (rfl) rfl rfl hl.1 (rm_call (by omega) (by decide)) (Nat.le_of_ble_eq_true rfl) dX8_clear_4 (⟨Nat.zero_le _, Nat.zero_le _⟩) (fun u H locs hp w => ?_)
  obtain ⟨ad1, cl2, rfl, hR9, hF9⟩ := hp
  have w : Wd D A s H locs N ad1 cl2 := w
  have Wx := Wx.row (q := 152) (by decide +kernel) hF9 hR9
  have F : FrX N ad cl ad1 cl2 := F.tr (FrX.of (q := 152) (by decide +kernel) hF9)
  rw [va_up_id, clr_up] at Wx
  refine lv_aload_n hx hb dX8_clear_7 rfl (lv_at hl 0 rfl) ?_
  refine g_get X w 151 (F.1 151 (by have := Wx.1; omega) rfl) (by have := Wx.1; omega) (Wx.o xm_151) kc8 1 (by decide) rfl k_RX8_18 (v := .ref (ad1 154)) rfl dX8_clear_8 ?_
  refine lv_eqr (F.1 154 (by have := Wx.1; omega) rfl) ?_
  refine c_V (As := []) (rest := []) X w (ct_X5_clear l D G t N ad1 cl2 154 _ _ (Wx.2.1 154 (by decide +kernel)) (d - 1)) YX5_clear k_RX8_21 (154) (F.1 154 (by have := Wx.1; omega) rfl) (by have := Wx.1; omega) (Wx.2.1 154 (by decide +kernel)).2.1 kc5 (by rw [(F.1 154 (by have := Wx.1; omega) rfl)]) rfl rfl hl.1 (rm_call (by omega) (by decide)) (Nat.le_of_ble_eq_true rfl) dX8_clear_11 (⟨Nat.zero_le _, Nat.zero_le _⟩) (fun u H locs hp w => ?_)
  obtain ⟨ad3, cl4, rfl, hR9, hF9⟩ := hp
  have w : Wd D A s H locs N ad3 cl4 := w
  have Wx := Wx.row (q := 154) (by decide +kernel) hF9 hR9
  have F : FrX N ad cl ad3 cl4 := F.tr (FrX.of (q := 154) (by decide +kernel) hF9)
  rw [va_up_id, clr_up] at Wx
  exact e_V X hr w ⟨ad3, cl4, rfl, Wx, F⟩ (Nat.le_of_ble_eq_true rfl) (Nat.le_of_ble_eq_true rfl) dX8_clear_14
set_option maxHeartbeats 4000000 in
set_option maxRecDepth 100000 in
theorem cx_8_clear_164 (l : Launch) (D : va_G) (G : Nat → ClassId) (t : Nat → Nat) (N : Nat) (ad : Nat → Nat) (cl : Nat → va_E) (c : Nat → Nat) (xs : Nat → List Int32) (v : Nat → Nat → Int32) (g : Nat → Nat → Int32) (nb : Nat → Nat) (Wx : XW G N ad cl c xs v g nb) (d : Nat) (hd : 2 ≤ d) : CtV l yX8_clear cX8_clear 1 (rmD d 0 0) D G t (N, ad, cl) [.ref (ad 164)] (fun u => ∃ ad' cl', u = (N, ad', cl') ∧ XW G N ad' cl' c (clr xs [167, 165]) (v) (g) nb ∧ FrX N ad cl ad' cl') := by
  refine ct_V (own := RX8) (by decide +kernel) rfl (Nat.le_of_ble_eq_true rfl) rfl ?_
  intro p e s m args below meth cd A ls X hr hin hl w
  obtain ⟨hx, hb, hml, hown, hts, -⟩ := id X
  have hl : lv_has ls 1 [(0, .ref (ad 164))] := hl
  have F : FrX N ad cl ad cl := FrX.rf
  rw [← clr_nil xs] at Wx
  refine lv_aload_n hx hb dX8_clear_0 rfl (lv_at hl 0 rfl) ?_
  refine g_get X w 164 rfl (by have := Wx.1; omega) (Wx.o xm_164) kc8 0 (by decide) rfl k_RX8_12 (v := .ref (ad 165)) rfl dX8_clear_1 ?_
  refine c_V (As := []) (rest := []) X w (ct_X5_clear l D G t N ad cl 165 _ _ (Wx.2.1 165 (by decide +kernel)) (d - 1)) YX5_clear k_RX8_21 (165) rfl (by have := Wx.1; omega) (Wx.2.1 165 (by decide +kernel)).2.1 kc5 (rfl) rfl rfl hl.1 (rm_call (by omega) (by decide)) (Nat.le_of_ble_eq_true rfl) dX8_clear_4 (⟨Nat.zero_le _, Nat.zero_le _⟩) (fun u H locs hp w => ?_)
  obtain ⟨ad1, cl2, rfl, hR9, hF9⟩ := hp
  have w : Wd D A s H locs N ad1 cl2 := w
  have Wx := Wx.row (q := 165) (by decide +kernel) hF9 hR9
  have F : FrX N ad cl ad1 cl2 := F.tr (FrX.of (q := 165) (by decide +kernel) hF9)
  rw [va_up_id, clr_up] at Wx
  refine lv_aload_n hx hb dX8_clear_7 rfl (lv_at hl 0 rfl) ?_
  refine g_get X w 164 (F.1 164 (by have := Wx.1; omega) rfl) (by have := Wx.1; omega) (Wx.o xm_164) kc8 1 (by decide) rfl k_RX8_18 (v := .ref (ad1 167)) rfl dX8_clear_8 ?_
  refine lv_eqr (F.1 167 (by have := Wx.1; omega) rfl) ?_
  refine c_V (As := []) (rest := []) X w (ct_X5_clear l D G t N ad1 cl2 167 _ _ (Wx.2.1 167 (by decide +kernel)) (d - 1)) YX5_clear k_RX8_21 (167) (F.1 167 (by have := Wx.1; omega) rfl) (by have := Wx.1; omega) (Wx.2.1 167 (by decide +kernel)).2.1 kc5 (by rw [(F.1 167 (by have := Wx.1; omega) rfl)]) rfl rfl hl.1 (rm_call (by omega) (by decide)) (Nat.le_of_ble_eq_true rfl) dX8_clear_11 (⟨Nat.zero_le _, Nat.zero_le _⟩) (fun u H locs hp w => ?_)
  obtain ⟨ad3, cl4, rfl, hR9, hF9⟩ := hp
  have w : Wd D A s H locs N ad3 cl4 := w
  have Wx := Wx.row (q := 167) (by decide +kernel) hF9 hR9
  have F : FrX N ad cl ad3 cl4 := F.tr (FrX.of (q := 167) (by decide +kernel) hF9)
  rw [va_up_id, clr_up] at Wx
  exact e_V X hr w ⟨ad3, cl4, rfl, Wx, F⟩ (Nat.le_of_ble_eq_true rfl) (Nat.le_of_ble_eq_true rfl) dX8_clear_14
set_option maxHeartbeats 4000000 in
set_option maxRecDepth 100000 in
theorem cx_8_clear_169 (l : Launch) (D : va_G) (G : Nat → ClassId) (t : Nat → Nat) (N : Nat) (ad : Nat → Nat) (cl : Nat → va_E) (c : Nat → Nat) (xs : Nat → List Int32) (v : Nat → Nat → Int32) (g : Nat → Nat → Int32) (nb : Nat → Nat) (Wx : XW G N ad cl c xs v g nb) (d : Nat) (hd : 2 ≤ d) : CtV l yX8_clear cX8_clear 1 (rmD d 0 0) D G t (N, ad, cl) [.ref (ad 169)] (fun u => ∃ ad' cl', u = (N, ad', cl') ∧ XW G N ad' cl' c (clr xs [172, 170]) (v) (g) nb ∧ FrX N ad cl ad' cl') := by
  refine ct_V (own := RX8) (by decide +kernel) rfl (Nat.le_of_ble_eq_true rfl) rfl ?_
  intro p e s m args below meth cd A ls X hr hin hl w
  obtain ⟨hx, hb, hml, hown, hts, -⟩ := id X
  have hl : lv_has ls 1 [(0, .ref (ad 169))] := hl
  have F : FrX N ad cl ad cl := FrX.rf
  rw [← clr_nil xs] at Wx
  refine lv_aload_n hx hb dX8_clear_0 rfl (lv_at hl 0 rfl) ?_
  refine g_get X w 169 rfl (by have := Wx.1; omega) (Wx.o xm_169) kc8 0 (by decide) rfl k_RX8_12 (v := .ref (ad 170)) rfl dX8_clear_1 ?_
  refine c_V (As := []) (rest := []) X w (ct_X5_clear l D G t N ad cl 170 _ _ (Wx.2.1 170 (by decide +kernel)) (d - 1)) YX5_clear k_RX8_21 (170) rfl (by have := Wx.1; omega) (Wx.2.1 170 (by decide +kernel)).2.1 kc5 (rfl) rfl rfl hl.1 (rm_call (by omega) (by decide)) (Nat.le_of_ble_eq_true rfl) dX8_clear_4 (⟨Nat.zero_le _, Nat.zero_le _⟩) (fun u H locs hp w => ?_)
  obtain ⟨ad1, cl2, rfl, hR9, hF9⟩ := hp
  have w : Wd D A s H locs N ad1 cl2 := w
  have Wx := Wx.row (q := 170) (by decide +kernel) hF9 hR9
  have F : FrX N ad cl ad1 cl2 := F.tr (FrX.of (q := 170) (by decide +kernel) hF9)
  rw [va_up_id, clr_up] at Wx
  refine lv_aload_n hx hb dX8_clear_7 rfl (lv_at hl 0 rfl) ?_
  refine g_get X w 169 (F.1 169 (by have := Wx.1; omega) rfl) (by have := Wx.1; omega) (Wx.o xm_169) kc8 1 (by decide) rfl k_RX8_18 (v := .ref (ad1 172)) rfl dX8_clear_8 ?_
  refine lv_eqr (F.1 172 (by have := Wx.1; omega) rfl) ?_
  refine c_V (As := []) (rest := []) X w (ct_X5_clear l D G t N ad1 cl2 172 _ _ (Wx.2.1 172 (by decide +kernel)) (d - 1)) YX5_clear k_RX8_21 (172) (F.1 172 (by have := Wx.1; omega) rfl) (by have := Wx.1; omega) (Wx.2.1 172 (by decide +kernel)).2.1 kc5 (by rw [(F.1 172 (by have := Wx.1; omega) rfl)]) rfl rfl hl.1 (rm_call (by omega) (by decide)) (Nat.le_of_ble_eq_true rfl) dX8_clear_11 (⟨Nat.zero_le _, Nat.zero_le _⟩) (fun u H locs hp w => ?_)
  obtain ⟨ad3, cl4, rfl, hR9, hF9⟩ := hp
  have w : Wd D A s H locs N ad3 cl4 := w
  have Wx := Wx.row (q := 172) (by decide +kernel) hF9 hR9
  have F : FrX N ad cl ad3 cl4 := F.tr (FrX.of (q := 172) (by decide +kernel) hF9)
  rw [va_up_id, clr_up] at Wx
  exact e_V X hr w ⟨ad3, cl4, rfl, Wx, F⟩ (Nat.le_of_ble_eq_true rfl) (Nat.le_of_ble_eq_true rfl) dX8_clear_14
set_option maxHeartbeats 4000000 in
set_option maxRecDepth 100000 in
theorem cx_8_clear_176 (l : Launch) (D : va_G) (G : Nat → ClassId) (t : Nat → Nat) (N : Nat) (ad : Nat → Nat) (cl : Nat → va_E) (c : Nat → Nat) (xs : Nat → List Int32) (v : Nat → Nat → Int32) (g : Nat → Nat → Int32) (nb : Nat → Nat) (Wx : XW G N ad cl c xs v g nb) (d : Nat) (hd : 2 ≤ d) : CtV l yX8_clear cX8_clear 1 (rmD d 0 0) D G t (N, ad, cl) [.ref (ad 176)] (fun u => ∃ ad' cl', u = (N, ad', cl') ∧ XW G N ad' cl' c (clr xs [179, 177]) (v) (g) nb ∧ FrX N ad cl ad' cl') := by
  refine ct_V (own := RX8) (by decide +kernel) rfl (Nat.le_of_ble_eq_true rfl) rfl ?_
  intro p e s m args below meth cd A ls X hr hin hl w
  obtain ⟨hx, hb, hml, hown, hts, -⟩ := id X
  have hl : lv_has ls 1 [(0, .ref (ad 176))] := hl
  have F : FrX N ad cl ad cl := FrX.rf
  rw [← clr_nil xs] at Wx
  refine lv_aload_n hx hb dX8_clear_0 rfl (lv_at hl 0 rfl) ?_
  refine g_get X w 176 rfl (by have := Wx.1; omega) (Wx.o xm_176) kc8 0 (by decide) rfl k_RX8_12 (v := .ref (ad 177)) rfl dX8_clear_1 ?_
  refine c_V (As := []) (rest := []) X w (ct_X5_clear l D G t N ad cl 177 _ _ (Wx.2.1 177 (by decide +kernel)) (d - 1)) YX5_clear k_RX8_21 (177) rfl (by have := Wx.1; omega) (Wx.2.1 177 (by decide +kernel)).2.1 kc5 (rfl) rfl rfl hl.1 (rm_call (by omega) (by decide)) (Nat.le_of_ble_eq_true rfl) dX8_clear_4 (⟨Nat.zero_le _, Nat.zero_le _⟩) (fun u H locs hp w => ?_)
  obtain ⟨ad1, cl2, rfl, hR9, hF9⟩ := hp
  have w : Wd D A s H locs N ad1 cl2 := w
  have Wx := Wx.row (q := 177) (by decide +kernel) hF9 hR9
  have F : FrX N ad cl ad1 cl2 := F.tr (FrX.of (q := 177) (by decide +kernel) hF9)
  rw [va_up_id, clr_up] at Wx
  refine lv_aload_n hx hb dX8_clear_7 rfl (lv_at hl 0 rfl) ?_
  refine g_get X w 176 (F.1 176 (by have := Wx.1; omega) rfl) (by have := Wx.1; omega) (Wx.o xm_176) kc8 1 (by decide) rfl k_RX8_18 (v := .ref (ad1 179)) rfl dX8_clear_8 ?_
  refine lv_eqr (F.1 179 (by have := Wx.1; omega) rfl) ?_
  refine c_V (As := []) (rest := []) X w (ct_X5_clear l D G t N ad1 cl2 179 _ _ (Wx.2.1 179 (by decide +kernel)) (d - 1)) YX5_clear k_RX8_21 (179) (F.1 179 (by have := Wx.1; omega) rfl) (by have := Wx.1; omega) (Wx.2.1 179 (by decide +kernel)).2.1 kc5 (by rw [(F.1 179 (by have := Wx.1; omega) rfl)]) rfl rfl hl.1 (rm_call (by omega) (by decide)) (Nat.le_of_ble_eq_true rfl) dX8_clear_11 (⟨Nat.zero_le _, Nat.zero_le _⟩) (fun u H locs hp w => ?_)
  obtain ⟨ad3, cl4, rfl, hR9, hF9⟩ := hp
  have w : Wd D A s H locs N ad3 cl4 := w
  have Wx := Wx.row (q := 179) (by decide +kernel) hF9 hR9
  have F : FrX N ad cl ad3 cl4 := F.tr (FrX.of (q := 179) (by decide +kernel) hF9)
  rw [va_up_id, clr_up] at Wx
  exact e_V X hr w ⟨ad3, cl4, rfl, Wx, F⟩ (Nat.le_of_ble_eq_true rfl) (Nat.le_of_ble_eq_true rfl) dX8_clear_14
set_option maxHeartbeats 4000000 in
set_option maxRecDepth 100000 in
theorem cx_8_clear_187 (l : Launch) (D : va_G) (G : Nat → ClassId) (t : Nat → Nat) (N : Nat) (ad : Nat → Nat) (cl : Nat → va_E) (c : Nat → Nat) (xs : Nat → List Int32) (v : Nat → Nat → Int32) (g : Nat → Nat → Int32) (nb : Nat → Nat) (Wx : XW G N ad cl c xs v g nb) (d : Nat) (hd : 2 ≤ d) : CtV l yX8_clear cX8_clear 1 (rmD d 0 0) D G t (N, ad, cl) [.ref (ad 187)] (fun u => ∃ ad' cl', u = (N, ad', cl') ∧ XW G N ad' cl' c (clr xs [190, 188]) (v) (g) nb ∧ FrX N ad cl ad' cl') := by
  refine ct_V (own := RX8) (by decide +kernel) rfl (Nat.le_of_ble_eq_true rfl) rfl ?_
  intro p e s m args below meth cd A ls X hr hin hl w
  obtain ⟨hx, hb, hml, hown, hts, -⟩ := id X
  have hl : lv_has ls 1 [(0, .ref (ad 187))] := hl
  have F : FrX N ad cl ad cl := FrX.rf
  rw [← clr_nil xs] at Wx
  refine lv_aload_n hx hb dX8_clear_0 rfl (lv_at hl 0 rfl) ?_
  refine g_get X w 187 rfl (by have := Wx.1; omega) (Wx.o xm_187) kc8 0 (by decide) rfl k_RX8_12 (v := .ref (ad 188)) rfl dX8_clear_1 ?_
  refine c_V (As := []) (rest := []) X w (ct_X5_clear l D G t N ad cl 188 _ _ (Wx.2.1 188 (by decide +kernel)) (d - 1)) YX5_clear k_RX8_21 (188) rfl (by have := Wx.1; omega) (Wx.2.1 188 (by decide +kernel)).2.1 kc5 (rfl) rfl rfl hl.1 (rm_call (by omega) (by decide)) (Nat.le_of_ble_eq_true rfl) dX8_clear_4 (⟨Nat.zero_le _, Nat.zero_le _⟩) (fun u H locs hp w => ?_)
  obtain ⟨ad1, cl2, rfl, hR9, hF9⟩ := hp
  have w : Wd D A s H locs N ad1 cl2 := w
  have Wx := Wx.row (q := 188) (by decide +kernel) hF9 hR9
  have F : FrX N ad cl ad1 cl2 := F.tr (FrX.of (q := 188) (by decide +kernel) hF9)
  rw [va_up_id, clr_up] at Wx
  refine lv_aload_n hx hb dX8_clear_7 rfl (lv_at hl 0 rfl) ?_
  refine g_get X w 187 (F.1 187 (by have := Wx.1; omega) rfl) (by have := Wx.1; omega) (Wx.o xm_187) kc8 1 (by decide) rfl k_RX8_18 (v := .ref (ad1 190)) rfl dX8_clear_8 ?_
  refine lv_eqr (F.1 190 (by have := Wx.1; omega) rfl) ?_
  refine c_V (As := []) (rest := []) X w (ct_X5_clear l D G t N ad1 cl2 190 _ _ (Wx.2.1 190 (by decide +kernel)) (d - 1)) YX5_clear k_RX8_21 (190) (F.1 190 (by have := Wx.1; omega) rfl) (by have := Wx.1; omega) (Wx.2.1 190 (by decide +kernel)).2.1 kc5 (by rw [(F.1 190 (by have := Wx.1; omega) rfl)]) rfl rfl hl.1 (rm_call (by omega) (by decide)) (Nat.le_of_ble_eq_true rfl) dX8_clear_11 (⟨Nat.zero_le _, Nat.zero_le _⟩) (fun u H locs hp w => ?_)
  obtain ⟨ad3, cl4, rfl, hR9, hF9⟩ := hp
  have w : Wd D A s H locs N ad3 cl4 := w
  have Wx := Wx.row (q := 190) (by decide +kernel) hF9 hR9
  have F : FrX N ad cl ad3 cl4 := F.tr (FrX.of (q := 190) (by decide +kernel) hF9)
  rw [va_up_id, clr_up] at Wx
  exact e_V X hr w ⟨ad3, cl4, rfl, Wx, F⟩ (Nat.le_of_ble_eq_true rfl) (Nat.le_of_ble_eq_true rfl) dX8_clear_14
set_option maxHeartbeats 4000000 in
set_option maxRecDepth 100000 in
theorem cx_8_clear_213 (l : Launch) (D : va_G) (G : Nat → ClassId) (t : Nat → Nat) (N : Nat) (ad : Nat → Nat) (cl : Nat → va_E) (c : Nat → Nat) (xs : Nat → List Int32) (v : Nat → Nat → Int32) (g : Nat → Nat → Int32) (nb : Nat → Nat) (Wx : XW G N ad cl c xs v g nb) (d : Nat) (hd : 2 ≤ d) : CtV l yX8_clear cX8_clear 1 (rmD d 0 0) D G t (N, ad, cl) [.ref (ad 213)] (fun u => ∃ ad' cl', u = (N, ad', cl') ∧ XW G N ad' cl' c (clr xs [216, 214]) (v) (g) nb ∧ FrX N ad cl ad' cl') := by
  refine ct_V (own := RX8) (by decide +kernel) rfl (Nat.le_of_ble_eq_true rfl) rfl ?_
  intro p e s m args below meth cd A ls X hr hin hl w
  obtain ⟨hx, hb, hml, hown, hts, -⟩ := id X
  have hl : lv_has ls 1 [(0, .ref (ad 213))] := hl
  have F : FrX N ad cl ad cl := FrX.rf
  rw [← clr_nil xs] at Wx
  refine lv_aload_n hx hb dX8_clear_0 rfl (lv_at hl 0 rfl) ?_
  refine g_get X w 213 rfl (by have := Wx.1; omega) (Wx.o xm_213) kc8 0 (by decide) rfl k_RX8_12 (v := .ref (ad 214)) rfl dX8_clear_1 ?_
  refine c_V (As := []) (rest := []) X w (ct_X5_clear l D G t N ad cl 214 _ _ (Wx.2.1 214 (by decide +kernel)) (d - 1)) YX5_clear k_RX8_21 (214) rfl (by have := Wx.1; omega) (Wx.2.1 214 (by decide +kernel)).2.1 kc5 (rfl) rfl rfl hl.1 (rm_call (by omega) (by decide)) (Nat.le_of_ble_eq_true rfl) dX8_clear_4 (⟨Nat.zero_le _, Nat.zero_le _⟩) (fun u H locs hp w => ?_)
  obtain ⟨ad1, cl2, rfl, hR9, hF9⟩ := hp
  have w : Wd D A s H locs N ad1 cl2 := w
  have Wx := Wx.row (q := 214) (by decide +kernel) hF9 hR9
  have F : FrX N ad cl ad1 cl2 := F.tr (FrX.of (q := 214) (by decide +kernel) hF9)
  rw [va_up_id, clr_up] at Wx
  refine lv_aload_n hx hb dX8_clear_7 rfl (lv_at hl 0 rfl) ?_
  refine g_get X w 213 (F.1 213 (by have := Wx.1; omega) rfl) (by have := Wx.1; omega) (Wx.o xm_213) kc8 1 (by decide) rfl k_RX8_18 (v := .ref (ad1 216)) rfl dX8_clear_8 ?_
  refine lv_eqr (F.1 216 (by have := Wx.1; omega) rfl) ?_
  refine c_V (As := []) (rest := []) X w (ct_X5_clear l D G t N ad1 cl2 216 _ _ (Wx.2.1 216 (by decide +kernel)) (d - 1)) YX5_clear k_RX8_21 (216) (F.1 216 (by have := Wx.1; omega) rfl) (by have := Wx.1; omega) (Wx.2.1 216 (by decide +kernel)).2.1 kc5 (by rw [(F.1 216 (by have := Wx.1; omega) rfl)]) rfl rfl hl.1 (rm_call (by omega) (by decide)) (Nat.le_of_ble_eq_true rfl) dX8_clear_11 (⟨Nat.zero_le _, Nat.zero_le _⟩) (fun u H locs hp w => ?_)
  obtain ⟨ad3, cl4, rfl, hR9, hF9⟩ := hp
  have w : Wd D A s H locs N ad3 cl4 := w
  have Wx := Wx.row (q := 216) (by decide +kernel) hF9 hR9
  have F : FrX N ad cl ad3 cl4 := F.tr (FrX.of (q := 216) (by decide +kernel) hF9)
  rw [va_up_id, clr_up] at Wx
  exact e_V X hr w ⟨ad3, cl4, rfl, Wx, F⟩ (Nat.le_of_ble_eq_true rfl) (Nat.le_of_ble_eq_true rfl) dX8_clear_14
set_option maxHeartbeats 4000000 in
set_option maxRecDepth 100000 in
theorem cx_8_clear_230 (l : Launch) (D : va_G) (G : Nat → ClassId) (t : Nat → Nat) (N : Nat) (ad : Nat → Nat) (cl : Nat → va_E) (c : Nat → Nat) (xs : Nat → List Int32) (v : Nat → Nat → Int32) (g : Nat → Nat → Int32) (nb : Nat → Nat) (Wx : XW G N ad cl c xs v g nb) (d : Nat) (hd : 2 ≤ d) : CtV l yX8_clear cX8_clear 1 (rmD d 0 0) D G t (N, ad, cl) [.ref (ad 230)] (fun u => ∃ ad' cl', u = (N, ad', cl') ∧ XW G N ad' cl' c (clr xs [233, 231]) (v) (g) nb ∧ FrX N ad cl ad' cl') := by
  refine ct_V (own := RX8) (by decide +kernel) rfl (Nat.le_of_ble_eq_true rfl) rfl ?_
  intro p e s m args below meth cd A ls X hr hin hl w
  obtain ⟨hx, hb, hml, hown, hts, -⟩ := id X
  have hl : lv_has ls 1 [(0, .ref (ad 230))] := hl
  have F : FrX N ad cl ad cl := FrX.rf
  rw [← clr_nil xs] at Wx
  refine lv_aload_n hx hb dX8_clear_0 rfl (lv_at hl 0 rfl) ?_
  refine g_get X w 230 rfl (by have := Wx.1; omega) (Wx.o xm_230) kc8 0 (by decide) rfl k_RX8_12 (v := .ref (ad 231)) rfl dX8_clear_1 ?_
  refine c_V (As := []) (rest := []) X w (ct_X5_clear l D G t N ad cl 231 _ _ (Wx.2.1 231 (by decide +kernel)) (d - 1)) YX5_clear k_RX8_21 (231) rfl (by have := Wx.1; omega) (Wx.2.1 231 (by decide +kernel)).2.1 kc5 (rfl) rfl rfl hl.1 (rm_call (by omega) (by decide)) (Nat.le_of_ble_eq_true rfl) dX8_clear_4 (⟨Nat.zero_le _, Nat.zero_le _⟩) (fun u H locs hp w => ?_)
  obtain ⟨ad1, cl2, rfl, hR9, hF9⟩ := hp
  have w : Wd D A s H locs N ad1 cl2 := w
  have Wx := Wx.row (q := 231) (by decide +kernel) hF9 hR9
  have F : FrX N ad cl ad1 cl2 := F.tr (FrX.of (q := 231) (by decide +kernel) hF9)
  rw [va_up_id, clr_up] at Wx
  refine lv_aload_n hx hb dX8_clear_7 rfl (lv_at hl 0 rfl) ?_
  refine g_get X w 230 (F.1 230 (by have := Wx.1; omega) rfl) (by have := Wx.1; omega) (Wx.o xm_230) kc8 1 (by decide) rfl k_RX8_18 (v := .ref (ad1 233)) rfl dX8_clear_8 ?_
  refine lv_eqr (F.1 233 (by have := Wx.1; omega) rfl) ?_
  refine c_V (As := []) (rest := []) X w (ct_X5_clear l D G t N ad1 cl2 233 _ _ (Wx.2.1 233 (by decide +kernel)) (d - 1)) YX5_clear k_RX8_21 (233) (F.1 233 (by have := Wx.1; omega) rfl) (by have := Wx.1; omega) (Wx.2.1 233 (by decide +kernel)).2.1 kc5 (by rw [(F.1 233 (by have := Wx.1; omega) rfl)]) rfl rfl hl.1 (rm_call (by omega) (by decide)) (Nat.le_of_ble_eq_true rfl) dX8_clear_11 (⟨Nat.zero_le _, Nat.zero_le _⟩) (fun u H locs hp w => ?_)
  obtain ⟨ad3, cl4, rfl, hR9, hF9⟩ := hp
  have w : Wd D A s H locs N ad3 cl4 := w
  have Wx := Wx.row (q := 233) (by decide +kernel) hF9 hR9
  have F : FrX N ad cl ad3 cl4 := F.tr (FrX.of (q := 233) (by decide +kernel) hF9)
  rw [va_up_id, clr_up] at Wx
  exact e_V X hr w ⟨ad3, cl4, rfl, Wx, F⟩ (Nat.le_of_ble_eq_true rfl) (Nat.le_of_ble_eq_true rfl) dX8_clear_14
set_option maxHeartbeats 4000000 in
set_option maxRecDepth 100000 in
theorem cx_2_clear_49 (l : Launch) (D : va_G) (G : Nat → ClassId) (t : Nat → Nat) (N : Nat) (ad : Nat → Nat) (cl : Nat → va_E) (c : Nat → Nat) (xs : Nat → List Int32) (v : Nat → Nat → Int32) (g : Nat → Nat → Int32) (nb : Nat → Nat) (Wx : XW G N ad cl c xs v g nb) (d : Nat) (hd : 3 ≤ d) : CtV l yX2_clear cX2_clear 1 (rmD d 0 0) D G t (N, ad, cl) [.ref (ad 49)] (fun u => ∃ ad' cl', u = (N, ad', cl') ∧ XW G N ad' cl' c (clr xs [84, 78, 76, 74, 71, 69, 67, 65, 63, 60, 58, 56, 53, 51]) (vset (vset (v) 49 12 (0)) 49 13 (0)) (g) nb ∧ FrX N ad cl ad' cl') := by
  refine ct_V (own := RX2) (by decide +kernel) rfl (Nat.le_of_ble_eq_true rfl) rfl ?_
  intro p e s m args below meth cd A ls X hr hin hl w
  obtain ⟨hx, hb, hml, hown, hts, -⟩ := id X
  have hl : lv_has ls 1 [(0, .ref (ad 49))] := hl
  have F : FrX N ad cl ad cl := FrX.rf
  rw [← clr_nil xs] at Wx
  refine lv_aload_n hx hb dX2_clear_0 rfl (lv_at hl 0 rfl) ?_
  refine g_get X w 49 rfl (by have := Wx.1; omega) (Wx.o xm_49) kc2 0 (by decide) rfl k_RX2_12 (v := .ref (ad 50)) rfl dX2_clear_1 ?_
  refine c_V (As := []) (rest := []) X w (cx_8_clear_50 l D G t N ad cl _ _ _ _ _ Wx (d - 1) (by omega)) YX8_clear k_RX2_55 (50) rfl (by have := Wx.1; omega) (Wx.o xm_50) kc8 (rfl) rfl rfl hl.1 (rm_call (by omega) (by decide)) (Nat.le_of_ble_eq_true rfl) dX2_clear_4 (⟨Nat.zero_le _, Nat.zero_le _⟩) (fun u H locs hp w => ?_)
  obtain ⟨ad1, cl2, rfl, Wx, F9⟩ := hp
  have w : Wd D A s H locs N ad1 cl2 := w
  have F := F.tr F9
  rw [clr_clr] at Wx
  have Wx : XW G N ad1 cl2 c (clr xs [53, 51]) (v) (g) nb := Wx
  refine lv_aload_n hx hb dX2_clear_7 rfl (lv_at hl 0 rfl) ?_
  refine g_get X w 49 (F.1 49 (by have := Wx.1; omega) rfl) (by have := Wx.1; omega) (Wx.o xm_49) kc2 1 (by decide) rfl k_RX2_18 (v := .ref (ad1 55)) rfl dX2_clear_8 ?_
  refine lv_eqr (F.1 55 (by have := Wx.1; omega) rfl) ?_
  refine c_V (As := []) (rest := []) X w (cx_8_clear_55 l D G t N ad1 cl2 _ _ _ _ _ Wx (d - 1) (by omega)) YX8_clear k_RX2_55 (55) (F.1 55 (by have := Wx.1; omega) rfl) (by have := Wx.1; omega) (Wx.o xm_55) kc8 (by rw [(F.1 55 (by have := Wx.1; omega) rfl)]) rfl rfl hl.1 (rm_call (by omega) (by decide)) (Nat.le_of_ble_eq_true rfl) dX2_clear_11 (⟨Nat.zero_le _, Nat.zero_le _⟩) (fun u H locs hp w => ?_)
  obtain ⟨ad3, cl4, rfl, Wx, F9⟩ := hp
  have w : Wd D A s H locs N ad3 cl4 := w
  have F := F.tr F9
  rw [clr_clr] at Wx
  have Wx : XW G N ad3 cl4 c (clr xs [58, 56, 53, 51]) (v) (g) nb := Wx
  refine lv_aload_n hx hb dX2_clear_14 rfl (lv_at hl 0 rfl) ?_
  refine g_get X w 49 (F.1 49 (by have := Wx.1; omega) rfl) (by have := Wx.1; omega) (Wx.o xm_49) kc2 2 (by decide) rfl k_RX2_24 (v := .ref (ad3 60)) rfl dX2_clear_15 ?_
  refine lv_eqr (F.1 60 (by have := Wx.1; omega) rfl) ?_
  refine c_V (As := []) (rest := []) X w (ct_X5_clear l D G t N ad3 cl4 60 _ _ (Wx.2.1 60 (by decide +kernel)) (d - 1)) YX5_clear k_RX2_58 (60) (F.1 60 (by have := Wx.1; omega) rfl) (by have := Wx.1; omega) (Wx.2.1 60 (by decide +kernel)).2.1 kc5 (by rw [(F.1 60 (by have := Wx.1; omega) rfl)]) rfl rfl hl.1 (rm_call (by omega) (by decide)) (Nat.le_of_ble_eq_true rfl) dX2_clear_18 (⟨Nat.zero_le _, Nat.zero_le _⟩) (fun u H locs hp w => ?_)
  obtain ⟨ad5, cl6, rfl, hR9, hF9⟩ := hp
  have w : Wd D A s H locs N ad5 cl6 := w
  have Wx := Wx.row (q := 60) (by decide +kernel) hF9 hR9
  have F : FrX N ad cl ad5 cl6 := F.tr (FrX.of (q := 60) (by decide +kernel) hF9)
  rw [va_up_id, clr_up] at Wx
  refine lv_aload_n hx hb dX2_clear_21 rfl (lv_at hl 0 rfl) ?_
  refine g_get X w 49 (F.1 49 (by have := Wx.1; omega) rfl) (by have := Wx.1; omega) (Wx.o xm_49) kc2 3 (by decide) rfl k_RX2_28 (v := .ref (ad5 62)) rfl dX2_clear_22 ?_
  refine lv_eqr (F.1 62 (by have := Wx.1; omega) rfl) ?_
  refine c_V (As := []) (rest := []) X w (cx_8_clear_62 l D G t N ad5 cl6 _ _ _ _ _ Wx (d - 1) (by omega)) YX8_clear k_RX2_55 (62) (F.1 62 (by have := Wx.1; omega) rfl) (by have := Wx.1; omega) (Wx.o xm_62) kc8 (by rw [(F.1 62 (by have := Wx.1; omega) rfl)]) rfl rfl hl.1 (rm_call (by omega) (by decide)) (Nat.le_of_ble_eq_true rfl) dX2_clear_25 (⟨Nat.zero_le _, Nat.zero_le _⟩) (fun u H locs hp w => ?_)
  obtain ⟨ad7, cl8, rfl, Wx, F9⟩ := hp
  have w : Wd D A s H locs N ad7 cl8 := w
  have F := F.tr F9
  rw [clr_clr] at Wx
  have Wx : XW G N ad7 cl8 c (clr xs [65, 63, 60, 58, 56, 53, 51]) (v) (g) nb := Wx
  refine lv_aload_n hx hb dX2_clear_28 rfl (lv_at hl 0 rfl) ?_
  refine g_get X w 49 (F.1 49 (by have := Wx.1; omega) rfl) (by have := Wx.1; omega) (Wx.o xm_49) kc2 4 (by decide) rfl k_RX2_31 (v := .ref (ad7 67)) rfl dX2_clear_29 ?_
  refine lv_eqr (F.1 67 (by have := Wx.1; omega) rfl) ?_
  refine c_V (As := []) (rest := []) X w (ct_X5_clear l D G t N ad7 cl8 67 _ _ (Wx.2.1 67 (by decide +kernel)) (d - 1)) YX5_clear k_RX2_58 (67) (F.1 67 (by have := Wx.1; omega) rfl) (by have := Wx.1; omega) (Wx.2.1 67 (by decide +kernel)).2.1 kc5 (by rw [(F.1 67 (by have := Wx.1; omega) rfl)]) rfl rfl hl.1 (rm_call (by omega) (by decide)) (Nat.le_of_ble_eq_true rfl) dX2_clear_32 (⟨Nat.zero_le _, Nat.zero_le _⟩) (fun u H locs hp w => ?_)
  obtain ⟨ad9, cl10, rfl, hR9, hF9⟩ := hp
  have w : Wd D A s H locs N ad9 cl10 := w
  have Wx := Wx.row (q := 67) (by decide +kernel) hF9 hR9
  have F : FrX N ad cl ad9 cl10 := F.tr (FrX.of (q := 67) (by decide +kernel) hF9)
  rw [va_up_id, clr_up] at Wx
  refine lv_aload_n hx hb dX2_clear_35 rfl (lv_at hl 0 rfl) ?_
  refine g_get X w 49 (F.1 49 (by have := Wx.1; omega) rfl) (by have := Wx.1; omega) (Wx.o xm_49) kc2 5 (by decide) rfl k_RX2_34 (v := .ref (ad9 69)) rfl dX2_clear_36 ?_
  refine lv_eqr (F.1 69 (by have := Wx.1; omega) rfl) ?_
  refine c_V (As := []) (rest := []) X w (ct_X5_clear l D G t N ad9 cl10 69 _ _ (Wx.2.1 69 (by decide +kernel)) (d - 1)) YX5_clear k_RX2_58 (69) (F.1 69 (by have := Wx.1; omega) rfl) (by have := Wx.1; omega) (Wx.2.1 69 (by decide +kernel)).2.1 kc5 (by rw [(F.1 69 (by have := Wx.1; omega) rfl)]) rfl rfl hl.1 (rm_call (by omega) (by decide)) (Nat.le_of_ble_eq_true rfl) dX2_clear_39 (⟨Nat.zero_le _, Nat.zero_le _⟩) (fun u H locs hp w => ?_)
  obtain ⟨ad11, cl12, rfl, hR9, hF9⟩ := hp
  have w : Wd D A s H locs N ad11 cl12 := w
  have Wx := Wx.row (q := 69) (by decide +kernel) hF9 hR9
  have F : FrX N ad cl ad11 cl12 := F.tr (FrX.of (q := 69) (by decide +kernel) hF9)
  rw [va_up_id, clr_up] at Wx
  refine lv_aload_n hx hb dX2_clear_42 rfl (lv_at hl 0 rfl) ?_
  refine g_get X w 49 (F.1 49 (by have := Wx.1; omega) rfl) (by have := Wx.1; omega) (Wx.o xm_49) kc2 6 (by decide) rfl k_RX2_37 (v := .ref (ad11 71)) rfl dX2_clear_43 ?_
  refine lv_eqr (F.1 71 (by have := Wx.1; omega) rfl) ?_
  refine c_V (As := []) (rest := []) X w (ct_X5_clear l D G t N ad11 cl12 71 _ _ (Wx.2.1 71 (by decide +kernel)) (d - 1)) YX5_clear k_RX2_58 (71) (F.1 71 (by have := Wx.1; omega) rfl) (by have := Wx.1; omega) (Wx.2.1 71 (by decide +kernel)).2.1 kc5 (by rw [(F.1 71 (by have := Wx.1; omega) rfl)]) rfl rfl hl.1 (rm_call (by omega) (by decide)) (Nat.le_of_ble_eq_true rfl) dX2_clear_46 (⟨Nat.zero_le _, Nat.zero_le _⟩) (fun u H locs hp w => ?_)
  obtain ⟨ad13, cl14, rfl, hR9, hF9⟩ := hp
  have w : Wd D A s H locs N ad13 cl14 := w
  have Wx := Wx.row (q := 71) (by decide +kernel) hF9 hR9
  have F : FrX N ad cl ad13 cl14 := F.tr (FrX.of (q := 71) (by decide +kernel) hF9)
  rw [va_up_id, clr_up] at Wx
  refine lv_aload_n hx hb dX2_clear_49 rfl (lv_at hl 0 rfl) ?_
  refine g_get X w 49 (F.1 49 (by have := Wx.1; omega) rfl) (by have := Wx.1; omega) (Wx.o xm_49) kc2 7 (by decide) rfl k_RX2_40 (v := .ref (ad13 73)) rfl dX2_clear_50 ?_
  refine lv_eqr (F.1 73 (by have := Wx.1; omega) rfl) ?_
  refine c_V (As := []) (rest := []) X w (cx_8_clear_73 l D G t N ad13 cl14 _ _ _ _ _ Wx (d - 1) (by omega)) YX8_clear k_RX2_55 (73) (F.1 73 (by have := Wx.1; omega) rfl) (by have := Wx.1; omega) (Wx.o xm_73) kc8 (by rw [(F.1 73 (by have := Wx.1; omega) rfl)]) rfl rfl hl.1 (rm_call (by omega) (by decide)) (Nat.le_of_ble_eq_true rfl) dX2_clear_53 (⟨Nat.zero_le _, Nat.zero_le _⟩) (fun u H locs hp w => ?_)
  obtain ⟨ad15, cl16, rfl, Wx, F9⟩ := hp
  have w : Wd D A s H locs N ad15 cl16 := w
  have F := F.tr F9
  rw [clr_clr] at Wx
  have Wx : XW G N ad15 cl16 c (clr xs [76, 74, 71, 69, 67, 65, 63, 60, 58, 56, 53, 51]) (v) (g) nb := Wx
  refine lv_aload_n hx hb dX2_clear_56 rfl (lv_at hl 0 rfl) ?_
  refine g_get X w 49 (F.1 49 (by have := Wx.1; omega) rfl) (by have := Wx.1; omega) (Wx.o xm_49) kc2 8 (by decide) rfl k_RX2_43 (v := .ref (ad15 78)) rfl dX2_clear_57 ?_
  refine lv_eqr (F.1 78 (by have := Wx.1; omega) rfl) ?_
  refine c_V (As := []) (rest := []) X w (ct_X5_clear l D G t N ad15 cl16 78 _ _ (Wx.2.1 78 (by decide +kernel)) (d - 1)) YX5_clear k_RX2_58 (78) (F.1 78 (by have := Wx.1; omega) rfl) (by have := Wx.1; omega) (Wx.2.1 78 (by decide +kernel)).2.1 kc5 (by rw [(F.1 78 (by have := Wx.1; omega) rfl)]) rfl rfl hl.1 (rm_call (by omega) (by decide)) (Nat.le_of_ble_eq_true rfl) dX2_clear_60 (⟨Nat.zero_le _, Nat.zero_le _⟩) (fun u H locs hp w => ?_)
  obtain ⟨ad17, cl18, rfl, hR9, hF9⟩ := hp
  have w : Wd D A s H locs N ad17 cl18 := w
  have Wx := Wx.row (q := 78) (by decide +kernel) hF9 hR9
  have F : FrX N ad cl ad17 cl18 := F.tr (FrX.of (q := 78) (by decide +kernel) hF9)
  rw [va_up_id, clr_up] at Wx
  refine lv_aload_n hx hb dX2_clear_63 rfl (lv_at hl 0 rfl) ?_
  refine g_get X w 49 (F.1 49 (by have := Wx.1; omega) rfl) (by have := Wx.1; omega) (Wx.o xm_49) kc2 11 (by decide) rfl k_RX2_52 (v := .ref (ad17 84)) rfl dX2_clear_64 ?_
  refine lv_eqr (F.1 84 (by have := Wx.1; omega) rfl) ?_
  refine c_V (As := []) (rest := []) X w (ct_X5_clear l D G t N ad17 cl18 84 _ _ (Wx.2.1 84 (by decide +kernel)) (d - 1)) YX5_clear k_RX2_58 (84) (F.1 84 (by have := Wx.1; omega) rfl) (by have := Wx.1; omega) (Wx.2.1 84 (by decide +kernel)).2.1 kc5 (by rw [(F.1 84 (by have := Wx.1; omega) rfl)]) rfl rfl hl.1 (rm_call (by omega) (by decide)) (Nat.le_of_ble_eq_true rfl) dX2_clear_67 (⟨Nat.zero_le _, Nat.zero_le _⟩) (fun u H locs hp w => ?_)
  obtain ⟨ad19, cl20, rfl, hR9, hF9⟩ := hp
  have w : Wd D A s H locs N ad19 cl20 := w
  have Wx := Wx.row (q := 84) (by decide +kernel) hF9 hR9
  have F : FrX N ad cl ad19 cl20 := F.tr (FrX.of (q := 84) (by decide +kernel) hF9)
  rw [va_up_id, clr_up] at Wx
  refine lv_aload_n hx hb dX2_clear_70 rfl (lv_at hl 0 rfl) ?_
  refine lv_iconst (v := 0) hx hb dX2_clear_71 (by decide) ?_
  refine x_puti X w Wx xm_49 (by decide) (F.1 49 (by have := Wx.1; omega) rfl) kc2 12 (by decide) rfl k_RX2_59 rfl (x := 0) rfl rfl rfl dX2_clear_72 (fun H locs cl21 w Wx F9 => ?_)
  have F := F.tr F9
  refine lv_aload_n hx hb dX2_clear_75 rfl (lv_at hl 0 rfl) ?_
  refine lv_iconst (v := 0) hx hb dX2_clear_76 (by decide) ?_
  refine x_puti X w Wx xm_49 (by decide) (F.1 49 (by have := Wx.1; omega) rfl) kc2 13 (by decide) rfl k_RX2_63 rfl (x := 0) rfl rfl rfl dX2_clear_77 (fun H locs cl22 w Wx F9 => ?_)
  have F := F.tr F9
  exact e_V X hr w ⟨ad19, cl22, rfl, Wx, F⟩ (Nat.le_of_ble_eq_true rfl) (Nat.le_of_ble_eq_true rfl) dX2_clear_80
set_option maxHeartbeats 4000000 in
set_option maxRecDepth 100000 in
theorem cx_2_clear_163 (l : Launch) (D : va_G) (G : Nat → ClassId) (t : Nat → Nat) (N : Nat) (ad : Nat → Nat) (cl : Nat → va_E) (c : Nat → Nat) (xs : Nat → List Int32) (v : Nat → Nat → Int32) (g : Nat → Nat → Int32) (nb : Nat → Nat) (Wx : XW G N ad cl c xs v g nb) (d : Nat) (hd : 3 ≤ d) : CtV l yX2_clear cX2_clear 1 (rmD d 0 0) D G t (N, ad, cl) [.ref (ad 163)] (fun u => ∃ ad' cl', u = (N, ad', cl') ∧ XW G N ad' cl' c (clr xs [198, 192, 190, 188, 185, 183, 181, 179, 177, 174, 172, 170, 167, 165]) (vset (vset (v) 163 12 (0)) 163 13 (0)) (g) nb ∧ FrX N ad cl ad' cl') := by
  refine ct_V (own := RX2) (by decide +kernel) rfl (Nat.le_of_ble_eq_true rfl) rfl ?_
  intro p e s m args below meth cd A ls X hr hin hl w
  obtain ⟨hx, hb, hml, hown, hts, -⟩ := id X
  have hl : lv_has ls 1 [(0, .ref (ad 163))] := hl
  have F : FrX N ad cl ad cl := FrX.rf
  rw [← clr_nil xs] at Wx
  refine lv_aload_n hx hb dX2_clear_0 rfl (lv_at hl 0 rfl) ?_
  refine g_get X w 163 rfl (by have := Wx.1; omega) (Wx.o xm_163) kc2 0 (by decide) rfl k_RX2_12 (v := .ref (ad 164)) rfl dX2_clear_1 ?_
  refine c_V (As := []) (rest := []) X w (cx_8_clear_164 l D G t N ad cl _ _ _ _ _ Wx (d - 1) (by omega)) YX8_clear k_RX2_55 (164) rfl (by have := Wx.1; omega) (Wx.o xm_164) kc8 (rfl) rfl rfl hl.1 (rm_call (by omega) (by decide)) (Nat.le_of_ble_eq_true rfl) dX2_clear_4 (⟨Nat.zero_le _, Nat.zero_le _⟩) (fun u H locs hp w => ?_)
  obtain ⟨ad1, cl2, rfl, Wx, F9⟩ := hp
  have w : Wd D A s H locs N ad1 cl2 := w
  have F := F.tr F9
  rw [clr_clr] at Wx
  have Wx : XW G N ad1 cl2 c (clr xs [167, 165]) (v) (g) nb := Wx
  refine lv_aload_n hx hb dX2_clear_7 rfl (lv_at hl 0 rfl) ?_
  refine g_get X w 163 (F.1 163 (by have := Wx.1; omega) rfl) (by have := Wx.1; omega) (Wx.o xm_163) kc2 1 (by decide) rfl k_RX2_18 (v := .ref (ad1 169)) rfl dX2_clear_8 ?_
  refine lv_eqr (F.1 169 (by have := Wx.1; omega) rfl) ?_
  refine c_V (As := []) (rest := []) X w (cx_8_clear_169 l D G t N ad1 cl2 _ _ _ _ _ Wx (d - 1) (by omega)) YX8_clear k_RX2_55 (169) (F.1 169 (by have := Wx.1; omega) rfl) (by have := Wx.1; omega) (Wx.o xm_169) kc8 (by rw [(F.1 169 (by have := Wx.1; omega) rfl)]) rfl rfl hl.1 (rm_call (by omega) (by decide)) (Nat.le_of_ble_eq_true rfl) dX2_clear_11 (⟨Nat.zero_le _, Nat.zero_le _⟩) (fun u H locs hp w => ?_)
  obtain ⟨ad3, cl4, rfl, Wx, F9⟩ := hp
  have w : Wd D A s H locs N ad3 cl4 := w
  have F := F.tr F9
  rw [clr_clr] at Wx
  have Wx : XW G N ad3 cl4 c (clr xs [172, 170, 167, 165]) (v) (g) nb := Wx
  refine lv_aload_n hx hb dX2_clear_14 rfl (lv_at hl 0 rfl) ?_
  refine g_get X w 163 (F.1 163 (by have := Wx.1; omega) rfl) (by have := Wx.1; omega) (Wx.o xm_163) kc2 2 (by decide) rfl k_RX2_24 (v := .ref (ad3 174)) rfl dX2_clear_15 ?_
  refine lv_eqr (F.1 174 (by have := Wx.1; omega) rfl) ?_
  refine c_V (As := []) (rest := []) X w (ct_X5_clear l D G t N ad3 cl4 174 _ _ (Wx.2.1 174 (by decide +kernel)) (d - 1)) YX5_clear k_RX2_58 (174) (F.1 174 (by have := Wx.1; omega) rfl) (by have := Wx.1; omega) (Wx.2.1 174 (by decide +kernel)).2.1 kc5 (by rw [(F.1 174 (by have := Wx.1; omega) rfl)]) rfl rfl hl.1 (rm_call (by omega) (by decide)) (Nat.le_of_ble_eq_true rfl) dX2_clear_18 (⟨Nat.zero_le _, Nat.zero_le _⟩) (fun u H locs hp w => ?_)
  obtain ⟨ad5, cl6, rfl, hR9, hF9⟩ := hp
  have w : Wd D A s H locs N ad5 cl6 := w
  have Wx := Wx.row (q := 174) (by decide +kernel) hF9 hR9
  have F : FrX N ad cl ad5 cl6 := F.tr (FrX.of (q := 174) (by decide +kernel) hF9)
  rw [va_up_id, clr_up] at Wx
  refine lv_aload_n hx hb dX2_clear_21 rfl (lv_at hl 0 rfl) ?_
  refine g_get X w 163 (F.1 163 (by have := Wx.1; omega) rfl) (by have := Wx.1; omega) (Wx.o xm_163) kc2 3 (by decide) rfl k_RX2_28 (v := .ref (ad5 176)) rfl dX2_clear_22 ?_
  refine lv_eqr (F.1 176 (by have := Wx.1; omega) rfl) ?_
  refine c_V (As := []) (rest := []) X w (cx_8_clear_176 l D G t N ad5 cl6 _ _ _ _ _ Wx (d - 1) (by omega)) YX8_clear k_RX2_55 (176) (F.1 176 (by have := Wx.1; omega) rfl) (by have := Wx.1; omega) (Wx.o xm_176) kc8 (by rw [(F.1 176 (by have := Wx.1; omega) rfl)]) rfl rfl hl.1 (rm_call (by omega) (by decide)) (Nat.le_of_ble_eq_true rfl) dX2_clear_25 (⟨Nat.zero_le _, Nat.zero_le _⟩) (fun u H locs hp w => ?_)
  obtain ⟨ad7, cl8, rfl, Wx, F9⟩ := hp
  have w : Wd D A s H locs N ad7 cl8 := w
  have F := F.tr F9
  rw [clr_clr] at Wx
  have Wx : XW G N ad7 cl8 c (clr xs [179, 177, 174, 172, 170, 167, 165]) (v) (g) nb := Wx
  refine lv_aload_n hx hb dX2_clear_28 rfl (lv_at hl 0 rfl) ?_
  refine g_get X w 163 (F.1 163 (by have := Wx.1; omega) rfl) (by have := Wx.1; omega) (Wx.o xm_163) kc2 4 (by decide) rfl k_RX2_31 (v := .ref (ad7 181)) rfl dX2_clear_29 ?_
  refine lv_eqr (F.1 181 (by have := Wx.1; omega) rfl) ?_
  refine c_V (As := []) (rest := []) X w (ct_X5_clear l D G t N ad7 cl8 181 _ _ (Wx.2.1 181 (by decide +kernel)) (d - 1)) YX5_clear k_RX2_58 (181) (F.1 181 (by have := Wx.1; omega) rfl) (by have := Wx.1; omega) (Wx.2.1 181 (by decide +kernel)).2.1 kc5 (by rw [(F.1 181 (by have := Wx.1; omega) rfl)]) rfl rfl hl.1 (rm_call (by omega) (by decide)) (Nat.le_of_ble_eq_true rfl) dX2_clear_32 (⟨Nat.zero_le _, Nat.zero_le _⟩) (fun u H locs hp w => ?_)
  obtain ⟨ad9, cl10, rfl, hR9, hF9⟩ := hp
  have w : Wd D A s H locs N ad9 cl10 := w
  have Wx := Wx.row (q := 181) (by decide +kernel) hF9 hR9
  have F : FrX N ad cl ad9 cl10 := F.tr (FrX.of (q := 181) (by decide +kernel) hF9)
  rw [va_up_id, clr_up] at Wx
  refine lv_aload_n hx hb dX2_clear_35 rfl (lv_at hl 0 rfl) ?_
  refine g_get X w 163 (F.1 163 (by have := Wx.1; omega) rfl) (by have := Wx.1; omega) (Wx.o xm_163) kc2 5 (by decide) rfl k_RX2_34 (v := .ref (ad9 183)) rfl dX2_clear_36 ?_
  refine lv_eqr (F.1 183 (by have := Wx.1; omega) rfl) ?_
  refine c_V (As := []) (rest := []) X w (ct_X5_clear l D G t N ad9 cl10 183 _ _ (Wx.2.1 183 (by decide +kernel)) (d - 1)) YX5_clear k_RX2_58 (183) (F.1 183 (by have := Wx.1; omega) rfl) (by have := Wx.1; omega) (Wx.2.1 183 (by decide +kernel)).2.1 kc5 (by rw [(F.1 183 (by have := Wx.1; omega) rfl)]) rfl rfl hl.1 (rm_call (by omega) (by decide)) (Nat.le_of_ble_eq_true rfl) dX2_clear_39 (⟨Nat.zero_le _, Nat.zero_le _⟩) (fun u H locs hp w => ?_)
  obtain ⟨ad11, cl12, rfl, hR9, hF9⟩ := hp
  have w : Wd D A s H locs N ad11 cl12 := w
  have Wx := Wx.row (q := 183) (by decide +kernel) hF9 hR9
  have F : FrX N ad cl ad11 cl12 := F.tr (FrX.of (q := 183) (by decide +kernel) hF9)
  rw [va_up_id, clr_up] at Wx
  refine lv_aload_n hx hb dX2_clear_42 rfl (lv_at hl 0 rfl) ?_
  refine g_get X w 163 (F.1 163 (by have := Wx.1; omega) rfl) (by have := Wx.1; omega) (Wx.o xm_163) kc2 6 (by decide) rfl k_RX2_37 (v := .ref (ad11 185)) rfl dX2_clear_43 ?_
  refine lv_eqr (F.1 185 (by have := Wx.1; omega) rfl) ?_
  refine c_V (As := []) (rest := []) X w (ct_X5_clear l D G t N ad11 cl12 185 _ _ (Wx.2.1 185 (by decide +kernel)) (d - 1)) YX5_clear k_RX2_58 (185) (F.1 185 (by have := Wx.1; omega) rfl) (by have := Wx.1; omega) (Wx.2.1 185 (by decide +kernel)).2.1 kc5 (by rw [(F.1 185 (by have := Wx.1; omega) rfl)]) rfl rfl hl.1 (rm_call (by omega) (by decide)) (Nat.le_of_ble_eq_true rfl) dX2_clear_46 (⟨Nat.zero_le _, Nat.zero_le _⟩) (fun u H locs hp w => ?_)
  obtain ⟨ad13, cl14, rfl, hR9, hF9⟩ := hp
  have w : Wd D A s H locs N ad13 cl14 := w
  have Wx := Wx.row (q := 185) (by decide +kernel) hF9 hR9
  have F : FrX N ad cl ad13 cl14 := F.tr (FrX.of (q := 185) (by decide +kernel) hF9)
  rw [va_up_id, clr_up] at Wx
  refine lv_aload_n hx hb dX2_clear_49 rfl (lv_at hl 0 rfl) ?_
  refine g_get X w 163 (F.1 163 (by have := Wx.1; omega) rfl) (by have := Wx.1; omega) (Wx.o xm_163) kc2 7 (by decide) rfl k_RX2_40 (v := .ref (ad13 187)) rfl dX2_clear_50 ?_
  refine lv_eqr (F.1 187 (by have := Wx.1; omega) rfl) ?_
  refine c_V (As := []) (rest := []) X w (cx_8_clear_187 l D G t N ad13 cl14 _ _ _ _ _ Wx (d - 1) (by omega)) YX8_clear k_RX2_55 (187) (F.1 187 (by have := Wx.1; omega) rfl) (by have := Wx.1; omega) (Wx.o xm_187) kc8 (by rw [(F.1 187 (by have := Wx.1; omega) rfl)]) rfl rfl hl.1 (rm_call (by omega) (by decide)) (Nat.le_of_ble_eq_true rfl) dX2_clear_53 (⟨Nat.zero_le _, Nat.zero_le _⟩) (fun u H locs hp w => ?_)
  obtain ⟨ad15, cl16, rfl, Wx, F9⟩ := hp
  have w : Wd D A s H locs N ad15 cl16 := w
  have F := F.tr F9
  rw [clr_clr] at Wx
  have Wx : XW G N ad15 cl16 c (clr xs [190, 188, 185, 183, 181, 179, 177, 174, 172, 170, 167, 165]) (v) (g) nb := Wx
  refine lv_aload_n hx hb dX2_clear_56 rfl (lv_at hl 0 rfl) ?_
  refine g_get X w 163 (F.1 163 (by have := Wx.1; omega) rfl) (by have := Wx.1; omega) (Wx.o xm_163) kc2 8 (by decide) rfl k_RX2_43 (v := .ref (ad15 192)) rfl dX2_clear_57 ?_
  refine lv_eqr (F.1 192 (by have := Wx.1; omega) rfl) ?_
  refine c_V (As := []) (rest := []) X w (ct_X5_clear l D G t N ad15 cl16 192 _ _ (Wx.2.1 192 (by decide +kernel)) (d - 1)) YX5_clear k_RX2_58 (192) (F.1 192 (by have := Wx.1; omega) rfl) (by have := Wx.1; omega) (Wx.2.1 192 (by decide +kernel)).2.1 kc5 (by rw [(F.1 192 (by have := Wx.1; omega) rfl)]) rfl rfl hl.1 (rm_call (by omega) (by decide)) (Nat.le_of_ble_eq_true rfl) dX2_clear_60 (⟨Nat.zero_le _, Nat.zero_le _⟩) (fun u H locs hp w => ?_)
  obtain ⟨ad17, cl18, rfl, hR9, hF9⟩ := hp
  have w : Wd D A s H locs N ad17 cl18 := w
  have Wx := Wx.row (q := 192) (by decide +kernel) hF9 hR9
  have F : FrX N ad cl ad17 cl18 := F.tr (FrX.of (q := 192) (by decide +kernel) hF9)
  rw [va_up_id, clr_up] at Wx
  refine lv_aload_n hx hb dX2_clear_63 rfl (lv_at hl 0 rfl) ?_
  refine g_get X w 163 (F.1 163 (by have := Wx.1; omega) rfl) (by have := Wx.1; omega) (Wx.o xm_163) kc2 11 (by decide) rfl k_RX2_52 (v := .ref (ad17 198)) rfl dX2_clear_64 ?_
  refine lv_eqr (F.1 198 (by have := Wx.1; omega) rfl) ?_
  refine c_V (As := []) (rest := []) X w (ct_X5_clear l D G t N ad17 cl18 198 _ _ (Wx.2.1 198 (by decide +kernel)) (d - 1)) YX5_clear k_RX2_58 (198) (F.1 198 (by have := Wx.1; omega) rfl) (by have := Wx.1; omega) (Wx.2.1 198 (by decide +kernel)).2.1 kc5 (by rw [(F.1 198 (by have := Wx.1; omega) rfl)]) rfl rfl hl.1 (rm_call (by omega) (by decide)) (Nat.le_of_ble_eq_true rfl) dX2_clear_67 (⟨Nat.zero_le _, Nat.zero_le _⟩) (fun u H locs hp w => ?_)
  obtain ⟨ad19, cl20, rfl, hR9, hF9⟩ := hp
  have w : Wd D A s H locs N ad19 cl20 := w
  have Wx := Wx.row (q := 198) (by decide +kernel) hF9 hR9
  have F : FrX N ad cl ad19 cl20 := F.tr (FrX.of (q := 198) (by decide +kernel) hF9)
  rw [va_up_id, clr_up] at Wx
  refine lv_aload_n hx hb dX2_clear_70 rfl (lv_at hl 0 rfl) ?_
  refine lv_iconst (v := 0) hx hb dX2_clear_71 (by decide) ?_
  refine x_puti X w Wx xm_163 (by decide) (F.1 163 (by have := Wx.1; omega) rfl) kc2 12 (by decide) rfl k_RX2_59 rfl (x := 0) rfl rfl rfl dX2_clear_72 (fun H locs cl21 w Wx F9 => ?_)
  have F := F.tr F9
  refine lv_aload_n hx hb dX2_clear_75 rfl (lv_at hl 0 rfl) ?_
  refine lv_iconst (v := 0) hx hb dX2_clear_76 (by decide) ?_
  refine x_puti X w Wx xm_163 (by decide) (F.1 163 (by have := Wx.1; omega) rfl) kc2 13 (by decide) rfl k_RX2_63 rfl (x := 0) rfl rfl rfl dX2_clear_77 (fun H locs cl22 w Wx F9 => ?_)
  have F := F.tr F9
  exact e_V X hr w ⟨ad19, cl22, rfl, Wx, F⟩ (Nat.le_of_ble_eq_true rfl) (Nat.le_of_ble_eq_true rfl) dX2_clear_80
set_option maxHeartbeats 4000000 in
set_option maxRecDepth 100000 in
theorem cx_1_clear (l : Launch) (D : va_G) (G : Nat → ClassId) (t : Nat → Nat) (N : Nat) (ad : Nat → Nat) (cl : Nat → va_E) (c : Nat → Nat) (xs : Nat → List Int32) (v : Nat → Nat → Int32) (g : Nat → Nat → Int32) (nb : Nat → Nat) (Wx : XW G N ad cl c xs v g nb) (d : Nat) (hd : 3 ≤ d) : CtV l yX1_clear cX1_clear 1 (rmD d 0 0) D G t (N, ad, cl) [.ref (ad 128)] (fun u => ∃ ad' cl', u = (N, ad', cl') ∧ XW G N ad' cl' c (clr xs [148, 146, 144, 142, 140, 138, 136, 134, 132, 130]) (vset (v) 128 10 (0)) (g) nb ∧ FrX N ad cl ad' cl') := by
  refine ct_V (own := RX1) (by decide +kernel) rfl (Nat.le_of_ble_eq_true rfl) rfl ?_
  intro p e s m args below meth cd A ls X hr hin hl w
  obtain ⟨hx, hb, hml, hown, hts, -⟩ := id X
  have hl : lv_has ls 1 [(0, .ref (ad 128))] := hl
  have F : FrX N ad cl ad cl := FrX.rf
  rw [← clr_nil xs] at Wx
  refine lv_aload_n hx hb dX1_clear_0 rfl (lv_at hl 0 rfl) ?_
  refine g_get X w 128 rfl (by have := Wx.1; omega) (Wx.o xm_128) kc1 1 (by decide) rfl k_RX1_18 (v := .ref (ad 129)) rfl dX1_clear_1 ?_
  refine c_V (As := []) (rest := []) X w (cx_8_clear_129 l D G t N ad cl _ _ _ _ _ Wx (d - 1) (by omega)) YX8_clear k_RX1_50 (129) rfl (by have := Wx.1; omega) (Wx.o xm_129) kc8 (rfl) rfl rfl hl.1 (rm_call (by omega) (by decide)) (Nat.le_of_ble_eq_true rfl) dX1_clear_4 (⟨Nat.zero_le _, Nat.zero_le _⟩) (fun u H locs hp w => ?_)
  obtain ⟨ad1, cl2, rfl, Wx, F9⟩ := hp
  have w : Wd D A s H locs N ad1 cl2 := w
  have F := F.tr F9
  rw [clr_clr] at Wx
  have Wx : XW G N ad1 cl2 c (clr xs [132, 130]) (v) (g) nb := Wx
  refine lv_aload_n hx hb dX1_clear_7 rfl (lv_at hl 0 rfl) ?_
  refine g_get X w 128 (F.1 128 (by have := Wx.1; omega) rfl) (by have := Wx.1; omega) (Wx.o xm_128) kc1 2 (by decide) rfl k_RX1_25 (v := .ref (ad1 134)) rfl dX1_clear_8 ?_
  refine lv_eqr (F.1 134 (by have := Wx.1; omega) rfl) ?_
  refine c_V (As := []) (rest := []) X w (ct_X5_clear l D G t N ad1 cl2 134 _ _ (Wx.2.1 134 (by decide +kernel)) (d - 1)) YX5_clear k_RX1_53 (134) (F.1 134 (by have := Wx.1; omega) rfl) (by have := Wx.1; omega) (Wx.2.1 134 (by decide +kernel)).2.1 kc5 (by rw [(F.1 134 (by have := Wx.1; omega) rfl)]) rfl rfl hl.1 (rm_call (by omega) (by decide)) (Nat.le_of_ble_eq_true rfl) dX1_clear_11 (⟨Nat.zero_le _, Nat.zero_le _⟩) (fun u H locs hp w => ?_)
  obtain ⟨ad3, cl4, rfl, hR9, hF9⟩ := hp
  have w : Wd D A s H locs N ad3 cl4 := w
  have Wx := Wx.row (q := 134) (by decide +kernel) hF9 hR9
  have F : FrX N ad cl ad3 cl4 := F.tr (FrX.of (q := 134) (by decide +kernel) hF9)
  rw [va_up_id, clr_up] at Wx
  refine lv_aload_n hx hb dX1_clear_14 rfl (lv_at hl 0 rfl) ?_
  refine g_get X w 128 (F.1 128 (by have := Wx.1; omega) rfl) (by have := Wx.1; omega) (Wx.o xm_128) kc1 3 (by decide) rfl k_RX1_29 (v := .ref (ad3 136)) rfl dX1_clear_15 ?_
  refine lv_eqr (F.1 136 (by have := Wx.1; omega) rfl) ?_
  refine c_V (As := []) (rest := []) X w (ct_X5_clear l D G t N ad3 cl4 136 _ _ (Wx.2.1 136 (by decide +kernel)) (d - 1)) YX5_clear k_RX1_53 (136) (F.1 136 (by have := Wx.1; omega) rfl) (by have := Wx.1; omega) (Wx.2.1 136 (by decide +kernel)).2.1 kc5 (by rw [(F.1 136 (by have := Wx.1; omega) rfl)]) rfl rfl hl.1 (rm_call (by omega) (by decide)) (Nat.le_of_ble_eq_true rfl) dX1_clear_18 (⟨Nat.zero_le _, Nat.zero_le _⟩) (fun u H locs hp w => ?_)
  obtain ⟨ad5, cl6, rfl, hR9, hF9⟩ := hp
  have w : Wd D A s H locs N ad5 cl6 := w
  have Wx := Wx.row (q := 136) (by decide +kernel) hF9 hR9
  have F : FrX N ad cl ad5 cl6 := F.tr (FrX.of (q := 136) (by decide +kernel) hF9)
  rw [va_up_id, clr_up] at Wx
  refine lv_aload_n hx hb dX1_clear_21 rfl (lv_at hl 0 rfl) ?_
  refine g_get X w 128 (F.1 128 (by have := Wx.1; omega) rfl) (by have := Wx.1; omega) (Wx.o xm_128) kc1 4 (by decide) rfl k_RX1_32 (v := .ref (ad5 138)) rfl dX1_clear_22 ?_
  refine lv_eqr (F.1 138 (by have := Wx.1; omega) rfl) ?_
  refine c_V (As := []) (rest := []) X w (ct_X5_clear l D G t N ad5 cl6 138 _ _ (Wx.2.1 138 (by decide +kernel)) (d - 1)) YX5_clear k_RX1_53 (138) (F.1 138 (by have := Wx.1; omega) rfl) (by have := Wx.1; omega) (Wx.2.1 138 (by decide +kernel)).2.1 kc5 (by rw [(F.1 138 (by have := Wx.1; omega) rfl)]) rfl rfl hl.1 (rm_call (by omega) (by decide)) (Nat.le_of_ble_eq_true rfl) dX1_clear_25 (⟨Nat.zero_le _, Nat.zero_le _⟩) (fun u H locs hp w => ?_)
  obtain ⟨ad7, cl8, rfl, hR9, hF9⟩ := hp
  have w : Wd D A s H locs N ad7 cl8 := w
  have Wx := Wx.row (q := 138) (by decide +kernel) hF9 hR9
  have F : FrX N ad cl ad7 cl8 := F.tr (FrX.of (q := 138) (by decide +kernel) hF9)
  rw [va_up_id, clr_up] at Wx
  refine lv_aload_n hx hb dX1_clear_28 rfl (lv_at hl 0 rfl) ?_
  refine g_get X w 128 (F.1 128 (by have := Wx.1; omega) rfl) (by have := Wx.1; omega) (Wx.o xm_128) kc1 5 (by decide) rfl k_RX1_35 (v := .ref (ad7 140)) rfl dX1_clear_29 ?_
  refine lv_eqr (F.1 140 (by have := Wx.1; omega) rfl) ?_
  refine c_V (As := []) (rest := []) X w (ct_X5_clear l D G t N ad7 cl8 140 _ _ (Wx.2.1 140 (by decide +kernel)) (d - 1)) YX5_clear k_RX1_53 (140) (F.1 140 (by have := Wx.1; omega) rfl) (by have := Wx.1; omega) (Wx.2.1 140 (by decide +kernel)).2.1 kc5 (by rw [(F.1 140 (by have := Wx.1; omega) rfl)]) rfl rfl hl.1 (rm_call (by omega) (by decide)) (Nat.le_of_ble_eq_true rfl) dX1_clear_32 (⟨Nat.zero_le _, Nat.zero_le _⟩) (fun u H locs hp w => ?_)
  obtain ⟨ad9, cl10, rfl, hR9, hF9⟩ := hp
  have w : Wd D A s H locs N ad9 cl10 := w
  have Wx := Wx.row (q := 140) (by decide +kernel) hF9 hR9
  have F : FrX N ad cl ad9 cl10 := F.tr (FrX.of (q := 140) (by decide +kernel) hF9)
  rw [va_up_id, clr_up] at Wx
  refine lv_aload_n hx hb dX1_clear_35 rfl (lv_at hl 0 rfl) ?_
  refine g_get X w 128 (F.1 128 (by have := Wx.1; omega) rfl) (by have := Wx.1; omega) (Wx.o xm_128) kc1 6 (by decide) rfl k_RX1_38 (v := .ref (ad9 142)) rfl dX1_clear_36 ?_
  refine lv_eqr (F.1 142 (by have := Wx.1; omega) rfl) ?_
  refine c_V (As := []) (rest := []) X w (ct_X5_clear l D G t N ad9 cl10 142 _ _ (Wx.2.1 142 (by decide +kernel)) (d - 1)) YX5_clear k_RX1_53 (142) (F.1 142 (by have := Wx.1; omega) rfl) (by have := Wx.1; omega) (Wx.2.1 142 (by decide +kernel)).2.1 kc5 (by rw [(F.1 142 (by have := Wx.1; omega) rfl)]) rfl rfl hl.1 (rm_call (by omega) (by decide)) (Nat.le_of_ble_eq_true rfl) dX1_clear_39 (⟨Nat.zero_le _, Nat.zero_le _⟩) (fun u H locs hp w => ?_)
  obtain ⟨ad11, cl12, rfl, hR9, hF9⟩ := hp
  have w : Wd D A s H locs N ad11 cl12 := w
  have Wx := Wx.row (q := 142) (by decide +kernel) hF9 hR9
  have F : FrX N ad cl ad11 cl12 := F.tr (FrX.of (q := 142) (by decide +kernel) hF9)
  rw [va_up_id, clr_up] at Wx
  refine lv_aload_n hx hb dX1_clear_42 rfl (lv_at hl 0 rfl) ?_
  refine g_get X w 128 (F.1 128 (by have := Wx.1; omega) rfl) (by have := Wx.1; omega) (Wx.o xm_128) kc1 7 (by decide) rfl k_RX1_41 (v := .ref (ad11 144)) rfl dX1_clear_43 ?_
  refine lv_eqr (F.1 144 (by have := Wx.1; omega) rfl) ?_
  refine c_V (As := []) (rest := []) X w (ct_X5_clear l D G t N ad11 cl12 144 _ _ (Wx.2.1 144 (by decide +kernel)) (d - 1)) YX5_clear k_RX1_53 (144) (F.1 144 (by have := Wx.1; omega) rfl) (by have := Wx.1; omega) (Wx.2.1 144 (by decide +kernel)).2.1 kc5 (by rw [(F.1 144 (by have := Wx.1; omega) rfl)]) rfl rfl hl.1 (rm_call (by omega) (by decide)) (Nat.le_of_ble_eq_true rfl) dX1_clear_46 (⟨Nat.zero_le _, Nat.zero_le _⟩) (fun u H locs hp w => ?_)
  obtain ⟨ad13, cl14, rfl, hR9, hF9⟩ := hp
  have w : Wd D A s H locs N ad13 cl14 := w
  have Wx := Wx.row (q := 144) (by decide +kernel) hF9 hR9
  have F : FrX N ad cl ad13 cl14 := F.tr (FrX.of (q := 144) (by decide +kernel) hF9)
  rw [va_up_id, clr_up] at Wx
  refine lv_aload_n hx hb dX1_clear_49 rfl (lv_at hl 0 rfl) ?_
  refine g_get X w 128 (F.1 128 (by have := Wx.1; omega) rfl) (by have := Wx.1; omega) (Wx.o xm_128) kc1 8 (by decide) rfl k_RX1_44 (v := .ref (ad13 146)) rfl dX1_clear_50 ?_
  refine lv_eqr (F.1 146 (by have := Wx.1; omega) rfl) ?_
  refine c_V (As := []) (rest := []) X w (ct_X5_clear l D G t N ad13 cl14 146 _ _ (Wx.2.1 146 (by decide +kernel)) (d - 1)) YX5_clear k_RX1_53 (146) (F.1 146 (by have := Wx.1; omega) rfl) (by have := Wx.1; omega) (Wx.2.1 146 (by decide +kernel)).2.1 kc5 (by rw [(F.1 146 (by have := Wx.1; omega) rfl)]) rfl rfl hl.1 (rm_call (by omega) (by decide)) (Nat.le_of_ble_eq_true rfl) dX1_clear_53 (⟨Nat.zero_le _, Nat.zero_le _⟩) (fun u H locs hp w => ?_)
  obtain ⟨ad15, cl16, rfl, hR9, hF9⟩ := hp
  have w : Wd D A s H locs N ad15 cl16 := w
  have Wx := Wx.row (q := 146) (by decide +kernel) hF9 hR9
  have F : FrX N ad cl ad15 cl16 := F.tr (FrX.of (q := 146) (by decide +kernel) hF9)
  rw [va_up_id, clr_up] at Wx
  refine lv_aload_n hx hb dX1_clear_56 rfl (lv_at hl 0 rfl) ?_
  refine g_get X w 128 (F.1 128 (by have := Wx.1; omega) rfl) (by have := Wx.1; omega) (Wx.o xm_128) kc1 9 (by decide) rfl k_RX1_47 (v := .ref (ad15 148)) rfl dX1_clear_57 ?_
  refine lv_eqr (F.1 148 (by have := Wx.1; omega) rfl) ?_
  refine c_V (As := []) (rest := []) X w (ct_X5_clear l D G t N ad15 cl16 148 _ _ (Wx.2.1 148 (by decide +kernel)) (d - 1)) YX5_clear k_RX1_53 (148) (F.1 148 (by have := Wx.1; omega) rfl) (by have := Wx.1; omega) (Wx.2.1 148 (by decide +kernel)).2.1 kc5 (by rw [(F.1 148 (by have := Wx.1; omega) rfl)]) rfl rfl hl.1 (rm_call (by omega) (by decide)) (Nat.le_of_ble_eq_true rfl) dX1_clear_60 (⟨Nat.zero_le _, Nat.zero_le _⟩) (fun u H locs hp w => ?_)
  obtain ⟨ad17, cl18, rfl, hR9, hF9⟩ := hp
  have w : Wd D A s H locs N ad17 cl18 := w
  have Wx := Wx.row (q := 148) (by decide +kernel) hF9 hR9
  have F : FrX N ad cl ad17 cl18 := F.tr (FrX.of (q := 148) (by decide +kernel) hF9)
  rw [va_up_id, clr_up] at Wx
  refine lv_aload_n hx hb dX1_clear_63 rfl (lv_at hl 0 rfl) ?_
  refine lv_iconst (v := 0) hx hb dX1_clear_64 (by decide) ?_
  refine x_puti X w Wx xm_128 (by decide) (F.1 128 (by have := Wx.1; omega) rfl) kc1 10 (by decide) rfl k_RX1_54 rfl (x := 0) rfl rfl rfl dX1_clear_65 (fun H locs cl19 w Wx F9 => ?_)
  have F := F.tr F9
  exact e_V X hr w ⟨ad17, cl19, rfl, Wx, F⟩ (Nat.le_of_ble_eq_true rfl) (Nat.le_of_ble_eq_true rfl) dX1_clear_68
set_option maxHeartbeats 4000000 in
set_option maxRecDepth 100000 in
theorem cx_0_openLines (l : Launch) (D : va_G) (G : Nat → ClassId) (t : Nat → Nat) (N : Nat) (ad : Nat → Nat) (cl : Nat → va_E) (c : Nat → Nat) (xs : Nat → List Int32) (v : Nat → Nat → Int32) (g : Nat → Nat → Int32) (nb : Nat → Nat) (Wx : XW G N ad cl c xs v g nb) (d : Nat) (hd : 3 ≤ d) : CtV l yX0_openLines cX0_openLines 1 (rmD d 0 0) D G t (N, ad, cl) [.ref (ad 111)] (fun u => ∃ ad' cl', u = (N, ad', cl') ∧ XW G N ad' cl' c (clr xs [116, 114, 112]) (v) (g) nb ∧ FrX N ad cl ad' cl') := by
  refine ct_V (own := RX0) (by decide +kernel) rfl (Nat.le_of_ble_eq_true rfl) rfl ?_
  intro p e s m args below meth cd A ls X hr hin hl w
  obtain ⟨hx, hb, hml, hown, hts, -⟩ := id X
  have hl : lv_has ls 1 [(0, .ref (ad 111))] := hl
  have F : FrX N ad cl ad cl := FrX.rf
  rw [← clr_nil xs] at Wx
  refine lv_aload_n hx hb dX0_openLines_0 rfl (lv_at hl 0 rfl) ?_
  refine g_get X w 111 rfl (by have := Wx.1; omega) (Wx.o xm_111) kc0 1 (by decide) rfl k_RX0_18 (v := .ref (ad 112)) rfl dX0_openLines_1 ?_
  refine c_V (As := []) (rest := []) X w (ct_X5_clear l D G t N ad cl 112 _ _ (Wx.2.1 112 (by decide +kernel)) (d - 1)) YX5_clear k_RX0_48 (112) rfl (by have := Wx.1; omega) (Wx.2.1 112 (by decide +kernel)).2.1 kc5 (rfl) rfl rfl hl.1 (rm_call (by omega) (by decide)) (Nat.le_of_ble_eq_true rfl) dX0_openLines_4 (⟨Nat.zero_le _, Nat.zero_le _⟩) (fun u H locs hp w => ?_)
  obtain ⟨ad1, cl2, rfl, hR9, hF9⟩ := hp
  have w : Wd D A s H locs N ad1 cl2 := w
  have Wx := Wx.row (q := 112) (by decide +kernel) hF9 hR9
  have F : FrX N ad cl ad1 cl2 := F.tr (FrX.of (q := 112) (by decide +kernel) hF9)
  rw [va_up_id, clr_up] at Wx
  refine lv_aload_n hx hb dX0_openLines_7 rfl (lv_at hl 0 rfl) ?_
  refine g_get X w 111 (F.1 111 (by have := Wx.1; omega) rfl) (by have := Wx.1; omega) (Wx.o xm_111) kc0 2 (by decide) rfl k_RX0_22 (v := .ref (ad1 114)) rfl dX0_openLines_8 ?_
  refine lv_eqr (F.1 114 (by have := Wx.1; omega) rfl) ?_
  refine c_V (As := []) (rest := []) X w (ct_X5_clear l D G t N ad1 cl2 114 _ _ (Wx.2.1 114 (by decide +kernel)) (d - 1)) YX5_clear k_RX0_48 (114) (F.1 114 (by have := Wx.1; omega) rfl) (by have := Wx.1; omega) (Wx.2.1 114 (by decide +kernel)).2.1 kc5 (by rw [(F.1 114 (by have := Wx.1; omega) rfl)]) rfl rfl hl.1 (rm_call (by omega) (by decide)) (Nat.le_of_ble_eq_true rfl) dX0_openLines_11 (⟨Nat.zero_le _, Nat.zero_le _⟩) (fun u H locs hp w => ?_)
  obtain ⟨ad3, cl4, rfl, hR9, hF9⟩ := hp
  have w : Wd D A s H locs N ad3 cl4 := w
  have Wx := Wx.row (q := 114) (by decide +kernel) hF9 hR9
  have F : FrX N ad cl ad3 cl4 := F.tr (FrX.of (q := 114) (by decide +kernel) hF9)
  rw [va_up_id, clr_up] at Wx
  refine lv_aload_n hx hb dX0_openLines_14 rfl (lv_at hl 0 rfl) ?_
  refine g_get X w 111 (F.1 111 (by have := Wx.1; omega) rfl) (by have := Wx.1; omega) (Wx.o xm_111) kc0 3 (by decide) rfl k_RX0_25 (v := .ref (ad3 116)) rfl dX0_openLines_15 ?_
  refine lv_eqr (F.1 116 (by have := Wx.1; omega) rfl) ?_
  refine c_V (As := []) (rest := []) X w (ct_X5_clear l D G t N ad3 cl4 116 _ _ (Wx.2.1 116 (by decide +kernel)) (d - 1)) YX5_clear k_RX0_48 (116) (F.1 116 (by have := Wx.1; omega) rfl) (by have := Wx.1; omega) (Wx.2.1 116 (by decide +kernel)).2.1 kc5 (by rw [(F.1 116 (by have := Wx.1; omega) rfl)]) rfl rfl hl.1 (rm_call (by omega) (by decide)) (Nat.le_of_ble_eq_true rfl) dX0_openLines_18 (⟨Nat.zero_le _, Nat.zero_le _⟩) (fun u H locs hp w => ?_)
  obtain ⟨ad5, cl6, rfl, hR9, hF9⟩ := hp
  have w : Wd D A s H locs N ad5 cl6 := w
  have Wx := Wx.row (q := 116) (by decide +kernel) hF9 hR9
  have F : FrX N ad cl ad5 cl6 := F.tr (FrX.of (q := 116) (by decide +kernel) hF9)
  rw [va_up_id, clr_up] at Wx
  exact e_V X hr w ⟨ad5, cl6, rfl, Wx, F⟩ (Nat.le_of_ble_eq_true rfl) (Nat.le_of_ble_eq_true rfl) dX0_openLines_21
set_option maxHeartbeats 4000000 in
set_option maxRecDepth 100000 in
theorem cx_0_openPlain (l : Launch) (D : va_G) (G : Nat → ClassId) (t : Nat → Nat) (N : Nat) (ad : Nat → Nat) (cl : Nat → va_E) (c : Nat → Nat) (xs : Nat → List Int32) (v : Nat → Nat → Int32) (g : Nat → Nat → Int32) (nb : Nat → Nat) (Wx : XW G N ad cl c xs v g nb) (d : Nat) (hd : 4 ≤ d) : CtV l yX0_openPlain cX0_openPlain 1 (rmD d 0 0) D G t (N, ad, cl) [.ref (ad 111)] (fun u => ∃ ad' cl', u = (N, ad', cl') ∧ XW G N ad' cl' c (clr xs [116, 114, 112, 118]) (vset (vset (vset (v) 111 9 (0)) 111 10 (0)) 111 11 (0)) (g) nb ∧ FrX N ad cl ad' cl') := by
  refine ct_V (own := RX0) (by decide +kernel) rfl (Nat.le_of_ble_eq_true rfl) rfl ?_
  intro p e s m args below meth cd A ls X hr hin hl w
  obtain ⟨hx, hb, hml, hown, hts, -⟩ := id X
  have hl : lv_has ls 1 [(0, .ref (ad 111))] := hl
  have F : FrX N ad cl ad cl := FrX.rf
  rw [← clr_nil xs] at Wx
  refine lv_aload_n hx hb dX0_openPlain_0 rfl (lv_at hl 0 rfl) ?_
  refine g_get X w 111 rfl (by have := Wx.1; omega) (Wx.o xm_111) kc0 4 (by decide) rfl k_RX0_28 (v := .ref (ad 118)) rfl dX0_openPlain_1 ?_
  refine c_V (As := []) (rest := []) X w (ct_X5_clear l D G t N ad cl 118 _ _ (Wx.2.1 118 (by decide +kernel)) (d - 1)) YX5_clear k_RX0_48 (118) rfl (by have := Wx.1; omega) (Wx.2.1 118 (by decide +kernel)).2.1 kc5 (rfl) rfl rfl hl.1 (rm_call (by omega) (by decide)) (Nat.le_of_ble_eq_true rfl) dX0_openPlain_4 (⟨Nat.zero_le _, Nat.zero_le _⟩) (fun u H locs hp w => ?_)
  obtain ⟨ad1, cl2, rfl, hR9, hF9⟩ := hp
  have w : Wd D A s H locs N ad1 cl2 := w
  have Wx := Wx.row (q := 118) (by decide +kernel) hF9 hR9
  have F : FrX N ad cl ad1 cl2 := F.tr (FrX.of (q := 118) (by decide +kernel) hF9)
  rw [va_up_id, clr_up] at Wx
  refine lv_aload_n hx hb dX0_openPlain_7 rfl (lv_at hl 0 rfl) ?_
  refine lv_iconst (v := 0) hx hb dX0_openPlain_8 (by decide) ?_
  refine x_puti X w Wx xm_111 (by decide) (F.1 111 (by have := Wx.1; omega) rfl) kc0 9 (by decide) rfl k_RX0_51 rfl (x := 0) rfl rfl rfl dX0_openPlain_9 (fun H locs cl3 w Wx F9 => ?_)
  have F := F.tr F9
  refine lv_aload_n hx hb dX0_openPlain_12 rfl (lv_at hl 0 rfl) ?_
  refine lv_iconst (v := 0) hx hb dX0_openPlain_13 (by decide) ?_
  refine x_puti X w Wx xm_111 (by decide) (F.1 111 (by have := Wx.1; omega) rfl) kc0 10 (by decide) rfl k_RX0_54 rfl (x := 0) rfl rfl rfl dX0_openPlain_14 (fun H locs cl4 w Wx F9 => ?_)
  have F := F.tr F9
  refine lv_aload_n hx hb dX0_openPlain_17 rfl (lv_at hl 0 rfl) ?_
  refine lv_iconst (v := 0) hx hb dX0_openPlain_18 (by decide) ?_
  refine x_puti X w Wx xm_111 (by decide) (F.1 111 (by have := Wx.1; omega) rfl) kc0 11 (by decide) rfl k_RX0_57 rfl (x := 0) rfl rfl rfl dX0_openPlain_19 (fun H locs cl5 w Wx F9 => ?_)
  have F := F.tr F9
  refine lv_aload_n hx hb dX0_openPlain_22 rfl (lv_at hl 0 rfl) ?_
  refine c_V (As := []) (rest := []) X w (cx_0_openLines l D G t N ad1 cl5 _ _ _ _ _ Wx (d - 1) (by omega)) YX0_openLines k_RX0_61 (111) (F.1 111 (by have := Wx.1; omega) rfl) (by have := Wx.1; omega) (Wx.o xm_111) kc0 (by rw [(F.1 111 (by have := Wx.1; omega) rfl)]) rfl rfl hl.1 (rm_call (by omega) (by decide)) (Nat.le_of_ble_eq_true rfl) dX0_openPlain_23 (⟨Nat.zero_le _, Nat.zero_le _⟩) (fun u H locs hp w => ?_)
  obtain ⟨ad6, cl7, rfl, Wx, F9⟩ := hp
  have w : Wd D A s H locs N ad6 cl7 := w
  have F := F.tr F9
  rw [clr_clr] at Wx
  have Wx : XW G N ad6 cl7 c (clr xs [116, 114, 112, 118]) (vset (vset (vset (v) 111 9 (0)) 111 10 (0)) 111 11 (0)) (g) nb := Wx
  exact e_V X hr w ⟨ad6, cl7, rfl, Wx, F⟩ (Nat.le_of_ble_eq_true rfl) (Nat.le_of_ble_eq_true rfl) dX0_openPlain_26
set_option maxHeartbeats 4000000 in
set_option maxRecDepth 100000 in
theorem cx_10_openText (l : Launch) (D : va_G) (G : Nat → ClassId) (t : Nat → Nat) (N : Nat) (ad : Nat → Nat) (cl : Nat → va_E) (c : Nat → Nat) (xs : Nat → List Int32) (v : Nat → Nat → Int32) (g : Nat → Nat → Int32) (nb : Nat → Nat) (Wx : XW G N ad cl c xs v g nb) (k : Int32) (d : Nat) (hd : 3 ≤ d) : CtV l yX10_openText cX10_openText 2 (rmD d 0 0) D G t (N, ad, cl) [.ref (ad 86), .int k] (fun u => ∃ ad' cl', u = (N, ad', cl') ∧ XW G N ad' cl' c (clr xs [109, 107, 105, 93, 91, 89, 87]) (vset (vset (vset (vset (vset (vset (v) 86 13 (k)) 86 14 (0)) 86 15 (0)) 86 16 (0)) 86 17 (0)) 86 18 (0)) (g) nb ∧ FrX N ad cl ad' cl') := by
  refine ct_V (own := RX10) (by decide +kernel) rfl (Nat.le_of_ble_eq_true rfl) rfl ?_
  intro p e s m args below meth cd A ls X hr hin hl w
  obtain ⟨hx, hb, hml, hown, hts, -⟩ := id X
  have hl : lv_has ls 2 [(0, .ref (ad 86)), (1, .int (k))] := hl
  have F : FrX N ad cl ad cl := FrX.rf
  rw [← clr_nil xs] at Wx
  refine lv_aload_n hx hb dX10_openText_0 rfl (lv_at hl 0 rfl) ?_
  refine lv_iload_n hx hb dX10_openText_1 rfl (lv_at hl 1 rfl) ?_
  refine x_puti X w Wx xm_86 (by decide) rfl kc10 13 (by decide) rfl k_RX10_65 rfl (x := k) rfl rfl rfl dX10_openText_2 (fun H locs cl1 w Wx F9 => ?_)
  have F := F.tr F9
  refine lv_aload_n hx hb dX10_openText_5 rfl (lv_at hl 0 rfl) ?_
  refine g_get X w 86 rfl (by have := Wx.1; omega) (Wx.o xm_86) kc10 4 (by decide) rfl k_RX10_29 (v := .ref (ad 87)) rfl dX10_openText_6 ?_
  refine c_V (As := []) (rest := []) X w (ct_X5_clear l D G t N ad cl1 87 _ _ (Wx.2.1 87 (by decide +kernel)) (d - 1)) YX5_clear k_RX10_64 (87) rfl (by have := Wx.1; omega) (Wx.2.1 87 (by decide +kernel)).2.1 kc5 (rfl) rfl rfl hl.1 (rm_call (by omega) (by decide)) (Nat.le_of_ble_eq_true rfl) dX10_openText_9 (⟨Nat.zero_le _, Nat.zero_le _⟩) (fun u H locs hp w => ?_)
  obtain ⟨ad2, cl3, rfl, hR9, hF9⟩ := hp
  have w : Wd D A s H locs N ad2 cl3 := w
  have Wx := Wx.row (q := 87) (by decide +kernel) hF9 hR9
  have F : FrX N ad cl ad2 cl3 := F.tr (FrX.of (q := 87) (by decide +kernel) hF9)
  rw [va_up_id, clr_up] at Wx
  refine lv_aload_n hx hb dX10_openText_12 rfl (lv_at hl 0 rfl) ?_
  refine g_get X w 86 (F.1 86 (by have := Wx.1; omega) rfl) (by have := Wx.1; omega) (Wx.o xm_86) kc10 5 (by decide) rfl k_RX10_33 (v := .ref (ad2 89)) rfl dX10_openText_13 ?_
  refine lv_eqr (F.1 89 (by have := Wx.1; omega) rfl) ?_
  refine c_V (As := []) (rest := []) X w (ct_X5_clear l D G t N ad2 cl3 89 _ _ (Wx.2.1 89 (by decide +kernel)) (d - 1)) YX5_clear k_RX10_64 (89) (F.1 89 (by have := Wx.1; omega) rfl) (by have := Wx.1; omega) (Wx.2.1 89 (by decide +kernel)).2.1 kc5 (by rw [(F.1 89 (by have := Wx.1; omega) rfl)]) rfl rfl hl.1 (rm_call (by omega) (by decide)) (Nat.le_of_ble_eq_true rfl) dX10_openText_16 (⟨Nat.zero_le _, Nat.zero_le _⟩) (fun u H locs hp w => ?_)
  obtain ⟨ad4, cl5, rfl, hR9, hF9⟩ := hp
  have w : Wd D A s H locs N ad4 cl5 := w
  have Wx := Wx.row (q := 89) (by decide +kernel) hF9 hR9
  have F : FrX N ad cl ad4 cl5 := F.tr (FrX.of (q := 89) (by decide +kernel) hF9)
  rw [va_up_id, clr_up] at Wx
  refine lv_aload_n hx hb dX10_openText_19 rfl (lv_at hl 0 rfl) ?_
  refine g_get X w 86 (F.1 86 (by have := Wx.1; omega) rfl) (by have := Wx.1; omega) (Wx.o xm_86) kc10 6 (by decide) rfl k_RX10_36 (v := .ref (ad4 91)) rfl dX10_openText_20 ?_
  refine lv_eqr (F.1 91 (by have := Wx.1; omega) rfl) ?_
  refine c_V (As := []) (rest := []) X w (ct_X5_clear l D G t N ad4 cl5 91 _ _ (Wx.2.1 91 (by decide +kernel)) (d - 1)) YX5_clear k_RX10_64 (91) (F.1 91 (by have := Wx.1; omega) rfl) (by have := Wx.1; omega) (Wx.2.1 91 (by decide +kernel)).2.1 kc5 (by rw [(F.1 91 (by have := Wx.1; omega) rfl)]) rfl rfl hl.1 (rm_call (by omega) (by decide)) (Nat.le_of_ble_eq_true rfl) dX10_openText_23 (⟨Nat.zero_le _, Nat.zero_le _⟩) (fun u H locs hp w => ?_)
  obtain ⟨ad6, cl7, rfl, hR9, hF9⟩ := hp
  have w : Wd D A s H locs N ad6 cl7 := w
  have Wx := Wx.row (q := 91) (by decide +kernel) hF9 hR9
  have F : FrX N ad cl ad6 cl7 := F.tr (FrX.of (q := 91) (by decide +kernel) hF9)
  rw [va_up_id, clr_up] at Wx
  refine lv_aload_n hx hb dX10_openText_26 rfl (lv_at hl 0 rfl) ?_
  refine g_get X w 86 (F.1 86 (by have := Wx.1; omega) rfl) (by have := Wx.1; omega) (Wx.o xm_86) kc10 7 (by decide) rfl k_RX10_39 (v := .ref (ad6 93)) rfl dX10_openText_27 ?_
  refine lv_eqr (F.1 93 (by have := Wx.1; omega) rfl) ?_
  refine c_V (As := []) (rest := []) X w (ct_X5_clear l D G t N ad6 cl7 93 _ _ (Wx.2.1 93 (by decide +kernel)) (d - 1)) YX5_clear k_RX10_64 (93) (F.1 93 (by have := Wx.1; omega) rfl) (by have := Wx.1; omega) (Wx.2.1 93 (by decide +kernel)).2.1 kc5 (by rw [(F.1 93 (by have := Wx.1; omega) rfl)]) rfl rfl hl.1 (rm_call (by omega) (by decide)) (Nat.le_of_ble_eq_true rfl) dX10_openText_30 (⟨Nat.zero_le _, Nat.zero_le _⟩) (fun u H locs hp w => ?_)
  obtain ⟨ad8, cl9, rfl, hR9, hF9⟩ := hp
  have w : Wd D A s H locs N ad8 cl9 := w
  have Wx := Wx.row (q := 93) (by decide +kernel) hF9 hR9
  have F : FrX N ad cl ad8 cl9 := F.tr (FrX.of (q := 93) (by decide +kernel) hF9)
  rw [va_up_id, clr_up] at Wx
  refine lv_aload_n hx hb dX10_openText_33 rfl (lv_at hl 0 rfl) ?_
  refine g_get X w 86 (F.1 86 (by have := Wx.1; omega) rfl) (by have := Wx.1; omega) (Wx.o xm_86) kc10 11 (by decide) rfl k_RX10_55 (v := .ref (ad8 104)) rfl dX10_openText_34 ?_
  refine lv_eqr (F.1 104 (by have := Wx.1; omega) rfl) ?_
  refine c_V (As := []) (rest := []) X w (cx_8_clear_104 l D G t N ad8 cl9 _ _ _ _ _ Wx (d - 1) (by omega)) YX8_clear k_RX10_61 (104) (F.1 104 (by have := Wx.1; omega) rfl) (by have := Wx.1; omega) (Wx.o xm_104) kc8 (by rw [(F.1 104 (by have := Wx.1; omega) rfl)]) rfl rfl hl.1 (rm_call (by omega) (by decide)) (Nat.le_of_ble_eq_true rfl) dX10_openText_37 (⟨Nat.zero_le _, Nat.zero_le _⟩) (fun u H locs hp w => ?_)
  obtain ⟨ad10, cl11, rfl, Wx, F9⟩ := hp
  have w : Wd D A s H locs N ad10 cl11 := w
  have F := F.tr F9
  rw [clr_clr] at Wx
  have Wx : XW G N ad10 cl11 c (clr xs [107, 105, 93, 91, 89, 87]) (vset (v) 86 13 (k)) (g) nb := Wx
  refine lv_aload_n hx hb dX10_openText_40 rfl (lv_at hl 0 rfl) ?_
  refine g_get X w 86 (F.1 86 (by have := Wx.1; omega) rfl) (by have := Wx.1; omega) (Wx.o xm_86) kc10 12 (by decide) rfl k_RX10_58 (v := .ref (ad10 109)) rfl dX10_openText_41 ?_
  refine lv_eqr (F.1 109 (by have := Wx.1; omega) rfl) ?_
  refine c_V (As := []) (rest := []) X w (ct_X5_clear l D G t N ad10 cl11 109 _ _ (Wx.2.1 109 (by decide +kernel)) (d - 1)) YX5_clear k_RX10_64 (109) (F.1 109 (by have := Wx.1; omega) rfl) (by have := Wx.1; omega) (Wx.2.1 109 (by decide +kernel)).2.1 kc5 (by rw [(F.1 109 (by have := Wx.1; omega) rfl)]) rfl rfl hl.1 (rm_call (by omega) (by decide)) (Nat.le_of_ble_eq_true rfl) dX10_openText_44 (⟨Nat.zero_le _, Nat.zero_le _⟩) (fun u H locs hp w => ?_)
  obtain ⟨ad12, cl13, rfl, hR9, hF9⟩ := hp
  have w : Wd D A s H locs N ad12 cl13 := w
  have Wx := Wx.row (q := 109) (by decide +kernel) hF9 hR9
  have F : FrX N ad cl ad12 cl13 := F.tr (FrX.of (q := 109) (by decide +kernel) hF9)
  rw [va_up_id, clr_up] at Wx
  refine lv_aload_n hx hb dX10_openText_47 rfl (lv_at hl 0 rfl) ?_
  refine lv_iconst (v := 0) hx hb dX10_openText_48 (by decide) ?_
  refine x_puti X w Wx xm_86 (by decide) (F.1 86 (by have := Wx.1; omega) rfl) kc10 14 (by decide) rfl k_RX10_69 rfl (x := 0) rfl rfl rfl dX10_openText_49 (fun H locs cl14 w Wx F9 => ?_)
  have F := F.tr F9
  refine lv_aload_n hx hb dX10_openText_52 rfl (lv_at hl 0 rfl) ?_
  refine lv_iconst (v := 0) hx hb dX10_openText_53 (by decide) ?_
  refine x_puti X w Wx xm_86 (by decide) (F.1 86 (by have := Wx.1; omega) rfl) kc10 15 (by decide) rfl k_RX10_72 rfl (x := 0) rfl rfl rfl dX10_openText_54 (fun H locs cl15 w Wx F9 => ?_)
  have F := F.tr F9
  refine lv_aload_n hx hb dX10_openText_57 rfl (lv_at hl 0 rfl) ?_
  refine lv_iconst (v := 0) hx hb dX10_openText_58 (by decide) ?_
  refine x_puti X w Wx xm_86 (by decide) (F.1 86 (by have := Wx.1; omega) rfl) kc10 16 (by decide) rfl k_RX10_75 rfl (x := 0) rfl rfl rfl dX10_openText_59 (fun H locs cl16 w Wx F9 => ?_)
  have F := F.tr F9
  refine lv_aload_n hx hb dX10_openText_62 rfl (lv_at hl 0 rfl) ?_
  refine lv_iconst (v := 0) hx hb dX10_openText_63 (by decide) ?_
  refine x_puti X w Wx xm_86 (by decide) (F.1 86 (by have := Wx.1; omega) rfl) kc10 17 (by decide) rfl k_RX10_78 rfl (x := 0) rfl rfl rfl dX10_openText_64 (fun H locs cl17 w Wx F9 => ?_)
  have F := F.tr F9
  refine lv_aload_n hx hb dX10_openText_67 rfl (lv_at hl 0 rfl) ?_
  refine lv_iconst (v := 0) hx hb dX10_openText_68 (by decide) ?_
  refine x_puti X w Wx xm_86 (by decide) (F.1 86 (by have := Wx.1; omega) rfl) kc10 18 (by decide) rfl k_RX10_81 rfl (x := 0) rfl rfl rfl dX10_openText_69 (fun H locs cl18 w Wx F9 => ?_)
  have F := F.tr F9
  exact e_V X hr w ⟨ad12, cl18, rfl, Wx, F⟩ (Nat.le_of_ble_eq_true rfl) (Nat.le_of_ble_eq_true rfl) dX10_openText_72
set_option maxHeartbeats 4000000 in
set_option maxRecDepth 100000 in
theorem cx_4_open (l : Launch) (D : va_G) (G : Nat → ClassId) (t : Nat → Nat) (N : Nat) (ad : Nat → Nat) (cl : Nat → va_E) (c : Nat → Nat) (xs : Nat → List Int32) (v : Nat → Nat → Int32) (g : Nat → Nat → Int32) (nb : Nat → Nat) (Wx : XW G N ad cl c xs v g nb) (d : Nat) (hd : 1 ≤ d) : CtV l yX4_open cX4_open 1 (rmD d 0 0) D G t (N, ad, cl) [.ref (ad 22)] (fun u => ∃ ad' cl', u = (N, ad', cl') ∧ XW G N ad' cl' c (clr xs []) (vset (vset (v) 22 0 (0)) 22 2 (0)) (g) nb ∧ FrX N ad cl ad' cl') := by
  refine ct_V (own := RX4) (by decide +kernel) rfl (Nat.le_of_ble_eq_true rfl) rfl ?_
  intro p e s m args below meth cd A ls X hr hin hl w
  obtain ⟨hx, hb, hml, hown, hts, -⟩ := id X
  have hl : lv_has ls 1 [(0, .ref (ad 22))] := hl
  have F : FrX N ad cl ad cl := FrX.rf
  rw [← clr_nil xs] at Wx
  refine lv_aload_n hx hb dX4_open_0 rfl (lv_at hl 0 rfl) ?_
  refine lv_iconst (v := 0) hx hb dX4_open_1 (by decide) ?_
  refine x_puti X w Wx xm_22 (by decide) rfl kc4 0 (by decide) rfl k_RX4_9 rfl (x := 0) rfl rfl rfl dX4_open_2 (fun H locs cl1 w Wx F9 => ?_)
  have F := F.tr F9
  refine lv_aload_n hx hb dX4_open_5 rfl (lv_at hl 0 rfl) ?_
  refine lv_iconst (v := 0) hx hb dX4_open_6 (by decide) ?_
  refine x_puti X w Wx xm_22 (by decide) rfl kc4 2 (by decide) rfl k_RX4_15 rfl (x := 0) rfl rfl rfl dX4_open_7 (fun H locs cl2 w Wx F9 => ?_)
  have F := F.tr F9
  exact e_V X hr w ⟨ad, cl2, rfl, Wx, F⟩ (Nat.le_of_ble_eq_true rfl) (Nat.le_of_ble_eq_true rfl) dX4_open_10
