/-! calls of nest mates' private constructors and static methods -/
section
variable {p : Program} {l : Launch} {e : Env} {R : Room} {s : State} {m : MethodId} {args : Array Value} {below : List Frame} {meth : Method} {c : Code} {H : Heap} {locs : List Loc} {cells slots : Nat} {Q : State → Prop}
variable {cc : ByteArray} {nL pc : Nat} {own : String} {ls : Array Slot} {rest : List Value} {D : va_G} {G : Nat → ClassId} {t : Nat → Nat} {A : Nat → Prop} {N : Nat} {ad : Nat → Nat} {cl : Nat → va_E}
theorem c_initN {y : MethodName} {c2 : ByteArray} {n2 d mc ms n idx : Nat} {host : String} {av As : List Value} {post : PS → Prop} {a : Nat} {st : List Value} (X : Cx p s m args meth c cc nL own D G t A) (w : Wd D A s H locs N ad cl) (M : CtV l y c2 n2 (rmD d mc ms) D G t (N, ad, cl) av post) (Y : Yi y c2 n2 n) (hl : Cond.methodLinkNest own idx y host ∈ tables_1) (hav : av = .ref a :: As) (hst : st = As.reverse ++ .ref a :: rest) (hn : As.length = n) (hls : ls.size = nL)
    (hR : d + 1 ≤ R.frames ∧ 8 + (n2 + 11) + 60 * d ≤ R.locals) (hW : (rest.map fun v => v.category).sum ≤ 8) (hdg : decode cc pc = .ok (.invokespecial idx, 3)) (hf : cells + mc ≤ R.cells ∧ slots + ms ≤ R.slots)
    (kk : ∀ (u' : PS) (H : Heap) (locs : List Loc), post u' → Wd D A s H locs u'.1 u'.2.1 u'.2.2 → W p l e R s m args below meth c H locs (cells + mc) (slots + ms) Q (F0 m (pc + 3) ls rest)) : W p l e R s m args below meth c H locs cells slots Q (F0 m pc ls st) := by
  subst hav; subst hst
  have X0 := X
  obtain ⟨hx, hb, hml, hown, hts, hK, hA, hZ, hN, hlo⟩ := X
  obtain ⟨h1, h3, h4, h0, h5, h6, h7⟩ := Y
  have hF := w.free X0
  refine va_callv (va_runIN (As := As) (rest := rest) ⟨hx, hb, hml, hown, hts⟩ (M H.size) ⟨va_cnB n hts (tb_goodC h1) rfl rfl rfl (hN.1 _ hl rfl) (hts _ h4) ⟨h5, h6, h7⟩ hR, h0, hts _ h3⟩ ⟨PP.blind, fun U hU hW => ⟨rfl, PP.of X0 w hU hW⟩⟩ rfl hn hls rfl (lv_room hW) hdg hf) w.2.2 (fun q _ h => hF q h) hF (fun u' T H1 locs1 hT hvm hp hB _ _ hS => ?_)
  exact kk u' H1 locs1 hp (w.back X0 hT hB hS)
theorem c_SIN {y : MethodName} {c2 : ByteArray} {n2 d mc ms n idx : Nat} {host : String} {av As : List Value} {post : Int32 → PS → Prop} {st : List Value} (X : Cx p s m args meth c cc nL own D G t A) (w : Wd D A s H locs N ad cl) (M : CtI l y c2 n2 (rmD d mc ms) D G t (N, ad, cl) av post) (Y : Ys y c2 n2 (some .int) n) (hl : Cond.methodLinkNest own idx y host ∈ tables_1) (hav : av = As) (hst : st = As.reverse ++ rest) (hn : As.length = n) (hls : ls.size = nL)
    (hR : d + 1 ≤ R.frames ∧ 8 + (n2 + 11) + 60 * d ≤ R.locals) (hW : (rest.map fun v => v.category).sum ≤ 8) (hdg : decode cc pc = .ok (.invokestatic idx, 3)) (hf : cells + mc ≤ R.cells ∧ slots + ms ≤ R.slots)
    (kk : ∀ (r : Int32) (u' : PS) (H : Heap) (locs : List Loc), post r u' → Wd D A s H locs u'.1 u'.2.1 u'.2.2 → W p l e R s m args below meth c H locs (cells + mc) (slots + ms) Q (F0 m (pc + 3) ls (.int r :: rest))) : W p l e R s m args below meth c H locs cells slots Q (F0 m pc ls st) := by
  subst hav; subst hst
  have X0 := X
  obtain ⟨hx, hb, hml, hown, hts, hK, hA, hZ, hN, hlo⟩ := X
  obtain ⟨h1, h2, h4, h5, h6, h7⟩ := Y
  have hF := w.free X0
  refine va_calli (va_runSN (As := av) (rest := rest) ⟨hx, hb, hml, hown, hts⟩ (M H.size) ⟨va_cnB n hts (tb_goodC h1) rfl rfl rfl (hN.1 _ hl rfl) (hts _ h4) ⟨h5, h6, h7⟩ hR, hts _ h2, trivial⟩ ⟨PP.blind, fun U hU hW => ⟨rfl, PP.of X0 w hU hW⟩⟩ rfl hn hls rfl (lv_room hW) hdg hf) w.2.2 (fun q _ h => hF q h) hF (fun r u' T H1 locs1 hT hvm hp hB _ _ hS => ?_)
  exact kk r u' H1 locs1 hp (w.back X0 hT hB hS)
theorem c_SZN {y : MethodName} {c2 : ByteArray} {n2 d mc ms n idx : Nat} {host : String} {av As : List Value} {post : Int32 → PS → Prop} {st : List Value} (X : Cx p s m args meth c cc nL own D G t A) (w : Wd D A s H locs N ad cl) (M : CtZ l y c2 n2 (rmD d mc ms) D G t (N, ad, cl) av post) (Y : Ys y c2 n2 (some .boolean) n) (hl : Cond.methodLinkNest own idx y host ∈ tables_1) (hav : av = As) (hst : st = As.reverse ++ rest) (hn : As.length = n) (hls : ls.size = nL)
    (hR : d + 1 ≤ R.frames ∧ 8 + (n2 + 11) + 60 * d ≤ R.locals) (hW : (rest.map fun v => v.category).sum ≤ 8) (hdg : decode cc pc = .ok (.invokestatic idx, 3)) (hf : cells + mc ≤ R.cells ∧ slots + ms ≤ R.slots)
    (kk : ∀ (r : Int32) (u' : PS) (H : Heap) (locs : List Loc), post r u' → Wd D A s H locs u'.1 u'.2.1 u'.2.2 → W p l e R s m args below meth c H locs (cells + mc) (slots + ms) Q (F0 m (pc + 3) ls (.int r :: rest))) : W p l e R s m args below meth c H locs cells slots Q (F0 m pc ls st) := by
  subst hav; subst hst
  have X0 := X
  obtain ⟨hx, hb, hml, hown, hts, hK, hA, hZ, hN, hlo⟩ := X
  obtain ⟨h1, h2, h4, h5, h6, h7⟩ := Y
  have hF := w.free X0
  refine va_calli (va_runSN (As := av) (rest := rest) ⟨hx, hb, hml, hown, hts⟩ (M H.size) ⟨va_cnB n hts (tb_goodC h1) rfl rfl rfl (hN.1 _ hl rfl) (hts _ h4) ⟨h5, h6, h7⟩ hR, hts _ h2, trivial⟩ ⟨PP.blind, fun U hU hW => ⟨rfl, PP.of X0 w hU hW⟩⟩ rfl hn hls rfl (lv_room hW) hdg hf) w.2.2 (fun q _ h => hF q h) hF (fun r u' T H1 locs1 hT hvm hp hB _ _ hS => ?_)
  exact kk r u' H1 locs1 hp (w.back X0 hT hB hS)
end
abbrev cX6_init : ByteArray := prog_8_method_1_code
def yX6_init : MethodName := ⟨RX6, "<init>", "(LTypeRoom$Purse;)V"⟩
theorem wcX6_init : Cond.code yX6_init cX6_init 2 none ∈ tb := tb_1 (i := 82) rfl rfl
theorem wi_6 : Cond.initialized RX6 ∈ tb := tb_1 (i := 4) (by decide +kernel) rfl
theorem wnX6_init : Cond.instanceMethod yX6_init ∈ tb := tb_1 (i := 81) (by decide +kernel) rfl
theorem YX6_init : Yi yX6_init cX6_init 2 1 := ⟨wcX6_init, wnX6_init, wi_6, rfl, by decide +kernel, by decide +kernel, by decide +kernel⟩
theorem dX6_init_0 : decode cX6_init 0 = .ok (.aload_n 0, 1) := by decide +kernel
theorem dX6_init_1 : decode cX6_init 1 = .ok (.invokespecial 3, 3) := by decide +kernel
theorem dX6_init_4 : decode cX6_init 4 = .ok (.aload_n 0, 1) := by decide +kernel
theorem dX6_init_5 : decode cX6_init 5 = .ok (.aload_n 1, 1) := by decide +kernel
theorem dX6_init_6 : decode cX6_init 6 = .ok (.putfield 9, 3) := by decide +kernel
theorem dX6_init_9 : decode cX6_init 9 = .ok (.aload_n 0, 1) := by decide +kernel
theorem dX6_init_10 : decode cX6_init 10 = .ok (.bipush 13, 2) := by decide +kernel
theorem dX6_init_12 : decode cX6_init 12 = .ok (.newarray .int, 2) := by decide +kernel
theorem dX6_init_14 : decode cX6_init 14 = .ok (.putfield 15, 3) := by decide +kernel
theorem dX6_init_17 : decode cX6_init 17 = .ok (.getstatic 19, 3) := by decide +kernel
theorem dX6_init_20 : decode cX6_init 20 = .ok (.iconst 0, 1) := by decide +kernel
theorem dX6_init_21 : decode cX6_init 21 = .ok (.aload_n 0, 1) := by decide +kernel
theorem dX6_init_22 : decode cX6_init 22 = .ok (.getfield 15, 3) := by decide +kernel
theorem dX6_init_25 : decode cX6_init 25 = .ok (.iconst 0, 1) := by decide +kernel
theorem dX6_init_26 : decode cX6_init 26 = .ok (.bipush 13, 2) := by decide +kernel
theorem dX6_init_28 : decode cX6_init 28 = .ok (.invokestatic 22, 3) := by decide +kernel
theorem dX6_init_31 : decode cX6_init 31 = .ok (.aload_n 0, 1) := by decide +kernel
theorem dX6_init_32 : decode cX6_init 32 = .ok (.new 28, 3) := by decide +kernel
theorem dX6_init_35 : decode cX6_init 35 = .ok (.dup, 1) := by decide +kernel
theorem dX6_init_36 : decode cX6_init 36 = .ok (.invokespecial 30, 3) := by decide +kernel
theorem dX6_init_39 : decode cX6_init 39 = .ok (.putfield 31, 3) := by decide +kernel
theorem dX6_init_42 : decode cX6_init 42 = .ok (.aload_n 0, 1) := by decide +kernel
theorem dX6_init_43 : decode cX6_init 43 = .ok (.new 35, 3) := by decide +kernel
theorem dX6_init_46 : decode cX6_init 46 = .ok (.dup, 1) := by decide +kernel
theorem dX6_init_47 : decode cX6_init 47 = .ok (.invokespecial 37, 3) := by decide +kernel
theorem dX6_init_50 : decode cX6_init 50 = .ok (.putfield 38, 3) := by decide +kernel
theorem dX6_init_53 : decode cX6_init 53 = .ok (.aload_n 0, 1) := by decide +kernel
theorem dX6_init_54 : decode cX6_init 54 = .ok (.new 35, 3) := by decide +kernel
theorem dX6_init_57 : decode cX6_init 57 = .ok (.dup, 1) := by decide +kernel
theorem dX6_init_58 : decode cX6_init 58 = .ok (.invokespecial 37, 3) := by decide +kernel
theorem dX6_init_61 : decode cX6_init 61 = .ok (.putfield 42, 3) := by decide +kernel
theorem dX6_init_64 : decode cX6_init 64 = .ok (.aload_n 0, 1) := by decide +kernel
theorem dX6_init_65 : decode cX6_init 65 = .ok (.new 28, 3) := by decide +kernel
theorem dX6_init_68 : decode cX6_init 68 = .ok (.dup, 1) := by decide +kernel
theorem dX6_init_69 : decode cX6_init 69 = .ok (.invokespecial 30, 3) := by decide +kernel
theorem dX6_init_72 : decode cX6_init 72 = .ok (.putfield 45, 3) := by decide +kernel
theorem dX6_init_75 : decode cX6_init 75 = .ok (.aload_n 0, 1) := by decide +kernel
theorem dX6_init_76 : decode cX6_init 76 = .ok (.new 28, 3) := by decide +kernel
theorem dX6_init_79 : decode cX6_init 79 = .ok (.dup, 1) := by decide +kernel
theorem dX6_init_80 : decode cX6_init 80 = .ok (.invokespecial 30, 3) := by decide +kernel
theorem dX6_init_83 : decode cX6_init 83 = .ok (.putfield 48, 3) := by decide +kernel
theorem dX6_init_86 : decode cX6_init 86 = .ok (.aload_n 0, 1) := by decide +kernel
theorem dX6_init_87 : decode cX6_init 87 = .ok (.new 28, 3) := by decide +kernel
theorem dX6_init_90 : decode cX6_init 90 = .ok (.dup, 1) := by decide +kernel
theorem dX6_init_91 : decode cX6_init 91 = .ok (.invokespecial 30, 3) := by decide +kernel
theorem dX6_init_94 : decode cX6_init 94 = .ok (.putfield 51, 3) := by decide +kernel
theorem dX6_init_97 : decode cX6_init 97 = .ok (.return_, 1) := by decide +kernel
theorem k_RX6_3 : Cond.methodLink RX6 3 ⟨"java/lang/Object", "<init>", "()V"⟩ ∈ tb := tb_1 (i := 83) (by decide +kernel) rfl
theorem k_RX6_9 : Cond.fieldLink RX6 9 RX6 "purse" "LTypeRoom$Purse;" ∈ tb := tb_1 (i := 115) (by decide +kernel) rfl
theorem k_RX6_15 : Cond.fieldLink RX6 15 RX6 "settings" "[I" ∈ tb := tb_1 (i := 116) (by decide +kernel) rfl
theorem k_RX6_19 : Cond.fieldLink RX6 19 RX6 "AT_FIRST" "[I" ∈ tb := tb_1 (i := 84) (by decide +kernel) rfl
theorem k_RX6_22 : Cond.methodLink RX6 22 ⟨"java/lang/System", "arraycopy", "(Ljava/lang/Object;ILjava/lang/Object;II)V"⟩ ∈ tb := tb_1 (i := 86) (by decide +kernel) rfl
theorem k_RX6_28 : Cond.classLink RX6 28 RX8 ∈ tb := tb_1 (i := 89) (by decide +kernel) rfl
theorem k_RX6_30 : Cond.methodLink RX6 30 yX8_init ∈ tb := tb_1 (i := 91) (by decide +kernel) rfl
theorem k_RX6_31 : Cond.fieldLink RX6 31 RX6 "names" "LTypeRoom$Shelf;" ∈ tb := tb_1 (i := 117) (by decide +kernel) rfl
theorem k_RX6_35 : Cond.classLink RX6 35 RX5 ∈ tb := tb_1 (i := 113) (by decide +kernel) rfl
theorem k_RX6_37 : Cond.methodLink RX6 37 yX5_init ∈ tb := tb_1 (i := 114) (by decide +kernel) rfl
theorem k_RX6_38 : Cond.fieldLink RX6 38 RX6 "arities" "LTypeRoom$Row;" ∈ tb := tb_1 (i := 120) (by decide +kernel) rfl
theorem k_RX6_42 : Cond.fieldLink RX6 42 RX6 "bodyOf" "LTypeRoom$Row;" ∈ tb := tb_1 (i := 122) (by decide +kernel) rfl
theorem k_RX6_45 : Cond.fieldLink RX6 45 RX6 "bodies" "LTypeRoom$Shelf;" ∈ tb := tb_1 (i := 124) (by decide +kernel) rfl
theorem k_RX6_48 : Cond.fieldLink RX6 48 RX6 "patterns" "LTypeRoom$Shelf;" ∈ tb := tb_1 (i := 126) (by decide +kernel) rfl
theorem k_RX6_51 : Cond.fieldLink RX6 51 RX6 "exceptions" "LTypeRoom$Shelf;" ∈ tb := tb_1 (i := 129) (by decide +kernel) rfl
def bX6 (G : Nat → ClassId) (ad : Nat → Nat) (b : Nat) (p0 : Nat) : List va_E := (.inr (6, [.ref p0, .ref (ad (b + 1)), .ref (ad (b + 2)), .ref (ad (b + 7)), .ref (ad (b + 9)), .ref (ad (b + 11)), .ref (ad (b + 16)), .ref (ad (b + 21))])) :: ([.inl (G 0, 13, .inl (va_cpy (tOf [40, 2, 3, 1, 2, 2, 0, 2, 1, 24, 0, 1, 1]) (fun _ => 0) 0 0 13))] ++ (bX8 G ad (b + 2) ++ (bX5 G ad (b + 7) ++ (bX5 G ad (b + 9) ++ (bX8 G ad (b + 11) ++ (bX8 G ad (b + 16) ++ (bX8 G ad (b + 21))))))))
theorem cg6 {G : Nat → ClassId} {ad ad' : Nat → Nat} {b n : Nat} {p0 : Nat} (hn : 26 ≤ n) (h : ∀ k, k < b + n → b ≤ k → ad' k = ad k) : bX6 G ad' b p0 = bX6 G ad b p0 := by
  simp only [bX6, h (b + 1) (by omega) (by omega), h (b + 2) (by omega) (by omega), h (b + 7) (by omega) (by omega), h (b + 9) (by omega) (by omega), h (b + 11) (by omega) (by omega), h (b + 16) (by omega) (by omega), h (b + 21) (by omega) (by omega), cg8 (b := b + 2) (n := 5) (Nat.le_refl _) (fun k h1 h2 => h k (by omega) (by omega)), cg5 (b := b + 7) (n := 2) (Nat.le_refl _) (fun k h1 h2 => h k (by omega) (by omega)), cg5 (b := b + 9) (n := 2) (Nat.le_refl _) (fun k h1 h2 => h k (by omega) (by omega)), cg8 (b := b + 11) (n := 5) (Nat.le_refl _) (fun k h1 h2 => h k (by omega) (by omega)), cg8 (b := b + 16) (n := 5) (Nat.le_refl _) (fun k h1 h2 => h k (by omega) (by omega)), cg8 (b := b + 21) (n := 5) (Nat.le_refl _) (fun k h1 h2 => h k (by omega) (by omega))]
theorem ln6 {G : Nat → ClassId} {ad : Nat → Nat} {b : Nat} {p0 : Nat} : (bX6 G ad b p0).length = 26 := by
  simp only [bX6, List.length_cons, List.length_append, List.length_nil, ln5, ln8]
set_option maxHeartbeats 4000000 in
set_option maxRecDepth 100000 in
theorem cn_6 (l : Launch) (D : va_G) (G : Nat → ClassId) (t : Nat → Nat) (N : Nat) (ad : Nat → Nat) (cl : Nat → va_E) (o : Nat) (hiN : o + 1 = N) (hc0 : cl o = .inr (6, [.null, .null, .null, .null, .null, .null, .null, .null])) (p0 : Nat) (d : Nat) (hd : 3 ≤ d) : CtV l yX6_init cX6_init 2 (rmD d 25 201) D G t (N, ad, cl) [.ref (ad o), .ref p0] (fun u => ∃ ad' cl', u = (o + 26, ad', cl') ∧ (∀ k, k < o + 1 → ad' k = ad k) ∧ (∀ k, k < o → cl' k = cl k) ∧ Blk cl' o (bX6 G ad' o p0)) := by
  subst hiN
  refine ct_V (own := RX6) (by decide +kernel) rfl (Nat.le_of_ble_eq_true rfl) rfl ?_
  intro p e s m args below meth c A ls X hr hin hl w
  obtain ⟨hx, hb, hml, hown, hts, -⟩ := id X
  have hl : lv_has ls 2 [(0, .ref (ad (o))), (1, .ref (p0))] := hl
  have fa : ∀ k, k < o + 1 → ad k = ad k := fun _ _ => rfl
  have fc : ∀ k, k < o → cl k = cl k := fun _ _ => rfl
  refine lv_aload_n hx hb dX6_init_0 rfl (lv_at hl 0 rfl) ?_
  refine g_oinit X hl.1 k_RX6_3 dX6_init_1 (by decide) ⟨by show 1 ≤ d; omega, rm_loc (by omega) (by decide)⟩ ?_
  refine lv_aload_n hx hb dX6_init_4 rfl (lv_at hl 0 rfl) ?_
  refine lv_aload_n hx hb dX6_init_5 rfl (lv_at hl 1 rfl) ?_
  refine g_putF X w (o) rfl (by omega) hc0 kc6 0 (by decide) rfl rfl k_RX6_9 rfl hin rfl rfl (Nat.le_of_ble_eq_true rfl) dX6_init_6 (fun H locs w => ?_)
  have w : Wd D A s H locs (o + 1) ad (va_up cl (o) (.inr (6, [.ref (p0), .null, .null, .null, .null, .null, .null, .null]))) := w
  generalize e2 : va_up cl (o) (.inr (6, [.ref (p0), .null, .null, .null, .null, .null, .null, .null])) = cl1 at w
  have g3 : ∀ k, k ≠ o → cl1 k = cl k := fun k hk => by rw [← e2, va_up_ne _ _ hk]
  have c4 : cl1 (o) = .inr (6, [.ref (p0), .null, .null, .null, .null, .null, .null, .null]) := by rw [← e2, va_up_self]
  have fc : ∀ k, k < o → cl1 k = cl k := fun k hk => (g3 (k) (by omega)).trans (fc k hk)
  refine lv_aload_n hx hb dX6_init_9 rfl (lv_at hl 0 rfl) ?_
  refine lv_bipush (v := 13) hx hb dX6_init_10 (by decide) ?_
  refine g_newI X w wa_I (n := 13) (by decide) (by decide) (by decide) (Nat.le_of_ble_eq_true rfl) (Nat.le_of_ble_eq_true rfl) dX6_init_12 (fun q5 H w => ?_)
  generalize e8 : va_up ad (o + 1) q5 = ad6 at w
  generalize e9 : va_up cl1 (o + 1) (.inl (G 0, 13, .inl (fun _ => 0))) = cl7 at w
  have g10 : ∀ k, k < o + 1 → ad6 k = ad k := fun k hk => by rw [← e8, va_up_ne _ _ (by omega)]
  have g11 : ∀ k, k < o + 1 → cl7 k = cl1 k := fun k hk => by rw [← e9, va_up_ne _ _ (by omega)]
  have a12 : ad6 (o) = ad (o) := g10 (o) (by omega)
  have c13 : cl7 (o) = .inr (6, [.ref (p0), .null, .null, .null, .null, .null, .null, .null]) := (g11 (o) (by omega)).trans c4
  have fa : ∀ k, k < o + 1 → ad6 k = ad k := fun k hk => (g10 (k) (by omega)).trans (fa k hk)
  have fc : ∀ k, k < o → cl7 k = cl k := fun k hk => (g11 (k) (by omega)).trans (fc k hk)
  have a14 : ad6 (o + 1) = q5 := by rw [← e8, va_up_self]
  have b15 : Blk cl7 (o + 1) [.inl (G 0, 13, .inl (fun _ => 0))] := Blk.cons (by rw [← e9, va_up_self]) Blk.nil
  refine g_putF X w (o) a12 (by omega) c13 kc6 1 (by decide) rfl rfl k_RX6_15 rfl hin rfl rfl (Nat.le_of_ble_eq_true rfl) dX6_init_14 (fun H locs w => ?_)
  have w : Wd D A s H locs (o + 2) ad6 (va_up cl7 (o) (.inr (6, [.ref (p0), .ref (q5), .null, .null, .null, .null, .null, .null]))) := w
  generalize e17 : va_up cl7 (o) (.inr (6, [.ref (p0), .ref (q5), .null, .null, .null, .null, .null, .null])) = cl16 at w
  have g18 : ∀ k, k ≠ o → cl16 k = cl7 k := fun k hk => by rw [← e17, va_up_ne _ _ hk]
  have c19 : cl16 (o) = .inr (6, [.ref (p0), .ref (q5), .null, .null, .null, .null, .null, .null]) := by rw [← e17, va_up_self]
  have fc : ∀ k, k < o → cl16 k = cl k := fun k hk => (g18 (k) (by omega)).trans (fc k hk)
  refine g_gets X w X.2.2.2.2.2.2.2.1.1 k_RX6_19 dX6_init_17 ?_
  refine lv_iconst (v := 0) hx hb dX6_init_20 (by decide) ?_
  refine lv_aload_n hx hb dX6_init_21 rfl (lv_at hl 0 rfl) ?_
  refine g_get X w (o) a12 (by omega) c19 kc6 1 (by decide) rfl k_RX6_15 rfl dX6_init_22 ?_
  refine lv_iconst (v := 0) hx hb dX6_init_25 (by decide) ?_
  refine lv_bipush (v := 13) hx hb dX6_init_26 (by decide) ?_
  have c20 : cl16 (o + 1) = .inl (G 0, 13, .inl (fun _ => 0)) := (g18 (o + 1) (by omega)).trans b15.hd
  refine g_copyX X w hl.1 k_RX6_22 X.2.2.2.2.2.2.2.1.1 (o + 1) a14 (by omega) c20 13 rfl (by decide) (by decide) (by decide) (by decide) ⟨by show 1 ≤ d; omega, rm_loc (by omega) (by decide)⟩ dX6_init_28 (fun H locs w => ?_)
  generalize e22 : va_up cl16 (o + 1) (.inl (G 0, 13, .inl (va_cpy (tOf [40, 2, 3, 1, 2, 2, 0, 2, 1, 24, 0, 1, 1]) (fun _ => 0) 0 0 13))) = cl21 at w
  have g23 : ∀ k, k ≠ o + 1 → cl21 k = cl16 k := fun k hk => by rw [← e22, va_up_ne _ _ hk]
  have b24 : Blk cl21 (o + 1) [.inl (G 0, 13, .inl (va_cpy (tOf [40, 2, 3, 1, 2, 2, 0, 2, 1, 24, 0, 1, 1]) (fun _ => 0) 0 0 13))] := Blk.cons (by rw [← e22, va_up_self]) Blk.nil
  have c25 : cl21 (o) = .inr (6, [.ref (p0), .ref (q5), .null, .null, .null, .null, .null, .null]) := (g23 (o) (by omega)).trans c19
  have fc : ∀ k, k < o → cl21 k = cl k := fun k hk => (g23 (k) (by omega)).trans (fc k hk)
  refine lv_aload_n hx hb dX6_init_31 rfl (lv_at hl 0 rfl) ?_
  refine g_new X w kc8 k_RX6_28 wt_8 wi_8 bl_8 (Nat.le_of_ble_eq_true rfl) (Nat.le_of_ble_eq_true rfl) dX6_init_32 (fun q26 H w => ?_)
  generalize e29 : va_up ad6 (o + 2) q26 = ad27 at w
  generalize e30 : va_up cl21 (o + 2) (.inr (8, [.null, .null])) = cl28 at w
  have g31 : ∀ k, k < o + 2 → ad27 k = ad6 k := fun k hk => by rw [← e29, va_up_ne _ _ (by omega)]
  have g32 : ∀ k, k < o + 2 → cl28 k = cl21 k := fun k hk => by rw [← e30, va_up_ne _ _ (by omega)]
  have a33 : ad27 (o) = ad (o) := (g31 (o) (by omega)).trans a12
  have c34 : cl28 (o) = .inr (6, [.ref (p0), .ref (q5), .null, .null, .null, .null, .null, .null]) := (g32 (o) (by omega)).trans c25
  have fa : ∀ k, k < o + 1 → ad27 k = ad k := fun k hk => (g31 (k) (by omega)).trans (fa k hk)
  have fc : ∀ k, k < o → cl28 k = cl k := fun k hk => (g32 (k) (by omega)).trans (fc k hk)
  have a35 : ad27 (o + 2) = q26 := by rw [← e29, va_up_self]
  have c36 : cl28 (o + 2) = .inr (8, [.null, .null]) := by rw [← e30, va_up_self]
  refine lv_dup hx hb dX6_init_35 rfl ?_
  refine c_init (As := []) (rest := [.ref (q26), .ref (ad (o))]) X w (cn_8 l D G t (o + 3) ad27 cl28 (o + 2) rfl c36 (d - 1) (by omega)) YX8_init k_RX6_30 (by rw [a35]) rfl rfl hl.1 (rm_call (by omega) (by decide)) (Nat.le_of_ble_eq_true rfl) dX6_init_36 (⟨Nat.le_of_ble_eq_true rfl, Nat.le_of_ble_eq_true rfl⟩) (fun u H locs hp w => ?_)
  obtain ⟨ad37, cl38, rfl, g39, g40, b41⟩ := hp
  have w : Wd D A s H locs (o + 7) ad37 cl38 := w
  have b41 : Blk cl38 (o + 2) (bX8 G ad37 (o + 2)) := b41
  have a42 : ad37 (o) = ad (o) := (g39 (o) (by omega)).trans a33
  have c43 : cl38 (o) = .inr (6, [.ref (p0), .ref (q5), .null, .null, .null, .null, .null, .null]) := (g40 (o) (by omega)).trans c34
  have fa : ∀ k, k < o + 1 → ad37 k = ad k := fun k hk => (g39 (k) (by omega)).trans (fa k hk)
  have fc : ∀ k, k < o → cl38 k = cl k := fun k hk => (g40 (k) (by omega)).trans (fc k hk)
  refine g_putF X w (o) a42 (by omega) c43 kc6 2 (by decide) rfl rfl k_RX6_31 rfl hin rfl rfl (Nat.le_of_ble_eq_true rfl) dX6_init_39 (fun H locs w => ?_)
  have w : Wd D A s H locs (o + 7) ad37 (va_up cl38 (o) (.inr (6, [.ref (p0), .ref (q5), .ref (q26), .null, .null, .null, .null, .null]))) := w
  generalize e45 : va_up cl38 (o) (.inr (6, [.ref (p0), .ref (q5), .ref (q26), .null, .null, .null, .null, .null])) = cl44 at w
  have g46 : ∀ k, k ≠ o → cl44 k = cl38 k := fun k hk => by rw [← e45, va_up_ne _ _ hk]
  have c47 : cl44 (o) = .inr (6, [.ref (p0), .ref (q5), .ref (q26), .null, .null, .null, .null, .null]) := by rw [← e45, va_up_self]
  have fc : ∀ k, k < o → cl44 k = cl k := fun k hk => (g46 (k) (by omega)).trans (fc k hk)
  refine lv_aload_n hx hb dX6_init_42 rfl (lv_at hl 0 rfl) ?_
  refine g_new X w kc5 k_RX6_35 wt_5 wi_5 bl_5 (Nat.le_of_ble_eq_true rfl) (Nat.le_of_ble_eq_true rfl) dX6_init_43 (fun q48 H w => ?_)
  generalize e51 : va_up ad37 (o + 7) q48 = ad49 at w
  generalize e52 : va_up cl44 (o + 7) (.inr (5, [.null, .int 0])) = cl50 at w
  have g53 : ∀ k, k < o + 7 → ad49 k = ad37 k := fun k hk => by rw [← e51, va_up_ne _ _ (by omega)]
  have g54 : ∀ k, k < o + 7 → cl50 k = cl44 k := fun k hk => by rw [← e52, va_up_ne _ _ (by omega)]
  have a55 : ad49 (o) = ad (o) := (g53 (o) (by omega)).trans a42
  have c56 : cl50 (o) = .inr (6, [.ref (p0), .ref (q5), .ref (q26), .null, .null, .null, .null, .null]) := (g54 (o) (by omega)).trans c47
  have fa : ∀ k, k < o + 1 → ad49 k = ad k := fun k hk => (g53 (k) (by omega)).trans (fa k hk)
  have fc : ∀ k, k < o → cl50 k = cl k := fun k hk => (g54 (k) (by omega)).trans (fc k hk)
  have a57 : ad49 (o + 7) = q48 := by rw [← e51, va_up_self]
  have c58 : cl50 (o + 7) = .inr (5, [.null, .int 0]) := by rw [← e52, va_up_self]
  refine lv_dup hx hb dX6_init_46 rfl ?_
  refine c_init (As := []) (rest := [.ref (q48), .ref (ad (o))]) X w (cn_5 l D G t (o + 8) ad49 cl50 (o + 7) rfl c58 (d - 1) (by omega)) YX5_init k_RX6_37 (by rw [a57]) rfl rfl hl.1 (rm_call (by omega) (by decide)) (Nat.le_of_ble_eq_true rfl) dX6_init_47 (⟨Nat.le_of_ble_eq_true rfl, Nat.le_of_ble_eq_true rfl⟩) (fun u H locs hp w => ?_)
  obtain ⟨ad59, cl60, rfl, g61, g62, b63⟩ := hp
  have w : Wd D A s H locs (o + 9) ad59 cl60 := w
  have b63 : Blk cl60 (o + 7) (bX5 G ad59 (o + 7)) := b63
  have a64 : ad59 (o) = ad (o) := (g61 (o) (by omega)).trans a55
  have c65 : cl60 (o) = .inr (6, [.ref (p0), .ref (q5), .ref (q26), .null, .null, .null, .null, .null]) := (g62 (o) (by omega)).trans c56
  have fa : ∀ k, k < o + 1 → ad59 k = ad k := fun k hk => (g61 (k) (by omega)).trans (fa k hk)
  have fc : ∀ k, k < o → cl60 k = cl k := fun k hk => (g62 (k) (by omega)).trans (fc k hk)
  refine g_putF X w (o) a64 (by omega) c65 kc6 3 (by decide) rfl rfl k_RX6_38 rfl hin rfl rfl (Nat.le_of_ble_eq_true rfl) dX6_init_50 (fun H locs w => ?_)
  have w : Wd D A s H locs (o + 9) ad59 (va_up cl60 (o) (.inr (6, [.ref (p0), .ref (q5), .ref (q26), .ref (q48), .null, .null, .null, .null]))) := w
  generalize e67 : va_up cl60 (o) (.inr (6, [.ref (p0), .ref (q5), .ref (q26), .ref (q48), .null, .null, .null, .null])) = cl66 at w
  have g68 : ∀ k, k ≠ o → cl66 k = cl60 k := fun k hk => by rw [← e67, va_up_ne _ _ hk]
  have c69 : cl66 (o) = .inr (6, [.ref (p0), .ref (q5), .ref (q26), .ref (q48), .null, .null, .null, .null]) := by rw [← e67, va_up_self]
  have fc : ∀ k, k < o → cl66 k = cl k := fun k hk => (g68 (k) (by omega)).trans (fc k hk)
  refine lv_aload_n hx hb dX6_init_53 rfl (lv_at hl 0 rfl) ?_
  refine g_new X w kc5 k_RX6_35 wt_5 wi_5 bl_5 (Nat.le_of_ble_eq_true rfl) (Nat.le_of_ble_eq_true rfl) dX6_init_54 (fun q70 H w => ?_)
  generalize e73 : va_up ad59 (o + 9) q70 = ad71 at w
  generalize e74 : va_up cl66 (o + 9) (.inr (5, [.null, .int 0])) = cl72 at w
  have g75 : ∀ k, k < o + 9 → ad71 k = ad59 k := fun k hk => by rw [← e73, va_up_ne _ _ (by omega)]
  have g76 : ∀ k, k < o + 9 → cl72 k = cl66 k := fun k hk => by rw [← e74, va_up_ne _ _ (by omega)]
  have a77 : ad71 (o) = ad (o) := (g75 (o) (by omega)).trans a64
  have c78 : cl72 (o) = .inr (6, [.ref (p0), .ref (q5), .ref (q26), .ref (q48), .null, .null, .null, .null]) := (g76 (o) (by omega)).trans c69
  have fa : ∀ k, k < o + 1 → ad71 k = ad k := fun k hk => (g75 (k) (by omega)).trans (fa k hk)
  have fc : ∀ k, k < o → cl72 k = cl k := fun k hk => (g76 (k) (by omega)).trans (fc k hk)
  have a79 : ad71 (o + 9) = q70 := by rw [← e73, va_up_self]
  have c80 : cl72 (o + 9) = .inr (5, [.null, .int 0]) := by rw [← e74, va_up_self]
  refine lv_dup hx hb dX6_init_57 rfl ?_
  refine c_init (As := []) (rest := [.ref (q70), .ref (ad (o))]) X w (cn_5 l D G t (o + 10) ad71 cl72 (o + 9) rfl c80 (d - 1) (by omega)) YX5_init k_RX6_37 (by rw [a79]) rfl rfl hl.1 (rm_call (by omega) (by decide)) (Nat.le_of_ble_eq_true rfl) dX6_init_58 (⟨Nat.le_of_ble_eq_true rfl, Nat.le_of_ble_eq_true rfl⟩) (fun u H locs hp w => ?_)
  obtain ⟨ad81, cl82, rfl, g83, g84, b85⟩ := hp
  have w : Wd D A s H locs (o + 11) ad81 cl82 := w
  have b85 : Blk cl82 (o + 9) (bX5 G ad81 (o + 9)) := b85
  have a86 : ad81 (o) = ad (o) := (g83 (o) (by omega)).trans a77
  have c87 : cl82 (o) = .inr (6, [.ref (p0), .ref (q5), .ref (q26), .ref (q48), .null, .null, .null, .null]) := (g84 (o) (by omega)).trans c78
  have fa : ∀ k, k < o + 1 → ad81 k = ad k := fun k hk => (g83 (k) (by omega)).trans (fa k hk)
  have fc : ∀ k, k < o → cl82 k = cl k := fun k hk => (g84 (k) (by omega)).trans (fc k hk)
  refine g_putF X w (o) a86 (by omega) c87 kc6 4 (by decide) rfl rfl k_RX6_42 rfl hin rfl rfl (Nat.le_of_ble_eq_true rfl) dX6_init_61 (fun H locs w => ?_)
  have w : Wd D A s H locs (o + 11) ad81 (va_up cl82 (o) (.inr (6, [.ref (p0), .ref (q5), .ref (q26), .ref (q48), .ref (q70), .null, .null, .null]))) := w
  generalize e89 : va_up cl82 (o) (.inr (6, [.ref (p0), .ref (q5), .ref (q26), .ref (q48), .ref (q70), .null, .null, .null])) = cl88 at w
  have g90 : ∀ k, k ≠ o → cl88 k = cl82 k := fun k hk => by rw [← e89, va_up_ne _ _ hk]
  have c91 : cl88 (o) = .inr (6, [.ref (p0), .ref (q5), .ref (q26), .ref (q48), .ref (q70), .null, .null, .null]) := by rw [← e89, va_up_self]
  have fc : ∀ k, k < o → cl88 k = cl k := fun k hk => (g90 (k) (by omega)).trans (fc k hk)
  refine lv_aload_n hx hb dX6_init_64 rfl (lv_at hl 0 rfl) ?_
  refine g_new X w kc8 k_RX6_28 wt_8 wi_8 bl_8 (Nat.le_of_ble_eq_true rfl) (Nat.le_of_ble_eq_true rfl) dX6_init_65 (fun q92 H w => ?_)
  generalize e95 : va_up ad81 (o + 11) q92 = ad93 at w
  generalize e96 : va_up cl88 (o + 11) (.inr (8, [.null, .null])) = cl94 at w
  have g97 : ∀ k, k < o + 11 → ad93 k = ad81 k := fun k hk => by rw [← e95, va_up_ne _ _ (by omega)]
  have g98 : ∀ k, k < o + 11 → cl94 k = cl88 k := fun k hk => by rw [← e96, va_up_ne _ _ (by omega)]
  have a99 : ad93 (o) = ad (o) := (g97 (o) (by omega)).trans a86
  have c100 : cl94 (o) = .inr (6, [.ref (p0), .ref (q5), .ref (q26), .ref (q48), .ref (q70), .null, .null, .null]) := (g98 (o) (by omega)).trans c91
  have fa : ∀ k, k < o + 1 → ad93 k = ad k := fun k hk => (g97 (k) (by omega)).trans (fa k hk)
  have fc : ∀ k, k < o → cl94 k = cl k := fun k hk => (g98 (k) (by omega)).trans (fc k hk)
  have a101 : ad93 (o + 11) = q92 := by rw [← e95, va_up_self]
  have c102 : cl94 (o + 11) = .inr (8, [.null, .null]) := by rw [← e96, va_up_self]
  refine lv_dup hx hb dX6_init_68 rfl ?_
  refine c_init (As := []) (rest := [.ref (q92), .ref (ad (o))]) X w (cn_8 l D G t (o + 12) ad93 cl94 (o + 11) rfl c102 (d - 1) (by omega)) YX8_init k_RX6_30 (by rw [a101]) rfl rfl hl.1 (rm_call (by omega) (by decide)) (Nat.le_of_ble_eq_true rfl) dX6_init_69 (⟨Nat.le_of_ble_eq_true rfl, Nat.le_of_ble_eq_true rfl⟩) (fun u H locs hp w => ?_)
  obtain ⟨ad103, cl104, rfl, g105, g106, b107⟩ := hp
  have w : Wd D A s H locs (o + 16) ad103 cl104 := w
  have b107 : Blk cl104 (o + 11) (bX8 G ad103 (o + 11)) := b107
  have a108 : ad103 (o) = ad (o) := (g105 (o) (by omega)).trans a99
  have c109 : cl104 (o) = .inr (6, [.ref (p0), .ref (q5), .ref (q26), .ref (q48), .ref (q70), .null, .null, .null]) := (g106 (o) (by omega)).trans c100
  have fa : ∀ k, k < o + 1 → ad103 k = ad k := fun k hk => (g105 (k) (by omega)).trans (fa k hk)
  have fc : ∀ k, k < o → cl104 k = cl k := fun k hk => (g106 (k) (by omega)).trans (fc k hk)
  refine g_putF X w (o) a108 (by omega) c109 kc6 5 (by decide) rfl rfl k_RX6_45 rfl hin rfl rfl (Nat.le_of_ble_eq_true rfl) dX6_init_72 (fun H locs w => ?_)
  have w : Wd D A s H locs (o + 16) ad103 (va_up cl104 (o) (.inr (6, [.ref (p0), .ref (q5), .ref (q26), .ref (q48), .ref (q70), .ref (q92), .null, .null]))) := w
  generalize e111 : va_up cl104 (o) (.inr (6, [.ref (p0), .ref (q5), .ref (q26), .ref (q48), .ref (q70), .ref (q92), .null, .null])) = cl110 at w
  have g112 : ∀ k, k ≠ o → cl110 k = cl104 k := fun k hk => by rw [← e111, va_up_ne _ _ hk]
  have c113 : cl110 (o) = .inr (6, [.ref (p0), .ref (q5), .ref (q26), .ref (q48), .ref (q70), .ref (q92), .null, .null]) := by rw [← e111, va_up_self]
  have fc : ∀ k, k < o → cl110 k = cl k := fun k hk => (g112 (k) (by omega)).trans (fc k hk)
  refine lv_aload_n hx hb dX6_init_75 rfl (lv_at hl 0 rfl) ?_
  refine g_new X w kc8 k_RX6_28 wt_8 wi_8 bl_8 (Nat.le_of_ble_eq_true rfl) (Nat.le_of_ble_eq_true rfl) dX6_init_76 (fun q114 H w => ?_)
  generalize e117 : va_up ad103 (o + 16) q114 = ad115 at w
  generalize e118 : va_up cl110 (o + 16) (.inr (8, [.null, .null])) = cl116 at w
  have g119 : ∀ k, k < o + 16 → ad115 k = ad103 k := fun k hk => by rw [← e117, va_up_ne _ _ (by omega)]
  have g120 : ∀ k, k < o + 16 → cl116 k = cl110 k := fun k hk => by rw [← e118, va_up_ne _ _ (by omega)]
  have a121 : ad115 (o) = ad (o) := (g119 (o) (by omega)).trans a108
  have c122 : cl116 (o) = .inr (6, [.ref (p0), .ref (q5), .ref (q26), .ref (q48), .ref (q70), .ref (q92), .null, .null]) := (g120 (o) (by omega)).trans c113
  have fa : ∀ k, k < o + 1 → ad115 k = ad k := fun k hk => (g119 (k) (by omega)).trans (fa k hk)
  have fc : ∀ k, k < o → cl116 k = cl k := fun k hk => (g120 (k) (by omega)).trans (fc k hk)
  have a123 : ad115 (o + 16) = q114 := by rw [← e117, va_up_self]
  have c124 : cl116 (o + 16) = .inr (8, [.null, .null]) := by rw [← e118, va_up_self]
  refine lv_dup hx hb dX6_init_79 rfl ?_
  refine c_init (As := []) (rest := [.ref (q114), .ref (ad (o))]) X w (cn_8 l D G t (o + 17) ad115 cl116 (o + 16) rfl c124 (d - 1) (by omega)) YX8_init k_RX6_30 (by rw [a123]) rfl rfl hl.1 (rm_call (by omega) (by decide)) (Nat.le_of_ble_eq_true rfl) dX6_init_80 (⟨Nat.le_of_ble_eq_true rfl, Nat.le_of_ble_eq_true rfl⟩) (fun u H locs hp w => ?_)
  obtain ⟨ad125, cl126, rfl, g127, g128, b129⟩ := hp
  have w : Wd D A s H locs (o + 21) ad125 cl126 := w
  have b129 : Blk cl126 (o + 16) (bX8 G ad125 (o + 16)) := b129
  have a130 : ad125 (o) = ad (o) := (g127 (o) (by omega)).trans a121
  have c131 : cl126 (o) = .inr (6, [.ref (p0), .ref (q5), .ref (q26), .ref (q48), .ref (q70), .ref (q92), .null, .null]) := (g128 (o) (by omega)).trans c122
  have fa : ∀ k, k < o + 1 → ad125 k = ad k := fun k hk => (g127 (k) (by omega)).trans (fa k hk)
  have fc : ∀ k, k < o → cl126 k = cl k := fun k hk => (g128 (k) (by omega)).trans (fc k hk)
  refine g_putF X w (o) a130 (by omega) c131 kc6 6 (by decide) rfl rfl k_RX6_48 rfl hin rfl rfl (Nat.le_of_ble_eq_true rfl) dX6_init_83 (fun H locs w => ?_)
  have w : Wd D A s H locs (o + 21) ad125 (va_up cl126 (o) (.inr (6, [.ref (p0), .ref (q5), .ref (q26), .ref (q48), .ref (q70), .ref (q92), .ref (q114), .null]))) := w
  generalize e133 : va_up cl126 (o) (.inr (6, [.ref (p0), .ref (q5), .ref (q26), .ref (q48), .ref (q70), .ref (q92), .ref (q114), .null])) = cl132 at w
  have g134 : ∀ k, k ≠ o → cl132 k = cl126 k := fun k hk => by rw [← e133, va_up_ne _ _ hk]
  have c135 : cl132 (o) = .inr (6, [.ref (p0), .ref (q5), .ref (q26), .ref (q48), .ref (q70), .ref (q92), .ref (q114), .null]) := by rw [← e133, va_up_self]
  have fc : ∀ k, k < o → cl132 k = cl k := fun k hk => (g134 (k) (by omega)).trans (fc k hk)
  refine lv_aload_n hx hb dX6_init_86 rfl (lv_at hl 0 rfl) ?_
  refine g_new X w kc8 k_RX6_28 wt_8 wi_8 bl_8 (Nat.le_of_ble_eq_true rfl) (Nat.le_of_ble_eq_true rfl) dX6_init_87 (fun q136 H w => ?_)
  generalize e139 : va_up ad125 (o + 21) q136 = ad137 at w
  generalize e140 : va_up cl132 (o + 21) (.inr (8, [.null, .null])) = cl138 at w
  have g141 : ∀ k, k < o + 21 → ad137 k = ad125 k := fun k hk => by rw [← e139, va_up_ne _ _ (by omega)]
  have g142 : ∀ k, k < o + 21 → cl138 k = cl132 k := fun k hk => by rw [← e140, va_up_ne _ _ (by omega)]
  have a143 : ad137 (o) = ad (o) := (g141 (o) (by omega)).trans a130
  have c144 : cl138 (o) = .inr (6, [.ref (p0), .ref (q5), .ref (q26), .ref (q48), .ref (q70), .ref (q92), .ref (q114), .null]) := (g142 (o) (by omega)).trans c135
  have fa : ∀ k, k < o + 1 → ad137 k = ad k := fun k hk => (g141 (k) (by omega)).trans (fa k hk)
  have fc : ∀ k, k < o → cl138 k = cl k := fun k hk => (g142 (k) (by omega)).trans (fc k hk)
  have a145 : ad137 (o + 21) = q136 := by rw [← e139, va_up_self]
  have c146 : cl138 (o + 21) = .inr (8, [.null, .null]) := by rw [← e140, va_up_self]
  refine lv_dup hx hb dX6_init_90 rfl ?_
  refine c_init (As := []) (rest := [.ref (q136), .ref (ad (o))]) X w (cn_8 l D G t (o + 22) ad137 cl138 (o + 21) rfl c146 (d - 1) (by omega)) YX8_init k_RX6_30 (by rw [a145]) rfl rfl hl.1 (rm_call (by omega) (by decide)) (Nat.le_of_ble_eq_true rfl) dX6_init_91 (⟨Nat.le_of_ble_eq_true rfl, Nat.le_of_ble_eq_true rfl⟩) (fun u H locs hp w => ?_)
  obtain ⟨ad147, cl148, rfl, g149, g150, b151⟩ := hp
  have w : Wd D A s H locs (o + 26) ad147 cl148 := w
  have b151 : Blk cl148 (o + 21) (bX8 G ad147 (o + 21)) := b151
  have a152 : ad147 (o) = ad (o) := (g149 (o) (by omega)).trans a143
  have c153 : cl148 (o) = .inr (6, [.ref (p0), .ref (q5), .ref (q26), .ref (q48), .ref (q70), .ref (q92), .ref (q114), .null]) := (g150 (o) (by omega)).trans c144
  have fa : ∀ k, k < o + 1 → ad147 k = ad k := fun k hk => (g149 (k) (by omega)).trans (fa k hk)
  have fc : ∀ k, k < o → cl148 k = cl k := fun k hk => (g150 (k) (by omega)).trans (fc k hk)
  refine g_putF X w (o) a152 (by omega) c153 kc6 7 (by decide) rfl rfl k_RX6_51 rfl hin rfl rfl (Nat.le_of_ble_eq_true rfl) dX6_init_94 (fun H locs w => ?_)
  have w : Wd D A s H locs (o + 26) ad147 (va_up cl148 (o) (.inr (6, [.ref (p0), .ref (q5), .ref (q26), .ref (q48), .ref (q70), .ref (q92), .ref (q114), .ref (q136)]))) := w
  generalize e155 : va_up cl148 (o) (.inr (6, [.ref (p0), .ref (q5), .ref (q26), .ref (q48), .ref (q70), .ref (q92), .ref (q114), .ref (q136)])) = cl154 at w
  have g156 : ∀ k, k ≠ o → cl154 k = cl148 k := fun k hk => by rw [← e155, va_up_ne _ _ hk]
  have c157 : cl154 (o) = .inr (6, [.ref (p0), .ref (q5), .ref (q26), .ref (q48), .ref (q70), .ref (q92), .ref (q114), .ref (q136)]) := by rw [← e155, va_up_self]
  have fc : ∀ k, k < o → cl154 k = cl k := fun k hk => (g156 (k) (by omega)).trans (fc k hk)
  have FA22 : ∀ k, k < o + 26 → ad147 k = ad147 k := fun _ _ => rfl
  have FC22 : ∀ k, k ≠ o → k ≠ o + 1 → k < o + 26 → cl154 k = cl154 k := fun _ _ _ _ => rfl
  have FZ22 : ∀ k, k ≠ o → k < o + 26 → cl154 k = cl154 k := fun _ _ _ => rfl
  have FA21 : ∀ k, k < o + 26 → ad147 k = ad147 k := fun k hk => FA22 k (by omega)
  have FC21 : ∀ k, k ≠ o → k ≠ o + 1 → k < o + 26 → cl154 k = cl148 k := fun k h0 h9 hk => (FC22 k h0 h9 (by omega)).trans (g156 k h0)
  have FZ21 : ∀ k, k ≠ o → k < o + 26 → cl154 k = cl148 k := fun k h0 hk => (FZ22 k h0 (by omega)).trans (g156 k h0)
  have FA20 : ∀ k, k < o + 22 → ad147 k = ad137 k := fun k hk => (FA21 k (by omega)).trans (g149 k (by omega))
  have FC20 : ∀ k, k ≠ o → k ≠ o + 1 → k < o + 21 → cl154 k = cl138 k := fun k h0 h9 hk => (FC21 k h0 h9 (by omega)).trans (g150 k (by omega))
  have FZ20 : ∀ k, k ≠ o → k < o + 21 → cl154 k = cl138 k := fun k h0 hk => (FZ21 k h0 (by omega)).trans (g150 k (by omega))
  have FA19 : ∀ k, k < o + 21 → ad147 k = ad125 k := fun k hk => (FA20 k (by omega)).trans (g141 k (by omega))
  have FC19 : ∀ k, k ≠ o → k ≠ o + 1 → k < o + 21 → cl154 k = cl132 k := fun k h0 h9 hk => (FC20 k h0 h9 (by omega)).trans (g142 k (by omega))
  have FZ19 : ∀ k, k ≠ o → k < o + 21 → cl154 k = cl132 k := fun k h0 hk => (FZ20 k h0 (by omega)).trans (g142 k (by omega))
  have FA18 : ∀ k, k < o + 21 → ad147 k = ad125 k := fun k hk => FA19 k (by omega)
  have FC18 : ∀ k, k ≠ o → k ≠ o + 1 → k < o + 21 → cl154 k = cl126 k := fun k h0 h9 hk => (FC19 k h0 h9 (by omega)).trans (g134 k h0)
  have FZ18 : ∀ k, k ≠ o → k < o + 21 → cl154 k = cl126 k := fun k h0 hk => (FZ19 k h0 (by omega)).trans (g134 k h0)
  have FA17 : ∀ k, k < o + 17 → ad147 k = ad115 k := fun k hk => (FA18 k (by omega)).trans (g127 k (by omega))
  have FC17 : ∀ k, k ≠ o → k ≠ o + 1 → k < o + 16 → cl154 k = cl116 k := fun k h0 h9 hk => (FC18 k h0 h9 (by omega)).trans (g128 k (by omega))
  have FZ17 : ∀ k, k ≠ o → k < o + 16 → cl154 k = cl116 k := fun k h0 hk => (FZ18 k h0 (by omega)).trans (g128 k (by omega))
  have FA16 : ∀ k, k < o + 16 → ad147 k = ad103 k := fun k hk => (FA17 k (by omega)).trans (g119 k (by omega))
  have FC16 : ∀ k, k ≠ o → k ≠ o + 1 → k < o + 16 → cl154 k = cl110 k := fun k h0 h9 hk => (FC17 k h0 h9 (by omega)).trans (g120 k (by omega))
  have FZ16 : ∀ k, k ≠ o → k < o + 16 → cl154 k = cl110 k := fun k h0 hk => (FZ17 k h0 (by omega)).trans (g120 k (by omega))
  have FA15 : ∀ k, k < o + 16 → ad147 k = ad103 k := fun k hk => FA16 k (by omega)
  have FC15 : ∀ k, k ≠ o → k ≠ o + 1 → k < o + 16 → cl154 k = cl104 k := fun k h0 h9 hk => (FC16 k h0 h9 (by omega)).trans (g112 k h0)
  have FZ15 : ∀ k, k ≠ o → k < o + 16 → cl154 k = cl104 k := fun k h0 hk => (FZ16 k h0 (by omega)).trans (g112 k h0)
  have FA14 : ∀ k, k < o + 12 → ad147 k = ad93 k := fun k hk => (FA15 k (by omega)).trans (g105 k (by omega))
  have FC14 : ∀ k, k ≠ o → k ≠ o + 1 → k < o + 11 → cl154 k = cl94 k := fun k h0 h9 hk => (FC15 k h0 h9 (by omega)).trans (g106 k (by omega))
  have FZ14 : ∀ k, k ≠ o → k < o + 11 → cl154 k = cl94 k := fun k h0 hk => (FZ15 k h0 (by omega)).trans (g106 k (by omega))
  have FA13 : ∀ k, k < o + 11 → ad147 k = ad81 k := fun k hk => (FA14 k (by omega)).trans (g97 k (by omega))
  have FC13 : ∀ k, k ≠ o → k ≠ o + 1 → k < o + 11 → cl154 k = cl88 k := fun k h0 h9 hk => (FC14 k h0 h9 (by omega)).trans (g98 k (by omega))
  have FZ13 : ∀ k, k ≠ o → k < o + 11 → cl154 k = cl88 k := fun k h0 hk => (FZ14 k h0 (by omega)).trans (g98 k (by omega))
  have FA12 : ∀ k, k < o + 11 → ad147 k = ad81 k := fun k hk => FA13 k (by omega)
  have FC12 : ∀ k, k ≠ o → k ≠ o + 1 → k < o + 11 → cl154 k = cl82 k := fun k h0 h9 hk => (FC13 k h0 h9 (by omega)).trans (g90 k h0)
  have FZ12 : ∀ k, k ≠ o → k < o + 11 → cl154 k = cl82 k := fun k h0 hk => (FZ13 k h0 (by omega)).trans (g90 k h0)
  have FA11 : ∀ k, k < o + 10 → ad147 k = ad71 k := fun k hk => (FA12 k (by omega)).trans (g83 k (by omega))
  have FC11 : ∀ k, k ≠ o → k ≠ o + 1 → k < o + 9 → cl154 k = cl72 k := fun k h0 h9 hk => (FC12 k h0 h9 (by omega)).trans (g84 k (by omega))
  have FZ11 : ∀ k, k ≠ o → k < o + 9 → cl154 k = cl72 k := fun k h0 hk => (FZ12 k h0 (by omega)).trans (g84 k (by omega))
  have FA10 : ∀ k, k < o + 9 → ad147 k = ad59 k := fun k hk => (FA11 k (by omega)).trans (g75 k (by omega))
  have FC10 : ∀ k, k ≠ o → k ≠ o + 1 → k < o + 9 → cl154 k = cl66 k := fun k h0 h9 hk => (FC11 k h0 h9 (by omega)).trans (g76 k (by omega))
  have FZ10 : ∀ k, k ≠ o → k < o + 9 → cl154 k = cl66 k := fun k h0 hk => (FZ11 k h0 (by omega)).trans (g76 k (by omega))
  have FA9 : ∀ k, k < o + 9 → ad147 k = ad59 k := fun k hk => FA10 k (by omega)
  have FC9 : ∀ k, k ≠ o → k ≠ o + 1 → k < o + 9 → cl154 k = cl60 k := fun k h0 h9 hk => (FC10 k h0 h9 (by omega)).trans (g68 k h0)
  have FZ9 : ∀ k, k ≠ o → k < o + 9 → cl154 k = cl60 k := fun k h0 hk => (FZ10 k h0 (by omega)).trans (g68 k h0)
  have FA8 : ∀ k, k < o + 8 → ad147 k = ad49 k := fun k hk => (FA9 k (by omega)).trans (g61 k (by omega))
  have FC8 : ∀ k, k ≠ o → k ≠ o + 1 → k < o + 7 → cl154 k = cl50 k := fun k h0 h9 hk => (FC9 k h0 h9 (by omega)).trans (g62 k (by omega))
  have FZ8 : ∀ k, k ≠ o → k < o + 7 → cl154 k = cl50 k := fun k h0 hk => (FZ9 k h0 (by omega)).trans (g62 k (by omega))
  have FA7 : ∀ k, k < o + 7 → ad147 k = ad37 k := fun k hk => (FA8 k (by omega)).trans (g53 k (by omega))
  have FC7 : ∀ k, k ≠ o → k ≠ o + 1 → k < o + 7 → cl154 k = cl44 k := fun k h0 h9 hk => (FC8 k h0 h9 (by omega)).trans (g54 k (by omega))
  have FZ7 : ∀ k, k ≠ o → k < o + 7 → cl154 k = cl44 k := fun k h0 hk => (FZ8 k h0 (by omega)).trans (g54 k (by omega))
  have FA6 : ∀ k, k < o + 7 → ad147 k = ad37 k := fun k hk => FA7 k (by omega)
  have FC6 : ∀ k, k ≠ o → k ≠ o + 1 → k < o + 7 → cl154 k = cl38 k := fun k h0 h9 hk => (FC7 k h0 h9 (by omega)).trans (g46 k h0)
  have FZ6 : ∀ k, k ≠ o → k < o + 7 → cl154 k = cl38 k := fun k h0 hk => (FZ7 k h0 (by omega)).trans (g46 k h0)
  have FA5 : ∀ k, k < o + 3 → ad147 k = ad27 k := fun k hk => (FA6 k (by omega)).trans (g39 k (by omega))
  have FC5 : ∀ k, k ≠ o → k ≠ o + 1 → k < o + 2 → cl154 k = cl28 k := fun k h0 h9 hk => (FC6 k h0 h9 (by omega)).trans (g40 k (by omega))
  have FZ5 : ∀ k, k ≠ o → k < o + 2 → cl154 k = cl28 k := fun k h0 hk => (FZ6 k h0 (by omega)).trans (g40 k (by omega))
  have FA4 : ∀ k, k < o + 2 → ad147 k = ad6 k := fun k hk => (FA5 k (by omega)).trans (g31 k (by omega))
  have FC4 : ∀ k, k ≠ o → k ≠ o + 1 → k < o + 2 → cl154 k = cl21 k := fun k h0 h9 hk => (FC5 k h0 h9 (by omega)).trans (g32 k (by omega))
  have FZ4 : ∀ k, k ≠ o → k < o + 2 → cl154 k = cl21 k := fun k h0 hk => (FZ5 k h0 (by omega)).trans (g32 k (by omega))
  have FA3 : ∀ k, k < o + 2 → ad147 k = ad6 k := fun k hk => FA4 k (by omega)
  have FC3 : ∀ k, k ≠ o → k ≠ o + 1 → k < o + 2 → cl154 k = cl16 k := fun k h0 h9 hk => (FC4 k h0 h9 (by omega)).trans (g23 k h9)
  have FA2 : ∀ k, k < o + 2 → ad147 k = ad6 k := fun k hk => FA3 k (by omega)
  have FC2 : ∀ k, k ≠ o → k ≠ o + 1 → k < o + 2 → cl154 k = cl7 k := fun k h0 h9 hk => (FC3 k h0 h9 (by omega)).trans (g18 k h0)
  have FA1 : ∀ k, k < o + 1 → ad147 k = ad k := fun k hk => (FA2 k (by omega)).trans (g10 k (by omega))
  have FC1 : ∀ k, k ≠ o → k ≠ o + 1 → k < o + 1 → cl154 k = cl1 k := fun k h0 h9 hk => (FC2 k h0 h9 (by omega)).trans (g11 k (by omega))
  have FA0 : ∀ k, k < o + 1 → ad147 k = ad k := fun k hk => FA1 k (by omega)
  have FC0 : ∀ k, k ≠ o → k ≠ o + 1 → k < o + 1 → cl154 k = cl k := fun k h0 h9 hk => (FC1 k h0 h9 (by omega)).trans (g3 k h0)
  have b158 : Blk cl154 (o + 1) ([.inl (G 0, 13, .inl (va_cpy (tOf [40, 2, 3, 1, 2, 2, 0, 2, 1, 24, 0, 1, 1]) (fun _ => 0) 0 0 13))]) := b24.tr (n := 1) (Nat.le_refl _) (fun k h1 h2 => FZ4 k (by omega) (by omega))
  have b159 : Blk cl154 (o + 2) (bX8 G ad147 (o + 2)) := by rw [cg8 (n := 5) (Nat.le_refl _) (fun k h1 h2 => FA6 k (by omega))]; exact b41.tr (n := 5) (Nat.le_of_eq ln8) (fun k h1 h2 => FC6 k (by omega) (by omega) (by omega))
  have b160 : Blk cl154 (o + 7) (bX5 G ad147 (o + 7)) := by rw [cg5 (n := 2) (Nat.le_refl _) (fun k h1 h2 => FA9 k (by omega))]; exact b63.tr (n := 2) (Nat.le_of_eq ln5) (fun k h1 h2 => FC9 k (by omega) (by omega) (by omega))
  have b161 : Blk cl154 (o + 9) (bX5 G ad147 (o + 9)) := by rw [cg5 (n := 2) (Nat.le_refl _) (fun k h1 h2 => FA12 k (by omega))]; exact b85.tr (n := 2) (Nat.le_of_eq ln5) (fun k h1 h2 => FC12 k (by omega) (by omega) (by omega))
  have b162 : Blk cl154 (o + 11) (bX8 G ad147 (o + 11)) := by rw [cg8 (n := 5) (Nat.le_refl _) (fun k h1 h2 => FA15 k (by omega))]; exact b107.tr (n := 5) (Nat.le_of_eq ln8) (fun k h1 h2 => FC15 k (by omega) (by omega) (by omega))
  have b163 : Blk cl154 (o + 16) (bX8 G ad147 (o + 16)) := by rw [cg8 (n := 5) (Nat.le_refl _) (fun k h1 h2 => FA18 k (by omega))]; exact b129.tr (n := 5) (Nat.le_of_eq ln8) (fun k h1 h2 => FC18 k (by omega) (by omega) (by omega))
  have b164 : Blk cl154 (o + 21) (bX8 G ad147 (o + 21)) := by rw [cg8 (n := 5) (Nat.le_refl _) (fun k h1 h2 => FA21 k (by omega))]; exact b151.tr (n := 5) (Nat.le_of_eq ln8) (fun k h1 h2 => FC21 k (by omega) (by omega) (by omega))
  have z165 : ad147 (o + 1) = q5 := (FA2 (o + 1) (by omega)).trans a14
  have z166 : ad147 (o + 2) = q26 := (FA5 (o + 2) (by omega)).trans a35
  have z167 : ad147 (o + 7) = q48 := (FA8 (o + 7) (by omega)).trans a57
  have z168 : ad147 (o + 9) = q70 := (FA11 (o + 9) (by omega)).trans a79
  have z169 : ad147 (o + 11) = q92 := (FA14 (o + 11) (by omega)).trans a101
  have z170 : ad147 (o + 16) = q114 := (FA17 (o + 16) (by omega)).trans a123
  have z171 : ad147 (o + 21) = q136 := (FA20 (o + 21) (by omega)).trans a145
  refine e_V X hr w ⟨ad147, cl154, rfl, fa, fc, ?_⟩ (Nat.le_of_ble_eq_true rfl) (Nat.le_of_ble_eq_true rfl) dX6_init_97
  refine Blk.cons ?_ (b158.app (rfl) (b159.app (by rw [ln8]) (b160.app (by rw [ln5]) (b161.app (by rw [ln5]) (b162.app (by rw [ln8]) (b163.app (by rw [ln8]) (b164)))))))
  rw [c157, z165, z166, z167, z168, z169, z170, z171]
abbrev cX7_init : ByteArray := prog_9_method_1_code
def yX7_init : MethodName := ⟨RX7, "<init>", "(LTypeRoom$Row;LTypeRoom$Purse;LTypeRoom$Rules;LTypeRoom$Texts;LTypeRoom$Filler;LTypeRoom$Marks;)V"⟩
theorem wcX7_init : Cond.code yX7_init cX7_init 7 none ∈ tb := tb_2 (i := 132) rfl rfl
theorem wi_7 : Cond.initialized RX7 ∈ tb := tb_1 (i := 10) (by decide +kernel) rfl
theorem wnX7_init : Cond.instanceMethod yX7_init ∈ tb := tb_2 (i := 131) (by decide +kernel) rfl
theorem YX7_init : Yi yX7_init cX7_init 7 6 := ⟨wcX7_init, wnX7_init, wi_7, rfl, by decide +kernel, by decide +kernel, by decide +kernel⟩
theorem dX7_init_0 : decode cX7_init 0 = .ok (.aload_n 0, 1) := by decide +kernel
theorem dX7_init_1 : decode cX7_init 1 = .ok (.invokespecial 3, 3) := by decide +kernel
theorem dX7_init_4 : decode cX7_init 4 = .ok (.aload_n 0, 1) := by decide +kernel
theorem dX7_init_5 : decode cX7_init 5 = .ok (.aload_n 1, 1) := by decide +kernel
theorem dX7_init_6 : decode cX7_init 6 = .ok (.putfield 9, 3) := by decide +kernel
theorem dX7_init_9 : decode cX7_init 9 = .ok (.aload_n 0, 1) := by decide +kernel
theorem dX7_init_10 : decode cX7_init 10 = .ok (.aload_n 2, 1) := by decide +kernel
theorem dX7_init_11 : decode cX7_init 11 = .ok (.putfield 15, 3) := by decide +kernel
theorem dX7_init_14 : decode cX7_init 14 = .ok (.aload_n 0, 1) := by decide +kernel
theorem dX7_init_15 : decode cX7_init 15 = .ok (.aload_n 3, 1) := by decide +kernel
theorem dX7_init_16 : decode cX7_init 16 = .ok (.putfield 19, 3) := by decide +kernel
theorem dX7_init_19 : decode cX7_init 19 = .ok (.aload_n 0, 1) := by decide +kernel
theorem dX7_init_20 : decode cX7_init 20 = .ok (.aload 4, 2) := by decide +kernel
theorem dX7_init_22 : decode cX7_init 22 = .ok (.putfield 23, 3) := by decide +kernel
theorem dX7_init_25 : decode cX7_init 25 = .ok (.aload_n 0, 1) := by decide +kernel
theorem dX7_init_26 : decode cX7_init 26 = .ok (.aload 5, 2) := by decide +kernel
theorem dX7_init_28 : decode cX7_init 28 = .ok (.putfield 27, 3) := by decide +kernel
theorem dX7_init_31 : decode cX7_init 31 = .ok (.aload_n 0, 1) := by decide +kernel
theorem dX7_init_32 : decode cX7_init 32 = .ok (.new 31, 3) := by decide +kernel
theorem dX7_init_35 : decode cX7_init 35 = .ok (.dup, 1) := by decide +kernel
theorem dX7_init_36 : decode cX7_init 36 = .ok (.aload_n 2, 1) := by decide +kernel
theorem dX7_init_37 : decode cX7_init 37 = .ok (.invokespecial 33, 3) := by decide +kernel
theorem dX7_init_40 : decode cX7_init 40 = .ok (.putfield 36, 3) := by decide +kernel
theorem dX7_init_43 : decode cX7_init 43 = .ok (.aload_n 0, 1) := by decide +kernel
theorem dX7_init_44 : decode cX7_init 44 = .ok (.new 40, 3) := by decide +kernel
theorem dX7_init_47 : decode cX7_init 47 = .ok (.dup, 1) := by decide +kernel
theorem dX7_init_48 : decode cX7_init 48 = .ok (.aload_n 2, 1) := by decide +kernel
theorem dX7_init_49 : decode cX7_init 49 = .ok (.aload 5, 2) := by decide +kernel
theorem dX7_init_51 : decode cX7_init 51 = .ok (.aload_n 0, 1) := by decide +kernel
theorem dX7_init_52 : decode cX7_init 52 = .ok (.getfield 36, 3) := by decide +kernel
theorem dX7_init_55 : decode cX7_init 55 = .ok (.invokespecial 42, 3) := by decide +kernel
theorem dX7_init_58 : decode cX7_init 58 = .ok (.putfield 45, 3) := by decide +kernel
theorem dX7_init_61 : decode cX7_init 61 = .ok (.aload_n 0, 1) := by decide +kernel
theorem dX7_init_62 : decode cX7_init 62 = .ok (.aload 6, 2) := by decide +kernel
theorem dX7_init_64 : decode cX7_init 64 = .ok (.putfield 49, 3) := by decide +kernel
theorem dX7_init_67 : decode cX7_init 67 = .ok (.aload_n 0, 1) := by decide +kernel
theorem dX7_init_68 : decode cX7_init 68 = .ok (.new 53, 3) := by decide +kernel
theorem dX7_init_71 : decode cX7_init 71 = .ok (.dup, 1) := by decide +kernel
theorem dX7_init_72 : decode cX7_init 72 = .ok (.invokespecial 55, 3) := by decide +kernel
theorem dX7_init_75 : decode cX7_init 75 = .ok (.putfield 56, 3) := by decide +kernel
theorem dX7_init_78 : decode cX7_init 78 = .ok (.aload_n 0, 1) := by decide +kernel
theorem dX7_init_79 : decode cX7_init 79 = .ok (.new 59, 3) := by decide +kernel
theorem dX7_init_82 : decode cX7_init 82 = .ok (.dup, 1) := by decide +kernel
theorem dX7_init_83 : decode cX7_init 83 = .ok (.invokespecial 61, 3) := by decide +kernel
theorem dX7_init_86 : decode cX7_init 86 = .ok (.putfield 62, 3) := by decide +kernel
theorem dX7_init_89 : decode cX7_init 89 = .ok (.aload_n 0, 1) := by decide +kernel
theorem dX7_init_90 : decode cX7_init 90 = .ok (.new 59, 3) := by decide +kernel
theorem dX7_init_93 : decode cX7_init 93 = .ok (.dup, 1) := by decide +kernel
theorem dX7_init_94 : decode cX7_init 94 = .ok (.invokespecial 61, 3) := by decide +kernel
theorem dX7_init_97 : decode cX7_init 97 = .ok (.putfield 65, 3) := by decide +kernel
theorem dX7_init_100 : decode cX7_init 100 = .ok (.aload_n 0, 1) := by decide +kernel
theorem dX7_init_101 : decode cX7_init 101 = .ok (.new 59, 3) := by decide +kernel
theorem dX7_init_104 : decode cX7_init 104 = .ok (.dup, 1) := by decide +kernel
theorem dX7_init_105 : decode cX7_init 105 = .ok (.invokespecial 61, 3) := by decide +kernel
theorem dX7_init_108 : decode cX7_init 108 = .ok (.putfield 68, 3) := by decide +kernel
theorem dX7_init_111 : decode cX7_init 111 = .ok (.aload_n 0, 1) := by decide +kernel
theorem dX7_init_112 : decode cX7_init 112 = .ok (.new 59, 3) := by decide +kernel
theorem dX7_init_115 : decode cX7_init 115 = .ok (.dup, 1) := by decide +kernel
theorem dX7_init_116 : decode cX7_init 116 = .ok (.invokespecial 61, 3) := by decide +kernel
theorem dX7_init_119 : decode cX7_init 119 = .ok (.putfield 71, 3) := by decide +kernel
theorem dX7_init_122 : decode cX7_init 122 = .ok (.aload_n 0, 1) := by decide +kernel
theorem dX7_init_123 : decode cX7_init 123 = .ok (.new 59, 3) := by decide +kernel
theorem dX7_init_126 : decode cX7_init 126 = .ok (.dup, 1) := by decide +kernel
theorem dX7_init_127 : decode cX7_init 127 = .ok (.invokespecial 61, 3) := by decide +kernel
theorem dX7_init_130 : decode cX7_init 130 = .ok (.putfield 74, 3) := by decide +kernel
theorem dX7_init_133 : decode cX7_init 133 = .ok (.aload_n 0, 1) := by decide +kernel
theorem dX7_init_134 : decode cX7_init 134 = .ok (.iconst 4, 1) := by decide +kernel
theorem dX7_init_135 : decode cX7_init 135 = .ok (.newarray .int, 2) := by decide +kernel
theorem dX7_init_137 : decode cX7_init 137 = .ok (.putfield 77, 3) := by decide +kernel
theorem dX7_init_140 : decode cX7_init 140 = .ok (.aload_n 0, 1) := by decide +kernel
theorem dX7_init_141 : decode cX7_init 141 = .ok (.iconst 3, 1) := by decide +kernel
theorem dX7_init_142 : decode cX7_init 142 = .ok (.newarray .int, 2) := by decide +kernel
theorem dX7_init_144 : decode cX7_init 144 = .ok (.putfield 81, 3) := by decide +kernel
theorem dX7_init_147 : decode cX7_init 147 = .ok (.return_, 1) := by decide +kernel
theorem k_RX7_3 : Cond.methodLink RX7 3 ⟨"java/lang/Object", "<init>", "()V"⟩ ∈ tb := tb_2 (i := 133) (by decide +kernel) rfl
theorem k_RX7_9 : Cond.fieldLink RX7 9 RX7 "manuscript" "LTypeRoom$Row;" ∈ tb := tb_3 (i := 1) (by decide +kernel) rfl
theorem k_RX7_15 : Cond.fieldLink RX7 15 RX7 "purse" "LTypeRoom$Purse;" ∈ tb := tb_3 (i := 2) (by decide +kernel) rfl
theorem k_RX7_19 : Cond.fieldLink RX7 19 RX7 "rules" "LTypeRoom$Rules;" ∈ tb := tb_3 (i := 3) (by decide +kernel) rfl
theorem k_RX7_23 : Cond.fieldLink RX7 23 RX7 "texts" "LTypeRoom$Texts;" ∈ tb := tb_3 (i := 4) (by decide +kernel) rfl
theorem k_RX7_27 : Cond.fieldLink RX7 27 RX7 "filler" "LTypeRoom$Filler;" ∈ tb := tb_3 (i := 5) (by decide +kernel) rfl
theorem k_RX7_31 : Cond.classLink RX7 31 RX1 ∈ tb := tb_2 (i := 134) (by decide +kernel) rfl
theorem wt_1 : Cond.instantiable RX1 11 ∈ tb := tb_2 (i := 135) (by decide +kernel) rfl
theorem bl_1 : ∀ j, j < 11 → defaultValue (tyX1 j) = vp_V [.null, .null, .null, .null, .null, .null, .null, .null, .null, .null, .int 0] j := by decide +kernel
theorem k_RX7_33 : Cond.methodLink RX7 33 yX1_init ∈ tb := tb_2 (i := 136) (by decide +kernel) rfl
theorem k_RX7_36 : Cond.fieldLink RX7 36 RX7 "galley" "LTypeRoom$Galley;" ∈ tb := tb_3 (i := 6) (by decide +kernel) rfl
theorem k_RX7_40 : Cond.classLink RX7 40 RX9 ∈ tb := tb_2 (i := 194) (by decide +kernel) rfl
theorem wt_9 : Cond.instantiable RX9 10 ∈ tb := tb_2 (i := 195) (by decide +kernel) rfl
theorem bl_9 : ∀ j, j < 10 → defaultValue (tyX9 j) = vp_V [.null, .null, .null, .null, .null, .null, .null, .null, .null, .int 0] j := by decide +kernel
theorem k_RX7_42 : Cond.methodLink RX7 42 yX9_init ∈ tb := tb_2 (i := 196) (by decide +kernel) rfl
theorem k_RX7_45 : Cond.fieldLink RX7 45 RX7 "tables" "LTypeRoom$Tables;" ∈ tb := tb_3 (i := 7) (by decide +kernel) rfl
theorem k_RX7_49 : Cond.fieldLink RX7 49 RX7 "now" "LTypeRoom$Marks;" ∈ tb := tb_3 (i := 8) (by decide +kernel) rfl
theorem k_RX7_53 : Cond.classLink RX7 53 RX2 ∈ tb := tb_2 (i := 237) (by decide +kernel) rfl
theorem wt_2 : Cond.instantiable RX2 16 ∈ tb := tb_1 (i := 150) (by decide +kernel) rfl
theorem bl_2 : ∀ j, j < 16 → defaultValue (tyX2 j) = vp_V [.null, .null, .null, .null, .null, .null, .null, .null, .null, .null, .null, .null, .int 0, .int 0, .int 0, .int 0] j := by decide +kernel
theorem k_RX7_55 : Cond.methodLink RX7 55 yX2_init ∈ tb := tb_2 (i := 238) (by decide +kernel) rfl
theorem k_RX7_56 : Cond.fieldLink RX7 56 RX7 "before" "LTypeRoom$Marks;" ∈ tb := tb_3 (i := 10) (by decide +kernel) rfl
theorem k_RX7_59 : Cond.classLink RX7 59 RX5 ∈ tb := tb_2 (i := 239) (by decide +kernel) rfl
theorem k_RX7_61 : Cond.methodLink RX7 61 yX5_init ∈ tb := tb_3 (i := 0) (by decide +kernel) rfl
theorem k_RX7_62 : Cond.fieldLink RX7 62 RX7 "starts" "LTypeRoom$Row;" ∈ tb := tb_3 (i := 11) (by decide +kernel) rfl
theorem k_RX7_65 : Cond.fieldLink RX7 65 RX7 "stops" "LTypeRoom$Row;" ∈ tb := tb_3 (i := 12) (by decide +kernel) rfl
theorem k_RX7_68 : Cond.fieldLink RX7 68 RX7 "kinds" "LTypeRoom$Row;" ∈ tb := tb_3 (i := 13) (by decide +kernel) rfl
theorem k_RX7_71 : Cond.fieldLink RX7 71 RX7 "text" "LTypeRoom$Row;" ∈ tb := tb_3 (i := 14) (by decide +kernel) rfl
theorem k_RX7_74 : Cond.fieldLink RX7 74 RX7 "scratch" "LTypeRoom$Row;" ∈ tb := tb_3 (i := 15) (by decide +kernel) rfl
theorem k_RX7_77 : Cond.fieldLink RX7 77 RX7 "numbers" "[I" ∈ tb := tb_3 (i := 16) (by decide +kernel) rfl
theorem k_RX7_81 : Cond.fieldLink RX7 81 RX7 "counts" "[I" ∈ tb := tb_3 (i := 17) (by decide +kernel) rfl
def bX7 (G : Nat → ClassId) (ad : Nat → Nat) (b : Nat) (p0 : Nat) (p1 : Nat) (p2 : Nat) (p3 : Nat) (p4 : Nat) (p5 : Nat) : List va_E := (.inr (7, [.ref p0, .ref p1, .ref p2, .ref p3, .ref p4, .ref (ad (b + 1)), .ref (ad (b + 23)), .ref p5, .ref (ad (b + 36)), .ref (ad (b + 73)), .ref (ad (b + 75)), .ref (ad (b + 77)), .ref (ad (b + 79)), .ref (ad (b + 81)), .ref (ad (b + 83)), .ref (ad (b + 84)), .int (0), .int (0), .int (0)])) :: (bX1 G ad (b + 1) (p1) ++ (bX9 G ad (b + 23) (p1) (p4) (ad (b + 1)) ++ (bX2 G ad (b + 36) ++ (bX5 G ad (b + 73) ++ (bX5 G ad (b + 75) ++ (bX5 G ad (b + 77) ++ (bX5 G ad (b + 79) ++ (bX5 G ad (b + 81) ++ ([.inl (G 0, 4, .inl (fun _ => 0))] ++ ([.inl (G 0, 3, .inl (fun _ => 0))]))))))))))
theorem cg7 {G : Nat → ClassId} {ad ad' : Nat → Nat} {b n : Nat} {p0 : Nat} {p1 : Nat} {p2 : Nat} {p3 : Nat} {p4 : Nat} {p5 : Nat} (hn : 85 ≤ n) (h : ∀ k, k < b + n → b ≤ k → ad' k = ad k) : bX7 G ad' b p0 p1 p2 p3 p4 p5 = bX7 G ad b p0 p1 p2 p3 p4 p5 := by
  simp only [bX7, h (b + 1) (by omega) (by omega), h (b + 23) (by omega) (by omega), h (b + 36) (by omega) (by omega), h (b + 73) (by omega) (by omega), h (b + 75) (by omega) (by omega), h (b + 77) (by omega) (by omega), h (b + 79) (by omega) (by omega), h (b + 81) (by omega) (by omega), h (b + 83) (by omega) (by omega), h (b + 84) (by omega) (by omega), cg1 (b := b + 1) (n := 22) (Nat.le_refl _) (fun k h1 h2 => h k (by omega) (by omega)), cg9 (b := b + 23) (n := 13) (Nat.le_refl _) (fun k h1 h2 => h k (by omega) (by omega)), cg2 (b := b + 36) (n := 37) (Nat.le_refl _) (fun k h1 h2 => h k (by omega) (by omega)), cg5 (b := b + 73) (n := 2) (Nat.le_refl _) (fun k h1 h2 => h k (by omega) (by omega)), cg5 (b := b + 75) (n := 2) (Nat.le_refl _) (fun k h1 h2 => h k (by omega) (by omega)), cg5 (b := b + 77) (n := 2) (Nat.le_refl _) (fun k h1 h2 => h k (by omega) (by omega)), cg5 (b := b + 79) (n := 2) (Nat.le_refl _) (fun k h1 h2 => h k (by omega) (by omega)), cg5 (b := b + 81) (n := 2) (Nat.le_refl _) (fun k h1 h2 => h k (by omega) (by omega))]
theorem ln7 {G : Nat → ClassId} {ad : Nat → Nat} {b : Nat} {p0 : Nat} {p1 : Nat} {p2 : Nat} {p3 : Nat} {p4 : Nat} {p5 : Nat} : (bX7 G ad b p0 p1 p2 p3 p4 p5).length = 85 := by
  simp only [bX7, List.length_cons, List.length_append, List.length_nil, ln1, ln2, ln5, ln9]
set_option maxHeartbeats 4000000 in
set_option maxRecDepth 100000 in
theorem cn_7 (l : Launch) (D : va_G) (G : Nat → ClassId) (t : Nat → Nat) (N : Nat) (ad : Nat → Nat) (cl : Nat → va_E) (o : Nat) (hiN : o + 1 = N) (hc0 : cl o = .inr (7, [.null, .null, .null, .null, .null, .null, .null, .null, .null, .null, .null, .null, .null, .null, .null, .null, .int 0, .int 0, .int 0])) (p0 : Nat) (p1 : Nat) (p2 : Nat) (p3 : Nat) (p4 : Nat) (p5 : Nat) (d : Nat) (hd : 4 ≤ d) : CtV l yX7_init cX7_init 7 (rmD d 84 711) D G t (N, ad, cl) [.ref (ad o), .ref p0, .ref p1, .ref p2, .ref p3, .ref p4, .ref p5] (fun u => ∃ ad' cl', u = (o + 85, ad', cl') ∧ (∀ k, k < o + 1 → ad' k = ad k) ∧ (∀ k, k < o → cl' k = cl k) ∧ Blk cl' o (bX7 G ad' o p0 p1 p2 p3 p4 p5)) := by
  subst hiN
  refine ct_V (own := RX7) (by decide +kernel) rfl (Nat.le_of_ble_eq_true rfl) rfl ?_
  intro p e s m args below meth c A ls X hr hin hl w
  obtain ⟨hx, hb, hml, hown, hts, -⟩ := id X
  have hl : lv_has ls 7 [(0, .ref (ad (o))), (1, .ref (p0)), (2, .ref (p1)), (3, .ref (p2)), (4, .ref (p3)), (5, .ref (p4)), (6, .ref (p5))] := hl
  have fa : ∀ k, k < o + 1 → ad k = ad k := fun _ _ => rfl
  have fc : ∀ k, k < o → cl k = cl k := fun _ _ => rfl
  refine lv_aload_n hx hb dX7_init_0 rfl (lv_at hl 0 rfl) ?_
  refine g_oinit X hl.1 k_RX7_3 dX7_init_1 (by decide) ⟨by show 1 ≤ d; omega, rm_loc (by omega) (by decide)⟩ ?_
  refine lv_aload_n hx hb dX7_init_4 rfl (lv_at hl 0 rfl) ?_
  refine lv_aload_n hx hb dX7_init_5 rfl (lv_at hl 1 rfl) ?_
  refine g_putF X w (o) rfl (by omega) hc0 kc7 0 (by decide) rfl rfl k_RX7_9 rfl hin rfl rfl (Nat.le_of_ble_eq_true rfl) dX7_init_6 (fun H locs w => ?_)
  have w : Wd D A s H locs (o + 1) ad (va_up cl (o) (.inr (7, [.ref (p0), .null, .null, .null, .null, .null, .null, .null, .null, .null, .null, .null, .null, .null, .null, .null, .int (0), .int (0), .int (0)]))) := w
  generalize e2 : va_up cl (o) (.inr (7, [.ref (p0), .null, .null, .null, .null, .null, .null, .null, .null, .null, .null, .null, .null, .null, .null, .null, .int (0), .int (0), .int (0)])) = cl1 at w
  have g3 : ∀ k, k ≠ o → cl1 k = cl k := fun k hk => by rw [← e2, va_up_ne _ _ hk]
  have c4 : cl1 (o) = .inr (7, [.ref (p0), .null, .null, .null, .null, .null, .null, .null, .null, .null, .null, .null, .null, .null, .null, .null, .int (0), .int (0), .int (0)]) := by rw [← e2, va_up_self]
  have fc : ∀ k, k < o → cl1 k = cl k := fun k hk => (g3 (k) (by omega)).trans (fc k hk)
  refine lv_aload_n hx hb dX7_init_9 rfl (lv_at hl 0 rfl) ?_
  refine lv_aload_n hx hb dX7_init_10 rfl (lv_at hl 2 rfl) ?_
  refine g_putF X w (o) rfl (by omega) c4 kc7 1 (by decide) rfl rfl k_RX7_15 rfl hin rfl rfl (Nat.le_of_ble_eq_true rfl) dX7_init_11 (fun H locs w => ?_)
  have w : Wd D A s H locs (o + 1) ad (va_up cl1 (o) (.inr (7, [.ref (p0), .ref (p1), .null, .null, .null, .null, .null, .null, .null, .null, .null, .null, .null, .null, .null, .null, .int (0), .int (0), .int (0)]))) := w
  generalize e6 : va_up cl1 (o) (.inr (7, [.ref (p0), .ref (p1), .null, .null, .null, .null, .null, .null, .null, .null, .null, .null, .null, .null, .null, .null, .int (0), .int (0), .int (0)])) = cl5 at w
  have g7 : ∀ k, k ≠ o → cl5 k = cl1 k := fun k hk => by rw [← e6, va_up_ne _ _ hk]
  have c8 : cl5 (o) = .inr (7, [.ref (p0), .ref (p1), .null, .null, .null, .null, .null, .null, .null, .null, .null, .null, .null, .null, .null, .null, .int (0), .int (0), .int (0)]) := by rw [← e6, va_up_self]
  have fc : ∀ k, k < o → cl5 k = cl k := fun k hk => (g7 (k) (by omega)).trans (fc k hk)
  refine lv_aload_n hx hb dX7_init_14 rfl (lv_at hl 0 rfl) ?_
  refine lv_aload_n hx hb dX7_init_15 rfl (lv_at hl 3 rfl) ?_
  refine g_putF X w (o) rfl (by omega) c8 kc7 2 (by decide) rfl rfl k_RX7_19 rfl hin rfl rfl (Nat.le_of_ble_eq_true rfl) dX7_init_16 (fun H locs w => ?_)
  have w : Wd D A s H locs (o + 1) ad (va_up cl5 (o) (.inr (7, [.ref (p0), .ref (p1), .ref (p2), .null, .null, .null, .null, .null, .null, .null, .null, .null, .null, .null, .null, .null, .int (0), .int (0), .int (0)]))) := w
  generalize e10 : va_up cl5 (o) (.inr (7, [.ref (p0), .ref (p1), .ref (p2), .null, .null, .null, .null, .null, .null, .null, .null, .null, .null, .null, .null, .null, .int (0), .int (0), .int (0)])) = cl9 at w
  have g11 : ∀ k, k ≠ o → cl9 k = cl5 k := fun k hk => by rw [← e10, va_up_ne _ _ hk]
  have c12 : cl9 (o) = .inr (7, [.ref (p0), .ref (p1), .ref (p2), .null, .null, .null, .null, .null, .null, .null, .null, .null, .null, .null, .null, .null, .int (0), .int (0), .int (0)]) := by rw [← e10, va_up_self]
  have fc : ∀ k, k < o → cl9 k = cl k := fun k hk => (g11 (k) (by omega)).trans (fc k hk)
  refine lv_aload_n hx hb dX7_init_19 rfl (lv_at hl 0 rfl) ?_
  refine lv_aload hx hb dX7_init_20 (lv_at hl 4 rfl) ?_
  refine g_putF X w (o) rfl (by omega) c12 kc7 3 (by decide) rfl rfl k_RX7_23 rfl hin rfl rfl (Nat.le_of_ble_eq_true rfl) dX7_init_22 (fun H locs w => ?_)
  have w : Wd D A s H locs (o + 1) ad (va_up cl9 (o) (.inr (7, [.ref (p0), .ref (p1), .ref (p2), .ref (p3), .null, .null, .null, .null, .null, .null, .null, .null, .null, .null, .null, .null, .int (0), .int (0), .int (0)]))) := w
  generalize e14 : va_up cl9 (o) (.inr (7, [.ref (p0), .ref (p1), .ref (p2), .ref (p3), .null, .null, .null, .null, .null, .null, .null, .null, .null, .null, .null, .null, .int (0), .int (0), .int (0)])) = cl13 at w
  have g15 : ∀ k, k ≠ o → cl13 k = cl9 k := fun k hk => by rw [← e14, va_up_ne _ _ hk]
  have c16 : cl13 (o) = .inr (7, [.ref (p0), .ref (p1), .ref (p2), .ref (p3), .null, .null, .null, .null, .null, .null, .null, .null, .null, .null, .null, .null, .int (0), .int (0), .int (0)]) := by rw [← e14, va_up_self]
  have fc : ∀ k, k < o → cl13 k = cl k := fun k hk => (g15 (k) (by omega)).trans (fc k hk)
  refine lv_aload_n hx hb dX7_init_25 rfl (lv_at hl 0 rfl) ?_
  refine lv_aload hx hb dX7_init_26 (lv_at hl 5 rfl) ?_
  refine g_putF X w (o) rfl (by omega) c16 kc7 4 (by decide) rfl rfl k_RX7_27 rfl hin rfl rfl (Nat.le_of_ble_eq_true rfl) dX7_init_28 (fun H locs w => ?_)
  have w : Wd D A s H locs (o + 1) ad (va_up cl13 (o) (.inr (7, [.ref (p0), .ref (p1), .ref (p2), .ref (p3), .ref (p4), .null, .null, .null, .null, .null, .null, .null, .null, .null, .null, .null, .int (0), .int (0), .int (0)]))) := w
  generalize e18 : va_up cl13 (o) (.inr (7, [.ref (p0), .ref (p1), .ref (p2), .ref (p3), .ref (p4), .null, .null, .null, .null, .null, .null, .null, .null, .null, .null, .null, .int (0), .int (0), .int (0)])) = cl17 at w
  have g19 : ∀ k, k ≠ o → cl17 k = cl13 k := fun k hk => by rw [← e18, va_up_ne _ _ hk]
  have c20 : cl17 (o) = .inr (7, [.ref (p0), .ref (p1), .ref (p2), .ref (p3), .ref (p4), .null, .null, .null, .null, .null, .null, .null, .null, .null, .null, .null, .int (0), .int (0), .int (0)]) := by rw [← e18, va_up_self]
  have fc : ∀ k, k < o → cl17 k = cl k := fun k hk => (g19 (k) (by omega)).trans (fc k hk)
  refine lv_aload_n hx hb dX7_init_31 rfl (lv_at hl 0 rfl) ?_
  refine g_new X w kc1 k_RX7_31 wt_1 wi_1 bl_1 (Nat.le_of_ble_eq_true rfl) (Nat.le_of_ble_eq_true rfl) dX7_init_32 (fun q21 H w => ?_)
  generalize e24 : va_up ad (o + 1) q21 = ad22 at w
  generalize e25 : va_up cl17 (o + 1) (.inr (1, [.null, .null, .null, .null, .null, .null, .null, .null, .null, .null, .int 0])) = cl23 at w
  have g26 : ∀ k, k < o + 1 → ad22 k = ad k := fun k hk => by rw [← e24, va_up_ne _ _ (by omega)]
  have g27 : ∀ k, k < o + 1 → cl23 k = cl17 k := fun k hk => by rw [← e25, va_up_ne _ _ (by omega)]
  have a28 : ad22 (o) = ad (o) := g26 (o) (by omega)
  have c29 : cl23 (o) = .inr (7, [.ref (p0), .ref (p1), .ref (p2), .ref (p3), .ref (p4), .null, .null, .null, .null, .null, .null, .null, .null, .null, .null, .null, .int (0), .int (0), .int (0)]) := (g27 (o) (by omega)).trans c20
  have fa : ∀ k, k < o + 1 → ad22 k = ad k := fun k hk => (g26 (k) (by omega)).trans (fa k hk)
  have fc : ∀ k, k < o → cl23 k = cl k := fun k hk => (g27 (k) (by omega)).trans (fc k hk)
  have a30 : ad22 (o + 1) = q21 := by rw [← e24, va_up_self]
  have c31 : cl23 (o + 1) = .inr (1, [.null, .null, .null, .null, .null, .null, .null, .null, .null, .null, .int 0]) := by rw [← e25, va_up_self]
  refine lv_dup hx hb dX7_init_35 rfl ?_
  refine lv_aload_n hx hb dX7_init_36 rfl (lv_at hl 2 rfl) ?_
  refine c_init (As := [.ref (p1)]) (rest := [.ref (q21), .ref (ad (o))]) X w (cn_1 l D G t (o + 2) ad22 cl23 (o + 1) rfl c31 (p1) (d - 1) (by omega)) YX1_init k_RX7_33 (by rw [a30]) rfl rfl hl.1 (rm_call (by omega) (by decide)) (Nat.le_of_ble_eq_true rfl) dX7_init_37 (⟨Nat.le_of_ble_eq_true rfl, Nat.le_of_ble_eq_true rfl⟩) (fun u H locs hp w => ?_)
  obtain ⟨ad32, cl33, rfl, g34, g35, b36⟩ := hp
  have w : Wd D A s H locs (o + 23) ad32 cl33 := w
  have b36 : Blk cl33 (o + 1) (bX1 G ad32 (o + 1) (p1)) := b36
  have a37 : ad32 (o) = ad (o) := (g34 (o) (by omega)).trans a28
  have c38 : cl33 (o) = .inr (7, [.ref (p0), .ref (p1), .ref (p2), .ref (p3), .ref (p4), .null, .null, .null, .null, .null, .null, .null, .null, .null, .null, .null, .int (0), .int (0), .int (0)]) := (g35 (o) (by omega)).trans c29
  have fa : ∀ k, k < o + 1 → ad32 k = ad k := fun k hk => (g34 (k) (by omega)).trans (fa k hk)
  have fc : ∀ k, k < o → cl33 k = cl k := fun k hk => (g35 (k) (by omega)).trans (fc k hk)
  refine g_putF X w (o) a37 (by omega) c38 kc7 5 (by decide) rfl rfl k_RX7_36 rfl hin rfl rfl (Nat.le_of_ble_eq_true rfl) dX7_init_40 (fun H locs w => ?_)
  have w : Wd D A s H locs (o + 23) ad32 (va_up cl33 (o) (.inr (7, [.ref (p0), .ref (p1), .ref (p2), .ref (p3), .ref (p4), .ref (q21), .null, .null, .null, .null, .null, .null, .null, .null, .null, .null, .int (0), .int (0), .int (0)]))) := w
  generalize e40 : va_up cl33 (o) (.inr (7, [.ref (p0), .ref (p1), .ref (p2), .ref (p3), .ref (p4), .ref (q21), .null, .null, .null, .null, .null, .null, .null, .null, .null, .null, .int (0), .int (0), .int (0)])) = cl39 at w
  have g41 : ∀ k, k ≠ o → cl39 k = cl33 k := fun k hk => by rw [← e40, va_up_ne _ _ hk]
  have c42 : cl39 (o) = .inr (7, [.ref (p0), .ref (p1), .ref (p2), .ref (p3), .ref (p4), .ref (q21), .null, .null, .null, .null, .null, .null, .null, .null, .null, .null, .int (0), .int (0), .int (0)]) := by rw [← e40, va_up_self]
  have fc : ∀ k, k < o → cl39 k = cl k := fun k hk => (g41 (k) (by omega)).trans (fc k hk)
  refine lv_aload_n hx hb dX7_init_43 rfl (lv_at hl 0 rfl) ?_
  refine g_new X w kc9 k_RX7_40 wt_9 wi_9 bl_9 (Nat.le_of_ble_eq_true rfl) (Nat.le_of_ble_eq_true rfl) dX7_init_44 (fun q43 H w => ?_)
  generalize e46 : va_up ad32 (o + 23) q43 = ad44 at w
  generalize e47 : va_up cl39 (o + 23) (.inr (9, [.null, .null, .null, .null, .null, .null, .null, .null, .null, .int 0])) = cl45 at w
  have g48 : ∀ k, k < o + 23 → ad44 k = ad32 k := fun k hk => by rw [← e46, va_up_ne _ _ (by omega)]
  have g49 : ∀ k, k < o + 23 → cl45 k = cl39 k := fun k hk => by rw [← e47, va_up_ne _ _ (by omega)]
  have a50 : ad44 (o) = ad (o) := (g48 (o) (by omega)).trans a37
  have c51 : cl45 (o) = .inr (7, [.ref (p0), .ref (p1), .ref (p2), .ref (p3), .ref (p4), .ref (q21), .null, .null, .null, .null, .null, .null, .null, .null, .null, .null, .int (0), .int (0), .int (0)]) := (g49 (o) (by omega)).trans c42
  have fa : ∀ k, k < o + 1 → ad44 k = ad k := fun k hk => (g48 (k) (by omega)).trans (fa k hk)
  have fc : ∀ k, k < o → cl45 k = cl k := fun k hk => (g49 (k) (by omega)).trans (fc k hk)
  have a52 : ad44 (o + 23) = q43 := by rw [← e46, va_up_self]
  have c53 : cl45 (o + 23) = .inr (9, [.null, .null, .null, .null, .null, .null, .null, .null, .null, .int 0]) := by rw [← e47, va_up_self]
  refine lv_dup hx hb dX7_init_47 rfl ?_
  refine lv_aload_n hx hb dX7_init_48 rfl (lv_at hl 2 rfl) ?_
  refine lv_aload hx hb dX7_init_49 (lv_at hl 5 rfl) ?_
  refine lv_aload_n hx hb dX7_init_51 rfl (lv_at hl 0 rfl) ?_
  refine g_get X w (o) a50 (by omega) c51 kc7 5 (by decide) rfl k_RX7_36 rfl dX7_init_52 ?_
  refine c_init (As := [.ref (p1), .ref (p4), .ref (q21)]) (rest := [.ref (q43), .ref (ad (o))]) X w (cn_9 l D G t (o + 24) ad44 cl45 (o + 23) rfl c53 (p1) (p4) (q21) (d - 1) (by omega)) YX9_init k_RX7_42 (by rw [a52]) rfl rfl hl.1 (rm_call (by omega) (by decide)) (Nat.le_of_ble_eq_true rfl) dX7_init_55 (⟨Nat.le_of_ble_eq_true rfl, Nat.le_of_ble_eq_true rfl⟩) (fun u H locs hp w => ?_)
  obtain ⟨ad54, cl55, rfl, g56, g57, b58⟩ := hp
  have w : Wd D A s H locs (o + 36) ad54 cl55 := w
  have b58 : Blk cl55 (o + 23) (bX9 G ad54 (o + 23) (p1) (p4) (q21)) := b58
  have a59 : ad54 (o) = ad (o) := (g56 (o) (by omega)).trans a50
  have c60 : cl55 (o) = .inr (7, [.ref (p0), .ref (p1), .ref (p2), .ref (p3), .ref (p4), .ref (q21), .null, .null, .null, .null, .null, .null, .null, .null, .null, .null, .int (0), .int (0), .int (0)]) := (g57 (o) (by omega)).trans c51
  have fa : ∀ k, k < o + 1 → ad54 k = ad k := fun k hk => (g56 (k) (by omega)).trans (fa k hk)
  have fc : ∀ k, k < o → cl55 k = cl k := fun k hk => (g57 (k) (by omega)).trans (fc k hk)
  refine g_putF X w (o) a59 (by omega) c60 kc7 6 (by decide) rfl rfl k_RX7_45 rfl hin rfl rfl (Nat.le_of_ble_eq_true rfl) dX7_init_58 (fun H locs w => ?_)
  have w : Wd D A s H locs (o + 36) ad54 (va_up cl55 (o) (.inr (7, [.ref (p0), .ref (p1), .ref (p2), .ref (p3), .ref (p4), .ref (q21), .ref (q43), .null, .null, .null, .null, .null, .null, .null, .null, .null, .int (0), .int (0), .int (0)]))) := w
  generalize e62 : va_up cl55 (o) (.inr (7, [.ref (p0), .ref (p1), .ref (p2), .ref (p3), .ref (p4), .ref (q21), .ref (q43), .null, .null, .null, .null, .null, .null, .null, .null, .null, .int (0), .int (0), .int (0)])) = cl61 at w
  have g63 : ∀ k, k ≠ o → cl61 k = cl55 k := fun k hk => by rw [← e62, va_up_ne _ _ hk]
  have c64 : cl61 (o) = .inr (7, [.ref (p0), .ref (p1), .ref (p2), .ref (p3), .ref (p4), .ref (q21), .ref (q43), .null, .null, .null, .null, .null, .null, .null, .null, .null, .int (0), .int (0), .int (0)]) := by rw [← e62, va_up_self]
  have fc : ∀ k, k < o → cl61 k = cl k := fun k hk => (g63 (k) (by omega)).trans (fc k hk)
  refine lv_aload_n hx hb dX7_init_61 rfl (lv_at hl 0 rfl) ?_
  refine lv_aload hx hb dX7_init_62 (lv_at hl 6 rfl) ?_
  refine g_put X w (o) a59 (by omega) c64 kc7 7 (by decide) rfl k_RX7_49 rfl rfl rfl (Nat.le_of_ble_eq_true rfl) dX7_init_64 (fun H locs w => ?_)
  have w : Wd D A s H locs (o + 36) ad54 (va_up cl61 (o) (.inr (7, [.ref (p0), .ref (p1), .ref (p2), .ref (p3), .ref (p4), .ref (q21), .ref (q43), .ref (p5), .null, .null, .null, .null, .null, .null, .null, .null, .int (0), .int (0), .int (0)]))) := w
  generalize e66 : va_up cl61 (o) (.inr (7, [.ref (p0), .ref (p1), .ref (p2), .ref (p3), .ref (p4), .ref (q21), .ref (q43), .ref (p5), .null, .null, .null, .null, .null, .null, .null, .null, .int (0), .int (0), .int (0)])) = cl65 at w
  have g67 : ∀ k, k ≠ o → cl65 k = cl61 k := fun k hk => by rw [← e66, va_up_ne _ _ hk]
  have c68 : cl65 (o) = .inr (7, [.ref (p0), .ref (p1), .ref (p2), .ref (p3), .ref (p4), .ref (q21), .ref (q43), .ref (p5), .null, .null, .null, .null, .null, .null, .null, .null, .int (0), .int (0), .int (0)]) := by rw [← e66, va_up_self]
  have fc : ∀ k, k < o → cl65 k = cl k := fun k hk => (g67 (k) (by omega)).trans (fc k hk)
  refine lv_aload_n hx hb dX7_init_67 rfl (lv_at hl 0 rfl) ?_
  refine g_new X w kc2 k_RX7_53 wt_2 wi_2 bl_2 (Nat.le_of_ble_eq_true rfl) (Nat.le_of_ble_eq_true rfl) dX7_init_68 (fun q69 H w => ?_)
  generalize e72 : va_up ad54 (o + 36) q69 = ad70 at w
  generalize e73 : va_up cl65 (o + 36) (.inr (2, [.null, .null, .null, .null, .null, .null, .null, .null, .null, .null, .null, .null, .int 0, .int 0, .int 0, .int 0])) = cl71 at w
  have g74 : ∀ k, k < o + 36 → ad70 k = ad54 k := fun k hk => by rw [← e72, va_up_ne _ _ (by omega)]
  have g75 : ∀ k, k < o + 36 → cl71 k = cl65 k := fun k hk => by rw [← e73, va_up_ne _ _ (by omega)]
  have a76 : ad70 (o) = ad (o) := (g74 (o) (by omega)).trans a59
  have c77 : cl71 (o) = .inr (7, [.ref (p0), .ref (p1), .ref (p2), .ref (p3), .ref (p4), .ref (q21), .ref (q43), .ref (p5), .null, .null, .null, .null, .null, .null, .null, .null, .int (0), .int (0), .int (0)]) := (g75 (o) (by omega)).trans c68
  have fa : ∀ k, k < o + 1 → ad70 k = ad k := fun k hk => (g74 (k) (by omega)).trans (fa k hk)
  have fc : ∀ k, k < o → cl71 k = cl k := fun k hk => (g75 (k) (by omega)).trans (fc k hk)
  have a78 : ad70 (o + 36) = q69 := by rw [← e72, va_up_self]
  have c79 : cl71 (o + 36) = .inr (2, [.null, .null, .null, .null, .null, .null, .null, .null, .null, .null, .null, .null, .int 0, .int 0, .int 0, .int 0]) := by rw [← e73, va_up_self]
  refine lv_dup hx hb dX7_init_71 rfl ?_
  refine c_init (As := []) (rest := [.ref (q69), .ref (ad (o))]) X w (cn_2 l D G t (o + 37) ad70 cl71 (o + 36) rfl c79 (d - 1) (by omega)) YX2_init k_RX7_55 (by rw [a78]) rfl rfl hl.1 (rm_call (by omega) (by decide)) (Nat.le_of_ble_eq_true rfl) dX7_init_72 (⟨Nat.le_of_ble_eq_true rfl, Nat.le_of_ble_eq_true rfl⟩) (fun u H locs hp w => ?_)
  obtain ⟨ad80, cl81, rfl, g82, g83, b84⟩ := hp
  have w : Wd D A s H locs (o + 73) ad80 cl81 := w
  have b84 : Blk cl81 (o + 36) (bX2 G ad80 (o + 36)) := b84
  have a85 : ad80 (o) = ad (o) := (g82 (o) (by omega)).trans a76
  have c86 : cl81 (o) = .inr (7, [.ref (p0), .ref (p1), .ref (p2), .ref (p3), .ref (p4), .ref (q21), .ref (q43), .ref (p5), .null, .null, .null, .null, .null, .null, .null, .null, .int (0), .int (0), .int (0)]) := (g83 (o) (by omega)).trans c77
  have fa : ∀ k, k < o + 1 → ad80 k = ad k := fun k hk => (g82 (k) (by omega)).trans (fa k hk)
  have fc : ∀ k, k < o → cl81 k = cl k := fun k hk => (g83 (k) (by omega)).trans (fc k hk)
  refine g_put X w (o) a85 (by omega) c86 kc7 8 (by decide) rfl k_RX7_56 rfl rfl rfl (Nat.le_of_ble_eq_true rfl) dX7_init_75 (fun H locs w => ?_)
  have w : Wd D A s H locs (o + 73) ad80 (va_up cl81 (o) (.inr (7, [.ref (p0), .ref (p1), .ref (p2), .ref (p3), .ref (p4), .ref (q21), .ref (q43), .ref (p5), .ref (q69), .null, .null, .null, .null, .null, .null, .null, .int (0), .int (0), .int (0)]))) := w
  generalize e88 : va_up cl81 (o) (.inr (7, [.ref (p0), .ref (p1), .ref (p2), .ref (p3), .ref (p4), .ref (q21), .ref (q43), .ref (p5), .ref (q69), .null, .null, .null, .null, .null, .null, .null, .int (0), .int (0), .int (0)])) = cl87 at w
  have g89 : ∀ k, k ≠ o → cl87 k = cl81 k := fun k hk => by rw [← e88, va_up_ne _ _ hk]
  have c90 : cl87 (o) = .inr (7, [.ref (p0), .ref (p1), .ref (p2), .ref (p3), .ref (p4), .ref (q21), .ref (q43), .ref (p5), .ref (q69), .null, .null, .null, .null, .null, .null, .null, .int (0), .int (0), .int (0)]) := by rw [← e88, va_up_self]
  have fc : ∀ k, k < o → cl87 k = cl k := fun k hk => (g89 (k) (by omega)).trans (fc k hk)
  refine lv_aload_n hx hb dX7_init_78 rfl (lv_at hl 0 rfl) ?_
  refine g_new X w kc5 k_RX7_59 wt_5 wi_5 bl_5 (Nat.le_of_ble_eq_true rfl) (Nat.le_of_ble_eq_true rfl) dX7_init_79 (fun q91 H w => ?_)
  generalize e94 : va_up ad80 (o + 73) q91 = ad92 at w
  generalize e95 : va_up cl87 (o + 73) (.inr (5, [.null, .int 0])) = cl93 at w
  have g96 : ∀ k, k < o + 73 → ad92 k = ad80 k := fun k hk => by rw [← e94, va_up_ne _ _ (by omega)]
  have g97 : ∀ k, k < o + 73 → cl93 k = cl87 k := fun k hk => by rw [← e95, va_up_ne _ _ (by omega)]
  have a98 : ad92 (o) = ad (o) := (g96 (o) (by omega)).trans a85
  have c99 : cl93 (o) = .inr (7, [.ref (p0), .ref (p1), .ref (p2), .ref (p3), .ref (p4), .ref (q21), .ref (q43), .ref (p5), .ref (q69), .null, .null, .null, .null, .null, .null, .null, .int (0), .int (0), .int (0)]) := (g97 (o) (by omega)).trans c90
  have fa : ∀ k, k < o + 1 → ad92 k = ad k := fun k hk => (g96 (k) (by omega)).trans (fa k hk)
  have fc : ∀ k, k < o → cl93 k = cl k := fun k hk => (g97 (k) (by omega)).trans (fc k hk)
  have a100 : ad92 (o + 73) = q91 := by rw [← e94, va_up_self]
  have c101 : cl93 (o + 73) = .inr (5, [.null, .int 0]) := by rw [← e95, va_up_self]
  refine lv_dup hx hb dX7_init_82 rfl ?_
  refine c_init (As := []) (rest := [.ref (q91), .ref (ad (o))]) X w (cn_5 l D G t (o + 74) ad92 cl93 (o + 73) rfl c101 (d - 1) (by omega)) YX5_init k_RX7_61 (by rw [a100]) rfl rfl hl.1 (rm_call (by omega) (by decide)) (Nat.le_of_ble_eq_true rfl) dX7_init_83 (⟨Nat.le_of_ble_eq_true rfl, Nat.le_of_ble_eq_true rfl⟩) (fun u H locs hp w => ?_)
  obtain ⟨ad102, cl103, rfl, g104, g105, b106⟩ := hp
  have w : Wd D A s H locs (o + 75) ad102 cl103 := w
  have b106 : Blk cl103 (o + 73) (bX5 G ad102 (o + 73)) := b106
  have a107 : ad102 (o) = ad (o) := (g104 (o) (by omega)).trans a98
  have c108 : cl103 (o) = .inr (7, [.ref (p0), .ref (p1), .ref (p2), .ref (p3), .ref (p4), .ref (q21), .ref (q43), .ref (p5), .ref (q69), .null, .null, .null, .null, .null, .null, .null, .int (0), .int (0), .int (0)]) := (g105 (o) (by omega)).trans c99
  have fa : ∀ k, k < o + 1 → ad102 k = ad k := fun k hk => (g104 (k) (by omega)).trans (fa k hk)
  have fc : ∀ k, k < o → cl103 k = cl k := fun k hk => (g105 (k) (by omega)).trans (fc k hk)
  refine g_putF X w (o) a107 (by omega) c108 kc7 9 (by decide) rfl rfl k_RX7_62 rfl hin rfl rfl (Nat.le_of_ble_eq_true rfl) dX7_init_86 (fun H locs w => ?_)
  have w : Wd D A s H locs (o + 75) ad102 (va_up cl103 (o) (.inr (7, [.ref (p0), .ref (p1), .ref (p2), .ref (p3), .ref (p4), .ref (q21), .ref (q43), .ref (p5), .ref (q69), .ref (q91), .null, .null, .null, .null, .null, .null, .int (0), .int (0), .int (0)]))) := w
  generalize e110 : va_up cl103 (o) (.inr (7, [.ref (p0), .ref (p1), .ref (p2), .ref (p3), .ref (p4), .ref (q21), .ref (q43), .ref (p5), .ref (q69), .ref (q91), .null, .null, .null, .null, .null, .null, .int (0), .int (0), .int (0)])) = cl109 at w
  have g111 : ∀ k, k ≠ o → cl109 k = cl103 k := fun k hk => by rw [← e110, va_up_ne _ _ hk]
  have c112 : cl109 (o) = .inr (7, [.ref (p0), .ref (p1), .ref (p2), .ref (p3), .ref (p4), .ref (q21), .ref (q43), .ref (p5), .ref (q69), .ref (q91), .null, .null, .null, .null, .null, .null, .int (0), .int (0), .int (0)]) := by rw [← e110, va_up_self]
  have fc : ∀ k, k < o → cl109 k = cl k := fun k hk => (g111 (k) (by omega)).trans (fc k hk)
  refine lv_aload_n hx hb dX7_init_89 rfl (lv_at hl 0 rfl) ?_
  refine g_new X w kc5 k_RX7_59 wt_5 wi_5 bl_5 (Nat.le_of_ble_eq_true rfl) (Nat.le_of_ble_eq_true rfl) dX7_init_90 (fun q113 H w => ?_)
  generalize e116 : va_up ad102 (o + 75) q113 = ad114 at w
  generalize e117 : va_up cl109 (o + 75) (.inr (5, [.null, .int 0])) = cl115 at w
  have g118 : ∀ k, k < o + 75 → ad114 k = ad102 k := fun k hk => by rw [← e116, va_up_ne _ _ (by omega)]
  have g119 : ∀ k, k < o + 75 → cl115 k = cl109 k := fun k hk => by rw [← e117, va_up_ne _ _ (by omega)]
  have a120 : ad114 (o) = ad (o) := (g118 (o) (by omega)).trans a107
  have c121 : cl115 (o) = .inr (7, [.ref (p0), .ref (p1), .ref (p2), .ref (p3), .ref (p4), .ref (q21), .ref (q43), .ref (p5), .ref (q69), .ref (q91), .null, .null, .null, .null, .null, .null, .int (0), .int (0), .int (0)]) := (g119 (o) (by omega)).trans c112
  have fa : ∀ k, k < o + 1 → ad114 k = ad k := fun k hk => (g118 (k) (by omega)).trans (fa k hk)
  have fc : ∀ k, k < o → cl115 k = cl k := fun k hk => (g119 (k) (by omega)).trans (fc k hk)
  have a122 : ad114 (o + 75) = q113 := by rw [← e116, va_up_self]
  have c123 : cl115 (o + 75) = .inr (5, [.null, .int 0]) := by rw [← e117, va_up_self]
  refine lv_dup hx hb dX7_init_93 rfl ?_
  refine c_init (As := []) (rest := [.ref (q113), .ref (ad (o))]) X w (cn_5 l D G t (o + 76) ad114 cl115 (o + 75) rfl c123 (d - 1) (by omega)) YX5_init k_RX7_61 (by rw [a122]) rfl rfl hl.1 (rm_call (by omega) (by decide)) (Nat.le_of_ble_eq_true rfl) dX7_init_94 (⟨Nat.le_of_ble_eq_true rfl, Nat.le_of_ble_eq_true rfl⟩) (fun u H locs hp w => ?_)
  obtain ⟨ad124, cl125, rfl, g126, g127, b128⟩ := hp
  have w : Wd D A s H locs (o + 77) ad124 cl125 := w
  have b128 : Blk cl125 (o + 75) (bX5 G ad124 (o + 75)) := b128
  have a129 : ad124 (o) = ad (o) := (g126 (o) (by omega)).trans a120
  have c130 : cl125 (o) = .inr (7, [.ref (p0), .ref (p1), .ref (p2), .ref (p3), .ref (p4), .ref (q21), .ref (q43), .ref (p5), .ref (q69), .ref (q91), .null, .null, .null, .null, .null, .null, .int (0), .int (0), .int (0)]) := (g127 (o) (by omega)).trans c121
  have fa : ∀ k, k < o + 1 → ad124 k = ad k := fun k hk => (g126 (k) (by omega)).trans (fa k hk)
  have fc : ∀ k, k < o → cl125 k = cl k := fun k hk => (g127 (k) (by omega)).trans (fc k hk)
  refine g_putF X w (o) a129 (by omega) c130 kc7 10 (by decide) rfl rfl k_RX7_65 rfl hin rfl rfl (Nat.le_of_ble_eq_true rfl) dX7_init_97 (fun H locs w => ?_)
  have w : Wd D A s H locs (o + 77) ad124 (va_up cl125 (o) (.inr (7, [.ref (p0), .ref (p1), .ref (p2), .ref (p3), .ref (p4), .ref (q21), .ref (q43), .ref (p5), .ref (q69), .ref (q91), .ref (q113), .null, .null, .null, .null, .null, .int (0), .int (0), .int (0)]))) := w
  generalize e132 : va_up cl125 (o) (.inr (7, [.ref (p0), .ref (p1), .ref (p2), .ref (p3), .ref (p4), .ref (q21), .ref (q43), .ref (p5), .ref (q69), .ref (q91), .ref (q113), .null, .null, .null, .null, .null, .int (0), .int (0), .int (0)])) = cl131 at w
  have g133 : ∀ k, k ≠ o → cl131 k = cl125 k := fun k hk => by rw [← e132, va_up_ne _ _ hk]
  have c134 : cl131 (o) = .inr (7, [.ref (p0), .ref (p1), .ref (p2), .ref (p3), .ref (p4), .ref (q21), .ref (q43), .ref (p5), .ref (q69), .ref (q91), .ref (q113), .null, .null, .null, .null, .null, .int (0), .int (0), .int (0)]) := by rw [← e132, va_up_self]
  have fc : ∀ k, k < o → cl131 k = cl k := fun k hk => (g133 (k) (by omega)).trans (fc k hk)
  refine lv_aload_n hx hb dX7_init_100 rfl (lv_at hl 0 rfl) ?_
  refine g_new X w kc5 k_RX7_59 wt_5 wi_5 bl_5 (Nat.le_of_ble_eq_true rfl) (Nat.le_of_ble_eq_true rfl) dX7_init_101 (fun q135 H w => ?_)
  generalize e138 : va_up ad124 (o + 77) q135 = ad136 at w
  generalize e139 : va_up cl131 (o + 77) (.inr (5, [.null, .int 0])) = cl137 at w
  have g140 : ∀ k, k < o + 77 → ad136 k = ad124 k := fun k hk => by rw [← e138, va_up_ne _ _ (by omega)]
  have g141 : ∀ k, k < o + 77 → cl137 k = cl131 k := fun k hk => by rw [← e139, va_up_ne _ _ (by omega)]
  have a142 : ad136 (o) = ad (o) := (g140 (o) (by omega)).trans a129
  have c143 : cl137 (o) = .inr (7, [.ref (p0), .ref (p1), .ref (p2), .ref (p3), .ref (p4), .ref (q21), .ref (q43), .ref (p5), .ref (q69), .ref (q91), .ref (q113), .null, .null, .null, .null, .null, .int (0), .int (0), .int (0)]) := (g141 (o) (by omega)).trans c134
  have fa : ∀ k, k < o + 1 → ad136 k = ad k := fun k hk => (g140 (k) (by omega)).trans (fa k hk)
  have fc : ∀ k, k < o → cl137 k = cl k := fun k hk => (g141 (k) (by omega)).trans (fc k hk)
  have a144 : ad136 (o + 77) = q135 := by rw [← e138, va_up_self]
  have c145 : cl137 (o + 77) = .inr (5, [.null, .int 0]) := by rw [← e139, va_up_self]
  refine lv_dup hx hb dX7_init_104 rfl ?_
  refine c_init (As := []) (rest := [.ref (q135), .ref (ad (o))]) X w (cn_5 l D G t (o + 78) ad136 cl137 (o + 77) rfl c145 (d - 1) (by omega)) YX5_init k_RX7_61 (by rw [a144]) rfl rfl hl.1 (rm_call (by omega) (by decide)) (Nat.le_of_ble_eq_true rfl) dX7_init_105 (⟨Nat.le_of_ble_eq_true rfl, Nat.le_of_ble_eq_true rfl⟩) (fun u H locs hp w => ?_)
  obtain ⟨ad146, cl147, rfl, g148, g149, b150⟩ := hp
  have w : Wd D A s H locs (o + 79) ad146 cl147 := w
  have b150 : Blk cl147 (o + 77) (bX5 G ad146 (o + 77)) := b150
  have a151 : ad146 (o) = ad (o) := (g148 (o) (by omega)).trans a142
  have c152 : cl147 (o) = .inr (7, [.ref (p0), .ref (p1), .ref (p2), .ref (p3), .ref (p4), .ref (q21), .ref (q43), .ref (p5), .ref (q69), .ref (q91), .ref (q113), .null, .null, .null, .null, .null, .int (0), .int (0), .int (0)]) := (g149 (o) (by omega)).trans c143
  have fa : ∀ k, k < o + 1 → ad146 k = ad k := fun k hk => (g148 (k) (by omega)).trans (fa k hk)
  have fc : ∀ k, k < o → cl147 k = cl k := fun k hk => (g149 (k) (by omega)).trans (fc k hk)
  refine g_putF X w (o) a151 (by omega) c152 kc7 11 (by decide) rfl rfl k_RX7_68 rfl hin rfl rfl (Nat.le_of_ble_eq_true rfl) dX7_init_108 (fun H locs w => ?_)
  have w : Wd D A s H locs (o + 79) ad146 (va_up cl147 (o) (.inr (7, [.ref (p0), .ref (p1), .ref (p2), .ref (p3), .ref (p4), .ref (q21), .ref (q43), .ref (p5), .ref (q69), .ref (q91), .ref (q113), .ref (q135), .null, .null, .null, .null, .int (0), .int (0), .int (0)]))) := w
  generalize e154 : va_up cl147 (o) (.inr (7, [.ref (p0), .ref (p1), .ref (p2), .ref (p3), .ref (p4), .ref (q21), .ref (q43), .ref (p5), .ref (q69), .ref (q91), .ref (q113), .ref (q135), .null, .null, .null, .null, .int (0), .int (0), .int (0)])) = cl153 at w
  have g155 : ∀ k, k ≠ o → cl153 k = cl147 k := fun k hk => by rw [← e154, va_up_ne _ _ hk]
  have c156 : cl153 (o) = .inr (7, [.ref (p0), .ref (p1), .ref (p2), .ref (p3), .ref (p4), .ref (q21), .ref (q43), .ref (p5), .ref (q69), .ref (q91), .ref (q113), .ref (q135), .null, .null, .null, .null, .int (0), .int (0), .int (0)]) := by rw [← e154, va_up_self]
  have fc : ∀ k, k < o → cl153 k = cl k := fun k hk => (g155 (k) (by omega)).trans (fc k hk)
  refine lv_aload_n hx hb dX7_init_111 rfl (lv_at hl 0 rfl) ?_
  refine g_new X w kc5 k_RX7_59 wt_5 wi_5 bl_5 (Nat.le_of_ble_eq_true rfl) (Nat.le_of_ble_eq_true rfl) dX7_init_112 (fun q157 H w => ?_)
  generalize e160 : va_up ad146 (o + 79) q157 = ad158 at w
  generalize e161 : va_up cl153 (o + 79) (.inr (5, [.null, .int 0])) = cl159 at w
  have g162 : ∀ k, k < o + 79 → ad158 k = ad146 k := fun k hk => by rw [← e160, va_up_ne _ _ (by omega)]
  have g163 : ∀ k, k < o + 79 → cl159 k = cl153 k := fun k hk => by rw [← e161, va_up_ne _ _ (by omega)]
  have a164 : ad158 (o) = ad (o) := (g162 (o) (by omega)).trans a151
  have c165 : cl159 (o) = .inr (7, [.ref (p0), .ref (p1), .ref (p2), .ref (p3), .ref (p4), .ref (q21), .ref (q43), .ref (p5), .ref (q69), .ref (q91), .ref (q113), .ref (q135), .null, .null, .null, .null, .int (0), .int (0), .int (0)]) := (g163 (o) (by omega)).trans c156
  have fa : ∀ k, k < o + 1 → ad158 k = ad k := fun k hk => (g162 (k) (by omega)).trans (fa k hk)
  have fc : ∀ k, k < o → cl159 k = cl k := fun k hk => (g163 (k) (by omega)).trans (fc k hk)
  have a166 : ad158 (o + 79) = q157 := by rw [← e160, va_up_self]
  have c167 : cl159 (o + 79) = .inr (5, [.null, .int 0]) := by rw [← e161, va_up_self]
  refine lv_dup hx hb dX7_init_115 rfl ?_
  refine c_init (As := []) (rest := [.ref (q157), .ref (ad (o))]) X w (cn_5 l D G t (o + 80) ad158 cl159 (o + 79) rfl c167 (d - 1) (by omega)) YX5_init k_RX7_61 (by rw [a166]) rfl rfl hl.1 (rm_call (by omega) (by decide)) (Nat.le_of_ble_eq_true rfl) dX7_init_116 (⟨Nat.le_of_ble_eq_true rfl, Nat.le_of_ble_eq_true rfl⟩) (fun u H locs hp w => ?_)
  obtain ⟨ad168, cl169, rfl, g170, g171, b172⟩ := hp
  have w : Wd D A s H locs (o + 81) ad168 cl169 := w
  have b172 : Blk cl169 (o + 79) (bX5 G ad168 (o + 79)) := b172
  have a173 : ad168 (o) = ad (o) := (g170 (o) (by omega)).trans a164
  have c174 : cl169 (o) = .inr (7, [.ref (p0), .ref (p1), .ref (p2), .ref (p3), .ref (p4), .ref (q21), .ref (q43), .ref (p5), .ref (q69), .ref (q91), .ref (q113), .ref (q135), .null, .null, .null, .null, .int (0), .int (0), .int (0)]) := (g171 (o) (by omega)).trans c165
  have fa : ∀ k, k < o + 1 → ad168 k = ad k := fun k hk => (g170 (k) (by omega)).trans (fa k hk)
  have fc : ∀ k, k < o → cl169 k = cl k := fun k hk => (g171 (k) (by omega)).trans (fc k hk)
  refine g_putF X w (o) a173 (by omega) c174 kc7 12 (by decide) rfl rfl k_RX7_71 rfl hin rfl rfl (Nat.le_of_ble_eq_true rfl) dX7_init_119 (fun H locs w => ?_)
  have w : Wd D A s H locs (o + 81) ad168 (va_up cl169 (o) (.inr (7, [.ref (p0), .ref (p1), .ref (p2), .ref (p3), .ref (p4), .ref (q21), .ref (q43), .ref (p5), .ref (q69), .ref (q91), .ref (q113), .ref (q135), .ref (q157), .null, .null, .null, .int (0), .int (0), .int (0)]))) := w
  generalize e176 : va_up cl169 (o) (.inr (7, [.ref (p0), .ref (p1), .ref (p2), .ref (p3), .ref (p4), .ref (q21), .ref (q43), .ref (p5), .ref (q69), .ref (q91), .ref (q113), .ref (q135), .ref (q157), .null, .null, .null, .int (0), .int (0), .int (0)])) = cl175 at w
  have g177 : ∀ k, k ≠ o → cl175 k = cl169 k := fun k hk => by rw [← e176, va_up_ne _ _ hk]
  have c178 : cl175 (o) = .inr (7, [.ref (p0), .ref (p1), .ref (p2), .ref (p3), .ref (p4), .ref (q21), .ref (q43), .ref (p5), .ref (q69), .ref (q91), .ref (q113), .ref (q135), .ref (q157), .null, .null, .null, .int (0), .int (0), .int (0)]) := by rw [← e176, va_up_self]
  have fc : ∀ k, k < o → cl175 k = cl k := fun k hk => (g177 (k) (by omega)).trans (fc k hk)
  refine lv_aload_n hx hb dX7_init_122 rfl (lv_at hl 0 rfl) ?_
  refine g_new X w kc5 k_RX7_59 wt_5 wi_5 bl_5 (Nat.le_of_ble_eq_true rfl) (Nat.le_of_ble_eq_true rfl) dX7_init_123 (fun q179 H w => ?_)
  generalize e182 : va_up ad168 (o + 81) q179 = ad180 at w
  generalize e183 : va_up cl175 (o + 81) (.inr (5, [.null, .int 0])) = cl181 at w
  have g184 : ∀ k, k < o + 81 → ad180 k = ad168 k := fun k hk => by rw [← e182, va_up_ne _ _ (by omega)]
  have g185 : ∀ k, k < o + 81 → cl181 k = cl175 k := fun k hk => by rw [← e183, va_up_ne _ _ (by omega)]
  have a186 : ad180 (o) = ad (o) := (g184 (o) (by omega)).trans a173
  have c187 : cl181 (o) = .inr (7, [.ref (p0), .ref (p1), .ref (p2), .ref (p3), .ref (p4), .ref (q21), .ref (q43), .ref (p5), .ref (q69), .ref (q91), .ref (q113), .ref (q135), .ref (q157), .null, .null, .null, .int (0), .int (0), .int (0)]) := (g185 (o) (by omega)).trans c178
  have fa : ∀ k, k < o + 1 → ad180 k = ad k := fun k hk => (g184 (k) (by omega)).trans (fa k hk)
  have fc : ∀ k, k < o → cl181 k = cl k := fun k hk => (g185 (k) (by omega)).trans (fc k hk)
  have a188 : ad180 (o + 81) = q179 := by rw [← e182, va_up_self]
  have c189 : cl181 (o + 81) = .inr (5, [.null, .int 0]) := by rw [← e183, va_up_self]
  refine lv_dup hx hb dX7_init_126 rfl ?_
  refine c_init (As := []) (rest := [.ref (q179), .ref (ad (o))]) X w (cn_5 l D G t (o + 82) ad180 cl181 (o + 81) rfl c189 (d - 1) (by omega)) YX5_init k_RX7_61 (by rw [a188]) rfl rfl hl.1 (rm_call (by omega) (by decide)) (Nat.le_of_ble_eq_true rfl) dX7_init_127 (⟨Nat.le_of_ble_eq_true rfl, Nat.le_of_ble_eq_true rfl⟩) (fun u H locs hp w => ?_)
  obtain ⟨ad190, cl191, rfl, g192, g193, b194⟩ := hp
  have w : Wd D A s H locs (o + 83) ad190 cl191 := w
  have b194 : Blk cl191 (o + 81) (bX5 G ad190 (o + 81)) := b194
  have a195 : ad190 (o) = ad (o) := (g192 (o) (by omega)).trans a186
  have c196 : cl191 (o) = .inr (7, [.ref (p0), .ref (p1), .ref (p2), .ref (p3), .ref (p4), .ref (q21), .ref (q43), .ref (p5), .ref (q69), .ref (q91), .ref (q113), .ref (q135), .ref (q157), .null, .null, .null, .int (0), .int (0), .int (0)]) := (g193 (o) (by omega)).trans c187
  have fa : ∀ k, k < o + 1 → ad190 k = ad k := fun k hk => (g192 (k) (by omega)).trans (fa k hk)
  have fc : ∀ k, k < o → cl191 k = cl k := fun k hk => (g193 (k) (by omega)).trans (fc k hk)
  refine g_putF X w (o) a195 (by omega) c196 kc7 13 (by decide) rfl rfl k_RX7_74 rfl hin rfl rfl (Nat.le_of_ble_eq_true rfl) dX7_init_130 (fun H locs w => ?_)
  have w : Wd D A s H locs (o + 83) ad190 (va_up cl191 (o) (.inr (7, [.ref (p0), .ref (p1), .ref (p2), .ref (p3), .ref (p4), .ref (q21), .ref (q43), .ref (p5), .ref (q69), .ref (q91), .ref (q113), .ref (q135), .ref (q157), .ref (q179), .null, .null, .int (0), .int (0), .int (0)]))) := w
  generalize e198 : va_up cl191 (o) (.inr (7, [.ref (p0), .ref (p1), .ref (p2), .ref (p3), .ref (p4), .ref (q21), .ref (q43), .ref (p5), .ref (q69), .ref (q91), .ref (q113), .ref (q135), .ref (q157), .ref (q179), .null, .null, .int (0), .int (0), .int (0)])) = cl197 at w
  have g199 : ∀ k, k ≠ o → cl197 k = cl191 k := fun k hk => by rw [← e198, va_up_ne _ _ hk]
  have c200 : cl197 (o) = .inr (7, [.ref (p0), .ref (p1), .ref (p2), .ref (p3), .ref (p4), .ref (q21), .ref (q43), .ref (p5), .ref (q69), .ref (q91), .ref (q113), .ref (q135), .ref (q157), .ref (q179), .null, .null, .int (0), .int (0), .int (0)]) := by rw [← e198, va_up_self]
  have fc : ∀ k, k < o → cl197 k = cl k := fun k hk => (g199 (k) (by omega)).trans (fc k hk)
  refine lv_aload_n hx hb dX7_init_133 rfl (lv_at hl 0 rfl) ?_
  refine lv_iconst (v := 4) hx hb dX7_init_134 (by decide) ?_
  refine g_newI X w wa_I (n := 4) (by decide) (by decide) (by decide) (Nat.le_of_ble_eq_true rfl) (Nat.le_of_ble_eq_true rfl) dX7_init_135 (fun q201 H w => ?_)
  generalize e204 : va_up ad190 (o + 83) q201 = ad202 at w
  generalize e205 : va_up cl197 (o + 83) (.inl (G 0, 4, .inl (fun _ => 0))) = cl203 at w
  have g206 : ∀ k, k < o + 83 → ad202 k = ad190 k := fun k hk => by rw [← e204, va_up_ne _ _ (by omega)]
  have g207 : ∀ k, k < o + 83 → cl203 k = cl197 k := fun k hk => by rw [← e205, va_up_ne _ _ (by omega)]
  have a208 : ad202 (o) = ad (o) := (g206 (o) (by omega)).trans a195
  have c209 : cl203 (o) = .inr (7, [.ref (p0), .ref (p1), .ref (p2), .ref (p3), .ref (p4), .ref (q21), .ref (q43), .ref (p5), .ref (q69), .ref (q91), .ref (q113), .ref (q135), .ref (q157), .ref (q179), .null, .null, .int (0), .int (0), .int (0)]) := (g207 (o) (by omega)).trans c200
  have fa : ∀ k, k < o + 1 → ad202 k = ad k := fun k hk => (g206 (k) (by omega)).trans (fa k hk)
  have fc : ∀ k, k < o → cl203 k = cl k := fun k hk => (g207 (k) (by omega)).trans (fc k hk)
  have a210 : ad202 (o + 83) = q201 := by rw [← e204, va_up_self]
  have b211 : Blk cl203 (o + 83) [.inl (G 0, 4, .inl (fun _ => 0))] := Blk.cons (by rw [← e205, va_up_self]) Blk.nil
  refine g_putF X w (o) a208 (by omega) c209 kc7 14 (by decide) rfl rfl k_RX7_77 rfl hin rfl rfl (Nat.le_of_ble_eq_true rfl) dX7_init_137 (fun H locs w => ?_)
  have w : Wd D A s H locs (o + 84) ad202 (va_up cl203 (o) (.inr (7, [.ref (p0), .ref (p1), .ref (p2), .ref (p3), .ref (p4), .ref (q21), .ref (q43), .ref (p5), .ref (q69), .ref (q91), .ref (q113), .ref (q135), .ref (q157), .ref (q179), .ref (q201), .null, .int (0), .int (0), .int (0)]))) := w
  generalize e213 : va_up cl203 (o) (.inr (7, [.ref (p0), .ref (p1), .ref (p2), .ref (p3), .ref (p4), .ref (q21), .ref (q43), .ref (p5), .ref (q69), .ref (q91), .ref (q113), .ref (q135), .ref (q157), .ref (q179), .ref (q201), .null, .int (0), .int (0), .int (0)])) = cl212 at w
  have g214 : ∀ k, k ≠ o → cl212 k = cl203 k := fun k hk => by rw [← e213, va_up_ne _ _ hk]
  have c215 : cl212 (o) = .inr (7, [.ref (p0), .ref (p1), .ref (p2), .ref (p3), .ref (p4), .ref (q21), .ref (q43), .ref (p5), .ref (q69), .ref (q91), .ref (q113), .ref (q135), .ref (q157), .ref (q179), .ref (q201), .null, .int (0), .int (0), .int (0)]) := by rw [← e213, va_up_self]
  have fc : ∀ k, k < o → cl212 k = cl k := fun k hk => (g214 (k) (by omega)).trans (fc k hk)
  refine lv_aload_n hx hb dX7_init_140 rfl (lv_at hl 0 rfl) ?_
  refine lv_iconst (v := 3) hx hb dX7_init_141 (by decide) ?_
  refine g_newI X w wa_I (n := 3) (by decide) (by decide) (by decide) (Nat.le_of_ble_eq_true rfl) (Nat.le_of_ble_eq_true rfl) dX7_init_142 (fun q216 H w => ?_)
  generalize e219 : va_up ad202 (o + 84) q216 = ad217 at w
  generalize e220 : va_up cl212 (o + 84) (.inl (G 0, 3, .inl (fun _ => 0))) = cl218 at w
  have g221 : ∀ k, k < o + 84 → ad217 k = ad202 k := fun k hk => by rw [← e219, va_up_ne _ _ (by omega)]
  have g222 : ∀ k, k < o + 84 → cl218 k = cl212 k := fun k hk => by rw [← e220, va_up_ne _ _ (by omega)]
  have a223 : ad217 (o) = ad (o) := (g221 (o) (by omega)).trans a208
  have c224 : cl218 (o) = .inr (7, [.ref (p0), .ref (p1), .ref (p2), .ref (p3), .ref (p4), .ref (q21), .ref (q43), .ref (p5), .ref (q69), .ref (q91), .ref (q113), .ref (q135), .ref (q157), .ref (q179), .ref (q201), .null, .int (0), .int (0), .int (0)]) := (g222 (o) (by omega)).trans c215
  have fa : ∀ k, k < o + 1 → ad217 k = ad k := fun k hk => (g221 (k) (by omega)).trans (fa k hk)
  have fc : ∀ k, k < o → cl218 k = cl k := fun k hk => (g222 (k) (by omega)).trans (fc k hk)
  have a225 : ad217 (o + 84) = q216 := by rw [← e219, va_up_self]
  have b226 : Blk cl218 (o + 84) [.inl (G 0, 3, .inl (fun _ => 0))] := Blk.cons (by rw [← e220, va_up_self]) Blk.nil
  refine g_putF X w (o) a223 (by omega) c224 kc7 15 (by decide) rfl rfl k_RX7_81 rfl hin rfl rfl (Nat.le_of_ble_eq_true rfl) dX7_init_144 (fun H locs w => ?_)
  have w : Wd D A s H locs (o + 85) ad217 (va_up cl218 (o) (.inr (7, [.ref (p0), .ref (p1), .ref (p2), .ref (p3), .ref (p4), .ref (q21), .ref (q43), .ref (p5), .ref (q69), .ref (q91), .ref (q113), .ref (q135), .ref (q157), .ref (q179), .ref (q201), .ref (q216), .int (0), .int (0), .int (0)]))) := w
  generalize e228 : va_up cl218 (o) (.inr (7, [.ref (p0), .ref (p1), .ref (p2), .ref (p3), .ref (p4), .ref (q21), .ref (q43), .ref (p5), .ref (q69), .ref (q91), .ref (q113), .ref (q135), .ref (q157), .ref (q179), .ref (q201), .ref (q216), .int (0), .int (0), .int (0)])) = cl227 at w
  have g229 : ∀ k, k ≠ o → cl227 k = cl218 k := fun k hk => by rw [← e228, va_up_ne _ _ hk]
  have c230 : cl227 (o) = .inr (7, [.ref (p0), .ref (p1), .ref (p2), .ref (p3), .ref (p4), .ref (q21), .ref (q43), .ref (p5), .ref (q69), .ref (q91), .ref (q113), .ref (q135), .ref (q157), .ref (q179), .ref (q201), .ref (q216), .int (0), .int (0), .int (0)]) := by rw [← e228, va_up_self]
  have fc : ∀ k, k < o → cl227 k = cl k := fun k hk => (g229 (k) (by omega)).trans (fc k hk)
  have FA34 : ∀ k, k < o + 85 → ad217 k = ad217 k := fun _ _ => rfl
  have FC34 : ∀ k, k ≠ o → k ≠ o → k < o + 85 → cl227 k = cl227 k := fun _ _ _ _ => rfl
  have FA33 : ∀ k, k < o + 85 → ad217 k = ad217 k := fun k hk => FA34 k (by omega)
  have FC33 : ∀ k, k ≠ o → k ≠ o → k < o + 85 → cl227 k = cl218 k := fun k h0 h9 hk => (FC34 k h0 h9 (by omega)).trans (g229 k h0)
  have FA32 : ∀ k, k < o + 84 → ad217 k = ad202 k := fun k hk => (FA33 k (by omega)).trans (g221 k (by omega))
  have FC32 : ∀ k, k ≠ o → k ≠ o → k < o + 84 → cl227 k = cl212 k := fun k h0 h9 hk => (FC33 k h0 h9 (by omega)).trans (g222 k (by omega))
  have FA31 : ∀ k, k < o + 84 → ad217 k = ad202 k := fun k hk => FA32 k (by omega)
  have FC31 : ∀ k, k ≠ o → k ≠ o → k < o + 84 → cl227 k = cl203 k := fun k h0 h9 hk => (FC32 k h0 h9 (by omega)).trans (g214 k h0)
  have FA30 : ∀ k, k < o + 83 → ad217 k = ad190 k := fun k hk => (FA31 k (by omega)).trans (g206 k (by omega))
  have FC30 : ∀ k, k ≠ o → k ≠ o → k < o + 83 → cl227 k = cl197 k := fun k h0 h9 hk => (FC31 k h0 h9 (by omega)).trans (g207 k (by omega))
  have FA29 : ∀ k, k < o + 83 → ad217 k = ad190 k := fun k hk => FA30 k (by omega)
  have FC29 : ∀ k, k ≠ o → k ≠ o → k < o + 83 → cl227 k = cl191 k := fun k h0 h9 hk => (FC30 k h0 h9 (by omega)).trans (g199 k h0)
  have FA28 : ∀ k, k < o + 82 → ad217 k = ad180 k := fun k hk => (FA29 k (by omega)).trans (g192 k (by omega))
  have FC28 : ∀ k, k ≠ o → k ≠ o → k < o + 81 → cl227 k = cl181 k := fun k h0 h9 hk => (FC29 k h0 h9 (by omega)).trans (g193 k (by omega))
  have FA27 : ∀ k, k < o + 81 → ad217 k = ad168 k := fun k hk => (FA28 k (by omega)).trans (g184 k (by omega))
  have FC27 : ∀ k, k ≠ o → k ≠ o → k < o + 81 → cl227 k = cl175 k := fun k h0 h9 hk => (FC28 k h0 h9 (by omega)).trans (g185 k (by omega))
  have FA26 : ∀ k, k < o + 81 → ad217 k = ad168 k := fun k hk => FA27 k (by omega)
  have FC26 : ∀ k, k ≠ o → k ≠ o → k < o + 81 → cl227 k = cl169 k := fun k h0 h9 hk => (FC27 k h0 h9 (by omega)).trans (g177 k h0)
  have FA25 : ∀ k, k < o + 80 → ad217 k = ad158 k := fun k hk => (FA26 k (by omega)).trans (g170 k (by omega))
  have FC25 : ∀ k, k ≠ o → k ≠ o → k < o + 79 → cl227 k = cl159 k := fun k h0 h9 hk => (FC26 k h0 h9 (by omega)).trans (g171 k (by omega))
  have FA24 : ∀ k, k < o + 79 → ad217 k = ad146 k := fun k hk => (FA25 k (by omega)).trans (g162 k (by omega))
  have FC24 : ∀ k, k ≠ o → k ≠ o → k < o + 79 → cl227 k = cl153 k := fun k h0 h9 hk => (FC25 k h0 h9 (by omega)).trans (g163 k (by omega))
  have FA23 : ∀ k, k < o + 79 → ad217 k = ad146 k := fun k hk => FA24 k (by omega)
  have FC23 : ∀ k, k ≠ o → k ≠ o → k < o + 79 → cl227 k = cl147 k := fun k h0 h9 hk => (FC24 k h0 h9 (by omega)).trans (g155 k h0)
  have FA22 : ∀ k, k < o + 78 → ad217 k = ad136 k := fun k hk => (FA23 k (by omega)).trans (g148 k (by omega))
  have FC22 : ∀ k, k ≠ o → k ≠ o → k < o + 77 → cl227 k = cl137 k := fun k h0 h9 hk => (FC23 k h0 h9 (by omega)).trans (g149 k (by omega))
  have FA21 : ∀ k, k < o + 77 → ad217 k = ad124 k := fun k hk => (FA22 k (by omega)).trans (g140 k (by omega))
  have FC21 : ∀ k, k ≠ o → k ≠ o → k < o + 77 → cl227 k = cl131 k := fun k h0 h9 hk => (FC22 k h0 h9 (by omega)).trans (g141 k (by omega))
  have FA20 : ∀ k, k < o + 77 → ad217 k = ad124 k := fun k hk => FA21 k (by omega)
  have FC20 : ∀ k, k ≠ o → k ≠ o → k < o + 77 → cl227 k = cl125 k := fun k h0 h9 hk => (FC21 k h0 h9 (by omega)).trans (g133 k h0)
  have FA19 : ∀ k, k < o + 76 → ad217 k = ad114 k := fun k hk => (FA20 k (by omega)).trans (g126 k (by omega))
  have FC19 : ∀ k, k ≠ o → k ≠ o → k < o + 75 → cl227 k = cl115 k := fun k h0 h9 hk => (FC20 k h0 h9 (by omega)).trans (g127 k (by omega))
  have FA18 : ∀ k, k < o + 75 → ad217 k = ad102 k := fun k hk => (FA19 k (by omega)).trans (g118 k (by omega))
  have FC18 : ∀ k, k ≠ o → k ≠ o → k < o + 75 → cl227 k = cl109 k := fun k h0 h9 hk => (FC19 k h0 h9 (by omega)).trans (g119 k (by omega))
  have FA17 : ∀ k, k < o + 75 → ad217 k = ad102 k := fun k hk => FA18 k (by omega)
  have FC17 : ∀ k, k ≠ o → k ≠ o → k < o + 75 → cl227 k = cl103 k := fun k h0 h9 hk => (FC18 k h0 h9 (by omega)).trans (g111 k h0)
  have FA16 : ∀ k, k < o + 74 → ad217 k = ad92 k := fun k hk => (FA17 k (by omega)).trans (g104 k (by omega))
  have FC16 : ∀ k, k ≠ o → k ≠ o → k < o + 73 → cl227 k = cl93 k := fun k h0 h9 hk => (FC17 k h0 h9 (by omega)).trans (g105 k (by omega))
  have FA15 : ∀ k, k < o + 73 → ad217 k = ad80 k := fun k hk => (FA16 k (by omega)).trans (g96 k (by omega))
  have FC15 : ∀ k, k ≠ o → k ≠ o → k < o + 73 → cl227 k = cl87 k := fun k h0 h9 hk => (FC16 k h0 h9 (by omega)).trans (g97 k (by omega))
  have FA14 : ∀ k, k < o + 73 → ad217 k = ad80 k := fun k hk => FA15 k (by omega)
  have FC14 : ∀ k, k ≠ o → k ≠ o → k < o + 73 → cl227 k = cl81 k := fun k h0 h9 hk => (FC15 k h0 h9 (by omega)).trans (g89 k h0)
  have FA13 : ∀ k, k < o + 37 → ad217 k = ad70 k := fun k hk => (FA14 k (by omega)).trans (g82 k (by omega))
  have FC13 : ∀ k, k ≠ o → k ≠ o → k < o + 36 → cl227 k = cl71 k := fun k h0 h9 hk => (FC14 k h0 h9 (by omega)).trans (g83 k (by omega))
  have FA12 : ∀ k, k < o + 36 → ad217 k = ad54 k := fun k hk => (FA13 k (by omega)).trans (g74 k (by omega))
  have FC12 : ∀ k, k ≠ o → k ≠ o → k < o + 36 → cl227 k = cl65 k := fun k h0 h9 hk => (FC13 k h0 h9 (by omega)).trans (g75 k (by omega))
  have FA11 : ∀ k, k < o + 36 → ad217 k = ad54 k := fun k hk => FA12 k (by omega)
  have FC11 : ∀ k, k ≠ o → k ≠ o → k < o + 36 → cl227 k = cl61 k := fun k h0 h9 hk => (FC12 k h0 h9 (by omega)).trans (g67 k h0)
  have FA10 : ∀ k, k < o + 36 → ad217 k = ad54 k := fun k hk => FA11 k (by omega)
  have FC10 : ∀ k, k ≠ o → k ≠ o → k < o + 36 → cl227 k = cl55 k := fun k h0 h9 hk => (FC11 k h0 h9 (by omega)).trans (g63 k h0)
  have FA9 : ∀ k, k < o + 24 → ad217 k = ad44 k := fun k hk => (FA10 k (by omega)).trans (g56 k (by omega))
  have FC9 : ∀ k, k ≠ o → k ≠ o → k < o + 23 → cl227 k = cl45 k := fun k h0 h9 hk => (FC10 k h0 h9 (by omega)).trans (g57 k (by omega))
  have FA8 : ∀ k, k < o + 23 → ad217 k = ad32 k := fun k hk => (FA9 k (by omega)).trans (g48 k (by omega))
  have FC8 : ∀ k, k ≠ o → k ≠ o → k < o + 23 → cl227 k = cl39 k := fun k h0 h9 hk => (FC9 k h0 h9 (by omega)).trans (g49 k (by omega))
  have FA7 : ∀ k, k < o + 23 → ad217 k = ad32 k := fun k hk => FA8 k (by omega)
  have FC7 : ∀ k, k ≠ o → k ≠ o → k < o + 23 → cl227 k = cl33 k := fun k h0 h9 hk => (FC8 k h0 h9 (by omega)).trans (g41 k h0)
  have FA6 : ∀ k, k < o + 2 → ad217 k = ad22 k := fun k hk => (FA7 k (by omega)).trans (g34 k (by omega))
  have FC6 : ∀ k, k ≠ o → k ≠ o → k < o + 1 → cl227 k = cl23 k := fun k h0 h9 hk => (FC7 k h0 h9 (by omega)).trans (g35 k (by omega))
  have FA5 : ∀ k, k < o + 1 → ad217 k = ad k := fun k hk => (FA6 k (by omega)).trans (g26 k (by omega))
  have FC5 : ∀ k, k ≠ o → k ≠ o → k < o + 1 → cl227 k = cl17 k := fun k h0 h9 hk => (FC6 k h0 h9 (by omega)).trans (g27 k (by omega))
  have FA4 : ∀ k, k < o + 1 → ad217 k = ad k := fun k hk => FA5 k (by omega)
  have FC4 : ∀ k, k ≠ o → k ≠ o → k < o + 1 → cl227 k = cl13 k := fun k h0 h9 hk => (FC5 k h0 h9 (by omega)).trans (g19 k h0)
  have FA3 : ∀ k, k < o + 1 → ad217 k = ad k := fun k hk => FA4 k (by omega)
  have FC3 : ∀ k, k ≠ o → k ≠ o → k < o + 1 → cl227 k = cl9 k := fun k h0 h9 hk => (FC4 k h0 h9 (by omega)).trans (g15 k h0)
  have FA2 : ∀ k, k < o + 1 → ad217 k = ad k := fun k hk => FA3 k (by omega)
  have FC2 : ∀ k, k ≠ o → k ≠ o → k < o + 1 → cl227 k = cl5 k := fun k h0 h9 hk => (FC3 k h0 h9 (by omega)).trans (g11 k h0)
  have FA1 : ∀ k, k < o + 1 → ad217 k = ad k := fun k hk => FA2 k (by omega)
  have FC1 : ∀ k, k ≠ o → k ≠ o → k < o + 1 → cl227 k = cl1 k := fun k h0 h9 hk => (FC2 k h0 h9 (by omega)).trans (g7 k h0)
  have FA0 : ∀ k, k < o + 1 → ad217 k = ad k := fun k hk => FA1 k (by omega)
  have FC0 : ∀ k, k ≠ o → k ≠ o → k < o + 1 → cl227 k = cl k := fun k h0 h9 hk => (FC1 k h0 h9 (by omega)).trans (g3 k h0)
  have b231 : Blk cl227 (o + 1) (bX1 G ad217 (o + 1) (p1)) := by rw [cg1 (n := 22) (Nat.le_refl _) (fun k h1 h2 => FA7 k (by omega))]; exact b36.tr (n := 22) (Nat.le_of_eq ln1) (fun k h1 h2 => FC7 k (by omega) (by omega) (by omega))
  have b232 : Blk cl227 (o + 23) (bX9 G ad217 (o + 23) (p1) (p4) (q21)) := by rw [cg9 (n := 13) (Nat.le_refl _) (fun k h1 h2 => FA10 k (by omega))]; exact b58.tr (n := 13) (Nat.le_of_eq ln9) (fun k h1 h2 => FC10 k (by omega) (by omega) (by omega))
  have b233 : Blk cl227 (o + 36) (bX2 G ad217 (o + 36)) := by rw [cg2 (n := 37) (Nat.le_refl _) (fun k h1 h2 => FA14 k (by omega))]; exact b84.tr (n := 37) (Nat.le_of_eq ln2) (fun k h1 h2 => FC14 k (by omega) (by omega) (by omega))
  have b234 : Blk cl227 (o + 73) (bX5 G ad217 (o + 73)) := by rw [cg5 (n := 2) (Nat.le_refl _) (fun k h1 h2 => FA17 k (by omega))]; exact b106.tr (n := 2) (Nat.le_of_eq ln5) (fun k h1 h2 => FC17 k (by omega) (by omega) (by omega))
  have b235 : Blk cl227 (o + 75) (bX5 G ad217 (o + 75)) := by rw [cg5 (n := 2) (Nat.le_refl _) (fun k h1 h2 => FA20 k (by omega))]; exact b128.tr (n := 2) (Nat.le_of_eq ln5) (fun k h1 h2 => FC20 k (by omega) (by omega) (by omega))
  have b236 : Blk cl227 (o + 77) (bX5 G ad217 (o + 77)) := by rw [cg5 (n := 2) (Nat.le_refl _) (fun k h1 h2 => FA23 k (by omega))]; exact b150.tr (n := 2) (Nat.le_of_eq ln5) (fun k h1 h2 => FC23 k (by omega) (by omega) (by omega))
  have b237 : Blk cl227 (o + 79) (bX5 G ad217 (o + 79)) := by rw [cg5 (n := 2) (Nat.le_refl _) (fun k h1 h2 => FA26 k (by omega))]; exact b172.tr (n := 2) (Nat.le_of_eq ln5) (fun k h1 h2 => FC26 k (by omega) (by omega) (by omega))
  have b238 : Blk cl227 (o + 81) (bX5 G ad217 (o + 81)) := by rw [cg5 (n := 2) (Nat.le_refl _) (fun k h1 h2 => FA29 k (by omega))]; exact b194.tr (n := 2) (Nat.le_of_eq ln5) (fun k h1 h2 => FC29 k (by omega) (by omega) (by omega))
  have b239 : Blk cl227 (o + 83) ([.inl (G 0, 4, .inl (fun _ => 0))]) := b211.tr (n := 1) (Nat.le_refl _) (fun k h1 h2 => FC31 k (by omega) (by omega) (by omega))
  have b240 : Blk cl227 (o + 84) ([.inl (G 0, 3, .inl (fun _ => 0))]) := b226.tr (n := 1) (Nat.le_refl _) (fun k h1 h2 => FC33 k (by omega) (by omega) (by omega))
  have z241 : ad217 (o + 1) = q21 := (FA6 (o + 1) (by omega)).trans a30
  have z242 : ad217 (o + 23) = q43 := (FA9 (o + 23) (by omega)).trans a52
  have z243 : ad217 (o + 36) = q69 := (FA13 (o + 36) (by omega)).trans a78
  have z244 : ad217 (o + 73) = q91 := (FA16 (o + 73) (by omega)).trans a100
  have z245 : ad217 (o + 75) = q113 := (FA19 (o + 75) (by omega)).trans a122
  have z246 : ad217 (o + 77) = q135 := (FA22 (o + 77) (by omega)).trans a144
  have z247 : ad217 (o + 79) = q157 := (FA25 (o + 79) (by omega)).trans a166
  have z248 : ad217 (o + 81) = q179 := (FA28 (o + 81) (by omega)).trans a188
  have z249 : ad217 (o + 83) = q201 := (FA31 (o + 83) (by omega)).trans a210
  have z250 : ad217 (o + 84) = q216 := (FA33 (o + 84) (by omega)).trans a225
  refine e_V X hr w ⟨ad217, cl227, rfl, fa, fc, ?_⟩ (Nat.le_of_ble_eq_true rfl) (Nat.le_of_ble_eq_true rfl) dX7_init_147
  unfold bX7
  rw [z241, z242, z243, z244, z245, z246, z247, z248, z249, z250]
  refine Blk.cons ?_ (b231.app (by rw [ln1]) (b232.app (by rw [ln9]) (b233.app (by rw [ln2]) (b234.app (by rw [ln5]) (b235.app (by rw [ln5]) (b236.app (by rw [ln5]) (b237.app (by rw [ln5]) (b238.app (by rw [ln5]) (b239.app (rfl) (b240))))))))))
  rw [c230]
abbrev cX11_init : ByteArray := prog_1_method_1_code
def yX11_init : MethodName := ⟨RX11, "<init>", "()V"⟩
theorem wcX11_init : Cond.code yX11_init cX11_init 2 none ∈ tb := tb_1 (i := 30) rfl rfl
theorem wi_11 : Cond.initialized RX11 ∈ tb := tb_1 (i := 1) (by decide +kernel) rfl
theorem wnX11_init : Cond.instanceMethod yX11_init ∈ tb := tb_1 (i := 29) (by decide +kernel) rfl
theorem YX11_init : Yi yX11_init cX11_init 2 0 := ⟨wcX11_init, wnX11_init, wi_11, rfl, by decide +kernel, by decide +kernel, by decide +kernel⟩
theorem dX11_init_0 : decode cX11_init 0 = .ok (.aload_n 0, 1) := by decide +kernel
theorem dX11_init_1 : decode cX11_init 1 = .ok (.invokespecial 3, 3) := by decide +kernel
theorem dX11_init_4 : decode cX11_init 4 = .ok (.aload_n 0, 1) := by decide +kernel
theorem dX11_init_5 : decode cX11_init 5 = .ok (.new 9, 3) := by decide +kernel
theorem dX11_init_8 : decode cX11_init 8 = .ok (.dup, 1) := by decide +kernel
theorem dX11_init_9 : decode cX11_init 9 = .ok (.invokespecial 11, 3) := by decide +kernel
theorem dX11_init_12 : decode cX11_init 12 = .ok (.putfield 12, 3) := by decide +kernel
theorem dX11_init_15 : decode cX11_init 15 = .ok (.aload_n 0, 1) := by decide +kernel
theorem dX11_init_16 : decode cX11_init 16 = .ok (.new 9, 3) := by decide +kernel
theorem dX11_init_19 : decode cX11_init 19 = .ok (.dup, 1) := by decide +kernel
theorem dX11_init_20 : decode cX11_init 20 = .ok (.invokespecial 11, 3) := by decide +kernel
theorem dX11_init_23 : decode cX11_init 23 = .ok (.putfield 16, 3) := by decide +kernel
theorem dX11_init_26 : decode cX11_init 26 = .ok (.aload_n 0, 1) := by decide +kernel
theorem dX11_init_27 : decode cX11_init 27 = .ok (.new 9, 3) := by decide +kernel
theorem dX11_init_30 : decode cX11_init 30 = .ok (.dup, 1) := by decide +kernel
theorem dX11_init_31 : decode cX11_init 31 = .ok (.invokespecial 11, 3) := by decide +kernel
theorem dX11_init_34 : decode cX11_init 34 = .ok (.putfield 19, 3) := by decide +kernel
theorem dX11_init_37 : decode cX11_init 37 = .ok (.aload_n 0, 1) := by decide +kernel
theorem dX11_init_38 : decode cX11_init 38 = .ok (.new 9, 3) := by decide +kernel
theorem dX11_init_41 : decode cX11_init 41 = .ok (.dup, 1) := by decide +kernel
theorem dX11_init_42 : decode cX11_init 42 = .ok (.invokespecial 11, 3) := by decide +kernel
theorem dX11_init_45 : decode cX11_init 45 = .ok (.putfield 22, 3) := by decide +kernel
theorem dX11_init_48 : decode cX11_init 48 = .ok (.aload_n 0, 1) := by decide +kernel
theorem dX11_init_49 : decode cX11_init 49 = .ok (.bipush 6, 2) := by decide +kernel
theorem dX11_init_51 : decode cX11_init 51 = .ok (.anewarray 9, 3) := by decide +kernel
theorem dX11_init_54 : decode cX11_init 54 = .ok (.putfield 25, 3) := by decide +kernel
theorem dX11_init_57 : decode cX11_init 57 = .ok (.iconst 0, 1) := by decide +kernel
theorem dX11_init_58 : decode cX11_init 58 = .ok (.istore_n 1, 1) := by decide +kernel
theorem dX11_init_59 : decode cX11_init 59 = .ok (.iload_n 1, 1) := by decide +kernel
theorem dX11_init_60 : decode cX11_init 60 = .ok (.bipush 6, 2) := by decide +kernel
theorem dX11_init_62 : decode cX11_init 62 = .ok (.if_icmp .ge 22, 3) := by decide +kernel
theorem dX11_init_65 : decode cX11_init 65 = .ok (.aload_n 0, 1) := by decide +kernel
theorem dX11_init_66 : decode cX11_init 66 = .ok (.getfield 25, 3) := by decide +kernel
theorem dX11_init_69 : decode cX11_init 69 = .ok (.iload_n 1, 1) := by decide +kernel
theorem dX11_init_70 : decode cX11_init 70 = .ok (.new 9, 3) := by decide +kernel
theorem dX11_init_73 : decode cX11_init 73 = .ok (.dup, 1) := by decide +kernel
theorem dX11_init_74 : decode cX11_init 74 = .ok (.invokespecial 11, 3) := by decide +kernel
theorem dX11_init_77 : decode cX11_init 77 = .ok (.aastore, 1) := by decide +kernel
theorem dX11_init_78 : decode cX11_init 78 = .ok (.iinc 1 1, 3) := by decide +kernel
theorem dX11_init_81 : decode cX11_init 81 = .ok (.goto (-22), 3) := by decide +kernel
theorem dX11_init_84 : decode cX11_init 84 = .ok (.aload_n 0, 1) := by decide +kernel
theorem dX11_init_85 : decode cX11_init 85 = .ok (.new 29, 3) := by decide +kernel
theorem dX11_init_88 : decode cX11_init 88 = .ok (.dup, 1) := by decide +kernel
theorem dX11_init_89 : decode cX11_init 89 = .ok (.invokespecial 31, 3) := by decide +kernel
theorem dX11_init_92 : decode cX11_init 92 = .ok (.putfield 32, 3) := by decide +kernel
theorem dX11_init_95 : decode cX11_init 95 = .ok (.aload_n 0, 1) := by decide +kernel
theorem dX11_init_96 : decode cX11_init 96 = .ok (.new 36, 3) := by decide +kernel
theorem dX11_init_99 : decode cX11_init 99 = .ok (.dup, 1) := by decide +kernel
theorem dX11_init_100 : decode cX11_init 100 = .ok (.aload_n 0, 1) := by decide +kernel
theorem dX11_init_101 : decode cX11_init 101 = .ok (.getfield 32, 3) := by decide +kernel
theorem dX11_init_104 : decode cX11_init 104 = .ok (.invokespecial 38, 3) := by decide +kernel
theorem dX11_init_107 : decode cX11_init 107 = .ok (.putfield 41, 3) := by decide +kernel
theorem dX11_init_110 : decode cX11_init 110 = .ok (.new 45, 3) := by decide +kernel
theorem dX11_init_113 : decode cX11_init 113 = .ok (.dup, 1) := by decide +kernel
theorem dX11_init_114 : decode cX11_init 114 = .ok (.invokespecial 47, 3) := by decide +kernel
theorem dX11_init_117 : decode cX11_init 117 = .ok (.astore_n 1, 1) := by decide +kernel
theorem dX11_init_118 : decode cX11_init 118 = .ok (.aload_n 0, 1) := by decide +kernel
theorem dX11_init_119 : decode cX11_init 119 = .ok (.new 48, 3) := by decide +kernel
theorem dX11_init_122 : decode cX11_init 122 = .ok (.dup, 1) := by decide +kernel
theorem dX11_init_123 : decode cX11_init 123 = .ok (.aload_n 0, 1) := by decide +kernel
theorem dX11_init_124 : decode cX11_init 124 = .ok (.getfield 32, 3) := by decide +kernel
theorem dX11_init_127 : decode cX11_init 127 = .ok (.aload_n 0, 1) := by decide +kernel
theorem dX11_init_128 : decode cX11_init 128 = .ok (.getfield 41, 3) := by decide +kernel
theorem dX11_init_131 : decode cX11_init 131 = .ok (.aload_n 1, 1) := by decide +kernel
theorem dX11_init_132 : decode cX11_init 132 = .ok (.invokespecial 50, 3) := by decide +kernel
theorem dX11_init_135 : decode cX11_init 135 = .ok (.putfield 53, 3) := by decide +kernel
theorem dX11_init_138 : decode cX11_init 138 = .ok (.aload_n 0, 1) := by decide +kernel
theorem dX11_init_139 : decode cX11_init 139 = .ok (.new 57, 3) := by decide +kernel
theorem dX11_init_142 : decode cX11_init 142 = .ok (.dup, 1) := by decide +kernel
theorem dX11_init_143 : decode cX11_init 143 = .ok (.aload_n 0, 1) := by decide +kernel
theorem dX11_init_144 : decode cX11_init 144 = .ok (.getfield 41, 3) := by decide +kernel
theorem dX11_init_147 : decode cX11_init 147 = .ok (.invokespecial 59, 3) := by decide +kernel
theorem dX11_init_150 : decode cX11_init 150 = .ok (.putfield 62, 3) := by decide +kernel
theorem dX11_init_153 : decode cX11_init 153 = .ok (.aload_n 0, 1) := by decide +kernel
theorem dX11_init_154 : decode cX11_init 154 = .ok (.new 66, 3) := by decide +kernel
theorem dX11_init_157 : decode cX11_init 157 = .ok (.dup, 1) := by decide +kernel
theorem dX11_init_158 : decode cX11_init 158 = .ok (.aload_n 0, 1) := by decide +kernel
theorem dX11_init_159 : decode cX11_init 159 = .ok (.getfield 16, 3) := by decide +kernel
theorem dX11_init_162 : decode cX11_init 162 = .ok (.aload_n 0, 1) := by decide +kernel
theorem dX11_init_163 : decode cX11_init 163 = .ok (.getfield 32, 3) := by decide +kernel
theorem dX11_init_166 : decode cX11_init 166 = .ok (.aload_n 0, 1) := by decide +kernel
theorem dX11_init_167 : decode cX11_init 167 = .ok (.getfield 41, 3) := by decide +kernel
theorem dX11_init_170 : decode cX11_init 170 = .ok (.aload_n 0, 1) := by decide +kernel
theorem dX11_init_171 : decode cX11_init 171 = .ok (.getfield 53, 3) := by decide +kernel
theorem dX11_init_174 : decode cX11_init 174 = .ok (.aload_n 0, 1) := by decide +kernel
theorem dX11_init_175 : decode cX11_init 175 = .ok (.getfield 62, 3) := by decide +kernel
theorem dX11_init_178 : decode cX11_init 178 = .ok (.aload_n 1, 1) := by decide +kernel
theorem dX11_init_179 : decode cX11_init 179 = .ok (.invokespecial 68, 3) := by decide +kernel
theorem dX11_init_182 : decode cX11_init 182 = .ok (.putfield 71, 3) := by decide +kernel
theorem dX11_init_185 : decode cX11_init 185 = .ok (.aload_n 0, 1) := by decide +kernel
theorem dX11_init_186 : decode cX11_init 186 = .ok (.new 75, 3) := by decide +kernel
theorem dX11_init_189 : decode cX11_init 189 = .ok (.dup, 1) := by decide +kernel
theorem dX11_init_190 : decode cX11_init 190 = .ok (.invokespecial 77, 3) := by decide +kernel
theorem dX11_init_193 : decode cX11_init 193 = .ok (.putfield 78, 3) := by decide +kernel
theorem dX11_init_196 : decode cX11_init 196 = .ok (.aload_n 0, 1) := by decide +kernel
theorem dX11_init_197 : decode cX11_init 197 = .ok (.new 75, 3) := by decide +kernel
theorem dX11_init_200 : decode cX11_init 200 = .ok (.dup, 1) := by decide +kernel
theorem dX11_init_201 : decode cX11_init 201 = .ok (.invokespecial 77, 3) := by decide +kernel
theorem dX11_init_204 : decode cX11_init 204 = .ok (.putfield 82, 3) := by decide +kernel
theorem dX11_init_207 : decode cX11_init 207 = .ok (.return_, 1) := by decide +kernel
theorem k_RX11_3 : Cond.methodLink RX11 3 ⟨"java/lang/Object", "<init>", "()V"⟩ ∈ tb := tb_1 (i := 31) (by decide +kernel) rfl
theorem k_RX11_9 : Cond.classLink RX11 9 RX5 ∈ tb := tb_1 (i := 34) (by decide +kernel) rfl
theorem k_RX11_11 : Cond.methodLink RX11 11 yX5_init ∈ tb := tb_1 (i := 36) (by decide +kernel) rfl
theorem k_RX11_12 : Cond.fieldLink RX11 12 RX11 "tape" "LTypeRoom$Row;" ∈ tb := tb_3 (i := 102) (by decide +kernel) rfl
theorem k_RX11_16 : Cond.fieldLink RX11 16 RX11 "manuscript" "LTypeRoom$Row;" ∈ tb := tb_3 (i := 103) (by decide +kernel) rfl
theorem k_RX11_19 : Cond.fieldLink RX11 19 RX11 "answer" "LTypeRoom$Row;" ∈ tb := tb_3 (i := 104) (by decide +kernel) rfl
theorem k_RX11_22 : Cond.fieldLink RX11 22 RX11 "passage" "LTypeRoom$Row;" ∈ tb := tb_3 (i := 105) (by decide +kernel) rfl
theorem k_RX11_25 : Cond.fieldLink RX11 25 RX11 "former" "[LTypeRoom$Row;" ∈ tb := tb_3 (i := 106) (by decide +kernel) rfl
theorem k_RX11_29 : Cond.classLink RX11 29 RX4 ∈ tb := tb_1 (i := 59) (by decide +kernel) rfl
theorem wt_4 : Cond.instantiable RX4 3 ∈ tb := tb_1 (i := 60) (by decide +kernel) rfl
theorem bl_4 : ∀ j, j < 3 → defaultValue (tyX4 j) = vp_V [.int 0, .int 0, .int 0] j := by decide +kernel
theorem k_RX11_31 : Cond.methodLinkNest RX11 31 yX4_init "TypeRoom" ∈ tables_1 := tn_1 (i := 61) (by decide +kernel)
theorem k_RX11_32 : Cond.fieldLink RX11 32 RX11 "purse" "LTypeRoom$Purse;" ∈ tb := tb_3 (i := 109) (by decide +kernel) rfl
theorem k_RX11_36 : Cond.classLink RX11 36 RX6 ∈ tb := tb_1 (i := 78) (by decide +kernel) rfl
theorem wt_6 : Cond.instantiable RX6 8 ∈ tb := tb_1 (i := 79) (by decide +kernel) rfl
theorem bl_6 : ∀ j, j < 8 → defaultValue (tyX6 j) = vp_V [.null, .null, .null, .null, .null, .null, .null, .null] j := by decide +kernel
theorem k_RX11_38 : Cond.methodLink RX11 38 yX6_init ∈ tb := tb_1 (i := 80) (by decide +kernel) rfl
theorem k_RX11_41 : Cond.fieldLink RX11 41 RX11 "rules" "LTypeRoom$Rules;" ∈ tb := tb_3 (i := 110) (by decide +kernel) rfl
theorem k_RX11_45 : Cond.classLink RX11 45 RX2 ∈ tb := tb_1 (i := 149) (by decide +kernel) rfl
theorem k_RX11_47 : Cond.methodLink RX11 47 yX2_init ∈ tb := tb_1 (i := 151) (by decide +kernel) rfl
theorem k_RX11_48 : Cond.classLink RX11 48 RX10 ∈ tb := tb_1 (i := 239) (by decide +kernel) rfl
theorem wt_10 : Cond.instantiable RX10 19 ∈ tb := tb_2 (i := 0) (by decide +kernel) rfl
theorem bl_10 : ∀ j, j < 19 → defaultValue (tyX10 j) = vp_V [.null, .null, .null, .null, .null, .null, .null, .null, .null, .null, .null, .null, .null, .int 0, .int 0, .int 0, .int 0, .int 0, .int 0] j := by decide +kernel
theorem k_RX11_50 : Cond.methodLink RX11 50 yX10_init ∈ tb := tb_2 (i := 1) (by decide +kernel) rfl
theorem k_RX11_53 : Cond.fieldLink RX11 53 RX11 "texts" "LTypeRoom$Texts;" ∈ tb := tb_3 (i := 111) (by decide +kernel) rfl
theorem k_RX11_57 : Cond.classLink RX11 57 RX0 ∈ tb := tb_2 (i := 71) (by decide +kernel) rfl
theorem wt_0 : Cond.instantiable RX0 13 ∈ tb := tb_2 (i := 72) (by decide +kernel) rfl
theorem bl_0 : ∀ j, j < 13 → defaultValue (tyX0 j) = vp_V [.null, .null, .null, .null, .null, .null, .null, .null, .null, .int 0, .int 0, .int 0, .int 0] j := by decide +kernel
theorem k_RX11_59 : Cond.methodLink RX11 59 yX0_init ∈ tb := tb_2 (i := 73) (by decide +kernel) rfl
theorem k_RX11_62 : Cond.fieldLink RX11 62 RX11 "filler" "LTypeRoom$Filler;" ∈ tb := tb_3 (i := 112) (by decide +kernel) rfl
theorem k_RX11_66 : Cond.classLink RX11 66 RX7 ∈ tb := tb_2 (i := 128) (by decide +kernel) rfl
theorem wt_7 : Cond.instantiable RX7 19 ∈ tb := tb_2 (i := 129) (by decide +kernel) rfl
theorem bl_7 : ∀ j, j < 19 → defaultValue (tyX7 j) = vp_V [.null, .null, .null, .null, .null, .null, .null, .null, .null, .null, .null, .null, .null, .null, .null, .null, .int 0, .int 0, .int 0] j := by decide +kernel
theorem k_RX11_68 : Cond.methodLink RX11 68 yX7_init ∈ tb := tb_2 (i := 130) (by decide +kernel) rfl
theorem k_RX11_71 : Cond.fieldLink RX11 71 RX11 "setter" "LTypeRoom$Setter;" ∈ tb := tb_3 (i := 113) (by decide +kernel) rfl
theorem k_RX11_75 : Cond.classLink RX11 75 RX3 ∈ tb := tb_3 (i := 62) (by decide +kernel) rfl
theorem wt_3 : Cond.instantiable RX3 8 ∈ tb := tb_3 (i := 63) (by decide +kernel) rfl
theorem bl_3 : ∀ j, j < 8 → defaultValue (tyX3 j) = vp_V [.int 0, .null, .null, .null, .null, .null, .null, .null] j := by decide +kernel
theorem k_RX11_77 : Cond.methodLink RX11 77 yX3_init ∈ tb := tb_3 (i := 64) (by decide +kernel) rfl
theorem k_RX11_78 : Cond.fieldLink RX11 78 RX11 "proof" "LTypeRoom$Proof;" ∈ tb := tb_3 (i := 114) (by decide +kernel) rfl
theorem k_RX11_82 : Cond.fieldLink RX11 82 RX11 "kept" "LTypeRoom$Proof;" ∈ tb := tb_3 (i := 115) (by decide +kernel) rfl
def bX11 (G : Nat → ClassId) (ad : Nat → Nat) (b : Nat) : List va_E := (.inr (11, [.ref (ad (b + 1)), .ref (ad (b + 3)), .ref (ad (b + 5)), .ref (ad (b + 7)), .ref (ad (b + 9)), .int (0), .int (0), .ref (ad (b + 22)), .ref (ad (b + 23)), .ref (ad (b + 86)), .ref (ad (b + 111)), .ref (ad (b + 127)), .ref (ad (b + 212)), .ref (ad (b + 229)), .int (0)])) :: (bX5 G ad (b + 1) ++ (bX5 G ad (b + 3) ++ (bX5 G ad (b + 5) ++ (bX5 G ad (b + 7) ++ ([.inl (G 4, 6, .inr (.inr (.inr (.inr (va_up (va_up (va_up (va_up (va_up (va_up (fun _ => none) (0 : Int32).toNatClampNeg (some (ad (b + 10)))) (1 : Int32).toNatClampNeg (some (ad (b + 12)))) (2 : Int32).toNatClampNeg (some (ad (b + 14)))) (3 : Int32).toNatClampNeg (some (ad (b + 16)))) (4 : Int32).toNatClampNeg (some (ad (b + 18)))) (5 : Int32).toNatClampNeg (some (ad (b + 20))))))))] ++ (bX5 G ad (b + 10) ++ (bX5 G ad (b + 12) ++ (bX5 G ad (b + 14) ++ (bX5 G ad (b + 16) ++ (bX5 G ad (b + 18) ++ (bX5 G ad (b + 20) ++ (bX4 G ad (b + 22) ++ (bX6 G ad (b + 23) (ad (b + 22)) ++ (bX2 G ad (b + 49) ++ (bX10 G ad (b + 86) (ad (b + 22)) (ad (b + 23)) (ad (b + 49)) ++ (bX0 G ad (b + 111) (ad (b + 23)) ++ (bX7 G ad (b + 127) (ad (b + 3)) (ad (b + 22)) (ad (b + 23)) (ad (b + 86)) (ad (b + 111)) (ad (b + 49)) ++ (bX3 G ad (b + 212) ++ (bX3 G ad (b + 229))))))))))))))))))))
theorem cg11 {G : Nat → ClassId} {ad ad' : Nat → Nat} {b n : Nat} (hn : 246 ≤ n) (h : ∀ k, k < b + n → b ≤ k → ad' k = ad k) : bX11 G ad' b = bX11 G ad b := by
  simp only [bX11, h (b + 1) (by omega) (by omega), h (b + 3) (by omega) (by omega), h (b + 5) (by omega) (by omega), h (b + 7) (by omega) (by omega), h (b + 9) (by omega) (by omega), h (b + 10) (by omega) (by omega), h (b + 12) (by omega) (by omega), h (b + 14) (by omega) (by omega), h (b + 16) (by omega) (by omega), h (b + 18) (by omega) (by omega), h (b + 20) (by omega) (by omega), h (b + 22) (by omega) (by omega), h (b + 23) (by omega) (by omega), h (b + 49) (by omega) (by omega), h (b + 86) (by omega) (by omega), h (b + 111) (by omega) (by omega), h (b + 127) (by omega) (by omega), h (b + 212) (by omega) (by omega), h (b + 229) (by omega) (by omega), cg5 (b := b + 1) (n := 2) (Nat.le_refl _) (fun k h1 h2 => h k (by omega) (by omega)), cg5 (b := b + 3) (n := 2) (Nat.le_refl _) (fun k h1 h2 => h k (by omega) (by omega)), cg5 (b := b + 5) (n := 2) (Nat.le_refl _) (fun k h1 h2 => h k (by omega) (by omega)), cg5 (b := b + 7) (n := 2) (Nat.le_refl _) (fun k h1 h2 => h k (by omega) (by omega)), cg5 (b := b + 10) (n := 2) (Nat.le_refl _) (fun k h1 h2 => h k (by omega) (by omega)), cg5 (b := b + 12) (n := 2) (Nat.le_refl _) (fun k h1 h2 => h k (by omega) (by omega)), cg5 (b := b + 14) (n := 2) (Nat.le_refl _) (fun k h1 h2 => h k (by omega) (by omega)), cg5 (b := b + 16) (n := 2) (Nat.le_refl _) (fun k h1 h2 => h k (by omega) (by omega)), cg5 (b := b + 18) (n := 2) (Nat.le_refl _) (fun k h1 h2 => h k (by omega) (by omega)), cg5 (b := b + 20) (n := 2) (Nat.le_refl _) (fun k h1 h2 => h k (by omega) (by omega)), cg4 (b := b + 22) (n := 1) (Nat.le_refl _) (fun k h1 h2 => h k (by omega) (by omega)), cg6 (b := b + 23) (n := 26) (Nat.le_refl _) (fun k h1 h2 => h k (by omega) (by omega)), cg2 (b := b + 49) (n := 37) (Nat.le_refl _) (fun k h1 h2 => h k (by omega) (by omega)), cg10 (b := b + 86) (n := 25) (Nat.le_refl _) (fun k h1 h2 => h k (by omega) (by omega)), cg0 (b := b + 111) (n := 16) (Nat.le_refl _) (fun k h1 h2 => h k (by omega) (by omega)), cg7 (b := b + 127) (n := 85) (Nat.le_refl _) (fun k h1 h2 => h k (by omega) (by omega)), cg3 (b := b + 212) (n := 17) (Nat.le_refl _) (fun k h1 h2 => h k (by omega) (by omega)), cg3 (b := b + 229) (n := 17) (Nat.le_refl _) (fun k h1 h2 => h k (by omega) (by omega))]
theorem ln11 {G : Nat → ClassId} {ad : Nat → Nat} {b : Nat} : (bX11 G ad b).length = 246 := by
  simp only [bX11, List.length_cons, List.length_append, List.length_nil, ln0, ln2, ln3, ln4, ln5, ln6, ln7, ln10]
set_option maxHeartbeats 4000000 in
set_option maxRecDepth 100000 in
theorem cn_11 (l : Launch) (D : va_G) (G : Nat → ClassId) (t : Nat → Nat) (N : Nat) (ad : Nat → Nat) (cl : Nat → va_E) (o : Nat) (hiN : o + 1 = N) (hc0 : cl o = .inr (11, [.null, .null, .null, .null, .null, .int 0, .int 0, .null, .null, .null, .null, .null, .null, .null, .int 0])) (d : Nat) (hd : 5 ≤ d) : CtV l yX11_init cX11_init 2 (rmD d 245 2142) D G t (N, ad, cl) [.ref (ad o)] (fun u => ∃ ad' cl', u = (o + 246, ad', cl') ∧ (∀ k, k < o + 1 → ad' k = ad k) ∧ (∀ k, k < o → cl' k = cl k) ∧ Blk cl' o (bX11 G ad' o)) := by
  subst hiN
  refine ct_V (own := RX11) (by decide +kernel) rfl (Nat.le_of_ble_eq_true rfl) rfl ?_
  intro p e s m args below meth c A ls X hr hin hl w
  obtain ⟨hx, hb, hml, hown, hts, -⟩ := id X
  have hl : lv_has ls 2 [(0, .ref (ad (o)))] := hl
  have fa : ∀ k, k < o + 1 → ad k = ad k := fun _ _ => rfl
  have fc : ∀ k, k < o → cl k = cl k := fun _ _ => rfl
  refine lv_aload_n hx hb dX11_init_0 rfl (lv_at hl 0 rfl) ?_
  refine g_oinit X hl.1 k_RX11_3 dX11_init_1 (by decide) ⟨by show 1 ≤ d; omega, rm_loc (by omega) (by decide)⟩ ?_
  refine lv_aload_n hx hb dX11_init_4 rfl (lv_at hl 0 rfl) ?_
  refine g_new X w kc5 k_RX11_9 wt_5 wi_5 bl_5 (Nat.le_of_ble_eq_true rfl) (Nat.le_of_ble_eq_true rfl) dX11_init_5 (fun q1 H w => ?_)
  generalize e4 : va_up ad (o + 1) q1 = ad2 at w
  generalize e5 : va_up cl (o + 1) (.inr (5, [.null, .int 0])) = cl3 at w
  have g6 : ∀ k, k < o + 1 → ad2 k = ad k := fun k hk => by rw [← e4, va_up_ne _ _ (by omega)]
  have g7 : ∀ k, k < o + 1 → cl3 k = cl k := fun k hk => by rw [← e5, va_up_ne _ _ (by omega)]
  have a8 : ad2 (o) = ad (o) := g6 (o) (by omega)
  have c9 : cl3 (o) = .inr (11, [.null, .null, .null, .null, .null, .int (0), .int (0), .null, .null, .null, .null, .null, .null, .null, .int (0)]) := (g7 (o) (by omega)).trans hc0
  have fa : ∀ k, k < o + 1 → ad2 k = ad k := fun k hk => (g6 (k) (by omega)).trans (fa k hk)
  have fc : ∀ k, k < o → cl3 k = cl k := fun k hk => (g7 (k) (by omega)).trans (fc k hk)
  have a10 : ad2 (o + 1) = q1 := by rw [← e4, va_up_self]
  have c11 : cl3 (o + 1) = .inr (5, [.null, .int 0]) := by rw [← e5, va_up_self]
  refine lv_dup hx hb dX11_init_8 rfl ?_
  refine c_init (As := []) (rest := [.ref (q1), .ref (ad (o))]) X w (cn_5 l D G t (o + 2) ad2 cl3 (o + 1) rfl c11 (d - 1) (by omega)) YX5_init k_RX11_11 (by rw [a10]) rfl rfl hl.1 (rm_call (by omega) (by decide)) (Nat.le_of_ble_eq_true rfl) dX11_init_9 (⟨Nat.le_of_ble_eq_true rfl, Nat.le_of_ble_eq_true rfl⟩) (fun u H locs hp w => ?_)
  obtain ⟨ad12, cl13, rfl, g14, g15, b16⟩ := hp
  have w : Wd D A s H locs (o + 3) ad12 cl13 := w
  have b16 : Blk cl13 (o + 1) (bX5 G ad12 (o + 1)) := b16
  have a17 : ad12 (o) = ad (o) := (g14 (o) (by omega)).trans a8
  have c18 : cl13 (o) = .inr (11, [.null, .null, .null, .null, .null, .int (0), .int (0), .null, .null, .null, .null, .null, .null, .null, .int (0)]) := (g15 (o) (by omega)).trans c9
  have fa : ∀ k, k < o + 1 → ad12 k = ad k := fun k hk => (g14 (k) (by omega)).trans (fa k hk)
  have fc : ∀ k, k < o → cl13 k = cl k := fun k hk => (g15 (k) (by omega)).trans (fc k hk)
  refine g_putF X w (o) a17 (by omega) c18 kc11 0 (by decide) rfl rfl k_RX11_12 rfl hin rfl rfl (Nat.le_of_ble_eq_true rfl) dX11_init_12 (fun H locs w => ?_)
  have w : Wd D A s H locs (o + 3) ad12 (va_up cl13 (o) (.inr (11, [.ref (q1), .null, .null, .null, .null, .int (0), .int (0), .null, .null, .null, .null, .null, .null, .null, .int (0)]))) := w
  generalize e20 : va_up cl13 (o) (.inr (11, [.ref (q1), .null, .null, .null, .null, .int (0), .int (0), .null, .null, .null, .null, .null, .null, .null, .int (0)])) = cl19 at w
  have g21 : ∀ k, k ≠ o → cl19 k = cl13 k := fun k hk => by rw [← e20, va_up_ne _ _ hk]
  have c22 : cl19 (o) = .inr (11, [.ref (q1), .null, .null, .null, .null, .int (0), .int (0), .null, .null, .null, .null, .null, .null, .null, .int (0)]) := by rw [← e20, va_up_self]
  have fc : ∀ k, k < o → cl19 k = cl k := fun k hk => (g21 (k) (by omega)).trans (fc k hk)
  refine lv_aload_n hx hb dX11_init_15 rfl (lv_at hl 0 rfl) ?_
  refine g_new X w kc5 k_RX11_9 wt_5 wi_5 bl_5 (Nat.le_of_ble_eq_true rfl) (Nat.le_of_ble_eq_true rfl) dX11_init_16 (fun q23 H w => ?_)
  generalize e26 : va_up ad12 (o + 3) q23 = ad24 at w
  generalize e27 : va_up cl19 (o + 3) (.inr (5, [.null, .int 0])) = cl25 at w
  have g28 : ∀ k, k < o + 3 → ad24 k = ad12 k := fun k hk => by rw [← e26, va_up_ne _ _ (by omega)]
  have g29 : ∀ k, k < o + 3 → cl25 k = cl19 k := fun k hk => by rw [← e27, va_up_ne _ _ (by omega)]
  have a30 : ad24 (o) = ad (o) := (g28 (o) (by omega)).trans a17
  have c31 : cl25 (o) = .inr (11, [.ref (q1), .null, .null, .null, .null, .int (0), .int (0), .null, .null, .null, .null, .null, .null, .null, .int (0)]) := (g29 (o) (by omega)).trans c22
  have fa : ∀ k, k < o + 1 → ad24 k = ad k := fun k hk => (g28 (k) (by omega)).trans (fa k hk)
  have fc : ∀ k, k < o → cl25 k = cl k := fun k hk => (g29 (k) (by omega)).trans (fc k hk)
  have a32 : ad24 (o + 3) = q23 := by rw [← e26, va_up_self]
  have c33 : cl25 (o + 3) = .inr (5, [.null, .int 0]) := by rw [← e27, va_up_self]
  refine lv_dup hx hb dX11_init_19 rfl ?_
  refine c_init (As := []) (rest := [.ref (q23), .ref (ad (o))]) X w (cn_5 l D G t (o + 4) ad24 cl25 (o + 3) rfl c33 (d - 1) (by omega)) YX5_init k_RX11_11 (by rw [a32]) rfl rfl hl.1 (rm_call (by omega) (by decide)) (Nat.le_of_ble_eq_true rfl) dX11_init_20 (⟨Nat.le_of_ble_eq_true rfl, Nat.le_of_ble_eq_true rfl⟩) (fun u H locs hp w => ?_)
  obtain ⟨ad34, cl35, rfl, g36, g37, b38⟩ := hp
  have w : Wd D A s H locs (o + 5) ad34 cl35 := w
  have b38 : Blk cl35 (o + 3) (bX5 G ad34 (o + 3)) := b38
  have a39 : ad34 (o) = ad (o) := (g36 (o) (by omega)).trans a30
  have c40 : cl35 (o) = .inr (11, [.ref (q1), .null, .null, .null, .null, .int (0), .int (0), .null, .null, .null, .null, .null, .null, .null, .int (0)]) := (g37 (o) (by omega)).trans c31
  have fa : ∀ k, k < o + 1 → ad34 k = ad k := fun k hk => (g36 (k) (by omega)).trans (fa k hk)
  have fc : ∀ k, k < o → cl35 k = cl k := fun k hk => (g37 (k) (by omega)).trans (fc k hk)
  refine g_putF X w (o) a39 (by omega) c40 kc11 1 (by decide) rfl rfl k_RX11_16 rfl hin rfl rfl (Nat.le_of_ble_eq_true rfl) dX11_init_23 (fun H locs w => ?_)
  have w : Wd D A s H locs (o + 5) ad34 (va_up cl35 (o) (.inr (11, [.ref (q1), .ref (q23), .null, .null, .null, .int (0), .int (0), .null, .null, .null, .null, .null, .null, .null, .int (0)]))) := w
  generalize e42 : va_up cl35 (o) (.inr (11, [.ref (q1), .ref (q23), .null, .null, .null, .int (0), .int (0), .null, .null, .null, .null, .null, .null, .null, .int (0)])) = cl41 at w
  have g43 : ∀ k, k ≠ o → cl41 k = cl35 k := fun k hk => by rw [← e42, va_up_ne _ _ hk]
  have c44 : cl41 (o) = .inr (11, [.ref (q1), .ref (q23), .null, .null, .null, .int (0), .int (0), .null, .null, .null, .null, .null, .null, .null, .int (0)]) := by rw [← e42, va_up_self]
  have fc : ∀ k, k < o → cl41 k = cl k := fun k hk => (g43 (k) (by omega)).trans (fc k hk)
  refine lv_aload_n hx hb dX11_init_26 rfl (lv_at hl 0 rfl) ?_
  refine g_new X w kc5 k_RX11_9 wt_5 wi_5 bl_5 (Nat.le_of_ble_eq_true rfl) (Nat.le_of_ble_eq_true rfl) dX11_init_27 (fun q45 H w => ?_)
  generalize e48 : va_up ad34 (o + 5) q45 = ad46 at w
  generalize e49 : va_up cl41 (o + 5) (.inr (5, [.null, .int 0])) = cl47 at w
  have g50 : ∀ k, k < o + 5 → ad46 k = ad34 k := fun k hk => by rw [← e48, va_up_ne _ _ (by omega)]
  have g51 : ∀ k, k < o + 5 → cl47 k = cl41 k := fun k hk => by rw [← e49, va_up_ne _ _ (by omega)]
  have a52 : ad46 (o) = ad (o) := (g50 (o) (by omega)).trans a39
  have c53 : cl47 (o) = .inr (11, [.ref (q1), .ref (q23), .null, .null, .null, .int (0), .int (0), .null, .null, .null, .null, .null, .null, .null, .int (0)]) := (g51 (o) (by omega)).trans c44
  have fa : ∀ k, k < o + 1 → ad46 k = ad k := fun k hk => (g50 (k) (by omega)).trans (fa k hk)
  have fc : ∀ k, k < o → cl47 k = cl k := fun k hk => (g51 (k) (by omega)).trans (fc k hk)
  have a54 : ad46 (o + 5) = q45 := by rw [← e48, va_up_self]
  have c55 : cl47 (o + 5) = .inr (5, [.null, .int 0]) := by rw [← e49, va_up_self]
  refine lv_dup hx hb dX11_init_30 rfl ?_
  refine c_init (As := []) (rest := [.ref (q45), .ref (ad (o))]) X w (cn_5 l D G t (o + 6) ad46 cl47 (o + 5) rfl c55 (d - 1) (by omega)) YX5_init k_RX11_11 (by rw [a54]) rfl rfl hl.1 (rm_call (by omega) (by decide)) (Nat.le_of_ble_eq_true rfl) dX11_init_31 (⟨Nat.le_of_ble_eq_true rfl, Nat.le_of_ble_eq_true rfl⟩) (fun u H locs hp w => ?_)
  obtain ⟨ad56, cl57, rfl, g58, g59, b60⟩ := hp
  have w : Wd D A s H locs (o + 7) ad56 cl57 := w
  have b60 : Blk cl57 (o + 5) (bX5 G ad56 (o + 5)) := b60
  have a61 : ad56 (o) = ad (o) := (g58 (o) (by omega)).trans a52
  have c62 : cl57 (o) = .inr (11, [.ref (q1), .ref (q23), .null, .null, .null, .int (0), .int (0), .null, .null, .null, .null, .null, .null, .null, .int (0)]) := (g59 (o) (by omega)).trans c53
  have fa : ∀ k, k < o + 1 → ad56 k = ad k := fun k hk => (g58 (k) (by omega)).trans (fa k hk)
  have fc : ∀ k, k < o → cl57 k = cl k := fun k hk => (g59 (k) (by omega)).trans (fc k hk)
  refine g_putF X w (o) a61 (by omega) c62 kc11 2 (by decide) rfl rfl k_RX11_19 rfl hin rfl rfl (Nat.le_of_ble_eq_true rfl) dX11_init_34 (fun H locs w => ?_)
  have w : Wd D A s H locs (o + 7) ad56 (va_up cl57 (o) (.inr (11, [.ref (q1), .ref (q23), .ref (q45), .null, .null, .int (0), .int (0), .null, .null, .null, .null, .null, .null, .null, .int (0)]))) := w
  generalize e64 : va_up cl57 (o) (.inr (11, [.ref (q1), .ref (q23), .ref (q45), .null, .null, .int (0), .int (0), .null, .null, .null, .null, .null, .null, .null, .int (0)])) = cl63 at w
  have g65 : ∀ k, k ≠ o → cl63 k = cl57 k := fun k hk => by rw [← e64, va_up_ne _ _ hk]
  have c66 : cl63 (o) = .inr (11, [.ref (q1), .ref (q23), .ref (q45), .null, .null, .int (0), .int (0), .null, .null, .null, .null, .null, .null, .null, .int (0)]) := by rw [← e64, va_up_self]
  have fc : ∀ k, k < o → cl63 k = cl k := fun k hk => (g65 (k) (by omega)).trans (fc k hk)
  refine lv_aload_n hx hb dX11_init_37 rfl (lv_at hl 0 rfl) ?_
  refine g_new X w kc5 k_RX11_9 wt_5 wi_5 bl_5 (Nat.le_of_ble_eq_true rfl) (Nat.le_of_ble_eq_true rfl) dX11_init_38 (fun q67 H w => ?_)
  generalize e70 : va_up ad56 (o + 7) q67 = ad68 at w
  generalize e71 : va_up cl63 (o + 7) (.inr (5, [.null, .int 0])) = cl69 at w
  have g72 : ∀ k, k < o + 7 → ad68 k = ad56 k := fun k hk => by rw [← e70, va_up_ne _ _ (by omega)]
  have g73 : ∀ k, k < o + 7 → cl69 k = cl63 k := fun k hk => by rw [← e71, va_up_ne _ _ (by omega)]
  have a74 : ad68 (o) = ad (o) := (g72 (o) (by omega)).trans a61
  have c75 : cl69 (o) = .inr (11, [.ref (q1), .ref (q23), .ref (q45), .null, .null, .int (0), .int (0), .null, .null, .null, .null, .null, .null, .null, .int (0)]) := (g73 (o) (by omega)).trans c66
  have fa : ∀ k, k < o + 1 → ad68 k = ad k := fun k hk => (g72 (k) (by omega)).trans (fa k hk)
  have fc : ∀ k, k < o → cl69 k = cl k := fun k hk => (g73 (k) (by omega)).trans (fc k hk)
  have a76 : ad68 (o + 7) = q67 := by rw [← e70, va_up_self]
  have c77 : cl69 (o + 7) = .inr (5, [.null, .int 0]) := by rw [← e71, va_up_self]
  refine lv_dup hx hb dX11_init_41 rfl ?_
  refine c_init (As := []) (rest := [.ref (q67), .ref (ad (o))]) X w (cn_5 l D G t (o + 8) ad68 cl69 (o + 7) rfl c77 (d - 1) (by omega)) YX5_init k_RX11_11 (by rw [a76]) rfl rfl hl.1 (rm_call (by omega) (by decide)) (Nat.le_of_ble_eq_true rfl) dX11_init_42 (⟨Nat.le_of_ble_eq_true rfl, Nat.le_of_ble_eq_true rfl⟩) (fun u H locs hp w => ?_)
  obtain ⟨ad78, cl79, rfl, g80, g81, b82⟩ := hp
  have w : Wd D A s H locs (o + 9) ad78 cl79 := w
  have b82 : Blk cl79 (o + 7) (bX5 G ad78 (o + 7)) := b82
  have a83 : ad78 (o) = ad (o) := (g80 (o) (by omega)).trans a74
  have c84 : cl79 (o) = .inr (11, [.ref (q1), .ref (q23), .ref (q45), .null, .null, .int (0), .int (0), .null, .null, .null, .null, .null, .null, .null, .int (0)]) := (g81 (o) (by omega)).trans c75
  have fa : ∀ k, k < o + 1 → ad78 k = ad k := fun k hk => (g80 (k) (by omega)).trans (fa k hk)
  have fc : ∀ k, k < o → cl79 k = cl k := fun k hk => (g81 (k) (by omega)).trans (fc k hk)
  refine g_putF X w (o) a83 (by omega) c84 kc11 3 (by decide) rfl rfl k_RX11_22 rfl hin rfl rfl (Nat.le_of_ble_eq_true rfl) dX11_init_45 (fun H locs w => ?_)
  have w : Wd D A s H locs (o + 9) ad78 (va_up cl79 (o) (.inr (11, [.ref (q1), .ref (q23), .ref (q45), .ref (q67), .null, .int (0), .int (0), .null, .null, .null, .null, .null, .null, .null, .int (0)]))) := w
  generalize e86 : va_up cl79 (o) (.inr (11, [.ref (q1), .ref (q23), .ref (q45), .ref (q67), .null, .int (0), .int (0), .null, .null, .null, .null, .null, .null, .null, .int (0)])) = cl85 at w
  have g87 : ∀ k, k ≠ o → cl85 k = cl79 k := fun k hk => by rw [← e86, va_up_ne _ _ hk]
  have c88 : cl85 (o) = .inr (11, [.ref (q1), .ref (q23), .ref (q45), .ref (q67), .null, .int (0), .int (0), .null, .null, .null, .null, .null, .null, .null, .int (0)]) := by rw [← e86, va_up_self]
  have fc : ∀ k, k < o → cl85 k = cl k := fun k hk => (g87 (k) (by omega)).trans (fc k hk)
  refine lv_aload_n hx hb dX11_init_48 rfl (lv_at hl 0 rfl) ?_
  refine lv_bipush (v := 6) hx hb dX11_init_49 (by decide) ?_
  refine g_newQ X w k_RX11_9 (n := 6) (by decide) (by decide) (by decide) (Nat.le_of_ble_eq_true rfl) (Nat.le_of_ble_eq_true rfl) dX11_init_51 (fun q89 H w => ?_)
  generalize e92 : va_up ad78 (o + 9) q89 = ad90 at w
  generalize e93 : va_up cl85 (o + 9) (.inl (G 4, 6, .inr (.inr (.inr (.inr (fun _ => none)))))) = cl91 at w
  have g94 : ∀ k, k < o + 9 → ad90 k = ad78 k := fun k hk => by rw [← e92, va_up_ne _ _ (by omega)]
  have g95 : ∀ k, k < o + 9 → cl91 k = cl85 k := fun k hk => by rw [← e93, va_up_ne _ _ (by omega)]
  have a96 : ad90 (o) = ad (o) := (g94 (o) (by omega)).trans a83
  have c97 : cl91 (o) = .inr (11, [.ref (q1), .ref (q23), .ref (q45), .ref (q67), .null, .int (0), .int (0), .null, .null, .null, .null, .null, .null, .null, .int (0)]) := (g95 (o) (by omega)).trans c88
  have fa : ∀ k, k < o + 1 → ad90 k = ad k := fun k hk => (g94 (k) (by omega)).trans (fa k hk)
  have fc : ∀ k, k < o → cl91 k = cl k := fun k hk => (g95 (k) (by omega)).trans (fc k hk)
  have a98 : ad90 (o + 9) = q89 := by rw [← e92, va_up_self]
  have b99 : Blk cl91 (o + 9) [.inl (G 4, 6, .inr (.inr (.inr (.inr (fun _ => none)))))] := Blk.cons (by rw [← e93, va_up_self]) Blk.nil
  refine g_putF X w (o) a96 (by omega) c97 kc11 4 (by decide) rfl rfl k_RX11_25 rfl hin rfl rfl (Nat.le_of_ble_eq_true rfl) dX11_init_54 (fun H locs w => ?_)
  have w : Wd D A s H locs (o + 10) ad90 (va_up cl91 (o) (.inr (11, [.ref (q1), .ref (q23), .ref (q45), .ref (q67), .ref (q89), .int (0), .int (0), .null, .null, .null, .null, .null, .null, .null, .int (0)]))) := w
  generalize e101 : va_up cl91 (o) (.inr (11, [.ref (q1), .ref (q23), .ref (q45), .ref (q67), .ref (q89), .int (0), .int (0), .null, .null, .null, .null, .null, .null, .null, .int (0)])) = cl100 at w
  have g102 : ∀ k, k ≠ o → cl100 k = cl91 k := fun k hk => by rw [← e101, va_up_ne _ _ hk]
  have c103 : cl100 (o) = .inr (11, [.ref (q1), .ref (q23), .ref (q45), .ref (q67), .ref (q89), .int (0), .int (0), .null, .null, .null, .null, .null, .null, .null, .int (0)]) := by rw [← e101, va_up_self]
  have fc : ∀ k, k < o → cl100 k = cl k := fun k hk => (g102 (k) (by omega)).trans (fc k hk)
  refine lv_iconst (v := 0) hx hb dX11_init_57 (by decide) ?_
  refine lv_istore_n (lv' := [(1, .int (0)), (0, .ref (ad (o)))]) hx hb dX11_init_58 rfl hl (by decide) rfl (fun ls hl => ?_)
  refine lv_iload_n hx hb dX11_init_59 rfl (lv_at hl 0 rfl) ?_
  refine lv_bipush (v := 6) hx hb dX11_init_60 (by decide) ?_
  refine lv_icmp_ge (tgt := 84) hx hb dX11_init_62 (by decide) (fun h104 => absurd h104 (by decide)) (fun h104 => ?_)
  refine lv_aload_n hx hb dX11_init_65 rfl (lv_at hl 1 rfl) ?_
  refine g_get X w (o) a96 (by omega) c103 kc11 4 (by decide) rfl k_RX11_25 rfl dX11_init_66 ?_
  refine lv_iload_n hx hb dX11_init_69 rfl (lv_at hl 0 rfl) ?_
  refine g_new X w kc5 k_RX11_9 wt_5 wi_5 bl_5 (Nat.le_of_ble_eq_true rfl) (Nat.le_of_ble_eq_true rfl) dX11_init_70 (fun q105 H w => ?_)
  generalize e108 : va_up ad90 (o + 10) q105 = ad106 at w
  generalize e109 : va_up cl100 (o + 10) (.inr (5, [.null, .int 0])) = cl107 at w
  have g110 : ∀ k, k < o + 10 → ad106 k = ad90 k := fun k hk => by rw [← e108, va_up_ne _ _ (by omega)]
  have g111 : ∀ k, k < o + 10 → cl107 k = cl100 k := fun k hk => by rw [← e109, va_up_ne _ _ (by omega)]
  have a112 : ad106 (o) = ad (o) := (g110 (o) (by omega)).trans a96
  have c113 : cl107 (o) = .inr (11, [.ref (q1), .ref (q23), .ref (q45), .ref (q67), .ref (q89), .int (0), .int (0), .null, .null, .null, .null, .null, .null, .null, .int (0)]) := (g111 (o) (by omega)).trans c103
  have fa : ∀ k, k < o + 1 → ad106 k = ad k := fun k hk => (g110 (k) (by omega)).trans (fa k hk)
  have fc : ∀ k, k < o → cl107 k = cl k := fun k hk => (g111 (k) (by omega)).trans (fc k hk)
  have a114 : ad106 (o + 10) = q105 := by rw [← e108, va_up_self]
  have c115 : cl107 (o + 10) = .inr (5, [.null, .int 0]) := by rw [← e109, va_up_self]
  refine lv_dup hx hb dX11_init_73 rfl ?_
  refine c_init (As := []) (rest := [.ref (q105), .int (0), .ref (q89)]) X w (cn_5 l D G t (o + 11) ad106 cl107 (o + 10) rfl c115 (d - 1) (by omega)) YX5_init k_RX11_11 (by rw [a114]) rfl rfl hl.1 (rm_call (by omega) (by decide)) (Nat.le_of_ble_eq_true rfl) dX11_init_74 (⟨Nat.le_of_ble_eq_true rfl, Nat.le_of_ble_eq_true rfl⟩) (fun u H locs hp w => ?_)
  obtain ⟨ad116, cl117, rfl, g118, g119, b120⟩ := hp
  have w : Wd D A s H locs (o + 12) ad116 cl117 := w
  have b120 : Blk cl117 (o + 10) (bX5 G ad116 (o + 10)) := b120
  have a121 : ad116 (o) = ad (o) := (g118 (o) (by omega)).trans a112
  have c122 : cl117 (o) = .inr (11, [.ref (q1), .ref (q23), .ref (q45), .ref (q67), .ref (q89), .int (0), .int (0), .null, .null, .null, .null, .null, .null, .null, .int (0)]) := (g119 (o) (by omega)).trans c113
  have fa : ∀ k, k < o + 1 → ad116 k = ad k := fun k hk => (g118 (k) (by omega)).trans (fa k hk)
  have fc : ∀ k, k < o → cl117 k = cl k := fun k hk => (g119 (k) (by omega)).trans (fc k hk)
  have a123 : ad106 (o + 9) = q89 := (g110 (o + 9) (by omega)).trans a98
  have a124 : ad116 (o + 9) = q89 := (g118 (o + 9) (by omega)).trans a123
  have c125 : cl100 (o + 9) = .inl (G 4, 6, .inr (.inr (.inr (.inr (fun _ => none))))) := (g102 (o + 9) (by omega)).trans b99.hd
  have c126 : cl107 (o + 9) = .inl (G 4, 6, .inr (.inr (.inr (.inr (fun _ => none))))) := (g111 (o + 9) (by omega)).trans c125
  have c127 : cl117 (o + 9) = .inl (G 4, 6, .inr (.inr (.inr (.inr (fun _ => none))))) := (g119 (o + 9) (by omega)).trans c126
  have a128 : ad116 (o + 10) = q105 := (g118 (o + 10) (by omega)).trans a114
  refine g_astQ X w (o + 9) a124 (by omega) c127 (o + 10) a128 (by omega) b120.hd (x := 0) (by unfold vp_in; decide) dX11_init_77 (fun H locs w => ?_)
  generalize e130 : va_up cl117 (o + 9) (.inl (G 4, 6, .inr (.inr (.inr (.inr (va_up (fun _ => none) (0 : Int32).toNatClampNeg (some q105))))))) = cl129 at w
  have g131 : ∀ k, k ≠ o + 9 → cl129 k = cl117 k := fun k hk => by rw [← e130, va_up_ne _ _ hk]
  have b132 : Blk cl129 (o + 9) [.inl (G 4, 6, .inr (.inr (.inr (.inr (va_up (fun _ => none) (0 : Int32).toNatClampNeg (some q105))))))] := Blk.cons (by rw [← e130, va_up_self]) Blk.nil
  have c133 : cl129 (o) = .inr (11, [.ref (q1), .ref (q23), .ref (q45), .ref (q67), .ref (q89), .int (0), .int (0), .null, .null, .null, .null, .null, .null, .null, .int (0)]) := (g131 (o) (by omega)).trans c122
  have fc : ∀ k, k < o → cl129 k = cl k := fun k hk => (g131 (k) (by omega)).trans (fc k hk)
  refine lv_iinc (v := 1) (lv' := [(1, .int (1)), (0, .ref (ad (o)))]) hx hb dX11_init_78 hl (k := 0) rfl (by decide) (by decide) rfl (fun ls hl => ?_)
  refine lv_goto (tgt := 59) hx hb dX11_init_81 (by decide) ?_
  refine lv_iload_n hx hb dX11_init_59 rfl (lv_at hl 0 rfl) ?_
  refine lv_bipush (v := 6) hx hb dX11_init_60 (by decide) ?_
  refine lv_icmp_ge (tgt := 84) hx hb dX11_init_62 (by decide) (fun h134 => absurd h134 (by decide)) (fun h134 => ?_)
  refine lv_aload_n hx hb dX11_init_65 rfl (lv_at hl 1 rfl) ?_
  refine g_get X w (o) a121 (by omega) c133 kc11 4 (by decide) rfl k_RX11_25 rfl dX11_init_66 ?_
  refine lv_iload_n hx hb dX11_init_69 rfl (lv_at hl 0 rfl) ?_
  refine g_new X w kc5 k_RX11_9 wt_5 wi_5 bl_5 (Nat.le_of_ble_eq_true rfl) (Nat.le_of_ble_eq_true rfl) dX11_init_70 (fun q135 H w => ?_)
  generalize e138 : va_up ad116 (o + 12) q135 = ad136 at w
  generalize e139 : va_up cl129 (o + 12) (.inr (5, [.null, .int 0])) = cl137 at w
  have g140 : ∀ k, k < o + 12 → ad136 k = ad116 k := fun k hk => by rw [← e138, va_up_ne _ _ (by omega)]
  have g141 : ∀ k, k < o + 12 → cl137 k = cl129 k := fun k hk => by rw [← e139, va_up_ne _ _ (by omega)]
  have a142 : ad136 (o) = ad (o) := (g140 (o) (by omega)).trans a121
  have c143 : cl137 (o) = .inr (11, [.ref (q1), .ref (q23), .ref (q45), .ref (q67), .ref (q89), .int (0), .int (0), .null, .null, .null, .null, .null, .null, .null, .int (0)]) := (g141 (o) (by omega)).trans c133
  have fa : ∀ k, k < o + 1 → ad136 k = ad k := fun k hk => (g140 (k) (by omega)).trans (fa k hk)
  have fc : ∀ k, k < o → cl137 k = cl k := fun k hk => (g141 (k) (by omega)).trans (fc k hk)
  have a144 : ad136 (o + 12) = q135 := by rw [← e138, va_up_self]
  have c145 : cl137 (o + 12) = .inr (5, [.null, .int 0]) := by rw [← e139, va_up_self]
  refine lv_dup hx hb dX11_init_73 rfl ?_
  refine c_init (As := []) (rest := [.ref (q135), .int (1), .ref (q89)]) X w (cn_5 l D G t (o + 13) ad136 cl137 (o + 12) rfl c145 (d - 1) (by omega)) YX5_init k_RX11_11 (by rw [a144]) rfl rfl hl.1 (rm_call (by omega) (by decide)) (Nat.le_of_ble_eq_true rfl) dX11_init_74 (⟨Nat.le_of_ble_eq_true rfl, Nat.le_of_ble_eq_true rfl⟩) (fun u H locs hp w => ?_)
  obtain ⟨ad146, cl147, rfl, g148, g149, b150⟩ := hp
  have w : Wd D A s H locs (o + 14) ad146 cl147 := w
  have b150 : Blk cl147 (o + 12) (bX5 G ad146 (o + 12)) := b150
  have a151 : ad146 (o) = ad (o) := (g148 (o) (by omega)).trans a142
  have c152 : cl147 (o) = .inr (11, [.ref (q1), .ref (q23), .ref (q45), .ref (q67), .ref (q89), .int (0), .int (0), .null, .null, .null, .null, .null, .null, .null, .int (0)]) := (g149 (o) (by omega)).trans c143
  have fa : ∀ k, k < o + 1 → ad146 k = ad k := fun k hk => (g148 (k) (by omega)).trans (fa k hk)
  have fc : ∀ k, k < o → cl147 k = cl k := fun k hk => (g149 (k) (by omega)).trans (fc k hk)
  have a153 : ad136 (o + 9) = q89 := (g140 (o + 9) (by omega)).trans a124
  have a154 : ad146 (o + 9) = q89 := (g148 (o + 9) (by omega)).trans a153
  have c155 : cl137 (o + 9) = .inl (G 4, 6, .inr (.inr (.inr (.inr (va_up (fun _ => none) (0 : Int32).toNatClampNeg (some q105)))))) := (g141 (o + 9) (by omega)).trans b132.hd
  have c156 : cl147 (o + 9) = .inl (G 4, 6, .inr (.inr (.inr (.inr (va_up (fun _ => none) (0 : Int32).toNatClampNeg (some q105)))))) := (g149 (o + 9) (by omega)).trans c155
  have a157 : ad146 (o + 12) = q135 := (g148 (o + 12) (by omega)).trans a144
  refine g_astQ X w (o + 9) a154 (by omega) c156 (o + 12) a157 (by omega) b150.hd (x := 1) (by unfold vp_in; decide) dX11_init_77 (fun H locs w => ?_)
  generalize e159 : va_up cl147 (o + 9) (.inl (G 4, 6, .inr (.inr (.inr (.inr (va_up (va_up (fun _ => none) (0 : Int32).toNatClampNeg (some q105)) (1 : Int32).toNatClampNeg (some q135))))))) = cl158 at w
  have g160 : ∀ k, k ≠ o + 9 → cl158 k = cl147 k := fun k hk => by rw [← e159, va_up_ne _ _ hk]
  have b161 : Blk cl158 (o + 9) [.inl (G 4, 6, .inr (.inr (.inr (.inr (va_up (va_up (fun _ => none) (0 : Int32).toNatClampNeg (some q105)) (1 : Int32).toNatClampNeg (some q135))))))] := Blk.cons (by rw [← e159, va_up_self]) Blk.nil
  have c162 : cl158 (o) = .inr (11, [.ref (q1), .ref (q23), .ref (q45), .ref (q67), .ref (q89), .int (0), .int (0), .null, .null, .null, .null, .null, .null, .null, .int (0)]) := (g160 (o) (by omega)).trans c152
  have fc : ∀ k, k < o → cl158 k = cl k := fun k hk => (g160 (k) (by omega)).trans (fc k hk)
  refine lv_iinc (v := 2) (lv' := [(1, .int (2)), (0, .ref (ad (o)))]) hx hb dX11_init_78 hl (k := 0) rfl (by decide) (by decide) rfl (fun ls hl => ?_)
  refine lv_goto (tgt := 59) hx hb dX11_init_81 (by decide) ?_
  refine lv_iload_n hx hb dX11_init_59 rfl (lv_at hl 0 rfl) ?_
  refine lv_bipush (v := 6) hx hb dX11_init_60 (by decide) ?_
  refine lv_icmp_ge (tgt := 84) hx hb dX11_init_62 (by decide) (fun h163 => absurd h163 (by decide)) (fun h163 => ?_)
  refine lv_aload_n hx hb dX11_init_65 rfl (lv_at hl 1 rfl) ?_
  refine g_get X w (o) a151 (by omega) c162 kc11 4 (by decide) rfl k_RX11_25 rfl dX11_init_66 ?_
  refine lv_iload_n hx hb dX11_init_69 rfl (lv_at hl 0 rfl) ?_
  refine g_new X w kc5 k_RX11_9 wt_5 wi_5 bl_5 (Nat.le_of_ble_eq_true rfl) (Nat.le_of_ble_eq_true rfl) dX11_init_70 (fun q164 H w => ?_)
  generalize e167 : va_up ad146 (o + 14) q164 = ad165 at w
  generalize e168 : va_up cl158 (o + 14) (.inr (5, [.null, .int 0])) = cl166 at w
  have g169 : ∀ k, k < o + 14 → ad165 k = ad146 k := fun k hk => by rw [← e167, va_up_ne _ _ (by omega)]
  have g170 : ∀ k, k < o + 14 → cl166 k = cl158 k := fun k hk => by rw [← e168, va_up_ne _ _ (by omega)]
  have a171 : ad165 (o) = ad (o) := (g169 (o) (by omega)).trans a151
  have c172 : cl166 (o) = .inr (11, [.ref (q1), .ref (q23), .ref (q45), .ref (q67), .ref (q89), .int (0), .int (0), .null, .null, .null, .null, .null, .null, .null, .int (0)]) := (g170 (o) (by omega)).trans c162
  have fa : ∀ k, k < o + 1 → ad165 k = ad k := fun k hk => (g169 (k) (by omega)).trans (fa k hk)
  have fc : ∀ k, k < o → cl166 k = cl k := fun k hk => (g170 (k) (by omega)).trans (fc k hk)
  have a173 : ad165 (o + 14) = q164 := by rw [← e167, va_up_self]
  have c174 : cl166 (o + 14) = .inr (5, [.null, .int 0]) := by rw [← e168, va_up_self]
  refine lv_dup hx hb dX11_init_73 rfl ?_
  refine c_init (As := []) (rest := [.ref (q164), .int (2), .ref (q89)]) X w (cn_5 l D G t (o + 15) ad165 cl166 (o + 14) rfl c174 (d - 1) (by omega)) YX5_init k_RX11_11 (by rw [a173]) rfl rfl hl.1 (rm_call (by omega) (by decide)) (Nat.le_of_ble_eq_true rfl) dX11_init_74 (⟨Nat.le_of_ble_eq_true rfl, Nat.le_of_ble_eq_true rfl⟩) (fun u H locs hp w => ?_)
  obtain ⟨ad175, cl176, rfl, g177, g178, b179⟩ := hp
  have w : Wd D A s H locs (o + 16) ad175 cl176 := w
  have b179 : Blk cl176 (o + 14) (bX5 G ad175 (o + 14)) := b179
  have a180 : ad175 (o) = ad (o) := (g177 (o) (by omega)).trans a171
  have c181 : cl176 (o) = .inr (11, [.ref (q1), .ref (q23), .ref (q45), .ref (q67), .ref (q89), .int (0), .int (0), .null, .null, .null, .null, .null, .null, .null, .int (0)]) := (g178 (o) (by omega)).trans c172
  have fa : ∀ k, k < o + 1 → ad175 k = ad k := fun k hk => (g177 (k) (by omega)).trans (fa k hk)
  have fc : ∀ k, k < o → cl176 k = cl k := fun k hk => (g178 (k) (by omega)).trans (fc k hk)
  have a182 : ad165 (o + 9) = q89 := (g169 (o + 9) (by omega)).trans a154
  have a183 : ad175 (o + 9) = q89 := (g177 (o + 9) (by omega)).trans a182
  have c184 : cl166 (o + 9) = .inl (G 4, 6, .inr (.inr (.inr (.inr (va_up (va_up (fun _ => none) (0 : Int32).toNatClampNeg (some q105)) (1 : Int32).toNatClampNeg (some q135)))))) := (g170 (o + 9) (by omega)).trans b161.hd
  have c185 : cl176 (o + 9) = .inl (G 4, 6, .inr (.inr (.inr (.inr (va_up (va_up (fun _ => none) (0 : Int32).toNatClampNeg (some q105)) (1 : Int32).toNatClampNeg (some q135)))))) := (g178 (o + 9) (by omega)).trans c184
  have a186 : ad175 (o + 14) = q164 := (g177 (o + 14) (by omega)).trans a173
  refine g_astQ X w (o + 9) a183 (by omega) c185 (o + 14) a186 (by omega) b179.hd (x := 2) (by unfold vp_in; decide) dX11_init_77 (fun H locs w => ?_)
  generalize e188 : va_up cl176 (o + 9) (.inl (G 4, 6, .inr (.inr (.inr (.inr (va_up (va_up (va_up (fun _ => none) (0 : Int32).toNatClampNeg (some q105)) (1 : Int32).toNatClampNeg (some q135)) (2 : Int32).toNatClampNeg (some q164))))))) = cl187 at w
  have g189 : ∀ k, k ≠ o + 9 → cl187 k = cl176 k := fun k hk => by rw [← e188, va_up_ne _ _ hk]
  have b190 : Blk cl187 (o + 9) [.inl (G 4, 6, .inr (.inr (.inr (.inr (va_up (va_up (va_up (fun _ => none) (0 : Int32).toNatClampNeg (some q105)) (1 : Int32).toNatClampNeg (some q135)) (2 : Int32).toNatClampNeg (some q164))))))] := Blk.cons (by rw [← e188, va_up_self]) Blk.nil
  have c191 : cl187 (o) = .inr (11, [.ref (q1), .ref (q23), .ref (q45), .ref (q67), .ref (q89), .int (0), .int (0), .null, .null, .null, .null, .null, .null, .null, .int (0)]) := (g189 (o) (by omega)).trans c181
  have fc : ∀ k, k < o → cl187 k = cl k := fun k hk => (g189 (k) (by omega)).trans (fc k hk)
  refine lv_iinc (v := 3) (lv' := [(1, .int (3)), (0, .ref (ad (o)))]) hx hb dX11_init_78 hl (k := 0) rfl (by decide) (by decide) rfl (fun ls hl => ?_)
  refine lv_goto (tgt := 59) hx hb dX11_init_81 (by decide) ?_
  refine lv_iload_n hx hb dX11_init_59 rfl (lv_at hl 0 rfl) ?_
  refine lv_bipush (v := 6) hx hb dX11_init_60 (by decide) ?_
  refine lv_icmp_ge (tgt := 84) hx hb dX11_init_62 (by decide) (fun h192 => absurd h192 (by decide)) (fun h192 => ?_)
  refine lv_aload_n hx hb dX11_init_65 rfl (lv_at hl 1 rfl) ?_
  refine g_get X w (o) a180 (by omega) c191 kc11 4 (by decide) rfl k_RX11_25 rfl dX11_init_66 ?_
  refine lv_iload_n hx hb dX11_init_69 rfl (lv_at hl 0 rfl) ?_
  refine g_new X w kc5 k_RX11_9 wt_5 wi_5 bl_5 (Nat.le_of_ble_eq_true rfl) (Nat.le_of_ble_eq_true rfl) dX11_init_70 (fun q193 H w => ?_)
  generalize e196 : va_up ad175 (o + 16) q193 = ad194 at w
  generalize e197 : va_up cl187 (o + 16) (.inr (5, [.null, .int 0])) = cl195 at w
  have g198 : ∀ k, k < o + 16 → ad194 k = ad175 k := fun k hk => by rw [← e196, va_up_ne _ _ (by omega)]
  have g199 : ∀ k, k < o + 16 → cl195 k = cl187 k := fun k hk => by rw [← e197, va_up_ne _ _ (by omega)]
  have a200 : ad194 (o) = ad (o) := (g198 (o) (by omega)).trans a180
  have c201 : cl195 (o) = .inr (11, [.ref (q1), .ref (q23), .ref (q45), .ref (q67), .ref (q89), .int (0), .int (0), .null, .null, .null, .null, .null, .null, .null, .int (0)]) := (g199 (o) (by omega)).trans c191
  have fa : ∀ k, k < o + 1 → ad194 k = ad k := fun k hk => (g198 (k) (by omega)).trans (fa k hk)
  have fc : ∀ k, k < o → cl195 k = cl k := fun k hk => (g199 (k) (by omega)).trans (fc k hk)
  have a202 : ad194 (o + 16) = q193 := by rw [← e196, va_up_self]
  have c203 : cl195 (o + 16) = .inr (5, [.null, .int 0]) := by rw [← e197, va_up_self]
  refine lv_dup hx hb dX11_init_73 rfl ?_
  refine c_init (As := []) (rest := [.ref (q193), .int (3), .ref (q89)]) X w (cn_5 l D G t (o + 17) ad194 cl195 (o + 16) rfl c203 (d - 1) (by omega)) YX5_init k_RX11_11 (by rw [a202]) rfl rfl hl.1 (rm_call (by omega) (by decide)) (Nat.le_of_ble_eq_true rfl) dX11_init_74 (⟨Nat.le_of_ble_eq_true rfl, Nat.le_of_ble_eq_true rfl⟩) (fun u H locs hp w => ?_)
  obtain ⟨ad204, cl205, rfl, g206, g207, b208⟩ := hp
  have w : Wd D A s H locs (o + 18) ad204 cl205 := w
  have b208 : Blk cl205 (o + 16) (bX5 G ad204 (o + 16)) := b208
  have a209 : ad204 (o) = ad (o) := (g206 (o) (by omega)).trans a200
  have c210 : cl205 (o) = .inr (11, [.ref (q1), .ref (q23), .ref (q45), .ref (q67), .ref (q89), .int (0), .int (0), .null, .null, .null, .null, .null, .null, .null, .int (0)]) := (g207 (o) (by omega)).trans c201
  have fa : ∀ k, k < o + 1 → ad204 k = ad k := fun k hk => (g206 (k) (by omega)).trans (fa k hk)
  have fc : ∀ k, k < o → cl205 k = cl k := fun k hk => (g207 (k) (by omega)).trans (fc k hk)
  have a211 : ad194 (o + 9) = q89 := (g198 (o + 9) (by omega)).trans a183
  have a212 : ad204 (o + 9) = q89 := (g206 (o + 9) (by omega)).trans a211
  have c213 : cl195 (o + 9) = .inl (G 4, 6, .inr (.inr (.inr (.inr (va_up (va_up (va_up (fun _ => none) (0 : Int32).toNatClampNeg (some q105)) (1 : Int32).toNatClampNeg (some q135)) (2 : Int32).toNatClampNeg (some q164)))))) := (g199 (o + 9) (by omega)).trans b190.hd
  have c214 : cl205 (o + 9) = .inl (G 4, 6, .inr (.inr (.inr (.inr (va_up (va_up (va_up (fun _ => none) (0 : Int32).toNatClampNeg (some q105)) (1 : Int32).toNatClampNeg (some q135)) (2 : Int32).toNatClampNeg (some q164)))))) := (g207 (o + 9) (by omega)).trans c213
  have a215 : ad204 (o + 16) = q193 := (g206 (o + 16) (by omega)).trans a202
  refine g_astQ X w (o + 9) a212 (by omega) c214 (o + 16) a215 (by omega) b208.hd (x := 3) (by unfold vp_in; decide) dX11_init_77 (fun H locs w => ?_)
  generalize e217 : va_up cl205 (o + 9) (.inl (G 4, 6, .inr (.inr (.inr (.inr (va_up (va_up (va_up (va_up (fun _ => none) (0 : Int32).toNatClampNeg (some q105)) (1 : Int32).toNatClampNeg (some q135)) (2 : Int32).toNatClampNeg (some q164)) (3 : Int32).toNatClampNeg (some q193))))))) = cl216 at w
  have g218 : ∀ k, k ≠ o + 9 → cl216 k = cl205 k := fun k hk => by rw [← e217, va_up_ne _ _ hk]
  have b219 : Blk cl216 (o + 9) [.inl (G 4, 6, .inr (.inr (.inr (.inr (va_up (va_up (va_up (va_up (fun _ => none) (0 : Int32).toNatClampNeg (some q105)) (1 : Int32).toNatClampNeg (some q135)) (2 : Int32).toNatClampNeg (some q164)) (3 : Int32).toNatClampNeg (some q193))))))] := Blk.cons (by rw [← e217, va_up_self]) Blk.nil
  have c220 : cl216 (o) = .inr (11, [.ref (q1), .ref (q23), .ref (q45), .ref (q67), .ref (q89), .int (0), .int (0), .null, .null, .null, .null, .null, .null, .null, .int (0)]) := (g218 (o) (by omega)).trans c210
  have fc : ∀ k, k < o → cl216 k = cl k := fun k hk => (g218 (k) (by omega)).trans (fc k hk)
  refine lv_iinc (v := 4) (lv' := [(1, .int (4)), (0, .ref (ad (o)))]) hx hb dX11_init_78 hl (k := 0) rfl (by decide) (by decide) rfl (fun ls hl => ?_)
  refine lv_goto (tgt := 59) hx hb dX11_init_81 (by decide) ?_
  refine lv_iload_n hx hb dX11_init_59 rfl (lv_at hl 0 rfl) ?_
  refine lv_bipush (v := 6) hx hb dX11_init_60 (by decide) ?_
  refine lv_icmp_ge (tgt := 84) hx hb dX11_init_62 (by decide) (fun h221 => absurd h221 (by decide)) (fun h221 => ?_)
  refine lv_aload_n hx hb dX11_init_65 rfl (lv_at hl 1 rfl) ?_
  refine g_get X w (o) a209 (by omega) c220 kc11 4 (by decide) rfl k_RX11_25 rfl dX11_init_66 ?_
  refine lv_iload_n hx hb dX11_init_69 rfl (lv_at hl 0 rfl) ?_
  refine g_new X w kc5 k_RX11_9 wt_5 wi_5 bl_5 (Nat.le_of_ble_eq_true rfl) (Nat.le_of_ble_eq_true rfl) dX11_init_70 (fun q222 H w => ?_)
  generalize e225 : va_up ad204 (o + 18) q222 = ad223 at w
  generalize e226 : va_up cl216 (o + 18) (.inr (5, [.null, .int 0])) = cl224 at w
  have g227 : ∀ k, k < o + 18 → ad223 k = ad204 k := fun k hk => by rw [← e225, va_up_ne _ _ (by omega)]
  have g228 : ∀ k, k < o + 18 → cl224 k = cl216 k := fun k hk => by rw [← e226, va_up_ne _ _ (by omega)]
  have a229 : ad223 (o) = ad (o) := (g227 (o) (by omega)).trans a209
  have c230 : cl224 (o) = .inr (11, [.ref (q1), .ref (q23), .ref (q45), .ref (q67), .ref (q89), .int (0), .int (0), .null, .null, .null, .null, .null, .null, .null, .int (0)]) := (g228 (o) (by omega)).trans c220
  have fa : ∀ k, k < o + 1 → ad223 k = ad k := fun k hk => (g227 (k) (by omega)).trans (fa k hk)
  have fc : ∀ k, k < o → cl224 k = cl k := fun k hk => (g228 (k) (by omega)).trans (fc k hk)
  have a231 : ad223 (o + 18) = q222 := by rw [← e225, va_up_self]
  have c232 : cl224 (o + 18) = .inr (5, [.null, .int 0]) := by rw [← e226, va_up_self]
  refine lv_dup hx hb dX11_init_73 rfl ?_
  refine c_init (As := []) (rest := [.ref (q222), .int (4), .ref (q89)]) X w (cn_5 l D G t (o + 19) ad223 cl224 (o + 18) rfl c232 (d - 1) (by omega)) YX5_init k_RX11_11 (by rw [a231]) rfl rfl hl.1 (rm_call (by omega) (by decide)) (Nat.le_of_ble_eq_true rfl) dX11_init_74 (⟨Nat.le_of_ble_eq_true rfl, Nat.le_of_ble_eq_true rfl⟩) (fun u H locs hp w => ?_)
  obtain ⟨ad233, cl234, rfl, g235, g236, b237⟩ := hp
  have w : Wd D A s H locs (o + 20) ad233 cl234 := w
  have b237 : Blk cl234 (o + 18) (bX5 G ad233 (o + 18)) := b237
  have a238 : ad233 (o) = ad (o) := (g235 (o) (by omega)).trans a229
  have c239 : cl234 (o) = .inr (11, [.ref (q1), .ref (q23), .ref (q45), .ref (q67), .ref (q89), .int (0), .int (0), .null, .null, .null, .null, .null, .null, .null, .int (0)]) := (g236 (o) (by omega)).trans c230
  have fa : ∀ k, k < o + 1 → ad233 k = ad k := fun k hk => (g235 (k) (by omega)).trans (fa k hk)
  have fc : ∀ k, k < o → cl234 k = cl k := fun k hk => (g236 (k) (by omega)).trans (fc k hk)
  have a240 : ad223 (o + 9) = q89 := (g227 (o + 9) (by omega)).trans a212
  have a241 : ad233 (o + 9) = q89 := (g235 (o + 9) (by omega)).trans a240
  have c242 : cl224 (o + 9) = .inl (G 4, 6, .inr (.inr (.inr (.inr (va_up (va_up (va_up (va_up (fun _ => none) (0 : Int32).toNatClampNeg (some q105)) (1 : Int32).toNatClampNeg (some q135)) (2 : Int32).toNatClampNeg (some q164)) (3 : Int32).toNatClampNeg (some q193)))))) := (g228 (o + 9) (by omega)).trans b219.hd
  have c243 : cl234 (o + 9) = .inl (G 4, 6, .inr (.inr (.inr (.inr (va_up (va_up (va_up (va_up (fun _ => none) (0 : Int32).toNatClampNeg (some q105)) (1 : Int32).toNatClampNeg (some q135)) (2 : Int32).toNatClampNeg (some q164)) (3 : Int32).toNatClampNeg (some q193)))))) := (g236 (o + 9) (by omega)).trans c242
  have a244 : ad233 (o + 18) = q222 := (g235 (o + 18) (by omega)).trans a231
  refine g_astQ X w (o + 9) a241 (by omega) c243 (o + 18) a244 (by omega) b237.hd (x := 4) (by unfold vp_in; decide) dX11_init_77 (fun H locs w => ?_)
  generalize e246 : va_up cl234 (o + 9) (.inl (G 4, 6, .inr (.inr (.inr (.inr (va_up (va_up (va_up (va_up (va_up (fun _ => none) (0 : Int32).toNatClampNeg (some q105)) (1 : Int32).toNatClampNeg (some q135)) (2 : Int32).toNatClampNeg (some q164)) (3 : Int32).toNatClampNeg (some q193)) (4 : Int32).toNatClampNeg (some q222))))))) = cl245 at w
  have g247 : ∀ k, k ≠ o + 9 → cl245 k = cl234 k := fun k hk => by rw [← e246, va_up_ne _ _ hk]
  have b248 : Blk cl245 (o + 9) [.inl (G 4, 6, .inr (.inr (.inr (.inr (va_up (va_up (va_up (va_up (va_up (fun _ => none) (0 : Int32).toNatClampNeg (some q105)) (1 : Int32).toNatClampNeg (some q135)) (2 : Int32).toNatClampNeg (some q164)) (3 : Int32).toNatClampNeg (some q193)) (4 : Int32).toNatClampNeg (some q222))))))] := Blk.cons (by rw [← e246, va_up_self]) Blk.nil
  have c249 : cl245 (o) = .inr (11, [.ref (q1), .ref (q23), .ref (q45), .ref (q67), .ref (q89), .int (0), .int (0), .null, .null, .null, .null, .null, .null, .null, .int (0)]) := (g247 (o) (by omega)).trans c239
  have fc : ∀ k, k < o → cl245 k = cl k := fun k hk => (g247 (k) (by omega)).trans (fc k hk)
  refine lv_iinc (v := 5) (lv' := [(1, .int (5)), (0, .ref (ad (o)))]) hx hb dX11_init_78 hl (k := 0) rfl (by decide) (by decide) rfl (fun ls hl => ?_)
  refine lv_goto (tgt := 59) hx hb dX11_init_81 (by decide) ?_
  refine lv_iload_n hx hb dX11_init_59 rfl (lv_at hl 0 rfl) ?_
  refine lv_bipush (v := 6) hx hb dX11_init_60 (by decide) ?_
  refine lv_icmp_ge (tgt := 84) hx hb dX11_init_62 (by decide) (fun h250 => absurd h250 (by decide)) (fun h250 => ?_)
  refine lv_aload_n hx hb dX11_init_65 rfl (lv_at hl 1 rfl) ?_
  refine g_get X w (o) a238 (by omega) c249 kc11 4 (by decide) rfl k_RX11_25 rfl dX11_init_66 ?_
  refine lv_iload_n hx hb dX11_init_69 rfl (lv_at hl 0 rfl) ?_
  refine g_new X w kc5 k_RX11_9 wt_5 wi_5 bl_5 (Nat.le_of_ble_eq_true rfl) (Nat.le_of_ble_eq_true rfl) dX11_init_70 (fun q251 H w => ?_)
  generalize e254 : va_up ad233 (o + 20) q251 = ad252 at w
  generalize e255 : va_up cl245 (o + 20) (.inr (5, [.null, .int 0])) = cl253 at w
  have g256 : ∀ k, k < o + 20 → ad252 k = ad233 k := fun k hk => by rw [← e254, va_up_ne _ _ (by omega)]
  have g257 : ∀ k, k < o + 20 → cl253 k = cl245 k := fun k hk => by rw [← e255, va_up_ne _ _ (by omega)]
  have a258 : ad252 (o) = ad (o) := (g256 (o) (by omega)).trans a238
  have c259 : cl253 (o) = .inr (11, [.ref (q1), .ref (q23), .ref (q45), .ref (q67), .ref (q89), .int (0), .int (0), .null, .null, .null, .null, .null, .null, .null, .int (0)]) := (g257 (o) (by omega)).trans c249
  have fa : ∀ k, k < o + 1 → ad252 k = ad k := fun k hk => (g256 (k) (by omega)).trans (fa k hk)
  have fc : ∀ k, k < o → cl253 k = cl k := fun k hk => (g257 (k) (by omega)).trans (fc k hk)
  have a260 : ad252 (o + 20) = q251 := by rw [← e254, va_up_self]
  have c261 : cl253 (o + 20) = .inr (5, [.null, .int 0]) := by rw [← e255, va_up_self]
  refine lv_dup hx hb dX11_init_73 rfl ?_
  refine c_init (As := []) (rest := [.ref (q251), .int (5), .ref (q89)]) X w (cn_5 l D G t (o + 21) ad252 cl253 (o + 20) rfl c261 (d - 1) (by omega)) YX5_init k_RX11_11 (by rw [a260]) rfl rfl hl.1 (rm_call (by omega) (by decide)) (Nat.le_of_ble_eq_true rfl) dX11_init_74 (⟨Nat.le_of_ble_eq_true rfl, Nat.le_of_ble_eq_true rfl⟩) (fun u H locs hp w => ?_)
  obtain ⟨ad262, cl263, rfl, g264, g265, b266⟩ := hp
  have w : Wd D A s H locs (o + 22) ad262 cl263 := w
  have b266 : Blk cl263 (o + 20) (bX5 G ad262 (o + 20)) := b266
  have a267 : ad262 (o) = ad (o) := (g264 (o) (by omega)).trans a258
  have c268 : cl263 (o) = .inr (11, [.ref (q1), .ref (q23), .ref (q45), .ref (q67), .ref (q89), .int (0), .int (0), .null, .null, .null, .null, .null, .null, .null, .int (0)]) := (g265 (o) (by omega)).trans c259
  have fa : ∀ k, k < o + 1 → ad262 k = ad k := fun k hk => (g264 (k) (by omega)).trans (fa k hk)
  have fc : ∀ k, k < o → cl263 k = cl k := fun k hk => (g265 (k) (by omega)).trans (fc k hk)
  have a269 : ad252 (o + 9) = q89 := (g256 (o + 9) (by omega)).trans a241
  have a270 : ad262 (o + 9) = q89 := (g264 (o + 9) (by omega)).trans a269
  have c271 : cl253 (o + 9) = .inl (G 4, 6, .inr (.inr (.inr (.inr (va_up (va_up (va_up (va_up (va_up (fun _ => none) (0 : Int32).toNatClampNeg (some q105)) (1 : Int32).toNatClampNeg (some q135)) (2 : Int32).toNatClampNeg (some q164)) (3 : Int32).toNatClampNeg (some q193)) (4 : Int32).toNatClampNeg (some q222)))))) := (g257 (o + 9) (by omega)).trans b248.hd
  have c272 : cl263 (o + 9) = .inl (G 4, 6, .inr (.inr (.inr (.inr (va_up (va_up (va_up (va_up (va_up (fun _ => none) (0 : Int32).toNatClampNeg (some q105)) (1 : Int32).toNatClampNeg (some q135)) (2 : Int32).toNatClampNeg (some q164)) (3 : Int32).toNatClampNeg (some q193)) (4 : Int32).toNatClampNeg (some q222)))))) := (g265 (o + 9) (by omega)).trans c271
  have a273 : ad262 (o + 20) = q251 := (g264 (o + 20) (by omega)).trans a260
  refine g_astQ X w (o + 9) a270 (by omega) c272 (o + 20) a273 (by omega) b266.hd (x := 5) (by unfold vp_in; decide) dX11_init_77 (fun H locs w => ?_)
  generalize e275 : va_up cl263 (o + 9) (.inl (G 4, 6, .inr (.inr (.inr (.inr (va_up (va_up (va_up (va_up (va_up (va_up (fun _ => none) (0 : Int32).toNatClampNeg (some q105)) (1 : Int32).toNatClampNeg (some q135)) (2 : Int32).toNatClampNeg (some q164)) (3 : Int32).toNatClampNeg (some q193)) (4 : Int32).toNatClampNeg (some q222)) (5 : Int32).toNatClampNeg (some q251))))))) = cl274 at w
  have g276 : ∀ k, k ≠ o + 9 → cl274 k = cl263 k := fun k hk => by rw [← e275, va_up_ne _ _ hk]
  have b277 : Blk cl274 (o + 9) [.inl (G 4, 6, .inr (.inr (.inr (.inr (va_up (va_up (va_up (va_up (va_up (va_up (fun _ => none) (0 : Int32).toNatClampNeg (some q105)) (1 : Int32).toNatClampNeg (some q135)) (2 : Int32).toNatClampNeg (some q164)) (3 : Int32).toNatClampNeg (some q193)) (4 : Int32).toNatClampNeg (some q222)) (5 : Int32).toNatClampNeg (some q251))))))] := Blk.cons (by rw [← e275, va_up_self]) Blk.nil
  have c278 : cl274 (o) = .inr (11, [.ref (q1), .ref (q23), .ref (q45), .ref (q67), .ref (q89), .int (0), .int (0), .null, .null, .null, .null, .null, .null, .null, .int (0)]) := (g276 (o) (by omega)).trans c268
  have fc : ∀ k, k < o → cl274 k = cl k := fun k hk => (g276 (k) (by omega)).trans (fc k hk)
  refine lv_iinc (v := 6) (lv' := [(1, .int (6)), (0, .ref (ad (o)))]) hx hb dX11_init_78 hl (k := 0) rfl (by decide) (by decide) rfl (fun ls hl => ?_)
  refine lv_goto (tgt := 59) hx hb dX11_init_81 (by decide) ?_
  refine lv_iload_n hx hb dX11_init_59 rfl (lv_at hl 0 rfl) ?_
  refine lv_bipush (v := 6) hx hb dX11_init_60 (by decide) ?_
  refine lv_icmp_ge (tgt := 84) hx hb dX11_init_62 (by decide) (fun h279 => ?_) (fun h279 => absurd (by decide) h279)
  refine lv_aload_n hx hb dX11_init_84 rfl (lv_at hl 1 rfl) ?_
  refine g_new X w kc4 k_RX11_29 wt_4 wi_4 bl_4 (Nat.le_of_ble_eq_true rfl) (Nat.le_of_ble_eq_true rfl) dX11_init_85 (fun q280 H w => ?_)
  generalize e283 : va_up ad262 (o + 22) q280 = ad281 at w
  generalize e284 : va_up cl274 (o + 22) (.inr (4, [.int 0, .int 0, .int 0])) = cl282 at w
  have g285 : ∀ k, k < o + 22 → ad281 k = ad262 k := fun k hk => by rw [← e283, va_up_ne _ _ (by omega)]
  have g286 : ∀ k, k < o + 22 → cl282 k = cl274 k := fun k hk => by rw [← e284, va_up_ne _ _ (by omega)]
  have a287 : ad281 (o) = ad (o) := (g285 (o) (by omega)).trans a267
  have c288 : cl282 (o) = .inr (11, [.ref (q1), .ref (q23), .ref (q45), .ref (q67), .ref (q89), .int (0), .int (0), .null, .null, .null, .null, .null, .null, .null, .int (0)]) := (g286 (o) (by omega)).trans c278
  have fa : ∀ k, k < o + 1 → ad281 k = ad k := fun k hk => (g285 (k) (by omega)).trans (fa k hk)
  have fc : ∀ k, k < o → cl282 k = cl k := fun k hk => (g286 (k) (by omega)).trans (fc k hk)
  have a289 : ad281 (o + 22) = q280 := by rw [← e283, va_up_self]
  have c290 : cl282 (o + 22) = .inr (4, [.int 0, .int 0, .int 0]) := by rw [← e284, va_up_self]
  refine lv_dup hx hb dX11_init_88 rfl ?_
  refine c_initN (As := []) (rest := [.ref (q280), .ref (ad (o))]) X w (cn_4 l D G t (o + 23) ad281 cl282 (o + 22) rfl c290 (d - 1) (by omega)) YX4_init k_RX11_31 (by rw [a289]) rfl rfl hl.1 (rm_call (by omega) (by decide)) (Nat.le_of_ble_eq_true rfl) dX11_init_89 (⟨Nat.le_of_ble_eq_true rfl, Nat.le_of_ble_eq_true rfl⟩) (fun u H locs hp w => ?_)
  obtain ⟨ad291, cl292, rfl, g293, g294, b295⟩ := hp
  have w : Wd D A s H locs (o + 23) ad291 cl292 := w
  have b295 : Blk cl292 (o + 22) (bX4 G ad291 (o + 22)) := b295
  have a296 : ad291 (o) = ad (o) := (g293 (o) (by omega)).trans a287
  have c297 : cl292 (o) = .inr (11, [.ref (q1), .ref (q23), .ref (q45), .ref (q67), .ref (q89), .int (0), .int (0), .null, .null, .null, .null, .null, .null, .null, .int (0)]) := (g294 (o) (by omega)).trans c288
  have fa : ∀ k, k < o + 1 → ad291 k = ad k := fun k hk => (g293 (k) (by omega)).trans (fa k hk)
  have fc : ∀ k, k < o → cl292 k = cl k := fun k hk => (g294 (k) (by omega)).trans (fc k hk)
  refine g_putF X w (o) a296 (by omega) c297 kc11 7 (by decide) rfl rfl k_RX11_32 rfl hin rfl rfl (Nat.le_of_ble_eq_true rfl) dX11_init_92 (fun H locs w => ?_)
  have w : Wd D A s H locs (o + 23) ad291 (va_up cl292 (o) (.inr (11, [.ref (q1), .ref (q23), .ref (q45), .ref (q67), .ref (q89), .int (0), .int (0), .ref (q280), .null, .null, .null, .null, .null, .null, .int (0)]))) := w
  generalize e299 : va_up cl292 (o) (.inr (11, [.ref (q1), .ref (q23), .ref (q45), .ref (q67), .ref (q89), .int (0), .int (0), .ref (q280), .null, .null, .null, .null, .null, .null, .int (0)])) = cl298 at w
  have g300 : ∀ k, k ≠ o → cl298 k = cl292 k := fun k hk => by rw [← e299, va_up_ne _ _ hk]
  have c301 : cl298 (o) = .inr (11, [.ref (q1), .ref (q23), .ref (q45), .ref (q67), .ref (q89), .int (0), .int (0), .ref (q280), .null, .null, .null, .null, .null, .null, .int (0)]) := by rw [← e299, va_up_self]
  have fc : ∀ k, k < o → cl298 k = cl k := fun k hk => (g300 (k) (by omega)).trans (fc k hk)
  refine lv_aload_n hx hb dX11_init_95 rfl (lv_at hl 1 rfl) ?_
  refine g_new X w kc6 k_RX11_36 wt_6 wi_6 bl_6 (Nat.le_of_ble_eq_true rfl) (Nat.le_of_ble_eq_true rfl) dX11_init_96 (fun q302 H w => ?_)
  generalize e305 : va_up ad291 (o + 23) q302 = ad303 at w
  generalize e306 : va_up cl298 (o + 23) (.inr (6, [.null, .null, .null, .null, .null, .null, .null, .null])) = cl304 at w
  have g307 : ∀ k, k < o + 23 → ad303 k = ad291 k := fun k hk => by rw [← e305, va_up_ne _ _ (by omega)]
  have g308 : ∀ k, k < o + 23 → cl304 k = cl298 k := fun k hk => by rw [← e306, va_up_ne _ _ (by omega)]
  have a309 : ad303 (o) = ad (o) := (g307 (o) (by omega)).trans a296
  have c310 : cl304 (o) = .inr (11, [.ref (q1), .ref (q23), .ref (q45), .ref (q67), .ref (q89), .int (0), .int (0), .ref (q280), .null, .null, .null, .null, .null, .null, .int (0)]) := (g308 (o) (by omega)).trans c301
  have fa : ∀ k, k < o + 1 → ad303 k = ad k := fun k hk => (g307 (k) (by omega)).trans (fa k hk)
  have fc : ∀ k, k < o → cl304 k = cl k := fun k hk => (g308 (k) (by omega)).trans (fc k hk)
  have a311 : ad303 (o + 23) = q302 := by rw [← e305, va_up_self]
  have c312 : cl304 (o + 23) = .inr (6, [.null, .null, .null, .null, .null, .null, .null, .null]) := by rw [← e306, va_up_self]
  refine lv_dup hx hb dX11_init_99 rfl ?_
  refine lv_aload_n hx hb dX11_init_100 rfl (lv_at hl 1 rfl) ?_
  refine g_get X w (o) a309 (by omega) c310 kc11 7 (by decide) rfl k_RX11_32 rfl dX11_init_101 ?_
  refine c_init (As := [.ref (q280)]) (rest := [.ref (q302), .ref (ad (o))]) X w (cn_6 l D G t (o + 24) ad303 cl304 (o + 23) rfl c312 (q280) (d - 1) (by omega)) YX6_init k_RX11_38 (by rw [a311]) rfl rfl hl.1 (rm_call (by omega) (by decide)) (Nat.le_of_ble_eq_true rfl) dX11_init_104 (⟨Nat.le_of_ble_eq_true rfl, Nat.le_of_ble_eq_true rfl⟩) (fun u H locs hp w => ?_)
  obtain ⟨ad313, cl314, rfl, g315, g316, b317⟩ := hp
  have w : Wd D A s H locs (o + 49) ad313 cl314 := w
  have b317 : Blk cl314 (o + 23) (bX6 G ad313 (o + 23) (q280)) := b317
  have a318 : ad313 (o) = ad (o) := (g315 (o) (by omega)).trans a309
  have c319 : cl314 (o) = .inr (11, [.ref (q1), .ref (q23), .ref (q45), .ref (q67), .ref (q89), .int (0), .int (0), .ref (q280), .null, .null, .null, .null, .null, .null, .int (0)]) := (g316 (o) (by omega)).trans c310
  have fa : ∀ k, k < o + 1 → ad313 k = ad k := fun k hk => (g315 (k) (by omega)).trans (fa k hk)
  have fc : ∀ k, k < o → cl314 k = cl k := fun k hk => (g316 (k) (by omega)).trans (fc k hk)
  refine g_putF X w (o) a318 (by omega) c319 kc11 8 (by decide) rfl rfl k_RX11_41 rfl hin rfl rfl (Nat.le_of_ble_eq_true rfl) dX11_init_107 (fun H locs w => ?_)
  have w : Wd D A s H locs (o + 49) ad313 (va_up cl314 (o) (.inr (11, [.ref (q1), .ref (q23), .ref (q45), .ref (q67), .ref (q89), .int (0), .int (0), .ref (q280), .ref (q302), .null, .null, .null, .null, .null, .int (0)]))) := w
  generalize e321 : va_up cl314 (o) (.inr (11, [.ref (q1), .ref (q23), .ref (q45), .ref (q67), .ref (q89), .int (0), .int (0), .ref (q280), .ref (q302), .null, .null, .null, .null, .null, .int (0)])) = cl320 at w
  have g322 : ∀ k, k ≠ o → cl320 k = cl314 k := fun k hk => by rw [← e321, va_up_ne _ _ hk]
  have c323 : cl320 (o) = .inr (11, [.ref (q1), .ref (q23), .ref (q45), .ref (q67), .ref (q89), .int (0), .int (0), .ref (q280), .ref (q302), .null, .null, .null, .null, .null, .int (0)]) := by rw [← e321, va_up_self]
  have fc : ∀ k, k < o → cl320 k = cl k := fun k hk => (g322 (k) (by omega)).trans (fc k hk)
  refine g_new X w kc2 k_RX11_45 wt_2 wi_2 bl_2 (Nat.le_of_ble_eq_true rfl) (Nat.le_of_ble_eq_true rfl) dX11_init_110 (fun q324 H w => ?_)
  generalize e327 : va_up ad313 (o + 49) q324 = ad325 at w
  generalize e328 : va_up cl320 (o + 49) (.inr (2, [.null, .null, .null, .null, .null, .null, .null, .null, .null, .null, .null, .null, .int 0, .int 0, .int 0, .int 0])) = cl326 at w
  have g329 : ∀ k, k < o + 49 → ad325 k = ad313 k := fun k hk => by rw [← e327, va_up_ne _ _ (by omega)]
  have g330 : ∀ k, k < o + 49 → cl326 k = cl320 k := fun k hk => by rw [← e328, va_up_ne _ _ (by omega)]
  have a331 : ad325 (o) = ad (o) := (g329 (o) (by omega)).trans a318
  have c332 : cl326 (o) = .inr (11, [.ref (q1), .ref (q23), .ref (q45), .ref (q67), .ref (q89), .int (0), .int (0), .ref (q280), .ref (q302), .null, .null, .null, .null, .null, .int (0)]) := (g330 (o) (by omega)).trans c323
  have fa : ∀ k, k < o + 1 → ad325 k = ad k := fun k hk => (g329 (k) (by omega)).trans (fa k hk)
  have fc : ∀ k, k < o → cl326 k = cl k := fun k hk => (g330 (k) (by omega)).trans (fc k hk)
  have a333 : ad325 (o + 49) = q324 := by rw [← e327, va_up_self]
  have c334 : cl326 (o + 49) = .inr (2, [.null, .null, .null, .null, .null, .null, .null, .null, .null, .null, .null, .null, .int 0, .int 0, .int 0, .int 0]) := by rw [← e328, va_up_self]
  refine lv_dup hx hb dX11_init_113 rfl ?_
  refine c_init (As := []) (rest := [.ref (q324)]) X w (cn_2 l D G t (o + 50) ad325 cl326 (o + 49) rfl c334 (d - 1) (by omega)) YX2_init k_RX11_47 (by rw [a333]) rfl rfl hl.1 (rm_call (by omega) (by decide)) (Nat.le_of_ble_eq_true rfl) dX11_init_114 (⟨Nat.le_of_ble_eq_true rfl, Nat.le_of_ble_eq_true rfl⟩) (fun u H locs hp w => ?_)
  obtain ⟨ad335, cl336, rfl, g337, g338, b339⟩ := hp
  have w : Wd D A s H locs (o + 86) ad335 cl336 := w
  have b339 : Blk cl336 (o + 49) (bX2 G ad335 (o + 49)) := b339
  have a340 : ad335 (o) = ad (o) := (g337 (o) (by omega)).trans a331
  have c341 : cl336 (o) = .inr (11, [.ref (q1), .ref (q23), .ref (q45), .ref (q67), .ref (q89), .int (0), .int (0), .ref (q280), .ref (q302), .null, .null, .null, .null, .null, .int (0)]) := (g338 (o) (by omega)).trans c332
  have fa : ∀ k, k < o + 1 → ad335 k = ad k := fun k hk => (g337 (k) (by omega)).trans (fa k hk)
  have fc : ∀ k, k < o → cl336 k = cl k := fun k hk => (g338 (k) (by omega)).trans (fc k hk)
  refine lv_astore_n (lv' := [(1, .ref (q324)), (0, .ref (ad (o)))]) hx hb dX11_init_117 rfl hl (by decide) rfl (fun ls hl => ?_)
  refine lv_aload_n hx hb dX11_init_118 rfl (lv_at hl 1 rfl) ?_
  refine g_new X w kc10 k_RX11_48 wt_10 wi_10 bl_10 (Nat.le_of_ble_eq_true rfl) (Nat.le_of_ble_eq_true rfl) dX11_init_119 (fun q342 H w => ?_)
  generalize e345 : va_up ad335 (o + 86) q342 = ad343 at w
  generalize e346 : va_up cl336 (o + 86) (.inr (10, [.null, .null, .null, .null, .null, .null, .null, .null, .null, .null, .null, .null, .null, .int 0, .int 0, .int 0, .int 0, .int 0, .int 0])) = cl344 at w
  have g347 : ∀ k, k < o + 86 → ad343 k = ad335 k := fun k hk => by rw [← e345, va_up_ne _ _ (by omega)]
  have g348 : ∀ k, k < o + 86 → cl344 k = cl336 k := fun k hk => by rw [← e346, va_up_ne _ _ (by omega)]
  have a349 : ad343 (o) = ad (o) := (g347 (o) (by omega)).trans a340
  have c350 : cl344 (o) = .inr (11, [.ref (q1), .ref (q23), .ref (q45), .ref (q67), .ref (q89), .int (0), .int (0), .ref (q280), .ref (q302), .null, .null, .null, .null, .null, .int (0)]) := (g348 (o) (by omega)).trans c341
  have fa : ∀ k, k < o + 1 → ad343 k = ad k := fun k hk => (g347 (k) (by omega)).trans (fa k hk)
  have fc : ∀ k, k < o → cl344 k = cl k := fun k hk => (g348 (k) (by omega)).trans (fc k hk)
  have a351 : ad343 (o + 86) = q342 := by rw [← e345, va_up_self]
  have c352 : cl344 (o + 86) = .inr (10, [.null, .null, .null, .null, .null, .null, .null, .null, .null, .null, .null, .null, .null, .int 0, .int 0, .int 0, .int 0, .int 0, .int 0]) := by rw [← e346, va_up_self]
  refine lv_dup hx hb dX11_init_122 rfl ?_
  refine lv_aload_n hx hb dX11_init_123 rfl (lv_at hl 1 rfl) ?_
  refine g_get X w (o) a349 (by omega) c350 kc11 7 (by decide) rfl k_RX11_32 rfl dX11_init_124 ?_
  refine lv_aload_n hx hb dX11_init_127 rfl (lv_at hl 1 rfl) ?_
  refine g_get X w (o) a349 (by omega) c350 kc11 8 (by decide) rfl k_RX11_41 rfl dX11_init_128 ?_
  refine lv_aload_n hx hb dX11_init_131 rfl (lv_at hl 0 rfl) ?_
  refine c_init (As := [.ref (q280), .ref (q302), .ref (q324)]) (rest := [.ref (q342), .ref (ad (o))]) X w (cn_10 l D G t (o + 87) ad343 cl344 (o + 86) rfl c352 (q280) (q302) (q324) (d - 1) (by omega)) YX10_init k_RX11_50 (by rw [a351]) rfl rfl hl.1 (rm_call (by omega) (by decide)) (Nat.le_of_ble_eq_true rfl) dX11_init_132 (⟨Nat.le_of_ble_eq_true rfl, Nat.le_of_ble_eq_true rfl⟩) (fun u H locs hp w => ?_)
  obtain ⟨ad353, cl354, rfl, g355, g356, b357⟩ := hp
  have w : Wd D A s H locs (o + 111) ad353 cl354 := w
  have b357 : Blk cl354 (o + 86) (bX10 G ad353 (o + 86) (q280) (q302) (q324)) := b357
  have a358 : ad353 (o) = ad (o) := (g355 (o) (by omega)).trans a349
  have c359 : cl354 (o) = .inr (11, [.ref (q1), .ref (q23), .ref (q45), .ref (q67), .ref (q89), .int (0), .int (0), .ref (q280), .ref (q302), .null, .null, .null, .null, .null, .int (0)]) := (g356 (o) (by omega)).trans c350
  have fa : ∀ k, k < o + 1 → ad353 k = ad k := fun k hk => (g355 (k) (by omega)).trans (fa k hk)
  have fc : ∀ k, k < o → cl354 k = cl k := fun k hk => (g356 (k) (by omega)).trans (fc k hk)
  refine g_putF X w (o) a358 (by omega) c359 kc11 9 (by decide) rfl rfl k_RX11_53 rfl hin rfl rfl (Nat.le_of_ble_eq_true rfl) dX11_init_135 (fun H locs w => ?_)
  have w : Wd D A s H locs (o + 111) ad353 (va_up cl354 (o) (.inr (11, [.ref (q1), .ref (q23), .ref (q45), .ref (q67), .ref (q89), .int (0), .int (0), .ref (q280), .ref (q302), .ref (q342), .null, .null, .null, .null, .int (0)]))) := w
  generalize e361 : va_up cl354 (o) (.inr (11, [.ref (q1), .ref (q23), .ref (q45), .ref (q67), .ref (q89), .int (0), .int (0), .ref (q280), .ref (q302), .ref (q342), .null, .null, .null, .null, .int (0)])) = cl360 at w
  have g362 : ∀ k, k ≠ o → cl360 k = cl354 k := fun k hk => by rw [← e361, va_up_ne _ _ hk]
  have c363 : cl360 (o) = .inr (11, [.ref (q1), .ref (q23), .ref (q45), .ref (q67), .ref (q89), .int (0), .int (0), .ref (q280), .ref (q302), .ref (q342), .null, .null, .null, .null, .int (0)]) := by rw [← e361, va_up_self]
  have fc : ∀ k, k < o → cl360 k = cl k := fun k hk => (g362 (k) (by omega)).trans (fc k hk)
  refine lv_aload_n hx hb dX11_init_138 rfl (lv_at hl 1 rfl) ?_
  refine g_new X w kc0 k_RX11_57 wt_0 wi_0 bl_0 (Nat.le_of_ble_eq_true rfl) (Nat.le_of_ble_eq_true rfl) dX11_init_139 (fun q364 H w => ?_)
  generalize e367 : va_up ad353 (o + 111) q364 = ad365 at w
  generalize e368 : va_up cl360 (o + 111) (.inr (0, [.null, .null, .null, .null, .null, .null, .null, .null, .null, .int 0, .int 0, .int 0, .int 0])) = cl366 at w
  have g369 : ∀ k, k < o + 111 → ad365 k = ad353 k := fun k hk => by rw [← e367, va_up_ne _ _ (by omega)]
  have g370 : ∀ k, k < o + 111 → cl366 k = cl360 k := fun k hk => by rw [← e368, va_up_ne _ _ (by omega)]
  have a371 : ad365 (o) = ad (o) := (g369 (o) (by omega)).trans a358
  have c372 : cl366 (o) = .inr (11, [.ref (q1), .ref (q23), .ref (q45), .ref (q67), .ref (q89), .int (0), .int (0), .ref (q280), .ref (q302), .ref (q342), .null, .null, .null, .null, .int (0)]) := (g370 (o) (by omega)).trans c363
  have fa : ∀ k, k < o + 1 → ad365 k = ad k := fun k hk => (g369 (k) (by omega)).trans (fa k hk)
  have fc : ∀ k, k < o → cl366 k = cl k := fun k hk => (g370 (k) (by omega)).trans (fc k hk)
  have a373 : ad365 (o + 111) = q364 := by rw [← e367, va_up_self]
  have c374 : cl366 (o + 111) = .inr (0, [.null, .null, .null, .null, .null, .null, .null, .null, .null, .int 0, .int 0, .int 0, .int 0]) := by rw [← e368, va_up_self]
  refine lv_dup hx hb dX11_init_142 rfl ?_
  refine lv_aload_n hx hb dX11_init_143 rfl (lv_at hl 1 rfl) ?_
  refine g_get X w (o) a371 (by omega) c372 kc11 8 (by decide) rfl k_RX11_41 rfl dX11_init_144 ?_
  refine c_init (As := [.ref (q302)]) (rest := [.ref (q364), .ref (ad (o))]) X w (cn_0 l D G t (o + 112) ad365 cl366 (o + 111) rfl c374 (q302) (d - 1) (by omega)) YX0_init k_RX11_59 (by rw [a373]) rfl rfl hl.1 (rm_call (by omega) (by decide)) (Nat.le_of_ble_eq_true rfl) dX11_init_147 (⟨Nat.le_of_ble_eq_true rfl, Nat.le_of_ble_eq_true rfl⟩) (fun u H locs hp w => ?_)
  obtain ⟨ad375, cl376, rfl, g377, g378, b379⟩ := hp
  have w : Wd D A s H locs (o + 127) ad375 cl376 := w
  have b379 : Blk cl376 (o + 111) (bX0 G ad375 (o + 111) (q302)) := b379
  have a380 : ad375 (o) = ad (o) := (g377 (o) (by omega)).trans a371
  have c381 : cl376 (o) = .inr (11, [.ref (q1), .ref (q23), .ref (q45), .ref (q67), .ref (q89), .int (0), .int (0), .ref (q280), .ref (q302), .ref (q342), .null, .null, .null, .null, .int (0)]) := (g378 (o) (by omega)).trans c372
  have fa : ∀ k, k < o + 1 → ad375 k = ad k := fun k hk => (g377 (k) (by omega)).trans (fa k hk)
  have fc : ∀ k, k < o → cl376 k = cl k := fun k hk => (g378 (k) (by omega)).trans (fc k hk)
  refine g_putF X w (o) a380 (by omega) c381 kc11 10 (by decide) rfl rfl k_RX11_62 rfl hin rfl rfl (Nat.le_of_ble_eq_true rfl) dX11_init_150 (fun H locs w => ?_)
  have w : Wd D A s H locs (o + 127) ad375 (va_up cl376 (o) (.inr (11, [.ref (q1), .ref (q23), .ref (q45), .ref (q67), .ref (q89), .int (0), .int (0), .ref (q280), .ref (q302), .ref (q342), .ref (q364), .null, .null, .null, .int (0)]))) := w
  generalize e383 : va_up cl376 (o) (.inr (11, [.ref (q1), .ref (q23), .ref (q45), .ref (q67), .ref (q89), .int (0), .int (0), .ref (q280), .ref (q302), .ref (q342), .ref (q364), .null, .null, .null, .int (0)])) = cl382 at w
  have g384 : ∀ k, k ≠ o → cl382 k = cl376 k := fun k hk => by rw [← e383, va_up_ne _ _ hk]
  have c385 : cl382 (o) = .inr (11, [.ref (q1), .ref (q23), .ref (q45), .ref (q67), .ref (q89), .int (0), .int (0), .ref (q280), .ref (q302), .ref (q342), .ref (q364), .null, .null, .null, .int (0)]) := by rw [← e383, va_up_self]
  have fc : ∀ k, k < o → cl382 k = cl k := fun k hk => (g384 (k) (by omega)).trans (fc k hk)
  refine lv_aload_n hx hb dX11_init_153 rfl (lv_at hl 1 rfl) ?_
  refine g_new X w kc7 k_RX11_66 wt_7 wi_7 bl_7 (Nat.le_of_ble_eq_true rfl) (Nat.le_of_ble_eq_true rfl) dX11_init_154 (fun q386 H w => ?_)
  generalize e389 : va_up ad375 (o + 127) q386 = ad387 at w
  generalize e390 : va_up cl382 (o + 127) (.inr (7, [.null, .null, .null, .null, .null, .null, .null, .null, .null, .null, .null, .null, .null, .null, .null, .null, .int 0, .int 0, .int 0])) = cl388 at w
  have g391 : ∀ k, k < o + 127 → ad387 k = ad375 k := fun k hk => by rw [← e389, va_up_ne _ _ (by omega)]
  have g392 : ∀ k, k < o + 127 → cl388 k = cl382 k := fun k hk => by rw [← e390, va_up_ne _ _ (by omega)]
  have a393 : ad387 (o) = ad (o) := (g391 (o) (by omega)).trans a380
  have c394 : cl388 (o) = .inr (11, [.ref (q1), .ref (q23), .ref (q45), .ref (q67), .ref (q89), .int (0), .int (0), .ref (q280), .ref (q302), .ref (q342), .ref (q364), .null, .null, .null, .int (0)]) := (g392 (o) (by omega)).trans c385
  have fa : ∀ k, k < o + 1 → ad387 k = ad k := fun k hk => (g391 (k) (by omega)).trans (fa k hk)
  have fc : ∀ k, k < o → cl388 k = cl k := fun k hk => (g392 (k) (by omega)).trans (fc k hk)
  have a395 : ad387 (o + 127) = q386 := by rw [← e389, va_up_self]
  have c396 : cl388 (o + 127) = .inr (7, [.null, .null, .null, .null, .null, .null, .null, .null, .null, .null, .null, .null, .null, .null, .null, .null, .int 0, .int 0, .int 0]) := by rw [← e390, va_up_self]
  refine lv_dup hx hb dX11_init_157 rfl ?_
  refine lv_aload_n hx hb dX11_init_158 rfl (lv_at hl 1 rfl) ?_
  refine g_get X w (o) a393 (by omega) c394 kc11 1 (by decide) rfl k_RX11_16 rfl dX11_init_159 ?_
  refine lv_aload_n hx hb dX11_init_162 rfl (lv_at hl 1 rfl) ?_
  refine g_get X w (o) a393 (by omega) c394 kc11 7 (by decide) rfl k_RX11_32 rfl dX11_init_163 ?_
  refine lv_aload_n hx hb dX11_init_166 rfl (lv_at hl 1 rfl) ?_
  refine g_get X w (o) a393 (by omega) c394 kc11 8 (by decide) rfl k_RX11_41 rfl dX11_init_167 ?_
  refine lv_aload_n hx hb dX11_init_170 rfl (lv_at hl 1 rfl) ?_
  refine g_get X w (o) a393 (by omega) c394 kc11 9 (by decide) rfl k_RX11_53 rfl dX11_init_171 ?_
  refine lv_aload_n hx hb dX11_init_174 rfl (lv_at hl 1 rfl) ?_
  refine g_get X w (o) a393 (by omega) c394 kc11 10 (by decide) rfl k_RX11_62 rfl dX11_init_175 ?_
  refine lv_aload_n hx hb dX11_init_178 rfl (lv_at hl 0 rfl) ?_
  refine c_init (As := [.ref (q23), .ref (q280), .ref (q302), .ref (q342), .ref (q364), .ref (q324)]) (rest := [.ref (q386), .ref (ad (o))]) X w (cn_7 l D G t (o + 128) ad387 cl388 (o + 127) rfl c396 (q23) (q280) (q302) (q342) (q364) (q324) (d - 1) (by omega)) YX7_init k_RX11_68 (by rw [a395]) rfl rfl hl.1 (rm_call (by omega) (by decide)) (Nat.le_of_ble_eq_true rfl) dX11_init_179 (⟨Nat.le_of_ble_eq_true rfl, Nat.le_of_ble_eq_true rfl⟩) (fun u H locs hp w => ?_)
  obtain ⟨ad397, cl398, rfl, g399, g400, b401⟩ := hp
  have w : Wd D A s H locs (o + 212) ad397 cl398 := w
  have b401 : Blk cl398 (o + 127) (bX7 G ad397 (o + 127) (q23) (q280) (q302) (q342) (q364) (q324)) := b401
  have a402 : ad397 (o) = ad (o) := (g399 (o) (by omega)).trans a393
  have c403 : cl398 (o) = .inr (11, [.ref (q1), .ref (q23), .ref (q45), .ref (q67), .ref (q89), .int (0), .int (0), .ref (q280), .ref (q302), .ref (q342), .ref (q364), .null, .null, .null, .int (0)]) := (g400 (o) (by omega)).trans c394
  have fa : ∀ k, k < o + 1 → ad397 k = ad k := fun k hk => (g399 (k) (by omega)).trans (fa k hk)
  have fc : ∀ k, k < o → cl398 k = cl k := fun k hk => (g400 (k) (by omega)).trans (fc k hk)
  refine g_putF X w (o) a402 (by omega) c403 kc11 11 (by decide) rfl rfl k_RX11_71 rfl hin rfl rfl (Nat.le_of_ble_eq_true rfl) dX11_init_182 (fun H locs w => ?_)
  have w : Wd D A s H locs (o + 212) ad397 (va_up cl398 (o) (.inr (11, [.ref (q1), .ref (q23), .ref (q45), .ref (q67), .ref (q89), .int (0), .int (0), .ref (q280), .ref (q302), .ref (q342), .ref (q364), .ref (q386), .null, .null, .int (0)]))) := w
  generalize e405 : va_up cl398 (o) (.inr (11, [.ref (q1), .ref (q23), .ref (q45), .ref (q67), .ref (q89), .int (0), .int (0), .ref (q280), .ref (q302), .ref (q342), .ref (q364), .ref (q386), .null, .null, .int (0)])) = cl404 at w
  have g406 : ∀ k, k ≠ o → cl404 k = cl398 k := fun k hk => by rw [← e405, va_up_ne _ _ hk]
  have c407 : cl404 (o) = .inr (11, [.ref (q1), .ref (q23), .ref (q45), .ref (q67), .ref (q89), .int (0), .int (0), .ref (q280), .ref (q302), .ref (q342), .ref (q364), .ref (q386), .null, .null, .int (0)]) := by rw [← e405, va_up_self]
  have fc : ∀ k, k < o → cl404 k = cl k := fun k hk => (g406 (k) (by omega)).trans (fc k hk)
  refine lv_aload_n hx hb dX11_init_185 rfl (lv_at hl 1 rfl) ?_
  refine g_new X w kc3 k_RX11_75 wt_3 wi_3 bl_3 (Nat.le_of_ble_eq_true rfl) (Nat.le_of_ble_eq_true rfl) dX11_init_186 (fun q408 H w => ?_)
  generalize e411 : va_up ad397 (o + 212) q408 = ad409 at w
  generalize e412 : va_up cl404 (o + 212) (.inr (3, [.int 0, .null, .null, .null, .null, .null, .null, .null])) = cl410 at w
  have g413 : ∀ k, k < o + 212 → ad409 k = ad397 k := fun k hk => by rw [← e411, va_up_ne _ _ (by omega)]
  have g414 : ∀ k, k < o + 212 → cl410 k = cl404 k := fun k hk => by rw [← e412, va_up_ne _ _ (by omega)]
  have a415 : ad409 (o) = ad (o) := (g413 (o) (by omega)).trans a402
  have c416 : cl410 (o) = .inr (11, [.ref (q1), .ref (q23), .ref (q45), .ref (q67), .ref (q89), .int (0), .int (0), .ref (q280), .ref (q302), .ref (q342), .ref (q364), .ref (q386), .null, .null, .int (0)]) := (g414 (o) (by omega)).trans c407
  have fa : ∀ k, k < o + 1 → ad409 k = ad k := fun k hk => (g413 (k) (by omega)).trans (fa k hk)
  have fc : ∀ k, k < o → cl410 k = cl k := fun k hk => (g414 (k) (by omega)).trans (fc k hk)
  have a417 : ad409 (o + 212) = q408 := by rw [← e411, va_up_self]
  have c418 : cl410 (o + 212) = .inr (3, [.int 0, .null, .null, .null, .null, .null, .null, .null]) := by rw [← e412, va_up_self]
  refine lv_dup hx hb dX11_init_189 rfl ?_
  refine c_init (As := []) (rest := [.ref (q408), .ref (ad (o))]) X w (cn_3 l D G t (o + 213) ad409 cl410 (o + 212) rfl c418 (d - 1) (by omega)) YX3_init k_RX11_77 (by rw [a417]) rfl rfl hl.1 (rm_call (by omega) (by decide)) (Nat.le_of_ble_eq_true rfl) dX11_init_190 (⟨Nat.le_of_ble_eq_true rfl, Nat.le_of_ble_eq_true rfl⟩) (fun u H locs hp w => ?_)
  obtain ⟨ad419, cl420, rfl, g421, g422, b423⟩ := hp
  have w : Wd D A s H locs (o + 229) ad419 cl420 := w
  have b423 : Blk cl420 (o + 212) (bX3 G ad419 (o + 212)) := b423
  have a424 : ad419 (o) = ad (o) := (g421 (o) (by omega)).trans a415
  have c425 : cl420 (o) = .inr (11, [.ref (q1), .ref (q23), .ref (q45), .ref (q67), .ref (q89), .int (0), .int (0), .ref (q280), .ref (q302), .ref (q342), .ref (q364), .ref (q386), .null, .null, .int (0)]) := (g422 (o) (by omega)).trans c416
  have fa : ∀ k, k < o + 1 → ad419 k = ad k := fun k hk => (g421 (k) (by omega)).trans (fa k hk)
  have fc : ∀ k, k < o → cl420 k = cl k := fun k hk => (g422 (k) (by omega)).trans (fc k hk)
  refine g_putF X w (o) a424 (by omega) c425 kc11 12 (by decide) rfl rfl k_RX11_78 rfl hin rfl rfl (Nat.le_of_ble_eq_true rfl) dX11_init_193 (fun H locs w => ?_)
  have w : Wd D A s H locs (o + 229) ad419 (va_up cl420 (o) (.inr (11, [.ref (q1), .ref (q23), .ref (q45), .ref (q67), .ref (q89), .int (0), .int (0), .ref (q280), .ref (q302), .ref (q342), .ref (q364), .ref (q386), .ref (q408), .null, .int (0)]))) := w
  generalize e427 : va_up cl420 (o) (.inr (11, [.ref (q1), .ref (q23), .ref (q45), .ref (q67), .ref (q89), .int (0), .int (0), .ref (q280), .ref (q302), .ref (q342), .ref (q364), .ref (q386), .ref (q408), .null, .int (0)])) = cl426 at w
  have g428 : ∀ k, k ≠ o → cl426 k = cl420 k := fun k hk => by rw [← e427, va_up_ne _ _ hk]
  have c429 : cl426 (o) = .inr (11, [.ref (q1), .ref (q23), .ref (q45), .ref (q67), .ref (q89), .int (0), .int (0), .ref (q280), .ref (q302), .ref (q342), .ref (q364), .ref (q386), .ref (q408), .null, .int (0)]) := by rw [← e427, va_up_self]
  have fc : ∀ k, k < o → cl426 k = cl k := fun k hk => (g428 (k) (by omega)).trans (fc k hk)
  refine lv_aload_n hx hb dX11_init_196 rfl (lv_at hl 1 rfl) ?_
  refine g_new X w kc3 k_RX11_75 wt_3 wi_3 bl_3 (Nat.le_of_ble_eq_true rfl) (Nat.le_of_ble_eq_true rfl) dX11_init_197 (fun q430 H w => ?_)
  generalize e433 : va_up ad419 (o + 229) q430 = ad431 at w
  generalize e434 : va_up cl426 (o + 229) (.inr (3, [.int 0, .null, .null, .null, .null, .null, .null, .null])) = cl432 at w
  have g435 : ∀ k, k < o + 229 → ad431 k = ad419 k := fun k hk => by rw [← e433, va_up_ne _ _ (by omega)]
  have g436 : ∀ k, k < o + 229 → cl432 k = cl426 k := fun k hk => by rw [← e434, va_up_ne _ _ (by omega)]
  have a437 : ad431 (o) = ad (o) := (g435 (o) (by omega)).trans a424
  have c438 : cl432 (o) = .inr (11, [.ref (q1), .ref (q23), .ref (q45), .ref (q67), .ref (q89), .int (0), .int (0), .ref (q280), .ref (q302), .ref (q342), .ref (q364), .ref (q386), .ref (q408), .null, .int (0)]) := (g436 (o) (by omega)).trans c429
  have fa : ∀ k, k < o + 1 → ad431 k = ad k := fun k hk => (g435 (k) (by omega)).trans (fa k hk)
  have fc : ∀ k, k < o → cl432 k = cl k := fun k hk => (g436 (k) (by omega)).trans (fc k hk)
  have a439 : ad431 (o + 229) = q430 := by rw [← e433, va_up_self]
  have c440 : cl432 (o + 229) = .inr (3, [.int 0, .null, .null, .null, .null, .null, .null, .null]) := by rw [← e434, va_up_self]
  refine lv_dup hx hb dX11_init_200 rfl ?_
  refine c_init (As := []) (rest := [.ref (q430), .ref (ad (o))]) X w (cn_3 l D G t (o + 230) ad431 cl432 (o + 229) rfl c440 (d - 1) (by omega)) YX3_init k_RX11_77 (by rw [a439]) rfl rfl hl.1 (rm_call (by omega) (by decide)) (Nat.le_of_ble_eq_true rfl) dX11_init_201 (⟨Nat.le_of_ble_eq_true rfl, Nat.le_of_ble_eq_true rfl⟩) (fun u H locs hp w => ?_)
  obtain ⟨ad441, cl442, rfl, g443, g444, b445⟩ := hp
  have w : Wd D A s H locs (o + 246) ad441 cl442 := w
  have b445 : Blk cl442 (o + 229) (bX3 G ad441 (o + 229)) := b445
  have a446 : ad441 (o) = ad (o) := (g443 (o) (by omega)).trans a437
  have c447 : cl442 (o) = .inr (11, [.ref (q1), .ref (q23), .ref (q45), .ref (q67), .ref (q89), .int (0), .int (0), .ref (q280), .ref (q302), .ref (q342), .ref (q364), .ref (q386), .ref (q408), .null, .int (0)]) := (g444 (o) (by omega)).trans c438
  have fa : ∀ k, k < o + 1 → ad441 k = ad k := fun k hk => (g443 (k) (by omega)).trans (fa k hk)
  have fc : ∀ k, k < o → cl442 k = cl k := fun k hk => (g444 (k) (by omega)).trans (fc k hk)
  refine g_putF X w (o) a446 (by omega) c447 kc11 13 (by decide) rfl rfl k_RX11_82 rfl hin rfl rfl (Nat.le_of_ble_eq_true rfl) dX11_init_204 (fun H locs w => ?_)
  have w : Wd D A s H locs (o + 246) ad441 (va_up cl442 (o) (.inr (11, [.ref (q1), .ref (q23), .ref (q45), .ref (q67), .ref (q89), .int (0), .int (0), .ref (q280), .ref (q302), .ref (q342), .ref (q364), .ref (q386), .ref (q408), .ref (q430), .int (0)]))) := w
  generalize e449 : va_up cl442 (o) (.inr (11, [.ref (q1), .ref (q23), .ref (q45), .ref (q67), .ref (q89), .int (0), .int (0), .ref (q280), .ref (q302), .ref (q342), .ref (q364), .ref (q386), .ref (q408), .ref (q430), .int (0)])) = cl448 at w
  have g450 : ∀ k, k ≠ o → cl448 k = cl442 k := fun k hk => by rw [← e449, va_up_ne _ _ hk]
  have c451 : cl448 (o) = .inr (11, [.ref (q1), .ref (q23), .ref (q45), .ref (q67), .ref (q89), .int (0), .int (0), .ref (q280), .ref (q302), .ref (q342), .ref (q364), .ref (q386), .ref (q408), .ref (q430), .int (0)]) := by rw [← e449, va_up_self]
  have fc : ∀ k, k < o → cl448 k = cl k := fun k hk => (g450 (k) (by omega)).trans (fc k hk)
  have FA55 : ∀ k, k < o + 246 → ad441 k = ad441 k := fun _ _ => rfl
  have FC55 : ∀ k, k ≠ o → k ≠ o + 9 → k < o + 246 → cl448 k = cl448 k := fun _ _ _ _ => rfl
  have FZ55 : ∀ k, k ≠ o → k < o + 246 → cl448 k = cl448 k := fun _ _ _ => rfl
  have FA54 : ∀ k, k < o + 246 → ad441 k = ad441 k := fun k hk => FA55 k (by omega)
  have FC54 : ∀ k, k ≠ o → k ≠ o + 9 → k < o + 246 → cl448 k = cl442 k := fun k h0 h9 hk => (FC55 k h0 h9 (by omega)).trans (g450 k h0)
  have FZ54 : ∀ k, k ≠ o → k < o + 246 → cl448 k = cl442 k := fun k h0 hk => (FZ55 k h0 (by omega)).trans (g450 k h0)
  have FA53 : ∀ k, k < o + 230 → ad441 k = ad431 k := fun k hk => (FA54 k (by omega)).trans (g443 k (by omega))
  have FC53 : ∀ k, k ≠ o → k ≠ o + 9 → k < o + 229 → cl448 k = cl432 k := fun k h0 h9 hk => (FC54 k h0 h9 (by omega)).trans (g444 k (by omega))
  have FZ53 : ∀ k, k ≠ o → k < o + 229 → cl448 k = cl432 k := fun k h0 hk => (FZ54 k h0 (by omega)).trans (g444 k (by omega))
  have FA52 : ∀ k, k < o + 229 → ad441 k = ad419 k := fun k hk => (FA53 k (by omega)).trans (g435 k (by omega))
  have FC52 : ∀ k, k ≠ o → k ≠ o + 9 → k < o + 229 → cl448 k = cl426 k := fun k h0 h9 hk => (FC53 k h0 h9 (by omega)).trans (g436 k (by omega))
  have FZ52 : ∀ k, k ≠ o → k < o + 229 → cl448 k = cl426 k := fun k h0 hk => (FZ53 k h0 (by omega)).trans (g436 k (by omega))
  have FA51 : ∀ k, k < o + 229 → ad441 k = ad419 k := fun k hk => FA52 k (by omega)
  have FC51 : ∀ k, k ≠ o → k ≠ o + 9 → k < o + 229 → cl448 k = cl420 k := fun k h0 h9 hk => (FC52 k h0 h9 (by omega)).trans (g428 k h0)
  have FZ51 : ∀ k, k ≠ o → k < o + 229 → cl448 k = cl420 k := fun k h0 hk => (FZ52 k h0 (by omega)).trans (g428 k h0)
  have FA50 : ∀ k, k < o + 213 → ad441 k = ad409 k := fun k hk => (FA51 k (by omega)).trans (g421 k (by omega))
  have FC50 : ∀ k, k ≠ o → k ≠ o + 9 → k < o + 212 → cl448 k = cl410 k := fun k h0 h9 hk => (FC51 k h0 h9 (by omega)).trans (g422 k (by omega))
  have FZ50 : ∀ k, k ≠ o → k < o + 212 → cl448 k = cl410 k := fun k h0 hk => (FZ51 k h0 (by omega)).trans (g422 k (by omega))
  have FA49 : ∀ k, k < o + 212 → ad441 k = ad397 k := fun k hk => (FA50 k (by omega)).trans (g413 k (by omega))
  have FC49 : ∀ k, k ≠ o → k ≠ o + 9 → k < o + 212 → cl448 k = cl404 k := fun k h0 h9 hk => (FC50 k h0 h9 (by omega)).trans (g414 k (by omega))
  have FZ49 : ∀ k, k ≠ o → k < o + 212 → cl448 k = cl404 k := fun k h0 hk => (FZ50 k h0 (by omega)).trans (g414 k (by omega))
  have FA48 : ∀ k, k < o + 212 → ad441 k = ad397 k := fun k hk => FA49 k (by omega)
  have FC48 : ∀ k, k ≠ o → k ≠ o + 9 → k < o + 212 → cl448 k = cl398 k := fun k h0 h9 hk => (FC49 k h0 h9 (by omega)).trans (g406 k h0)
  have FZ48 : ∀ k, k ≠ o → k < o + 212 → cl448 k = cl398 k := fun k h0 hk => (FZ49 k h0 (by omega)).trans (g406 k h0)
  have FA47 : ∀ k, k < o + 128 → ad441 k = ad387 k := fun k hk => (FA48 k (by omega)).trans (g399 k (by omega))
  have FC47 : ∀ k, k ≠ o → k ≠ o + 9 → k < o + 127 → cl448 k = cl388 k := fun k h0 h9 hk => (FC48 k h0 h9 (by omega)).trans (g400 k (by omega))
  have FZ47 : ∀ k, k ≠ o → k < o + 127 → cl448 k = cl388 k := fun k h0 hk => (FZ48 k h0 (by omega)).trans (g400 k (by omega))
  have FA46 : ∀ k, k < o + 127 → ad441 k = ad375 k := fun k hk => (FA47 k (by omega)).trans (g391 k (by omega))
  have FC46 : ∀ k, k ≠ o → k ≠ o + 9 → k < o + 127 → cl448 k = cl382 k := fun k h0 h9 hk => (FC47 k h0 h9 (by omega)).trans (g392 k (by omega))
  have FZ46 : ∀ k, k ≠ o → k < o + 127 → cl448 k = cl382 k := fun k h0 hk => (FZ47 k h0 (by omega)).trans (g392 k (by omega))
  have FA45 : ∀ k, k < o + 127 → ad441 k = ad375 k := fun k hk => FA46 k (by omega)
  have FC45 : ∀ k, k ≠ o → k ≠ o + 9 → k < o + 127 → cl448 k = cl376 k := fun k h0 h9 hk => (FC46 k h0 h9 (by omega)).trans (g384 k h0)
  have FZ45 : ∀ k, k ≠ o → k < o + 127 → cl448 k = cl376 k := fun k h0 hk => (FZ46 k h0 (by omega)).trans (g384 k h0)
  have FA44 : ∀ k, k < o + 112 → ad441 k = ad365 k := fun k hk => (FA45 k (by omega)).trans (g377 k (by omega))
  have FC44 : ∀ k, k ≠ o → k ≠ o + 9 → k < o + 111 → cl448 k = cl366 k := fun k h0 h9 hk => (FC45 k h0 h9 (by omega)).trans (g378 k (by omega))
  have FZ44 : ∀ k, k ≠ o → k < o + 111 → cl448 k = cl366 k := fun k h0 hk => (FZ45 k h0 (by omega)).trans (g378 k (by omega))
  have FA43 : ∀ k, k < o + 111 → ad441 k = ad353 k := fun k hk => (FA44 k (by omega)).trans (g369 k (by omega))
  have FC43 : ∀ k, k ≠ o → k ≠ o + 9 → k < o + 111 → cl448 k = cl360 k := fun k h0 h9 hk => (FC44 k h0 h9 (by omega)).trans (g370 k (by omega))
  have FZ43 : ∀ k, k ≠ o → k < o + 111 → cl448 k = cl360 k := fun k h0 hk => (FZ44 k h0 (by omega)).trans (g370 k (by omega))
  have FA42 : ∀ k, k < o + 111 → ad441 k = ad353 k := fun k hk => FA43 k (by omega)
  have FC42 : ∀ k, k ≠ o → k ≠ o + 9 → k < o + 111 → cl448 k = cl354 k := fun k h0 h9 hk => (FC43 k h0 h9 (by omega)).trans (g362 k h0)
  have FZ42 : ∀ k, k ≠ o → k < o + 111 → cl448 k = cl354 k := fun k h0 hk => (FZ43 k h0 (by omega)).trans (g362 k h0)
  have FA41 : ∀ k, k < o + 87 → ad441 k = ad343 k := fun k hk => (FA42 k (by omega)).trans (g355 k (by omega))
  have FC41 : ∀ k, k ≠ o → k ≠ o + 9 → k < o + 86 → cl448 k = cl344 k := fun k h0 h9 hk => (FC42 k h0 h9 (by omega)).trans (g356 k (by omega))
  have FZ41 : ∀ k, k ≠ o → k < o + 86 → cl448 k = cl344 k := fun k h0 hk => (FZ42 k h0 (by omega)).trans (g356 k (by omega))
  have FA40 : ∀ k, k < o + 86 → ad441 k = ad335 k := fun k hk => (FA41 k (by omega)).trans (g347 k (by omega))
  have FC40 : ∀ k, k ≠ o → k ≠ o + 9 → k < o + 86 → cl448 k = cl336 k := fun k h0 h9 hk => (FC41 k h0 h9 (by omega)).trans (g348 k (by omega))
  have FZ40 : ∀ k, k ≠ o → k < o + 86 → cl448 k = cl336 k := fun k h0 hk => (FZ41 k h0 (by omega)).trans (g348 k (by omega))
  have FA39 : ∀ k, k < o + 50 → ad441 k = ad325 k := fun k hk => (FA40 k (by omega)).trans (g337 k (by omega))
  have FC39 : ∀ k, k ≠ o → k ≠ o + 9 → k < o + 49 → cl448 k = cl326 k := fun k h0 h9 hk => (FC40 k h0 h9 (by omega)).trans (g338 k (by omega))
  have FZ39 : ∀ k, k ≠ o → k < o + 49 → cl448 k = cl326 k := fun k h0 hk => (FZ40 k h0 (by omega)).trans (g338 k (by omega))
  have FA38 : ∀ k, k < o + 49 → ad441 k = ad313 k := fun k hk => (FA39 k (by omega)).trans (g329 k (by omega))
  have FC38 : ∀ k, k ≠ o → k ≠ o + 9 → k < o + 49 → cl448 k = cl320 k := fun k h0 h9 hk => (FC39 k h0 h9 (by omega)).trans (g330 k (by omega))
  have FZ38 : ∀ k, k ≠ o → k < o + 49 → cl448 k = cl320 k := fun k h0 hk => (FZ39 k h0 (by omega)).trans (g330 k (by omega))
  have FA37 : ∀ k, k < o + 49 → ad441 k = ad313 k := fun k hk => FA38 k (by omega)
  have FC37 : ∀ k, k ≠ o → k ≠ o + 9 → k < o + 49 → cl448 k = cl314 k := fun k h0 h9 hk => (FC38 k h0 h9 (by omega)).trans (g322 k h0)
  have FZ37 : ∀ k, k ≠ o → k < o + 49 → cl448 k = cl314 k := fun k h0 hk => (FZ38 k h0 (by omega)).trans (g322 k h0)
  have FA36 : ∀ k, k < o + 24 → ad441 k = ad303 k := fun k hk => (FA37 k (by omega)).trans (g315 k (by omega))
  have FC36 : ∀ k, k ≠ o → k ≠ o + 9 → k < o + 23 → cl448 k = cl304 k := fun k h0 h9 hk => (FC37 k h0 h9 (by omega)).trans (g316 k (by omega))
  have FZ36 : ∀ k, k ≠ o → k < o + 23 → cl448 k = cl304 k := fun k h0 hk => (FZ37 k h0 (by omega)).trans (g316 k (by omega))
  have FA35 : ∀ k, k < o + 23 → ad441 k = ad291 k := fun k hk => (FA36 k (by omega)).trans (g307 k (by omega))
  have FC35 : ∀ k, k ≠ o → k ≠ o + 9 → k < o + 23 → cl448 k = cl298 k := fun k h0 h9 hk => (FC36 k h0 h9 (by omega)).trans (g308 k (by omega))
  have FZ35 : ∀ k, k ≠ o → k < o + 23 → cl448 k = cl298 k := fun k h0 hk => (FZ36 k h0 (by omega)).trans (g308 k (by omega))
  have FA34 : ∀ k, k < o + 23 → ad441 k = ad291 k := fun k hk => FA35 k (by omega)
  have FC34 : ∀ k, k ≠ o → k ≠ o + 9 → k < o + 23 → cl448 k = cl292 k := fun k h0 h9 hk => (FC35 k h0 h9 (by omega)).trans (g300 k h0)
  have FZ34 : ∀ k, k ≠ o → k < o + 23 → cl448 k = cl292 k := fun k h0 hk => (FZ35 k h0 (by omega)).trans (g300 k h0)
  have FA33 : ∀ k, k < o + 23 → ad441 k = ad281 k := fun k hk => (FA34 k (by omega)).trans (g293 k (by omega))
  have FC33 : ∀ k, k ≠ o → k ≠ o + 9 → k < o + 22 → cl448 k = cl282 k := fun k h0 h9 hk => (FC34 k h0 h9 (by omega)).trans (g294 k (by omega))
  have FZ33 : ∀ k, k ≠ o → k < o + 22 → cl448 k = cl282 k := fun k h0 hk => (FZ34 k h0 (by omega)).trans (g294 k (by omega))
  have FA32 : ∀ k, k < o + 22 → ad441 k = ad262 k := fun k hk => (FA33 k (by omega)).trans (g285 k (by omega))
  have FC32 : ∀ k, k ≠ o → k ≠ o + 9 → k < o + 22 → cl448 k = cl274 k := fun k h0 h9 hk => (FC33 k h0 h9 (by omega)).trans (g286 k (by omega))
  have FZ32 : ∀ k, k ≠ o → k < o + 22 → cl448 k = cl274 k := fun k h0 hk => (FZ33 k h0 (by omega)).trans (g286 k (by omega))
  have FA31 : ∀ k, k < o + 22 → ad441 k = ad262 k := fun k hk => FA32 k (by omega)
  have FC31 : ∀ k, k ≠ o → k ≠ o + 9 → k < o + 22 → cl448 k = cl263 k := fun k h0 h9 hk => (FC32 k h0 h9 (by omega)).trans (g276 k h9)
  have FA30 : ∀ k, k < o + 21 → ad441 k = ad252 k := fun k hk => (FA31 k (by omega)).trans (g264 k (by omega))
  have FC30 : ∀ k, k ≠ o → k ≠ o + 9 → k < o + 20 → cl448 k = cl253 k := fun k h0 h9 hk => (FC31 k h0 h9 (by omega)).trans (g265 k (by omega))
  have FA29 : ∀ k, k < o + 20 → ad441 k = ad233 k := fun k hk => (FA30 k (by omega)).trans (g256 k (by omega))
  have FC29 : ∀ k, k ≠ o → k ≠ o + 9 → k < o + 20 → cl448 k = cl245 k := fun k h0 h9 hk => (FC30 k h0 h9 (by omega)).trans (g257 k (by omega))
  have FA28 : ∀ k, k < o + 20 → ad441 k = ad233 k := fun k hk => FA29 k (by omega)
  have FC28 : ∀ k, k ≠ o → k ≠ o + 9 → k < o + 20 → cl448 k = cl234 k := fun k h0 h9 hk => (FC29 k h0 h9 (by omega)).trans (g247 k h9)
  have FA27 : ∀ k, k < o + 19 → ad441 k = ad223 k := fun k hk => (FA28 k (by omega)).trans (g235 k (by omega))
  have FC27 : ∀ k, k ≠ o → k ≠ o + 9 → k < o + 18 → cl448 k = cl224 k := fun k h0 h9 hk => (FC28 k h0 h9 (by omega)).trans (g236 k (by omega))
  have FA26 : ∀ k, k < o + 18 → ad441 k = ad204 k := fun k hk => (FA27 k (by omega)).trans (g227 k (by omega))
  have FC26 : ∀ k, k ≠ o → k ≠ o + 9 → k < o + 18 → cl448 k = cl216 k := fun k h0 h9 hk => (FC27 k h0 h9 (by omega)).trans (g228 k (by omega))
  have FA25 : ∀ k, k < o + 18 → ad441 k = ad204 k := fun k hk => FA26 k (by omega)
  have FC25 : ∀ k, k ≠ o → k ≠ o + 9 → k < o + 18 → cl448 k = cl205 k := fun k h0 h9 hk => (FC26 k h0 h9 (by omega)).trans (g218 k h9)
  have FA24 : ∀ k, k < o + 17 → ad441 k = ad194 k := fun k hk => (FA25 k (by omega)).trans (g206 k (by omega))
  have FC24 : ∀ k, k ≠ o → k ≠ o + 9 → k < o + 16 → cl448 k = cl195 k := fun k h0 h9 hk => (FC25 k h0 h9 (by omega)).trans (g207 k (by omega))
  have FA23 : ∀ k, k < o + 16 → ad441 k = ad175 k := fun k hk => (FA24 k (by omega)).trans (g198 k (by omega))
  have FC23 : ∀ k, k ≠ o → k ≠ o + 9 → k < o + 16 → cl448 k = cl187 k := fun k h0 h9 hk => (FC24 k h0 h9 (by omega)).trans (g199 k (by omega))
  have FA22 : ∀ k, k < o + 16 → ad441 k = ad175 k := fun k hk => FA23 k (by omega)
  have FC22 : ∀ k, k ≠ o → k ≠ o + 9 → k < o + 16 → cl448 k = cl176 k := fun k h0 h9 hk => (FC23 k h0 h9 (by omega)).trans (g189 k h9)
  have FA21 : ∀ k, k < o + 15 → ad441 k = ad165 k := fun k hk => (FA22 k (by omega)).trans (g177 k (by omega))
  have FC21 : ∀ k, k ≠ o → k ≠ o + 9 → k < o + 14 → cl448 k = cl166 k := fun k h0 h9 hk => (FC22 k h0 h9 (by omega)).trans (g178 k (by omega))
  have FA20 : ∀ k, k < o + 14 → ad441 k = ad146 k := fun k hk => (FA21 k (by omega)).trans (g169 k (by omega))
  have FC20 : ∀ k, k ≠ o → k ≠ o + 9 → k < o + 14 → cl448 k = cl158 k := fun k h0 h9 hk => (FC21 k h0 h9 (by omega)).trans (g170 k (by omega))
  have FA19 : ∀ k, k < o + 14 → ad441 k = ad146 k := fun k hk => FA20 k (by omega)
  have FC19 : ∀ k, k ≠ o → k ≠ o + 9 → k < o + 14 → cl448 k = cl147 k := fun k h0 h9 hk => (FC20 k h0 h9 (by omega)).trans (g160 k h9)
  have FA18 : ∀ k, k < o + 13 → ad441 k = ad136 k := fun k hk => (FA19 k (by omega)).trans (g148 k (by omega))
  have FC18 : ∀ k, k ≠ o → k ≠ o + 9 → k < o + 12 → cl448 k = cl137 k := fun k h0 h9 hk => (FC19 k h0 h9 (by omega)).trans (g149 k (by omega))
  have FA17 : ∀ k, k < o + 12 → ad441 k = ad116 k := fun k hk => (FA18 k (by omega)).trans (g140 k (by omega))
  have FC17 : ∀ k, k ≠ o → k ≠ o + 9 → k < o + 12 → cl448 k = cl129 k := fun k h0 h9 hk => (FC18 k h0 h9 (by omega)).trans (g141 k (by omega))
  have FA16 : ∀ k, k < o + 12 → ad441 k = ad116 k := fun k hk => FA17 k (by omega)
  have FC16 : ∀ k, k ≠ o → k ≠ o + 9 → k < o + 12 → cl448 k = cl117 k := fun k h0 h9 hk => (FC17 k h0 h9 (by omega)).trans (g131 k h9)
  have FA15 : ∀ k, k < o + 11 → ad441 k = ad106 k := fun k hk => (FA16 k (by omega)).trans (g118 k (by omega))
  have FC15 : ∀ k, k ≠ o → k ≠ o + 9 → k < o + 10 → cl448 k = cl107 k := fun k h0 h9 hk => (FC16 k h0 h9 (by omega)).trans (g119 k (by omega))
  have FA14 : ∀ k, k < o + 10 → ad441 k = ad90 k := fun k hk => (FA15 k (by omega)).trans (g110 k (by omega))
  have FC14 : ∀ k, k ≠ o → k ≠ o + 9 → k < o + 10 → cl448 k = cl100 k := fun k h0 h9 hk => (FC15 k h0 h9 (by omega)).trans (g111 k (by omega))
  have FA13 : ∀ k, k < o + 10 → ad441 k = ad90 k := fun k hk => FA14 k (by omega)
  have FC13 : ∀ k, k ≠ o → k ≠ o + 9 → k < o + 10 → cl448 k = cl91 k := fun k h0 h9 hk => (FC14 k h0 h9 (by omega)).trans (g102 k h0)
  have FA12 : ∀ k, k < o + 9 → ad441 k = ad78 k := fun k hk => (FA13 k (by omega)).trans (g94 k (by omega))
  have FC12 : ∀ k, k ≠ o → k ≠ o + 9 → k < o + 9 → cl448 k = cl85 k := fun k h0 h9 hk => (FC13 k h0 h9 (by omega)).trans (g95 k (by omega))
  have FA11 : ∀ k, k < o + 9 → ad441 k = ad78 k := fun k hk => FA12 k (by omega)
  have FC11 : ∀ k, k ≠ o → k ≠ o + 9 → k < o + 9 → cl448 k = cl79 k := fun k h0 h9 hk => (FC12 k h0 h9 (by omega)).trans (g87 k h0)
  have FA10 : ∀ k, k < o + 8 → ad441 k = ad68 k := fun k hk => (FA11 k (by omega)).trans (g80 k (by omega))
  have FC10 : ∀ k, k ≠ o → k ≠ o + 9 → k < o + 7 → cl448 k = cl69 k := fun k h0 h9 hk => (FC11 k h0 h9 (by omega)).trans (g81 k (by omega))
  have FA9 : ∀ k, k < o + 7 → ad441 k = ad56 k := fun k hk => (FA10 k (by omega)).trans (g72 k (by omega))
  have FC9 : ∀ k, k ≠ o → k ≠ o + 9 → k < o + 7 → cl448 k = cl63 k := fun k h0 h9 hk => (FC10 k h0 h9 (by omega)).trans (g73 k (by omega))
  have FA8 : ∀ k, k < o + 7 → ad441 k = ad56 k := fun k hk => FA9 k (by omega)
  have FC8 : ∀ k, k ≠ o → k ≠ o + 9 → k < o + 7 → cl448 k = cl57 k := fun k h0 h9 hk => (FC9 k h0 h9 (by omega)).trans (g65 k h0)
  have FA7 : ∀ k, k < o + 6 → ad441 k = ad46 k := fun k hk => (FA8 k (by omega)).trans (g58 k (by omega))
  have FC7 : ∀ k, k ≠ o → k ≠ o + 9 → k < o + 5 → cl448 k = cl47 k := fun k h0 h9 hk => (FC8 k h0 h9 (by omega)).trans (g59 k (by omega))
  have FA6 : ∀ k, k < o + 5 → ad441 k = ad34 k := fun k hk => (FA7 k (by omega)).trans (g50 k (by omega))
  have FC6 : ∀ k, k ≠ o → k ≠ o + 9 → k < o + 5 → cl448 k = cl41 k := fun k h0 h9 hk => (FC7 k h0 h9 (by omega)).trans (g51 k (by omega))
  have FA5 : ∀ k, k < o + 5 → ad441 k = ad34 k := fun k hk => FA6 k (by omega)
  have FC5 : ∀ k, k ≠ o → k ≠ o + 9 → k < o + 5 → cl448 k = cl35 k := fun k h0 h9 hk => (FC6 k h0 h9 (by omega)).trans (g43 k h0)
  have FA4 : ∀ k, k < o + 4 → ad441 k = ad24 k := fun k hk => (FA5 k (by omega)).trans (g36 k (by omega))
  have FC4 : ∀ k, k ≠ o → k ≠ o + 9 → k < o + 3 → cl448 k = cl25 k := fun k h0 h9 hk => (FC5 k h0 h9 (by omega)).trans (g37 k (by omega))
  have FA3 : ∀ k, k < o + 3 → ad441 k = ad12 k := fun k hk => (FA4 k (by omega)).trans (g28 k (by omega))
  have FC3 : ∀ k, k ≠ o → k ≠ o + 9 → k < o + 3 → cl448 k = cl19 k := fun k h0 h9 hk => (FC4 k h0 h9 (by omega)).trans (g29 k (by omega))
  have FA2 : ∀ k, k < o + 3 → ad441 k = ad12 k := fun k hk => FA3 k (by omega)
  have FC2 : ∀ k, k ≠ o → k ≠ o + 9 → k < o + 3 → cl448 k = cl13 k := fun k h0 h9 hk => (FC3 k h0 h9 (by omega)).trans (g21 k h0)
  have FA1 : ∀ k, k < o + 2 → ad441 k = ad2 k := fun k hk => (FA2 k (by omega)).trans (g14 k (by omega))
  have FC1 : ∀ k, k ≠ o → k ≠ o + 9 → k < o + 1 → cl448 k = cl3 k := fun k h0 h9 hk => (FC2 k h0 h9 (by omega)).trans (g15 k (by omega))
  have FA0 : ∀ k, k < o + 1 → ad441 k = ad k := fun k hk => (FA1 k (by omega)).trans (g6 k (by omega))
  have FC0 : ∀ k, k ≠ o → k ≠ o + 9 → k < o + 1 → cl448 k = cl k := fun k h0 h9 hk => (FC1 k h0 h9 (by omega)).trans (g7 k (by omega))
  have b452 : Blk cl448 (o + 1) (bX5 G ad441 (o + 1)) := by rw [cg5 (n := 2) (Nat.le_refl _) (fun k h1 h2 => FA2 k (by omega))]; exact b16.tr (n := 2) (Nat.le_of_eq ln5) (fun k h1 h2 => FC2 k (by omega) (by omega) (by omega))
  have b453 : Blk cl448 (o + 3) (bX5 G ad441 (o + 3)) := by rw [cg5 (n := 2) (Nat.le_refl _) (fun k h1 h2 => FA5 k (by omega))]; exact b38.tr (n := 2) (Nat.le_of_eq ln5) (fun k h1 h2 => FC5 k (by omega) (by omega) (by omega))
  have b454 : Blk cl448 (o + 5) (bX5 G ad441 (o + 5)) := by rw [cg5 (n := 2) (Nat.le_refl _) (fun k h1 h2 => FA8 k (by omega))]; exact b60.tr (n := 2) (Nat.le_of_eq ln5) (fun k h1 h2 => FC8 k (by omega) (by omega) (by omega))
  have b455 : Blk cl448 (o + 7) (bX5 G ad441 (o + 7)) := by rw [cg5 (n := 2) (Nat.le_refl _) (fun k h1 h2 => FA11 k (by omega))]; exact b82.tr (n := 2) (Nat.le_of_eq ln5) (fun k h1 h2 => FC11 k (by omega) (by omega) (by omega))
  have b456 : Blk cl448 (o + 9) ([.inl (G 4, 6, .inr (.inr (.inr (.inr (va_up (va_up (va_up (va_up (va_up (va_up (fun _ => none) (0 : Int32).toNatClampNeg (some q105)) (1 : Int32).toNatClampNeg (some q135)) (2 : Int32).toNatClampNeg (some q164)) (3 : Int32).toNatClampNeg (some q193)) (4 : Int32).toNatClampNeg (some q222)) (5 : Int32).toNatClampNeg (some q251))))))]) := b277.tr (n := 1) (Nat.le_refl _) (fun k h1 h2 => FZ32 k (by omega) (by omega))
  have b457 : Blk cl448 (o + 10) (bX5 G ad441 (o + 10)) := by rw [cg5 (n := 2) (Nat.le_refl _) (fun k h1 h2 => FA16 k (by omega))]; exact b120.tr (n := 2) (Nat.le_of_eq ln5) (fun k h1 h2 => FC16 k (by omega) (by omega) (by omega))
  have b458 : Blk cl448 (o + 12) (bX5 G ad441 (o + 12)) := by rw [cg5 (n := 2) (Nat.le_refl _) (fun k h1 h2 => FA19 k (by omega))]; exact b150.tr (n := 2) (Nat.le_of_eq ln5) (fun k h1 h2 => FC19 k (by omega) (by omega) (by omega))
  have b459 : Blk cl448 (o + 14) (bX5 G ad441 (o + 14)) := by rw [cg5 (n := 2) (Nat.le_refl _) (fun k h1 h2 => FA22 k (by omega))]; exact b179.tr (n := 2) (Nat.le_of_eq ln5) (fun k h1 h2 => FC22 k (by omega) (by omega) (by omega))
  have b460 : Blk cl448 (o + 16) (bX5 G ad441 (o + 16)) := by rw [cg5 (n := 2) (Nat.le_refl _) (fun k h1 h2 => FA25 k (by omega))]; exact b208.tr (n := 2) (Nat.le_of_eq ln5) (fun k h1 h2 => FC25 k (by omega) (by omega) (by omega))
  have b461 : Blk cl448 (o + 18) (bX5 G ad441 (o + 18)) := by rw [cg5 (n := 2) (Nat.le_refl _) (fun k h1 h2 => FA28 k (by omega))]; exact b237.tr (n := 2) (Nat.le_of_eq ln5) (fun k h1 h2 => FC28 k (by omega) (by omega) (by omega))
  have b462 : Blk cl448 (o + 20) (bX5 G ad441 (o + 20)) := by rw [cg5 (n := 2) (Nat.le_refl _) (fun k h1 h2 => FA31 k (by omega))]; exact b266.tr (n := 2) (Nat.le_of_eq ln5) (fun k h1 h2 => FC31 k (by omega) (by omega) (by omega))
  have b463 : Blk cl448 (o + 22) (bX4 G ad441 (o + 22)) := by rw [cg4 (n := 1) (Nat.le_refl _) (fun k h1 h2 => FA34 k (by omega))]; exact b295.tr (n := 1) (Nat.le_of_eq ln4) (fun k h1 h2 => FC34 k (by omega) (by omega) (by omega))
  have b464 : Blk cl448 (o + 23) (bX6 G ad441 (o + 23) (q280)) := by rw [cg6 (n := 26) (Nat.le_refl _) (fun k h1 h2 => FA37 k (by omega))]; exact b317.tr (n := 26) (Nat.le_of_eq ln6) (fun k h1 h2 => FC37 k (by omega) (by omega) (by omega))
  have b465 : Blk cl448 (o + 49) (bX2 G ad441 (o + 49)) := by rw [cg2 (n := 37) (Nat.le_refl _) (fun k h1 h2 => FA40 k (by omega))]; exact b339.tr (n := 37) (Nat.le_of_eq ln2) (fun k h1 h2 => FC40 k (by omega) (by omega) (by omega))
  have b466 : Blk cl448 (o + 86) (bX10 G ad441 (o + 86) (q280) (q302) (q324)) := by rw [cg10 (n := 25) (Nat.le_refl _) (fun k h1 h2 => FA42 k (by omega))]; exact b357.tr (n := 25) (Nat.le_of_eq ln10) (fun k h1 h2 => FC42 k (by omega) (by omega) (by omega))
  have b467 : Blk cl448 (o + 111) (bX0 G ad441 (o + 111) (q302)) := by rw [cg0 (n := 16) (Nat.le_refl _) (fun k h1 h2 => FA45 k (by omega))]; exact b379.tr (n := 16) (Nat.le_of_eq ln0) (fun k h1 h2 => FC45 k (by omega) (by omega) (by omega))
  have b468 : Blk cl448 (o + 127) (bX7 G ad441 (o + 127) (q23) (q280) (q302) (q342) (q364) (q324)) := by rw [cg7 (n := 85) (Nat.le_refl _) (fun k h1 h2 => FA48 k (by omega))]; exact b401.tr (n := 85) (Nat.le_of_eq ln7) (fun k h1 h2 => FC48 k (by omega) (by omega) (by omega))
  have b469 : Blk cl448 (o + 212) (bX3 G ad441 (o + 212)) := by rw [cg3 (n := 17) (Nat.le_refl _) (fun k h1 h2 => FA51 k (by omega))]; exact b423.tr (n := 17) (Nat.le_of_eq ln3) (fun k h1 h2 => FC51 k (by omega) (by omega) (by omega))
  have b470 : Blk cl448 (o + 229) (bX3 G ad441 (o + 229)) := by rw [cg3 (n := 17) (Nat.le_refl _) (fun k h1 h2 => FA54 k (by omega))]; exact b445.tr (n := 17) (Nat.le_of_eq ln3) (fun k h1 h2 => FC54 k (by omega) (by omega) (by omega))
  have z471 : ad441 (o + 1) = q1 := (FA1 (o + 1) (by omega)).trans a10
  have z472 : ad441 (o + 3) = q23 := (FA4 (o + 3) (by omega)).trans a32
  have z473 : ad441 (o + 5) = q45 := (FA7 (o + 5) (by omega)).trans a54
  have z474 : ad441 (o + 7) = q67 := (FA10 (o + 7) (by omega)).trans a76
  have z475 : ad441 (o + 9) = q89 := (FA31 (o + 9) (by omega)).trans a270
  have z476 : ad441 (o + 22) = q280 := (FA33 (o + 22) (by omega)).trans a289
  have z477 : ad441 (o + 23) = q302 := (FA36 (o + 23) (by omega)).trans a311
  have z478 : ad441 (o + 86) = q342 := (FA41 (o + 86) (by omega)).trans a351
  have z479 : ad441 (o + 111) = q364 := (FA44 (o + 111) (by omega)).trans a373
  have z480 : ad441 (o + 127) = q386 := (FA47 (o + 127) (by omega)).trans a395
  have z481 : ad441 (o + 212) = q408 := (FA50 (o + 212) (by omega)).trans a417
  have z482 : ad441 (o + 229) = q430 := (FA53 (o + 229) (by omega)).trans a439
  have z483 : ad441 (o + 10) = q105 := (FA15 (o + 10) (by omega)).trans a114
  have z484 : ad441 (o + 12) = q135 := (FA18 (o + 12) (by omega)).trans a144
  have z485 : ad441 (o + 14) = q164 := (FA21 (o + 14) (by omega)).trans a173
  have z486 : ad441 (o + 16) = q193 := (FA24 (o + 16) (by omega)).trans a202
  have z487 : ad441 (o + 18) = q222 := (FA27 (o + 18) (by omega)).trans a231
  have z488 : ad441 (o + 20) = q251 := (FA30 (o + 20) (by omega)).trans a260
  have z489 : ad441 (o + 49) = q324 := (FA39 (o + 49) (by omega)).trans a333
  refine e_V X hr w ⟨ad441, cl448, rfl, fa, fc, ?_⟩ (Nat.le_of_ble_eq_true rfl) (Nat.le_of_ble_eq_true rfl) dX11_init_207
  unfold bX11
  rw [z471, z472, z473, z474, z475, z476, z477, z478, z479, z480, z481, z482, z483, z484, z485, z486, z487, z488, z489]
  refine Blk.cons ?_ (b452.app (by rw [ln5]) (b453.app (by rw [ln5]) (b454.app (by rw [ln5]) (b455.app (by rw [ln5]) (b456.app (rfl) (b457.app (by rw [ln5]) (b458.app (by rw [ln5]) (b459.app (by rw [ln5]) (b460.app (by rw [ln5]) (b461.app (by rw [ln5]) (b462.app (by rw [ln5]) (b463.app (by rw [ln4]) (b464.app (by rw [ln6]) (b465.app (by rw [ln2]) (b466.app (by rw [ln10]) (b467.app (by rw [ln0]) (b468.app (by rw [ln7]) (b469.app (by rw [ln3]) (b470)))))))))))))))))))
  rw [c451]
