/-! THE LAW'S OWN METHODS: each calls x and tells by a number how it ended -/
abbrev RL : String := R_law
abbrev wW (y : MethodName) (cc : ByteArray) (nL : Nat) (ret : Option FieldType) (hh : List (Nat × Nat × Nat × Nat)) : List Cond := .codeWith y cc nL ret hh :: tb
/-- a static method with a table, that returns an int -/
def CtW (l : Launch) (y : MethodName) (cc : ByteArray) (nL : Nat) (hh : List (Nat × Nat × Nat × Nat)) (rm : Room) (D : va_G) (G : Nat → ClassId) (t : Nat → Nat) (u : PS) (av : List Value) (post : Int32 → PS → Prop) : Prop :=
  ∀ sz, Met l y (wW y cc nL (some .int) hh) rm (va_Pc av (PP D G t u sz)) (va_Qi post (PB D G (PA u sz)) (PA u sz)) rm.cells rm.slots (PA u sz)
theorem ct_W {l : Launch} {y : MethodName} {cc : ByteArray} {nL : Nat} {hh : List (Nat × Nat × Nat × Nat)} {rm : Room} {D : va_G} {G : Nat → ClassId} {t : Nat → Nat} {N : Nat} {ad : Nat → Nat} {cl : Nat → va_E} {av : List Value} {post : Int32 → PS → Prop} {own : String} (hy : plainName y.cls = true) (ho : y.cls = own) (hlen : (lg_sl av).length ≤ nL) {lv : List (Nat × Value)} (hlv : lv_args 0 av = lv)
    (body : ∀ p e s m args below meth c A ls, Cx p s m args meth c cc nL own D G t A → meth.sig.returnType = some .int → c.exceptionTable.toList = tableOf hh → lv_has ls nL lv → Wd D A s s.heap [] N ad cl → W p l e rm s m args below meth c s.heap [] 0 0 (MQ below (va_Qi post (PB D G A) A) args s rm.cells rm.slots A) (F0 m 0 ls [])) : CtW l y cc nL hh rm D G t (N, ad, cl) av post := by
  intro sz
  refine MetFree.of_bodyS (code := cc) (maxLocals := nL) (ret := some .int) hy ?_ ?_
  · intro args s m h hn
    obtain ⟨m9, meth, c, hn9, h1, h2, h3, h4, -, h5, h6, -⟩ := Cond.codeWith_spec (atoms_spec (ws := wW y cc nL (some .int) hh) h _ List.mem_cons_self)
    cases hn.symm.trans hn9
    exact ⟨meth, c, h1, h2, h3, h4, h5, h6⟩
  · intro p e s m args below meth c s₁ B hml hv _
    have hh0 : s₁.heap = s.heap := by rw [B.state]; rfl
    obtain ⟨rfl, hsz, hP, hK, hD0, hZ, hN⟩ := hv
    have hts := atoms_spec (ws := wW y cc nL (some .int) hh) B.pre
    have hown : s.vm.findClass y.cls = some m.cls := findClass_of_methodNamed B.named
    subst hsz
    have hD := hD0.self (sz := s.heap.size)
    have hl := lv_entry av (n := nL) hlen
    rw [hlv] at hl
    have K := body p e s m _ below meth c _ _ ⟨B.exec, B.bytes, hml, by rw [← ho]; exact hown, fun w hw => hts w (List.mem_cons_of_mem _ hw), hK, fun q h => Or.inr h, hZ, hN, B.notSynchronized⟩ B.returns (vx_table (x := y) B (hts _ List.mem_cons_self)) hl ⟨hP, hD, va_S.rf⟩
    rw [← lg_entry_eq] at K
    obtain ⟨t9, a1, o, b1, b2, b3⟩ := K s₁ hh0 (Stand.of_body B)
    exact ⟨t9, o, a1, b1, b2, b3.1, b3.2⟩
section
variable {p : Program} {l : Launch} {e : Env} {R : Room} {s : State} {m : MethodId} {args : Array Value} {below : List Frame} {meth : Method} {c : Code} {H : Heap} {locs : List Loc} {cells slots : Nat} {Q : State → Prop}
variable {cc : ByteArray} {nL pc : Nat} {own : String} {ls : Array Slot} {rest : List Value} {D : va_G} {G : Nat → ClassId} {t : Nat → Nat} {A : Nat → Prop} {N : Nat} {ad : Nat → Nat} {cl : Nat → va_E}
theorem c_W {y : MethodName} {c2 : ByteArray} {n2 d mc ms n idx : Nat} {hh : List (Nat × Nat × Nat × Nat)} {av As : List Value} {post : Int32 → PS → Prop} {st : List Value} (X : Cx p s m args meth c cc nL own D G t A) (w : Wd D A s H locs N ad cl) (M : CtW l y c2 n2 hh (rmD d mc ms) D G t (N, ad, cl) av post) (hcode : Cond.codeWith y c2 n2 (some .int) hh ∈ tb) (hst0 : Cond.static y ∈ tb) (hini : Cond.initialized y.cls ∈ tb) (hd : y.cls ≠ "java/lang/invoke/MethodHandle" ∧ y.cls ≠ "java/lang/invoke/VarHandle" ∧ (parseMethodDescriptor y.desc).map (fun d => d.parameters.length) = some n) (hl : Cond.methodLink own idx y ∈ tb) (hav : av = As) (hst : st = As.reverse ++ rest) (hn : As.length = n) (hls : ls.size = nL)
    (hR : d + 1 ≤ R.frames ∧ 8 + (n2 + 11) + 60 * d ≤ R.locals) (hW : (rest.map fun v => v.category).sum ≤ 8) (hdg : decode cc pc = .ok (.invokestatic idx, 3)) (hf : cells + mc ≤ R.cells ∧ slots + ms ≤ R.slots)
    (kk : ∀ (r : Int32) (u' : PS) (H : Heap) (locs : List Loc), post r u' → Wd D A s H locs u'.1 u'.2.1 u'.2.2 → W p l e R s m args below meth c H locs (cells + mc) (slots + ms) Q (F0 m (pc + 3) ls (.int r :: rest))) : W p l e R s m args below meth c H locs cells slots Q (F0 m pc ls st) := by
  subst hav; subst hst
  have X0 := X
  obtain ⟨hx, hb, hml, hown, hts, hK, hA, hZ, hN, hlo⟩ := X
  have hF := w.free X0
  have hG : GoodIn tb (va_wsS own idx y (wW y c2 n2 (some .int) hh)) := fun w hw => by
    rcases List.mem_append.mp hw with h | h
    · rcases List.mem_cons.mp h with rfl | h
      · exact tb_goodIn _ hl
      · rcases List.mem_cons.mp h with rfl | h
        · exact tb_goodIn _ hst0
        · rcases List.mem_cons.mp h with rfl | h
          · exact tb_goodIn _ hini
          · exact absurd h List.not_mem_nil
    · exact tb_goodC hcode w h
  refine va_calli (vx_runSW (As := av) (rest := rest) ⟨hx, hb, hml, hown, hts⟩ (M H.size) (vx_cwSW n hts hG rfl rfl rfl hd hR) ⟨PP.blind, fun U hU hW => ⟨rfl, PP.of X0 w hU hW⟩⟩ rfl hn hls rfl (lv_room hW) hdg hf) w.2.2 (fun q _ h => hF q h) hF (fun r u' T H1 locs1 hT hvm hp hB _ _ hS => ?_)
  exact kk r u' H1 locs1 hp (w.back X0 hT hB hS)
theorem g_last (X : Cx p s m args meth c cc nL own D G t A) (w : Wd D A s H locs N ad cl) (i : Nat) {a : Nat} (ha : ad i = a) (hi : i < N) {n : Nat} {f : Nat → Int64} (hc : cl i = .inl (G 3, n, .inr (.inl f))) {x : Int32} {y : Int64} (hin : vp_in x n) (hdg : decode cc pc = .ok (.lastore, 1))
    (kk : ∀ (H : Heap) (locs : List Loc), Wd D A s H locs N ad (va_up cl i (.inl (G 3, n, .inr (.inl (vp_updL f x.toNatClampNeg y))))) → W p l e R s m args below meth c H locs cells slots Q (F0 m (pc + 1) ls rest)) : W p l e R s m args below meth c H locs cells slots Q (F0 m pc ls (.long y :: .int x :: .ref a :: rest)) := by
  subst ha
  obtain ⟨hx, hb, hml, hown, hts, hK, hA, hZ, hN, hlo⟩ := X
  refine va_last hx hb hK w.1 w.2.1 w.2.2 i 3 (by rw [wd_get hi, hc]) rfl hin hdg (fun H1 l1 h1 h2 h3 => kk H1 l1 ⟨?_, ?_, h3⟩)
  · rw [wd_set hi] at h1; exact h1
  · rw [wd_set hi] at h2; exact h2
end
abbrev cL_pages : ByteArray := method_4_code
def yL_pages : MethodName := ⟨RL, "pages", "(LTypeRoom;[J)I"⟩
theorem wcL_pages : Cond.codeWith yL_pages cL_pages 3 (some .int) [(0, 8, 11, 19)] ∈ tb := tb_7 (i := 125) rfl rfl
theorem dL_pages_0 : decode cL_pages 0 = .ok (.aload_n 1, 1) := by decide +kernel
theorem dL_pages_1 : decode cL_pages 1 = .ok (.iconst 0, 1) := by decide +kernel
theorem dL_pages_2 : decode cL_pages 2 = .ok (.aload_n 0, 1) := by decide +kernel
theorem dL_pages_3 : decode cL_pages 3 = .ok (.invokevirtual 15, 3) := by decide +kernel
theorem dL_pages_6 : decode cL_pages 6 = .ok (.i2l, 1) := by decide +kernel
theorem dL_pages_7 : decode cL_pages 7 = .ok (.lastore, 1) := by decide +kernel
theorem dL_pages_8 : decode cL_pages 8 = .ok (.goto 6, 3) := by decide +kernel
theorem dL_pages_11 : decode cL_pages 11 = .ok (.astore_n 2, 1) := by decide +kernel
theorem dL_pages_12 : decode cL_pages 12 = .ok (.iconst 1, 1) := by decide +kernel
theorem dL_pages_13 : decode cL_pages 13 = .ok (.ireturn, 1) := by decide +kernel
theorem dL_pages_14 : decode cL_pages 14 = .ok (.iconst 0, 1) := by decide +kernel
theorem dL_pages_15 : decode cL_pages 15 = .ok (.ireturn, 1) := by decide +kernel
theorem tk_L_19 : Cond.classLink "TypeRoomLaw" 19 "java/lang/IllegalStateException" ∈ tb := tb_7 (i := 126) (by decide +kernel) rfl
theorem k_TypeRoomLaw_15 : Cond.methodLink "TypeRoomLaw" 15 yX11_pages ∈ tb := tb_7 (i := 127) (by decide +kernel) rfl
set_option maxHeartbeats 4000000 in
set_option maxRecDepth 100000 in
theorem ct_L_pages (l : Launch) (D : va_G) (G : Nat → ClassId) (t : Nat → Nat) (N : Nat) (ad : Nat → Nat) (cl : Nat → va_E) (c : Nat → Nat) (xs : Nat → List Int32) (v : Nat → Nat → Int32) (g : Nat → Nat → Int32) (nb : Nat → Nat) (Wx : XW G N ad cl c xs v g nb) (oo : Nat) (hoo : oo < N) (fo : Nat → Int64) (ho : cl oo = .inl (G 3, 1, .inr (.inl fo))) (hst : l.stackTraces = false) (d : Nat) (hd : 8 ≤ d) : CtW l yL_pages cL_pages 3 [(0, 8, 11, 19)] (rmD d 1 6) D G t (N, ad, cl) [.ref (ad 0), .ref (ad oo)] (fun r u => r = (if v 212 0 = 0 then 1 else 0) ∧ ∃ cl', u = (N, ad, cl') ∧ (∀ z, z ≠ oo → cl' z = cl z) ∧ cl' oo = .inl (G 3, 1, .inr (.inl (if v 212 0 = 0 then fo else vp_updL fo 0 (nI (xs 220).length).toInt64)))) := by
  refine ct_W (own := R_law) (by decide +kernel) rfl (Nat.le_of_ble_eq_true rfl) rfl ?_
  intro p e s m args below meth cd A ls X hr htb hl w
  obtain ⟨hx, hb, hml, hown, hts, -⟩ := id X
  have hl : lv_has ls 3 [(0, .ref (ad 0)), (1, .ref (ad oo))] := hl
  refine lv_aload_n hx hb dL_pages_0 rfl (lv_at hl 1 rfl) ?_
  refine lv_iconst (v := 0) hx hb dL_pages_1 (by decide) ?_
  refine lv_aload_n hx hb dL_pages_2 rfl (lv_at hl 0 rfl) ?_
  refine c_IX (As := []) (rest := [.int (0), .ref (ad oo)]) X w (ct_X11_pages l D G t N ad cl c xs v g nb Wx hst (d - 1) (by omega)) YX11_pages k_TypeRoomLaw_15 (0) rfl (by have := Wx.1; omega) (Wx.o xm_0) kc11 (rfl) rfl rfl hl.1 (rm_call (by omega) (by decide)) (Nat.le_of_ble_eq_true rfl) dL_pages_3 (⟨Nat.le_refl _, Nat.le_refl _⟩) (fun E ce q u H locs hp w h1 h2 h3 => ?_) (fun r u H locs hp w => ?_)
  · obtain ⟨rfl, hv, rfl⟩ := hp
    have w : Wd D A s H locs N ad cl := w
    refine vx_catch (name := "java/lang/IllegalStateException") hown [] ⟨0, 8, 11, 19⟩ [] (by rw [htb]; rfl) (fun z hz => absurd hz List.not_mem_nil) (by decide) (by decide) (hts _ tk_L_19) (nest_use rfl (X.2.2.2.2.2.2.2.2.1.1 _ tc_ISE rfl)) h1 h2 h3 ?_
    refine lv_astore_n (lv' := [(2, .ref q), (0, .ref (ad 0)), (1, .ref (ad oo))]) hx hb dL_pages_11 rfl hl (by decide) rfl (fun ls hl => ?_)
    refine lv_iconst (v := 1) hx hb dL_pages_12 (by decide) ?_
    exact e_I X hr w ⟨(if_pos hv).symm, cl, rfl, fun _ _ => rfl, by rw [if_pos hv]; exact ho⟩ (Nat.le_refl _) (Nat.le_refl _) dL_pages_13
  obtain ⟨hv, rfl, rfl⟩ := hp
  have w : Wd D A s H locs N ad cl := w
  refine lv_i2l (v := (nI (xs 220).length).toInt64) hx hb dL_pages_6 rfl ?_
  refine g_last X w oo rfl hoo ho (x := 0) (by unfold vp_in; decide) dL_pages_7 (fun H locs w => ?_)
  refine lv_goto (tgt := 14) hx hb dL_pages_8 (by decide) ?_
  refine lv_iconst (v := 0) hx hb dL_pages_14 (by decide) ?_
  exact e_I X hr w ⟨(if_neg hv).symm, _, rfl, fun z hz => va_up_ne _ _ hz, by rw [va_up_self, if_neg hv]; rfl⟩ (Nat.le_refl _) (Nat.le_refl _) dL_pages_15
