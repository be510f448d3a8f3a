/-! METHODS THAT RETURN OR THROW -/
abbrev XQ (D : va_G) (G : Nat → ClassId) (A : Nat → Prop) (pX : String → PS → Prop) : String → State → State → Prop := vx_X (S := String × PS) (fun q => pX q.1 q.2) (fun E q T => q.1 = E ∧ PB D G A q.2 T) A
def CtIX (l : Launch) (y : MethodName) (cc : ByteArray) (nL : Nat) (rm : Room) (D : va_G) (G : Nat → ClassId) (t : Nat → Nat) (u : PS) (av : List Value) (post : Int32 → PS → Prop) (pX : String → PS → Prop) : Prop :=
  ∀ sz, vx_Met l y (wY y cc nL (some .int)) rm (va_Pc av (PP D G t u sz)) (va_Qi post (PB D G (PA u sz)) (PA u sz)) (XQ D G (PA u sz) pX) rm.cells rm.slots (PA u sz)
def CtVX (l : Launch) (y : MethodName) (cc : ByteArray) (nL : Nat) (rm : Room) (D : va_G) (G : Nat → ClassId) (t : Nat → Nat) (u : PS) (av : List Value) (post : PS → Prop) (pX : String → PS → Prop) : Prop :=
  ∀ sz, vx_Met l y (wY y cc nL none) rm (va_Pc av (PP D G t u sz)) (va_Qv post (PB D G (PA u sz)) (PA u sz)) (XQ D G (PA u sz) pX) rm.cells rm.slots (PA u sz)
theorem nest_use {w : Cond} {args : Array Value} {s : State} (hi : isNest w = true) (h : va_Nw w s) : w.before args s = true := by
  cases w <;> first | exact va_Nw.use rfl h | cases hi
section
variable {p : Program} {l : Launch} {e : Env} {R : Room} {s : State} {m : MethodId} {args : Array Value} {below : List Frame} {meth : Method} {c : Code} {H : Heap} {locs : List Loc} {cells slots : Nat} {Q : State → Prop}
variable {cc : ByteArray} {nL pc : Nat} {own : String} {ls : Array Slot} {rest : List Value} {D : va_G} {G : Nat → ClassId} {t : Nat → Nat} {A : Nat → Prop} {N : Nat} {ad : Nat → Nat} {cl : Nat → va_E}
theorem c_IX {y : MethodName} {c2 : ByteArray} {n2 d mc ms n idx : Nat} {av As : List Value} {post : Int32 → PS → Prop} {pX : String → PS → Prop} {a : Nat} {st : List Value} (X : Cx p s m args meth c cc nL own D G t A) (w : Wd D A s H locs N ad cl) (M : CtIX l y c2 n2 (rmD d mc ms) D G t (N, ad, cl) av post pX) (Y : Yv y c2 n2 (some .int) n) (hl : Cond.methodLink own idx y ∈ tb) (i : Nat) (ha : ad i = a) (hi : i < N) {ci Nf : Nat} {T : u_T} {ty : Nat → FieldType} {fs : List Value} (hc : cl i = .inr (ci, fs)) (kc : Kc ci y.cls T Nf ty) (hav : av = .ref a :: As) (hst : st = As.reverse ++ .ref a :: rest) (hn : As.length = n) (hls : ls.size = nL)
    (hR : d + 1 ≤ R.frames ∧ 8 + (n2 + 11) + 60 * d ≤ R.locals) (hW : (rest.map fun v => v.category).sum ≤ 8) (hdg : decode cc pc = .ok (.invokevirtual idx, 3)) (hf : cells + mc ≤ R.cells ∧ slots + ms ≤ R.slots)
    (kx : ∀ (E : String) (ce : Cell) (q : Addr) (u' : PS) (H : Heap) (locs : List Loc), pX E u' → Wd D A s H locs u'.1 u'.2.1 u'.2.2 → H[q]? = some ce → ce.vm = .none → s.vm.findClass E = some ce.cls → vx_W p l e R s m args below meth c H locs (cells + mc) (slots + ms) Q (F0 m pc ls rest) q)
    (kk : ∀ (r : Int32) (u' : PS) (H : Heap) (locs : List Loc), post r u' → Wd D A s H locs u'.1 u'.2.1 u'.2.2 → W p l e R s m args below meth c H locs (cells + mc) (slots + ms) Q (F0 m (pc + 3) ls (.int r :: rest))) : W p l e R s m args below meth c H locs cells slots Q (F0 m pc ls st) := by
  subst hav; subst hst; subst ha
  have X0 := X
  obtain ⟨hx, hb, hml, hown, hts, hK, hA, hZ, hN, hlo⟩ := X
  have hF := w.free X0
  refine vx_calli (vx_runV (As := As) (rest := rest) ⟨hx, hb, hml, hown, hts⟩ (M H.size) (cw_V X0 Y hl hR) ⟨PP.blind, va_recv hK w.1 kc.1 (by rw [wd_get hi, hc]), fun U hU hW => ⟨rfl, PP.of X0 w hU hW⟩⟩ rfl hn hls rfl (lv_room hW) hdg hf) w.2.2 (fun q _ h => hF q h) hF (fun q _ h => hF q h) (fun E ce q u' T H1 locs1 hT hvm hp hB _ _ hS h1 h2 h3 => ?_) (fun r u' T H1 locs1 hT hvm hp hB _ _ hS => ?_)
  · obtain ⟨e1, hB⟩ := hB
    subst e1
    exact kx _ ce q u'.2 H1 locs1 hp (w.back X0 hT hB hS) h1 h2 h3
  · exact kk r u' H1 locs1 hp (w.back X0 hT hB hS)
theorem c_VX {y : MethodName} {c2 : ByteArray} {n2 d mc ms n idx : Nat} {av As : List Value} {post : PS → Prop} {pX : String → PS → Prop} {a : Nat} {st : List Value} (X : Cx p s m args meth c cc nL own D G t A) (w : Wd D A s H locs N ad cl) (M : CtVX l y c2 n2 (rmD d mc ms) D G t (N, ad, cl) av post pX) (Y : Yv y c2 n2 none n) (hl : Cond.methodLink own idx y ∈ tb) (i : Nat) (ha : ad i = a) (hi : i < N) {ci Nf : Nat} {T : u_T} {ty : Nat → FieldType} {fs : List Value} (hc : cl i = .inr (ci, fs)) (kc : Kc ci y.cls T Nf ty) (hav : av = .ref a :: As) (hst : st = As.reverse ++ .ref a :: rest) (hn : As.length = n) (hls : ls.size = nL)
    (hR : d + 1 ≤ R.frames ∧ 8 + (n2 + 11) + 60 * d ≤ R.locals) (hW : (rest.map fun v => v.category).sum ≤ 8) (hdg : decode cc pc = .ok (.invokevirtual idx, 3)) (hf : cells + mc ≤ R.cells ∧ slots + ms ≤ R.slots)
    (kx : ∀ (E : String) (ce : Cell) (q : Addr) (u' : PS) (H : Heap) (locs : List Loc), pX E u' → Wd D A s H locs u'.1 u'.2.1 u'.2.2 → H[q]? = some ce → ce.vm = .none → s.vm.findClass E = some ce.cls → vx_W p l e R s m args below meth c H locs (cells + mc) (slots + ms) Q (F0 m pc ls rest) q)
    (kk : ∀ (u' : PS) (H : Heap) (locs : List Loc), post u' → Wd D A s H locs u'.1 u'.2.1 u'.2.2 → W p l e R s m args below meth c H locs (cells + mc) (slots + ms) Q (F0 m (pc + 3) ls rest)) : W p l e R s m args below meth c H locs cells slots Q (F0 m pc ls st) := by
  subst hav; subst hst; subst ha
  have X0 := X
  obtain ⟨hx, hb, hml, hown, hts, hK, hA, hZ, hN, hlo⟩ := X
  have hF := w.free X0
  refine vx_callv (vx_runV (As := As) (rest := rest) ⟨hx, hb, hml, hown, hts⟩ (M H.size) (cw_V X0 Y hl hR) ⟨PP.blind, va_recv hK w.1 kc.1 (by rw [wd_get hi, hc]), fun U hU hW => ⟨rfl, PP.of X0 w hU hW⟩⟩ rfl hn hls rfl (lv_room hW) hdg hf) w.2.2 (fun q _ h => hF q h) hF (fun q _ h => hF q h) (fun E ce q u' T H1 locs1 hT hvm hp hB _ _ hS h1 h2 h3 => ?_) (fun u' T H1 locs1 hT hvm hp hB _ _ hS => ?_)
  · obtain ⟨e1, hB⟩ := hB
    subst e1
    exact kx _ ce q u'.2 H1 locs1 hp (w.back X0 hT hB hS) h1 h2 h3
  · exact kk u' H1 locs1 hp (w.back X0 hT hB hS)
/-- what was thrown below goes on out of this method, which has no table -/
theorem x_out {mc ms : Nat} {Qc : Array Value → State → Outcome → State → Prop} {pX : String → PS → Prop} {E : String} {ce : Cell} {q : Addr} (X : Cx p s m args meth c cc nL own D G t A) (hno : ∀ x ∈ c.exceptionTable.toList, False) (w : Wd D A s H locs N ad cl) (hp : pX E (N, ad, cl)) (h1 : H[q]? = some ce) (h2 : ce.vm = .none) (h3 : s.vm.findClass E = some ce.cls) (hc : cells ≤ mc) (hs : slots ≤ ms) : vx_W p l e R s m args below meth c H locs cells slots (vx_MQ below Qc (XQ D G A pX) args s mc ms A) (F0 m pc ls rest) q := by
  obtain ⟨hx, hb, hml, hown, hts, hK, hA, hZ, hN, hlo⟩ := X
  exact vx_out (fun x hx => (hno x hx).elim) hlo h1 h2 h3 (fun T hT hvm => ⟨(E, N, ad, cl), hp, ⟨rfl, by rw [hT]; exact w.1, va_K.moved hvm hK, w.2.1⟩, w.2.2.F hT⟩) w.2.2.2.2 hc hs
/-- throw new E() -/
theorem x_throw {mc ms ik ic : Nat} {cls : String} {Qc : Array Value → State → Outcome → State → Prop} {pX : String → PS → Prop} (hl : l.stackTraces = false) (X : Cx p s m args meth c cc nL own D G t A) (hls : ls.size = nL) (hno : ∀ x ∈ c.exceptionTable.toList, False) (w : Wd D A s H locs N ad cl) (hp : pX cls (N, ad, cl)) (hfit : Bundle.fit cls = true) (hk : Cond.classLink own ik cls ∈ tb) (hi : Cond.initialized cls ∈ tb) (hgd : ∀ w ∈ (vx_at0 own ic cls ["java/lang/RuntimeException", "java/lang/Exception"]).filter goodWord, w ∈ tb) (hbad : ∀ w ∈ (vx_at0 own ic cls ["java/lang/RuntimeException", "java/lang/Exception"]).filter (fun w => !goodWord w), w ∈ tables_1 ∧ isNest w = true) (hot : ∀ w ∈ Cond.classLink own ik cls :: Cond.initialized cls :: vx_at0 own ic cls ["java/lang/RuntimeException", "java/lang/Exception"], vx_ot w = true)
    (d0 : decode cc pc = .ok (.new ik, 3)) (d3 : decode cc (pc + 3) = .ok (.dup, 1)) (d4 : decode cc (pc + 4) = .ok (.invokespecial ic, 3)) (d7 : decode cc (pc + 7) = .ok (.athrow, 1)) (h8 : (rest.map fun v => v.category).sum ≤ 8) (hR : 6 ≤ R.frames ∧ 100 ≤ R.locals) (hc1 : cells + 1 ≤ R.cells) (hs1 : slots + 6 ≤ R.slots) (hc : cells + 1 ≤ mc) (hs : slots + 6 ≤ ms) : W p l e R s m args below meth c H locs cells slots (vx_MQ below Qc (XQ D G A pX) args s mc ms A) (F0 m pc ls rest) := by
  obtain ⟨hx, hb, hml, hown, hts, hK, hA, hZ, hN, hlo⟩ := X
  refine vx_throw0 (names := ["java/lang/RuntimeException", "java/lang/Exception"]) (A := A) hx hb hl hown hfit (by decide +kernel) (hts _ hk) (hts _ hi) (fun w hw => by
    by_cases g : goodWord w = true
    · exact hts w (hgd w (List.mem_filter.mpr ⟨hw, g⟩))
    · obtain ⟨g1, g2⟩ := hbad w (List.mem_filter.mpr ⟨hw, by simp [g]⟩)
      exact nest_use g2 (hN.1 w g1 g2)) hot hZ.2.2.2.2.2.1 hZ.2.2.2.2.2.2.1 w.2.2 (hls.trans hml.symm) d0 d3 d4 d7 (fun x hx => (hno x hx).elim) (by show 2 + 3 < R.frames; omega) (by show _ + (13 * (2 + 1) + 42) ≤ _; omega) hc1 hs1 hlo (fun T hvm hz hq => ?_) w.2.2.2.2 hc hs
  refine ⟨(cls, N, ad, cl), hp, ⟨rfl, w.1.kept (fun k q hk => hq q.1 ((w.1 k q hk).lt)), va_K.moved hvm hK, w.2.1⟩, Nat.le_trans w.2.2.1 hz, fun q h1 h2 => ?_⟩
  rw [hq q (Nat.lt_of_lt_of_le h1 w.2.2.1)]
  exact w.2.2.2.1 q h1 h2
end
theorem ct_IX {l : Launch} {y : MethodName} {cc : ByteArray} {nL : Nat} {rm : Room} {D : va_G} {G : Nat → ClassId} {t : Nat → Nat} {N : Nat} {ad : Nat → Nat} {cl : Nat → va_E} {av : List Value} {post : Int32 → PS → Prop} {pX : String → PS → Prop} {own : String} (hy : plainName y.cls = true) (ho : y.cls = own) (hlen : (lg_sl av).length ≤ nL) {lv : List (Nat × Value)} (hlv : lv_args 0 av = lv)
    (body : ∀ p e s m args below meth c A ls, Cx p s m args meth c cc nL own D G t A → meth.sig.returnType = some .int → (∀ x ∈ c.exceptionTable.toList, False) → lv_has ls nL lv → Wd D A s s.heap [] N ad cl → W p l e rm s m args below meth c s.heap [] 0 0 (vx_MQ below (va_Qi post (PB D G A) A) (XQ D G A pX) args s rm.cells rm.slots A) (F0 m 0 ls [])) : CtIX l y cc nL rm D G t (N, ad, cl) av post pX := by
  intro sz
  refine vx_ofW (cc := cc) (maxL := nL) (ret := some .int) hy rfl ?_
  intro p e s m args below meth c s₁ B hml hno hv
  obtain ⟨rfl, hsz, hP, hK, hD0, hZ, hN⟩ := hv
  have hts := atoms_spec (ws := wY y cc nL (some .int)) B.pre
  have hown : s.vm.findClass y.cls = some m.cls := findClass_of_methodNamed B.named
  subst hsz
  have hD := hD0.self (sz := s.heap.size)
  have hl := lv_entry av (n := nL) hlen
  rw [lg_entry_eq]
  rw [hlv] at hl
  exact body p e s m _ below meth c _ _ ⟨B.exec, B.bytes, hml, by rw [← ho]; exact hown, fun w hw => hts w (List.mem_cons_of_mem _ hw), hK, fun q h => Or.inr h, hZ, hN, B.notSynchronized⟩ B.returns hno hl ⟨hP, hD, va_S.rf⟩
theorem ct_VX {l : Launch} {y : MethodName} {cc : ByteArray} {nL : Nat} {rm : Room} {D : va_G} {G : Nat → ClassId} {t : Nat → Nat} {N : Nat} {ad : Nat → Nat} {cl : Nat → va_E} {av : List Value} {post : PS → Prop} {pX : String → PS → Prop} {own : String} (hy : plainName y.cls = true) (ho : y.cls = own) (hlen : (lg_sl av).length ≤ nL) {lv : List (Nat × Value)} (hlv : lv_args 0 av = lv)
    (body : ∀ p e s m args below meth c A ls, Cx p s m args meth c cc nL own D G t A → meth.sig.returnType = none → (∀ x ∈ c.exceptionTable.toList, False) → lv_has ls nL lv → Wd D A s s.heap [] N ad cl → W p l e rm s m args below meth c s.heap [] 0 0 (vx_MQ below (va_Qv post (PB D G A) A) (XQ D G A pX) args s rm.cells rm.slots A) (F0 m 0 ls [])) : CtVX l y cc nL rm D G t (N, ad, cl) av post pX := by
  intro sz
  refine vx_ofW (cc := cc) (maxL := nL) (ret := none) hy rfl ?_
  intro p e s m args below meth c s₁ B hml hno hv
  obtain ⟨rfl, hsz, hP, hK, hD0, hZ, hN⟩ := hv
  have hts := atoms_spec (ws := wY y cc nL none) B.pre
  have hown : s.vm.findClass y.cls = some m.cls := findClass_of_methodNamed B.named
  subst hsz
  have hD := hD0.self (sz := s.heap.size)
  have hl := lv_entry av (n := nL) hlen
  rw [lg_entry_eq]
  rw [hlv] at hl
  exact body p e s m _ below meth c _ _ ⟨B.exec, B.bytes, hml, by rw [← ho]; exact hown, fun w hw => hts w (List.mem_cons_of_mem _ hw), hK, fun q h => Or.inr h, hZ, hN, B.notSynchronized⟩ B.returns hno hl ⟨hP, hD, va_S.rf⟩
theorem tc_ISE : Cond.castable "java/lang/IllegalStateException" "java/lang/IllegalStateException" ∈ tables_1 := tn_4 (i := 55) (by decide +kernel)
theorem ti_ISE : Cond.initialized "java/lang/IllegalStateException" ∈ tb := tb_1 (i := 20) (by decide +kernel) rfl
theorem tc_IAE : Cond.castable "java/lang/IllegalArgumentException" "java/lang/IllegalArgumentException" ∈ tables_1 := tn_7 (i := 92) (by decide +kernel)
theorem ti_IAE : Cond.initialized "java/lang/IllegalArgumentException" ∈ tb := tb_1 (i := 19) (by decide +kernel) rfl
theorem tc_IOB : Cond.castable "java/lang/IndexOutOfBoundsException" "java/lang/IndexOutOfBoundsException" ∈ tables_1 := tn_7 (i := 150) (by decide +kernel)
theorem ti_IOB : Cond.initialized "java/lang/IndexOutOfBoundsException" ∈ tb := tb_1 (i := 25) (by decide +kernel) rfl
theorem tk_4_23 : Cond.classLink RX4 23 "java/lang/IllegalStateException" ∈ tb := tb_4 (i := 53) (by decide +kernel) rfl
theorem tg_4_25 : ∀ w ∈ (vx_at0 RX4 25 "java/lang/IllegalStateException" ["java/lang/RuntimeException", "java/lang/Exception"]).filter goodWord, w ∈ lw_tbl := by decide +kernel
theorem th_4_25 : ∀ w ∈ (vx_at0 RX4 25 "java/lang/IllegalStateException" ["java/lang/RuntimeException", "java/lang/Exception"]).filter goodWord, w ∈ tb := fun w h => List.mem_filter.mpr ⟨tg_4_25 w h, (List.mem_filter.mp h).2⟩
theorem tx_4_25 : ∀ w ∈ (vx_at0 RX4 25 "java/lang/IllegalStateException" ["java/lang/RuntimeException", "java/lang/Exception"]).filter (fun w => !goodWord w), w ∈ tables_1 ∧ isNest w = true := by decide +kernel
theorem to_4_25 : ∀ w ∈ Cond.classLink RX4 23 "java/lang/IllegalStateException" :: Cond.initialized "java/lang/IllegalStateException" :: (vx_at0 RX4 25 "java/lang/IllegalStateException" ["java/lang/RuntimeException", "java/lang/Exception"]), vx_ot w = true := by decide +kernel
theorem tk_11_150 : Cond.classLink RX11 150 "java/lang/IllegalStateException" ∈ tb := tb_3 (i := 226) (by decide +kernel) rfl
theorem tg_11_306 : ∀ w ∈ (vx_at0 RX11 306 "java/lang/IllegalStateException" ["java/lang/RuntimeException", "java/lang/Exception"]).filter goodWord, w ∈ lw_tbl := by decide +kernel
theorem th_11_306 : ∀ w ∈ (vx_at0 RX11 306 "java/lang/IllegalStateException" ["java/lang/RuntimeException", "java/lang/Exception"]).filter goodWord, w ∈ tb := fun w h => List.mem_filter.mpr ⟨tg_11_306 w h, (List.mem_filter.mp h).2⟩
theorem tx_11_306 : ∀ w ∈ (vx_at0 RX11 306 "java/lang/IllegalStateException" ["java/lang/RuntimeException", "java/lang/Exception"]).filter (fun w => !goodWord w), w ∈ tables_1 ∧ isNest w = true := by decide +kernel
theorem to_11_306 : ∀ w ∈ Cond.classLink RX11 150 "java/lang/IllegalStateException" :: Cond.initialized "java/lang/IllegalStateException" :: (vx_at0 RX11 306 "java/lang/IllegalStateException" ["java/lang/RuntimeException", "java/lang/Exception"]), vx_ot w = true := by decide +kernel
theorem tk_11_307 : Cond.classLink RX11 307 "java/lang/IndexOutOfBoundsException" ∈ tb := tb_7 (i := 148) (by decide +kernel) rfl
theorem tg_11_309 : ∀ w ∈ (vx_at0 RX11 309 "java/lang/IndexOutOfBoundsException" ["java/lang/RuntimeException", "java/lang/Exception"]).filter goodWord, w ∈ lw_tbl := by decide +kernel
theorem th_11_309 : ∀ w ∈ (vx_at0 RX11 309 "java/lang/IndexOutOfBoundsException" ["java/lang/RuntimeException", "java/lang/Exception"]).filter goodWord, w ∈ tb := fun w h => List.mem_filter.mpr ⟨tg_11_309 w h, (List.mem_filter.mp h).2⟩
theorem tx_11_309 : ∀ w ∈ (vx_at0 RX11 309 "java/lang/IndexOutOfBoundsException" ["java/lang/RuntimeException", "java/lang/Exception"]).filter (fun w => !goodWord w), w ∈ tables_1 ∧ isNest w = true := by decide +kernel
theorem to_11_309 : ∀ w ∈ Cond.classLink RX11 307 "java/lang/IndexOutOfBoundsException" :: Cond.initialized "java/lang/IndexOutOfBoundsException" :: (vx_at0 RX11 309 "java/lang/IndexOutOfBoundsException" ["java/lang/RuntimeException", "java/lang/Exception"]), vx_ot w = true := by decide +kernel
theorem tk_11_115 : Cond.classLink RX11 115 "java/lang/IllegalArgumentException" ∈ tb := tb_7 (i := 90) (by decide +kernel) rfl
theorem tg_11_117 : ∀ w ∈ (vx_at0 RX11 117 "java/lang/IllegalArgumentException" ["java/lang/RuntimeException", "java/lang/Exception"]).filter goodWord, w ∈ lw_tbl := by decide +kernel
theorem th_11_117 : ∀ w ∈ (vx_at0 RX11 117 "java/lang/IllegalArgumentException" ["java/lang/RuntimeException", "java/lang/Exception"]).filter goodWord, w ∈ tb := fun w h => List.mem_filter.mpr ⟨tg_11_117 w h, (List.mem_filter.mp h).2⟩
theorem tx_11_117 : ∀ w ∈ (vx_at0 RX11 117 "java/lang/IllegalArgumentException" ["java/lang/RuntimeException", "java/lang/Exception"]).filter (fun w => !goodWord w), w ∈ tables_1 ∧ isNest w = true := by decide +kernel
theorem to_11_117 : ∀ w ∈ Cond.classLink RX11 115 "java/lang/IllegalArgumentException" :: Cond.initialized "java/lang/IllegalArgumentException" :: (vx_at0 RX11 117 "java/lang/IllegalArgumentException" ["java/lang/RuntimeException", "java/lang/Exception"]), vx_ot w = true := by decide +kernel
