/-! CALLS, ENDS, BODIES OVER THE POOL -/
section
variable {p : Program} {l : Launch} {e : Env} {R : Room} {s : State} {m : MethodId} {args : Array Value} {below : List Frame} {meth : Method} {c : Code} {H : Heap} {locs : List Loc} {cells slots : Nat} {Q : State → Prop}
variable {cc : ByteArray} {nL pc : Nat} {own : String} {ls : Array Slot} {rest : List Value} {D : va_G} {G : Nat → ClassId} {t : Nat → Nat} {A : Nat → Prop} {N : Nat} {ad : Nat → Nat} {cl : Nat → va_E}
theorem Wd.free (X : Cx p s m args meth c cc nL own D G t A) (w : Wd D A s H locs N ad cl) : ∀ q, PA (N, ad, cl) H.size q → A q := by
  intro q h
  rcases h with ⟨k, x, h⟩ | h
  · exact w.2.1.2 k _ h
  · exact X.2.2.2.2.2.2.1 q (Nat.le_trans w.2.2.1 h)
theorem PP.of (X : Cx p s m args meth c cc nL own D G t A) (w : Wd D A s H locs N ad cl) {U : State} (hU : U.heap = H) (hW : s.WarmedH U.vm) : PP D G t (N, ad, cl) H.size U := by
  obtain ⟨hx, hb, hml, hown, hts, hK, hA, hZ, hN, hlo⟩ := X
  refine ⟨by rw [hU], by rw [hU]; exact w.1, va_K.moved hW.alike hK, w.2.1.weaken (fun _ _ _ _ => trivial), ?_, NS.warm hW hN⟩
  rw [hU]
  refine SF.narrow ?_ (Wd.free ⟨hx, hb, hml, hown, hts, hK, hA, hZ, hN, hlo⟩ w)
  exact SF.moved hW.alike (hZ.kept w.2.2.1 w.2.2.2.1)
theorem Wd.back (X : Cx p s m args meth c cc nL own D G t A) (w : Wd D A s H locs N ad cl) {u' : PS} {T : State} {H1 : Heap} {locs1 : List Loc} (hT : T.heap = H1) (hB : PB D G (PA (N, ad, cl) H.size) u' T) (hS : va_S A s.heap H1 locs1) : Wd D A s H1 locs1 u'.1 u'.2.1 u'.2.2 := by
  obtain ⟨h1, h2, h3⟩ := hB
  rw [hT] at h1
  exact ⟨h1, h3.weaken (fun k q _ h => w.free X q.1 h), hS⟩
theorem cw_V {y : MethodName} {c2 : ByteArray} {n2 d mc ms n idx : Nat} {ret : Option FieldType} (X : Cx p s m args meth c cc nL own D G t A) (Y : Yv y c2 n2 ret n) (hl : Cond.methodLink own idx y ∈ tb) (hR : d + 1 ≤ R.frames ∧ 8 + (n2 + 11) + 60 * d ≤ R.locals) : CallW R s args own y.cls idx y c2 n2 ret (wY y c2 n2 ret) (rmD d mc ms) mc ms n := by
  obtain ⟨hx, hb, hml, hown, hts, hK, hA, hZ, hN, hlo⟩ := X
  obtain ⟨h1, h2, h3, h4, h5, h6, h7⟩ := Y
  exact ⟨callB_of n hts (tb_goodC h1) rfl rfl rfl (hts _ h4) (hts _ hl) ⟨h5, h6, h7⟩ hR, hts _ h3, hts _ h2⟩
theorem c_I {y : MethodName} {c2 : ByteArray} {n2 d mc ms n idx : Nat} {av As : List Value} {post : Int32 → PS → Prop} {a : Nat} {st : List Value} (X : Cx p s m args meth c cc nL own D G t A) (w : Wd D A s H locs N ad cl) (M : CtI l y c2 n2 (rmD d mc ms) D G t (N, ad, cl) av post) (Y : Yv y c2 n2 (some .int) n) (hl : Cond.methodLink own idx y ∈ tb) (i : Nat) (ha : ad i = a) (hi : i < N) {ci Nf : Nat} {T : u_T} {ty : Nat → FieldType} {fs : List Value} (hc : cl i = .inr (ci, fs)) (kc : Kc ci y.cls T Nf ty) (hav : av = .ref a :: As) (hst : st = As.reverse ++ .ref a :: rest) (hn : As.length = n) (hls : ls.size = nL)
    (hR : d + 1 ≤ R.frames ∧ 8 + (n2 + 11) + 60 * d ≤ R.locals) (hW : (rest.map fun v => v.category).sum ≤ 8) (hdg : decode cc pc = .ok (.invokevirtual idx, 3)) (hf : cells + mc ≤ R.cells ∧ slots + ms ≤ R.slots)
    (kk : ∀ (r : Int32) (u' : PS) (H : Heap) (locs : List Loc), post r u' → Wd D A s H locs u'.1 u'.2.1 u'.2.2 → W p l e R s m args below meth c H locs (cells + mc) (slots + ms) Q (F0 m (pc + 3) ls (.int r :: rest))) : W p l e R s m args below meth c H locs cells slots Q (F0 m pc ls st) := by
  subst hav; subst hst; subst ha
  have X0 := X
  obtain ⟨hx, hb, hml, hown, hts, hK, hA, hZ, hN, hlo⟩ := X
  have hF := w.free X0
  refine va_calli (va_runV (As := As) (rest := rest) ⟨hx, hb, hml, hown, hts⟩ (M H.size) (cw_V X0 Y hl hR) ⟨PP.blind, va_recv hK w.1 kc.1 (by rw [wd_get hi, hc]), fun U hU hW => ⟨rfl, PP.of X0 w hU hW⟩⟩ rfl hn hls rfl (lv_room hW) hdg hf) w.2.2 (fun q _ h => hF q h) hF (fun r u' T H1 locs1 hT hvm hp hB _ _ hS => ?_)
  exact kk r u' H1 locs1 hp (w.back X0 hT hB hS)
theorem c_Z {y : MethodName} {c2 : ByteArray} {n2 d mc ms n idx : Nat} {av As : List Value} {post : Int32 → PS → Prop} {a : Nat} {st : List Value} (X : Cx p s m args meth c cc nL own D G t A) (w : Wd D A s H locs N ad cl) (M : CtZ l y c2 n2 (rmD d mc ms) D G t (N, ad, cl) av post) (Y : Yv y c2 n2 (some .boolean) n) (hl : Cond.methodLink own idx y ∈ tb) (i : Nat) (ha : ad i = a) (hi : i < N) {ci Nf : Nat} {T : u_T} {ty : Nat → FieldType} {fs : List Value} (hc : cl i = .inr (ci, fs)) (kc : Kc ci y.cls T Nf ty) (hav : av = .ref a :: As) (hst : st = As.reverse ++ .ref a :: rest) (hn : As.length = n) (hls : ls.size = nL)
    (hR : d + 1 ≤ R.frames ∧ 8 + (n2 + 11) + 60 * d ≤ R.locals) (hW : (rest.map fun v => v.category).sum ≤ 8) (hdg : decode cc pc = .ok (.invokevirtual idx, 3)) (hf : cells + mc ≤ R.cells ∧ slots + ms ≤ R.slots)
    (kk : ∀ (r : Int32) (u' : PS) (H : Heap) (locs : List Loc), post r u' → Wd D A s H locs u'.1 u'.2.1 u'.2.2 → W p l e R s m args below meth c H locs (cells + mc) (slots + ms) Q (F0 m (pc + 3) ls (.int r :: rest))) : W p l e R s m args below meth c H locs cells slots Q (F0 m pc ls st) := by
  subst hav; subst hst; subst ha
  have X0 := X
  obtain ⟨hx, hb, hml, hown, hts, hK, hA, hZ, hN, hlo⟩ := X
  have hF := w.free X0
  refine va_calli (va_runV (As := As) (rest := rest) ⟨hx, hb, hml, hown, hts⟩ (M H.size) (cw_V X0 Y hl hR) ⟨PP.blind, va_recv hK w.1 kc.1 (by rw [wd_get hi, hc]), fun U hU hW => ⟨rfl, PP.of X0 w hU hW⟩⟩ rfl hn hls rfl (lv_room hW) hdg hf) w.2.2 (fun q _ h => hF q h) hF (fun r u' T H1 locs1 hT hvm hp hB _ _ hS => ?_)
  exact kk r u' H1 locs1 hp (w.back X0 hT hB hS)
theorem c_V {y : MethodName} {c2 : ByteArray} {n2 d mc ms n idx : Nat} {av As : List Value} {post : PS → Prop} {a : Nat} {st : List Value} (X : Cx p s m args meth c cc nL own D G t A) (w : Wd D A s H locs N ad cl) (M : CtV l y c2 n2 (rmD d mc ms) D G t (N, ad, cl) av post) (Y : Yv y c2 n2 none n) (hl : Cond.methodLink own idx y ∈ tb) (i : Nat) (ha : ad i = a) (hi : i < N) {ci Nf : Nat} {T : u_T} {ty : Nat → FieldType} {fs : List Value} (hc : cl i = .inr (ci, fs)) (kc : Kc ci y.cls T Nf ty) (hav : av = .ref a :: As) (hst : st = As.reverse ++ .ref a :: rest) (hn : As.length = n) (hls : ls.size = nL)
    (hR : d + 1 ≤ R.frames ∧ 8 + (n2 + 11) + 60 * d ≤ R.locals) (hW : (rest.map fun v => v.category).sum ≤ 8) (hdg : decode cc pc = .ok (.invokevirtual idx, 3)) (hf : cells + mc ≤ R.cells ∧ slots + ms ≤ R.slots)
    (kk : ∀ (u' : PS) (H : Heap) (locs : List Loc), post u' → Wd D A s H locs u'.1 u'.2.1 u'.2.2 → W p l e R s m args below meth c H locs (cells + mc) (slots + ms) Q (F0 m (pc + 3) ls rest)) : W p l e R s m args below meth c H locs cells slots Q (F0 m pc ls st) := by
  subst hav; subst hst; subst ha
  have X0 := X
  obtain ⟨hx, hb, hml, hown, hts, hK, hA, hZ, hN, hlo⟩ := X
  have hF := w.free X0
  refine va_callv (va_runV (As := As) (rest := rest) ⟨hx, hb, hml, hown, hts⟩ (M H.size) (cw_V X0 Y hl hR) ⟨PP.blind, va_recv hK w.1 kc.1 (by rw [wd_get hi, hc]), fun U hU hW => ⟨rfl, PP.of X0 w hU hW⟩⟩ rfl hn hls rfl (lv_room hW) hdg hf) w.2.2 (fun q _ h => hF q h) hF (fun u' T H1 locs1 hT hvm hp hB _ _ hS => ?_)
  exact kk u' H1 locs1 hp (w.back X0 hT hB hS)
theorem c_init {y : MethodName} {c2 : ByteArray} {n2 d mc ms n idx : Nat} {av As : List Value} {post : PS → Prop} {a : Nat} {st : List Value} (X : Cx p s m args meth c cc nL own D G t A) (w : Wd D A s H locs N ad cl) (M : CtV l y c2 n2 (rmD d mc ms) D G t (N, ad, cl) av post) (Y : Yi y c2 n2 n) (hl : Cond.methodLink own idx y ∈ tb) (hav : av = .ref a :: As) (hst : st = As.reverse ++ .ref a :: rest) (hn : As.length = n) (hls : ls.size = nL)
    (hR : d + 1 ≤ R.frames ∧ 8 + (n2 + 11) + 60 * d ≤ R.locals) (hW : (rest.map fun v => v.category).sum ≤ 8) (hdg : decode cc pc = .ok (.invokespecial idx, 3)) (hf : cells + mc ≤ R.cells ∧ slots + ms ≤ R.slots)
    (kk : ∀ (u' : PS) (H : Heap) (locs : List Loc), post u' → Wd D A s H locs u'.1 u'.2.1 u'.2.2 → W p l e R s m args below meth c H locs (cells + mc) (slots + ms) Q (F0 m (pc + 3) ls rest)) : W p l e R s m args below meth c H locs cells slots Q (F0 m pc ls st) := by
  subst hav; subst hst
  have X0 := X
  obtain ⟨hx, hb, hml, hown, hts, hK, hA, hZ, hN, hlo⟩ := X
  obtain ⟨h1, h3, h4, h0, h5, h6, h7⟩ := Y
  have hF := w.free X0
  refine va_callv (va_runI (As := As) (rest := rest) ⟨hx, hb, hml, hown, hts⟩ (M H.size) (cwI n hts (tb_goodC h1) rfl rfl rfl (hts _ h4) (hts _ hl) (hts _ h3) h0 ⟨h5, h6, h7⟩ hR) ⟨PP.blind, fun U hU hW => ⟨rfl, PP.of X0 w hU hW⟩⟩ rfl hn hls rfl (lv_room hW) hdg hf) w.2.2 (fun q _ h => hF q h) hF (fun u' T H1 locs1 hT hvm hp hB _ _ hS => ?_)
  exact kk u' H1 locs1 hp (w.back X0 hT hB hS)
theorem cw_S {y : MethodName} {c2 : ByteArray} {n2 d mc ms n idx : Nat} {ret : Option FieldType} (X : Cx p s m args meth c cc nL own D G t A) (Y : Ys y c2 n2 ret n) (hl : Cond.methodLink own idx y ∈ tb) (hR : d + 1 ≤ R.frames ∧ 8 + (n2 + 11) + 60 * d ≤ R.locals) : CallB R s args own idx y c2 n2 ret (wY y c2 n2 ret) (rmD d mc ms) mc ms n ∧ (Cond.static y).before args s = true := by
  obtain ⟨hx, hb, hml, hown, hts, hK, hA, hZ, hN, hlo⟩ := X
  obtain ⟨h1, h2, h4, h5, h6, h7⟩ := Y
  exact ⟨callB_of n hts (tb_goodC h1) rfl rfl rfl (hts _ h4) (hts _ hl) ⟨h5, h6, h7⟩ hR, hts _ h2⟩
theorem c_SI {y : MethodName} {c2 : ByteArray} {n2 d mc ms n idx : Nat} {av As : List Value} {post : Int32 → PS → Prop} {st : List Value} (X : Cx p s m args meth c cc nL own D G t A) (w : Wd D A s H locs N ad cl) (M : CtI l y c2 n2 (rmD d mc ms) D G t (N, ad, cl) av post) (Y : Ys y c2 n2 (some .int) n) (hl : Cond.methodLink own idx y ∈ tb) (hav : av = As) (hst : st = As.reverse ++ rest) (hn : As.length = n) (hls : ls.size = nL)
    (hR : d + 1 ≤ R.frames ∧ 8 + (n2 + 11) + 60 * d ≤ R.locals) (hW : (rest.map fun v => v.category).sum ≤ 8) (hdg : decode cc pc = .ok (.invokestatic idx, 3)) (hf : cells + mc ≤ R.cells ∧ slots + ms ≤ R.slots)
    (kk : ∀ (r : Int32) (u' : PS) (H : Heap) (locs : List Loc), post r u' → Wd D A s H locs u'.1 u'.2.1 u'.2.2 → W p l e R s m args below meth c H locs (cells + mc) (slots + ms) Q (F0 m (pc + 3) ls (.int r :: rest))) : W p l e R s m args below meth c H locs cells slots Q (F0 m pc ls st) := by
  subst hav; subst hst
  have X0 := X
  obtain ⟨hx, hb, hml, hown, hts, hK, hA, hZ, hN, hlo⟩ := X
  have hF := w.free X0
  refine va_calli (va_runS (As := av) (rest := rest) ⟨hx, hb, hml, hown, hts⟩ (M H.size) (cw_S X0 Y hl hR) ⟨PP.blind, fun U hU hW => ⟨rfl, PP.of X0 w hU hW⟩⟩ rfl hn hls rfl (lv_room hW) hdg hf) w.2.2 (fun q _ h => hF q h) hF (fun r u' T H1 locs1 hT hvm hp hB _ _ hS => ?_)
  exact kk r u' H1 locs1 hp (w.back X0 hT hB hS)
theorem c_SZ {y : MethodName} {c2 : ByteArray} {n2 d mc ms n idx : Nat} {av As : List Value} {post : Int32 → PS → Prop} {st : List Value} (X : Cx p s m args meth c cc nL own D G t A) (w : Wd D A s H locs N ad cl) (M : CtZ l y c2 n2 (rmD d mc ms) D G t (N, ad, cl) av post) (Y : Ys y c2 n2 (some .boolean) n) (hl : Cond.methodLink own idx y ∈ tb) (hav : av = As) (hst : st = As.reverse ++ rest) (hn : As.length = n) (hls : ls.size = nL)
    (hR : d + 1 ≤ R.frames ∧ 8 + (n2 + 11) + 60 * d ≤ R.locals) (hW : (rest.map fun v => v.category).sum ≤ 8) (hdg : decode cc pc = .ok (.invokestatic idx, 3)) (hf : cells + mc ≤ R.cells ∧ slots + ms ≤ R.slots)
    (kk : ∀ (r : Int32) (u' : PS) (H : Heap) (locs : List Loc), post r u' → Wd D A s H locs u'.1 u'.2.1 u'.2.2 → W p l e R s m args below meth c H locs (cells + mc) (slots + ms) Q (F0 m (pc + 3) ls (.int r :: rest))) : W p l e R s m args below meth c H locs cells slots Q (F0 m pc ls st) := by
  subst hav; subst hst
  have X0 := X
  obtain ⟨hx, hb, hml, hown, hts, hK, hA, hZ, hN, hlo⟩ := X
  have hF := w.free X0
  refine va_calli (va_runS (As := av) (rest := rest) ⟨hx, hb, hml, hown, hts⟩ (M H.size) (cw_S X0 Y hl hR) ⟨PP.blind, fun U hU hW => ⟨rfl, PP.of X0 w hU hW⟩⟩ rfl hn hls rfl (lv_room hW) hdg hf) w.2.2 (fun q _ h => hF q h) hF (fun r u' T H1 locs1 hT hvm hp hB _ _ hS => ?_)
  exact kk r u' H1 locs1 hp (w.back X0 hT hB hS)
/-! ends -/
theorem e_I {mc ms : Nat} {post : Int32 → PS → Prop} {v : Int32} (X : Cx p s m args meth c cc nL own D G t A) (hr : meth.sig.returnType = some .int) (w : Wd D A s H locs N ad cl) (hp : post v (N, ad, cl)) (h1 : cells ≤ mc) (h2 : slots ≤ ms) (hdg : decode cc pc = .ok (.ireturn, 1)) : W p l e R s m args below meth c H locs cells slots (MQ below (va_Qi post (PB D G A) A) args s mc ms A) (F0 m pc ls [.int v]) := by
  obtain ⟨hx, hb, hml, hown, hts, hK, hA, hZ, hN, hlo⟩ := X
  refine W.widen (k := mc) (n := ms) h1 h2 ?_
  exact W.iret hx hb hr (fun t9 ht hW => ⟨⟨v, (N, ad, cl), rfl, hp, by rw [ht]; exact w.1, va_K.moved hW.alike hK, w.2.1⟩, w.2.2.F ht⟩) w.2.2.2.2 hdg hlo
theorem e_Z {mc ms : Nat} {post : Int32 → PS → Prop} {v : Int32} (X : Cx p s m args meth c cc nL own D G t A) (hr : meth.sig.returnType = some .boolean) (hv : narrow .boolean (.int v) = .int v) (w : Wd D A s H locs N ad cl) (hp : post v (N, ad, cl)) (h1 : cells ≤ mc) (h2 : slots ≤ ms) (hdg : decode cc pc = .ok (.ireturn, 1)) : W p l e R s m args below meth c H locs cells slots (MQ below (va_Qi post (PB D G A) A) args s mc ms A) (F0 m pc ls [.int v]) := by
  obtain ⟨hx, hb, hml, hown, hts, hK, hA, hZ, hN, hlo⟩ := X
  refine W.widen (k := mc) (n := ms) h1 h2 ?_
  exact W.zret hx hb hr hv (fun t9 ht hW => ⟨⟨v, (N, ad, cl), rfl, hp, by rw [ht]; exact w.1, va_K.moved hW.alike hK, w.2.1⟩, w.2.2.F ht⟩) w.2.2.2.2 hdg hlo
theorem e_V {mc ms : Nat} {post : PS → Prop} (X : Cx p s m args meth c cc nL own D G t A) (hr : meth.sig.returnType = none) (w : Wd D A s H locs N ad cl) (hp : post (N, ad, cl)) (h1 : cells ≤ mc) (h2 : slots ≤ ms) (hdg : decode cc pc = .ok (.return_, 1)) : W p l e R s m args below meth c H locs cells slots (MQ below (va_Qv post (PB D G A) A) args s mc ms A) (F0 m pc ls []) := by
  obtain ⟨hx, hb, hml, hown, hts, hK, hA, hZ, hN, hlo⟩ := X
  refine W.widen (k := mc) (n := ms) h1 h2 ?_
  exact W.vret hx hb hr (fun t9 ht hW => ⟨⟨(N, ad, cl), rfl, hp, by rw [ht]; exact w.1, va_K.moved hW.alike hK, w.2.1⟩, w.2.2.F ht⟩) w.2.2.2.2 hdg hlo
end
/-! bodies -/
theorem ct_I {l : Launch} {y : MethodName} {cc : ByteArray} {nL : Nat} {rm : Room} {D : va_G} {G : Nat → ClassId} {t : Nat → Nat} {N : Nat} {ad : Nat → Nat} {cl : Nat → va_E} {av : List Value} {post : Int32 → PS → Prop} {own : String} (hy : plainName y.cls = true) (ho : y.cls = own) (hlen : (lg_sl av).length ≤ nL) {lv : List (Nat × Value)} (hlv : lv_args 0 av = lv)
    (body : ∀ p e s m args below meth c A ls, Cx p s m args meth c cc nL own D G t A → meth.sig.returnType = some .int → lv_has ls nL lv → Wd D A s s.heap [] N ad cl → W p l e rm s m args below meth c s.heap [] 0 0 (MQ below (va_Qi post (PB D G A) A) args s rm.cells rm.slots A) (F0 m 0 ls [])) : CtI l y cc nL rm D G t (N, ad, cl) av post := by
  intro sz
  refine Met.ofW (cc := cc) (maxL := nL) (ret := some .int) hy rfl ?_
  intro p e s m args below meth c s₁ B hml hv
  obtain ⟨rfl, hsz, hP, hK, hD0, hZ, hN⟩ := hv
  have hts := atoms_spec (ws := wY y cc nL (some .int)) B.pre
  have hown : s.vm.findClass y.cls = some m.cls := findClass_of_methodNamed B.named
  subst hsz
  have hD := hD0.self (sz := s.heap.size)
  have hl := lv_entry av (n := nL) hlen
  rw [lg_entry_eq]
  rw [hlv] at hl
  exact body p e s m _ below meth c _ _ ⟨B.exec, B.bytes, hml, by rw [← ho]; exact hown, fun w hw => hts w (List.mem_cons_of_mem _ hw), hK, fun q h => Or.inr h, hZ, hN, B.notSynchronized⟩ B.returns hl ⟨hP, hD, va_S.rf⟩
theorem ct_Z {l : Launch} {y : MethodName} {cc : ByteArray} {nL : Nat} {rm : Room} {D : va_G} {G : Nat → ClassId} {t : Nat → Nat} {N : Nat} {ad : Nat → Nat} {cl : Nat → va_E} {av : List Value} {post : Int32 → PS → Prop} {own : String} (hy : plainName y.cls = true) (ho : y.cls = own) (hlen : (lg_sl av).length ≤ nL) {lv : List (Nat × Value)} (hlv : lv_args 0 av = lv)
    (body : ∀ p e s m args below meth c A ls, Cx p s m args meth c cc nL own D G t A → meth.sig.returnType = some .boolean → lv_has ls nL lv → Wd D A s s.heap [] N ad cl → W p l e rm s m args below meth c s.heap [] 0 0 (MQ below (va_Qi post (PB D G A) A) args s rm.cells rm.slots A) (F0 m 0 ls [])) : CtZ l y cc nL rm D G t (N, ad, cl) av post := by
  intro sz
  refine Met.ofW (cc := cc) (maxL := nL) (ret := some .boolean) hy rfl ?_
  intro p e s m args below meth c s₁ B hml hv
  obtain ⟨rfl, hsz, hP, hK, hD0, hZ, hN⟩ := hv
  have hts := atoms_spec (ws := wY y cc nL (some .boolean)) B.pre
  have hown : s.vm.findClass y.cls = some m.cls := findClass_of_methodNamed B.named
  subst hsz
  have hD := hD0.self (sz := s.heap.size)
  have hl := lv_entry av (n := nL) hlen
  rw [lg_entry_eq]
  rw [hlv] at hl
  exact body p e s m _ below meth c _ _ ⟨B.exec, B.bytes, hml, by rw [← ho]; exact hown, fun w hw => hts w (List.mem_cons_of_mem _ hw), hK, fun q h => Or.inr h, hZ, hN, B.notSynchronized⟩ B.returns hl ⟨hP, hD, va_S.rf⟩
theorem ct_V {l : Launch} {y : MethodName} {cc : ByteArray} {nL : Nat} {rm : Room} {D : va_G} {G : Nat → ClassId} {t : Nat → Nat} {N : Nat} {ad : Nat → Nat} {cl : Nat → va_E} {av : List Value} {post : PS → Prop} {own : String} (hy : plainName y.cls = true) (ho : y.cls = own) (hlen : (lg_sl av).length ≤ nL) {lv : List (Nat × Value)} (hlv : lv_args 0 av = lv)
    (body : ∀ p e s m args below meth c A ls, Cx p s m args meth c cc nL own D G t A → meth.sig.returnType = none → meth.name = y.name → lv_has ls nL lv → Wd D A s s.heap [] N ad cl → W p l e rm s m args below meth c s.heap [] 0 0 (MQ below (va_Qv post (PB D G A) A) args s rm.cells rm.slots A) (F0 m 0 ls [])) : CtV l y cc nL rm D G t (N, ad, cl) av post := by
  intro sz
  refine Met.ofW (cc := cc) (maxL := nL) (ret := none) hy rfl ?_
  intro p e s m args below meth c s₁ B hml hv
  obtain ⟨rfl, hsz, hP, hK, hD0, hZ, hN⟩ := hv
  have hts := atoms_spec (ws := wY y cc nL none) B.pre
  have hown : s.vm.findClass y.cls = some m.cls := findClass_of_methodNamed B.named
  subst hsz
  have hD := hD0.self (sz := s.heap.size)
  have hl := lv_entry av (n := nL) hlen
  rw [lg_entry_eq]
  rw [hlv] at hl
  exact body p e s m _ below meth c _ _ ⟨B.exec, B.bytes, hml, by rw [← ho]; exact hown, fun w hw => hts w (List.mem_cons_of_mem _ hw), hK, fun q h => Or.inr h, hZ, hN, B.notSynchronized⟩ B.returns (name_of_methodNamed B.named B.method).1 hl ⟨hP, hD, va_S.rf⟩
theorem tn_1 {i : Nat} {c : Cond} (h : tables_1_1[i]? = some c) : c ∈ tables_1 := (List.mem_append_left _ (List.mem_of_getElem? h))
theorem tn_2 {i : Nat} {c : Cond} (h : tables_1_2[i]? = some c) : c ∈ tables_1 := (List.mem_append_right _ (List.mem_append_left _ (List.mem_of_getElem? h)))
theorem tn_3 {i : Nat} {c : Cond} (h : tables_1_3[i]? = some c) : c ∈ tables_1 := (List.mem_append_right _ (List.mem_append_right _ (List.mem_append_left _ (List.mem_of_getElem? h))))
theorem tn_4 {i : Nat} {c : Cond} (h : tables_1_4[i]? = some c) : c ∈ tables_1 := (List.mem_append_right _ (List.mem_append_right _ (List.mem_append_right _ (List.mem_append_left _ (List.mem_of_getElem? h)))))
theorem tn_5 {i : Nat} {c : Cond} (h : tables_1_5[i]? = some c) : c ∈ tables_1 := (List.mem_append_right _ (List.mem_append_right _ (List.mem_append_right _ (List.mem_append_right _ (List.mem_append_left _ (List.mem_of_getElem? h))))))
theorem tn_6 {i : Nat} {c : Cond} (h : tables_1_6[i]? = some c) : c ∈ tables_1 := (List.mem_append_right _ (List.mem_append_right _ (List.mem_append_right _ (List.mem_append_right _ (List.mem_append_right _ (List.mem_append_left _ (List.mem_of_getElem? h)))))))
theorem tn_7 {i : Nat} {c : Cond} (h : tables_1_7[i]? = some c) : c ∈ tables_1 := (List.mem_append_right _ (List.mem_append_right _ (List.mem_append_right _ (List.mem_append_right _ (List.mem_append_right _ (List.mem_append_right _ (List.mem_append_left _ (List.mem_of_getElem? h))))))))
theorem tn_8 {i : Nat} {c : Cond} (h : tables_1_8[i]? = some c) : c ∈ tables_1 := (List.mem_append_right _ (List.mem_append_right _ (List.mem_append_right _ (List.mem_append_right _ (List.mem_append_right _ (List.mem_append_right _ (List.mem_append_right _ (List.mem_append_left _ (List.mem_of_getElem? h)))))))))
theorem tn_9 {i : Nat} {c : Cond} (h : tables_1_9[i]? = some c) : c ∈ tables_1 := (List.mem_append_right _ (List.mem_append_right _ (List.mem_append_right _ (List.mem_append_right _ (List.mem_append_right _ (List.mem_append_right _ (List.mem_append_right _ (List.mem_append_right _ (List.mem_append_left _ (List.mem_of_getElem? h))))))))))
theorem tn_10 {i : Nat} {c : Cond} (h : tables_1_10[i]? = some c) : c ∈ tables_1 := (List.mem_append_right _ (List.mem_append_right _ (List.mem_append_right _ (List.mem_append_right _ (List.mem_append_right _ (List.mem_append_right _ (List.mem_append_right _ (List.mem_append_right _ (List.mem_append_right _ (List.mem_append_left _ (List.mem_of_getElem? h)))))))))))
theorem tn_11 {i : Nat} {c : Cond} (h : tables_1_11[i]? = some c) : c ∈ tables_1 := (List.mem_append_right _ (List.mem_append_right _ (List.mem_append_right _ (List.mem_append_right _ (List.mem_append_right _ (List.mem_append_right _ (List.mem_append_right _ (List.mem_append_right _ (List.mem_append_right _ (List.mem_append_right _ (List.mem_append_left _ (List.mem_of_getElem? h))))))))))))
theorem tn_12 {i : Nat} {c : Cond} (h : tables_1_12[i]? = some c) : c ∈ tables_1 := (List.mem_append_right _ (List.mem_append_right _ (List.mem_append_right _ (List.mem_append_right _ (List.mem_append_right _ (List.mem_append_right _ (List.mem_append_right _ (List.mem_append_right _ (List.mem_append_right _ (List.mem_append_right _ (List.mem_append_right _ (List.mem_of_getElem? h))))))))))))
