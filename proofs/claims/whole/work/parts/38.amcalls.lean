/-! THE ABSTRACT MACHINE'S CALLS -/
theorem am_v_cg {b : Nat} {t ad ad' : Nat → Nat} {v : Value} (h : AdR ad ad') (hv : okV v) : am_v (adx b t ad') v = am_v (adx b t ad) v := by
  cases v <;> try rfl
  rename_i i
  simp only [am_v, adx]
  by_cases hi : i < 352
  · rw [if_pos hi, if_pos hi, h i hi hv]
  · rw [if_neg hi, if_neg hi]
theorem am_sk_cg {b : Nat} {t ad ad' : Nat → Nat} {st : List Value} (h : AdR ad ad') (hv : okS st) : am_sk (adx b t ad') st = am_sk (adx b t ad) st := List.map_congr_left (fun v hm => am_v_cg h (hv v hm))
theorem am_lo_cg {b : Nat} {t ad ad' : Nat → Nat} {lo : ALo} (h : AdR ad ad') (hv : okL lo) : am_lo (adx b t ad') lo = am_lo (adx b t ad) lo := List.map_congr_left (fun q hm => by rw [am_v_cg h (hv q hm)])
theorem am_sk_cat (h : Nat → Nat) : ∀ st : List Value, ((am_sk h st).map fun v => v.category).sum = (st.map fun v => v.category).sum
  | [] => rfl
  | v :: st => by
    show (am_v h v).category + ((am_sk h st).map fun v => v.category).sum = _
    rw [am_v_cat, am_sk_cat h st]; rfl
theorem am_sl (h : Nat → Nat) : ∀ av : List Value, (lg_sl (am_sk h av)).length = (lg_sl av).length
  | [] => rfl
  | v :: av => by
    have := am_sl h av
    simp only [lg_sl, am_sk, List.map_cons, List.flatMap_cons, List.length_append, am_v_cat] at this ⊢
    rw [this]
    split <;> rfl
theorem am_args (h : Nat → Nat) : ∀ (i : Nat) (av : List Value), lv_args i (am_sk h av) = am_lo h (lv_args i av)
  | _, [] => rfl
  | i, v :: av => by
    show (i, am_v h v) :: lv_args (if (am_v h v).category = 2 then i + 2 else i + 1) (am_sk h av) = _
    rw [am_v_cat, am_args h _ av]; rfl
theorem okL.args : ∀ {i : Nat} {av : List Value}, okS av → okL (lv_args i av)
  | _, [], _ => fun _ h => absurd h List.not_mem_nil
  | i, v :: av, h => fun q hq => by
    rcases List.mem_cons.mp hq with rfl | hq
    · exact h.h
    · exact okL.args h.t q hq
theorem vx_toMet {l : Launch} {y : MethodName} {ws : List Cond} {rm : Room} {Pc : Array Value → State → Prop} {Qc : Array Value → State → Outcome → State → Prop} {XC : String → State → State → Prop} {mc ms : Nat} {free : Addr → Prop} (h : vx_Met l y ws rm Pc Qc XC mc ms free) (hX : ∀ E s t, ¬ XC E s t) : Met l y ws rm Pc Qc mc ms free := by
  intro p e h1 h2 h3 s m args below h4 h5 h6 h7
  obtain ⟨n, o, a1, a2, a3, a4⟩ := h p e h1 h2 h3 s m args below h4 h5 h6 h7
  rcases a4 with ⟨q1, q2⟩ | ⟨q, -, E, ce, L, hE, -⟩
  · exact ⟨n, o, a1, a2, a3, q1, q2⟩
  · exact absurd hE (hX _ _ _)
section
variable {l : Launch} {y : MethodName} {cc : ByteArray} {nL : Nat} {rm : Room} {D : va_G} {G : Nat → ClassId} {t : Nat → Nat} {N : Nat} {ad : Nat → Nat} {cl : Nat → va_E} {av : List Value} {ret : Option FieldType} {Qc : (Nat → Prop) → Array Value → State → Outcome → State → Prop} {pX : String → PS → Prop} {own : String}
theorem ct_GX (hy : plainName y.cls = true) (ho : y.cls = own) (hlen : (lg_sl av).length ≤ nL)
    (body : ∀ p e s m args below meth c A ls, Cx p s m args meth c cc nL own D G t A → meth.sig.returnType = ret → c.exceptionTable.toList = [] → lv_has ls nL (lv_args 0 av) → Wd D A s s.heap [] N ad cl → W p l e rm s m args below meth c s.heap [] 0 0 (vx_MQ below (Qc A) (XQ D G A pX) args s rm.cells rm.slots A) (F0 m 0 ls [])) (sz : Nat) : vx_Met l y (wY y cc nL ret) rm (va_Pc av (PP D G t (N, ad, cl) sz)) (Qc (PA (N, ad, cl) sz)) (XQ D G (PA (N, ad, cl) sz) pX) rm.cells rm.slots (PA (N, ad, cl) sz) := by
  refine vx_ofW (cc := cc) (maxL := nL) (ret := ret) hy rfl ?_
  intro p e s m args below meth c s₁ B hml hno hv
  obtain ⟨rfl, hsz, hP, hK, hD0, hZ, hN⟩ := hv
  have hts := atoms_spec (ws := wY y cc nL ret) B.pre
  have hown : s.vm.findClass y.cls = some m.cls := findClass_of_methodNamed B.named
  subst hsz
  have hD := hD0.self (sz := s.heap.size)
  have hl := lv_entry av (n := nL) hlen
  rw [lg_entry_eq]
  have hno' : c.exceptionTable.toList = [] := by
    cases hc : c.exceptionTable.toList with
    | nil => rfl
    | cons x r => exact absurd (hno x (by rw [hc]; exact List.mem_cons_self)) id
  exact body p e s m _ below meth c _ _ ⟨B.exec, B.bytes, hml, by rw [← ho]; exact hown, fun w hw => hts w (List.mem_cons_of_mem _ hw), hK, fun q h => Or.inr h, hZ, hN, B.notSynchronized⟩ B.returns hno' hl ⟨hP, hD, va_S.rf⟩
theorem ct_GW {hh : List (Nat × Nat × Nat × Nat)} (hy : plainName y.cls = true) (ho : y.cls = own) (hlen : (lg_sl av).length ≤ nL)
    (body : ∀ p e s m args below meth c A ls, Cx p s m args meth c cc nL own D G t A → meth.sig.returnType = ret → c.exceptionTable.toList = tableOf hh → lv_has ls nL (lv_args 0 av) → Wd D A s s.heap [] N ad cl → W p l e rm s m args below meth c s.heap [] 0 0 (vx_MQ below (Qc A) (XQ D G A pX) args s rm.cells rm.slots A) (F0 m 0 ls [])) (sz : Nat) : vx_Met l y (wW y cc nL ret hh) rm (va_Pc av (PP D G t (N, ad, cl) sz)) (Qc (PA (N, ad, cl) sz)) (XQ D G (PA (N, ad, cl) sz) pX) rm.cells rm.slots (PA (N, ad, cl) sz) := by
  refine vx_ofWH (cc := cc) (maxL := nL) (ret := ret) (hh := hh) hy rfl ?_
  intro p e s m args below meth c s₁ B hml hv
  obtain ⟨rfl, hsz, hP, hK, hD0, hZ, hN⟩ := hv
  have hts := atoms_spec (ws := wW y cc nL ret hh) B.pre
  have hown : s.vm.findClass y.cls = some m.cls := findClass_of_methodNamed B.named
  subst hsz
  have hD := hD0.self (sz := s.heap.size)
  have hl := lv_entry av (n := nL) hlen
  rw [lg_entry_eq]
  exact body p e s m _ below meth c _ _ ⟨B.exec, B.bytes, hml, by rw [← ho]; exact hown, fun w hw => hts w (List.mem_cons_of_mem _ hw), hK, fun q h => Or.inr h, hZ, hN, B.notSynchronized⟩ B.returns (vx_table (x := y) B (hts _ List.mem_cons_self)) hl ⟨hP, hD, va_S.rf⟩
end
theorem wsM_c {ν : Nat} (h : mK ν < 2) : wsM ν = wY (mY ν) (mC ν) (mL ν) (mT ν) := by unfold wsM; rw [if_pos h]
theorem wsM_w {ν : Nat} (h : ¬ mK ν < 2) : wsM ν = wW (mY ν) (mC ν) (mL ν) (mT ν) (mH ν) := by unfold wsM; rw [if_neg h]
theorem gS {own idx : Nat} {y : MethodName} {w0 : Cond} (hl : Cond.methodLink (rx own) idx y ∈ tb) (hst0 : Cond.static y ∈ tb) (hini : Cond.initialized y.cls ∈ tb) (hcode : w0 ∈ tb) : GoodIn tb (va_wsS (rx own) idx y (w0 :: tb)) := fun w hw => by
  rcases List.mem_append.mp hw with h | h
  · rcases List.mem_cons.mp h with rfl | h
    · exact tb_goodIn _ hl
    · rcases List.mem_cons.mp h with rfl | h
      · exact tb_goodIn _ hst0
      · rcases List.mem_cons.mp h with rfl | h
        · exact tb_goodIn _ hini
        · exact absurd h List.not_mem_nil
  · exact tb_goodC hcode w h
theorem gV {own idx : Nat} {y : MethodName} {w0 : Cond} (hl : Cond.methodLink (rx own) idx y ∈ tb) (hin : Cond.instanceMethod y ∈ tb) (hsel : Cond.selects y.cls y y ∈ tb) (hini : Cond.initialized y.cls ∈ tb) (hcode : w0 ∈ tb) : GoodIn tb (wsV (rx own) idx y.cls y (w0 :: tb)) := fun w hw => by
  unfold wsV at hw
  rcases List.mem_append.mp hw with h | h
  · simp only [List.mem_cons, List.not_mem_nil, or_false] at h
    rcases h with rfl | rfl | rfl | rfl
    all_goals first | exact tb_goodIn _ hl | exact tb_goodIn _ hin | exact tb_goodIn _ hsel | exact tb_goodIn _ hini
  · exact tb_goodC hcode w h
section
variable {p : Program} {l : Launch} {e : Env} {R : Room} {s : State} {m : MethodId} {args : Array Value} {below : List Frame} {meth : Method} {c : Code} {T : State} {locs : List Loc} {cells slots : Nat}
theorem vx_callSN (X : Stand p l e R s m args below meth c T locs cells slots) (hexec : p.tables.exec = Jvm.exec) {own : String} {index : Nat} {host : String} {y : MethodName} {bytes : ByteArray} {maxL : Nat} {ret : Option FieldType}
    (hown : s.vm.findClass own = some m.cls) (hlink : (Cond.methodLinkNest own index y host).before args s = true) (hstat : (Cond.static y).before args s = true) (hinit : (Cond.initialized y.cls).before args s = true)
    (hcode : (Cond.code y bytes maxL ret).before args s = true) (hy : y.cls ≠ "java/lang/invoke/MethodHandle" ∧ y.cls ≠ "java/lang/invoke/VarHandle")
    {W9 : Nat} {Pre : Pt → Array Value → Prop} {Post : Pt → Array Value → Option Value → Pt → Prop} {PostX : Pt → Array Value → Addr → Pt → Prop} (hK : vx_Back l R p e below s args y 3 W9 Pre Post PostX)
    {g : JFrame} (hg : g.method = m) (hsize : g.locals.size = c.maxLocals) {argsL rest : List Value} (hlen : ∀ sig, parseMethodDescriptor y.desc = some sig → argsL.length = sig.parameters.length)
    (hstack : g.stack = argsL.reverse ++ rest) (hW : 2 * g.monitorRoom + (rest.map fun v => v.category).sum ≤ W9) (hdg : decode c.code g.pc = .ok (.invokestatic index, 3))
    (hpre : ∀ vm₁, s.WarmedH vm₁ → Pre ⟨T.setVm vm₁, locs, cells, slots⟩ argsL.toArray) :
    (∃ (v : Option Value) (vm₁ : Vm) (B : Pt), s.WarmedH vm₁ ∧ Stand p l e R s m args below meth c B.U B.locs B.cells B.slots ∧ Post ⟨T.setVm vm₁, locs, cells, slots⟩ argsL.toArray v B ∧
      ∀ target, Steps p.tables e below (B.U.setTop { g with pc := g.pc + 3, stack := v.toList ++ rest }) target → Steps p.tables e below (T.setTop g) target) ∨
    (∃ (q : Addr) (vm₁ : Vm) (B : Pt), s.WarmedH vm₁ ∧ Stand p l e R s m args below meth c B.U B.locs B.cells B.slots ∧ PostX ⟨T.setVm vm₁, locs, cells, slots⟩ argsL.toArray q B ∧
      Steps p.tables e below (T.setTop g) ((B.U.setTop { g with stack := rest }).pushFrame (.throwing q))) := by
  obtain ⟨mk, hnamed⟩ := Cond.code_named hcode
  obtain ⟨methM, cM, hmethM, -, -, -, -, -, -, hsigM⟩ := Cond.code_spec hnamed hcode
  have hstatic : methM.isStatic = true := Cond.static_spec hnamed hmethM hstat
  obtain ⟨kP, hkP, -⟩ := className_of_methodNamed hnamed
  have hinitP : kP.init = .initialized := Cond.initialized_spec (findClass_of_methodNamed hnamed) hkP hinit
  obtain ⟨vm₁, X₁, hstep₁⟩ := X.invokestaticNest hexec hown hlink hnamed hmethM hstatic hkP hinitP hy (g := g) hg (argsL := argsL) (rest := rest) (hlen _ hsigM) hstack hdg
  rcases hK m meth c ⟨T.setVm vm₁, locs, cells, slots⟩ { g with stack := rest } (.invokestatic index) mk argsL.toArray X₁ hg hsize hdg hW (X₁.named hnamed) (hpre vm₁ X₁.warmed) with ⟨v, B, X', hpost, hsteps⟩ | ⟨q, B, X', hpost, hsteps⟩
  · exact Or.inl ⟨v, vm₁, B, X₁.warmed, X', hpost, fun target h => hstep₁ _ fun acts => by rw [doInvoke_state]; exact hsteps.trans h⟩
  · exact Or.inr ⟨q, vm₁, B, X₁.warmed, X', hpost, hstep₁ _ fun acts => by rw [doInvoke_state]; exact hsteps⟩
end
section
variable {p : Program} {l : Launch} {e : Env} {R : Room} {s : State} {m : MethodId} {args : Array Value} {below : List Frame} {meth : Method} {c : Code} {H : Heap} {locs : List Loc} {cells slots : Nat}
variable {y : MethodName} {bytes cc : ByteArray} {maxL nL mc ms n index : Nat} {ret : Option FieldType} {ws : List Cond} {rm : Room} {Pc : Array Value → State → Prop} {Qc : Array Value → State → Outcome → State → Prop} {XC : String → State → State → Prop} {free : Addr → Prop} {Ts : List Cond} {own C : String} {b : Addr} {As rest : List Value} {g : JFrame}
theorem vx_runSN {host : String} (S : CallFix p m c cc nL s args Ts own) (hM : vx_Met l y ws rm Pc Qc XC mc ms free) (cw : va_CN R s args own index y host bytes maxL ret ws rm mc ms n ∧ (Cond.static y).before args s = true ∧ True) (hp : PreS s H Pc As)
    (hg : g.method = m) (hn : As.length = n) (hsize : g.locals.size = nL) (hstack : g.stack = As.reverse ++ rest) (hW : 2 * g.monitorRoom + (rest.map fun v => v.category).sum ≤ 8) (hdg : decode cc g.pc = .ok (.invokestatic index, 3)) (hf : cells + mc ≤ R.cells ∧ slots + ms ≤ R.slots) :
    vx_Run p l e R s m args below meth c H locs cells slots mc ms g rest (Qc As.toArray) XC free := by
  obtain ⟨⟨⟨hrc, hrs, hfr, hlo, hws, hcw⟩, hcode, hini, hy, hlen, hl⟩, hstt, -⟩ := cw
  have hK : vx_Back l R p e below s args y 3 8 (PreOf R mc ms Pc) (PostOf Qc mc ms free) (vx_Post XC mc ms free) := vx_back (bytes := bytes) (maxL := maxL) (ret := ret) hM hp.1 hrc hrs hfr hlo hws hcw (fun a' U hW => word_at hW (Or.inl (by first | rfl | simp [Cond.onTables, Cond.keeps, Cond.steady])) hini)
  obtain ⟨hx, hb, hml, ho, -⟩ := S
  intro T hT X
  rcases vx_callSN X hx (bytes := bytes) (maxL := maxL) (ret := ret) ho hl hstt hini hcode hy hK hg (hsize.trans hml.symm) (argsL := As) (rest := rest) (fun sig h => hn.trans (hlen sig h)) hstack hW (by rw [hb]; exact hdg)
    (fun vm₁ hW₁ => ⟨hf.1, hf.2, hp.2 (T.setVm vm₁) hT hW₁⟩) with ⟨v, vm₁, ⟨U', l2, c2, s2⟩, hW₁, X', ⟨g', mk, t, L, e1, e2, hq, h1, hL, h2, h3⟩, st⟩ | ⟨q, vm₁, ⟨U', l2, c2, s2⟩, hW₁, X', ⟨g', mk, t, L, E, ce, e1, e2, hq, hce, hcv, hcl, h1, hL, h2, h3⟩, st⟩
  · dsimp only [Pt.U, Pt.locs, Pt.cells, Pt.slots] at X' e1 e2 h1 h2 h3 st
    subst h1; subst h2; subst h3
    exact Or.inl ⟨v, (T.setVm vm₁).calling g' mk As.toArray, t, U', L, hT, X', hL, e1, e2, hq, st⟩
  · dsimp only [Pt.U, Pt.locs, Pt.cells, Pt.slots] at X' e1 e2 h1 h2 h3 st hcl
    subst h1; subst h2; subst h3
    exact Or.inr ⟨q, (T.setVm vm₁).calling g' mk As.toArray, t, U', L, E, ce, hT, X', hL, e1, e2, hq, hce, hcv, vx_cls hW₁ hcl, st⟩
end
section
variable {p : Program} {l : Launch} {e : Env} {R : Room} {s : State} {m : MethodId} {args : Array Value} {below : List Frame} {meth : Method} {c : Code} {H : Heap} {locs : List Loc} {cells slots : Nat} {Q : State → Prop}
variable {cc : ByteArray} {nL pc : Nat} {own : Nat} {ls : Array Slot} {D : va_G} {G : Nat → ClassId} {t : Nat → Nat} {A : Nat → Prop} {ad : Nat → Nat} {cl : Nat → va_E} {b : Nat} {σ : SS}
theorem objs_ci : ∀ q ∈ xObjs, q.2.1 < 13 := by decide +kernel
theorem am_runA (X : Cx p s m args meth c cc nL (rx own) D G t A) (w : Wd D A s H locs 352 ad cl) (P : PIC G ad cl σ) {ins : Jvm.ClassFile.Instr} {st av rest : List Value} {ν d mc ms : Nat} (C : CS own ins st ν av rest) {Qc : Array Value → State → Outcome → State → Prop} (M : Met l (mY ν) (wsM ν) (rmD d mc ms) (va_Pc (am_sk (adx b t ad) av) (PP D G t (352, ad, cl) H.size)) Qc mc ms (PA (352, ad, cl) H.size)) (hls : ls.size = nL) (hR : d + 1 ≤ R.frames ∧ 60 * (d + 1) ≤ R.locals) (hdg : decode cc pc = .ok (ins, 3)) (hf : cells + mc ≤ R.cells ∧ slots + ms ≤ R.slots) :
    va_Run p l e R s m args below meth c H locs cells slots mc ms (F0 m pc ls (am_sk (adx b t ad) st)) (am_sk (adx b t ad) rest) (Qc (am_sk (adx b t ad) av).toArray) (PA (352, ad, cl) H.size) := by
  have X0 := X
  obtain ⟨hx, hb, hml, hown, hts, hK, hA, hZ, hN, hlo⟩ := X
  obtain ⟨h8, C⟩ := C
  have h8 : ((am_sk (adx b t ad) rest).map fun v => v.category).sum ≤ 8 := by rw [am_sk_cat]; exact h8
  rcases mR_ok ν with k9 | ⟨hpl, hcls, h41, kk⟩
  · exfalso
    have k9 : mK ν = 9 := k9
    rcases C with ⟨_, _, _, _, _, k | k, _⟩ | ⟨_, _, _, k | k, _⟩ | ⟨_, _, _, _, k, _⟩ <;> omega
  have hR2 : d + 1 ≤ R.frames ∧ 8 + (mL ν + 11) + 60 * d ≤ R.locals := ⟨hR.1, by have : mL ν ≤ 41 := h41; have := hR.2; omega⟩
  rcases C with ⟨idx, z, As, rfl, hlk, hk, hz, rfl, rfl, hAs⟩ | ⟨idx, rfl, hlk, hk, rfl, hAs⟩ | ⟨idx, host, rfl, hlk, hk, rfl, hAs⟩
  · obtain ⟨hi, fs, hc⟩ := am_cls_ok P hz
    have eS : (F0 m pc ls (am_sk (adx b t ad) (As.reverse ++ .ref z :: rest))).stack = (am_sk (adx b t ad) As).reverse ++ .ref (ad z) :: am_sk (adx b t ad) rest := by
      show am_sk (adx b t ad) (As.reverse ++ .ref z :: rest) = _
      simp only [am_sk, List.map_append, List.map_reverse, List.map_cons, am_v]
      rw [adx_lt hi]
    have eA : am_sk (adx b t ad) (.ref z :: As) = .ref (ad z) :: am_sk (adx b t ad) As := by
      simp only [am_sk, List.map_cons, am_v]
      rw [adx_lt hi]
    have hAs2 : (am_sk (adx b t ad) As).length = mA ν := by rw [am_sk, List.length_map]; exact hAs
    rw [eA] at M ⊢
    have hkc := kcx (mO ν) (by
      rcases kk with ⟨k, _, Y⟩ | ⟨k, _, Y⟩ | ⟨k, _, Y⟩ | ⟨k, _, Y⟩
      all_goals first
        | (by_cases q : mO ν < 13
           · exact q
           · exfalso
             have hz2 := hz
             unfold am_cls at hz2
             split at hz2
             · have := Option.some.inj hz2; omega
             · split at hz2
               · have := Option.some.inj hz2; omega
               · split at hz2
                 · rename_i q1 hq1
                   have := objs_ci _ (am_ob_ok hq1)
                   have h0 := Option.some.inj hz2
                   dsimp only at this
                   omega
                 · cases hz2))
    have hrecv := va_recv hK w.1 hkc.1 (by rw [wd_get hi, hc])
    rw [← hcls] at hrecv
    rcases kk with ⟨k, hh0, Y⟩ | ⟨k, hh0, Y⟩ | ⟨k, hr0, Y⟩ | ⟨k, hr0, Y⟩
    · rw [wsM_c (by show mK ν < 2; rw [show mK ν = 0 from k]; decide)] at M
      exact va_runV (As := am_sk (adx b t ad) As) (rest := am_sk (adx b t ad) rest) ⟨hx, hb, hml, hown, hts⟩ M (cw_V X0 Y hlk hR2) ⟨PP.blind, hrecv, fun U hU hW => ⟨rfl, PP.of X0 w hU hW⟩⟩ rfl hAs2 hls eS (lv_room h8) hdg hf
    · exfalso
      have k : mK ν = 1 := k
      omega
    · rw [wsM_w (by show ¬ mK ν < 2; rw [show mK ν = 2 from k]; decide)] at M
      obtain ⟨y1, y2, y3, y4, y5, y6, y7⟩ := Y
      exact vx_runVW (As := am_sk (adx b t ad) As) (rest := am_sk (adx b t ad) rest) ⟨hx, hb, hml, hown, hts⟩ M (vx_cwVW (mA ν) hts (gV hlk y3 y2 y4 y1) rfl rfl rfl ⟨rfl, y5, y6, y7⟩ hR2) ⟨PP.blind, hrecv, fun U hU hW => ⟨rfl, PP.of X0 w hU hW⟩⟩ rfl hAs2 hls eS (lv_room h8) hdg hf
    · exfalso
      have k : mK ν = 3 := k
      omega
  · have eS : (F0 m pc ls (am_sk (adx b t ad) (av.reverse ++ rest))).stack = (am_sk (adx b t ad) av).reverse ++ am_sk (adx b t ad) rest := by
      show am_sk (adx b t ad) (av.reverse ++ rest) = _
      simp only [am_sk, List.map_append, List.map_reverse]
    have hAs2 : (am_sk (adx b t ad) av).length = mA ν := by rw [am_sk, List.length_map]; exact hAs
    rcases kk with ⟨k, hh0, Y⟩ | ⟨k, hh0, Y⟩ | ⟨k, hr0, Y⟩ | ⟨k, hr0, Y⟩
    · exfalso
      have k : mK ν = 0 := k
      omega
    · rw [wsM_c (by show mK ν < 2; rw [show mK ν = 1 from k]; decide)] at M
      exact va_runS (As := am_sk (adx b t ad) av) (rest := am_sk (adx b t ad) rest) ⟨hx, hb, hml, hown, hts⟩ M (cw_S X0 Y hlk hR2) ⟨PP.blind, fun U hU hW => ⟨rfl, PP.of X0 w hU hW⟩⟩ rfl hAs2 hls eS (lv_room h8) hdg hf
    · exfalso
      have k : mK ν = 2 := k
      omega
    · rw [wsM_w (by show ¬ mK ν < 2; rw [show mK ν = 3 from k]; decide)] at M
      obtain ⟨y1, y2, y4, y5, y6, y7⟩ := Y
      exact vx_runSW (As := am_sk (adx b t ad) av) (rest := am_sk (adx b t ad) rest) ⟨hx, hb, hml, hown, hts⟩ M (vx_cwSW (mA ν) hts (gS hlk y2 y4 y1) rfl rfl rfl ⟨y5, y6, y7⟩ hR2) ⟨PP.blind, fun U hU hW => ⟨rfl, PP.of X0 w hU hW⟩⟩ rfl hAs2 hls eS (lv_room h8) hdg hf
  · have eS : (F0 m pc ls (am_sk (adx b t ad) (av.reverse ++ rest))).stack = (am_sk (adx b t ad) av).reverse ++ am_sk (adx b t ad) rest := by
      show am_sk (adx b t ad) (av.reverse ++ rest) = _
      simp only [am_sk, List.map_append, List.map_reverse]
    have hAs2 : (am_sk (adx b t ad) av).length = mA ν := by rw [am_sk, List.length_map]; exact hAs
    rcases kk with ⟨k, hh0, Y⟩ | ⟨k, hh0, Y⟩ | ⟨k, hr0, Y⟩ | ⟨k, hr0, Y⟩
    · exfalso
      have k : mK ν = 0 := k
      omega
    · rw [wsM_c (by show mK ν < 2; rw [show mK ν = 1 from k]; decide)] at M
      obtain ⟨y1, y2, y3, y4, y5, y6⟩ := Y
      exact va_runSN (As := am_sk (adx b t ad) av) (rest := am_sk (adx b t ad) rest) ⟨hx, hb, hml, hown, hts⟩ M ⟨va_cnB (mA ν) hts (tb_goodC y1) rfl rfl rfl (hN.1 _ hlk rfl) (hts _ y3) ⟨y4, y5, y6⟩ hR2, hts _ y2, trivial⟩ ⟨PP.blind, fun U hU hW => ⟨rfl, PP.of X0 w hU hW⟩⟩ rfl hAs2 hls eS (lv_room h8) hdg hf
    · exfalso
      have k : mK ν = 2 := k
      omega
    · exfalso
      have k : mK ν = 3 := k
      omega
theorem am_runX (X : Cx p s m args meth c cc nL (rx own) D G t A) (w : Wd D A s H locs 352 ad cl) (P : PIC G ad cl σ) {ins : Jvm.ClassFile.Instr} {st av rest : List Value} {ν d mc ms : Nat} (C : CS own ins st ν av rest) {Qc : Array Value → State → Outcome → State → Prop} {XC : String → State → State → Prop} (M : vx_Met l (mY ν) (wsM ν) (rmD d mc ms) (va_Pc (am_sk (adx b t ad) av) (PP D G t (352, ad, cl) H.size)) Qc XC mc ms (PA (352, ad, cl) H.size)) (hls : ls.size = nL) (hR : d + 1 ≤ R.frames ∧ 60 * (d + 1) ≤ R.locals) (hdg : decode cc pc = .ok (ins, 3)) (hf : cells + mc ≤ R.cells ∧ slots + ms ≤ R.slots) :
    vx_Run p l e R s m args below meth c H locs cells slots mc ms (F0 m pc ls (am_sk (adx b t ad) st)) (am_sk (adx b t ad) rest) (Qc (am_sk (adx b t ad) av).toArray) XC (PA (352, ad, cl) H.size) := by
  have X0 := X
  obtain ⟨hx, hb, hml, hown, hts, hK, hA, hZ, hN, hlo⟩ := X
  obtain ⟨h8, C⟩ := C
  have h8 : ((am_sk (adx b t ad) rest).map fun v => v.category).sum ≤ 8 := by rw [am_sk_cat]; exact h8
  rcases mR_ok ν with k9 | ⟨hpl, hcls, h41, kk⟩
  · exfalso
    have k9 : mK ν = 9 := k9
    rcases C with ⟨_, _, _, _, _, k | k, _⟩ | ⟨_, _, _, k | k, _⟩ | ⟨_, _, _, _, k, _⟩ <;> omega
  have hR2 : d + 1 ≤ R.frames ∧ 8 + (mL ν + 11) + 60 * d ≤ R.locals := ⟨hR.1, by have : mL ν ≤ 41 := h41; have := hR.2; omega⟩
  rcases C with ⟨idx, z, As, rfl, hlk, hk, hz, rfl, rfl, hAs⟩ | ⟨idx, rfl, hlk, hk, rfl, hAs⟩ | ⟨idx, host, rfl, hlk, hk, rfl, hAs⟩
  · obtain ⟨hi, fs, hc⟩ := am_cls_ok P hz
    have eS : (F0 m pc ls (am_sk (adx b t ad) (As.reverse ++ .ref z :: rest))).stack = (am_sk (adx b t ad) As).reverse ++ .ref (ad z) :: am_sk (adx b t ad) rest := by
      show am_sk (adx b t ad) (As.reverse ++ .ref z :: rest) = _
      simp only [am_sk, List.map_append, List.map_reverse, List.map_cons, am_v]
      rw [adx_lt hi]
    have eA : am_sk (adx b t ad) (.ref z :: As) = .ref (ad z) :: am_sk (adx b t ad) As := by
      simp only [am_sk, List.map_cons, am_v]
      rw [adx_lt hi]
    have hAs2 : (am_sk (adx b t ad) As).length = mA ν := by rw [am_sk, List.length_map]; exact hAs
    rw [eA] at M ⊢
    have hkc := kcx (mO ν) (by
      rcases kk with ⟨k, _, Y⟩ | ⟨k, _, Y⟩ | ⟨k, _, Y⟩ | ⟨k, _, Y⟩
      all_goals first
        | (by_cases q : mO ν < 13
           · exact q
           · exfalso
             have hz2 := hz
             unfold am_cls at hz2
             split at hz2
             · have := Option.some.inj hz2; omega
             · split at hz2
               · have := Option.some.inj hz2; omega
               · split at hz2
                 · rename_i q1 hq1
                   have := objs_ci _ (am_ob_ok hq1)
                   have h0 := Option.some.inj hz2
                   dsimp only at this
                   omega
                 · cases hz2))
    have hrecv := va_recv hK w.1 hkc.1 (by rw [wd_get hi, hc])
    rw [← hcls] at hrecv
    rcases kk with ⟨k, hh0, Y⟩ | ⟨k, hh0, Y⟩ | ⟨k, hr0, Y⟩ | ⟨k, hr0, Y⟩
    · rw [wsM_c (by show mK ν < 2; rw [show mK ν = 0 from k]; decide)] at M
      exact vx_runV (As := am_sk (adx b t ad) As) (rest := am_sk (adx b t ad) rest) ⟨hx, hb, hml, hown, hts⟩ M (cw_V X0 Y hlk hR2) ⟨PP.blind, hrecv, fun U hU hW => ⟨rfl, PP.of X0 w hU hW⟩⟩ rfl hAs2 hls eS (lv_room h8) hdg hf
    · exfalso
      have k : mK ν = 1 := k
      omega
    · rw [wsM_w (by show ¬ mK ν < 2; rw [show mK ν = 2 from k]; decide)] at M
      obtain ⟨y1, y2, y3, y4, y5, y6, y7⟩ := Y
      exact vx_runVX (As := am_sk (adx b t ad) As) (rest := am_sk (adx b t ad) rest) ⟨hx, hb, hml, hown, hts⟩ M (vx_cwVW (mA ν) hts (gV hlk y3 y2 y4 y1) rfl rfl rfl ⟨rfl, y5, y6, y7⟩ hR2) ⟨PP.blind, hrecv, fun U hU hW => ⟨rfl, PP.of X0 w hU hW⟩⟩ rfl hAs2 hls eS (lv_room h8) hdg hf
    · exfalso
      have k : mK ν = 3 := k
      omega
  · have eS : (F0 m pc ls (am_sk (adx b t ad) (av.reverse ++ rest))).stack = (am_sk (adx b t ad) av).reverse ++ am_sk (adx b t ad) rest := by
      show am_sk (adx b t ad) (av.reverse ++ rest) = _
      simp only [am_sk, List.map_append, List.map_reverse]
    have hAs2 : (am_sk (adx b t ad) av).length = mA ν := by rw [am_sk, List.length_map]; exact hAs
    rcases kk with ⟨k, hh0, Y⟩ | ⟨k, hh0, Y⟩ | ⟨k, hr0, Y⟩ | ⟨k, hr0, Y⟩
    · exfalso
      have k : mK ν = 0 := k
      omega
    · rw [wsM_c (by show mK ν < 2; rw [show mK ν = 1 from k]; decide)] at M
      exact vx_runS (As := am_sk (adx b t ad) av) (rest := am_sk (adx b t ad) rest) ⟨hx, hb, hml, hown, hts⟩ M (cw_S X0 Y hlk hR2) ⟨PP.blind, fun U hU hW => ⟨rfl, PP.of X0 w hU hW⟩⟩ rfl hAs2 hls eS (lv_room h8) hdg hf
    · exfalso
      have k : mK ν = 2 := k
      omega
    · rw [wsM_w (by show ¬ mK ν < 2; rw [show mK ν = 3 from k]; decide)] at M
      obtain ⟨y1, y2, y4, y5, y6, y7⟩ := Y
      exact vx_runSX (As := am_sk (adx b t ad) av) (rest := am_sk (adx b t ad) rest) ⟨hx, hb, hml, hown, hts⟩ M (vx_cwSW (mA ν) hts (gS hlk y2 y4 y1) rfl rfl rfl ⟨y5, y6, y7⟩ hR2) ⟨PP.blind, fun U hU hW => ⟨rfl, PP.of X0 w hU hW⟩⟩ rfl hAs2 hls eS (lv_room h8) hdg hf
  · have eS : (F0 m pc ls (am_sk (adx b t ad) (av.reverse ++ rest))).stack = (am_sk (adx b t ad) av).reverse ++ am_sk (adx b t ad) rest := by
      show am_sk (adx b t ad) (av.reverse ++ rest) = _
      simp only [am_sk, List.map_append, List.map_reverse]
    have hAs2 : (am_sk (adx b t ad) av).length = mA ν := by rw [am_sk, List.length_map]; exact hAs
    rcases kk with ⟨k, hh0, Y⟩ | ⟨k, hh0, Y⟩ | ⟨k, hr0, Y⟩ | ⟨k, hr0, Y⟩
    · exfalso
      have k : mK ν = 0 := k
      omega
    · rw [wsM_c (by show mK ν < 2; rw [show mK ν = 1 from k]; decide)] at M
      obtain ⟨y1, y2, y3, y4, y5, y6⟩ := Y
      exact vx_runSN (As := am_sk (adx b t ad) av) (rest := am_sk (adx b t ad) rest) ⟨hx, hb, hml, hown, hts⟩ M ⟨va_cnB (mA ν) hts (tb_goodC y1) rfl rfl rfl (hN.1 _ hlk rfl) (hts _ y3) ⟨y4, y5, y6⟩ hR2, hts _ y2, trivial⟩ ⟨PP.blind, fun U hU hW => ⟨rfl, PP.of X0 w hU hW⟩⟩ rfl hAs2 hls eS (lv_room h8) hdg hf
    · exfalso
      have k : mK ν = 2 := k
      omega
    · exfalso
      have k : mK ν = 3 := k
      omega
theorem c_AI (X : Cx p s m args meth c cc nL (rx own) D G t A) (w : Wd D A s H locs 352 ad cl) (P : PIC G ad cl σ) {ins : Jvm.ClassFile.Instr} {st av rest : List Value} {ν d mc ms : Nat} (C : CS own ins st ν av rest) {r : Int32} {σ1 : SS} (M : CtRI l ν d mc ms D G t ad cl (am_sk (adx b t ad) av) r σ1) (hls : ls.size = nL) (hR : d + 1 ≤ R.frames ∧ 60 * (d + 1) ≤ R.locals) (hdg : decode cc pc = .ok (ins, 3)) (hf : cells + mc ≤ R.cells ∧ slots + ms ≤ R.slots)
    (kk : ∀ (H : Heap) (locs : List Loc) (ad' : Nat → Nat) (cl' : Nat → va_E), Wd D A s H locs 352 ad' cl' → PIC G ad' cl' σ1 → AdR ad ad' → W p l e R s m args below meth c H locs (cells + mc) (slots + ms) Q (F0 m (pc + 3) ls (.int r :: am_sk (adx b t ad) rest))) : W p l e R s m args below meth c H locs cells slots Q (F0 m pc ls (am_sk (adx b t ad) st)) := by
  have hF := w.free X
  refine va_calli (am_runA X w P C (M H.size) hls hR hdg hf) w.2.2 (fun q _ h => hF q h) hF (fun r u' T H1 locs1 hT hvm hp hB _ _ hS => ?_)
  obtain ⟨rfl, ad', cl', rfl, p1, p2⟩ := hp
  exact kk H1 locs1 ad' cl' (w.back X hT hB hS) p1 p2
theorem c_AV (X : Cx p s m args meth c cc nL (rx own) D G t A) (w : Wd D A s H locs 352 ad cl) (P : PIC G ad cl σ) {ins : Jvm.ClassFile.Instr} {st av rest : List Value} {ν d mc ms : Nat} (C : CS own ins st ν av rest) {σ1 : SS} (M : CtRV l ν d mc ms D G t ad cl (am_sk (adx b t ad) av) σ1) (hls : ls.size = nL) (hR : d + 1 ≤ R.frames ∧ 60 * (d + 1) ≤ R.locals) (hdg : decode cc pc = .ok (ins, 3)) (hf : cells + mc ≤ R.cells ∧ slots + ms ≤ R.slots)
    (kk : ∀ (H : Heap) (locs : List Loc) (ad' : Nat → Nat) (cl' : Nat → va_E), Wd D A s H locs 352 ad' cl' → PIC G ad' cl' σ1 → AdR ad ad' → W p l e R s m args below meth c H locs (cells + mc) (slots + ms) Q (F0 m (pc + 3) ls (am_sk (adx b t ad) rest))) : W p l e R s m args below meth c H locs cells slots Q (F0 m pc ls (am_sk (adx b t ad) st)) := by
  have hF := w.free X
  refine va_callv (am_runA X w P C (M H.size) hls hR hdg hf) w.2.2 (fun q _ h => hF q h) hF (fun u' T H1 locs1 hT hvm hp hB _ _ hS => ?_)
  obtain ⟨ad', cl', rfl, p1, p2⟩ := hp
  exact kk H1 locs1 ad' cl' (w.back X hT hB hS) p1 p2
theorem c_AX (X : Cx p s m args meth c cc nL (rx own) D G t A) (w : Wd D A s H locs 352 ad cl) (P : PIC G ad cl σ) {ins : Jvm.ClassFile.Instr} {st av rest : List Value} {ν d mc ms : Nat} (C : CS own ins st ν av rest) {E : String} {σ1 : SS} (M : CtTX l ν d mc ms D G t ad cl (am_sk (adx b t ad) av) E σ1) (hls : ls.size = nL) (hR : d + 1 ≤ R.frames ∧ 60 * (d + 1) ≤ R.locals) (hdg : decode cc pc = .ok (ins, 3)) (hf : cells + mc ≤ R.cells ∧ slots + ms ≤ R.slots)
    (kx : ∀ (ce : Cell) (q : Addr) (H : Heap) (locs : List Loc) (ad' : Nat → Nat) (cl' : Nat → va_E), Wd D A s H locs 352 ad' cl' → PIC G ad' cl' σ1 → AdR ad ad' → H[q]? = some ce → ce.vm = .none → s.vm.findClass E = some ce.cls → vx_W p l e R s m args below meth c H locs (cells + mc) (slots + ms) Q (F0 m pc ls (am_sk (adx b t ad) rest)) q) : W p l e R s m args below meth c H locs cells slots Q (F0 m pc ls (am_sk (adx b t ad) st)) := by
  have hF := w.free X
  intro T hT Y
  rcases am_runX X w P C (M H.size) hls hR hdg hf T hT Y with ⟨v, st₀, t1, T', L, h0, X', hL, e1, e2, hq, st⟩ | ⟨q, st₀, t1, T', L, E', ce, h0, X', hL, e1, e2, ⟨u, hp, hb, hFF⟩, hce, hcv, hcl, st⟩
  · exact hq.elim
  · obtain ⟨k1, k2, k3⟩ := vx_keep h0 e1 w.2.2 (fun q _ h => hF q h) hF hL hFF
    obtain ⟨E1, u⟩ := u
    obtain ⟨rfl, ad', cl', rfl, p1, p2⟩ := hp
    obtain ⟨e3, hb⟩ := hb
    dsimp only at e3
    subst e3
    obtain ⟨t2, a1, b1⟩ := kx ce q T'.heap (locs ++ L) ad' cl' (w.back X (T := t1) e1.symm hb k3) p1 p2 (by rw [e1]; exact hce) hcv hcl T' rfl X'
    exact ⟨t2, st.trans a1, b1⟩
end
