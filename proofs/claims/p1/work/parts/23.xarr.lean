/-! x's int arrays and the references that change -/
def okArrB (a : Nat × Nat) : Bool := decide (a.1 < 246) && decide (9 ≠ a.1) && xRows.all (fun r => decide (a.1 ≠ r) && decide (a.1 ≠ r + 1)) && xObjs.all (fun o => decide (o.1 ≠ a.1)) && xArrs.all (fun b => decide (b.1 ≠ a.1) || decide (b = a))
theorem okArrs : xArrs.all okArrB = true := by decide +kernel
theorem XW.arr {G : Nat → ClassId} {N : Nat} {ad : Nat → Nat} {cl : Nat → va_E} {c : Nat → Nat} {xs : Nat → List Int32} {v : Nat → Nat → Int32} {g : Nat → Nat → Int32} {nb : Nat → Nat} (h : XW G N ad cl c xs v g nb) {z n : Nat} (hm : (z, n) ∈ xArrs) (f : Nat → Int32) : XW G N ad (va_up cl z (.inl (G 0, n, .inl f))) c xs v (va_up g z f) nb := by
  obtain ⟨h1, h2, h3, h4, h5, h6⟩ := h
  have ok := List.all_eq_true.mp okArrs _ hm
  simp only [okArrB, Bool.and_eq_true, decide_eq_true_eq, List.all_eq_true, Bool.or_eq_true] at ok
  obtain ⟨⟨⟨⟨o1, o2⟩, o3⟩, o4⟩, o5⟩ := ok
  refine ⟨h1, fun r hr => ?_, fun o ho => ?_, fun a ha => ?_, ?_, h6⟩
  · obtain ⟨a, b, ⟨f, c1, d1⟩, e1⟩ := h2 r hr
    obtain ⟨r1, r2⟩ := o3 r hr
    exact ⟨a, by rw [va_up_ne _ _ (Ne.symm r1)]; exact b, ⟨f, by rw [va_up_ne _ _ (Ne.symm r2)]; exact c1, d1⟩, e1⟩
  · rw [va_up_ne _ _ (o4 o ho)]
    exact h3 o ho
  · rcases o5 a ha with e | e
    · rw [va_up_ne _ _ e, va_up_ne _ _ e]
      exact h4 a ha
    · subst e
      rw [va_up_self, va_up_self]
  · rw [va_up_ne _ _ o2]
    exact h5
theorem XW.a {G : Nat → ClassId} {N : Nat} {ad : Nat → Nat} {cl : Nat → va_E} {c : Nat → Nat} {xs : Nat → List Int32} {v : Nat → Nat → Int32} {g : Nat → Nat → Int32} {nb : Nat → Nat} (h : XW G N ad cl c xs v g nb) {z n : Nat} (hm : (z, n) ∈ xArrs) : cl z = .inl (G 0, n, .inl (g z)) := h.2.2.2.1 _ hm
theorem fmap_dyn {ad : Nat → Nat} {v : Nat → Nat → Int32} {nb : Nat → Nat} {z j r : Nat} : ∀ (fs : List FS) (n k : Nat), fs[k]? = some (.inr (.inr j)) → (∀ i, fs[i]? = some (.inr (.inr j)) → i = k) → (fmap (fval ad v nb z) n fs).set k (.ref (ad r)) = fmap (fval ad v (va_up nb j r) z) n fs
  | [], _, _, h, _ => by simp at h
  | f :: fs, n, 0, h, hu => by
    simp at h
    subst h
    rw [fmap, fmap, List.set_cons_zero]
    congr 1
    · simp [fval, va_up_self]
    · refine fmap_congr fs (n + 1) (fun k x hx => ?_)
      rcases x with q | u | i
      · rfl
      · rfl
      · have : i ≠ j := fun e => by
          obtain ⟨w, hw⟩ := List.getElem?_of_mem hx
          have := hu (w + 1) (by rw [List.getElem?_cons_succ, hw, e])
          omega
        simp [fval, va_up_ne _ _ this]
  | f :: fs, n, k + 1, h, hu => by
    rw [List.getElem?_cons_succ] at h
    rw [fmap, fmap, List.set_cons_succ, fmap_dyn fs (n + 1) k h (fun i hi => by have := hu (i + 1) (by rw [List.getElem?_cons_succ]; exact hi); omega)]
    congr 1
    rcases f with q | u | i
    · rfl
    · rfl
    · have : i ≠ j := fun e => by
        have := hu 0 (by rw [e]; rfl)
        omega
      simp [fval, va_up_ne _ _ this]
def dynB (j z k : Nat) : Bool := xObjs.all (fun o => (List.range o.2.2.length).all (fun i => match o.2.2[i]? with
  | some (.inr (.inr y)) => decide (y ≠ j) || (decide (o.1 = z) && decide (i = k))
  | _ => true))
theorem dyn0 : dynB 0 127 7 = true := by decide +kernel
theorem dyn1 : dynB 1 127 8 = true := by decide +kernel
theorem dyn2 : dynB 2 86 2 = true := by decide +kernel
theorem dyn3 : dynB 3 86 3 = true := by decide +kernel
theorem dyn_uniq {j z k : Nat} (h : dynB j z k = true) {o : Nat × Nat × List FS} (ho : o ∈ xObjs) {i : Nat} (hi : o.2.2[i]? = some (.inr (.inr j))) : o.1 = z ∧ i = k := by
  have h1 := List.all_eq_true.mp h o ho
  have h2 := List.all_eq_true.mp h1 i (List.mem_range.mpr (List.getElem?_eq_some_iff.mp hi).1)
  rw [hi] at h2
  simpa using h2
theorem XW.dyn {G : Nat → ClassId} {N : Nat} {ad : Nat → Nat} {cl : Nat → va_E} {c : Nat → Nat} {xs : Nat → List Int32} {v : Nat → Nat → Int32} {g : Nat → Nat → Int32} {nb : Nat → Nat} (h : XW G N ad cl c xs v g nb) {z ci j k r : Nat} {fs : List FS} (hm : (z, ci, fs) ∈ xObjs) (hk : fs[k]? = some (.inr (.inr j))) (hd : dynB j z k = true) (hr : r = 49 ∨ r = 163) : XW G N ad (va_up cl z (.inr (ci, (fmap (fval ad v nb z) 0 fs).set k (.ref (ad r))))) c xs v g (va_up nb j r) := by
  obtain ⟨h1, h2, h3, h4, h5, h6⟩ := h
  have ok := List.all_eq_true.mp okObjs _ hm
  simp only [okObjB, Bool.and_eq_true, decide_eq_true_eq, List.all_eq_true, Bool.or_eq_true] at ok
  obtain ⟨⟨⟨⟨o1, o2⟩, o3⟩, o4⟩, o5⟩ := ok
  refine ⟨h1, fun q hq => ?_, fun o ho => ?_, fun a ha => ?_, ?_, fun i => ?_⟩
  · obtain ⟨a, b, ⟨f, c1, d1⟩, e1⟩ := h2 q hq
    obtain ⟨r1, r2⟩ := o3 q hq
    exact ⟨a, by rw [va_up_ne _ _ (Ne.symm r1)]; exact b, ⟨f, by rw [va_up_ne _ _ (Ne.symm r2)]; exact c1, d1⟩, e1⟩
  · rcases o5 o ho with e | e
    · rw [va_up_ne _ _ e, h3 o ho]
      congr 2
      refine fmap_congr _ _ (fun k f hf => ?_)
      rcases f with q | u | i
      · rfl
      · rfl
      · have : i ≠ j := fun e9 => by
          obtain ⟨w, hw⟩ := List.getElem?_of_mem hf
          exact e (dyn_uniq hd ho (by rw [hw, e9])).1
        rw [fval, fval, va_up_ne _ _ this]
    · subst e
      rw [va_up_self, fmap_dyn fs 0 k hk (fun i hi => (dyn_uniq hd ho hi).2)]
  · rw [va_up_ne _ _ (o4 a ha)]
    exact h4 a ha
  · rw [va_up_ne _ _ o2]
    exact h5
  · by_cases hi : i = j
    · subst hi; rw [va_up_self]; exact hr
    · rw [va_up_ne _ _ hi]; exact h6 i
section
variable {p : Program} {l : Launch} {e : Env} {R : Room} {s : State} {m : MethodId} {args : Array Value} {below : List Frame} {meth : Method} {c : Code} {H : Heap} {locs : List Loc} {cells slots : Nat} {Q : State → Prop} {pc : Nat} {ls : Array Slot} {rest : List Value}
variable {cc : ByteArray} {nL : Nat} {own : String} {D : va_G} {G : Nat → ClassId} {t : Nat → Nat} {A : Nat → Prop} {N : Nat} {ad : Nat → Nat} {cl : Nat → va_E} {cp : Nat → Nat} {xs : Nat → List Int32} {v : Nat → Nat → Int32} {g : Nat → Nat → Int32} {nb : Nat → Nat}
theorem x_ist (X : Cx p s m args meth c cc nL own D G t A) (w : Wd D A s H locs N ad cl) (Wx : XW G N ad cl cp xs v g nb) {z n : Nat} (hm : (z, n) ∈ xArrs) (hz : z < 246) {a : Nat} (ha : ad z = a) {x y : Int32} (hin : vp_in x n) {i : Nat} (hi : x.toNatClampNeg = i) (hdg : decode cc pc = .ok (.iastore, 1))
    (kk : ∀ (H : Heap) (locs : List Loc) (cl' : Nat → va_E), Wd D A s H locs N ad cl' → XW G N ad cl' cp xs v (va_up g z (upd (g z) i y)) nb → FrX N ad cl ad cl' → W p l e R s m args below meth c H locs cells slots Q (F0 m (pc + 1) ls rest)) : W p l e R s m args below meth c H locs cells slots Q (F0 m pc ls (.int y :: .int x :: .ref a :: rest)) := by
  subst hi
  exact g_iast X w z ha (by have := Wx.1; omega) (Wx.a hm) hin hdg (fun H locs w => kk H locs _ w (Wx.arr hm _) (FrX.put hz))
end
abbrev cX6_clear : ByteArray := prog_8_method_2_code
def yX6_clear : MethodName := ⟨RX6, "clear", "()V"⟩
theorem wcX6_clear : Cond.code yX6_clear cX6_clear 1 none ∈ tb := tb_4 (i := 25) rfl rfl
theorem wnX6_clear : Cond.instanceMethod yX6_clear ∈ tb := tb_4 (i := 23) (by decide +kernel) rfl
theorem wlX6_clear : Cond.selects RX6 yX6_clear yX6_clear ∈ tb := tb_4 (i := 24) (by decide +kernel) rfl
theorem YX6_clear : Yv yX6_clear cX6_clear 1 none 0 := ⟨wcX6_clear, wlX6_clear, wnX6_clear, wi_6, by decide +kernel, by decide +kernel, by decide +kernel⟩
theorem dX6_clear_0 : decode cX6_clear 0 = .ok (.getstatic 19, 3) := by decide +kernel
theorem dX6_clear_3 : decode cX6_clear 3 = .ok (.iconst 0, 1) := by decide +kernel
theorem dX6_clear_4 : decode cX6_clear 4 = .ok (.aload_n 0, 1) := by decide +kernel
theorem dX6_clear_5 : decode cX6_clear 5 = .ok (.getfield 15, 3) := by decide +kernel
theorem dX6_clear_8 : decode cX6_clear 8 = .ok (.iconst 0, 1) := by decide +kernel
theorem dX6_clear_9 : decode cX6_clear 9 = .ok (.bipush 13, 2) := by decide +kernel
theorem dX6_clear_11 : decode cX6_clear 11 = .ok (.invokestatic 22, 3) := by decide +kernel
theorem dX6_clear_14 : decode cX6_clear 14 = .ok (.aload_n 0, 1) := by decide +kernel
theorem dX6_clear_15 : decode cX6_clear 15 = .ok (.getfield 31, 3) := by decide +kernel
theorem dX6_clear_18 : decode cX6_clear 18 = .ok (.invokevirtual 54, 3) := by decide +kernel
theorem dX6_clear_21 : decode cX6_clear 21 = .ok (.aload_n 0, 1) := by decide +kernel
theorem dX6_clear_22 : decode cX6_clear 22 = .ok (.getfield 38, 3) := by decide +kernel
theorem dX6_clear_25 : decode cX6_clear 25 = .ok (.invokevirtual 57, 3) := by decide +kernel
theorem dX6_clear_28 : decode cX6_clear 28 = .ok (.aload_n 0, 1) := by decide +kernel
theorem dX6_clear_29 : decode cX6_clear 29 = .ok (.getfield 42, 3) := by decide +kernel
theorem dX6_clear_32 : decode cX6_clear 32 = .ok (.invokevirtual 57, 3) := by decide +kernel
theorem dX6_clear_35 : decode cX6_clear 35 = .ok (.aload_n 0, 1) := by decide +kernel
theorem dX6_clear_36 : decode cX6_clear 36 = .ok (.getfield 45, 3) := by decide +kernel
theorem dX6_clear_39 : decode cX6_clear 39 = .ok (.invokevirtual 54, 3) := by decide +kernel
theorem dX6_clear_42 : decode cX6_clear 42 = .ok (.aload_n 0, 1) := by decide +kernel
theorem dX6_clear_43 : decode cX6_clear 43 = .ok (.getfield 48, 3) := by decide +kernel
theorem dX6_clear_46 : decode cX6_clear 46 = .ok (.invokevirtual 54, 3) := by decide +kernel
theorem dX6_clear_49 : decode cX6_clear 49 = .ok (.aload_n 0, 1) := by decide +kernel
theorem dX6_clear_50 : decode cX6_clear 50 = .ok (.getfield 51, 3) := by decide +kernel
theorem dX6_clear_53 : decode cX6_clear 53 = .ok (.invokevirtual 54, 3) := by decide +kernel
theorem dX6_clear_56 : decode cX6_clear 56 = .ok (.return_, 1) := by decide +kernel
theorem k_RX6_54 : Cond.methodLink RX6 54 yX8_clear ∈ tb := tb_4 (i := 26) (by decide +kernel) rfl
theorem k_RX6_57 : Cond.methodLink RX6 57 yX5_clear ∈ tb := tb_4 (i := 27) (by decide +kernel) rfl
abbrev cX3_forget : ByteArray := prog_5_method_2_code
def yX3_forget : MethodName := ⟨RX3, "forget", "()V"⟩
theorem wcX3_forget : Cond.code yX3_forget cX3_forget 2 none ∈ tb := tb_3 (i := 234) rfl rfl
theorem wnX3_forget : Cond.instanceMethod yX3_forget ∈ tb := tb_3 (i := 232) (by decide +kernel) rfl
theorem wlX3_forget : Cond.selects RX3 yX3_forget yX3_forget ∈ tb := tb_3 (i := 233) (by decide +kernel) rfl
theorem YX3_forget : Yv yX3_forget cX3_forget 2 none 0 := ⟨wcX3_forget, wlX3_forget, wnX3_forget, wi_3, by decide +kernel, by decide +kernel, by decide +kernel⟩
theorem dX3_forget_0 : decode cX3_forget 0 = .ok (.aload_n 0, 1) := by decide +kernel
theorem dX3_forget_1 : decode cX3_forget 1 = .ok (.iconst 0, 1) := by decide +kernel
theorem dX3_forget_2 : decode cX3_forget 2 = .ok (.putfield 41, 3) := by decide +kernel
theorem dX3_forget_5 : decode cX3_forget 5 = .ok (.aload_n 0, 1) := by decide +kernel
theorem dX3_forget_6 : decode cX3_forget 6 = .ok (.getfield 12, 3) := by decide +kernel
theorem dX3_forget_9 : decode cX3_forget 9 = .ok (.invokevirtual 45, 3) := by decide +kernel
theorem dX3_forget_12 : decode cX3_forget 12 = .ok (.aload_n 0, 1) := by decide +kernel
theorem dX3_forget_13 : decode cX3_forget 13 = .ok (.getfield 21, 3) := by decide +kernel
theorem dX3_forget_16 : decode cX3_forget 16 = .ok (.invokevirtual 48, 3) := by decide +kernel
theorem dX3_forget_19 : decode cX3_forget 19 = .ok (.aload_n 0, 1) := by decide +kernel
theorem dX3_forget_20 : decode cX3_forget 20 = .ok (.getfield 25, 3) := by decide +kernel
theorem dX3_forget_23 : decode cX3_forget 23 = .ok (.invokevirtual 48, 3) := by decide +kernel
theorem dX3_forget_26 : decode cX3_forget 26 = .ok (.aload_n 0, 1) := by decide +kernel
theorem dX3_forget_27 : decode cX3_forget 27 = .ok (.getfield 28, 3) := by decide +kernel
theorem dX3_forget_30 : decode cX3_forget 30 = .ok (.invokevirtual 48, 3) := by decide +kernel
theorem dX3_forget_33 : decode cX3_forget 33 = .ok (.iconst 0, 1) := by decide +kernel
theorem dX3_forget_34 : decode cX3_forget 34 = .ok (.istore_n 1, 1) := by decide +kernel
theorem dX3_forget_35 : decode cX3_forget 35 = .ok (.iload_n 1, 1) := by decide +kernel
theorem dX3_forget_36 : decode cX3_forget 36 = .ok (.aload_n 0, 1) := by decide +kernel
theorem dX3_forget_37 : decode cX3_forget 37 = .ok (.getfield 37, 3) := by decide +kernel
theorem dX3_forget_40 : decode cX3_forget 40 = .ok (.arraylength, 1) := by decide +kernel
theorem dX3_forget_41 : decode cX3_forget 41 = .ok (.if_icmp .ge 16, 3) := by decide +kernel
theorem dX3_forget_44 : decode cX3_forget 44 = .ok (.aload_n 0, 1) := by decide +kernel
theorem dX3_forget_45 : decode cX3_forget 45 = .ok (.getfield 37, 3) := by decide +kernel
theorem dX3_forget_48 : decode cX3_forget 48 = .ok (.iload_n 1, 1) := by decide +kernel
theorem dX3_forget_49 : decode cX3_forget 49 = .ok (.iconst 0, 1) := by decide +kernel
theorem dX3_forget_50 : decode cX3_forget 50 = .ok (.iastore, 1) := by decide +kernel
theorem dX3_forget_51 : decode cX3_forget 51 = .ok (.iinc 1 1, 3) := by decide +kernel
theorem dX3_forget_54 : decode cX3_forget 54 = .ok (.goto (-19), 3) := by decide +kernel
theorem dX3_forget_57 : decode cX3_forget 57 = .ok (.return_, 1) := by decide +kernel
theorem k_RX3_41 : Cond.fieldLink RX3 41 RX3 "present" "Z" ∈ tb := tb_3 (i := 72) (by decide +kernel) rfl
theorem k_RX3_45 : Cond.methodLink RX3 45 yX8_clear ∈ tb := tb_3 (i := 235) (by decide +kernel) rfl
theorem k_RX3_48 : Cond.methodLink RX3 48 yX5_clear ∈ tb := tb_4 (i := 0) (by decide +kernel) rfl
theorem xa_24 : (24, 13) ∈ xArrs := List.mem_of_getElem? (i := 0) rfl
theorem xa_126 : (126, 44) ∈ xArrs := List.mem_of_getElem? (i := 1) rfl
theorem xa_160 : (160, 8) ∈ xArrs := List.mem_of_getElem? (i := 2) rfl
theorem xa_161 : (161, 8) ∈ xArrs := List.mem_of_getElem? (i := 3) rfl
theorem xa_162 : (162, 9) ∈ xArrs := List.mem_of_getElem? (i := 4) rfl
theorem xa_210 : (210, 4) ∈ xArrs := List.mem_of_getElem? (i := 5) rfl
theorem xa_211 : (211, 3) ∈ xArrs := List.mem_of_getElem? (i := 6) rfl
theorem xa_228 : (228, 13) ∈ xArrs := List.mem_of_getElem? (i := 7) rfl
theorem xa_245 : (245, 13) ∈ xArrs := List.mem_of_getElem? (i := 8) rfl
set_option maxHeartbeats 4000000 in
set_option maxRecDepth 100000 in
theorem cx_6_clear (l : Launch) (D : va_G) (G : Nat → ClassId) (t : Nat → Nat) (N : Nat) (ad : Nat → Nat) (cl : Nat → va_E) (c : Nat → Nat) (xs : Nat → List Int32) (v : Nat → Nat → Int32) (g : Nat → Nat → Int32) (nb : Nat → Nat) (Wx : XW G N ad cl c xs v g nb) (d : Nat) (hd : 3 ≤ d) : CtV l yX6_clear cX6_clear 1 (rmD d 0 0) D G t (N, ad, cl) [.ref (ad 23)] (fun u => ∃ ad' cl', u = (N, ad', cl') ∧ XW G N ad' cl' c (clr xs [47, 45, 42, 40, 37, 35, 32, 30, 28, 26]) (v) (va_up g 24 (va_cpy (tOf [40, 2, 3, 1, 2, 2, 0, 2, 1, 24, 0, 1, 1]) (g 24) 0 0 13)) nb ∧ FrX N ad cl ad' cl') := by
  refine ct_V (own := RX6) (by decide +kernel) rfl (Nat.le_of_ble_eq_true rfl) rfl ?_
  intro p e s m args below meth cd A ls X hr hin hl w
  obtain ⟨hx, hb, hml, hown, hts, -⟩ := id X
  have hl : lv_has ls 1 [(0, .ref (ad 23))] := hl
  have F : FrX N ad cl ad cl := FrX.rf
  rw [← clr_nil xs] at Wx
  refine g_gets X w X.2.2.2.2.2.2.2.1.1 k_RX6_19 dX6_clear_0 ?_
  refine lv_iconst (v := 0) hx hb dX6_clear_3 (by decide) ?_
  refine lv_aload_n hx hb dX6_clear_4 rfl (lv_at hl 0 rfl) ?_
  refine g_get X w 23 rfl (by have := Wx.1; omega) (Wx.o xm_23) kc6 1 (by decide) rfl k_RX6_15 (v := .ref (ad 24)) rfl dX6_clear_5 ?_
  refine lv_iconst (v := 0) hx hb dX6_clear_8 (by decide) ?_
  refine lv_bipush (v := 13) hx hb dX6_clear_9 (by decide) ?_
  refine g_copyX X w hl.1 k_RX6_22 X.2.2.2.2.2.2.2.1.1 24 rfl (by have := Wx.1; omega) (Wx.a xa_24) 13 rfl (by decide) (by decide) (by decide) (by decide) ⟨by show 1 ≤ d; omega, rm_loc (by omega) (by decide)⟩ dX6_clear_11 (fun H locs w => ?_)
  have F := F.tr (FrX.put (N := N) (ad := ad) (cl := cl) (z := 24) (e := .inl (G 0, 13, .inl (va_cpy (tOf [40, 2, 3, 1, 2, 2, 0, 2, 1, 24, 0, 1, 1]) (g 24) 0 0 13))) (by decide))
  have Wx := Wx.arr xa_24 (va_cpy (tOf [40, 2, 3, 1, 2, 2, 0, 2, 1, 24, 0, 1, 1]) (g 24) 0 0 13)
  generalize va_up cl 24 (.inl (G 0, 13, .inl (va_cpy (tOf [40, 2, 3, 1, 2, 2, 0, 2, 1, 24, 0, 1, 1]) (g 24) 0 0 13))) = cl9 at w Wx F
  refine lv_aload_n hx hb dX6_clear_14 rfl (lv_at hl 0 rfl) ?_
  refine g_get X w 23 rfl (by have := Wx.1; omega) (Wx.o xm_23) kc6 2 (by decide) rfl k_RX6_31 (v := .ref (ad 25)) rfl dX6_clear_15 ?_
  refine c_V (As := []) (rest := []) X w (cx_8_clear_25 l D G t N ad cl9 _ _ _ _ _ Wx (d - 1) (by omega)) YX8_clear k_RX6_54 (25) rfl (by have := Wx.1; omega) (Wx.o xm_25) kc8 (rfl) rfl rfl hl.1 (rm_call (by omega) (by decide)) (Nat.le_of_ble_eq_true rfl) dX6_clear_18 (⟨Nat.zero_le _, Nat.zero_le _⟩) (fun u H locs hp w => ?_)
  obtain ⟨ad1, cl2, rfl, Wx, F9⟩ := hp
  have w : Wd D A s H locs N ad1 cl2 := w
  have F := F.tr F9
  rw [clr_clr] at Wx
  have Wx : XW G N ad1 cl2 c (clr xs [28, 26]) (v) (va_up g 24 (va_cpy (tOf [40, 2, 3, 1, 2, 2, 0, 2, 1, 24, 0, 1, 1]) (g 24) 0 0 13)) nb := Wx
  refine lv_aload_n hx hb dX6_clear_21 rfl (lv_at hl 0 rfl) ?_
  refine g_get X w 23 (F.1 23 (by have := Wx.1; omega) rfl) (by have := Wx.1; omega) (Wx.o xm_23) kc6 3 (by decide) rfl k_RX6_38 (v := .ref (ad1 30)) rfl dX6_clear_22 ?_
  refine lv_eqr (F.1 30 (by have := Wx.1; omega) rfl) ?_
  refine c_V (As := []) (rest := []) X w (ct_X5_clear l D G t N ad1 cl2 30 _ _ (Wx.2.1 30 (by decide +kernel)) (d - 1)) YX5_clear k_RX6_57 (30) (F.1 30 (by have := Wx.1; omega) rfl) (by have := Wx.1; omega) (Wx.2.1 30 (by decide +kernel)).2.1 kc5 (by rw [(F.1 30 (by have := Wx.1; omega) rfl)]) rfl rfl hl.1 (rm_call (by omega) (by decide)) (Nat.le_of_ble_eq_true rfl) dX6_clear_25 (⟨Nat.zero_le _, Nat.zero_le _⟩) (fun u H locs hp w => ?_)
  obtain ⟨ad3, cl4, rfl, hR9, hF9⟩ := hp
  have w : Wd D A s H locs N ad3 cl4 := w
  have Wx := Wx.row (q := 30) (by decide +kernel) hF9 hR9
  have F : FrX N ad cl ad3 cl4 := F.tr (FrX.of (q := 30) (by decide +kernel) hF9)
  rw [va_up_id, clr_up] at Wx
  refine lv_aload_n hx hb dX6_clear_28 rfl (lv_at hl 0 rfl) ?_
  refine g_get X w 23 (F.1 23 (by have := Wx.1; omega) rfl) (by have := Wx.1; omega) (Wx.o xm_23) kc6 4 (by decide) rfl k_RX6_42 (v := .ref (ad3 32)) rfl dX6_clear_29 ?_
  refine lv_eqr (F.1 32 (by have := Wx.1; omega) rfl) ?_
  refine c_V (As := []) (rest := []) X w (ct_X5_clear l D G t N ad3 cl4 32 _ _ (Wx.2.1 32 (by decide +kernel)) (d - 1)) YX5_clear k_RX6_57 (32) (F.1 32 (by have := Wx.1; omega) rfl) (by have := Wx.1; omega) (Wx.2.1 32 (by decide +kernel)).2.1 kc5 (by rw [(F.1 32 (by have := Wx.1; omega) rfl)]) rfl rfl hl.1 (rm_call (by omega) (by decide)) (Nat.le_of_ble_eq_true rfl) dX6_clear_32 (⟨Nat.zero_le _, Nat.zero_le _⟩) (fun u H locs hp w => ?_)
  obtain ⟨ad5, cl6, rfl, hR9, hF9⟩ := hp
  have w : Wd D A s H locs N ad5 cl6 := w
  have Wx := Wx.row (q := 32) (by decide +kernel) hF9 hR9
  have F : FrX N ad cl ad5 cl6 := F.tr (FrX.of (q := 32) (by decide +kernel) hF9)
  rw [va_up_id, clr_up] at Wx
  refine lv_aload_n hx hb dX6_clear_35 rfl (lv_at hl 0 rfl) ?_
  refine g_get X w 23 (F.1 23 (by have := Wx.1; omega) rfl) (by have := Wx.1; omega) (Wx.o xm_23) kc6 5 (by decide) rfl k_RX6_45 (v := .ref (ad5 34)) rfl dX6_clear_36 ?_
  refine lv_eqr (F.1 34 (by have := Wx.1; omega) rfl) ?_
  refine c_V (As := []) (rest := []) X w (cx_8_clear_34 l D G t N ad5 cl6 _ _ _ _ _ Wx (d - 1) (by omega)) YX8_clear k_RX6_54 (34) (F.1 34 (by have := Wx.1; omega) rfl) (by have := Wx.1; omega) (Wx.o xm_34) kc8 (by rw [(F.1 34 (by have := Wx.1; omega) rfl)]) rfl rfl hl.1 (rm_call (by omega) (by decide)) (Nat.le_of_ble_eq_true rfl) dX6_clear_39 (⟨Nat.zero_le _, Nat.zero_le _⟩) (fun u H locs hp w => ?_)
  obtain ⟨ad7, cl8, rfl, Wx, F9⟩ := hp
  have w : Wd D A s H locs N ad7 cl8 := w
  have F := F.tr F9
  rw [clr_clr] at Wx
  have Wx : XW G N ad7 cl8 c (clr xs [37, 35, 32, 30, 28, 26]) (v) (va_up g 24 (va_cpy (tOf [40, 2, 3, 1, 2, 2, 0, 2, 1, 24, 0, 1, 1]) (g 24) 0 0 13)) nb := Wx
  refine lv_aload_n hx hb dX6_clear_42 rfl (lv_at hl 0 rfl) ?_
  refine g_get X w 23 (F.1 23 (by have := Wx.1; omega) rfl) (by have := Wx.1; omega) (Wx.o xm_23) kc6 6 (by decide) rfl k_RX6_48 (v := .ref (ad7 39)) rfl dX6_clear_43 ?_
  refine lv_eqr (F.1 39 (by have := Wx.1; omega) rfl) ?_
  refine c_V (As := []) (rest := []) X w (cx_8_clear_39 l D G t N ad7 cl8 _ _ _ _ _ Wx (d - 1) (by omega)) YX8_clear k_RX6_54 (39) (F.1 39 (by have := Wx.1; omega) rfl) (by have := Wx.1; omega) (Wx.o xm_39) kc8 (by rw [(F.1 39 (by have := Wx.1; omega) rfl)]) rfl rfl hl.1 (rm_call (by omega) (by decide)) (Nat.le_of_ble_eq_true rfl) dX6_clear_46 (⟨Nat.zero_le _, Nat.zero_le _⟩) (fun u H locs hp w => ?_)
  obtain ⟨ad9, cl10, rfl, Wx, F9⟩ := hp
  have w : Wd D A s H locs N ad9 cl10 := w
  have F := F.tr F9
  rw [clr_clr] at Wx
  have Wx : XW G N ad9 cl10 c (clr xs [42, 40, 37, 35, 32, 30, 28, 26]) (v) (va_up g 24 (va_cpy (tOf [40, 2, 3, 1, 2, 2, 0, 2, 1, 24, 0, 1, 1]) (g 24) 0 0 13)) nb := Wx
  refine lv_aload_n hx hb dX6_clear_49 rfl (lv_at hl 0 rfl) ?_
  refine g_get X w 23 (F.1 23 (by have := Wx.1; omega) rfl) (by have := Wx.1; omega) (Wx.o xm_23) kc6 7 (by decide) rfl k_RX6_51 (v := .ref (ad9 44)) rfl dX6_clear_50 ?_
  refine lv_eqr (F.1 44 (by have := Wx.1; omega) rfl) ?_
  refine c_V (As := []) (rest := []) X w (cx_8_clear_44 l D G t N ad9 cl10 _ _ _ _ _ Wx (d - 1) (by omega)) YX8_clear k_RX6_54 (44) (F.1 44 (by have := Wx.1; omega) rfl) (by have := Wx.1; omega) (Wx.o xm_44) kc8 (by rw [(F.1 44 (by have := Wx.1; omega) rfl)]) rfl rfl hl.1 (rm_call (by omega) (by decide)) (Nat.le_of_ble_eq_true rfl) dX6_clear_53 (⟨Nat.zero_le _, Nat.zero_le _⟩) (fun u H locs hp w => ?_)
  obtain ⟨ad11, cl12, rfl, Wx, F9⟩ := hp
  have w : Wd D A s H locs N ad11 cl12 := w
  have F := F.tr F9
  rw [clr_clr] at Wx
  have Wx : XW G N ad11 cl12 c (clr xs [47, 45, 42, 40, 37, 35, 32, 30, 28, 26]) (v) (va_up g 24 (va_cpy (tOf [40, 2, 3, 1, 2, 2, 0, 2, 1, 24, 0, 1, 1]) (g 24) 0 0 13)) nb := Wx
  exact e_V X hr w ⟨ad11, cl12, rfl, Wx, F⟩ (Nat.le_of_ble_eq_true rfl) (Nat.le_of_ble_eq_true rfl) dX6_clear_56
set_option maxHeartbeats 4000000 in
set_option maxRecDepth 100000 in
theorem cx_3_forget_212 (l : Launch) (D : va_G) (G : Nat → ClassId) (t : Nat → Nat) (N : Nat) (ad : Nat → Nat) (cl : Nat → va_E) (c : Nat → Nat) (xs : Nat → List Int32) (v : Nat → Nat → Int32) (g : Nat → Nat → Int32) (nb : Nat → Nat) (Wx : XW G N ad cl c xs v g nb) (d : Nat) (hd : 3 ≤ d) : CtV l yX3_forget cX3_forget 2 (rmD d 0 0) D G t (N, ad, cl) [.ref (ad 212)] (fun u => ∃ ad' cl', u = (N, ad', cl') ∧ XW G N ad' cl' c (clr xs [222, 220, 218, 216, 214]) (vset (v) 212 0 (0)) (va_up g 228 (upd (upd (upd (upd (upd (upd (upd (upd (upd (upd (upd (upd (upd (g 228) 0 0) 1 0) 2 0) 3 0) 4 0) 5 0) 6 0) 7 0) 8 0) 9 0) 10 0) 11 0) 12 0)) nb ∧ FrX N ad cl ad' cl') := by
  refine ct_V (own := RX3) (by decide +kernel) rfl (Nat.le_of_ble_eq_true rfl) rfl ?_
  intro p e s m args below meth cd A ls X hr hin hl w
  obtain ⟨hx, hb, hml, hown, hts, -⟩ := id X
  have hl : lv_has ls 2 [(0, .ref (ad 212))] := hl
  have F : FrX N ad cl ad cl := FrX.rf
  rw [← clr_nil xs] at Wx
  refine lv_aload_n hx hb dX3_forget_0 rfl (lv_at hl 0 rfl) ?_
  refine lv_iconst (v := 0) hx hb dX3_forget_1 (by decide) ?_
  refine x_puti X w Wx xm_212 (by decide) rfl kc3 0 (by decide) rfl k_RX3_41 rfl (x := 0) rfl rfl rfl dX3_forget_2 (fun H locs cl1 w Wx F9 => ?_)
  have F := F.tr F9
  refine lv_aload_n hx hb dX3_forget_5 rfl (lv_at hl 0 rfl) ?_
  refine g_get X w 212 rfl (by have := Wx.1; omega) (Wx.o xm_212) kc3 1 (by decide) rfl k_RX3_12 (v := .ref (ad 213)) rfl dX3_forget_6 ?_
  refine c_V (As := []) (rest := []) X w (cx_8_clear_213 l D G t N ad cl1 _ _ _ _ _ Wx (d - 1) (by omega)) YX8_clear k_RX3_45 (213) rfl (by have := Wx.1; omega) (Wx.o xm_213) kc8 (rfl) rfl rfl hl.1 (rm_call (by omega) (by decide)) (Nat.le_of_ble_eq_true rfl) dX3_forget_9 (⟨Nat.zero_le _, Nat.zero_le _⟩) (fun u H locs hp w => ?_)
  obtain ⟨ad2, cl3, rfl, Wx, F9⟩ := hp
  have w : Wd D A s H locs N ad2 cl3 := w
  have F := F.tr F9
  rw [clr_clr] at Wx
  have Wx : XW G N ad2 cl3 c (clr xs [216, 214]) (vset (v) 212 0 (0)) (g) nb := Wx
  refine lv_aload_n hx hb dX3_forget_12 rfl (lv_at hl 0 rfl) ?_
  refine g_get X w 212 (F.1 212 (by have := Wx.1; omega) rfl) (by have := Wx.1; omega) (Wx.o xm_212) kc3 2 (by decide) rfl k_RX3_21 (v := .ref (ad2 218)) rfl dX3_forget_13 ?_
  refine lv_eqr (F.1 218 (by have := Wx.1; omega) rfl) ?_
  refine c_V (As := []) (rest := []) X w (ct_X5_clear l D G t N ad2 cl3 218 _ _ (Wx.2.1 218 (by decide +kernel)) (d - 1)) YX5_clear k_RX3_48 (218) (F.1 218 (by have := Wx.1; omega) rfl) (by have := Wx.1; omega) (Wx.2.1 218 (by decide +kernel)).2.1 kc5 (by rw [(F.1 218 (by have := Wx.1; omega) rfl)]) rfl rfl hl.1 (rm_call (by omega) (by decide)) (Nat.le_of_ble_eq_true rfl) dX3_forget_16 (⟨Nat.zero_le _, Nat.zero_le _⟩) (fun u H locs hp w => ?_)
  obtain ⟨ad4, cl5, rfl, hR9, hF9⟩ := hp
  have w : Wd D A s H locs N ad4 cl5 := w
  have Wx := Wx.row (q := 218) (by decide +kernel) hF9 hR9
  have F : FrX N ad cl ad4 cl5 := F.tr (FrX.of (q := 218) (by decide +kernel) hF9)
  rw [va_up_id, clr_up] at Wx
  refine lv_aload_n hx hb dX3_forget_19 rfl (lv_at hl 0 rfl) ?_
  refine g_get X w 212 (F.1 212 (by have := Wx.1; omega) rfl) (by have := Wx.1; omega) (Wx.o xm_212) kc3 3 (by decide) rfl k_RX3_25 (v := .ref (ad4 220)) rfl dX3_forget_20 ?_
  refine lv_eqr (F.1 220 (by have := Wx.1; omega) rfl) ?_
  refine c_V (As := []) (rest := []) X w (ct_X5_clear l D G t N ad4 cl5 220 _ _ (Wx.2.1 220 (by decide +kernel)) (d - 1)) YX5_clear k_RX3_48 (220) (F.1 220 (by have := Wx.1; omega) rfl) (by have := Wx.1; omega) (Wx.2.1 220 (by decide +kernel)).2.1 kc5 (by rw [(F.1 220 (by have := Wx.1; omega) rfl)]) rfl rfl hl.1 (rm_call (by omega) (by decide)) (Nat.le_of_ble_eq_true rfl) dX3_forget_23 (⟨Nat.zero_le _, Nat.zero_le _⟩) (fun u H locs hp w => ?_)
  obtain ⟨ad6, cl7, rfl, hR9, hF9⟩ := hp
  have w : Wd D A s H locs N ad6 cl7 := w
  have Wx := Wx.row (q := 220) (by decide +kernel) hF9 hR9
  have F : FrX N ad cl ad6 cl7 := F.tr (FrX.of (q := 220) (by decide +kernel) hF9)
  rw [va_up_id, clr_up] at Wx
  refine lv_aload_n hx hb dX3_forget_26 rfl (lv_at hl 0 rfl) ?_
  refine g_get X w 212 (F.1 212 (by have := Wx.1; omega) rfl) (by have := Wx.1; omega) (Wx.o xm_212) kc3 4 (by decide) rfl k_RX3_28 (v := .ref (ad6 222)) rfl dX3_forget_27 ?_
  refine lv_eqr (F.1 222 (by have := Wx.1; omega) rfl) ?_
  refine c_V (As := []) (rest := []) X w (ct_X5_clear l D G t N ad6 cl7 222 _ _ (Wx.2.1 222 (by decide +kernel)) (d - 1)) YX5_clear k_RX3_48 (222) (F.1 222 (by have := Wx.1; omega) rfl) (by have := Wx.1; omega) (Wx.2.1 222 (by decide +kernel)).2.1 kc5 (by rw [(F.1 222 (by have := Wx.1; omega) rfl)]) rfl rfl hl.1 (rm_call (by omega) (by decide)) (Nat.le_of_ble_eq_true rfl) dX3_forget_30 (⟨Nat.zero_le _, Nat.zero_le _⟩) (fun u H locs hp w => ?_)
  obtain ⟨ad8, cl9, rfl, hR9, hF9⟩ := hp
  have w : Wd D A s H locs N ad8 cl9 := w
  have Wx := Wx.row (q := 222) (by decide +kernel) hF9 hR9
  have F : FrX N ad cl ad8 cl9 := F.tr (FrX.of (q := 222) (by decide +kernel) hF9)
  rw [va_up_id, clr_up] at Wx
  refine lv_iconst (v := 0) hx hb dX3_forget_33 (by decide) ?_
  refine lv_istore_n (lv' := [(1, .int (0)), (0, .ref (ad 212))]) hx hb dX3_forget_34 rfl hl (by decide) rfl (fun ls hl => ?_)
  refine lv_iload_n hx hb dX3_forget_35 rfl (lv_at hl 0 rfl) ?_
  refine lv_aload_n hx hb dX3_forget_36 rfl (lv_at hl 1 rfl) ?_
  refine g_get X w 212 (F.1 212 (by have := Wx.1; omega) rfl) (by have := Wx.1; omega) (Wx.o xm_212) kc3 7 (by decide) rfl k_RX3_37 (v := .ref (ad8 228)) rfl dX3_forget_37 ?_
  refine lv_eqr (F.1 228 (by have := Wx.1; omega) rfl) ?_
  refine g_alen X w 228 (F.1 228 (by have := Wx.1; omega) rfl) (by have := Wx.1; omega) (Wx.a xa_228) rfl dX3_forget_40 ?_
  refine lv_eqi (show nI 13 = 13 from rfl) ?_
  refine lv_icmp_ge (tgt := 57) hx hb dX3_forget_41 (by decide) (fun h10 => absurd h10 (by decide)) (fun h10 => ?_)
  refine lv_aload_n hx hb dX3_forget_44 rfl (lv_at hl 1 rfl) ?_
  refine g_get X w 212 (F.1 212 (by have := Wx.1; omega) rfl) (by have := Wx.1; omega) (Wx.o xm_212) kc3 7 (by decide) rfl k_RX3_37 (v := .ref (ad8 228)) rfl dX3_forget_45 ?_
  refine lv_eqr (F.1 228 (by have := Wx.1; omega) rfl) ?_
  refine lv_iload_n hx hb dX3_forget_48 rfl (lv_at hl 0 rfl) ?_
  refine lv_iconst (v := 0) hx hb dX3_forget_49 (by decide) ?_
  refine x_ist X w Wx xa_228 (by decide) (F.1 228 (by have := Wx.1; omega) rfl) (x := 0) (by unfold vp_in; decide) (i := 0) rfl dX3_forget_50 (fun H locs cl11 w Wx F9 => ?_)
  have F := F.tr F9
  refine lv_iinc (v := 1) (lv' := [(1, .int (1)), (0, .ref (ad 212))]) hx hb dX3_forget_51 hl (k := 0) rfl (by decide) (by decide) rfl (fun ls hl => ?_)
  refine lv_goto (tgt := 35) hx hb dX3_forget_54 (by decide) ?_
  refine lv_iload_n hx hb dX3_forget_35 rfl (lv_at hl 0 rfl) ?_
  refine lv_aload_n hx hb dX3_forget_36 rfl (lv_at hl 1 rfl) ?_
  refine g_get X w 212 (F.1 212 (by have := Wx.1; omega) rfl) (by have := Wx.1; omega) (Wx.o xm_212) kc3 7 (by decide) rfl k_RX3_37 (v := .ref (ad8 228)) rfl dX3_forget_37 ?_
  refine lv_eqr (F.1 228 (by have := Wx.1; omega) rfl) ?_
  refine g_alen X w 228 (F.1 228 (by have := Wx.1; omega) rfl) (by have := Wx.1; omega) (Wx.a xa_228) rfl dX3_forget_40 ?_
  refine lv_eqi (show nI 13 = 13 from rfl) ?_
  refine lv_icmp_ge (tgt := 57) hx hb dX3_forget_41 (by decide) (fun h12 => absurd h12 (by decide)) (fun h12 => ?_)
  refine lv_aload_n hx hb dX3_forget_44 rfl (lv_at hl 1 rfl) ?_
  refine g_get X w 212 (F.1 212 (by have := Wx.1; omega) rfl) (by have := Wx.1; omega) (Wx.o xm_212) kc3 7 (by decide) rfl k_RX3_37 (v := .ref (ad8 228)) rfl dX3_forget_45 ?_
  refine lv_eqr (F.1 228 (by have := Wx.1; omega) rfl) ?_
  refine lv_iload_n hx hb dX3_forget_48 rfl (lv_at hl 0 rfl) ?_
  refine lv_iconst (v := 0) hx hb dX3_forget_49 (by decide) ?_
  refine x_ist X w Wx xa_228 (by decide) (F.1 228 (by have := Wx.1; omega) rfl) (x := 1) (by unfold vp_in; decide) (i := 1) rfl dX3_forget_50 (fun H locs cl13 w Wx F9 => ?_)
  have F := F.tr F9
  refine lv_iinc (v := 2) (lv' := [(1, .int (2)), (0, .ref (ad 212))]) hx hb dX3_forget_51 hl (k := 0) rfl (by decide) (by decide) rfl (fun ls hl => ?_)
  refine lv_goto (tgt := 35) hx hb dX3_forget_54 (by decide) ?_
  refine lv_iload_n hx hb dX3_forget_35 rfl (lv_at hl 0 rfl) ?_
  refine lv_aload_n hx hb dX3_forget_36 rfl (lv_at hl 1 rfl) ?_
  refine g_get X w 212 (F.1 212 (by have := Wx.1; omega) rfl) (by have := Wx.1; omega) (Wx.o xm_212) kc3 7 (by decide) rfl k_RX3_37 (v := .ref (ad8 228)) rfl dX3_forget_37 ?_
  refine lv_eqr (F.1 228 (by have := Wx.1; omega) rfl) ?_
  refine g_alen X w 228 (F.1 228 (by have := Wx.1; omega) rfl) (by have := Wx.1; omega) (Wx.a xa_228) rfl dX3_forget_40 ?_
  refine lv_eqi (show nI 13 = 13 from rfl) ?_
  refine lv_icmp_ge (tgt := 57) hx hb dX3_forget_41 (by decide) (fun h14 => absurd h14 (by decide)) (fun h14 => ?_)
  refine lv_aload_n hx hb dX3_forget_44 rfl (lv_at hl 1 rfl) ?_
  refine g_get X w 212 (F.1 212 (by have := Wx.1; omega) rfl) (by have := Wx.1; omega) (Wx.o xm_212) kc3 7 (by decide) rfl k_RX3_37 (v := .ref (ad8 228)) rfl dX3_forget_45 ?_
  refine lv_eqr (F.1 228 (by have := Wx.1; omega) rfl) ?_
  refine lv_iload_n hx hb dX3_forget_48 rfl (lv_at hl 0 rfl) ?_
  refine lv_iconst (v := 0) hx hb dX3_forget_49 (by decide) ?_
  refine x_ist X w Wx xa_228 (by decide) (F.1 228 (by have := Wx.1; omega) rfl) (x := 2) (by unfold vp_in; decide) (i := 2) rfl dX3_forget_50 (fun H locs cl15 w Wx F9 => ?_)
  have F := F.tr F9
  refine lv_iinc (v := 3) (lv' := [(1, .int (3)), (0, .ref (ad 212))]) hx hb dX3_forget_51 hl (k := 0) rfl (by decide) (by decide) rfl (fun ls hl => ?_)
  refine lv_goto (tgt := 35) hx hb dX3_forget_54 (by decide) ?_
  refine lv_iload_n hx hb dX3_forget_35 rfl (lv_at hl 0 rfl) ?_
  refine lv_aload_n hx hb dX3_forget_36 rfl (lv_at hl 1 rfl) ?_
  refine g_get X w 212 (F.1 212 (by have := Wx.1; omega) rfl) (by have := Wx.1; omega) (Wx.o xm_212) kc3 7 (by decide) rfl k_RX3_37 (v := .ref (ad8 228)) rfl dX3_forget_37 ?_
  refine lv_eqr (F.1 228 (by have := Wx.1; omega) rfl) ?_
  refine g_alen X w 228 (F.1 228 (by have := Wx.1; omega) rfl) (by have := Wx.1; omega) (Wx.a xa_228) rfl dX3_forget_40 ?_
  refine lv_eqi (show nI 13 = 13 from rfl) ?_
  refine lv_icmp_ge (tgt := 57) hx hb dX3_forget_41 (by decide) (fun h16 => absurd h16 (by decide)) (fun h16 => ?_)
  refine lv_aload_n hx hb dX3_forget_44 rfl (lv_at hl 1 rfl) ?_
  refine g_get X w 212 (F.1 212 (by have := Wx.1; omega) rfl) (by have := Wx.1; omega) (Wx.o xm_212) kc3 7 (by decide) rfl k_RX3_37 (v := .ref (ad8 228)) rfl dX3_forget_45 ?_
  refine lv_eqr (F.1 228 (by have := Wx.1; omega) rfl) ?_
  refine lv_iload_n hx hb dX3_forget_48 rfl (lv_at hl 0 rfl) ?_
  refine lv_iconst (v := 0) hx hb dX3_forget_49 (by decide) ?_
  refine x_ist X w Wx xa_228 (by decide) (F.1 228 (by have := Wx.1; omega) rfl) (x := 3) (by unfold vp_in; decide) (i := 3) rfl dX3_forget_50 (fun H locs cl17 w Wx F9 => ?_)
  have F := F.tr F9
  refine lv_iinc (v := 4) (lv' := [(1, .int (4)), (0, .ref (ad 212))]) hx hb dX3_forget_51 hl (k := 0) rfl (by decide) (by decide) rfl (fun ls hl => ?_)
  refine lv_goto (tgt := 35) hx hb dX3_forget_54 (by decide) ?_
  refine lv_iload_n hx hb dX3_forget_35 rfl (lv_at hl 0 rfl) ?_
  refine lv_aload_n hx hb dX3_forget_36 rfl (lv_at hl 1 rfl) ?_
  refine g_get X w 212 (F.1 212 (by have := Wx.1; omega) rfl) (by have := Wx.1; omega) (Wx.o xm_212) kc3 7 (by decide) rfl k_RX3_37 (v := .ref (ad8 228)) rfl dX3_forget_37 ?_
  refine lv_eqr (F.1 228 (by have := Wx.1; omega) rfl) ?_
  refine g_alen X w 228 (F.1 228 (by have := Wx.1; omega) rfl) (by have := Wx.1; omega) (Wx.a xa_228) rfl dX3_forget_40 ?_
  refine lv_eqi (show nI 13 = 13 from rfl) ?_
  refine lv_icmp_ge (tgt := 57) hx hb dX3_forget_41 (by decide) (fun h18 => absurd h18 (by decide)) (fun h18 => ?_)
  refine lv_aload_n hx hb dX3_forget_44 rfl (lv_at hl 1 rfl) ?_
  refine g_get X w 212 (F.1 212 (by have := Wx.1; omega) rfl) (by have := Wx.1; omega) (Wx.o xm_212) kc3 7 (by decide) rfl k_RX3_37 (v := .ref (ad8 228)) rfl dX3_forget_45 ?_
  refine lv_eqr (F.1 228 (by have := Wx.1; omega) rfl) ?_
  refine lv_iload_n hx hb dX3_forget_48 rfl (lv_at hl 0 rfl) ?_
  refine lv_iconst (v := 0) hx hb dX3_forget_49 (by decide) ?_
  refine x_ist X w Wx xa_228 (by decide) (F.1 228 (by have := Wx.1; omega) rfl) (x := 4) (by unfold vp_in; decide) (i := 4) rfl dX3_forget_50 (fun H locs cl19 w Wx F9 => ?_)
  have F := F.tr F9
  refine lv_iinc (v := 5) (lv' := [(1, .int (5)), (0, .ref (ad 212))]) hx hb dX3_forget_51 hl (k := 0) rfl (by decide) (by decide) rfl (fun ls hl => ?_)
  refine lv_goto (tgt := 35) hx hb dX3_forget_54 (by decide) ?_
  refine lv_iload_n hx hb dX3_forget_35 rfl (lv_at hl 0 rfl) ?_
  refine lv_aload_n hx hb dX3_forget_36 rfl (lv_at hl 1 rfl) ?_
  refine g_get X w 212 (F.1 212 (by have := Wx.1; omega) rfl) (by have := Wx.1; omega) (Wx.o xm_212) kc3 7 (by decide) rfl k_RX3_37 (v := .ref (ad8 228)) rfl dX3_forget_37 ?_
  refine lv_eqr (F.1 228 (by have := Wx.1; omega) rfl) ?_
  refine g_alen X w 228 (F.1 228 (by have := Wx.1; omega) rfl) (by have := Wx.1; omega) (Wx.a xa_228) rfl dX3_forget_40 ?_
  refine lv_eqi (show nI 13 = 13 from rfl) ?_
  refine lv_icmp_ge (tgt := 57) hx hb dX3_forget_41 (by decide) (fun h20 => absurd h20 (by decide)) (fun h20 => ?_)
  refine lv_aload_n hx hb dX3_forget_44 rfl (lv_at hl 1 rfl) ?_
  refine g_get X w 212 (F.1 212 (by have := Wx.1; omega) rfl) (by have := Wx.1; omega) (Wx.o xm_212) kc3 7 (by decide) rfl k_RX3_37 (v := .ref (ad8 228)) rfl dX3_forget_45 ?_
  refine lv_eqr (F.1 228 (by have := Wx.1; omega) rfl) ?_
  refine lv_iload_n hx hb dX3_forget_48 rfl (lv_at hl 0 rfl) ?_
  refine lv_iconst (v := 0) hx hb dX3_forget_49 (by decide) ?_
  refine x_ist X w Wx xa_228 (by decide) (F.1 228 (by have := Wx.1; omega) rfl) (x := 5) (by unfold vp_in; decide) (i := 5) rfl dX3_forget_50 (fun H locs cl21 w Wx F9 => ?_)
  have F := F.tr F9
  refine lv_iinc (v := 6) (lv' := [(1, .int (6)), (0, .ref (ad 212))]) hx hb dX3_forget_51 hl (k := 0) rfl (by decide) (by decide) rfl (fun ls hl => ?_)
  refine lv_goto (tgt := 35) hx hb dX3_forget_54 (by decide) ?_
  refine lv_iload_n hx hb dX3_forget_35 rfl (lv_at hl 0 rfl) ?_
  refine lv_aload_n hx hb dX3_forget_36 rfl (lv_at hl 1 rfl) ?_
  refine g_get X w 212 (F.1 212 (by have := Wx.1; omega) rfl) (by have := Wx.1; omega) (Wx.o xm_212) kc3 7 (by decide) rfl k_RX3_37 (v := .ref (ad8 228)) rfl dX3_forget_37 ?_
  refine lv_eqr (F.1 228 (by have := Wx.1; omega) rfl) ?_
  refine g_alen X w 228 (F.1 228 (by have := Wx.1; omega) rfl) (by have := Wx.1; omega) (Wx.a xa_228) rfl dX3_forget_40 ?_
  refine lv_eqi (show nI 13 = 13 from rfl) ?_
  refine lv_icmp_ge (tgt := 57) hx hb dX3_forget_41 (by decide) (fun h22 => absurd h22 (by decide)) (fun h22 => ?_)
  refine lv_aload_n hx hb dX3_forget_44 rfl (lv_at hl 1 rfl) ?_
  refine g_get X w 212 (F.1 212 (by have := Wx.1; omega) rfl) (by have := Wx.1; omega) (Wx.o xm_212) kc3 7 (by decide) rfl k_RX3_37 (v := .ref (ad8 228)) rfl dX3_forget_45 ?_
  refine lv_eqr (F.1 228 (by have := Wx.1; omega) rfl) ?_
  refine lv_iload_n hx hb dX3_forget_48 rfl (lv_at hl 0 rfl) ?_
  refine lv_iconst (v := 0) hx hb dX3_forget_49 (by decide) ?_
  refine x_ist X w Wx xa_228 (by decide) (F.1 228 (by have := Wx.1; omega) rfl) (x := 6) (by unfold vp_in; decide) (i := 6) rfl dX3_forget_50 (fun H locs cl23 w Wx F9 => ?_)
  have F := F.tr F9
  refine lv_iinc (v := 7) (lv' := [(1, .int (7)), (0, .ref (ad 212))]) hx hb dX3_forget_51 hl (k := 0) rfl (by decide) (by decide) rfl (fun ls hl => ?_)
  refine lv_goto (tgt := 35) hx hb dX3_forget_54 (by decide) ?_
  refine lv_iload_n hx hb dX3_forget_35 rfl (lv_at hl 0 rfl) ?_
  refine lv_aload_n hx hb dX3_forget_36 rfl (lv_at hl 1 rfl) ?_
  refine g_get X w 212 (F.1 212 (by have := Wx.1; omega) rfl) (by have := Wx.1; omega) (Wx.o xm_212) kc3 7 (by decide) rfl k_RX3_37 (v := .ref (ad8 228)) rfl dX3_forget_37 ?_
  refine lv_eqr (F.1 228 (by have := Wx.1; omega) rfl) ?_
  refine g_alen X w 228 (F.1 228 (by have := Wx.1; omega) rfl) (by have := Wx.1; omega) (Wx.a xa_228) rfl dX3_forget_40 ?_
  refine lv_eqi (show nI 13 = 13 from rfl) ?_
  refine lv_icmp_ge (tgt := 57) hx hb dX3_forget_41 (by decide) (fun h24 => absurd h24 (by decide)) (fun h24 => ?_)
  refine lv_aload_n hx hb dX3_forget_44 rfl (lv_at hl 1 rfl) ?_
  refine g_get X w 212 (F.1 212 (by have := Wx.1; omega) rfl) (by have := Wx.1; omega) (Wx.o xm_212) kc3 7 (by decide) rfl k_RX3_37 (v := .ref (ad8 228)) rfl dX3_forget_45 ?_
  refine lv_eqr (F.1 228 (by have := Wx.1; omega) rfl) ?_
  refine lv_iload_n hx hb dX3_forget_48 rfl (lv_at hl 0 rfl) ?_
  refine lv_iconst (v := 0) hx hb dX3_forget_49 (by decide) ?_
  refine x_ist X w Wx xa_228 (by decide) (F.1 228 (by have := Wx.1; omega) rfl) (x := 7) (by unfold vp_in; decide) (i := 7) rfl dX3_forget_50 (fun H locs cl25 w Wx F9 => ?_)
  have F := F.tr F9
  refine lv_iinc (v := 8) (lv' := [(1, .int (8)), (0, .ref (ad 212))]) hx hb dX3_forget_51 hl (k := 0) rfl (by decide) (by decide) rfl (fun ls hl => ?_)
  refine lv_goto (tgt := 35) hx hb dX3_forget_54 (by decide) ?_
  refine lv_iload_n hx hb dX3_forget_35 rfl (lv_at hl 0 rfl) ?_
  refine lv_aload_n hx hb dX3_forget_36 rfl (lv_at hl 1 rfl) ?_
  refine g_get X w 212 (F.1 212 (by have := Wx.1; omega) rfl) (by have := Wx.1; omega) (Wx.o xm_212) kc3 7 (by decide) rfl k_RX3_37 (v := .ref (ad8 228)) rfl dX3_forget_37 ?_
  refine lv_eqr (F.1 228 (by have := Wx.1; omega) rfl) ?_
  refine g_alen X w 228 (F.1 228 (by have := Wx.1; omega) rfl) (by have := Wx.1; omega) (Wx.a xa_228) rfl dX3_forget_40 ?_
  refine lv_eqi (show nI 13 = 13 from rfl) ?_
  refine lv_icmp_ge (tgt := 57) hx hb dX3_forget_41 (by decide) (fun h26 => absurd h26 (by decide)) (fun h26 => ?_)
  refine lv_aload_n hx hb dX3_forget_44 rfl (lv_at hl 1 rfl) ?_
  refine g_get X w 212 (F.1 212 (by have := Wx.1; omega) rfl) (by have := Wx.1; omega) (Wx.o xm_212) kc3 7 (by decide) rfl k_RX3_37 (v := .ref (ad8 228)) rfl dX3_forget_45 ?_
  refine lv_eqr (F.1 228 (by have := Wx.1; omega) rfl) ?_
  refine lv_iload_n hx hb dX3_forget_48 rfl (lv_at hl 0 rfl) ?_
  refine lv_iconst (v := 0) hx hb dX3_forget_49 (by decide) ?_
  refine x_ist X w Wx xa_228 (by decide) (F.1 228 (by have := Wx.1; omega) rfl) (x := 8) (by unfold vp_in; decide) (i := 8) rfl dX3_forget_50 (fun H locs cl27 w Wx F9 => ?_)
  have F := F.tr F9
  refine lv_iinc (v := 9) (lv' := [(1, .int (9)), (0, .ref (ad 212))]) hx hb dX3_forget_51 hl (k := 0) rfl (by decide) (by decide) rfl (fun ls hl => ?_)
  refine lv_goto (tgt := 35) hx hb dX3_forget_54 (by decide) ?_
  refine lv_iload_n hx hb dX3_forget_35 rfl (lv_at hl 0 rfl) ?_
  refine lv_aload_n hx hb dX3_forget_36 rfl (lv_at hl 1 rfl) ?_
  refine g_get X w 212 (F.1 212 (by have := Wx.1; omega) rfl) (by have := Wx.1; omega) (Wx.o xm_212) kc3 7 (by decide) rfl k_RX3_37 (v := .ref (ad8 228)) rfl dX3_forget_37 ?_
  refine lv_eqr (F.1 228 (by have := Wx.1; omega) rfl) ?_
  refine g_alen X w 228 (F.1 228 (by have := Wx.1; omega) rfl) (by have := Wx.1; omega) (Wx.a xa_228) rfl dX3_forget_40 ?_
  refine lv_eqi (show nI 13 = 13 from rfl) ?_
  refine lv_icmp_ge (tgt := 57) hx hb dX3_forget_41 (by decide) (fun h28 => absurd h28 (by decide)) (fun h28 => ?_)
  refine lv_aload_n hx hb dX3_forget_44 rfl (lv_at hl 1 rfl) ?_
  refine g_get X w 212 (F.1 212 (by have := Wx.1; omega) rfl) (by have := Wx.1; omega) (Wx.o xm_212) kc3 7 (by decide) rfl k_RX3_37 (v := .ref (ad8 228)) rfl dX3_forget_45 ?_
  refine lv_eqr (F.1 228 (by have := Wx.1; omega) rfl) ?_
  refine lv_iload_n hx hb dX3_forget_48 rfl (lv_at hl 0 rfl) ?_
  refine lv_iconst (v := 0) hx hb dX3_forget_49 (by decide) ?_
  refine x_ist X w Wx xa_228 (by decide) (F.1 228 (by have := Wx.1; omega) rfl) (x := 9) (by unfold vp_in; decide) (i := 9) rfl dX3_forget_50 (fun H locs cl29 w Wx F9 => ?_)
  have F := F.tr F9
  refine lv_iinc (v := 10) (lv' := [(1, .int (10)), (0, .ref (ad 212))]) hx hb dX3_forget_51 hl (k := 0) rfl (by decide) (by decide) rfl (fun ls hl => ?_)
  refine lv_goto (tgt := 35) hx hb dX3_forget_54 (by decide) ?_
  refine lv_iload_n hx hb dX3_forget_35 rfl (lv_at hl 0 rfl) ?_
  refine lv_aload_n hx hb dX3_forget_36 rfl (lv_at hl 1 rfl) ?_
  refine g_get X w 212 (F.1 212 (by have := Wx.1; omega) rfl) (by have := Wx.1; omega) (Wx.o xm_212) kc3 7 (by decide) rfl k_RX3_37 (v := .ref (ad8 228)) rfl dX3_forget_37 ?_
  refine lv_eqr (F.1 228 (by have := Wx.1; omega) rfl) ?_
  refine g_alen X w 228 (F.1 228 (by have := Wx.1; omega) rfl) (by have := Wx.1; omega) (Wx.a xa_228) rfl dX3_forget_40 ?_
  refine lv_eqi (show nI 13 = 13 from rfl) ?_
  refine lv_icmp_ge (tgt := 57) hx hb dX3_forget_41 (by decide) (fun h30 => absurd h30 (by decide)) (fun h30 => ?_)
  refine lv_aload_n hx hb dX3_forget_44 rfl (lv_at hl 1 rfl) ?_
  refine g_get X w 212 (F.1 212 (by have := Wx.1; omega) rfl) (by have := Wx.1; omega) (Wx.o xm_212) kc3 7 (by decide) rfl k_RX3_37 (v := .ref (ad8 228)) rfl dX3_forget_45 ?_
  refine lv_eqr (F.1 228 (by have := Wx.1; omega) rfl) ?_
  refine lv_iload_n hx hb dX3_forget_48 rfl (lv_at hl 0 rfl) ?_
  refine lv_iconst (v := 0) hx hb dX3_forget_49 (by decide) ?_
  refine x_ist X w Wx xa_228 (by decide) (F.1 228 (by have := Wx.1; omega) rfl) (x := 10) (by unfold vp_in; decide) (i := 10) rfl dX3_forget_50 (fun H locs cl31 w Wx F9 => ?_)
  have F := F.tr F9
  refine lv_iinc (v := 11) (lv' := [(1, .int (11)), (0, .ref (ad 212))]) hx hb dX3_forget_51 hl (k := 0) rfl (by decide) (by decide) rfl (fun ls hl => ?_)
  refine lv_goto (tgt := 35) hx hb dX3_forget_54 (by decide) ?_
  refine lv_iload_n hx hb dX3_forget_35 rfl (lv_at hl 0 rfl) ?_
  refine lv_aload_n hx hb dX3_forget_36 rfl (lv_at hl 1 rfl) ?_
  refine g_get X w 212 (F.1 212 (by have := Wx.1; omega) rfl) (by have := Wx.1; omega) (Wx.o xm_212) kc3 7 (by decide) rfl k_RX3_37 (v := .ref (ad8 228)) rfl dX3_forget_37 ?_
  refine lv_eqr (F.1 228 (by have := Wx.1; omega) rfl) ?_
  refine g_alen X w 228 (F.1 228 (by have := Wx.1; omega) rfl) (by have := Wx.1; omega) (Wx.a xa_228) rfl dX3_forget_40 ?_
  refine lv_eqi (show nI 13 = 13 from rfl) ?_
  refine lv_icmp_ge (tgt := 57) hx hb dX3_forget_41 (by decide) (fun h32 => absurd h32 (by decide)) (fun h32 => ?_)
  refine lv_aload_n hx hb dX3_forget_44 rfl (lv_at hl 1 rfl) ?_
  refine g_get X w 212 (F.1 212 (by have := Wx.1; omega) rfl) (by have := Wx.1; omega) (Wx.o xm_212) kc3 7 (by decide) rfl k_RX3_37 (v := .ref (ad8 228)) rfl dX3_forget_45 ?_
  refine lv_eqr (F.1 228 (by have := Wx.1; omega) rfl) ?_
  refine lv_iload_n hx hb dX3_forget_48 rfl (lv_at hl 0 rfl) ?_
  refine lv_iconst (v := 0) hx hb dX3_forget_49 (by decide) ?_
  refine x_ist X w Wx xa_228 (by decide) (F.1 228 (by have := Wx.1; omega) rfl) (x := 11) (by unfold vp_in; decide) (i := 11) rfl dX3_forget_50 (fun H locs cl33 w Wx F9 => ?_)
  have F := F.tr F9
  refine lv_iinc (v := 12) (lv' := [(1, .int (12)), (0, .ref (ad 212))]) hx hb dX3_forget_51 hl (k := 0) rfl (by decide) (by decide) rfl (fun ls hl => ?_)
  refine lv_goto (tgt := 35) hx hb dX3_forget_54 (by decide) ?_
  refine lv_iload_n hx hb dX3_forget_35 rfl (lv_at hl 0 rfl) ?_
  refine lv_aload_n hx hb dX3_forget_36 rfl (lv_at hl 1 rfl) ?_
  refine g_get X w 212 (F.1 212 (by have := Wx.1; omega) rfl) (by have := Wx.1; omega) (Wx.o xm_212) kc3 7 (by decide) rfl k_RX3_37 (v := .ref (ad8 228)) rfl dX3_forget_37 ?_
  refine lv_eqr (F.1 228 (by have := Wx.1; omega) rfl) ?_
  refine g_alen X w 228 (F.1 228 (by have := Wx.1; omega) rfl) (by have := Wx.1; omega) (Wx.a xa_228) rfl dX3_forget_40 ?_
  refine lv_eqi (show nI 13 = 13 from rfl) ?_
  refine lv_icmp_ge (tgt := 57) hx hb dX3_forget_41 (by decide) (fun h34 => absurd h34 (by decide)) (fun h34 => ?_)
  refine lv_aload_n hx hb dX3_forget_44 rfl (lv_at hl 1 rfl) ?_
  refine g_get X w 212 (F.1 212 (by have := Wx.1; omega) rfl) (by have := Wx.1; omega) (Wx.o xm_212) kc3 7 (by decide) rfl k_RX3_37 (v := .ref (ad8 228)) rfl dX3_forget_45 ?_
  refine lv_eqr (F.1 228 (by have := Wx.1; omega) rfl) ?_
  refine lv_iload_n hx hb dX3_forget_48 rfl (lv_at hl 0 rfl) ?_
  refine lv_iconst (v := 0) hx hb dX3_forget_49 (by decide) ?_
  refine x_ist X w Wx xa_228 (by decide) (F.1 228 (by have := Wx.1; omega) rfl) (x := 12) (by unfold vp_in; decide) (i := 12) rfl dX3_forget_50 (fun H locs cl35 w Wx F9 => ?_)
  have F := F.tr F9
  refine lv_iinc (v := 13) (lv' := [(1, .int (13)), (0, .ref (ad 212))]) hx hb dX3_forget_51 hl (k := 0) rfl (by decide) (by decide) rfl (fun ls hl => ?_)
  refine lv_goto (tgt := 35) hx hb dX3_forget_54 (by decide) ?_
  refine lv_iload_n hx hb dX3_forget_35 rfl (lv_at hl 0 rfl) ?_
  refine lv_aload_n hx hb dX3_forget_36 rfl (lv_at hl 1 rfl) ?_
  refine g_get X w 212 (F.1 212 (by have := Wx.1; omega) rfl) (by have := Wx.1; omega) (Wx.o xm_212) kc3 7 (by decide) rfl k_RX3_37 (v := .ref (ad8 228)) rfl dX3_forget_37 ?_
  refine lv_eqr (F.1 228 (by have := Wx.1; omega) rfl) ?_
  refine g_alen X w 228 (F.1 228 (by have := Wx.1; omega) rfl) (by have := Wx.1; omega) (Wx.a xa_228) rfl dX3_forget_40 ?_
  refine lv_eqi (show nI 13 = 13 from rfl) ?_
  refine lv_icmp_ge (tgt := 57) hx hb dX3_forget_41 (by decide) (fun h36 => ?_) (fun h36 => absurd (by decide) h36)
  simp only [va_up_self, bx_uu] at Wx
  exact e_V X hr w ⟨ad8, cl35, rfl, Wx, F⟩ (Nat.le_of_ble_eq_true rfl) (Nat.le_of_ble_eq_true rfl) dX3_forget_57
set_option maxHeartbeats 4000000 in
set_option maxRecDepth 100000 in
theorem cx_3_forget_229 (l : Launch) (D : va_G) (G : Nat → ClassId) (t : Nat → Nat) (N : Nat) (ad : Nat → Nat) (cl : Nat → va_E) (c : Nat → Nat) (xs : Nat → List Int32) (v : Nat → Nat → Int32) (g : Nat → Nat → Int32) (nb : Nat → Nat) (Wx : XW G N ad cl c xs v g nb) (d : Nat) (hd : 3 ≤ d) : CtV l yX3_forget cX3_forget 2 (rmD d 0 0) D G t (N, ad, cl) [.ref (ad 229)] (fun u => ∃ ad' cl', u = (N, ad', cl') ∧ XW G N ad' cl' c (clr xs [239, 237, 235, 233, 231]) (vset (v) 229 0 (0)) (va_up g 245 (upd (upd (upd (upd (upd (upd (upd (upd (upd (upd (upd (upd (upd (g 245) 0 0) 1 0) 2 0) 3 0) 4 0) 5 0) 6 0) 7 0) 8 0) 9 0) 10 0) 11 0) 12 0)) nb ∧ FrX N ad cl ad' cl') := by
  refine ct_V (own := RX3) (by decide +kernel) rfl (Nat.le_of_ble_eq_true rfl) rfl ?_
  intro p e s m args below meth cd A ls X hr hin hl w
  obtain ⟨hx, hb, hml, hown, hts, -⟩ := id X
  have hl : lv_has ls 2 [(0, .ref (ad 229))] := hl
  have F : FrX N ad cl ad cl := FrX.rf
  rw [← clr_nil xs] at Wx
  refine lv_aload_n hx hb dX3_forget_0 rfl (lv_at hl 0 rfl) ?_
  refine lv_iconst (v := 0) hx hb dX3_forget_1 (by decide) ?_
  refine x_puti X w Wx xm_229 (by decide) rfl kc3 0 (by decide) rfl k_RX3_41 rfl (x := 0) rfl rfl rfl dX3_forget_2 (fun H locs cl1 w Wx F9 => ?_)
  have F := F.tr F9
  refine lv_aload_n hx hb dX3_forget_5 rfl (lv_at hl 0 rfl) ?_
  refine g_get X w 229 rfl (by have := Wx.1; omega) (Wx.o xm_229) kc3 1 (by decide) rfl k_RX3_12 (v := .ref (ad 230)) rfl dX3_forget_6 ?_
  refine c_V (As := []) (rest := []) X w (cx_8_clear_230 l D G t N ad cl1 _ _ _ _ _ Wx (d - 1) (by omega)) YX8_clear k_RX3_45 (230) rfl (by have := Wx.1; omega) (Wx.o xm_230) kc8 (rfl) rfl rfl hl.1 (rm_call (by omega) (by decide)) (Nat.le_of_ble_eq_true rfl) dX3_forget_9 (⟨Nat.zero_le _, Nat.zero_le _⟩) (fun u H locs hp w => ?_)
  obtain ⟨ad2, cl3, rfl, Wx, F9⟩ := hp
  have w : Wd D A s H locs N ad2 cl3 := w
  have F := F.tr F9
  rw [clr_clr] at Wx
  have Wx : XW G N ad2 cl3 c (clr xs [233, 231]) (vset (v) 229 0 (0)) (g) nb := Wx
  refine lv_aload_n hx hb dX3_forget_12 rfl (lv_at hl 0 rfl) ?_
  refine g_get X w 229 (F.1 229 (by have := Wx.1; omega) rfl) (by have := Wx.1; omega) (Wx.o xm_229) kc3 2 (by decide) rfl k_RX3_21 (v := .ref (ad2 235)) rfl dX3_forget_13 ?_
  refine lv_eqr (F.1 235 (by have := Wx.1; omega) rfl) ?_
  refine c_V (As := []) (rest := []) X w (ct_X5_clear l D G t N ad2 cl3 235 _ _ (Wx.2.1 235 (by decide +kernel)) (d - 1)) YX5_clear k_RX3_48 (235) (F.1 235 (by have := Wx.1; omega) rfl) (by have := Wx.1; omega) (Wx.2.1 235 (by decide +kernel)).2.1 kc5 (by rw [(F.1 235 (by have := Wx.1; omega) rfl)]) rfl rfl hl.1 (rm_call (by omega) (by decide)) (Nat.le_of_ble_eq_true rfl) dX3_forget_16 (⟨Nat.zero_le _, Nat.zero_le _⟩) (fun u H locs hp w => ?_)
  obtain ⟨ad4, cl5, rfl, hR9, hF9⟩ := hp
  have w : Wd D A s H locs N ad4 cl5 := w
  have Wx := Wx.row (q := 235) (by decide +kernel) hF9 hR9
  have F : FrX N ad cl ad4 cl5 := F.tr (FrX.of (q := 235) (by decide +kernel) hF9)
  rw [va_up_id, clr_up] at Wx
  refine lv_aload_n hx hb dX3_forget_19 rfl (lv_at hl 0 rfl) ?_
  refine g_get X w 229 (F.1 229 (by have := Wx.1; omega) rfl) (by have := Wx.1; omega) (Wx.o xm_229) kc3 3 (by decide) rfl k_RX3_25 (v := .ref (ad4 237)) rfl dX3_forget_20 ?_
  refine lv_eqr (F.1 237 (by have := Wx.1; omega) rfl) ?_
  refine c_V (As := []) (rest := []) X w (ct_X5_clear l D G t N ad4 cl5 237 _ _ (Wx.2.1 237 (by decide +kernel)) (d - 1)) YX5_clear k_RX3_48 (237) (F.1 237 (by have := Wx.1; omega) rfl) (by have := Wx.1; omega) (Wx.2.1 237 (by decide +kernel)).2.1 kc5 (by rw [(F.1 237 (by have := Wx.1; omega) rfl)]) rfl rfl hl.1 (rm_call (by omega) (by decide)) (Nat.le_of_ble_eq_true rfl) dX3_forget_23 (⟨Nat.zero_le _, Nat.zero_le _⟩) (fun u H locs hp w => ?_)
  obtain ⟨ad6, cl7, rfl, hR9, hF9⟩ := hp
  have w : Wd D A s H locs N ad6 cl7 := w
  have Wx := Wx.row (q := 237) (by decide +kernel) hF9 hR9
  have F : FrX N ad cl ad6 cl7 := F.tr (FrX.of (q := 237) (by decide +kernel) hF9)
  rw [va_up_id, clr_up] at Wx
  refine lv_aload_n hx hb dX3_forget_26 rfl (lv_at hl 0 rfl) ?_
  refine g_get X w 229 (F.1 229 (by have := Wx.1; omega) rfl) (by have := Wx.1; omega) (Wx.o xm_229) kc3 4 (by decide) rfl k_RX3_28 (v := .ref (ad6 239)) rfl dX3_forget_27 ?_
  refine lv_eqr (F.1 239 (by have := Wx.1; omega) rfl) ?_
  refine c_V (As := []) (rest := []) X w (ct_X5_clear l D G t N ad6 cl7 239 _ _ (Wx.2.1 239 (by decide +kernel)) (d - 1)) YX5_clear k_RX3_48 (239) (F.1 239 (by have := Wx.1; omega) rfl) (by have := Wx.1; omega) (Wx.2.1 239 (by decide +kernel)).2.1 kc5 (by rw [(F.1 239 (by have := Wx.1; omega) rfl)]) rfl rfl hl.1 (rm_call (by omega) (by decide)) (Nat.le_of_ble_eq_true rfl) dX3_forget_30 (⟨Nat.zero_le _, Nat.zero_le _⟩) (fun u H locs hp w => ?_)
  obtain ⟨ad8, cl9, rfl, hR9, hF9⟩ := hp
  have w : Wd D A s H locs N ad8 cl9 := w
  have Wx := Wx.row (q := 239) (by decide +kernel) hF9 hR9
  have F : FrX N ad cl ad8 cl9 := F.tr (FrX.of (q := 239) (by decide +kernel) hF9)
  rw [va_up_id, clr_up] at Wx
  refine lv_iconst (v := 0) hx hb dX3_forget_33 (by decide) ?_
  refine lv_istore_n (lv' := [(1, .int (0)), (0, .ref (ad 229))]) hx hb dX3_forget_34 rfl hl (by decide) rfl (fun ls hl => ?_)
  refine lv_iload_n hx hb dX3_forget_35 rfl (lv_at hl 0 rfl) ?_
  refine lv_aload_n hx hb dX3_forget_36 rfl (lv_at hl 1 rfl) ?_
  refine g_get X w 229 (F.1 229 (by have := Wx.1; omega) rfl) (by have := Wx.1; omega) (Wx.o xm_229) kc3 7 (by decide) rfl k_RX3_37 (v := .ref (ad8 245)) rfl dX3_forget_37 ?_
  refine lv_eqr (F.1 245 (by have := Wx.1; omega) rfl) ?_
  refine g_alen X w 245 (F.1 245 (by have := Wx.1; omega) rfl) (by have := Wx.1; omega) (Wx.a xa_245) rfl dX3_forget_40 ?_
  refine lv_eqi (show nI 13 = 13 from rfl) ?_
  refine lv_icmp_ge (tgt := 57) hx hb dX3_forget_41 (by decide) (fun h10 => absurd h10 (by decide)) (fun h10 => ?_)
  refine lv_aload_n hx hb dX3_forget_44 rfl (lv_at hl 1 rfl) ?_
  refine g_get X w 229 (F.1 229 (by have := Wx.1; omega) rfl) (by have := Wx.1; omega) (Wx.o xm_229) kc3 7 (by decide) rfl k_RX3_37 (v := .ref (ad8 245)) rfl dX3_forget_45 ?_
  refine lv_eqr (F.1 245 (by have := Wx.1; omega) rfl) ?_
  refine lv_iload_n hx hb dX3_forget_48 rfl (lv_at hl 0 rfl) ?_
  refine lv_iconst (v := 0) hx hb dX3_forget_49 (by decide) ?_
  refine x_ist X w Wx xa_245 (by decide) (F.1 245 (by have := Wx.1; omega) rfl) (x := 0) (by unfold vp_in; decide) (i := 0) rfl dX3_forget_50 (fun H locs cl11 w Wx F9 => ?_)
  have F := F.tr F9
  refine lv_iinc (v := 1) (lv' := [(1, .int (1)), (0, .ref (ad 229))]) hx hb dX3_forget_51 hl (k := 0) rfl (by decide) (by decide) rfl (fun ls hl => ?_)
  refine lv_goto (tgt := 35) hx hb dX3_forget_54 (by decide) ?_
  refine lv_iload_n hx hb dX3_forget_35 rfl (lv_at hl 0 rfl) ?_
  refine lv_aload_n hx hb dX3_forget_36 rfl (lv_at hl 1 rfl) ?_
  refine g_get X w 229 (F.1 229 (by have := Wx.1; omega) rfl) (by have := Wx.1; omega) (Wx.o xm_229) kc3 7 (by decide) rfl k_RX3_37 (v := .ref (ad8 245)) rfl dX3_forget_37 ?_
  refine lv_eqr (F.1 245 (by have := Wx.1; omega) rfl) ?_
  refine g_alen X w 245 (F.1 245 (by have := Wx.1; omega) rfl) (by have := Wx.1; omega) (Wx.a xa_245) rfl dX3_forget_40 ?_
  refine lv_eqi (show nI 13 = 13 from rfl) ?_
  refine lv_icmp_ge (tgt := 57) hx hb dX3_forget_41 (by decide) (fun h12 => absurd h12 (by decide)) (fun h12 => ?_)
  refine lv_aload_n hx hb dX3_forget_44 rfl (lv_at hl 1 rfl) ?_
  refine g_get X w 229 (F.1 229 (by have := Wx.1; omega) rfl) (by have := Wx.1; omega) (Wx.o xm_229) kc3 7 (by decide) rfl k_RX3_37 (v := .ref (ad8 245)) rfl dX3_forget_45 ?_
  refine lv_eqr (F.1 245 (by have := Wx.1; omega) rfl) ?_
  refine lv_iload_n hx hb dX3_forget_48 rfl (lv_at hl 0 rfl) ?_
  refine lv_iconst (v := 0) hx hb dX3_forget_49 (by decide) ?_
  refine x_ist X w Wx xa_245 (by decide) (F.1 245 (by have := Wx.1; omega) rfl) (x := 1) (by unfold vp_in; decide) (i := 1) rfl dX3_forget_50 (fun H locs cl13 w Wx F9 => ?_)
  have F := F.tr F9
  refine lv_iinc (v := 2) (lv' := [(1, .int (2)), (0, .ref (ad 229))]) hx hb dX3_forget_51 hl (k := 0) rfl (by decide) (by decide) rfl (fun ls hl => ?_)
  refine lv_goto (tgt := 35) hx hb dX3_forget_54 (by decide) ?_
  refine lv_iload_n hx hb dX3_forget_35 rfl (lv_at hl 0 rfl) ?_
  refine lv_aload_n hx hb dX3_forget_36 rfl (lv_at hl 1 rfl) ?_
  refine g_get X w 229 (F.1 229 (by have := Wx.1; omega) rfl) (by have := Wx.1; omega) (Wx.o xm_229) kc3 7 (by decide) rfl k_RX3_37 (v := .ref (ad8 245)) rfl dX3_forget_37 ?_
  refine lv_eqr (F.1 245 (by have := Wx.1; omega) rfl) ?_
  refine g_alen X w 245 (F.1 245 (by have := Wx.1; omega) rfl) (by have := Wx.1; omega) (Wx.a xa_245) rfl dX3_forget_40 ?_
  refine lv_eqi (show nI 13 = 13 from rfl) ?_
  refine lv_icmp_ge (tgt := 57) hx hb dX3_forget_41 (by decide) (fun h14 => absurd h14 (by decide)) (fun h14 => ?_)
  refine lv_aload_n hx hb dX3_forget_44 rfl (lv_at hl 1 rfl) ?_
  refine g_get X w 229 (F.1 229 (by have := Wx.1; omega) rfl) (by have := Wx.1; omega) (Wx.o xm_229) kc3 7 (by decide) rfl k_RX3_37 (v := .ref (ad8 245)) rfl dX3_forget_45 ?_
  refine lv_eqr (F.1 245 (by have := Wx.1; omega) rfl) ?_
  refine lv_iload_n hx hb dX3_forget_48 rfl (lv_at hl 0 rfl) ?_
  refine lv_iconst (v := 0) hx hb dX3_forget_49 (by decide) ?_
  refine x_ist X w Wx xa_245 (by decide) (F.1 245 (by have := Wx.1; omega) rfl) (x := 2) (by unfold vp_in; decide) (i := 2) rfl dX3_forget_50 (fun H locs cl15 w Wx F9 => ?_)
  have F := F.tr F9
  refine lv_iinc (v := 3) (lv' := [(1, .int (3)), (0, .ref (ad 229))]) hx hb dX3_forget_51 hl (k := 0) rfl (by decide) (by decide) rfl (fun ls hl => ?_)
  refine lv_goto (tgt := 35) hx hb dX3_forget_54 (by decide) ?_
  refine lv_iload_n hx hb dX3_forget_35 rfl (lv_at hl 0 rfl) ?_
  refine lv_aload_n hx hb dX3_forget_36 rfl (lv_at hl 1 rfl) ?_
  refine g_get X w 229 (F.1 229 (by have := Wx.1; omega) rfl) (by have := Wx.1; omega) (Wx.o xm_229) kc3 7 (by decide) rfl k_RX3_37 (v := .ref (ad8 245)) rfl dX3_forget_37 ?_
  refine lv_eqr (F.1 245 (by have := Wx.1; omega) rfl) ?_
  refine g_alen X w 245 (F.1 245 (by have := Wx.1; omega) rfl) (by have := Wx.1; omega) (Wx.a xa_245) rfl dX3_forget_40 ?_
  refine lv_eqi (show nI 13 = 13 from rfl) ?_
  refine lv_icmp_ge (tgt := 57) hx hb dX3_forget_41 (by decide) (fun h16 => absurd h16 (by decide)) (fun h16 => ?_)
  refine lv_aload_n hx hb dX3_forget_44 rfl (lv_at hl 1 rfl) ?_
  refine g_get X w 229 (F.1 229 (by have := Wx.1; omega) rfl) (by have := Wx.1; omega) (Wx.o xm_229) kc3 7 (by decide) rfl k_RX3_37 (v := .ref (ad8 245)) rfl dX3_forget_45 ?_
  refine lv_eqr (F.1 245 (by have := Wx.1; omega) rfl) ?_
  refine lv_iload_n hx hb dX3_forget_48 rfl (lv_at hl 0 rfl) ?_
  refine lv_iconst (v := 0) hx hb dX3_forget_49 (by decide) ?_
  refine x_ist X w Wx xa_245 (by decide) (F.1 245 (by have := Wx.1; omega) rfl) (x := 3) (by unfold vp_in; decide) (i := 3) rfl dX3_forget_50 (fun H locs cl17 w Wx F9 => ?_)
  have F := F.tr F9
  refine lv_iinc (v := 4) (lv' := [(1, .int (4)), (0, .ref (ad 229))]) hx hb dX3_forget_51 hl (k := 0) rfl (by decide) (by decide) rfl (fun ls hl => ?_)
  refine lv_goto (tgt := 35) hx hb dX3_forget_54 (by decide) ?_
  refine lv_iload_n hx hb dX3_forget_35 rfl (lv_at hl 0 rfl) ?_
  refine lv_aload_n hx hb dX3_forget_36 rfl (lv_at hl 1 rfl) ?_
  refine g_get X w 229 (F.1 229 (by have := Wx.1; omega) rfl) (by have := Wx.1; omega) (Wx.o xm_229) kc3 7 (by decide) rfl k_RX3_37 (v := .ref (ad8 245)) rfl dX3_forget_37 ?_
  refine lv_eqr (F.1 245 (by have := Wx.1; omega) rfl) ?_
  refine g_alen X w 245 (F.1 245 (by have := Wx.1; omega) rfl) (by have := Wx.1; omega) (Wx.a xa_245) rfl dX3_forget_40 ?_
  refine lv_eqi (show nI 13 = 13 from rfl) ?_
  refine lv_icmp_ge (tgt := 57) hx hb dX3_forget_41 (by decide) (fun h18 => absurd h18 (by decide)) (fun h18 => ?_)
  refine lv_aload_n hx hb dX3_forget_44 rfl (lv_at hl 1 rfl) ?_
  refine g_get X w 229 (F.1 229 (by have := Wx.1; omega) rfl) (by have := Wx.1; omega) (Wx.o xm_229) kc3 7 (by decide) rfl k_RX3_37 (v := .ref (ad8 245)) rfl dX3_forget_45 ?_
  refine lv_eqr (F.1 245 (by have := Wx.1; omega) rfl) ?_
  refine lv_iload_n hx hb dX3_forget_48 rfl (lv_at hl 0 rfl) ?_
  refine lv_iconst (v := 0) hx hb dX3_forget_49 (by decide) ?_
  refine x_ist X w Wx xa_245 (by decide) (F.1 245 (by have := Wx.1; omega) rfl) (x := 4) (by unfold vp_in; decide) (i := 4) rfl dX3_forget_50 (fun H locs cl19 w Wx F9 => ?_)
  have F := F.tr F9
  refine lv_iinc (v := 5) (lv' := [(1, .int (5)), (0, .ref (ad 229))]) hx hb dX3_forget_51 hl (k := 0) rfl (by decide) (by decide) rfl (fun ls hl => ?_)
  refine lv_goto (tgt := 35) hx hb dX3_forget_54 (by decide) ?_
  refine lv_iload_n hx hb dX3_forget_35 rfl (lv_at hl 0 rfl) ?_
  refine lv_aload_n hx hb dX3_forget_36 rfl (lv_at hl 1 rfl) ?_
  refine g_get X w 229 (F.1 229 (by have := Wx.1; omega) rfl) (by have := Wx.1; omega) (Wx.o xm_229) kc3 7 (by decide) rfl k_RX3_37 (v := .ref (ad8 245)) rfl dX3_forget_37 ?_
  refine lv_eqr (F.1 245 (by have := Wx.1; omega) rfl) ?_
  refine g_alen X w 245 (F.1 245 (by have := Wx.1; omega) rfl) (by have := Wx.1; omega) (Wx.a xa_245) rfl dX3_forget_40 ?_
  refine lv_eqi (show nI 13 = 13 from rfl) ?_
  refine lv_icmp_ge (tgt := 57) hx hb dX3_forget_41 (by decide) (fun h20 => absurd h20 (by decide)) (fun h20 => ?_)
  refine lv_aload_n hx hb dX3_forget_44 rfl (lv_at hl 1 rfl) ?_
  refine g_get X w 229 (F.1 229 (by have := Wx.1; omega) rfl) (by have := Wx.1; omega) (Wx.o xm_229) kc3 7 (by decide) rfl k_RX3_37 (v := .ref (ad8 245)) rfl dX3_forget_45 ?_
  refine lv_eqr (F.1 245 (by have := Wx.1; omega) rfl) ?_
  refine lv_iload_n hx hb dX3_forget_48 rfl (lv_at hl 0 rfl) ?_
  refine lv_iconst (v := 0) hx hb dX3_forget_49 (by decide) ?_
  refine x_ist X w Wx xa_245 (by decide) (F.1 245 (by have := Wx.1; omega) rfl) (x := 5) (by unfold vp_in; decide) (i := 5) rfl dX3_forget_50 (fun H locs cl21 w Wx F9 => ?_)
  have F := F.tr F9
  refine lv_iinc (v := 6) (lv' := [(1, .int (6)), (0, .ref (ad 229))]) hx hb dX3_forget_51 hl (k := 0) rfl (by decide) (by decide) rfl (fun ls hl => ?_)
  refine lv_goto (tgt := 35) hx hb dX3_forget_54 (by decide) ?_
  refine lv_iload_n hx hb dX3_forget_35 rfl (lv_at hl 0 rfl) ?_
  refine lv_aload_n hx hb dX3_forget_36 rfl (lv_at hl 1 rfl) ?_
  refine g_get X w 229 (F.1 229 (by have := Wx.1; omega) rfl) (by have := Wx.1; omega) (Wx.o xm_229) kc3 7 (by decide) rfl k_RX3_37 (v := .ref (ad8 245)) rfl dX3_forget_37 ?_
  refine lv_eqr (F.1 245 (by have := Wx.1; omega) rfl) ?_
  refine g_alen X w 245 (F.1 245 (by have := Wx.1; omega) rfl) (by have := Wx.1; omega) (Wx.a xa_245) rfl dX3_forget_40 ?_
  refine lv_eqi (show nI 13 = 13 from rfl) ?_
  refine lv_icmp_ge (tgt := 57) hx hb dX3_forget_41 (by decide) (fun h22 => absurd h22 (by decide)) (fun h22 => ?_)
  refine lv_aload_n hx hb dX3_forget_44 rfl (lv_at hl 1 rfl) ?_
  refine g_get X w 229 (F.1 229 (by have := Wx.1; omega) rfl) (by have := Wx.1; omega) (Wx.o xm_229) kc3 7 (by decide) rfl k_RX3_37 (v := .ref (ad8 245)) rfl dX3_forget_45 ?_
  refine lv_eqr (F.1 245 (by have := Wx.1; omega) rfl) ?_
  refine lv_iload_n hx hb dX3_forget_48 rfl (lv_at hl 0 rfl) ?_
  refine lv_iconst (v := 0) hx hb dX3_forget_49 (by decide) ?_
  refine x_ist X w Wx xa_245 (by decide) (F.1 245 (by have := Wx.1; omega) rfl) (x := 6) (by unfold vp_in; decide) (i := 6) rfl dX3_forget_50 (fun H locs cl23 w Wx F9 => ?_)
  have F := F.tr F9
  refine lv_iinc (v := 7) (lv' := [(1, .int (7)), (0, .ref (ad 229))]) hx hb dX3_forget_51 hl (k := 0) rfl (by decide) (by decide) rfl (fun ls hl => ?_)
  refine lv_goto (tgt := 35) hx hb dX3_forget_54 (by decide) ?_
  refine lv_iload_n hx hb dX3_forget_35 rfl (lv_at hl 0 rfl) ?_
  refine lv_aload_n hx hb dX3_forget_36 rfl (lv_at hl 1 rfl) ?_
  refine g_get X w 229 (F.1 229 (by have := Wx.1; omega) rfl) (by have := Wx.1; omega) (Wx.o xm_229) kc3 7 (by decide) rfl k_RX3_37 (v := .ref (ad8 245)) rfl dX3_forget_37 ?_
  refine lv_eqr (F.1 245 (by have := Wx.1; omega) rfl) ?_
  refine g_alen X w 245 (F.1 245 (by have := Wx.1; omega) rfl) (by have := Wx.1; omega) (Wx.a xa_245) rfl dX3_forget_40 ?_
  refine lv_eqi (show nI 13 = 13 from rfl) ?_
  refine lv_icmp_ge (tgt := 57) hx hb dX3_forget_41 (by decide) (fun h24 => absurd h24 (by decide)) (fun h24 => ?_)
  refine lv_aload_n hx hb dX3_forget_44 rfl (lv_at hl 1 rfl) ?_
  refine g_get X w 229 (F.1 229 (by have := Wx.1; omega) rfl) (by have := Wx.1; omega) (Wx.o xm_229) kc3 7 (by decide) rfl k_RX3_37 (v := .ref (ad8 245)) rfl dX3_forget_45 ?_
  refine lv_eqr (F.1 245 (by have := Wx.1; omega) rfl) ?_
  refine lv_iload_n hx hb dX3_forget_48 rfl (lv_at hl 0 rfl) ?_
  refine lv_iconst (v := 0) hx hb dX3_forget_49 (by decide) ?_
  refine x_ist X w Wx xa_245 (by decide) (F.1 245 (by have := Wx.1; omega) rfl) (x := 7) (by unfold vp_in; decide) (i := 7) rfl dX3_forget_50 (fun H locs cl25 w Wx F9 => ?_)
  have F := F.tr F9
  refine lv_iinc (v := 8) (lv' := [(1, .int (8)), (0, .ref (ad 229))]) hx hb dX3_forget_51 hl (k := 0) rfl (by decide) (by decide) rfl (fun ls hl => ?_)
  refine lv_goto (tgt := 35) hx hb dX3_forget_54 (by decide) ?_
  refine lv_iload_n hx hb dX3_forget_35 rfl (lv_at hl 0 rfl) ?_
  refine lv_aload_n hx hb dX3_forget_36 rfl (lv_at hl 1 rfl) ?_
  refine g_get X w 229 (F.1 229 (by have := Wx.1; omega) rfl) (by have := Wx.1; omega) (Wx.o xm_229) kc3 7 (by decide) rfl k_RX3_37 (v := .ref (ad8 245)) rfl dX3_forget_37 ?_
  refine lv_eqr (F.1 245 (by have := Wx.1; omega) rfl) ?_
  refine g_alen X w 245 (F.1 245 (by have := Wx.1; omega) rfl) (by have := Wx.1; omega) (Wx.a xa_245) rfl dX3_forget_40 ?_
  refine lv_eqi (show nI 13 = 13 from rfl) ?_
  refine lv_icmp_ge (tgt := 57) hx hb dX3_forget_41 (by decide) (fun h26 => absurd h26 (by decide)) (fun h26 => ?_)
  refine lv_aload_n hx hb dX3_forget_44 rfl (lv_at hl 1 rfl) ?_
  refine g_get X w 229 (F.1 229 (by have := Wx.1; omega) rfl) (by have := Wx.1; omega) (Wx.o xm_229) kc3 7 (by decide) rfl k_RX3_37 (v := .ref (ad8 245)) rfl dX3_forget_45 ?_
  refine lv_eqr (F.1 245 (by have := Wx.1; omega) rfl) ?_
  refine lv_iload_n hx hb dX3_forget_48 rfl (lv_at hl 0 rfl) ?_
  refine lv_iconst (v := 0) hx hb dX3_forget_49 (by decide) ?_
  refine x_ist X w Wx xa_245 (by decide) (F.1 245 (by have := Wx.1; omega) rfl) (x := 8) (by unfold vp_in; decide) (i := 8) rfl dX3_forget_50 (fun H locs cl27 w Wx F9 => ?_)
  have F := F.tr F9
  refine lv_iinc (v := 9) (lv' := [(1, .int (9)), (0, .ref (ad 229))]) hx hb dX3_forget_51 hl (k := 0) rfl (by decide) (by decide) rfl (fun ls hl => ?_)
  refine lv_goto (tgt := 35) hx hb dX3_forget_54 (by decide) ?_
  refine lv_iload_n hx hb dX3_forget_35 rfl (lv_at hl 0 rfl) ?_
  refine lv_aload_n hx hb dX3_forget_36 rfl (lv_at hl 1 rfl) ?_
  refine g_get X w 229 (F.1 229 (by have := Wx.1; omega) rfl) (by have := Wx.1; omega) (Wx.o xm_229) kc3 7 (by decide) rfl k_RX3_37 (v := .ref (ad8 245)) rfl dX3_forget_37 ?_
  refine lv_eqr (F.1 245 (by have := Wx.1; omega) rfl) ?_
  refine g_alen X w 245 (F.1 245 (by have := Wx.1; omega) rfl) (by have := Wx.1; omega) (Wx.a xa_245) rfl dX3_forget_40 ?_
  refine lv_eqi (show nI 13 = 13 from rfl) ?_
  refine lv_icmp_ge (tgt := 57) hx hb dX3_forget_41 (by decide) (fun h28 => absurd h28 (by decide)) (fun h28 => ?_)
  refine lv_aload_n hx hb dX3_forget_44 rfl (lv_at hl 1 rfl) ?_
  refine g_get X w 229 (F.1 229 (by have := Wx.1; omega) rfl) (by have := Wx.1; omega) (Wx.o xm_229) kc3 7 (by decide) rfl k_RX3_37 (v := .ref (ad8 245)) rfl dX3_forget_45 ?_
  refine lv_eqr (F.1 245 (by have := Wx.1; omega) rfl) ?_
  refine lv_iload_n hx hb dX3_forget_48 rfl (lv_at hl 0 rfl) ?_
  refine lv_iconst (v := 0) hx hb dX3_forget_49 (by decide) ?_
  refine x_ist X w Wx xa_245 (by decide) (F.1 245 (by have := Wx.1; omega) rfl) (x := 9) (by unfold vp_in; decide) (i := 9) rfl dX3_forget_50 (fun H locs cl29 w Wx F9 => ?_)
  have F := F.tr F9
  refine lv_iinc (v := 10) (lv' := [(1, .int (10)), (0, .ref (ad 229))]) hx hb dX3_forget_51 hl (k := 0) rfl (by decide) (by decide) rfl (fun ls hl => ?_)
  refine lv_goto (tgt := 35) hx hb dX3_forget_54 (by decide) ?_
  refine lv_iload_n hx hb dX3_forget_35 rfl (lv_at hl 0 rfl) ?_
  refine lv_aload_n hx hb dX3_forget_36 rfl (lv_at hl 1 rfl) ?_
  refine g_get X w 229 (F.1 229 (by have := Wx.1; omega) rfl) (by have := Wx.1; omega) (Wx.o xm_229) kc3 7 (by decide) rfl k_RX3_37 (v := .ref (ad8 245)) rfl dX3_forget_37 ?_
  refine lv_eqr (F.1 245 (by have := Wx.1; omega) rfl) ?_
  refine g_alen X w 245 (F.1 245 (by have := Wx.1; omega) rfl) (by have := Wx.1; omega) (Wx.a xa_245) rfl dX3_forget_40 ?_
  refine lv_eqi (show nI 13 = 13 from rfl) ?_
  refine lv_icmp_ge (tgt := 57) hx hb dX3_forget_41 (by decide) (fun h30 => absurd h30 (by decide)) (fun h30 => ?_)
  refine lv_aload_n hx hb dX3_forget_44 rfl (lv_at hl 1 rfl) ?_
  refine g_get X w 229 (F.1 229 (by have := Wx.1; omega) rfl) (by have := Wx.1; omega) (Wx.o xm_229) kc3 7 (by decide) rfl k_RX3_37 (v := .ref (ad8 245)) rfl dX3_forget_45 ?_
  refine lv_eqr (F.1 245 (by have := Wx.1; omega) rfl) ?_
  refine lv_iload_n hx hb dX3_forget_48 rfl (lv_at hl 0 rfl) ?_
  refine lv_iconst (v := 0) hx hb dX3_forget_49 (by decide) ?_
  refine x_ist X w Wx xa_245 (by decide) (F.1 245 (by have := Wx.1; omega) rfl) (x := 10) (by unfold vp_in; decide) (i := 10) rfl dX3_forget_50 (fun H locs cl31 w Wx F9 => ?_)
  have F := F.tr F9
  refine lv_iinc (v := 11) (lv' := [(1, .int (11)), (0, .ref (ad 229))]) hx hb dX3_forget_51 hl (k := 0) rfl (by decide) (by decide) rfl (fun ls hl => ?_)
  refine lv_goto (tgt := 35) hx hb dX3_forget_54 (by decide) ?_
  refine lv_iload_n hx hb dX3_forget_35 rfl (lv_at hl 0 rfl) ?_
  refine lv_aload_n hx hb dX3_forget_36 rfl (lv_at hl 1 rfl) ?_
  refine g_get X w 229 (F.1 229 (by have := Wx.1; omega) rfl) (by have := Wx.1; omega) (Wx.o xm_229) kc3 7 (by decide) rfl k_RX3_37 (v := .ref (ad8 245)) rfl dX3_forget_37 ?_
  refine lv_eqr (F.1 245 (by have := Wx.1; omega) rfl) ?_
  refine g_alen X w 245 (F.1 245 (by have := Wx.1; omega) rfl) (by have := Wx.1; omega) (Wx.a xa_245) rfl dX3_forget_40 ?_
  refine lv_eqi (show nI 13 = 13 from rfl) ?_
  refine lv_icmp_ge (tgt := 57) hx hb dX3_forget_41 (by decide) (fun h32 => absurd h32 (by decide)) (fun h32 => ?_)
  refine lv_aload_n hx hb dX3_forget_44 rfl (lv_at hl 1 rfl) ?_
  refine g_get X w 229 (F.1 229 (by have := Wx.1; omega) rfl) (by have := Wx.1; omega) (Wx.o xm_229) kc3 7 (by decide) rfl k_RX3_37 (v := .ref (ad8 245)) rfl dX3_forget_45 ?_
  refine lv_eqr (F.1 245 (by have := Wx.1; omega) rfl) ?_
  refine lv_iload_n hx hb dX3_forget_48 rfl (lv_at hl 0 rfl) ?_
  refine lv_iconst (v := 0) hx hb dX3_forget_49 (by decide) ?_
  refine x_ist X w Wx xa_245 (by decide) (F.1 245 (by have := Wx.1; omega) rfl) (x := 11) (by unfold vp_in; decide) (i := 11) rfl dX3_forget_50 (fun H locs cl33 w Wx F9 => ?_)
  have F := F.tr F9
  refine lv_iinc (v := 12) (lv' := [(1, .int (12)), (0, .ref (ad 229))]) hx hb dX3_forget_51 hl (k := 0) rfl (by decide) (by decide) rfl (fun ls hl => ?_)
  refine lv_goto (tgt := 35) hx hb dX3_forget_54 (by decide) ?_
  refine lv_iload_n hx hb dX3_forget_35 rfl (lv_at hl 0 rfl) ?_
  refine lv_aload_n hx hb dX3_forget_36 rfl (lv_at hl 1 rfl) ?_
  refine g_get X w 229 (F.1 229 (by have := Wx.1; omega) rfl) (by have := Wx.1; omega) (Wx.o xm_229) kc3 7 (by decide) rfl k_RX3_37 (v := .ref (ad8 245)) rfl dX3_forget_37 ?_
  refine lv_eqr (F.1 245 (by have := Wx.1; omega) rfl) ?_
  refine g_alen X w 245 (F.1 245 (by have := Wx.1; omega) rfl) (by have := Wx.1; omega) (Wx.a xa_245) rfl dX3_forget_40 ?_
  refine lv_eqi (show nI 13 = 13 from rfl) ?_
  refine lv_icmp_ge (tgt := 57) hx hb dX3_forget_41 (by decide) (fun h34 => absurd h34 (by decide)) (fun h34 => ?_)
  refine lv_aload_n hx hb dX3_forget_44 rfl (lv_at hl 1 rfl) ?_
  refine g_get X w 229 (F.1 229 (by have := Wx.1; omega) rfl) (by have := Wx.1; omega) (Wx.o xm_229) kc3 7 (by decide) rfl k_RX3_37 (v := .ref (ad8 245)) rfl dX3_forget_45 ?_
  refine lv_eqr (F.1 245 (by have := Wx.1; omega) rfl) ?_
  refine lv_iload_n hx hb dX3_forget_48 rfl (lv_at hl 0 rfl) ?_
  refine lv_iconst (v := 0) hx hb dX3_forget_49 (by decide) ?_
  refine x_ist X w Wx xa_245 (by decide) (F.1 245 (by have := Wx.1; omega) rfl) (x := 12) (by unfold vp_in; decide) (i := 12) rfl dX3_forget_50 (fun H locs cl35 w Wx F9 => ?_)
  have F := F.tr F9
  refine lv_iinc (v := 13) (lv' := [(1, .int (13)), (0, .ref (ad 229))]) hx hb dX3_forget_51 hl (k := 0) rfl (by decide) (by decide) rfl (fun ls hl => ?_)
  refine lv_goto (tgt := 35) hx hb dX3_forget_54 (by decide) ?_
  refine lv_iload_n hx hb dX3_forget_35 rfl (lv_at hl 0 rfl) ?_
  refine lv_aload_n hx hb dX3_forget_36 rfl (lv_at hl 1 rfl) ?_
  refine g_get X w 229 (F.1 229 (by have := Wx.1; omega) rfl) (by have := Wx.1; omega) (Wx.o xm_229) kc3 7 (by decide) rfl k_RX3_37 (v := .ref (ad8 245)) rfl dX3_forget_37 ?_
  refine lv_eqr (F.1 245 (by have := Wx.1; omega) rfl) ?_
  refine g_alen X w 245 (F.1 245 (by have := Wx.1; omega) rfl) (by have := Wx.1; omega) (Wx.a xa_245) rfl dX3_forget_40 ?_
  refine lv_eqi (show nI 13 = 13 from rfl) ?_
  refine lv_icmp_ge (tgt := 57) hx hb dX3_forget_41 (by decide) (fun h36 => ?_) (fun h36 => absurd (by decide) h36)
  simp only [va_up_self, bx_uu] at Wx
  exact e_V X hr w ⟨ad8, cl35, rfl, Wx, F⟩ (Nat.le_of_ble_eq_true rfl) (Nat.le_of_ble_eq_true rfl) dX3_forget_57
