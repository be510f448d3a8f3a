/-! THE LAW'S PROLOGUE: x, m and the long row are made; then comes the loop's head -/
section
variable {p : Program} {l : Launch} {e : Env} {R : Room} {s : State} {m : MethodId} {args : Array Value} {below : List Frame} {meth : Method} {c : Code} {H : Heap} {locs : List Loc} {cells slots : Nat} {Q : State → Prop} {pc : Nat} {ls : Array Slot} {rest : List Value}
variable {cc : ByteArray} {nL : Nat} {own : String} {D : va_G} {G : Nat → ClassId} {t : Nat → Nat} {A : Nat → Prop} {N : Nat} {ad : Nat → Nat} {cl : Nat → va_E}
theorem g_newJ (X : Cx p s m args meth c cc nL own D G t A) (w : Wd D A s H locs N ad cl) {x : Int32} {n : Nat} (hx0 : ¬ x < 0) (hxn : x.toNatClampNeg = n) (hby : n * 8 ≤ 536870912) (hcells : cells + 1 ≤ R.cells) (hslots : slots + n ≤ R.slots) (hdg : decode cc pc = .ok (.newarray .long, 2))
    (kk : ∀ (q : Nat) (H : Heap), Wd D A s H locs (N + 1) (va_up ad N q) (va_up cl N (.inl (G 3, n, .inr (.inl (fun _ => 0))))) → W p l e R s m args below meth c H locs (cells + 1) (slots + n) Q (F0 m (pc + 2) ls (.ref q :: rest))) : W p l e R s m args below meth c H locs cells slots Q (F0 m pc ls (.int x :: rest)) := by
  obtain ⟨hx, hb, hml, hown, hts, hK, hA, hZ, hN, hlo⟩ := X
  refine va_newa (D := D) (atype := .long) (a0 := (n, .inr (.inl (fun _ => 0)))) hx hb (hts _ wa_J) rfl hK w.1 w.2.1 w.2.2 hA (fun cA => rfl) hx0 hxn hby hcells hslots hdg (fun q cA H1 hK1 h1 h2 h3 => ?_)
  have e1 : cA = G 3 := arr_eq hK1 rfl (fun C h => by cases h)
  subst e1
  refine kk q H1 ⟨?_, ?_, h3⟩
  · rw [wd_push] at h1; exact h1
  · rw [wd_push] at h2; exact h2
end
theorem Wd.none {D : va_G} {A : Nat → Prop} {s : State} : Wd D A s s.heap [] 0 (fun _ => 0) (fun _ => .inr (0, [])) := ⟨fun k q h => by simp [wd] at h, ⟨fun i j x y h => by simp [wd] at h, fun k q h => by simp [wd] at h⟩, va_S.rf⟩
theorem dL_law_0 : decode code 0 = .ok (.new 8, 3) := by decide +kernel
theorem dL_law_3 : decode code 3 = .ok (.dup, 1) := by decide +kernel
theorem dL_law_4 : decode code 4 = .ok (.invokespecial 46, 3) := by decide +kernel
theorem dL_law_7 : decode code 7 = .ok (.astore_n 1, 1) := by decide +kernel
theorem dL_law_8 : decode code 8 = .ok (.new 47, 3) := by decide +kernel
theorem dL_law_11 : decode code 11 = .ok (.dup, 1) := by decide +kernel
theorem dL_law_12 : decode code 12 = .ok (.invokespecial 49, 3) := by decide +kernel
theorem dL_law_15 : decode code 15 = .ok (.astore_n 2, 1) := by decide +kernel
theorem dL_law_16 : decode code 16 = .ok (.iconst 1, 1) := by decide +kernel
theorem dL_law_17 : decode code 17 = .ok (.newarray .long, 2) := by decide +kernel
theorem dL_law_19 : decode code 19 = .ok (.astore_n 3, 1) := by decide +kernel
theorem dL_law_20 : decode code 20 = .ok (.iconst 0, 1) := by decide +kernel
theorem dL_law_21 : decode code 21 = .ok (.istore 4, 2) := by decide +kernel
theorem bl_11 : ∀ j, j < 15 → defaultValue (tyX11 j) = vp_V [.null, .null, .null, .null, .null, .int 0, .int 0, .null, .null, .null, .null, .null, .null, .null, .int 0] j := by decide +kernel
theorem k_TypeRoomLaw_8 : Cond.classLink "TypeRoomLaw" 8 RX11 ∈ tb := tb_1 (i := 26) (by decide +kernel) rfl
theorem k_TypeRoomLaw_46 : Cond.methodLink "TypeRoomLaw" 46 yX11_init ∈ tb := tb_1 (i := 28) (by decide +kernel) rfl
theorem k_TypeRoomLaw_47 : Cond.classLink "TypeRoomLaw" 47 RX12 ∈ tb := tb_8 (i := 11) (by decide +kernel) rfl
theorem k_TypeRoomLaw_49 : Cond.methodLink "TypeRoomLaw" 49 yX12_init ∈ tb := tb_8 (i := 13) (by decide +kernel) rfl
set_option maxHeartbeats 4000000 in
set_option maxRecDepth 100000 in
theorem law_pro {p : Program} {e : Env} {s : State} {m : MethodId} {below : List Frame} {meth : Method} {c : Code} {l : Launch} {b : Nat} {D : va_G} {G : Nat → ClassId} {t : Nat → Nat} {Q : State → Prop} (X : Cx p s m #[Value.ref b] meth c code 7 R_law D G t (fun q => s.heap.size ≤ q))
    (kk : ∀ (ad : Nat → Nat) (cl : Nat → va_E) (H : Heap) (locs : List Loc) (ls : Array Slot), Wd D (fun q => s.heap.size ≤ q) s H locs 352 ad cl → XW G 352 ad cl c16 xs0 v0X g0X nb0 → MW G 352 ad cl 246 vM1 0 aM1 → cl 351 = .inl (G 3, 1, .inr (.inl (fun _ => 0))) → lv_has ls 7 [(4, .int 0), (3, .ref (ad 351)), (2, .ref (ad 246)), (1, .ref (ad 0)), (0, .ref b)] → W p l e room_1 s m #[Value.ref b] below meth c H locs 352 1603819 Q (F0 m 23 ls [])) :
    W p l e room_1 s m #[Value.ref b] below meth c s.heap [] 0 0 Q (entryFrame m ([Value.ref b] : List Value).toArray 7) := by
  obtain ⟨hx, hb, hml, hown, hts, -⟩ := id X
  have hl := lv_entry ([.ref b]) (n := 7) (Nat.le_of_ble_eq_true rfl)
  rw [lg_entry_eq]
  generalize (lg_sl ([.ref b]) ++ List.replicate (7 - (lg_sl ([.ref b])).length) Slot.unset).toArray = ls at hl ⊢
  have hl : lv_has ls 7 [(0, .ref b)] := hl
  refine g_new X Wd.none kc11 k_TypeRoomLaw_8 wt_11 wi_11 bl_11 (by decide) (by decide) dL_law_0 (fun q0 H w => ?_)
  generalize ea : va_up (fun _ => 0) 0 q0 = ad0 at w
  generalize ec : va_up (α := va_E) (fun _ => .inr (0, [])) 0 (.inr (11, [.null, .null, .null, .null, .null, .int 0, .int 0, .null, .null, .null, .null, .null, .null, .null, .int 0])) = cl0 at w
  have c0 : cl0 0 = .inr (11, [.null, .null, .null, .null, .null, .int 0, .int 0, .null, .null, .null, .null, .null, .null, .null, .int 0]) := by rw [← ec, va_up_self]
  have a0 : ad0 0 = q0 := by rw [← ea, va_up_self]
  refine lv_dup hx hb dL_law_3 rfl ?_
  refine c_init (As := []) (rest := [.ref q0]) X w (cn_11 l D G t 1 ad0 cl0 0 rfl c0 40 (by decide)) YX11_init k_TypeRoomLaw_46 (by rw [a0]) rfl rfl hl.1 ⟨by decide, by decide⟩ (Nat.le_of_ble_eq_true rfl) dL_law_4 ⟨by decide, by decide⟩ (fun u H locs hp w => ?_)
  obtain ⟨ad1, cl1, rfl, fa1, fc1, B1⟩ := hp
  have w : Wd D _ s H locs 246 ad1 cl1 := w
  have a1 : ad1 0 = q0 := (fa1 0 (by decide)).trans a0
  refine lv_astore_n (lv' := [(1, .ref q0), (0, .ref b)]) hx hb dL_law_7 rfl hl (by decide) rfl (fun ls hl => ?_)
  refine g_new X w kc12 k_TypeRoomLaw_47 wt_12 wi_12 bl_12 (by decide) (by decide) dL_law_8 (fun q1 H w => ?_)
  generalize ea2 : va_up ad1 246 q1 = ad2 at w
  generalize ec2 : va_up cl1 246 (.inr (12, fsOf (mfldJ (fun _ => 0) 0 v0M 0 0))) = cl2 at w
  have c2 : cl2 246 = .inr (12, fsOf (mfldJ (fun _ => 0) 0 v0M 0 0)) := by rw [← ec2, va_up_self]
  have a2 : ad2 246 = q1 := by rw [← ea2, va_up_self]
  have fa2 : ∀ k, k < 246 → ad2 k = ad1 k := fun k hk => by rw [← ea2, va_up_ne _ _ (by omega)]
  have fc2 : ∀ k, k < 246 → cl2 k = cl1 k := fun k hk => by rw [← ec2, va_up_ne _ _ (by omega)]
  refine lv_dup hx hb dL_law_11 rfl ?_
  refine c_init (As := []) (rest := [.ref q1]) X w (cn_12 l D G t 247 ad2 cl2 246 rfl c2 40 (by decide)) YX12_init k_TypeRoomLaw_49 (by rw [a2]) rfl rfl hl.1 ⟨by decide, by decide⟩ (Nat.le_of_ble_eq_true rfl) dL_law_12 ⟨by decide, by decide⟩ (fun u H locs hp w => ?_)
  obtain ⟨ad3, cl3, rfl, fa3, fc3, M⟩ := hp
  have w : Wd D _ s H locs 351 ad3 cl3 := w
  refine lv_astore_n (lv' := [(2, .ref q1), (1, .ref q0), (0, .ref b)]) hx hb dL_law_15 rfl hl (by decide) rfl (fun ls hl => ?_)
  refine lv_iconst (v := 1) hx hb dL_law_16 (by decide) ?_
  refine g_newJ X w (n := 1) (by decide) (by decide) (by decide) (by decide) (by decide) dL_law_17 (fun q2 H w => ?_)
  generalize ea4 : va_up ad3 351 q2 = ad4 at w
  generalize ec4 : va_up cl3 351 (.inl (G 3, 1, .inr (.inl (fun _ => 0)))) = cl4 at w
  have fa4 : ∀ k, k < 351 → ad4 k = ad3 k := fun k hk => by rw [← ea4, va_up_ne _ _ (by omega)]
  have fc4 : ∀ k, k < 351 → cl4 k = cl3 k := fun k hk => by rw [← ec4, va_up_ne _ _ (by omega)]
  have a4 : ad4 351 = q2 := by rw [← ea4, va_up_self]
  have c4 : cl4 351 = .inl (G 3, 1, .inr (.inl (fun _ => 0))) := by rw [← ec4, va_up_self]
  refine lv_astore_n (lv' := [(3, .ref q2), (2, .ref q1), (1, .ref q0), (0, .ref b)]) hx hb dL_law_19 rfl hl (by decide) rfl (fun ls hl => ?_)
  refine lv_iconst (v := 0) hx hb dL_law_20 (by decide) ?_
  refine lv_istore (lv' := [(4, .int 0), (3, .ref q2), (2, .ref q1), (1, .ref q0), (0, .ref b)]) hx hb dL_law_21 hl (by decide) rfl (fun ls hl => ?_)
  have FA : ∀ k, k < 246 → ad4 k = ad1 k := fun k hk => (fa4 k (by omega)).trans ((fa3 k (by omega)).trans (fa2 k hk))
  have FC : ∀ k, k < 246 → cl4 k = cl1 k := fun k hk => (fc4 k (by omega)).trans ((fc3 k hk).trans (fc2 k hk))
  have B : Blk cl4 0 (bX11 G ad4 0) := by
    rw [cg11 (n := 246) (Nat.le_refl _) (fun k h1 h2 => FA k (by omega))]
    exact B1.tr (n := 246) (Nat.le_of_eq ln11) (fun k h1 h2 => FC k (by omega))
  have M4 : MW G 352 ad4 cl4 246 vM1 0 aM1 := by
    obtain ⟨m1, m2, m3⟩ := M
    refine ⟨by decide, ?_, fun j hj => ?_⟩
    · rw [fc4 246 (by decide), m2]
      congr 2
      refine fsOf_congr (fun k _ => ?_)
      simp only [mfldJ]
      cases hm : mOff k with
      | none => rfl
      | some i =>
        by_cases hi : i < 104
        · simp only [hi, if_true]; rw [fa4 _ (by omega)]
        · simp only [hi, if_false]
    · rw [fc4 _ (by omega)]; exact m3 j hj
  refine W.widen (k := 352) (n := 1603819) (by decide) (by decide) ?_
  refine kk ad4 cl4 H _ ls w (xw_new (by decide) B) M4 c4 ?_
  have z0 : ad4 0 = q0 := (FA 0 (by decide)).trans a1
  have z1 : ad4 246 = q1 := (fa4 246 (by decide)).trans ((fa3 246 (by decide)).trans a2)
  rw [z0, z1, a4]
  exact hl
