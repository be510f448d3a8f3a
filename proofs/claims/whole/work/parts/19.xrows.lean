/-! x's cells and what stays: only arrays of rows move -/
def rowArr (z : Nat) : Bool := xRows.any (fun q => decide (z = q + 1))
def FrX (N : Nat) (ad : Nat → Nat) (cl : Nat → va_E) (ad' : Nat → Nat) (cl' : Nat → va_E) : Prop := (∀ z, z < N → rowArr z = false → ad' z = ad z) ∧ ∀ z, z < N → 242 ≤ z → cl' z = cl z
theorem FrX.rf {N : Nat} {ad : Nat → Nat} {cl : Nat → va_E} : FrX N ad cl ad cl := ⟨fun _ _ _ => rfl, fun _ _ _ => rfl⟩
theorem FrX.tr {N : Nat} {ad ad1 ad2 : Nat → Nat} {cl cl1 cl2 : Nat → va_E} (h : FrX N ad cl ad1 cl1) (h' : FrX N ad1 cl1 ad2 cl2) : FrX N ad cl ad2 cl2 := ⟨fun z h0 hk => (h'.1 z h0 hk).trans (h.1 z h0 hk), fun z h0 h1 => (h'.2 z h0 h1).trans (h.2 z h0 h1)⟩
theorem FrX.of {N q : Nat} {ad ad' : Nat → Nat} {cl cl' : Nat → va_E} (hq : q ∈ xRows) (h : FrR N q ad cl ad' cl') : FrX N ad cl ad' cl' := by
  have ok := okRow hq
  simp only [okRowB, Bool.and_eq_true, decide_eq_true_eq] at ok
  refine ⟨fun z hz hr => h.1 z hz (fun e => ?_), fun z hz h2 => h.2 z hz (by omega) (by omega)⟩
  have : rowArr z = true := List.any_eq_true.mpr ⟨q, hq, by simp [e]⟩
  rw [hr] at this
  cases this
theorem FrX.put {N z : Nat} {ad : Nat → Nat} {cl : Nat → va_E} {e : va_E} (hz : z < 242) : FrX N ad cl ad (va_up cl z e) := ⟨fun _ _ _ => rfl, fun k _ hk => va_up_ne _ _ (by omega)⟩
section
variable {p : Program} {l : Launch} {e : Env} {R : Room} {s : State} {m : MethodId} {args : Array Value} {below : List Frame} {meth : Method} {c : Code} {H : Heap} {locs : List Loc} {cells slots : Nat} {Q : State → Prop} {pc : Nat} {ls : Array Slot} {rest : List Value}
theorem lv_eqr {a b : Nat} (h : a = b) (k : W p l e R s m args below meth c H locs cells slots Q (F0 m pc ls (.ref b :: rest))) : W p l e R s m args below meth c H locs cells slots Q (F0 m pc ls (.ref a :: rest)) := by rw [h]; exact k
end
/-- rows that are emptied -/
def clr (xs : Nat → List Int32) (L : List Nat) : Nat → List Int32 := fun q => if q ∈ L then [] else xs q
theorem va_up_id {α : Type} (f : Nat → α) (k : Nat) : va_up f k (f k) = f := by
  funext j
  by_cases h : j = k
  · subst h; rw [va_up_self]
  · rw [va_up_ne _ _ h]
theorem clr_up (xs : Nat → List Int32) (L : List Nat) (q : Nat) : va_up (clr xs L) q [] = clr xs (q :: L) := by
  funext j
  by_cases h : j = q
  · subst h; rw [va_up_self, clr, if_pos List.mem_cons_self]
  · rw [va_up_ne _ _ h, clr, clr]
    by_cases hL : j ∈ L
    · rw [if_pos hL, if_pos (List.mem_cons_of_mem _ hL)]
    · rw [if_neg hL, if_neg (fun hm => (List.mem_cons.mp hm).elim h hL)]
theorem clr_nil (xs : Nat → List Int32) : clr xs [] = xs := by funext j; rw [clr, if_neg List.not_mem_nil]
abbrev cX8_clear : ByteArray := prog_10_method_2_code
def yX8_clear : MethodName := ⟨RX8, "clear", "()V"⟩
theorem wcX8_clear : Cond.code yX8_clear cX8_clear 1 none ∈ tb := tb_3 (i := 235) rfl rfl
theorem wnX8_clear : Cond.instanceMethod yX8_clear ∈ tb := tb_3 (i := 233) (by decide +kernel) rfl
theorem wlX8_clear : Cond.selects RX8 yX8_clear yX8_clear ∈ tb := tb_3 (i := 234) (by decide +kernel) rfl
theorem YX8_clear : Yv yX8_clear cX8_clear 1 none 0 := ⟨wcX8_clear, wlX8_clear, wnX8_clear, wi_8, by decide +kernel, by decide +kernel, by decide +kernel⟩
theorem dX8_clear_0 : decode cX8_clear 0 = .ok (.aload_n 0, 1) := by decide +kernel
theorem dX8_clear_1 : decode cX8_clear 1 = .ok (.getfield 12, 3) := by decide +kernel
theorem dX8_clear_4 : decode cX8_clear 4 = .ok (.invokevirtual 21, 3) := by decide +kernel
theorem dX8_clear_7 : decode cX8_clear 7 = .ok (.aload_n 0, 1) := by decide +kernel
theorem dX8_clear_8 : decode cX8_clear 8 = .ok (.getfield 18, 3) := by decide +kernel
theorem dX8_clear_11 : decode cX8_clear 11 = .ok (.invokevirtual 21, 3) := by decide +kernel
theorem dX8_clear_14 : decode cX8_clear 14 = .ok (.return_, 1) := by decide +kernel
theorem k_RX8_21 : Cond.methodLink RX8 21 yX5_clear ∈ tb := tb_3 (i := 236) (by decide +kernel) rfl
set_option maxHeartbeats 4000000 in
set_option maxRecDepth 100000 in
theorem cx_8_clear_25 (l : Launch) (D : va_G) (G : Nat → ClassId) (t : Nat → Nat) (N : Nat) (ad : Nat → Nat) (cl : Nat → va_E) (c : Nat → Nat) (xs : Nat → List Int32) (v : Nat → Nat → Int32) (g : Nat → Nat → Int32) (nb : Nat → Nat) (Wx : XW G N ad cl c xs v g nb) (d : Nat) (hd : 2 ≤ d) : CtV l yX8_clear cX8_clear 1 (rmD d 0 0) D G t (N, ad, cl) [.ref (ad 25)] (fun u => ∃ ad' cl', u = (N, ad', cl') ∧ XW G N ad' cl' c (clr xs [28, 26]) v g nb ∧ FrX N ad cl ad' cl') := by
  refine ct_V (own := RX8) (by decide +kernel) rfl (Nat.le_of_ble_eq_true rfl) rfl ?_
  intro p e s m args below meth cd A ls X hr hin hl w
  obtain ⟨hx, hb, hml, hown, hts, -⟩ := id X
  have hl : lv_has ls 1 [(0, .ref (ad 25))] := hl
  have F : FrX N ad cl ad cl := FrX.rf
  refine lv_aload_n hx hb dX8_clear_0 rfl (lv_at hl 0 rfl) ?_
  refine g_get X w 25 rfl (by have := Wx.1; omega) (Wx.o xm_25) kc8 0 (by decide) rfl k_RX8_12 (v := .ref (ad 26)) rfl dX8_clear_1 ?_
  refine c_V (As := []) (rest := []) X w (ct_X5_clear l D G t N ad cl 26 _ _ (Wx.2.1 26 (by decide +kernel)) (d - 1)) YX5_clear k_RX8_21 (26) rfl (by have := Wx.1; omega) (Wx.2.1 26 (by decide +kernel)).2.1 kc5 (rfl) rfl rfl hl.1 (rm_call (by omega) (by decide)) (Nat.le_of_ble_eq_true rfl) dX8_clear_4 (⟨Nat.zero_le _, Nat.zero_le _⟩) (fun u H locs hp w => ?_)
  obtain ⟨ad1, cl2, rfl, hR9, hF9⟩ := hp
  have w : Wd D A s H locs N ad1 cl2 := w
  have Wx := Wx.row (q := 26) (by decide +kernel) hF9 hR9
  have F : FrX N ad cl ad1 cl2 := F.tr (FrX.of (q := 26) (by decide +kernel) hF9)
  refine lv_aload_n hx hb dX8_clear_7 rfl (lv_at hl 0 rfl) ?_
  refine g_get X w 25 (F.1 25 (by have := Wx.1; omega) rfl) (by have := Wx.1; omega) (Wx.o xm_25) kc8 1 (by decide) rfl k_RX8_18 (v := .ref (ad1 28)) rfl dX8_clear_8 ?_
  refine lv_eqr (F.1 28 (by have := Wx.1; omega) rfl) ?_
  refine c_V (As := []) (rest := []) X w (ct_X5_clear l D G t N ad1 cl2 28 _ _ (Wx.2.1 28 (by decide +kernel)) (d - 1)) YX5_clear k_RX8_21 (28) (F.1 28 (by have := Wx.1; omega) rfl) (by have := Wx.1; omega) (Wx.2.1 28 (by decide +kernel)).2.1 kc5 (by rw [(F.1 28 (by have := Wx.1; omega) rfl)]) rfl rfl hl.1 (rm_call (by omega) (by decide)) (Nat.le_of_ble_eq_true rfl) dX8_clear_11 (⟨Nat.zero_le _, Nat.zero_le _⟩) (fun u H locs hp w => ?_)
  obtain ⟨ad3, cl4, rfl, hR9, hF9⟩ := hp
  have w : Wd D A s H locs N ad3 cl4 := w
  have Wx := Wx.row (q := 28) (by decide +kernel) hF9 hR9
  have F : FrX N ad cl ad3 cl4 := F.tr (FrX.of (q := 28) (by decide +kernel) hF9)
  rw [va_up_id, va_up_id] at Wx
  rw [← clr_nil xs, clr_up, clr_up] at Wx
  exact e_V X hr w ⟨ad3, cl4, rfl, Wx, F⟩ (Nat.le_of_ble_eq_true rfl) (Nat.le_of_ble_eq_true rfl) dX8_clear_14
