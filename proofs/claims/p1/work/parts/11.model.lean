/-! TypeRoomModel, the reference: its object is cell o, its arrays are the cells behind it, in the order in which they are made -/
def fsOf (f : Nat → Value) : List Value := (List.range 164).map f
theorem fsOf_get {f : Nat → Value} {k : Nat} (h : k < 164) : (fsOf f)[k]? = some (f k) := by simp [fsOf, h]
theorem fsOf_len {f : Nat → Value} : (fsOf f).length = 164 := by simp [fsOf]
theorem fsOf_congr {f g : Nat → Value} (h : ∀ k, k < 164 → f k = g k) : fsOf f = fsOf g := List.map_congr_left (fun k hk => h k (List.mem_range.mp hk))
theorem fsOf_set {f : Nat → Value} {k : Nat} {v : Value} (h : k < 164) : (fsOf f).set k v = fsOf (va_up f k v) := by
  apply List.ext_getElem?
  intro j
  by_cases hj : j = k
  · subst hj
    rw [List.getElem?_set_self (by rw [fsOf_len]; exact h), fsOf_get h, va_up_self]
  · rw [List.getElem?_set_ne (Ne.symm hj)]
    by_cases hN : j < 164
    · rw [fsOf_get hN, fsOf_get hN, va_up_ne _ _ hj]
    · rw [List.getElem?_eq_none (by rw [fsOf_len]; omega), List.getElem?_eq_none (by rw [fsOf_len]; omega)]
theorem fsOf_V {f : Nat → Value} {k : Nat} (h : k < 164) : vp_V (fsOf f) k = f k := by simp [vp_V, List.getD_eq_getElem?_getD, fsOf_get h]
/-- which array a field holds -/
def mTabL : List (Option Nat) := [none, some 0, some 1, some 2, some 3, some 4, none, none, none, some 5, none, some 6, none, some 7, some 8, some 9, none, none, none, some 10, some 11, none, none, some 12, some 13, some 14, some 15, some 16, none, none, none, none, none, none, none, some 17, some 18, some 19, some 20, some 21, some 22, some 23, some 24, some 25, some 26, some 27, none, none, none, some 28, none, none, none, none, none, some 29, some 30, some 31, none, none, some 32, some 33, some 34, some 35, some 36, some 37, some 38, some 39, some 40, some 41, some 42, some 43, some 44, some 45, none, some 46, some 47, some 48, some 49, some 50, some 51, none, some 52, some 53, none, none, none, some 54, some 55, some 56, some 57, some 58, some 59, some 60, none, none, some 61, some 62, none, none, some 63, some 64, some 65, some 66, some 67, some 68, some 69, some 70, some 71, some 72, some 73, some 74, none, none, none, none, some 75, some 76, some 77, some 78, some 79, some 80, some 81, none, none, none, none, none, none, none, none, none, some 82, some 83, some 84, none, some 85, some 86, some 87, some 88, some 89, none, some 90, none, some 91, some 92, none, none, none, some 93, some 94, some 95, some 96, some 97, some 98, some 99, some 100, some 101, some 102, none, none, none, some 103, none]
def mOff (k : Nat) : Option Nat := mTabL.getD k none
def arrK (j : Nat) : Nat := ([1, 1, 1, 1, 0, 1, 0, 1, 1, 1, 1, 1, 0, 0, 0, 0, 0, 1, 0, 0, 0, 0, 1, 1, 0, 1, 2, 0, 0, 1, 0, 0, 1, 0, 1, 0, 0, 0, 0, 1, 0, 0, 0, 0, 0, 0, 1, 0, 0, 0, 0, 0, 0, 1, 0, 0, 0, 0, 0, 0, 0, 1, 1, 0, 0, 0, 2, 2, 0, 0, 0, 0, 0, 1, 0, 1, 1, 0, 0, 0, 2, 0, 1, 0, 0, 0, 0, 0, 0, 1, 1, 1, 1, 0, 0, 0, 0, 0, 0, 0, 0, 0, 0, 1] : List Nat).getD j 0
def arrL (j : Nat) : Nat := ([4000, 4000, 4100, 24000, 6, 8100, 4002, 140000, 140000, 140000, 70000, 70000, 400, 400, 400, 400, 40, 480, 40, 40, 40, 40, 1920, 2040, 120, 1440, 1500, 60, 13, 240, 20, 20, 1440, 120, 3840, 120, 120, 60, 2, 140000, 120, 120, 120, 120, 60, 2, 140000, 200, 200, 200, 100, 2, 4, 32, 60, 60, 60, 60, 300, 300, 300, 70000, 70000, 1501, 1501, 1501, 1501, 1501, 1501, 1501, 1501, 1501, 1501, 8000, 8000, 80000, 80000, 6100, 6100, 6100, 6100, 101, 80000, 6100, 6100, 6100, 6100, 6101, 6101, 70000, 64, 400, 400, 70000, 70000, 4200, 4200, 4002, 8, 8, 8, 44, 3, 64] : List Nat).getD j 0
def arrF (j : Nat) : Nat := ([1, 2, 3, 4, 5, 9, 11, 13, 14, 15, 19, 20, 23, 24, 25, 26, 27, 35, 36, 37, 38, 39, 40, 41, 42, 43, 44, 45, 49, 55, 56, 57, 60, 61, 62, 63, 64, 65, 66, 67, 68, 69, 70, 71, 72, 73, 75, 76, 77, 78, 79, 80, 82, 83, 87, 88, 89, 90, 91, 92, 93, 96, 97, 100, 101, 102, 103, 104, 105, 106, 107, 108, 109, 110, 111, 116, 117, 118, 119, 120, 121, 122, 132, 133, 134, 136, 137, 138, 139, 140, 142, 144, 145, 149, 150, 151, 152, 153, 154, 155, 156, 157, 158, 162] : List Nat).getD j 0
def mOkB (k : Nat) : Bool := match mOff k with
  | some i => decide (arrF i = k) && decide (i < 104)
  | none => true
theorem mOff_all : (List.range 164).all mOkB = true := by decide +kernel
theorem mOff_inv {k i : Nat} (hk : k < 164) (h : mOff k = some i) : arrF i = k ∧ i < 104 := by
  have h1 := List.all_eq_true.mp mOff_all k (List.mem_range.mpr hk)
  rw [mOkB, h] at h1
  simpa using h1
def mfldJ (ad : Nat → Nat) (o : Nat) (v : Nat → Int32) (lw : Int64) (j k : Nat) : Value := match mOff k with
  | some i => if i < j then .ref (ad (o + 1 + i)) else .null
  | none => if k = 159 then .long lw else .int (v k)
/-- the reference's picture: v its ints, lw its long, a its arrays -/
def MW (G : Nat → ClassId) (N : Nat) (ad : Nat → Nat) (cl : Nat → va_E) (o : Nat) (v : Nat → Int32) (lw : Int64) (a : Nat → Nat → Int32) : Prop :=
  o + 105 ≤ N ∧ cl o = .inr (12, fsOf (mfldJ ad o v lw 104)) ∧ ∀ j, j < 104 → cl (o + 1 + j) = .inl (G (arrK j), arrL j, .inl (a j))
theorem mf_int {ad : Nat → Nat} {o : Nat} {v : Nat → Int32} {lw : Int64} {j k : Nat} (h : mOff k = none) (h9 : k ≠ 159) : mfldJ ad o v lw j k = .int (v k) := by simp only [mfldJ, h]; rw [if_neg h9]
theorem mf_ref {ad : Nat → Nat} {o : Nat} {v : Nat → Int32} {lw : Int64} {j k i : Nat} (h : mOff k = some i) (hi : i < j) : mfldJ ad o v lw j k = .ref (ad (o + 1 + i)) := by simp only [mfldJ, h]; rw [if_pos hi]
theorem mf_puti {ad : Nat → Nat} {o : Nat} {v : Nat → Int32} {lw : Int64} {j k : Nat} {x : Int32} (h : mOff k = none) (h9 : k ≠ 159) : fsOf (va_up (mfldJ ad o v lw j) k (.int x)) = fsOf (mfldJ ad o (va_up v k x) lw j) := by
  apply fsOf_congr
  intro i _
  by_cases hi : i = k
  · subst hi
    rw [va_up_self, mf_int h h9, va_up_self]
  · rw [va_up_ne _ _ hi]
    simp only [mfldJ]
    cases mOff i <;> simp [va_up_ne _ _ hi]
theorem mf_putr {ad ad' : Nat → Nat} {o : Nat} {v : Nat → Int32} {lw : Int64} {j k q : Nat} (h : mOff k = some j) (hk : k < 164) (ha : ∀ i, i < j → ad' (o + 1 + i) = ad (o + 1 + i)) (hq : ad' (o + 1 + j) = q) : fsOf (va_up (mfldJ ad o v lw j) k (.ref q)) = fsOf (mfldJ ad' o v lw (j + 1)) := by
  apply fsOf_congr
  intro i hi
  by_cases hik : i = k
  · subst hik
    rw [va_up_self, mf_ref h (by omega), hq]
  · rw [va_up_ne _ _ hik]
    simp only [mfldJ]
    cases hm : mOff i with
    | none => rfl
    | some z =>
      have hz : z ≠ j := fun e => hik (by rw [← (mOff_inv hi hm).1, ← (mOff_inv hk h).1, e])
      by_cases hzj : z < j
      · simp [hzj, show z < j + 1 by omega, ha z hzj]
      · simp [hzj, show ¬ z < j + 1 by omega]
theorem wa_B : Cond.arrayClass .byte ∈ tb := tb_7 (i := 43) (by decide +kernel) rfl
theorem wa_Z : Cond.arrayClass .boolean ∈ tb := tb_10 (i := 36) (by decide +kernel) rfl
section
variable {p : Program} {l : Launch} {e : Env} {R : Room} {s : State} {m : MethodId} {args : Array Value} {below : List Frame} {meth : Method} {c : Code} {H : Heap} {locs : List Loc} {cells slots : Nat} {Q : State → Prop} {pc : Nat} {ls : Array Slot} {rest : List Value}
variable {cc : ByteArray} {nL : Nat} {own : String} {D : va_G} {G : Nat → ClassId} {t : Nat → Nat} {A : Nat → Prop} {N : Nat} {ad : Nat → Nat} {cl : Nat → va_E}
theorem g_newP (X : Cx p s m args meth c cc nL own D G t A) (w : Wd D A s H locs N ad cl) {at9 : ArrayType} {ty : FieldType} (k : Nat) (harr : Cond.arrayClass ty ∈ tb) (hty : newarray.typeOf at9 = ty) (hk : (tyG G)[k]? = some (G k, ty)) (hp : ∀ C, ty ≠ .object C) {x : Int32} {n : Nat} (hcell : ∀ cA : ClassId, vp_cell cA (n, .inl (fun _ => 0)) = arrV cA n (fun _ => defaultValue ty)) (hx0 : ¬ x < 0) (hxn : x.toNatClampNeg = n) (hby : n * componentBytes ty ≤ 536870912) (hcells : cells + 1 ≤ R.cells) (hslots : slots + n ≤ R.slots) (hdg : decode cc pc = .ok (.newarray at9, 2))
    (kk : ∀ (q : Nat) (H : Heap), Wd D A s H locs (N + 1) (va_up ad N q) (va_up cl N (.inl (G k, n, .inl (fun _ => 0)))) → W p l e R s m args below meth c H locs (cells + 1) (slots + n) Q (F0 m (pc + 2) ls (.ref q :: rest))) : W p l e R s m args below meth c H locs cells slots Q (F0 m pc ls (.int x :: rest)) := by
  obtain ⟨hx, hb, hml, hown, hts, hK, hA, hZ, hN, hlo⟩ := X
  subst hty
  refine va_newa (D := D) (atype := at9) (a0 := (n, .inl (fun _ => 0))) hx hb (hts _ harr) rfl hK w.1 w.2.1 w.2.2 hA hcell hx0 hxn hby hcells hslots hdg (fun q cA H1 hK1 h1 h2 h3 => ?_)
  have e1 : cA = G k := arr_eq hK1 hk hp
  subst e1
  refine kk q H1 ⟨?_, ?_, h3⟩
  · rw [wd_push] at h1; exact h1
  · rw [wd_push] at h2; exact h2
/-- j arrays are made -/
def IM (G : Nat → ClassId) (ad0 : Nat → Nat) (cl0 : Nat → va_E) (o j : Nat) (v : Nat → Int32) (ad : Nat → Nat) (cl : Nat → va_E) : Prop := cl o = .inr (12, fsOf (mfldJ ad o v 0 j)) ∧ (∀ i, i < j → cl (o + 1 + i) = .inl (G (arrK i), arrL i, .inl (fun _ => 0))) ∧ (∀ k, k < o + 1 → ad k = ad0 k) ∧ ∀ k, k < o → cl k = cl0 k
theorem m_step {ad0 : Nat → Nat} {cl0 : Nat → va_E} {o j : Nat} {v : Nat → Int32} (X : Cx p s m args meth c cc nL RX12 D G t A) (hin : meth.name = "<init>") (w : Wd D A s H locs (o + 1 + j) ad cl) (I : IM G ad0 cl0 o j v ad cl) {at9 : ArrayType} {ty : FieldType} (k : Nat) (ek : arrK j = k) (harr : Cond.arrayClass ty ∈ tb) (hty : newarray.typeOf at9 = ty) (hk : (tyG G)[k]? = some (G k, ty)) (hp : ∀ C, ty ≠ .object C) {x : Int32} {n : Nat} (hcell : ∀ cA : ClassId, vp_cell cA (n, .inl (fun _ => 0)) = arrV cA n (fun _ => defaultValue ty)) (en : arrL j = n) (hx0 : ¬ x < 0) (hxn : x.toNatClampNeg = n) (hby : n * componentBytes ty ≤ 536870912) (hcells : cells + 1 ≤ R.cells) (hslots : slots + n ≤ R.slots)
    (fk : Nat) (hfk : fk < 164) (hm : mOff fk = some j) (hT : (TX12 fk).1 = RX12) {idx : Nat} (hl : Cond.fieldLink RX12 idx RX12 (TX12 fk).2.1 (TX12 fk).2.2.1 ∈ tb) (hfin : (TX12 fk).2.2.2 = true) (hn : ∀ q, narrow (tyX12 fk) (.ref q) = .ref q) (hfit : ∀ q, fits (tyX12 fk) (.ref q) = true) (hdg : decode cc pc = .ok (.newarray at9, 2)) (hdg2 : decode cc (pc + 2) = .ok (.putfield idx, 3))
    (kk : ∀ (H : Heap) (locs : List Loc) (ad : Nat → Nat) (cl : Nat → va_E), Wd D A s H locs (o + 1 + (j + 1)) ad cl → IM G ad0 cl0 o (j + 1) v ad cl → W p l e R s m args below meth c H locs (cells + 1) (slots + n) Q (F0 m (pc + 2 + 3) ls rest)) : W p l e R s m args below meth c H locs cells slots Q (F0 m pc ls (.int x :: .ref (ad0 o) :: rest)) := by
  obtain ⟨i1, i2, i3, i4⟩ := I
  refine g_newP X w k harr hty hk hp hcell hx0 hxn hby hcells hslots hdg (fun q H w => ?_)
  generalize ea : va_up ad (o + 1 + j) q = ad2 at w
  generalize ec : va_up cl (o + 1 + j) (.inl (G k, n, .inl (fun _ => 0))) = cl2 at w
  have fa : ∀ z, z < o + 1 + j → ad2 z = ad z := fun z hz => by rw [← ea, va_up_ne _ _ (by omega)]
  have fc : ∀ z, z < o + 1 + j → cl2 z = cl z := fun z hz => by rw [← ec, va_up_ne _ _ (by omega)]
  have c1 : cl2 o = .inr (12, fsOf (mfldJ ad o v 0 j)) := (fc o (by omega)).trans i1
  refine g_putF X w o ((fa o (by omega)).trans (i3 o (by omega))) (by omega) c1 kc12 fk hfk hT hT hl hfin hin (hn q) (hfit q) (by rw [fsOf_len]; exact hfk) hdg2 (fun H locs w => ?_)
  refine kk H locs ad2 _ w ⟨?_, fun i hi => ?_, fun z hz => (fa z (by omega)).trans (i3 z hz), fun z hz => ?_⟩
  · rw [va_up_self, fsOf_set hfk, mf_putr (ad' := ad2) hm hfk (fun i hi => fa _ (by omega)) (by rw [← ea, va_up_self])]
  · rw [va_up_ne _ _ (by omega)]
    by_cases hij : i = j
    · subst hij
      rw [← ec, va_up_self, ek, en]
    · rw [fc _ (by omega)]
      exact i2 i (by omega)
  · rw [va_up_ne _ _ (by omega), fc z (by omega)]
    exact i4 z hz
theorem m_stepi {ad0 : Nat → Nat} {cl0 : Nat → va_E} {o j : Nat} {v : Nat → Int32} (X : Cx p s m args meth c cc nL RX12 D G t A) (w : Wd D A s H locs (o + 1 + j) ad cl) (I : IM G ad0 cl0 o j v ad cl) (fk : Nat) (hfk : fk < 164) (hm : mOff fk = none) (h9 : fk ≠ 159) (hT : (TX12 fk).1 = RX12) {idx : Nat} (hl : Cond.fieldLink RX12 idx RX12 (TX12 fk).2.1 (TX12 fk).2.2.1 ∈ tb) (hfin : (TX12 fk).2.2.2 = false) {x : Int32} (hn : narrow (tyX12 fk) (.int x) = .int x) (hfit : fits (tyX12 fk) (.int x) = true) (hdg : decode cc pc = .ok (.putfield idx, 3))
    (kk : ∀ (H : Heap) (locs : List Loc) (cl : Nat → va_E), Wd D A s H locs (o + 1 + j) ad cl → IM G ad0 cl0 o j (va_up v fk x) ad cl → W p l e R s m args below meth c H locs cells slots Q (F0 m (pc + 3) ls rest)) : W p l e R s m args below meth c H locs cells slots Q (F0 m pc ls (.int x :: .ref (ad0 o) :: rest)) := by
  obtain ⟨i1, i2, i3, i4⟩ := I
  refine g_put X w o (i3 o (by omega)) (by omega) i1 kc12 fk hfk hT hl hfin hn hfit (by rw [fsOf_len]; exact hfk) hdg (fun H locs w => ?_)
  refine kk H locs _ w ⟨?_, fun i hi => ?_, i3, fun z hz => ?_⟩
  · rw [va_up_self, fsOf_set hfk, mf_puti hm h9]
  · rw [va_up_ne _ _ (by omega)]; exact i2 i hi
  · rw [va_up_ne _ _ (by omega)]; exact i4 z hz
/-! rows over the picture -/
theorem m_geti {o : Nat} {v : Nat → Int32} {lw : Int64} {a : Nat → Nat → Int32} (X : Cx p s m args meth c cc nL RX12 D G t A) (w : Wd D A s H locs N ad cl) (M : MW G N ad cl o v lw a) {ao : Nat} (ha : ad o = ao) (k : Nat) (hk : k < 164) (hm : mOff k = none) (h9 : k ≠ 159) (hT : (TX12 k).1 = RX12) {idx : Nat} (hl : Cond.fieldLink RX12 idx RX12 (TX12 k).2.1 (TX12 k).2.2.1 ∈ tb) {x : Int32} (hx : v k = x) (hdg : decode cc pc = .ok (.getfield idx, 3))
    (kk : W p l e R s m args below meth c H locs cells slots Q (F0 m (pc + 3) ls (.int x :: rest))) : W p l e R s m args below meth c H locs cells slots Q (F0 m pc ls (.ref ao :: rest)) := by
  subst hx
  exact g_get X w o ha (by have := M.1; omega) M.2.1 kc12 k hk hT hl (by rw [fsOf_get hk, mf_int hm h9]) hdg kk
theorem m_geta {o : Nat} {v : Nat → Int32} {lw : Int64} {a : Nat → Nat → Int32} (X : Cx p s m args meth c cc nL RX12 D G t A) (w : Wd D A s H locs N ad cl) (M : MW G N ad cl o v lw a) {ao : Nat} (ha : ad o = ao) (k : Nat) (hk : k < 164) {j : Nat} (hm : mOff k = some j) (hT : (TX12 k).1 = RX12) {idx : Nat} (hl : Cond.fieldLink RX12 idx RX12 (TX12 k).2.1 (TX12 k).2.2.1 ∈ tb) (hdg : decode cc pc = .ok (.getfield idx, 3))
    (kk : W p l e R s m args below meth c H locs cells slots Q (F0 m (pc + 3) ls (.ref (ad (o + 1 + j)) :: rest))) : W p l e R s m args below meth c H locs cells slots Q (F0 m pc ls (.ref ao :: rest)) :=
  g_get X w o ha (by have := M.1; omega) M.2.1 kc12 k hk hT hl (by rw [fsOf_get hk, mf_ref hm (mOff_inv hk hm).2]) hdg kk
theorem m_puti {o : Nat} {v : Nat → Int32} {lw : Int64} {a : Nat → Nat → Int32} (X : Cx p s m args meth c cc nL RX12 D G t A) (w : Wd D A s H locs N ad cl) (M : MW G N ad cl o v lw a) {ao : Nat} (ha : ad o = ao) (k : Nat) (hk : k < 164) (hm : mOff k = none) (h9 : k ≠ 159) (hT : (TX12 k).1 = RX12) {idx : Nat} (hl : Cond.fieldLink RX12 idx RX12 (TX12 k).2.1 (TX12 k).2.2.1 ∈ tb) (hfin : (TX12 k).2.2.2 = false) {x : Int32} (hn : narrow (tyX12 k) (.int x) = .int x) (hfit : fits (tyX12 k) (.int x) = true) (hdg : decode cc pc = .ok (.putfield idx, 3))
    (kk : ∀ (H : Heap) (locs : List Loc) (cl' : Nat → va_E), Wd D A s H locs N ad cl' → MW G N ad cl' o (va_up v k x) lw a → (∀ z, z ≠ o → cl' z = cl z) → W p l e R s m args below meth c H locs cells slots Q (F0 m (pc + 3) ls rest)) : W p l e R s m args below meth c H locs cells slots Q (F0 m pc ls (.int x :: .ref ao :: rest)) := by
  refine g_put X w o ha (by have := M.1; omega) M.2.1 kc12 k hk hT hl hfin hn hfit (by rw [fsOf_len]; exact hk) hdg (fun H locs w => ?_)
  refine kk H locs _ w ⟨M.1, ?_, fun j hj => ?_⟩ (fun z hz => va_up_ne _ _ hz)
  · rw [va_up_self, fsOf_set hk, mf_puti hm h9]
  · rw [va_up_ne _ _ (by omega)]; exact M.2.2 j hj
theorem m_ild {o : Nat} {v : Nat → Int32} {lw : Int64} {a : Nat → Nat → Int32} (X : Cx p s m args meth c cc nL RX12 D G t A) (w : Wd D A s H locs N ad cl) (M : MW G N ad cl o v lw a) (j : Nat) (hj : j < 104) (hk : arrK j = 0) {x : Int32} (hin : vp_in x (arrL j)) {y : Int32} (hy : a j x.toNatClampNeg = y) (hdg : decode cc pc = .ok (.iaload, 1))
    (kk : W p l e R s m args below meth c H locs cells slots Q (F0 m (pc + 1) ls (.int y :: rest))) : W p l e R s m args below meth c H locs cells slots Q (F0 m pc ls (.int x :: .ref (ad (o + 1 + j)) :: rest)) := by
  subst hy
  exact g_iald X w (o + 1 + j) rfl (by have := M.1; omega) (by rw [M.2.2 j hj, hk]) hin hdg kk
theorem m_bld {o : Nat} {v : Nat → Int32} {lw : Int64} {a : Nat → Nat → Int32} (X : Cx p s m args meth c cc nL RX12 D G t A) (w : Wd D A s H locs N ad cl) (M : MW G N ad cl o v lw a) (j : Nat) (hj : j < 104) (hk : arrK j = 1) {x : Int32} (hin : vp_in x (arrL j)) {y : Int32} (hy : a j x.toNatClampNeg = y) (hdg : decode cc pc = .ok (.baload, 1))
    (kk : W p l e R s m args below meth c H locs cells slots Q (F0 m (pc + 1) ls (.int y :: rest))) : W p l e R s m args below meth c H locs cells slots Q (F0 m pc ls (.int x :: .ref (ad (o + 1 + j)) :: rest)) := by
  subst hy
  exact g_bald X w (o + 1 + j) rfl (by have := M.1; omega) (by rw [M.2.2 j hj, hk]) hin hdg kk
theorem m_ist {o : Nat} {v : Nat → Int32} {lw : Int64} {a : Nat → Nat → Int32} (X : Cx p s m args meth c cc nL RX12 D G t A) (w : Wd D A s H locs N ad cl) (M : MW G N ad cl o v lw a) (j : Nat) (hj : j < 104) (hk : arrK j = 0) {x y : Int32} (hin : vp_in x (arrL j)) {i : Nat} (hi : x.toNatClampNeg = i) (hdg : decode cc pc = .ok (.iastore, 1))
    (kk : ∀ (H : Heap) (locs : List Loc) (cl' : Nat → va_E), Wd D A s H locs N ad cl' → MW G N ad cl' o v lw (va_up a j (upd (a j) i y)) → (∀ z, z ≠ o + 1 + j → cl' z = cl z) → W p l e R s m args below meth c H locs cells slots Q (F0 m (pc + 1) ls rest)) : W p l e R s m args below meth c H locs cells slots Q (F0 m pc ls (.int y :: .int x :: .ref (ad (o + 1 + j)) :: rest)) := by
  subst hi
  refine g_iast X w (o + 1 + j) rfl (by have := M.1; omega) (by rw [M.2.2 j hj, hk]) hin hdg (fun H locs w => ?_)
  refine kk H locs _ w ⟨M.1, ?_, fun i hi => ?_⟩ (fun z hz => va_up_ne _ _ hz)
  · rw [va_up_ne _ _ (by omega)]; exact M.2.1
  · by_cases hij : i = j
    · subst hij
      rw [va_up_self, va_up_self, hk]
    · rw [va_up_ne _ _ (by omega), va_up_ne _ _ hij]; exact M.2.2 i hi
end
def v0M : Nat → Int32 := fun _ => 0
theorem bl_12 : ∀ j, j < 164 → defaultValue (tyX12 j) = vp_V (fsOf (mfldJ (fun _ => 0) 0 v0M 0 0)) j := by decide +kernel
theorem mf_blank {ad : Nat → Nat} {o : Nat} : mfldJ (fun _ => 0) 0 v0M 0 0 = mfldJ ad o v0M 0 0 := by
  funext k
  simp only [mfldJ]
  cases mOff k <;> simp
