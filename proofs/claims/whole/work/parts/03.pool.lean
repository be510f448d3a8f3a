/-! THE POOL: the world is a row of cells, by number: cell i lies at ad i and is cl i -/
def wd (N : Nat) (ad : Nat → Nat) (cl : Nat → va_E) : va_W := (List.range N).map (fun i => (ad i, cl i))
theorem wd_get {N i : Nat} {ad : Nat → Nat} {cl : Nat → va_E} (h : i < N) : (wd N ad cl)[i]? = some (ad i, cl i) := by
  simp [wd, h]
theorem wd_len {N : Nat} {ad : Nat → Nat} {cl : Nat → va_E} : (wd N ad cl).length = N := by simp [wd]
theorem wd_inv {N k : Nat} {ad : Nat → Nat} {cl : Nat → va_E} {q : Nat × va_E} (h : (wd N ad cl)[k]? = some q) : k < N ∧ q = (ad k, cl k) := by
  have hk : k < N := by
    have := (List.getElem?_eq_some_iff.mp h).1
    rwa [wd_len] at this
  rw [wd_get hk] at h
  exact ⟨hk, (Option.some.inj h).symm⟩
theorem wd_set {N i : Nat} {ad : Nat → Nat} {cl : Nat → va_E} {e : va_E} (h : i < N) : (wd N ad cl).set i (ad i, e) = wd N ad (va_up cl i e) := by
  apply List.ext_getElem?
  intro j
  by_cases hj : j = i
  · subst hj
    rw [List.getElem?_set_self (by rw [wd_len]; exact h), wd_get h, va_up_self]
  · rw [List.getElem?_set_ne (Ne.symm hj)]
    by_cases hN : j < N
    · rw [wd_get hN, wd_get hN, va_up_ne _ _ hj]
    · rw [List.getElem?_eq_none (by rw [wd_len]; omega), List.getElem?_eq_none (by rw [wd_len]; omega)]
theorem wd_push {N : Nat} {ad : Nat → Nat} {cl : Nat → va_E} {q : Nat} {e : va_E} : wd N ad cl ++ [(q, e)] = wd (N + 1) (va_up ad N q) (va_up cl N e) := by
  apply List.ext_getElem?
  intro j
  by_cases hN : j < N
  · rw [List.getElem?_append_left (by rw [wd_len]; exact hN), wd_get hN, wd_get (by omega), va_up_ne _ _ (by omega), va_up_ne _ _ (by omega)]
  · by_cases hj : j = N
    · subst hj
      rw [List.getElem?_append_right (by rw [wd_len]; omega), wd_len, Nat.sub_self, wd_get (by omega), va_up_self, va_up_self]
      rfl
    · rw [List.getElem?_eq_none (by rw [List.length_append, wd_len]; simp; omega), List.getElem?_eq_none (by rw [wd_len]; omega)]
/-- the last cell takes the place of cell j, which is forgotten -/
theorem wd_swapP {D : va_G} {c9 : List vw_C} {N j : Nat} {ad : Nat → Nat} {cl : Nat → va_E} {H : Heap} (hj : j < N) (h : va_P D c9 (wd (N + 1) ad cl) H) : va_P D c9 (wd N (va_up ad j (ad N)) (va_up cl j (cl N))) H := by
  intro k q hk
  obtain ⟨hkN, rfl⟩ := wd_inv hk
  by_cases hkj : k = j
  · subst hkj
    rw [va_up_self, va_up_self]
    exact h N _ (wd_get (by omega))
  · rw [va_up_ne _ _ hkj, va_up_ne _ _ hkj]
    exact h k _ (wd_get (by omega))
theorem wd_swapD {A : Nat → Prop} {N j : Nat} {ad : Nat → Nat} {cl : Nat → va_E} (hj : j < N) (h : va_D A (wd (N + 1) ad cl)) : va_D A (wd N (va_up ad j (ad N)) (va_up cl j (cl N))) := by
  have inj : ∀ a b, a < N + 1 → b < N + 1 → ad a = ad b → a = b := fun a b ha hb e => h.1 a b _ _ (wd_get ha) (wd_get hb) e
  refine ⟨fun a b x y ha hb e => ?_, fun k q hk => ?_⟩
  · obtain ⟨h1, rfl⟩ := wd_inv ha
    obtain ⟨h2, rfl⟩ := wd_inv hb
    dsimp only at e
    by_cases ea : a = j <;> by_cases eb : b = j
    · rw [ea, eb]
    · rw [ea, va_up_self, va_up_ne _ _ eb] at e
      have := inj N b (by omega) (by omega) e
      omega
    · rw [eb, va_up_self, va_up_ne _ _ ea] at e
      have := inj a N (by omega) (by omega) e
      omega
    · rw [va_up_ne _ _ ea, va_up_ne _ _ eb] at e
      exact inj a b (by omega) (by omega) e
  · obtain ⟨h1, rfl⟩ := wd_inv hk
    by_cases ek : k = j
    · subst ek
      dsimp only
      rw [va_up_self]
      exact h.2 N _ (wd_get (by omega))
    · dsimp only
      rw [va_up_ne _ _ ek]
      exact h.2 k _ (wd_get (by omega))
/-- a world at addresses and cells that are the same for the numbers that count -/
theorem wd_congr {N : Nat} {ad ad' : Nat → Nat} {cl cl' : Nat → va_E} (h1 : ∀ i, i < N → ad' i = ad i) (h2 : ∀ i, i < N → cl' i = cl i) : wd N ad' cl' = wd N ad cl := by
  apply List.map_congr_left
  intro i hi
  rw [h1 i (List.mem_range.mp hi), h2 i (List.mem_range.mp hi)]
/-! what is known of a class's objects -/
def Kc (ci : Nat) (C : String) (T : u_T) (N : Nat) (ty : Nat → FieldType) : Prop := vwCl[ci]? = some (C, T, N) ∧ (∀ w ∈ u_ws C T N, w ∈ tb) ∧ (∀ k, k < N → parseFieldDescriptor (T k).2.2.1 = some (ty k)) ∧ (∀ a, a < N → ∀ b, b < N → a ≠ b → (T a).2.1 ≠ (T b).2.1)
theorem kc0 : Kc 0 RX0 TX0 13 tyX0 := ⟨rfl, inX0, tyX0_ok, nmX0⟩
theorem kc1 : Kc 1 RX1 TX1 11 tyX1 := ⟨rfl, inX1, tyX1_ok, nmX1⟩
theorem kc2 : Kc 2 RX2 TX2 16 tyX2 := ⟨rfl, inX2, tyX2_ok, nmX2⟩
theorem kc3 : Kc 3 RX3 TX3 8 tyX3 := ⟨rfl, inX3, tyX3_ok, nmX3⟩
theorem kc4 : Kc 4 RX4 TX4 3 tyX4 := ⟨rfl, inX4, tyX4_ok, nmX4⟩
theorem kc5 : Kc 5 RX5 TX5 2 tyX5 := ⟨rfl, inX5, tyX5_ok, nmX5⟩
theorem kc6 : Kc 6 RX6 TX6 8 tyX6 := ⟨rfl, inX6, tyX6_ok, nmX6⟩
theorem kc7 : Kc 7 RX7 TX7 19 tyX7 := ⟨rfl, inX7, tyX7_ok, nmX7⟩
theorem kc8 : Kc 8 RX8 TX8 2 tyX8 := ⟨rfl, inX8, tyX8_ok, nmX8⟩
theorem kc9 : Kc 9 RX9 TX9 10 tyX9 := ⟨rfl, inX9, tyX9_ok, nmX9⟩
theorem kc10 : Kc 10 RX10 TX10 19 tyX10 := ⟨rfl, inX10, tyX10_ok, nmX10⟩
theorem kc11 : Kc 11 RX11 TX11 15 tyX11 := ⟨rfl, inX11, tyX11_ok, nmX11⟩
theorem kc12 : Kc 12 RX12 TX12 164 tyX12 := ⟨rfl, inX12, tyX12_ok, nmX12⟩
/-! the array classes -/
def tyG (G : Nat → ClassId) : List (ClassId × FieldType) := [(G 0, .int), (G 1, .byte), (G 2, .boolean), (G 3, .long), (G 4, .object "TypeRoom$Row")]
/-! static rows that nobody writes -/
def sRow (C n : String) (t L : Nat) (f : Nat → Int32) (A : Nat → Prop) (U : State) (H : Heap) : Prop := va_Z C n "[I" (.ref t) A U H ∧ va_T .int t L (fun j => .int (f j)) A U H
theorem sRow.moved {C n : String} {t L : Nat} {f : Nat → Int32} {A : Nat → Prop} {u U : State} {H : Heap} (hvm : u.vm.Alike U.vm) (h : sRow C n t L f A u H) : sRow C n t L f A U H := ⟨h.1.moved hvm, h.2.moved hvm⟩
theorem sRow.narrow {C n : String} {t L : Nat} {f : Nat → Int32} {A B : Nat → Prop} {U : State} {H : Heap} (h : sRow C n t L f A U H) (hAB : ∀ q, B q → A q) : sRow C n t L f B U H := ⟨h.1.narrow hAB, h.2.narrow hAB⟩
theorem sRow.kept {C n : String} {t L : Nat} {f : Nat → Int32} {A : Nat → Prop} {U : State} {H H1 : Heap} (h : sRow C n t L f A U H) (hz : H.size ≤ H1.size) (hq : ∀ a : Nat, a < H.size → ¬ A a → H1[a]? = H[a]?) : sRow C n t L f A U H1 := ⟨h.1.kept hq, h.2.kept hq⟩
def tOf (l : List Int32) : Nat → Int32 := fun j => l.getD j 0
/-! text constants -/
def strLn : List Nat := [39, 90, 73, 19, 5, 5, 5, 6, 5, 7, 6]
def strBy : List (List Int32) := [[64, 100, 101, 102, 32, 64, 115, 101, 116, 32, 64, 112, 97, 116, 32, 64, 119, 111, 114, 100, 32, 64, 116, 111, 99, 32, 64, 105, 110, 100, 101, 120, 32, 64, 112, 97, 103, 101, 32], [117, 112, 32, 108, 111, 119, 32, 99, 97, 112, 32, 114, 111, 116, 32, 114, 101, 118, 32, 114, 101, 112, 32, 115, 117, 98, 32, 119, 111, 114, 100, 32, 108, 101, 110, 32, 97, 116, 32, 97, 100, 100, 32, 109, 117, 108, 32, 110, 117, 109, 32, 115, 116, 101, 112, 32, 115, 104, 111, 119, 32, 105, 102, 32, 110, 111, 116, 101, 32, 108, 97, 98, 101, 108, 32, 105, 110, 100, 101, 120, 32, 114, 101, 102, 32, 112, 97, 103, 101, 32], [119, 105, 100, 101, 32, 105, 110, 100, 101, 110, 116, 32, 106, 117, 115, 116, 105, 102, 121, 32, 104, 121, 112, 104, 32, 108, 101, 102, 116, 32, 114, 105, 103, 104, 116, 32, 102, 105, 108, 108, 32, 107, 101, 101, 112, 32, 103, 97, 112, 32, 104, 105, 103, 104, 32, 104, 101, 97, 100, 32, 102, 105, 114, 115, 116, 32, 115, 121, 115, 116, 101, 109, 32], [109, 99, 109, 100, 99, 100, 99, 120, 99, 108, 120, 108, 120, 105, 120, 118, 105, 118, 105], [64, 100, 101, 102, 32], [64, 115, 101, 116, 32], [64, 112, 97, 116, 32], [64, 119, 111, 114, 100, 32], [64, 116, 111, 99, 32], [64, 105, 110, 100, 101, 120, 32], [64, 112, 97, 103, 101, 32]]
def strTx : List String := ["@def @set @pat @word @toc @index @page ", "up low cap rot rev rep sub word len at add mul num step show if note label index ref page ", "wide indent justify hyph left right fill keep gap high head first system ", "mcmdcdcxclxlxixvivi", "@def ", "@set ", "@pat ", "@word ", "@toc ", "@index ", "@page "]
def strRefs : List (String × Nat × Nat) := [("TypeRoom$Rules", 72, 0), ("TypeRoom$Rules", 101, 1), ("TypeRoom$Rules", 129, 2), ("TypeRoom$Row", 54, 3), ("TypeRoom$Texts", 148, 1), ("TypeRoomModel", 590, 4), ("TypeRoomModel", 441, 1), ("TypeRoomModel", 599, 5), ("TypeRoomModel", 630, 2), ("TypeRoomModel", 604, 6), ("TypeRoomModel", 610, 7), ("TypeRoomModel", 612, 8), ("TypeRoomModel", 617, 9), ("TypeRoomModel", 622, 10)]
def SFs (t : Nat → Nat) (A : Nat → Prop) (U : State) (H : Heap) : Prop :=
  (∀ i : Nat, i < 11 → va_O "java/lang/String" (t (7 + i)) A U H ∧ va_OF "java/lang/String" "coder" "B" (.int 0) (t (7 + i)) A U H ∧ va_OF "java/lang/String" "value" "[B" (.ref (t (18 + i))) (t (7 + i)) A U H ∧ va_T .byte (t (18 + i)) (strLn.getD i 0) (fun j => .int ((strBy.getD i []).getD j 0)) A U H) ∧ va_Z "java/lang/String" "COMPACT_STRINGS" "Z" (.int 1) A U H ∧ va_Zq "jdk/internal/util/Preconditions" "SIOOBE_FORMATTER" "Ljava/util/function/BiFunction;" A U H
theorem SFs.moved {t : Nat → Nat} {A : Nat → Prop} {u U : State} {H : Heap} (hvm : u.vm.Alike U.vm) (h : SFs t A u H) : SFs t A U H :=
  ⟨fun i hi => ⟨va_O.moved hvm (h.1 i hi).1, va_OF.moved hvm (h.1 i hi).2.1, va_OF.moved hvm (h.1 i hi).2.2.1, va_T.moved hvm (h.1 i hi).2.2.2⟩, h.2.1.moved hvm, h.2.2.moved hvm⟩
theorem SFs.narrow {t : Nat → Nat} {A B : Nat → Prop} {U : State} {H : Heap} (h : SFs t A U H) (hAB : ∀ q, B q → A q) : SFs t B U H :=
  ⟨fun i hi => ⟨(h.1 i hi).1.narrow hAB, (h.1 i hi).2.1.narrow hAB, (h.1 i hi).2.2.1.narrow hAB, (h.1 i hi).2.2.2.narrow hAB⟩, h.2.1.narrow hAB, h.2.2.narrow hAB⟩
theorem SFs.kept {t : Nat → Nat} {A : Nat → Prop} {U : State} {H H1 : Heap} (h : SFs t A U H) (hq : ∀ a : Nat, a < H.size → ¬ A a → H1[a]? = H[a]?) : SFs t A U H1 :=
  ⟨fun i hi => ⟨(h.1 i hi).1.kept hq, (h.1 i hi).2.1.kept hq, (h.1 i hi).2.2.1.kept hq, (h.1 i hi).2.2.2.kept hq⟩, h.2.1.kept hq, h.2.2.kept hq⟩
def SF (t : Nat → Nat) (A : Nat → Prop) (U : State) (H : Heap) : Prop :=
  sRow "TypeRoom$Rules" "AT_FIRST" (t 0) 13 (tOf [40, 2, 3, 1, 2, 2, 0, 2, 1, 24, 0, 1, 1]) A U H ∧
  sRow "TypeRoom$Rules" "LEAST" (t 1) 13 (tOf [12, 0, 0, 0, 1, 1, 0, 0, 0, 5, 0, 1, 1]) A U H ∧
  sRow "TypeRoom$Rules" "MOST" (t 2) 13 (tOf [80, 8, 3, 1, 9, 9, 1, 3, 3, 60, 1, 999, 5]) A U H ∧
  sRow "TypeRoom$Row" "ROMAN_VALUES" (t 3) 13 (tOf [1000, 900, 500, 400, 100, 90, 50, 40, 10, 9, 5, 4, 1]) A U H ∧
  sRow "TypeRoom$Texts" "ARITIES" (t 4) 21 (tOf [1, 1, 1, 2, 1, 2, 3, 2, 1, 2, 2, 2, 2, 2, 2, 4, 1, 1, 1, 1, 1]) A U H ∧
  vx_Zq Bundle.tN "UNASSIGNED_STACK" Bundle.steD A U H ∧ vx_Zq Bundle.tN "SUPPRESSED_SENTINEL" Bundle.listD A U H ∧ SFs t A U H
theorem SF.moved {t : Nat → Nat} {A : Nat → Prop} {u U : State} {H : Heap} (hvm : u.vm.Alike U.vm) (h : SF t A u H) : SF t A U H := ⟨h.1.moved hvm, h.2.1.moved hvm, h.2.2.1.moved hvm, h.2.2.2.1.moved hvm, h.2.2.2.2.1.moved hvm, h.2.2.2.2.2.1.moved hvm, h.2.2.2.2.2.2.1.moved hvm, h.2.2.2.2.2.2.2.moved hvm⟩
theorem SF.narrow {t : Nat → Nat} {A B : Nat → Prop} {U : State} {H : Heap} (h : SF t A U H) (hAB : ∀ q, B q → A q) : SF t B U H := ⟨h.1.narrow hAB, h.2.1.narrow hAB, h.2.2.1.narrow hAB, h.2.2.2.1.narrow hAB, h.2.2.2.2.1.narrow hAB, h.2.2.2.2.2.1.narrow hAB, h.2.2.2.2.2.2.1.narrow hAB, h.2.2.2.2.2.2.2.narrow hAB⟩
theorem SF.kept {t : Nat → Nat} {A : Nat → Prop} {U : State} {H H1 : Heap} (h : SF t A U H) (hz : H.size ≤ H1.size) (hq : ∀ a : Nat, a < H.size → ¬ A a → H1[a]? = H[a]?) : SF t A U H1 := ⟨h.1.kept hz hq, h.2.1.kept hz hq, h.2.2.1.kept hz hq, h.2.2.2.1.kept hz hq, h.2.2.2.2.1.kept hz hq, h.2.2.2.2.2.1.kept hq, h.2.2.2.2.2.2.1.kept hq, h.2.2.2.2.2.2.2.kept hq⟩
/-! words of nest mates: they aren't among a callee's words, so they come with the start -/
def isNest : Cond → Bool
  | .fieldLinkNest .. => true
  | .methodLinkNest .. => true
  | .castable .. => true
  | .declares _ => true
  | _ => false
def NS (t : Nat → Nat) (U : State) : Prop := (∀ w ∈ tables_1, isNest w = true → va_Nw w U) ∧ va_AO "TypeRoom$Row" U ∧ (∀ q ∈ strRefs, vk_R q.1 q.2.1 (strTx.getD q.2.2 "") (t (7 + q.2.2)) U) ∧ va_Nc "java/lang/IllegalArgumentException" "java/lang/IllegalStateException" U ∧ va_Nc "java/lang/IndexOutOfBoundsException" "java/lang/IllegalStateException" U
theorem NS.same {t : Nat → Nat} {u U : State} (h : u.vm = U.vm) (hn : NS t u) : NS t U := by
  refine ⟨fun w hw hi => ?_, va_AO.moved (by rw [h]; exact Vm.Alike.refl _) hn.2.1, fun q hq => vk_R.same h.symm (hn.2.2.1 q hq), va_Nc.moved (by rw [h]; exact Vm.Alike.refl _) hn.2.2.2.1, va_Nc.moved (by rw [h]; exact Vm.Alike.refl _) hn.2.2.2.2⟩
  cases w <;> first | exact va_Nw.same rfl h (hn.1 _ hw hi) | cases hi
theorem NS.warm {t : Nat → Nat} {s U : State} (hW : s.WarmedH U.vm) (hn : NS t s) : NS t U := by
  refine ⟨fun w hw hi => ?_, va_AO.moved hW.alike hn.2.1, fun q hq => vk_R.warm hW (hn.2.2.1 q hq), va_Nc.moved hW.alike hn.2.2.2.1, va_Nc.moved hW.alike hn.2.2.2.2⟩
  cases w <;> first | exact va_Nw.warmF hW (hn.1 _ hw hi) | exact va_Nw.warmM hW (hn.1 _ hw hi) | exact va_Nw.warmC hW (hn.1 _ hw hi) | exact va_Nw.warmD hW (hn.1 _ hw hi) | cases hi
/-! a contract's start and end -/
abbrev PS : Type := Nat × (Nat → Nat) × (Nat → va_E)
def PP (D : va_G) (G : Nat → ClassId) (t : Nat → Nat) (u : PS) (sz : Nat) (U : State) : Prop :=
  U.heap.size = sz ∧ va_P D vwCl (wd u.1 u.2.1 u.2.2) U.heap ∧ va_K D vwCl (tyG G) U ∧ va_D (fun _ => True) (wd u.1 u.2.1 u.2.2) ∧ SF t (va_A (wd u.1 u.2.1 u.2.2) sz) U U.heap ∧ NS t U
def PB (D : va_G) (G : Nat → ClassId) (A : Nat → Prop) (u : PS) (t : State) : Prop :=
  va_P D vwCl (wd u.1 u.2.1 u.2.2) t.heap ∧ va_K D vwCl (tyG G) t ∧ va_D A (wd u.1 u.2.1 u.2.2)
abbrev PA (u : PS) (sz : Nat) : Nat → Prop := va_A (wd u.1 u.2.1 u.2.2) sz
/-- the words of a method: its code, and all of tb -/
abbrev wY (y : MethodName) (cc : ByteArray) (nL : Nat) (ret : Option FieldType) : List Cond := .code y cc nL ret :: tb
def CtI (l : Launch) (y : MethodName) (cc : ByteArray) (nL : Nat) (rm : Room) (D : va_G) (G : Nat → ClassId) (t : Nat → Nat) (u : PS) (av : List Value) (post : Int32 → PS → Prop) : Prop :=
  ∀ sz, Met l y (wY y cc nL (some .int)) rm (va_Pc av (PP D G t u sz)) (va_Qi post (PB D G (PA u sz)) (PA u sz)) rm.cells rm.slots (PA u sz)
def CtZ (l : Launch) (y : MethodName) (cc : ByteArray) (nL : Nat) (rm : Room) (D : va_G) (G : Nat → ClassId) (t : Nat → Nat) (u : PS) (av : List Value) (post : Int32 → PS → Prop) : Prop :=
  ∀ sz, Met l y (wY y cc nL (some .boolean)) rm (va_Pc av (PP D G t u sz)) (va_Qi post (PB D G (PA u sz)) (PA u sz)) rm.cells rm.slots (PA u sz)
def CtV (l : Launch) (y : MethodName) (cc : ByteArray) (nL : Nat) (rm : Room) (D : va_G) (G : Nat → ClassId) (t : Nat → Nat) (u : PS) (av : List Value) (post : PS → Prop) : Prop :=
  ∀ sz, Met l y (wY y cc nL none) rm (va_Pc av (PP D G t u sz)) (va_Qv post (PB D G (PA u sz)) (PA u sz)) rm.cells rm.slots (PA u sz)
theorem PP.blind {D : va_G} {G : Nat → ClassId} {t : Nat → Nat} {u : PS} {sz : Nat} {av : List Value} : FrameBlind (va_Pc av (PP D G t u sz)) := fun a U g mk q => by
  obtain ⟨q0, q1, qP, qK, qD, qS, qN⟩ := q
  exact ⟨q0, q1, qP, va_K.moved (u := U) (U := U.calling g mk a) (Vm.Alike.refl U.vm) qK, qD, SF.moved (u := U) (U := U.calling g mk a) (Vm.Alike.refl U.vm) qS, NS.same (u := U) (U := U.calling g mk a) rfl qN⟩
