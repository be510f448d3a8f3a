/-! the numbers' laws -/
theorem lt_mask {m z : Nat} (hm : m < 2 ^ 246) (h : Nat.testBit m z = true) : z < 246 := by
  refine Nat.lt_of_not_le (fun hz => ?_)
  have : m < 2 ^ z := Nat.lt_of_lt_of_le hm (Nat.pow_le_pow_right (by decide) hz)
  rw [Nat.testBit_lt_two_pow this] at h
  cases h
theorem isRow_all : ∀ z, z < 246 → isRow z = true → z ∈ xRows := by decide +kernel
theorem isRow_ok {z : Nat} (h : isRow z = true) : z ∈ xRows := isRow_all z (lt_mask (by decide) h) h
def mkFS (z : Nat) : List FS := (List.range 12).map (fun k => .inl (z + mkOff k)) ++ [.inr (.inl ()), .inr (.inl ()), .inr (.inl ()), .inr (.inl ())]
def pfFS (z : Nat) : List FS := .inr (.inl ()) :: (List.range 7).map (fun k => .inl (z + pfOff (k + 1)))
def feq : FS → FS → Bool
  | .inl a, .inl b => Nat.beq a b
  | .inr (.inl _), .inr (.inl _) => true
  | .inr (.inr a), .inr (.inr b) => Nat.beq a b
  | _, _ => false
theorem feq_ok {a b : FS} (h : feq a b = true) : a = b := by
  rcases a with a | _ | a <;> rcases b with b | _ | b <;> first | exact congrArg _ (Nat.eq_of_beq_eq_true h) | rfl | exact congrArg (fun x => Sum.inr (Sum.inr x)) (Nat.eq_of_beq_eq_true h) | cases h
def lfe : List FS → List FS → Bool
  | [], [] => true
  | a :: l, b :: m => feq a b && lfe l m
  | _, _ => false
theorem lfe_ok : ∀ {l m : List FS}, lfe l m = true → l = m
  | [], [], _ => rfl
  | [], _ :: _, h => by cases h
  | _ :: _, [], h => by cases h
  | a :: l, b :: m, h => by
    unfold lfe at h
    rw [Bool.and_eq_true] at h
    rw [feq_ok h.1, lfe_ok h.2]
def obe (z ci : Nat) (fs : List FS) : Bool := match am_ob z with
  | some q => Nat.beq q.1 ci && lfe q.2 fs
  | none => false
theorem obe_ok {z ci : Nat} {fs : List FS} (h : obe z ci fs = true) : am_ob z = some (ci, fs) := by
  unfold obe at h
  split at h
  · rename_i q hq
    rw [Bool.and_eq_true] at h
    rw [hq, ← Nat.eq_of_beq_eq_true h.1, ← lfe_ok h.2]
  · cases h
theorem isShelf_all : ∀ z, z < 246 → isShelf z = true → obe z 8 [.inl (z + 1), .inl (z + 3)] = true := by decide +kernel
theorem isShelf_ok {z : Nat} (h : isShelf z = true) : am_ob z = some (8, [.inl (z + 1), .inl (z + 3)]) := obe_ok (isShelf_all z (lt_mask (by decide) h) h)
theorem isMarks_all : ∀ z, z < 246 → isMarks z = true → obe z 2 (mkFS z) = true := by decide +kernel
theorem isMarks_ok {z : Nat} (h : isMarks z = true) : am_ob z = some (2, mkFS z) := obe_ok (isMarks_all z (lt_mask (by decide) h) h)
theorem isProof_all : ∀ z, z < 246 → isProof z = true → obe z 3 (pfFS z) = true := by decide +kernel
theorem isProof_ok {z : Nat} (h : isProof z = true) : am_ob z = some (3, pfFS z) := obe_ok (isProof_all z (lt_mask (by decide) h) h)
theorem cls_row {z : Nat} (h : isRow z = true) : am_cls z = some 5 := by
  unfold am_cls
  rw [if_pos (isRow_ok h)]
theorem cls_all : ∀ z, z < 246 → (isShelf z = true → am_cls z = some 8) ∧ (isMarks z = true → am_cls z = some 2) ∧ (isProof z = true → am_cls z = some 3) := by decide +kernel
theorem and_mask (x : Int) {m : Int32} (k : Nat) (hk : k ≤ 30) (hm : m.toBitVec.toNat = 2 ^ k - 1) : iI x &&& m = iI (x % ((2 ^ k : Nat) : Int)) := by
  rw [pk_and (iI x) k hm, show (iI x).toBitVec.toNat = (x % 4294967296).toNat from by simp [iI, BitVec.toNat_ofInt], ← iI_nat]
  congr 1
  have hp : (0 : Int) < ((2 ^ k : Nat) : Int) := by
    have := Nat.two_pow_pos k
    omega
  rw [Int.natCast_emod]
  have e : (((x % 4294967296).toNat : Nat) : Int) = x % 4294967296 := Int.toNat_of_nonneg (Int.emod_nonneg _ (by decide))
  rw [e]
  have hd : ((2 ^ k : Nat) : Int) ∣ 4294967296 := by
    refine ⟨((2 ^ (32 - k) : Nat) : Int), ?_⟩
    rw [← Int.natCast_mul, ← Nat.pow_add, show k + (32 - k) = 32 by omega]
    rfl
  exact Int.emod_emod_of_dvd x hd
theorem and_sub (x : Int) {m : Int32} (k n : Nat) (hk : k ≤ 30) (f : Int → Int) (h1 : m &&& Int32.ofNat (2 ^ k - 1) = m) (h2 : (Int32.ofNat (2 ^ k - 1)).toBitVec.toNat = 2 ^ k - 1) (hf : ∀ j : Nat, j < 2 ^ k → nI j &&& m = iI (f j)) : iI x &&& m = iI (f (x % ((2 ^ k : Nat) : Int))) := by
  have e : iI x &&& m = (iI x &&& Int32.ofNat (2 ^ k - 1)) &&& m := by
    rw [Int32.and_assoc, Int32.and_comm (Int32.ofNat (2 ^ k - 1)) m, h1]
  rw [e, and_mask x k hk h2]
  have hp : (0 : Int) < ((2 ^ k : Nat) : Int) := by
    have := Nat.two_pow_pos k
    omega
  have hn := Int.emod_nonneg x (b := ((2 ^ k : Nat) : Int)) (by omega)
  have hl := Int.emod_lt_of_pos x hp
  obtain ⟨j, hj⟩ := Int.eq_ofNat_of_zero_le hn
  rw [hj] at hl ⊢
  rw [iI_nat]
  exact hf j (by omega)
theorem km384 : ∀ j : Nat, j < 512 → nI j &&& 384 = iI ((j : Int) - (j : Int) % 128) := by decide +kernel
theorem km639 : ∀ j : Nat, j < 1024 → nI j &&& 639 = iI ((j : Int) - (j : Int) % 512 + (j : Int) % 128) := by decide +kernel
theorem km2 : ∀ j : Nat, j < 4 → nI j &&& 2 = iI ((j : Int) - (j : Int) % 2) := by decide +kernel
theorem km4 : ∀ j : Nat, j < 8 → nI j &&& 4 = iI ((j : Int) - (j : Int) % 4) := by decide +kernel
theorem bnd_ok (x y : Int) : iI (bnd x y) = iI x &&& iI y := by
  unfold bnd
  by_cases h : y = 127
  · subst h; rw [if_pos rfl]; exact (and_mask x 7 (by decide) (by decide)).symm
  rw [if_neg h]
  by_cases h : y = 255
  · subst h; rw [if_pos rfl]; exact (and_mask x 8 (by decide) (by decide)).symm
  rw [if_neg h]
  by_cases h : y = 1023
  · subst h; rw [if_pos rfl]; exact (and_mask x 10 (by decide) (by decide)).symm
  rw [if_neg h]
  by_cases h : y = 384
  · subst h; rw [if_pos rfl]
    have := and_sub x (m := 384) 9 0 (by decide) (fun j => j - j % 128) (by decide) (by decide) km384
    refine Eq.trans ?_ this.symm
    show iI (x % 512 - x % 128) = iI (x % 512 - x % 512 % 128)
    rw [show x % 512 % 128 = x % 128 by omega]
  rw [if_neg h]
  by_cases h : y = 639
  · subst h; rw [if_pos rfl]
    have := and_sub x (m := 639) 10 0 (by decide) (fun j => j - j % 512 + j % 128) (by decide) (by decide) km639
    refine Eq.trans ?_ this.symm
    show iI (x % 1024 - x % 512 + x % 128) = iI (x % 1024 - x % 1024 % 512 + x % 1024 % 128)
    rw [show x % 1024 % 128 = x % 128 by omega, show x % 1024 % 512 = x % 512 by omega]
  rw [if_neg h]
  by_cases h : y = 1
  · subst h; rw [if_pos rfl]; exact (and_mask x 1 (by decide) (by decide)).symm
  rw [if_neg h]
  by_cases h : y = 2
  · subst h; rw [if_pos rfl]
    have := and_sub x (m := 2) 2 0 (by decide) (fun j => j - j % 2) (by decide) (by decide) km2
    refine Eq.trans ?_ this.symm
    show iI (x % 4 - x % 2) = iI (x % 4 - x % 4 % 2)
    rw [show x % 4 % 2 = x % 2 by omega]
  rw [if_neg h]
  by_cases h : y = 4
  · subst h; rw [if_pos rfl]
    have := and_sub x (m := 4) 3 0 (by decide) (fun j => j - j % 4) (by decide) (by decide) km4
    refine Eq.trans ?_ this.symm
    show iI (x % 8 - x % 4) = iI (x % 8 - x % 8 % 4)
    rw [show x % 8 % 4 = x % 4 by omega]
  rw [if_neg h, iI_to]
theorem bnd_rg (x y : Int) : Rg (bnd x y) := by
  unfold bnd
  repeat (first | exact Rg.of _ | (split; · unfold Rg; omega))
theorem b8_ok (x : Int) : (iI x).toInt8.toInt32 = iI (b8 x) := by
  rw [Int32.toInt8_ofInt]
  apply Int32.toInt_inj.mp
  have h : Rg (b8 x) := by unfold b8 Rg; omega
  rw [h.to, Int8.toInt_toInt32, Int8.toInt_ofInt]
  show Int.bmod x 256 = b8 x
  unfold b8
  rw [Int.bmod_def]
  split <;> omega
theorem b8_rg (x : Int) : Rg (b8 x) := by unfold b8 Rg; omega
theorem wr_ok (x : Int) : iI (wr x) = iI x := iI_to _
theorem wr_rg (x : Int) : Rg (wr x) := Rg.of _
theorem shl7 (x : Int) : iI x <<< ((7 : Int32) &&& 31) = iI (x * 128) := by
  apply Int32.toInt_inj.mp
  rw [show (7 : Int32) &&& 31 = 7 from by decide]
  rw [iI_mul]
  have : ∀ a : Int32, a <<< 7 = a * 128 := fun a => by
    apply Int32.toBitVec_inj.mp
    rw [Int32.toBitVec_shiftLeft, Int32.toBitVec_mul]
    show a.toBitVec <<< (BitVec.smod 7#32 32#32).toNat = a.toBitVec * 128#32
    rw [show (BitVec.smod 7#32 32#32).toNat = 7 from by decide]
    rw [BitVec.shiftLeft_eq_mul_twoPow]
    rfl
  rw [this]
  rfl
theorem shr7 {x : Int} (h : Rg x) : iI x >>> ((7 : Int32) &&& 31) = iI (x / 128) := by
  apply Int32.toInt_inj.mp
  have h2 : Rg (x / 128) := by unfold Rg at *; omega
  rw [show (7 : Int32) &&& 31 = 7 from by decide, pk_shr (iI x) 7 7 (by decide), h.to, h2.to]
  rw [Int.shiftRight_eq_div_pow]
  rfl
theorem tdiv_ok {x y : Int} (hx : Rg x) (hy : Rg y) (h0 : 0 < y) : iI x / iI y = iI (Int.tdiv x y) := by
  apply Int32.toInt_inj.mp
  have hne : iI y ≠ -1 := fun e => by
    have := congrArg Int32.toInt e
    rw [hy.to] at this
    have h1 : (-1 : Int32).toInt = -1 := by decide
    omega
  rw [Int32.toInt_div_of_ne_right _ _ hne, hx.to, hy.to]
  refine (Rg.to ?_).symm
  unfold Rg at *
  by_cases hn : 0 ≤ x
  · rw [Int.tdiv_eq_ediv_of_nonneg hn]
    have h1 := Int.ediv_nonneg hn (Int.le_of_lt h0)
    have h2 := Int.ediv_le_self y hn
    omega
  · have e : x = -(-x) := by omega
    rw [e, Int.neg_tdiv, Int.tdiv_eq_ediv_of_nonneg (by omega)]
    have h1 := Int.ediv_nonneg (a := -x) (by omega) (Int.le_of_lt h0)
    have h2 := Int.ediv_le_self (a := -x) y (by omega)
    omega
theorem tmod_ok {x y : Int} (hx : Rg x) (hy : Rg y) (h0 : 0 < y) : iI x - iI x / iI y * iI y = iI (Int.tmod x y) := by
  rw [tdiv_ok hx hy h0, ← iI_mul, ← iI_sub]
  congr 1
  have := Int.tdiv_mul_add_tmod x y
  omega
theorem tdiv_rg {x y : Int} (hx : Rg x) (h0 : 0 < y) : Rg (Int.tdiv x y) := by
  unfold Rg at *
  by_cases hn : 0 ≤ x
  · rw [Int.tdiv_eq_ediv_of_nonneg hn]
    have h1 := Int.ediv_nonneg hn (Int.le_of_lt h0)
    have h2 := Int.ediv_le_self y hn
    omega
  · have e : x = -(-x) := by omega
    rw [e, Int.neg_tdiv, Int.tdiv_eq_ediv_of_nonneg (by omega)]
    have h1 := Int.ediv_nonneg (a := -x) (by omega) (Int.le_of_lt h0)
    have h2 := Int.ediv_le_self (a := -x) y (by omega)
    omega
theorem tmod_rg {x y : Int} (hx : Rg x) (hy : Rg y) (h0 : 0 < y) : Rg (Int.tmod x y) := by
  have h1 := Int.lt_tmod_of_pos x h0
  have h2 := Int.tmod_lt_of_pos x h0
  unfold Rg at *
  omega
theorem i8_ok {i : Int} (h1 : -128 ≤ i) (h2 : i ≤ 127) : (Int8.ofInt i).toInt32 = iI i := by
  apply Int32.toInt_inj.mp
  rw [Int8.toInt_toInt32, Int8.toInt_ofInt_of_le (by omega) (by omega), Rg.to (by unfold Rg; omega)]
theorem i16_ok {i : Int} (h1 : -32768 ≤ i) (h2 : i ≤ 32767) : (Int16.ofInt i).toInt32 = iI i := by
  apply Int32.toInt_inj.mp
  rw [Int16.toInt_toInt32, Int16.toInt_ofInt_of_le (by omega) (by omega), Rg.to (by unfold Rg; omega)]
theorem i2l_ok {x : Int} (h : Rg x) : (iI x).toInt64 = iJ x := by
  apply Int64.toInt_inj.mp
  rw [Int32.toInt_toInt64, h.to, Rl.to (by unfold Rg at h; unfold Rl; omega)]
theorem l2i_ok (x : Int) : (iJ x).toInt32 = iI x := Int64.toInt32_ofInt
theorem ltdiv_ok {x y : Int} (hx : Rl x) (hy : Rl y) (h0 : 0 < y) : iJ x / iJ y = iJ (Int.tdiv x y) := by
  apply Int64.toInt_inj.mp
  have hne : iJ y ≠ -1 := fun e => by
    have := congrArg Int64.toInt e
    rw [hy.to] at this
    have h1 : (-1 : Int64).toInt = -1 := by decide
    omega
  rw [Int64.toInt_div_of_ne_right _ _ hne, hx.to, hy.to]
  refine (Rl.to ?_).symm
  unfold Rl at *
  by_cases hn : 0 ≤ x
  · rw [Int.tdiv_eq_ediv_of_nonneg hn]
    have h1 := Int.ediv_nonneg hn (Int.le_of_lt h0)
    have h2 := Int.ediv_le_self y hn
    omega
  · have e : x = -(-x) := by omega
    rw [e, Int.neg_tdiv, Int.tdiv_eq_ediv_of_nonneg (by omega)]
    have h1 := Int.ediv_nonneg (a := -x) (by omega) (Int.le_of_lt h0)
    have h2 := Int.ediv_le_self (a := -x) y (by omega)
    omega
theorem ltmod_ok {x y : Int} (hx : Rl x) (hy : Rl y) (h0 : 0 < y) : iJ x - iJ x / iJ y * iJ y = iJ (Int.tmod x y) := by
  rw [ltdiv_ok hx hy h0, ← iJ_mul, ← iJ_sub]
  congr 1
  have := Int.tdiv_mul_add_tmod x y
  omega
theorem lcmp_ok {x y : Int} (hx : Rl x) (hy : Rl y) : lg_cmp (iJ x) (iJ y) = iI (lcm9 x y) := by
  unfold lg_cmp lcm9
  have k1 := hy.lt hx
  have k2 := hx.eq hy
  by_cases h : y < x
  · rw [if_pos (k1.mpr h), if_neg (by omega), if_neg (by omega)]; rfl
  · rw [if_neg (fun z => h (k1.mp z))]
    by_cases h2 : x = y
    · rw [if_pos (k2.mpr h2), if_neg (by omega), if_pos h2]; rfl
    · rw [if_neg (fun z => h2 (k2.mp z)), if_pos (by omega)]; rfl
/-! rows -/
theorem len_map {L : List Int} : (L.map iI).length = L.length := List.length_map ..
theorem m1_ok : (-1 : Int32) = iI (-1) := by decide
theorem rgt_ok {L : List Int} {x : Int} (hL : L.length ≤ 131072) (hx : Rg x) : rget (L.map iI) (iI x) = iI (rgt L x) := by
  have h0 : (0 : Int32) = iI 0 := rfl
  have r0 : Rg 0 := by unfold Rg; omega
  have rl : Rg (L.length : Int) := by unfold Rg; omega
  unfold rget rgt
  rw [len_map, ← iI_nat, h0]
  by_cases h1 : x < 0
  · rw [if_pos ((hx.lt r0).mpr h1), if_neg (by omega)]; exact m1_ok
  · rw [if_neg (fun z => h1 ((hx.lt r0).mp z))]
    by_cases h2 : (L.length : Int) ≤ x
    · rw [if_pos ((rl.le hx).mpr h2), if_neg (by omega)]; exact m1_ok
    · rw [if_neg (fun z => h2 ((rl.le hx).mp z)), if_pos (by omega), hx.nat, List.getD_eq_getElem?_getD, List.getD_eq_getElem?_getD, List.getElem?_map]
      cases L[x.toNat]? <;> rfl
theorem rgt_rg {L : List Int} {x : Int} (h : ∀ y ∈ L, Rg y) : Rg (rgt L x) := by
  unfold rgt
  split
  · rw [List.getD_eq_getElem?_getD]
    cases hx : L[x.toNat]? with
    | none => unfold Rg; simp
    | some y => exact h y (List.mem_of_getElem? hx)
  · unfold Rg; omega
theorem ralt_ok {L : List Int} {x v : Int} (hL : L.length ≤ 131072) (hx : Rg x) : raltL (L.map iI) (iI x) (iI v) = (ralt L x v).map iI := by
  have h0 : (0 : Int32) = iI 0 := rfl
  have r0 : Rg 0 := by unfold Rg; omega
  have rl : Rg (L.length : Int) := by unfold Rg; omega
  unfold raltL ralt
  rw [len_map, ← iI_nat, h0]
  by_cases h1 : x < 0
  · rw [if_pos ((hx.lt r0).mpr h1), if_neg (by omega)]
  · rw [if_neg (fun z => h1 ((hx.lt r0).mp z))]
    by_cases h2 : (L.length : Int) ≤ x
    · rw [if_pos ((rl.le hx).mpr h2), if_neg (by omega)]
    · rw [if_neg (fun z => h2 ((rl.le hx).mp z)), if_pos (by omega), hx.nat, List.map_set]
theorem rcut_ok {L : List Int} {x : Int} (hL : L.length ≤ 131072) (hx : Rg x) : rcutL (L.map iI) (iI x) = (rcut L x).map iI := by
  have h0 : (0 : Int32) = iI 0 := rfl
  have r0 : Rg 0 := by unfold Rg; omega
  have rl : Rg (L.length : Int) := by unfold Rg; omega
  unfold rcutL rcut
  rw [len_map, ← iI_nat, h0]
  by_cases h1 : x < 0
  · rw [if_pos ((hx.lt r0).mpr h1), if_neg (by omega)]
  · rw [if_neg (fun z => h1 ((hx.lt r0).mp z))]
    by_cases h2 : (L.length : Int) ≤ x
    · rw [if_pos ((rl.le hx).mpr h2), if_neg (by omega)]
    · rw [if_neg (fun z => h2 ((rl.le hx).mp z)), if_pos (by omega), hx.nat, List.map_take]
theorem getD_rg {L : List Int} (h : ∀ y ∈ L, Rg y) (n : Nat) : Rg (L.getD n 0) := by
  rw [List.getD_eq_getElem?_getD]
  cases hx : L[n]? with
  | none => unfold Rg; simp
  | some y => exact h y (List.mem_of_getElem? hx)
theorem getD_map {L : List Int} (n : Nat) : (L.map iI).getD n 0 = iI (L.getD n 0) := by
  rw [List.getD_eq_getElem?_getD, List.getD_eq_getElem?_getD, List.getElem?_map]
  cases L[n]? <;> rfl
theorem sfr_rg {L : List Int} {x : Int} (h : ∀ y ∈ L, Rg y) : Rg (sfrM L x) := by
  unfold sfrM
  split
  · exact getD_rg h _
  · unfold Rg; omega
theorem sto_rg {L : List Int} {x : Int} (h : ∀ y ∈ L, Rg y) : Rg (stoM L x) := by
  unfold stoM
  split
  · exact getD_rg h _
  · unfold Rg; omega
theorem sfr_ok {L : List Int} {x : Int} (hL : L.length ≤ 131072) (hx : Rg x) : sfrom (L.map iI) (iI x) = iI (sfrM L x) := by
  have h0 : (1 : Int32) = iI 1 := rfl
  have r0 : Rg 1 := by unfold Rg; omega
  have rl : Rg (L.length : Int) := by unfold Rg; omega
  unfold sfrom sfrM
  rw [len_map, ← iI_nat, h0]
  by_cases h1 : x < 1
  · rw [if_pos ((hx.lt r0).mpr h1), if_neg (by omega)]; rfl
  · rw [if_neg (fun z => h1 ((hx.lt r0).mp z))]
    by_cases h2 : (L.length : Int) < x
    · rw [if_pos ((rl.lt hx).mpr h2), if_neg (by omega)]; rfl
    · have r1 : Rg (x - 1) := by unfold Rg at *; omega
      rw [if_neg (fun z => h2 ((rl.lt hx).mp z)), if_pos (by omega), ← iI_sub, r1.nat, getD_map]
theorem sto_ok {L : List Int} {x : Int} (hL : L.length ≤ 131072) (hx : Rg x) : sto (L.map iI) (iI x) = iI (stoM L x) := by
  have h0 : (0 : Int32) = iI 0 := rfl
  have r0 : Rg 0 := by unfold Rg; omega
  have rl : Rg (L.length : Int) := by unfold Rg; omega
  unfold sto stoM
  rw [len_map, ← iI_nat]
  by_cases h1 : x < 0
  · rw [if_pos (by rw [h0]; exact (hx.lt r0).mpr h1), if_neg (by omega)]; rfl
  · rw [if_neg (fun z => h1 ((hx.lt r0).mp (by rw [← h0]; exact z)))]
    by_cases h2 : (L.length : Int) ≤ x
    · rw [if_pos ((rl.le hx).mpr h2), if_neg (by omega)]; rfl
    · rw [if_neg (fun z => h2 ((rl.le hx).mp z)), if_pos (by omega), hx.nat, getD_map]
theorem rrem_mem {L : List Int} {x y v : Int} (h : v ∈ rrem L x y) : v ∈ L := by
  unfold rrem at h
  split at h
  · rcases List.mem_append.mp h with h | h
    · exact List.mem_of_mem_take h
    · exact List.mem_of_mem_drop h
  · exact h
theorem rrem_len {L : List Int} {x y : Int} : (rrem L x y).length ≤ L.length := by
  unfold rrem
  split
  · rw [List.length_append, List.length_take, List.length_drop]; omega
  · exact Nat.le_refl _
theorem rrem_ok {L : List Int} {x y : Int} (hL : L.length ≤ 131072) (hx : Rg x) (hy : Rg y) : rremL (L.map iI) (iI x) (iI y) = (rrem L x y).map iI := by
  have h0 : (0 : Int32) = iI 0 := rfl
  have r0 : Rg 0 := by unfold Rg; omega
  have rl : Rg (L.length : Int) := by unfold Rg; omega
  unfold rremL rrem
  rw [len_map, ← iI_nat, h0]
  by_cases h1 : x < 0
  · rw [if_pos ((hx.lt r0).mpr h1), if_neg (by omega)]
  · rw [if_neg (fun z => h1 ((hx.lt r0).mp z))]
    by_cases h2 : y < x
    · rw [if_pos ((hy.lt hx).mpr h2), if_neg (by omega)]
    · rw [if_neg (fun z => h2 ((hy.lt hx).mp z))]
      by_cases h3 : y ≤ (L.length : Int)
      · rw [if_pos ((hy.le rl).mpr h3), if_pos (by omega), hx.nat, hy.nat, List.map_append, List.map_take, List.map_drop]
      · rw [if_neg (fun z => h3 ((hy.le rl).mp z)), if_neg (by omega)]
theorem isShelf_in : ∀ z, z < 246 → isShelf z = true → z ∈ xShelves := by decide +kernel
theorem isShelf_mem {z : Nat} (h : isShelf z = true) : z ∈ xShelves := isShelf_in z (lt_mask (by decide) h) h
theorem ralt_mem {L : List Int} {x v y : Int} (h : y ∈ ralt L x v) : y ∈ L ∨ y = v := by
  unfold ralt at h
  split at h
  · exact List.mem_or_eq_of_mem_set h
  · exact Or.inl h
theorem ralt_len {L : List Int} {x v : Int} : (ralt L x v).length = L.length := by
  unfold ralt
  split
  · exact List.length_set ..
  · rfl
theorem rcut_mem {L : List Int} {x y : Int} (h : y ∈ rcut L x) : y ∈ L := by
  unfold rcut at h
  split at h
  · exact List.mem_of_mem_take h
  · exact h
theorem rcut_len {L : List Int} {x : Int} : (rcut L x).length ≤ L.length := by
  unfold rcut
  split
  · exact List.length_take_le' ..
  · exact Nat.le_refl _
theorem pourM_len (g : Int → Int) : ∀ (k : Nat) (x : Int), (pourM g k x).length = k
  | 0, _ => rfl
  | k + 1, x => by rw [pourM, List.length_cons, pourM_len g k]
theorem pourM_mem {g : Int → Int} : ∀ (k : Nat) (x : Int) {y : Int}, y ∈ pourM g k x → ∃ i, y = g i
  | 0, _, _, h => absurd h List.not_mem_nil
  | k + 1, x, y, h => by
    rcases List.mem_cons.mp h with e | e
    · exact ⟨x, e⟩
    · exact pourM_mem k (x + 1) e
theorem pour_ok {g : Int → Int} {G : Int32 → Int32} (hg : ∀ x, Rg x → G (iI x) = iI (g x)) : ∀ (k : Nat) (x : Int), Rg x → (0 < k → x + k ≤ 2147483647) → pourL G k (iI x) = (pourM g k x).map iI
  | 0, _, _, _ => rfl
  | k + 1, x, hx, hk => by
    have hk := hk (by omega)
    rw [pourL, pourM, List.map_cons, hg x hx, ← pour_ok hg k (x + 1) (by unfold Rg at *; omega) (by omega), iI_add]
    rfl
theorem stands_ok {g h : Int → Int} {G H : Int32 → Int32} : ∀ (k : Nat) (x : Int), Rg x → (0 < k → x + k ≤ 2147483647) → (∀ y : Int, x ≤ y → y < x + k → G (iI y) = iI (g y) ∧ H (iI y) = iI (h y)) → standsL G H k (iI x) = stdM g h k x
  | 0, _, _, _, _ => rfl
  | k + 1, x, hx, hk, hg => by
    have hk := hk (by omega)
    obtain ⟨e1, e2⟩ := hg x (by omega) (by omega)
    rw [standsL, stdM, e1, e2, show (127 : Int32) = iI 127 from rfl, ← bnd_ok, ← bnd_ok]
    have ih := stands_ok (g := g) (h := h) (G := G) (H := H) k (x + 1) (by unfold Rg at *; omega) (by omega) (fun y h1 h2 => hg y (by omega) (by omega))
    rw [iI_add] at ih
    rw [show iI x + 1 = iI x + iI 1 from rfl, ih]
    have ee : (iI (bnd (g x) 127) = iI (bnd (h x) 127)) = (g x % 128 = h x % 128) := propext ((bnd_rg _ _).eq (bnd_rg _ _))
    simp only [ee]
theorem map_inj {L M : List Int} (hL : ∀ x ∈ L, Rg x) (hM : ∀ x ∈ M, Rg x) : L.map iI = M.map iI ↔ L = M := by
  refine ⟨fun h => ?_, fun h => by rw [h]⟩
  induction L generalizing M with
  | nil =>
    cases M with
    | nil => rfl
    | cons y M => cases h
  | cons x L ih =>
    cases M with
    | nil => cases h
    | cons y M =>
      rw [List.map_cons, List.map_cons] at h
      obtain ⟨e1, e2⟩ := List.cons.inj h
      rw [((hL x List.mem_cons_self).eq (hM y List.mem_cons_self)).mp e1, ih (fun z hz => hL z (List.mem_cons_of_mem _ hz)) (fun z hz => hM z (List.mem_cons_of_mem _ hz)) e2]
