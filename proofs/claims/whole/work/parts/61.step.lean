/-! ONE INSTRUCTION, AS WHAT MUST HOLD AHEAD OF IT -/
def tB (b : Bool) (P : Prop) : Prop := match b with
  | true => P
  | false => False
def gd : Int ⊕ Int → Prop → Prop
  | .inl _, P => P
  | .inr x, P => Rg x ∧ P
def b01 (x : Int) (P : Prop) : Prop := if x = 0 then P else if x = 1 then P else False
theorem tB.i {b : Bool} {P : Prop} (h : b = true) (p : P) : tB b P := by subst h; exact p
theorem tB.e {b : Bool} {P : Prop} (h : tB b P) : b = true ∧ P := by
  cases b with
  | true => exact ⟨rfl, h⟩
  | false => exact h.elim
theorem gd.e {v : Int ⊕ Int} {P : Prop} (h : gd v P) (hv : okM (.inl v)) : Rg (uv v) ∧ P := by
  cases v with
  | inl x => exact ⟨hv, h⟩
  | inr x => exact h
theorem b01.i {x : Int} {P : Prop} (h : x = 0 ∨ x = 1) (p : P) : b01 x P := by rcases h with rfl | rfl <;> exact p
theorem b01.e {x : Int} {P : Prop} (h : b01 x P) : (x = 0 ∨ x = 1) ∧ P := by
  unfold b01 at h
  by_cases h0 : x = 0
  · rw [if_pos h0] at h; exact ⟨Or.inl h0, h⟩
  · rw [if_neg h0] at h
    by_cases h1 : x = 1
    · rw [if_pos h1] at h; exact ⟨Or.inr h1, h⟩
    · rw [if_neg h1] at h; exact h.elim
/-! rows -/
def rgt (L : List Int) (x : Int) : Int := if 0 ≤ x ∧ x < L.length then L.getD x.toNat 0 else -1
def ralt (L : List Int) (x v : Int) : List Int := if 0 ≤ x ∧ x < L.length then L.set x.toNat v else L
def rcut (L : List Int) (x : Int) : List Int := if 0 ≤ x ∧ x < L.length then L.take x.toNat else L
def sfrM (L : List Int) (x : Int) : Int := if 1 ≤ x ∧ x ≤ L.length then L.getD (x - 1).toNat 0 else 0
def stoM (L : List Int) (x : Int) : Int := if 0 ≤ x ∧ x < L.length then L.getD x.toNat 0 else 0
def rrem (L : List Int) (x y : Int) : List Int := if 0 ≤ x ∧ x ≤ y ∧ y ≤ L.length then L.take x.toNat ++ L.drop y.toNat else L
def pourM (g : Int → Int) : Nat → Int → List Int
  | 0, _ => []
  | k + 1, x => g x :: pourM g k (x + 1)
def stdM (g h : Int → Int) : Nat → Int → Bool
  | 0, _ => true
  | k + 1, x => if g x % 128 = h x % 128 then stdM g h k (x + 1) else false
/-- bits of a number, by a mask -/
def bnd (x y : Int) : Int := if y = 127 then x % 128 else if y = 255 then x % 256 else if y = 1023 then x % 1024 else if y = 384 then x % 512 - x % 128 else if y = 639 then x % 1024 - x % 512 + x % 128 else if y = 1 then x % 2 else if y = 2 then x % 4 - x % 2 else if y = 4 then x % 8 - x % 4 else (iI x &&& iI y).toInt
def bor (x y : Int) : Int := (iI x ||| iI y).toInt
def bxo (x y : Int) : Int := (iI x ^^^ iI y).toInt
def b8 (x : Int) : Int := (x + 128) % 256 - 128
def wr (x : Int) : Int := (iI x).toInt
def lsh (x y : Int) : Int := (iJ x >>> ((iI y).toInt64 &&& 63)).toInt
def lus (x y : Int) : Int := (((iJ x).toUInt64 >>> ((iI y).toInt64.toUInt64 &&& Int64.toUInt64 63)).toInt64).toInt
def lcm9 (x y : Int) : Int := if x < y then -1 else if x = y then 0 else 1
/-! where rows, shelves, marks, proofs lie -/
def isRow (z : Nat) : Bool := Nat.testBit 18845362178066336372978140961316800537168002271245378890187004463010895018 z
def isShelf (z : Nat) : Bool := Nat.testBit 1725449750734295772488904062221423055218571992510541545715589305073664 z
def isMarks (z : Nat) : Bool := Nat.testBit 11692013098647223345629478661730264720197413765120 z
def isProof (z : Nat) : Bool := Nat.testBit 862724875367049758253513102661358410958408552464760853714768922411008 z
def clsB (ci z z0 : Nat) : Bool := match ci with
  | 5 => isRow z
  | 8 => isShelf z
  | 2 => isMarks z
  | 3 => isProof z
  | _ => Nat.beq z z0
def neB (y z : Nat) : Bool := !(Nat.beq y z)
def arB (z k N : Nat) : Bool := match am_ar z with
  | some q => Nat.beq q.1 k && Nat.beq q.2 N
  | none => false
def arN (z : Nat) : Nat := match am_ar z with
  | some q => q.2
  | none => 0
def isBy (z : Nat) : Bool := match am_ar z with
  | some q => Nat.beq q.1 1 || Nat.beq q.1 2
  | none => false
def mkOff (k : Nat) : Nat := [1, 6, 11, 13, 18, 20, 22, 24, 29, 31, 33, 35].getD k 0
def pfOff (k : Nat) : Nat := [0, 1, 6, 8, 10, 12, 14, 16].getD k 0
def AT1 : List Int := [40, 2, 3, 1, 2, 2, 0, 2, 1, 24, 0, 1, 1]
def rclM (σ : MS) : MS := (fun q => if q ∈ [47, 45, 42, 40, 37, 35, 32, 30, 28, 26] then [] else mX σ q, va_up (mV σ) 24 (fun k => if k < 13 then AT1.getD k 0 else mV σ 24 k), σ.2.2)
def thQ (Q : MQ9) : String → MS → Prop := fun E σ => Q (.inr E) σ
def kV (th : String → MS → Prop) (f : MS → Prop) : MQ9 := fun o σ => match o with
  | .inl none => f σ
  | .inl (some _) => False
  | .inr E => th E σ
def kI (th : String → MS → Prop) (f : Int → MS → Prop) : MQ9 := fun o σ => match o with
  | .inl none => False
  | .inl (some x) => f x σ
  | .inr E => th E σ
def mci : MV → MV
  | .inl v => vi (uv v)
  | v => v
def margs : Nat → List MV → MLo
  | _, [] => []
  | i, v :: vs => (i, mci v) :: margs (match mcat v with
    | 2 => i + 2
    | _ => i + 1) vs
/-- the single steps -/
def prm (kv : MS → Prop) (ki : MV → Prop) (σ : MS) (av : List MV) (ν : Nat) : Prop := match ν, av with
  | 1, [.inr (.inr z), .inl x] => tB (isRow z) (gd x (ki (vw (rgt (mX σ z) (uv x)))))
  | 2, [.inr (.inr z), .inl x] => tB (isRow z) (gd x ((mX σ z).length < capOf z ∧ kv (wX σ z (mX σ z ++ [uv x]))))
  | 3, [.inr (.inr z)] => tB (isRow z) (kv (wX σ z []))
  | 4, [.inr (.inr z), .inr (.inr y), .inl a, .inl b] => tB (isRow z) (tB (isRow y) (tB (neB y z) (gd a (gd b ((mX σ z).length + (uv b - uv a).toNat ≤ capOf z ∧ kv (wX σ z (mX σ z ++ pourM (rgt (mX σ y)) (uv b - uv a).toNat (uv a))))))))
  | 5, [.inr (.inr z), .inr (.inr y), .inl a, .inl b, .inl k] => tB (isRow z) (tB (isRow y) (tB (neB y z) (gd a (gd b ((mX σ z).length + (uv b - uv a).toNat ≤ capOf z ∧ kv (wX σ z (mX σ z ++ pourM (fun i => bnd (rgt (mX σ y) i) (uv k)) (uv b - uv a).toNat (uv a))))))))
  | 6, [.inr (.inr z), .inl x, .inl n] => tB (isRow z) (gd x (gd n ((mX σ z).length + (uv n).toNat ≤ capOf z ∧ kv (wX σ z (mX σ z ++ List.replicate (uv n).toNat (uv x))))))
  | 7, [.inr (.inr z), .inr (.inr y)] => tB (isRow z) (tB (isRow y) (tB (neB y z) ((mX σ y).length ≤ capOf z ∧ kv (wX σ z (mX σ y)))))
  | 8, [.inr (.inr z), .inr (.inr y)] => tB (isRow z) (tB (isRow y) (ki (vw (if mX σ z = mX σ y then 1 else 0))))
  | 9, [.inr (.inr z), .inl a, .inr (.inr y), .inl f, .inl b] => tB (isRow z) (tB (isRow y) (gd a (gd f (gd b (Rg (uv a + (uv b - uv f)) ∧ ki (vw (if stdM (fun i => rgt (mX σ z) (uv a + i - uv f)) (rgt (mX σ y)) (uv b - uv f).toNat (uv f) = true then 1 else 0)))))))
  | 10, [.inr (.inr z), .inl x, .inl v] => tB (isRow z) (gd x (gd v (kv (wX σ z (ralt (mX σ z) (uv x) (uv v))))))
  | 11, [.inr (.inr z), .inl x] => tB (isRow z) (gd x (kv (wX σ z (rcut (mX σ z) (uv x)))))
  | 12, [.inr (.inr z)] => tB (Nat.beq z 23) (kv (rclM σ))
  | 13, [.inr (.inr z), .inl x] => tB (isShelf z) (gd x (ki (vw (sfrM (mX σ (z + 3)) (uv x)))))
  | 14, [.inr (.inr z), .inl x] => tB (isShelf z) (gd x (ki (vw (stoM (mX σ (z + 3)) (uv x)))))
  | 15, [.inr (.inr z), .inl x, .inl y] => tB (isRow z) (gd x (gd y (kv (wX σ z (rrem (mX σ z) (uv x) (uv y))))))
  | _, _ => False
def mbr (c : Jvm.ClassFile.Cond) (x y : Int) (T F : Prop) : Prop := match c with
  | .eq => (x = y → T) ∧ (¬ x = y → F)
  | .ne => (¬ x = y → T) ∧ (x = y → F)
  | .lt => (x < y → T) ∧ (y ≤ x → F)
  | .ge => (y ≤ x → T) ∧ (x < y → F)
  | .gt => (y < x → T) ∧ (x ≤ y → F)
  | .le => (x ≤ y → T) ∧ (y < x → F)
def swc (x : Int) (f : Nat → Prop) : Int → List Nat → Prop
  | _, [] => True
  | v, t :: r => (x = v → f t) ∧ swc x f (v + 1) r
/-! static rows, text constants -/
def isStr (z : Nat) : Bool := Nat.ble 360 z && Nat.blt z 371
def stI (j : Nat) (x : Int) : Int := ((stF.getD j []).getD x.toNat 0).toInt
def strI (i : Nat) (x : Int) : Int := (strC i x.toNat).toInt
/-- two ints, an int, two longs -/
def s2 (f : Int → Int → Int) (k : List MV → Prop) : List MV → Prop
  | .inl y :: .inl x :: r => k (vi (f (uv x) (uv y)) :: r)
  | _ => False
def s2w (f : Int → Int → Int) (k : List MV → Prop) : List MV → Prop
  | .inl y :: .inl x :: r => k (vw (f (uv x) (uv y)) :: r)
  | _ => False
def s2d (f : Int → Int → Int) (k : List MV → Prop) : List MV → Prop
  | .inl y :: .inl x :: r => gd x (gd y (0 < uv y ∧ k (vw (f (uv x) (uv y)) :: r)))
  | _ => False
def s2l (f : Int → Int → Int) (k : List MV → Prop) : List MV → Prop
  | .inr (.inl y) :: .inr (.inl x) :: r => k (vl (f x y) :: r)
  | _ => False
def s2ld (f : Int → Int → Int) (k : List MV → Prop) : List MV → Prop
  | .inr (.inl y) :: .inr (.inl x) :: r => Rl x ∧ Rl y ∧ 0 < y ∧ k (vl (f x y) :: r)
  | _ => False
def sld (lo : MLo) (i : Nat) (k : MV → Prop) : Prop := match mlk lo i with
  | some v => k v
  | none => False
def sgf2 (σ : MS) (z : Nat) (k : MV → Prop) (c j : Nat) : Prop := match c with
  | 5 => tB (isRow z) (k (vw (mX σ z).length))
  | 8 => tB (isShelf z) (match j with
    | 0 => k (vr (z + 1))
    | _ => k (vr (z + 3)))
  | 2 => tB (isMarks z) (match Nat.ble j 11 with
    | true => k (vr (z + mkOff j))
    | false => k (vw (mV σ z j)))
  | 3 => tB (isProof z) (match j with
    | 0 => k (vw (mV σ z 0))
    | _ => k (vr (z + pfOff j)))
  | _ => False
def sgf5 (σ : MS) (z : Nat) (k : MV → Prop) (j kd v : Nat) : Prop := match kd with
  | 0 => k (vw (mV σ z j))
  | 1 => k (vr v)
  | 2 => k (vl (mW σ))
  | 3 => k (vr (mB σ v))
  | _ => False
def sgf (σ : MS) (z : Nat) (k : MV → Prop) : List Nat → Prop
  | [c, j] => sgf2 σ z k c j
  | [_, j, kd, v, z0] => tB (Nat.beq z z0) (sgf5 σ z k j kd v)
  | _ => False
def spf2 (σ : MS) (k : MS → Prop) (z c j : Nat) (x : Int ⊕ Int) : Prop := match c with
  | 2 => tB (isMarks z) (gd x (k (wV σ z j (uv x))))
  | 3 => tB (isProof z) (b01 (uv x) (k (wV σ z 0 (uv x))))
  | _ => False
def spf5 (σ : MS) (k : MS → Prop) (z j kd u : Nat) (v : MV) : Prop := match kd, v with
  | 0, .inl x => gd x (k (wV σ z j (uv x)))
  | 4, .inl x => b01 (uv x) (k (wV σ z j (uv x)))
  | 2, .inr (.inl x) => Rl x ∧ k (wU σ x)
  | 3, .inr (.inr r) => (r = 49 ∨ r = 163) ∧ k (wB σ u r)
  | _, _ => False
def spf (σ : MS) (k : MS → Prop) (v : MV) (z : Nat) : List Nat → Prop
  | [c, j] => (match v with
    | .inl x => spf2 σ k z c j x
    | _ => False)
  | [_, j, kd, u, z0] => tB (Nat.beq z z0) (spf5 σ k z j kd u v)
  | _ => False
def scat : List MV → Nat
  | [] => 0
  | v :: r => mcat v + scat r
def spl : Nat → List MV → Option (List MV × List MV)
  | 0, st => some ([], st)
  | _ + 1, [] => none
  | n + 1, v :: st => match spl n st with
    | some q => some (v :: q.1, q.2)
    | none => none
def lsz : List MV → Nat
  | [] => 0
  | v :: r => mcat v + lsz r
/-- a call: the callee's number, its arguments' number, its own cell and kind, its variables, its depth, whether it answers -/
def dnx (D : Nat) : Nat → Nat
  | 0 => D - 1
  | n + 1 => n + 1
def dnB (D : Nat) : Nat → Bool
  | 0 => true
  | n + 1 => Nat.ble (n + 2) D
def rtK (th : String → MS → Prop) (k : List MV → MS → Prop) (rest : List MV) : Nat → MQ9
  | 0 => kV th (fun σ1 => k rest σ1)
  | _ + 1 => kI th (fun x σ1 => k (vw x :: rest) σ1)
def scl (D : Nat) (th : String → MS → Prop) (k : List MV → MS → Prop) (σ : MS) (av rest : List MV) (ν L dν rt : Nat) : Prop :=
  tB (Nat.ble (scat rest) 8) (match Nat.ble ν 15 with
    | true => tB (Nat.ble 6 D) (prm (fun σ1 => k rest σ1) (fun v => k (v :: rest) σ) σ av ν)
    | false => tB (Nat.ble (lsz av) L) (tB (Nat.ble 1 D) (tB (dnB D dν) (WP (dnx D dν) 0 ν 0 (margs 0 av) [] σ (rtK th k rest rt)))))
def exN : Nat → String
  | 0 => "java/lang/IllegalStateException"
  | 1 => "java/lang/IndexOutOfBoundsException"
  | _ => "java/lang/IllegalArgumentException"
abbrev MHd : Type := Option (Nat × Nat × Nat × Nat)
def thH (D a μ pc : Nat) (lo : MLo) (Q : MQ9) : MHd → String → MS → Prop
  | none => thQ Q
  | some (f, t, h, i) => match Nat.ble f pc && Nat.blt pc t with
    | true => fun E σ => E = exN 0 ∧ 1 ≤ a ∧ WP D (a - 1) μ h (mfl i lo) [] σ Q
    | false => fun _ _ => False
def stp (D a μ : Nat) (hd : MHd) (rt : Nat) (Q : MQ9) (k : Nat → MLo → List MV → MS → Prop) (pc ln : Nat) (ex : List Nat) (lo : MLo) (st : List MV) (σ : MS) (ins : Jvm.ClassFile.Instr) : Prop := match ins with
  | .iconst i => k (pc + ln) lo (vw i :: st) σ
  | .bipush i => k (pc + ln) lo (vw i :: st) σ
  | .sipush i => k (pc + ln) lo (vw i :: st) σ
  | .lconst i => k (pc + ln) lo (vl (i : Nat) :: st) σ
  | .ldc _ => (match ex with
    | [v] => k (pc + ln) lo (vw (v : Nat) :: st) σ
    | [_, j] => tB (Nat.ble 5 D) (k (pc + ln) lo (vr (360 + j) :: st) σ)
    | _ => False)
  | .ldc_w _ => (match ex with
    | [v] => k (pc + ln) lo (vw (v : Nat) :: st) σ
    | [_, j] => tB (Nat.ble 5 D) (k (pc + ln) lo (vr (360 + j) :: st) σ)
    | _ => False)
  | .ldc2_w _ => (match ex with
    | [v] => k (pc + ln) lo (vl (v : Nat) :: st) σ
    | _ => False)
  | .iload_n i => sld lo i (fun v => match v with
    | .inl v => k (pc + ln) lo (.inl v :: st) σ
    | _ => False)
  | .iload i => sld lo i (fun v => match v with
    | .inl v => k (pc + ln) lo (.inl v :: st) σ
    | _ => False)
  | .lload_n i => sld lo i (fun v => match v with
    | .inr (.inl v) => k (pc + ln) lo (vl v :: st) σ
    | _ => False)
  | .lload i => sld lo i (fun v => match v with
    | .inr (.inl v) => k (pc + ln) lo (vl v :: st) σ
    | _ => False)
  | .aload_n i => sld lo i (fun v => match v with
    | .inr (.inr v) => k (pc + ln) lo (vr v :: st) σ
    | _ => False)
  | .aload i => sld lo i (fun v => match v with
    | .inr (.inr v) => k (pc + ln) lo (vr v :: st) σ
    | _ => False)
  | .istore_n i => (match st with
    | .inl v :: r => k (pc + ln) (mst lo i (.inl v)) r σ
    | _ => False)
  | .istore i => (match st with
    | .inl v :: r => k (pc + ln) (mst lo i (.inl v)) r σ
    | _ => False)
  | .lstore_n i => (match st with
    | .inr (.inl v) :: r => k (pc + ln) (mstL lo i (vl v)) r σ
    | _ => False)
  | .lstore i => (match st with
    | .inr (.inl v) :: r => k (pc + ln) (mstL lo i (vl v)) r σ
    | _ => False)
  | .astore_n i => (match st with
    | .inr (.inr v) :: r => k (pc + ln) (mst lo i (vr v)) r σ
    | _ => False)
  | .astore i => (match st with
    | .inr (.inr v) :: r => k (pc + ln) (mst lo i (vr v)) r σ
    | _ => False)
  | .iinc i c => sld lo i (fun v => match v with
    | .inl v => k (pc + ln) (mst lo i (vi (uv v + c))) st σ
    | _ => False)
  | .iadd => (match ex with
    | [] => s2 (fun x y => x + y) (fun st => k (pc + ln) lo st σ) st
    | _ => s2w (fun x y => wr (x + y)) (fun st => k (pc + ln) lo st σ) st)
  | .isub => s2 (fun x y => x - y) (fun st => k (pc + ln) lo st σ) st
  | .imul => (match ex with
    | [] => s2 (fun x y => x * y) (fun st => k (pc + ln) lo st σ) st
    | _ => s2w (fun x y => wr (x * y)) (fun st => k (pc + ln) lo st σ) st)
  | .iand => s2w bnd (fun st => k (pc + ln) lo st σ) st
  | .ior => s2w bor (fun st => k (pc + ln) lo st σ) st
  | .ixor => s2w bxo (fun st => k (pc + ln) lo st σ) st
  | .ishl => (match st with
    | .inl y :: .inl x :: r => if uv y = 7 then k (pc + ln) lo (vi (uv x * 128) :: r) σ else False
    | _ => False)
  | .ishr => (match st with
    | .inl y :: .inl x :: r => if uv y = 7 then gd x (k (pc + ln) lo (vw (uv x / 128) :: r) σ) else False
    | _ => False)
  | .idiv => s2d Int.tdiv (fun st => k (pc + ln) lo st σ) st
  | .irem => s2d Int.tmod (fun st => k (pc + ln) lo st σ) st
  | .ineg => (match st with
    | .inl x :: r => k (pc + ln) lo (vi (-(uv x)) :: r) σ
    | _ => False)
  | .i2l => (match st with
    | .inl x :: r => gd x (k (pc + ln) lo (vl (uv x) :: r) σ)
    | _ => False)
  | .l2i => (match st with
    | .inr (.inl x) :: r => k (pc + ln) lo (vi x :: r) σ
    | _ => False)
  | .i2b => (match st with
    | .inl x :: r => k (pc + ln) lo (vw (b8 (uv x)) :: r) σ
    | _ => False)
  | .ladd => s2l (fun x y => x + y) (fun st => k (pc + ln) lo st σ) st
  | .lsub => s2l (fun x y => x - y) (fun st => k (pc + ln) lo st σ) st
  | .lmul => s2l (fun x y => x * y) (fun st => k (pc + ln) lo st σ) st
  | .ldiv => s2ld Int.tdiv (fun st => k (pc + ln) lo st σ) st
  | .lrem => s2ld Int.tmod (fun st => k (pc + ln) lo st σ) st
  | .lshr => (match st with
    | .inl y :: .inr (.inl x) :: r => k (pc + ln) lo (vl (lsh x (uv y)) :: r) σ
    | _ => False)
  | .lushr => (match st with
    | .inl y :: .inr (.inl x) :: r => k (pc + ln) lo (vl (lus x (uv y)) :: r) σ
    | _ => False)
  | .lneg => (match st with
    | .inr (.inl x) :: r => k (pc + ln) lo (vl (-x) :: r) σ
    | _ => False)
  | .lcmp => (match st with
    | .inr (.inl y) :: .inr (.inl x) :: r => Rl x ∧ Rl y ∧ k (pc + ln) lo (vw (lcm9 x y) :: r) σ
    | _ => False)
  | .dup => (match st with
    | v :: r => tB (Nat.beq (mcat v) 1) (k (pc + ln) lo (v :: v :: r) σ)
    | _ => False)
  | .pop => (match st with
    | v :: r => tB (Nat.beq (mcat v) 1) (k (pc + ln) lo r σ)
    | _ => False)
  | .dup2 => (match st with
    | v :: w :: r => tB (Nat.beq (mcat v) 1) (tB (Nat.beq (mcat w) 1) (k (pc + ln) lo (v :: w :: v :: w :: r) σ))
    | _ => False)
  | .dup_x1 => (match st with
    | v :: w :: r => tB (Nat.beq (mcat v) 1) (tB (Nat.beq (mcat w) 1) (k (pc + ln) lo (v :: w :: v :: r) σ))
    | _ => False)
  | .goto _ => (match ex with
    | [t] => k t lo st σ
    | _ => False)
  | .ifCond c _ => (match ex, st with
    | [t], .inl x :: r => gd x (mbr c (uv x) 0 (k t lo r σ) (k (pc + ln) lo r σ))
    | _, _ => False)
  | .if_icmp c _ => (match ex, st with
    | [t], .inl y :: .inl x :: r => gd x (gd y (mbr c (uv x) (uv y) (k t lo r σ) (k (pc + ln) lo r σ)))
    | _, _ => False)
  | .tableswitch _ low high _ => (match ex, st with
    | t :: ts, .inl x :: r => gd x (((uv x < low ∨ high < uv x) → k t lo r σ) ∧ swc (uv x) (fun t => k t lo r σ) low ts)
    | _, _ => False)
  | .getstatic _ => (match ex with
    | [j] => tB (Nat.ble 5 D) (k (pc + ln) lo (vr (353 + j) :: st) σ)
    | _ => False)
  | .getfield _ => (match st with
    | .inr (.inr z) :: r => sgf σ z (fun v => k (pc + ln) lo (v :: r) σ) ex
    | _ => False)
  | .putfield _ => (match st with
    | v :: .inr (.inr z) :: r => spf σ (fun σ1 => k (pc + ln) lo r σ1) v z ex
    | _ => False)
  | .iaload => (match ex, st with
    | [N], .inl x :: .inr (.inr z) :: r => tB (arB z 0 N) (0 ≤ uv x ∧ uv x < (N : Nat) ∧ k (pc + ln) lo (vw (mV σ z (uv x).toNat) :: r) σ)
    | [j, _], .inl x :: .inr (.inr z) :: r => tB (Nat.ble 5 D && Nat.beq z (353 + j) && Nat.blt j 5) (0 ≤ uv x ∧ uv x < (stL j : Nat) ∧ k (pc + ln) lo (vw (stI j (uv x)) :: r) σ)
    | _, _ => False)
  | .baload => (match ex, st with
    | [N], .inl x :: .inr (.inr z) :: r => tB (arB z 1 N || arB z 2 N) (0 ≤ uv x ∧ uv x < (N : Nat) ∧ k (pc + ln) lo (vw (mV σ z (uv x).toNat) :: r) σ)
    | [], .inl x :: .inr (.inr z) :: r => tB (isBy z) (0 ≤ uv x ∧ uv x < (arN z : Nat) ∧ k (pc + ln) lo (vw (mV σ z (uv x).toNat) :: r) σ)
    | _, _ => False)
  | .iastore => (match ex, st with
    | [N], .inl y :: .inl x :: .inr (.inr z) :: r => tB (arB z 0 N) (0 ≤ uv x ∧ uv x < (N : Nat) ∧ gd y (k (pc + ln) lo r (wV σ z (uv x).toNat (uv y))))
    | _, _ => False)
  | .bastore => (match ex, st with
    | [N], .inl y :: .inl x :: .inr (.inr z) :: r => tB (arB z 1 N) (0 ≤ uv x ∧ uv x < (N : Nat) ∧ k (pc + ln) lo r (wV σ z (uv x).toNat (b8 (uv y))))
    | [N, _], .inl y :: .inl x :: .inr (.inr z) :: r => tB (arB z 2 N) (0 ≤ uv x ∧ uv x < (N : Nat) ∧ k (pc + ln) lo r (wV σ z (uv x).toNat (uv y % 2)))
    | _, _ => False)
  | .aaload => (match st with
    | .inl x :: .inr (.inr z) :: r => tB (Nat.beq z 9) (0 ≤ uv x ∧ uv x < 6 ∧ k (pc + ln) lo (vr (10 + 2 * (uv x).toNat) :: r) σ)
    | _ => False)
  | .arraylength => (match ex, st with
    | [K, N], .inr (.inr z) :: r => tB (Nat.ble K 2 && arB z K N) (k (pc + ln) lo (vw (N : Nat) :: r) σ)
    | [j], .inr (.inr z) :: r => tB (Nat.ble 5 D && Nat.beq z (353 + j) && Nat.blt j 5) (k (pc + ln) lo (vw (stL j : Nat) :: r) σ)
    | _, _ => False)
  | .ireturn => (match rt, st with
    | 1, [.inl x] => gd x (Q (.inl (some (uv x))) σ)
    | 2, [.inl x] => b01 (uv x) (Q (.inl (some (uv x))) σ)
    | _, _ => False)
  | .return_ => (match rt, st with
    | 0, [] => Q (.inl none) σ
    | _, _ => False)
  | .new _ => (match ex with
    | [c] => tB (Nat.ble 6 D && Nat.ble (scat st) 8) (Q (.inr (exN c)) σ)
    | _ => False)
  | .invokestatic _ => (match ex, st with
    | [0], .inl y :: .inl x :: r => tB (Nat.ble 1 D && Nat.ble (scat r) 8) (gd x (gd y (k (pc + ln) lo (vw (min (uv x) (uv y)) :: r) σ)))
    | [1], .inl y :: .inl x :: r => tB (Nat.ble 1 D && Nat.ble (scat r) 8) (gd x (gd y (k (pc + ln) lo (vw (max (uv x) (uv y)) :: r) σ)))
    | [_, _], .inl y :: .inl x :: r => tB (Nat.ble 5 D && Nat.ble (scat r) 8) (gd x (gd y (0 < uv y ∧ k (pc + ln) lo (vw (uv x % uv y) :: r) σ)))
    | [ν, nA, L, dν, rt'], st => (match spl nA st with
      | some (as, rest) => scl D (thH D a μ pc lo Q hd) (fun st1 σ1 => k (pc + ln) lo st1 σ1) σ as.reverse rest ν L dν rt'
      | none => False)
    | _, _ => False)
  | .invokevirtual _ => (match ex with
    | [0] => (match st with
      | .inr (.inr z) :: r => tB (Nat.ble 5 D && isStr z && Nat.ble (scat r) 8) (k (pc + ln) lo (vw (strLn.getD (z - 360) 0 : Nat) :: r) σ)
      | _ => False)
    | [1] => (match st with
      | .inl x :: .inr (.inr z) :: r => tB (Nat.ble 5 D && isStr z && Nat.ble (scat r) 8) (0 ≤ uv x ∧ uv x < (strLn.getD (z - 360) 0 : Nat) ∧ k (pc + ln) lo (vw (strI (z - 360) (uv x)) :: r) σ)
      | _ => False)
    | [ν, nA, L, dν, rt', ci, z0] => (match spl nA st with
      | some (as, .inr (.inr z) :: rest) => tB (clsB ci z z0) (scl D (thH D a μ pc lo Q hd) (fun st1 σ1 => k (pc + ln) lo st1 σ1) σ (vr z :: as.reverse) rest ν L dν rt')
      | _ => False)
    | _ => False)
  | _ => False
