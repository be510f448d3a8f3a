/-! TEXTS ARE WORKED: what they come to, pure -/
/-- ((here, ever, style), out, (counters, values), (labels, refs, places), (keys, places), (notes, carriers, their number), unknown) -/
abbrev TS : Type := (Int × Int × Int) × List Int × (List (List Int) × List Int) × (List (List Int) × List (List Int) × List Int) × (List (List Int) × List Int) × (List (List Int) × List Int × Int) × Int
/-- a state, or the fault's kind and the work here and ever -/
abbrev TR : Type := TS ⊕ (Int × Int × Int)
def sWk (s : TS) (h e : Int) : TS := ((h, e, s.1.2.2), s.2)
def sSt (s : TS) (y : Int) : TS := ((s.1.1, s.1.2.1, y), s.2)
def sOu (s : TS) (L : List Int) : TS := (s.1, L, s.2.2)
def sCn (s : TS) (N : List (List Int)) (V : List Int) : TS := (s.1, s.2.1, (N, V), s.2.2.2)
def sLb (s : TS) (N R : List (List Int)) (V : List Int) : TS := (s.1, s.2.1, s.2.2.1, (N, R, V), s.2.2.2.2)
def sKy (s : TS) (N : List (List Int)) (V : List Int) : TS := (s.1, s.2.1, s.2.2.1, s.2.2.2.1, (N, V), s.2.2.2.2.2)
def sNo (s : TS) (N : List (List Int)) (V : List Int) (n : Int) : TS := (s.1, s.2.1, s.2.2.1, s.2.2.2.1, s.2.2.2.2.1, (N, V, n), s.2.2.2.2.2.2)
def sUn (s : TS) (n : Int) : TS := (s.1, s.2.1, s.2.2.1, s.2.2.2.1, s.2.2.2.2.1, s.2.2.2.2.2.1, n)
def tFl (k : Int) (s : TS) : TR := .inr (k, s.1.1, s.1.2.1)
def tBd (r : TR) (f : TS → TR) : TR := match r with
  | .inl s => f s
  | .inr e => .inr e
def tSp (n : Int) (s : TS) : TR := if 60000 < s.1.1 + n ∨ 400000 < s.1.2.1 + n then tFl 8 s else .inl (sWk s (s.1.1 + n) (s.1.2.1 + n))
def tPt (c : Int) (s : TS) : TR := tBd (tSp 1 s) fun s => .inl (sOu s (s.2.1 ++ [c]))
def tPs : List Int → TS → TR
  | [], s => .inl s
  | c :: r, s => tBd (tPt c s) (tPs r)
/-- a sign in a style -/
def cdS (y x : Int) : Int := x + 128 * y
def tPn (L : List Int) (s : TS) : TR := tPs (L.map (cdS s.1.2.2)) s
/-- a plain blank; words alone -/
def sbl (c : Int) : Bool := decide (c % 1024 - c % 512 + c % 128 = 32)
def pkF (q : List Int × Bool) (c : Int) : List Int × Bool := if sbl c = true then (q.1, true) else ((if q.2 = true ∧ 0 < q.1.length then q.1 ++ [32] else q.1) ++ [c], false)
def pkS (L : List Int) : List Int × Bool := L.foldl pkF ([], false)
def pkL (L : List Int) : List Int := (pkS L).1
/-- the last sign but blanks -/
def lsP : List Int → Int
  | [] => -1
  | c :: r => if lsP r = -1 then (if c % 128 = 32 then -1 else 0) else lsP r + 1
/-- a key, a number -/
def keyD (a : List Int) : Bool := decide (1 ≤ a.length ∧ a.length ≤ 12) && a.all (fun x => sWo (x % 128))
def nuV : List Int → Int → Int
  | [], v => v
  | x :: r, v => nuV r (v * 10 + x % 128 - 48)
def nuG (r : List Int) : Bool := decide (1 ≤ r.length ∧ r.length ≤ 4) && r.all (fun x => sDi (x % 128))
def nuM (a : List Int) : Bool := decide (0 < a.length ∧ a.getD 0 0 % 128 = 45)
def nuR (a : List Int) : List Int := if nuM a = true then a.drop 1 else a
def nuX (a : List Int) : Int := if nuM a = true then -(nuV (nuR a) 0) else nuV (nuR a) 0
def nuOk (a : List Int) (l m : Int) : Bool := nuG (nuR a) && decide (l ≤ nuX a ∧ nuX a ≤ m)
/-- a sign recast -/
def rcX (k t ah x : Int) : Int := if k = 0 then uppS x else if k = 2 then (if sLe ah = true then x else uppS x) else if k = 1 then lowS x else if sSm x = true then 97 + (x - 97 + t) % 26 else if sGr x = true then 65 + (x - 65 + t) % 26 else x
def rcS (k t ah c : Int) : Int := c - c % 128 + rcX k t ah (c % 128)
def rcL (k t : Int) : Int → List Int → List Int
  | _, [] => []
  | ah, c :: r => rcS k t ah c :: rcL k t (c % 128) r
/-- the nth word -/
def nwD (w : Int) : Int → Bool → List Int → List Int
  | _, _, [] => []
  | n, i, c :: r => if sbl c = true then nwD w n false r else if i = true then (if n = w then c :: nwD w n true r else nwD w n true r) else (if n + 1 = w then c :: nwD w (n + 1) true r else nwD w (n + 1) true r)
/-- the first place of a in b -/
def plN (a b : List Int) : Nat → Nat → Int
  | 0, _ => -1
  | m + 1, p => if ms7 ((b.drop p).take a.length) = ms7 a then (p : Int) else plN a b m (p + 1)
def plD (a b : List Int) : Int := plN a b (b.length + 1 - a.length) 0
/-- ((names, arities, bodies of macros), (labels, refs, pages, first, system of the round before), the latest number, marks allowed) -/
abbrev TE : Type := (List (List Int) × List Int × List (List Int)) × (List (List Int) × List (List Int) × List Int × Int × Int) × List Int × Int
def anD : List Int := [1, 1, 1, 2, 1, 2, 3, 2, 1, 2, 2, 2, 2, 2, 2, 4, 1, 1, 1, 1, 1]
/-- reshape -/
def gv1 (k : Int) (a : List (List Int)) (s : TS) : TR :=
  if k = 4 then tPs (a.getD 0 []).reverse s
  else if k = 5 then (if nuOk (a.getD 0 []) 0 50 = true then tPs (List.replicate (nuX (a.getD 0 [])).toNat (a.getD 1 [])).flatten s else tFl 5 s)
  else if k = 6 then (if nuOk (a.getD 0 []) 0 9999 = true then (if nuOk (a.getD 1 []) 0 9999 = true then tPs (((a.getD 2 []).drop (nuX (a.getD 0 [])).toNat).take (nuX (a.getD 1 [])).toNat) s else tFl 5 s) else tFl 5 s)
  else if k = 7 then (if nuOk (a.getD 0 []) (-9999) 9999 = true then tPs (nwD (nuX (a.getD 0 [])) (-1) false (a.getD 1 [])) s else tFl 5 s)
  else if k = 3 then (if nuOk (a.getD 0 []) (-9999) 9999 = true then tPs (rcL 3 (nuX (a.getD 0 [])) (-1) (a.getD 1 [])) s else tFl 5 s)
  else tPs (rcL k 0 (-1) (a.getD 0 [])) s
/-- reckon -/
def gv2 (k : Int) (a : List (List Int)) (s : TS) : TR :=
  if k = 8 then tPn (wrN ((a.getD 0 []).length : Int) 1) s
  else if k = 9 then tPn (wrN (plD (a.getD 0 []) (a.getD 1 [])) 1) s
  else if k = 10 ∨ k = 11 then (if nuOk (a.getD 0 []) (-9999) 9999 = true ∧ nuOk (a.getD 1 []) (-9999) 9999 = true then tPn (wrN (if k = 10 then nuX (a.getD 0 []) + nuX (a.getD 1 []) else nuX (a.getD 0 []) * nuX (a.getD 1 [])) 1) s else tFl 5 s)
  else (if nuOk (a.getD 0 []) (-9999) 9999 = true ∧ nuOk (a.getD 1 []) 1 5 = true then tPn (wrN (nuX (a.getD 0 [])) (nuX (a.getD 1 []))) s else tFl 5 s)
/-- counters -/
def gv3 (k : Int) (a : List (List Int)) (s : TS) : TR :=
  if keyD (a.getD 0 []) = true ∧ nuOk (a.getD 1 []) 1 5 = true then
    (if ixW s.2.2.1.1 0 (ms7 (a.getD 0 [])) = -1 then
      (if k = 13 then (if 20 ≤ s.2.2.1.1.length then tFl 9 s else tPn (wrN 1 (nuX (a.getD 1 []))) (sCn s (s.2.2.1.1 ++ [ms7 (a.getD 0 [])]) (s.2.2.1.2 ++ [1])))
      else tPn (wrN 0 (nuX (a.getD 1 []))) s)
    else if k = 13 then tPn (wrN (s.2.2.1.2.getD (ixW s.2.2.1.1 0 (ms7 (a.getD 0 []))).toNat 0 + 1) (nuX (a.getD 1 []))) (sCn s s.2.2.1.1 (s.2.2.1.2.set (ixW s.2.2.1.1 0 (ms7 (a.getD 0 []))).toNat (s.2.2.1.2.getD (ixW s.2.2.1.1 0 (ms7 (a.getD 0 []))).toNat 0 + 1)))
    else tPn (wrN (s.2.2.1.2.getD (ixW s.2.2.1.1 0 (ms7 (a.getD 0 []))).toNat 0) (nuX (a.getD 1 []))) s)
  else tFl 5 s
/-- note, label, index, ref, page -/
def gvN (a : List (List Int)) (s : TS) : TR :=
  if 60 ≤ s.2.2.2.2.2.1.2.2 then tFl 9 s else
  tBd (tPn (91 :: (wrN (s.2.2.2.2.2.1.2.2 + 1) 1 ++ [93])) (sNo s (s.2.2.2.2.2.1.1 ++ [a.getD 0 []]) s.2.2.2.2.2.1.2.1 (s.2.2.2.2.2.1.2.2 + 1))) fun s1 => .inl (sNo s1 s1.2.2.2.2.2.1.1 (s1.2.2.2.2.2.1.2.1 ++ [((pkL s1.2.1).length : Int) - 1]) s1.2.2.2.2.2.1.2.2)
def gvL (E : TE) (a : List (List Int)) (s : TS) : TR :=
  if keyD (a.getD 0 []) = true then
    (if ixW s.2.2.2.1.1 0 (ms7 (a.getD 0 [])) = -1 then
      (if 60 ≤ s.2.2.2.1.1.length then tFl 9 s else .inl (sLb s (s.2.2.2.1.1 ++ [ms7 (a.getD 0 [])]) (s.2.2.2.1.2.1 ++ [E.2.2.1]) (s.2.2.2.1.2.2 ++ [lsP (pkL s.2.1)])))
    else tFl 10 s)
  else tFl 5 s
def gvI (a : List (List Int)) (s : TS) : TR :=
  if pkL (a.getD 0 []) = [] then tFl 5 s else if 100 ≤ s.2.2.2.2.1.1.length then tFl 9 s else .inl (sKy s (s.2.2.2.2.1.1 ++ [ms7 (pkL (a.getD 0 []))]) (s.2.2.2.2.1.2 ++ [lsP (pkL s.2.1)]))
def gvR (E : TE) (k : Int) (a : List (List Int)) (s : TS) : TR :=
  if keyD (a.getD 0 []) = true then
    (if ixW E.2.1.1 0 (ms7 (a.getD 0 [])) = -1 then tPn [63, 63] (sUn s (s.2.2.2.2.2.2 + 1))
    else if k = 19 then tPn (E.2.1.2.1.getD (ixW E.2.1.1 0 (ms7 (a.getD 0 []))).toNat []) s
    else tPn (wrN (E.2.1.2.2.2.1 + E.2.1.2.2.1.getD (ixW E.2.1.1 0 (ms7 (a.getD 0 []))).toNat 0) E.2.1.2.2.2.2) s)
  else tFl 5 s
def gvD (E : TE) (k : Int) (a : List (List Int)) (s : TS) : TR :=
  if k ≤ 7 then gv1 k a s else if k ≤ 12 then gv2 k a s else if k ≤ 14 then gv3 k a s else if k = 16 then gvN a s else if k = 17 then gvL E a s else if k = 18 then gvI a s else gvR E k a s
/-! where things stand in a text -/
def sgT (T : List Int) (a b : Nat) : List Int := (T.drop a).take (b - a)
def clN : Nat → List Int → Int → Nat → Int
  | 0, _, _, _ => -1
  | _ + 1, [], _, _ => -1
  | f + 1, c :: r, o, p => if c = 92 then clN f r.tail o (p + 2) else if c = 123 then clN f r (o + 1) (p + 1) else if c = 125 then (if o - 1 = 0 then (p : Int) else clN f r (o - 1) (p + 1)) else clN f r o (p + 1)
/-- the brace that closes the one at p, or NONE -/
def clD (T : List Int) (p : Nat) : Int := clN (T.length + 1) (T.drop p) 0 p
def neD (T : List Int) (p : Nat) : Nat := p + ((T.drop p).takeWhile sLe).length
def faD (T : List Int) : Nat → Nat → (List (Nat × Nat) × Nat) ⊕ Int
  | 0, p => .inl ([], p)
  | n + 1, p => if T.length ≤ p ∨ ¬ T.getD p 0 = 123 then .inr 4 else if clD T p = -1 then .inr 2 else match faD T n ((clD T p).toNat + 1) with
    | .inl q => .inl ((p + 1, (clD T p).toNat) :: q.1, q.2)
    | .inr k => .inr k
abbrev Sub9 : Type := Bool → List (List Int) → List Int → TS → TR
def eaD (sub : Sub9) (f : List (List Int)) (T : List Int) : List (Nat × Nat) → TS → (List (List Int) × TS) ⊕ (Int × Int × Int)
  | [], s => .inl ([], s)
  | q :: r, s => match sub true f (sgT T q.1 q.2) (sOu s []) with
    | .inr e => .inr e
    | .inl s1 => match eaD sub f T r (sOu s1 s.2.1) with
      | .inr e => .inr e
      | .inl w => .inl (s1.2.1 :: w.1, w.2)
/-- the macro's place, or NONE; the call's kind, or NONE -/
def maD (E : TE) (T : List Int) (p : Nat) : Int := ixW E.1.1 0 (sgT T p (neD T p))
def kiD (E : TE) (T : List Int) (p : Nat) : Int := if maD E T p = -1 then ixW (wdT 1) 0 (sgT T p (neD T p)) else -1
def arD (E : TE) (T : List Int) (p : Nat) : Nat := if maD E T p = -1 then (anD.getD (kiD E T p).toNat 0).toNat else (E.1.2.1.getD (maD E T p).toNat 0).toNat
def nxC (E : TE) (T : List Int) (p : Nat) : Nat := match faD T (arD E T p) (neD T p) with
  | .inl q => q.2
  | .inr _ => 0
/-- a mark that isn't allowed -/
def noM (E : TE) (a : Bool) (k : Int) : Bool := decide (k = 16 ∨ k = 17 ∨ k = 18) && (a || decide (E.2.2.2 < (if k = 16 then 2 else 1)))
/-- behind the arguments -/
def caG (sub : Sub9) (E : TE) (a : Bool) (f : List (List Int)) (T : List Int) (m k : Int) (sp : List (Nat × Nat)) (w : List (List Int)) (s : TS) : TR :=
  if ¬ m = -1 then sub a w (E.1.2.2.getD m.toNat []) s
  else if k = 15 then (if ms7 (w.getD 0 []) = ms7 (w.getD 1 []) then sub a f (sgT T (sp.getD 2 (0, 0)).1 (sp.getD 2 (0, 0)).2) s else sub a f (sgT T (sp.getD 3 (0, 0)).1 (sp.getD 3 (0, 0)).2) s)
  else gvD E k w s
def caW (sub : Sub9) (E : TE) (a : Bool) (f : List (List Int)) (T : List Int) (p : Nat) (s0 : TS) : TR :=
  tBd (tSp 20 s0) fun s =>
  if maD E T p = -1 ∧ kiD E T p = -1 then tFl 3 s
  else if maD E T p = -1 ∧ noM E a (kiD E T p) = true then tFl 6 s
  else match faD T (arD E T p) (neD T p) with
    | .inr k => tFl k s
    | .inl q => match eaD sub f T (if maD E T p = -1 ∧ kiD E T p = 15 then q.1.take 2 else q.1) s with
      | .inr e => .inr e
      | .inl w => caG sub E a f T (maD E T p) (kiD E T p) q.1 w.1 w.2
def wkP (sub : Sub9) (E : TE) (a : Bool) (f : List (List Int)) (T : List Int) : Nat → Nat → TS → TR
  | 0, _, s => .inl s
  | n + 1, p, s =>
    if T.length ≤ p then .inl s
    else if T.getD p 0 = 92 then
      (if T.length ≤ p + 1 then tFl 2 s
      else if sLe (T.getD (p + 1) 0) = true then tBd (caW sub E a f T (p + 1) s) (wkP sub E a f T n (nxC E T (p + 1)))
      else tBd (tPt (cdS s.1.2.2 (if T.getD (p + 1) 0 = 32 then 544 else T.getD (p + 1) 0)) s) (wkP sub E a f T n (p + 2)))
    else if T.getD p 0 = 123 then
      (if clD T p = -1 then tFl 2 s else tBd (sub a f (sgT T (p + 1) (clD T p).toNat) s) (wkP sub E a f T n ((clD T p).toNat + 1)))
    else if T.getD p 0 = 125 then tFl 2 s
    else if T.getD p 0 = 35 then
      (if p + 1 < T.length ∧ 49 ≤ T.getD (p + 1) 0 ∧ T.getD (p + 1) 0 ≤ 57 ∧ T.getD (p + 1) 0 - 48 ≤ f.length then tBd (tPs (f.getD (T.getD (p + 1) 0 - 49).toNat []) s) (wkP sub E a f T n (p + 2)) else tFl 11 s)
    else if T.getD p 0 = 42 then wkP sub E a f T n (p + 1) (sSt s (if s.1.2.2 % 2 = 0 then s.1.2.2 + 1 else s.1.2.2 - 1))
    else if T.getD p 0 = 95 then wkP sub E a f T n (p + 1) (sSt s (if s.1.2.2 < 2 then s.1.2.2 + 2 else s.1.2.2 - 2))
    else tBd (tPt (cdS s.1.2.2 (T.getD p 0)) s) (wkP sub E a f T n (p + 1))
def wkD : Nat → TE → Sub9
  | 0, E => fun a f T s => wkP (fun _ _ _ s => tFl 7 s) E a f T T.length 0 s
  | D + 1, E => fun a f T s => wkP (fun a f T s => tBd (tSp 5 s) fun s1 => tBd (wkD D E a f T s1) fun s2 => .inl (sSt s2 s1.1.2.2)) E a f T T.length 0 s
/-- within braces, at a depth -/
def isD (D : Nat) (E : TE) : Sub9 := match D with
  | 0 => fun _ _ _ s => tFl 7 s
  | D + 1 => fun a f T s => tBd (tSp 5 s) fun s1 => tBd (wkD D E a f T s1) fun s2 => .inl (sSt s2 s1.1.2.2)
theorem wkD_i {D : Nat} {E : TE} {a : Bool} {f : List (List Int)} {T : List Int} {s : TS} : wkD D E a f T s = wkP (isD D E) E a f T T.length 0 s := by
  cases D <;> rfl
