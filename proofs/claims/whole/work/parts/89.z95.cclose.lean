/-! A ROUND ENDS: what it tells; the class -/
def rmP (S : List Int) : Int := S.getD 9 0 - (if S.getD 10 0 = 1 then 2 else 0)
/-- what a round tells to the next -/
def neB9 (d : RD9) (P : List (Nat × Nat)) : BF9 := ((d.1.1.2.2.2.1.1, d.1.1.2.2.2.1.2.1, d.1.1.2.2.2.1.2.2.map (fun v => (pgN P v : Int)), d.2.2.1.1.getD 11 0, d.2.2.1.1.getD 12 0), (d.2.1.1, d.2.1.2.1, d.2.1.2.2.map (fun v => (pgN P v : Int))), (d.1.1.2.2.2.2.1.1, d.1.1.2.2.2.2.1.2.map (fun v => (pgN P v : Int))))
theorem pgN_mo {x y : Int} (h : x ≤ y) : ∀ {P : List (Nat × Nat)}, pgN P x ≤ pgN P y
  | [] => Nat.le_refl _
  | p :: P => by
    have ih := pgN_mo h (P := P)
    show (if x ≤ (p.2 : Int) then 0 else pgN P x + 1) ≤ (if y ≤ (p.2 : Int) then 0 else pgN P y + 1)
    by_cases c : y ≤ (p.2 : Int)
    · rw [if_pos c, if_pos (by omega)]
      exact Nat.le_refl _
    · rw [if_neg c]
      split <;> omega
theorem map_gd9 {f : Int → Int} {V : List Int} {k : Nat} (h : k < V.length) : (V.map f).getD k 0 = f (V.getD k 0) := by
  unfold List.getD
  rw [List.getElem?_map, List.getElem?_eq_getElem h]
  rfl
section
variable {d : RD9} {i : Nat} {P : List (Nat × Nat)}
theorem RDI.pg (h : RDI d i) : PgB (rmP d.2.2.1.1) d.1.2.1.2 d.1.2.1.1 d.1.2.2.1.1 d.1.2.2.1.2 ∧ 3 ≤ rmP d.2.2.1.1 := by
  obtain ⟨⟨ti, gb, ⟨n1, n2⟩, fl, mk, ⟨m1, m2, m3⟩, hd, -⟩, ru, -⟩ := h
  have b9 : (5 : Int) ≤ d.2.2.1.1.getD 9 0 ∧ d.2.2.1.1.getD 9 0 ≤ 60 := ru.1.2 9 (by decide)
  have n60 : d.1.1.2.2.2.2.2.1.2.2 ≤ 60 := ti.2.2.2.2.1.2.2.1
  have rm : rmP d.2.2.1.1 = d.2.2.1.1.getD 9 0 - (if d.2.2.1.1.getD 10 0 = 1 then 2 else 0) := rfl
  have rb : 3 ≤ rmP d.2.2.1.1 ∧ rmP d.2.2.1.1 ≤ 60 := by
    rw [rm]
    split <;> omega
  exact ⟨⟨by omega, GB9.fl gb (by decide), gb.2.2.1, fl, m1, m2, m3, n2, by omega⟩, rb.1⟩
theorem neB9_i (h : RDI d i) (hP : P.length ≤ 99) : BfI (neB9 d P) := by
  obtain ⟨⟨ti, gb, -, -, ⟨-, -, srt⟩, -, hd, ⟨-, g1, g2⟩⟩, ru, -⟩ := h
  obtain ⟨⟨w1, -⟩, -, ⟨l1, l2, l3, l4, l5⟩, ⟨k1, k2, k3⟩, -, -, tot⟩ := ti
  have b11 : (1 : Int) ≤ d.2.2.1.1.getD 11 0 ∧ d.2.2.1.1.getD 11 0 ≤ 999 := ru.1.2 11 (by decide)
  have b12 : (1 : Int) ≤ d.2.2.1.1.getD 12 0 ∧ d.2.2.1.1.getD 12 0 ≤ 5 := ru.1.2 12 (by decide)
  have pb : ∀ v : Int, 0 ≤ (pgN P v : Int) ∧ (pgN P v : Int) ≤ 99 := fun v => by
    have := pgN_l (P := P) (x := v)
    omega
  have w1 : 0 ≤ d.1.1.1.1 ∧ d.1.1.1.1 ≤ 60000 := w1
  have tot : (suM d.1.1.2.2.2.2.1.1 : Int) + ((0 : Nat) : Int) + ((0 : Nat) : Int) + ((suM d.2.1.1 : Nat) + 100 : Int) ≤ d.1.1.1.1 + 100 := tot
  refine ⟨⟨l1, ?_, l3, l4, l5, fun x hx => ?_, ⟨by show 0 ≤ d.2.2.1.1.getD 11 0; omega, b11.2⟩, fun _ => b12⟩, ⟨hd.1, hd.2.1, ?_, ?_, g1, fun k hk => ⟨?_, ?_⟩⟩, ⟨k2, ?_, ?_, k3, trivial, fun x hx => ?_, fun a b hab hb => ?_⟩, fun _ => b12⟩
  · show (d.1.1.2.2.2.1.2.2.map _).length = _
    rw [List.length_map]
    exact l2
  · obtain ⟨v, -, e⟩ := List.mem_map.mp hx
    have := pb v
    omega
  · show (d.2.1.2.2.map _).length = _
    rw [List.length_map]
    exact hd.2.2
  · show suM d.2.1.1 ≤ 61000
    omega
  · have hk : k < d.2.1.1.length := hk
    exact g2 _ (gd_mem (L := d.2.1.2.1) (by rw [hd.2.1]; exact hk))
  · have hk : k < d.2.1.1.length := hk
    show 0 ≤ (d.2.1.2.2.map _).getD k 0 ∧ (d.2.1.2.2.map _).getD k 0 ≤ 100
    rw [map_gd9 (by rw [hd.2.2]; exact hk)]
    have := pb (d.2.1.2.2.getD k 0)
    omega
  · show (d.1.1.2.2.2.2.1.2.map _).length = _
    rw [List.length_map]
    exact k1
  · show suM d.1.1.2.2.2.2.1.1 ≤ 60200
    omega
  · obtain ⟨v, -, e⟩ := List.mem_map.mp hx
    have := pb v
    omega
  · have k1' : d.1.1.2.2.2.2.1.2.length = d.1.1.2.2.2.2.1.1.length := k1
    have hb : b < d.1.1.2.2.2.2.1.1.length := hb
    show (d.1.1.2.2.2.2.1.2.map _).getD a 0 ≤ (d.1.1.2.2.2.2.1.2.map _).getD b 0
    rw [map_gd9 (by omega), map_gd9 (by omega)]
    have := pgN_mo (srt a b hab (by omega)) (P := P)
    omega
end
/-- what a round's end leaves -/
def FrCl (z : Nat) (σ σ' : MS) : Prop := (∀ q, q ∉ [146, 148, z + 11, z + 20, z + 29] → mX σ' q = mX σ q) ∧ σ'.2.2 = σ.2.2 ∧ ∀ y k, ¬ (y = z ∧ (k = 14 ∨ k = 15)) → ¬ (y = 127 ∧ k = 18) → mV σ' y k = mV σ y k
section
variable {σ : MS} {Q : MQ9} {z z' c0 i : Nat} {M : List Int} {B : BF9} {jo : Bool} {d : RD9}
/-- a round ends, the class -/
theorem Setter_closeRound.c (h : RDI d i) (hC : CdC σ M B z z' jo c0 d) (h146 : mX σ 146 = []) (h148 : mX σ 148 = []) (hy : ∀ P σ', pgD (rmP d.2.2.1.1) d.1.2.1.2 d.1.2.1.1 d.1.2.2.1.1 d.1.2.2.1.2 d.1.2.1.2.length 0 0 = some P → P.length ≤ 99 → MkC σ' z (neB9 d P) → mX σ' 146 = P.map (fun p => (p.1 : Int)) → mX σ' 148 = P.map (fun p => (p.2 : Int)) → mV σ' z 14 = d.2.2.1.1.getD 11 0 → mV σ' z 15 = d.2.2.1.1.getD 12 0 → mV σ' 127 18 = bZ (lkB (neB9 d P) B) → FrCl z σ σ' → Q (.inl none) σ') (hn : ∀ σ', pgD (rmP d.2.2.1.1) d.1.2.1.2 d.1.2.1.1 d.1.2.2.1.1 d.1.2.2.1.2 d.1.2.1.2.length 0 0 = none → TxF σ' (9, d.1.1.1.1, d.1.1.1.2.1) → FrPa σ σ' → Q (.inr (exN 0)) σ') : Setter_closeRound σ Q := by
  obtain ⟨pgb, r3⟩ := h.pg
  obtain ⟨⟨m1, m2⟩, k1, h1, r1, n1, bb, ⟨⟨t1, t2⟩, t3, t4⟩, ⟨⟨i1, i2⟩, i3⟩⟩ := hC
  have hz : z = 49 ∨ z = 163 := k1.1.2.1.2.1.2.2.1
  have hz' : z' = 49 ∨ z' = 163 := k1.1.2.1.2.1.2.2.2.1
  have hne : z ≠ z' := k1.1.2.1.2.2
  have b0 : mB σ 0 = z := k1.1.2.1.1
  have im : isMarks z = true := by rcases hz with rfl | rfl <;> decide
  have ir : isRow (z + 11) = true ∧ isRow (z + 20) = true ∧ isRow (z + 29) = true := by rcases hz with rfl | rfl <;> decide
  have r1' : RuC σ d.2.2.1 c0 := r1
  have s9 := h.2.1.1.2 9 (by decide)
  have s9 : (5 : Int) ≤ d.2.2.1.1.getD 9 0 ∧ d.2.2.1.1.getD 9 0 ≤ 60 := s9
  have s10 := h.2.1.1.2 10 (by decide)
  have s10 : (0 : Int) ≤ d.2.2.1.1.getD 10 0 ∧ d.2.2.1.1.getD 10 0 ≤ 1 := s10
  have erm : d.2.2.1.1.getD 9 0 - 2 * d.2.2.1.1.getD 10 0 = rmP d.2.2.1.1 := by
    unfold rmP
    split <;> omega
  have hK := k1.1.2.2.2.1
  have hKB := k1.1.2.2.2.2.1
  obtain ⟨⟨⟨la1, la2⟩, ⟨lb1, lb2⟩, l3⟩, ⟨⟨lk1, lk2⟩, l5⟩, -, -, -⟩ := hK
  obtain ⟨⟨hd1, hd2⟩, hd3, hd4, hd5⟩ := h1
  have ti := h.1.1
  have cg : PgC σ d.1.2.1.2 d.1.2.1.1 d.1.2.2.1.1 d.1.2.2.1.2 := ⟨k1.2.1.2.2.2.2.1, k1.2.1.2.2.2.1, k1.2.2.1, k1.2.2.2.1, k1.2.2.2.2.1⟩
  refine Setter_closeRound.i (Setter_pageRoom.i (told_c (k := 9) (by decide) (r1'.1 9 (by decide)) (told_c (k := 10) (by decide) (r1'.1 10 (by decide)) ⟨by unfold Rg; omega, ?_⟩)))
  show Galley_paginate (d.2.2.1.1.getD 9 0 - 2 * d.2.2.1.1.getD 10 0) σ _
  rw [erm]
  refine Galley_paginate.c pgb cg h146 h148 (fun P σ2 w1 w2 w3 w4 w5 w6 => ?_) (fun σ2 w1 w2 w3 w4 => hn σ2 w1 ⟨w3, (w4 0 (by decide)).trans k1.1.1.1, (w4 1 (by decide)).trans k1.1.1.2⟩ w2)
  have x2 : ∀ q, q ≠ 146 → q ≠ 148 → mX σ2 q = mX σ q := w5.1
  have eB2 : mB σ2 = mB σ := congrArg Prod.fst w5.2.1
  have l60 : d.1.1.2.2.2.1.2.2.length ≤ 1000 := by
    have a1 : d.1.1.2.2.2.1.2.2.length = d.1.1.2.2.2.1.1.length := ti.2.2.1.2.1
    have a2 : d.1.1.2.2.2.1.1.length ≤ 60 := ti.2.2.1.2.2.1
    omega
  have k100 : d.1.1.2.2.2.2.1.2.length ≤ 1000 := by
    have a1 : d.1.1.2.2.2.2.1.2.length = d.1.1.2.2.2.2.1.1.length := ti.2.2.2.1.1
    have a2 : d.1.1.2.2.2.2.1.1.length ≤ 100 := ti.2.2.2.1.2.1
    omega
  have hh := h.1.2.2.2.2.2.2.1
  have h60 : d.2.1.2.2.length ≤ 1000 := by
    have a1 := hh.2.2
    have a2 := hh.1
    omega
  show tB (isMarks (mB σ2 0)) (Galley_turnToPages (mB σ2 0 + 11) σ2 _)
  rw [eB2, b0]
  refine tB.i im (Galley_turnToPages.c (P := P) (V := d.1.1.2.2.2.1.2.2) ir.1 (by omega) w2 w4 ((x2 _ (by omega) (by omega)).trans l3) l60 (fun σ3 y1 y2 y3 => ?_))
  have eB3 : mB σ3 = mB σ := (congrArg (fun x => x.2.1) y3).trans eB2
  show tB (isMarks (mB σ3 0)) (Galley_turnToPages (mB σ3 0 + 20) σ3 _)
  rw [eB3, b0]
  refine tB.i im (Galley_turnToPages.c (P := P) (V := d.2.1.2.2) ir.2.1 (by omega) w2 ((y2 _ (by omega)).trans w4) ((y2 _ (by omega)).trans ((x2 _ (by omega) (by omega)).trans hd4)) h60 (fun σ4 u1 u2 u3 => ?_))
  have eB4 : mB σ4 = mB σ := (congrArg (fun x => x.2.1) u3).trans eB3
  show tB (isMarks (mB σ4 0)) (Galley_turnToPages (mB σ4 0 + 29) σ4 _)
  rw [eB4, b0]
  refine tB.i im (Galley_turnToPages.c (P := P) (V := d.1.1.2.2.2.2.1.2) ir.2.2 (by omega) w2 ((u2 _ (by omega)).trans ((y2 _ (by omega)).trans w4)) ((u2 _ (by omega)).trans ((y2 _ (by omega)).trans ((x2 _ (by omega) (by omega)).trans l5))) k100 (fun σ5 p1 p2 p3 => ?_))
  have eB5 : mB σ5 = mB σ := (congrArg (fun x => x.2.1) p3).trans eB4
  have ev5 : ∀ y k, mV σ5 y k = mV σ y k := fun y k => (congrFun (congrFun (congrArg (fun x => x.1) p3) y) k).trans ((congrFun (congrFun (congrArg (fun x => x.1) u3) y) k).trans ((congrFun (congrFun (congrArg (fun x => x.1) y3) y) k).trans (w6 y k)))
  have x5 : ∀ q, q ≠ 146 → q ≠ 148 → q ≠ z + 11 → q ≠ z + 20 → q ≠ z + 29 → mX σ5 q = mX σ q := fun q a1 a2 a3 a4 a5 => (p2 q a5).trans ((u2 q a4).trans ((y2 q a3).trans (x2 q a1 a2)))
  refine told_c (k := 11) (by decide) ((ev5 24 11).trans (r1'.1 11 (by decide))) ?_
  show tB (isMarks (mB σ5 0)) (Rules_told 12 (wV σ5 (mB σ5 0) 14 (d.2.2.1.1.getD 11 0)) _)
  rw [eB5, b0]
  refine tB.i im (told_c (k := 12) (by decide) ((wV_ne (Or.inl (by omega))).trans ((ev5 24 12).trans (r1'.1 12 (by decide)))) ?_)
  show tB (isMarks z) (tB (isMarks (mB σ5 0)) (Marks_like (mB σ5 0) (mB σ5 1) (wV (wV σ5 z 14 (d.2.2.1.1.getD 11 0)) z 15 (d.2.2.1.1.getD 12 0)) _))
  rw [eB5, b0, bb]
  have mk : MkC (wV (wV σ5 z 14 (d.2.2.1.1.getD 11 0)) z 15 (d.2.2.1.1.getD 12 0)) z (neB9 d P) := ⟨⟨(x5 _ (by omega) (by omega) (by omega) (by omega) (by omega)).trans la1, (x5 _ (by omega) (by omega) (by omega) (by omega) (by omega)).trans la2⟩, ⟨(x5 _ (by omega) (by omega) (by omega) (by omega) (by omega)).trans lb1, (x5 _ (by omega) (by omega) (by omega) (by omega) (by omega)).trans lb2⟩, (p2 _ (by omega)).trans ((u2 _ (by omega)).trans y1), ⟨(x5 _ (by omega) (by omega) (by omega) (by omega) (by omega)).trans hd1, (x5 _ (by omega) (by omega) (by omega) (by omega) (by omega)).trans hd2⟩, (x5 _ (by omega) (by omega) (by omega) (by omega) (by omega)).trans hd3, (p2 _ (by omega)).trans u1, ⟨(x5 _ (by omega) (by omega) (by omega) (by omega) (by omega)).trans lk1, (x5 _ (by omega) (by omega) (by omega) (by omega) (by omega)).trans lk2⟩, p1⟩
  have mk' : MkC (wV (wV σ5 z 14 (d.2.2.1.1.getD 11 0)) z 15 (d.2.2.1.1.getD 12 0)) z' B := ⟨⟨(x5 _ (by omega) (by omega) (by omega) (by omega) (by omega)).trans hKB.1.1, (x5 _ (by omega) (by omega) (by omega) (by omega) (by omega)).trans hKB.1.2⟩, ⟨(x5 _ (by omega) (by omega) (by omega) (by omega) (by omega)).trans hKB.2.1.1, (x5 _ (by omega) (by omega) (by omega) (by omega) (by omega)).trans hKB.2.1.2⟩, (x5 _ (by omega) (by omega) (by omega) (by omega) (by omega)).trans hKB.2.2.1, ⟨(x5 _ (by omega) (by omega) (by omega) (by omega) (by omega)).trans t1, (x5 _ (by omega) (by omega) (by omega) (by omega) (by omega)).trans t2⟩, (x5 _ (by omega) (by omega) (by omega) (by omega) (by omega)).trans t3, (x5 _ (by omega) (by omega) (by omega) (by omega) (by omega)).trans t4, ⟨(x5 _ (by omega) (by omega) (by omega) (by omega) (by omega)).trans i1, (x5 _ (by omega) (by omega) (by omega) (by omega) (by omega)).trans i2⟩, (x5 _ (by omega) (by omega) (by omega) (by omega) (by omega)).trans i3⟩
  refine tB.i im (tB.i im (Marks_like.c hz hz' mk mk' ?_))
  show b01 (bZ (lkB (neB9 d P) B)) (Q (.inl none) (wV (wV (wV σ5 z 14 (d.2.2.1.1.getD 11 0)) z 15 (d.2.2.1.1.getD 12 0)) 127 18 (bZ (lkB (neB9 d P) B))))
  have fin := hy P (wV (wV (wV σ5 z 14 (d.2.2.1.1.getD 11 0)) z 15 (d.2.2.1.1.getD 12 0)) 127 18 (bZ (lkB (neB9 d P) B))) w1 w2 mk ((p2 _ (by omega)).trans ((u2 _ (by omega)).trans ((y2 _ (by omega)).trans w3))) ((p2 _ (by omega)).trans ((u2 _ (by omega)).trans ((y2 _ (by omega)).trans w4))) ((wV_ne (Or.inl (by omega))).trans ((wV_ne (Or.inr (by decide))).trans wV_self)) ((wV_ne (Or.inl (by omega))).trans wV_self) wV_self ⟨fun q a => x5 q (fun e => a (by rw [e]; simp)) (fun e => a (by rw [e]; simp)) (fun e => a (by rw [e]; simp)) (fun e => a (by rw [e]; simp)) (fun e => a (by rw [e]; simp)), (congrArg Prod.snd p3).trans ((congrArg Prod.snd u3).trans ((congrArg Prod.snd y3).trans w5.2.1)), fun y k a1 a2 => (wV_ne (by omega)).trans ((wV_ne (by omega)).trans ((wV_ne (by omega)).trans (ev5 y k)))⟩
  exact b01.i bZ_01 fin
end
