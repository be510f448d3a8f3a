/-! LINES ARE PRINTED: the galley, class -/
/-- a line: codes, origin, flag; a galley: (work here, ever), lines, flow -/
abbrev GL9 : Type := List Int × Int × Int
abbrev GS9 : Type := (Int × Int) × List GL9 × List Int
abbrev GR9 : Type := GS9 ⊕ (Int × Int × Int)
def gSp (n : Int) (G : GS9) : GR9 := if 60000 < G.1.1 + n ∨ 400000 < G.1.2 + n then .inr (8, G.1.1, G.1.2) else .inl ((G.1.1 + n, G.1.2 + n), G.2)
def gBd (r : GR9) (f : GS9 → GR9) : GR9 := match r with
  | .inl s => f s
  | .inr e => .inr e
def gFin (o : Int) (C : List Int) (fl : Int) (fw : Bool) (G : GS9) : GR9 := if 1500 ≤ G.2.1.length then .inr (9, G.1.1, G.1.2) else gBd (gSp (20 + (C.length : Int)) G) fun G => .inl (G.1, G.2.1 ++ [(C, o, fl)], if fw = true then G.2.2 ++ [(G.2.1.length : Int)] else G.2.2)
/-- several lines -/
def gAll (o : Int) (fw : Bool) : List (List Int × Int) → GS9 → GR9
  | [], G => .inl G
  | l :: r, G => gBd (gFin o l.1 l.2 fw G) (gAll o fw r)
def GaC (σ : MS) (G : GS9) (C : List Int) : Prop := mX σ 130 = (G.2.1.map (·.1)).flatten ++ C ∧ mX σ 132 = enS 0 (G.2.1.map (·.1)) ∧ mX σ 134 = G.2.1.map (·.2.1) ∧ mX σ 136 = G.2.1.map (·.2.2) ∧ mX σ 138 = G.2.2 ∧ mV σ 22 0 = G.1.1 ∧ mV σ 22 1 = G.1.2
def GB9 (c : Int) (G : GS9) : Prop := (0 ≤ G.1.1 ∧ G.1.1 ≤ 60000) ∧ (0 ≤ G.1.2 ∧ G.1.2 ≤ 400000) ∧ G.2.1.length ≤ 1500 ∧ ((suM (G.2.1.map (·.1)) : Nat) : Int) + 20 * G.2.1.length ≤ G.1.1 ∧ 45 * (G.2.2.length : Int) ≤ 3 * G.1.1 + 75 * G.2.1.length + c
def FrGa (σ σ' : MS) : Prop := (∀ q, q ≠ 130 → q ≠ 132 → q ≠ 134 → q ≠ 136 → q ≠ 138 → mX σ' q = mX σ q) ∧ σ'.2.2 = σ.2.2 ∧ ∀ z k, z ≠ 22 → mV σ' z k = mV σ z k
theorem FrGa.rf {σ : MS} : FrGa σ σ := ⟨fun _ _ _ _ _ _ => rfl, rfl, fun _ _ _ => rfl⟩
theorem FrGa.tr {σ σ1 σ2 : MS} (h : FrGa σ σ1) (h' : FrGa σ1 σ2) : FrGa σ σ2 := ⟨fun q a b c d e => (h'.1 q a b c d e).trans (h.1 q a b c d e), h'.2.1.trans h.2.1, fun z k a => (h'.2.2 z k a).trans (h.2.2 z k a)⟩
theorem FrGa.x {σ : MS} {q : Nat} {L : List Int} (h : q = 130 ∨ q = 132 ∨ q = 134 ∨ q = 136 ∨ q = 138) : FrGa σ (wX σ q L) := ⟨fun q' a b c d e => wX_ne (by rcases h with rfl | rfl | rfl | rfl | rfl <;> assumption), rfl, fun _ _ _ => rfl⟩
theorem FrGa.v {σ : MS} {k : Nat} {x : Int} : FrGa σ (wV σ 22 k x) := ⟨fun _ _ _ _ _ _ => rfl, rfl, fun z k' h => wV_ne (Or.inl h)⟩
theorem gSp_y {n : Int} {G : GS9} (h : ¬ (60000 < G.1.1 + n ∨ 400000 < G.1.2 + n)) : gSp n G = .inl ((G.1.1 + n, G.1.2 + n), G.2) := if_neg h
theorem gSp_n {n : Int} {G : GS9} (h : 60000 < G.1.1 + n ∨ 400000 < G.1.2 + n) : gSp n G = .inr (8, G.1.1, G.1.2) := if_pos h
/-- work grows, lines are within bounds -/
theorem gFin_b {c o fl : Int} {C : List Int} {fw : Bool} {G G' : GS9} (hB : GB9 c G) (h : gFin o C fl fw G = .inl G') : GB9 (c - 90) G' ∧ G' = ((G.1.1 + (20 + (C.length : Int)), G.1.2 + (20 + (C.length : Int))), G.2.1 ++ [(C, o, fl)], if fw = true then G.2.2 ++ [(G.2.1.length : Int)] else G.2.2) ∧ G.2.1.length < 1500 := by
  obtain ⟨b1, b2, b3, b4, b5⟩ := hB
  unfold gFin at h
  by_cases h1 : 1500 ≤ G.2.1.length
  · rw [if_pos h1] at h
    exact absurd h (by simp)
  rw [if_neg h1] at h
  by_cases h8 : 60000 < G.1.1 + (20 + (C.length : Int)) ∨ 400000 < G.1.2 + (20 + (C.length : Int))
  · rw [gSp_n h8] at h
    exact absurd h (by simp [gBd])
  rw [gSp_y h8] at h
  have e : G' = ((G.1.1 + (20 + (C.length : Int)), G.1.2 + (20 + (C.length : Int))), G.2.1 ++ [(C, o, fl)], if fw = true then G.2.2 ++ [(G.2.1.length : Int)] else G.2.2) := (Sum.inl.inj h).symm
  refine ⟨?_, e, by omega⟩
  rw [e]
  refine ⟨show 0 ≤ G.1.1 + (20 + (C.length : Int)) ∧ G.1.1 + (20 + (C.length : Int)) ≤ 60000 by omega, show 0 ≤ G.1.2 + (20 + (C.length : Int)) ∧ G.1.2 + (20 + (C.length : Int)) ≤ 400000 by omega, ?_, ?_, ?_⟩
  · rw [List.length_append]
    show G.2.1.length + 1 ≤ 1500
    omega
  · rw [List.length_append, List.map_append, suM_app]
    show ((suM (G.2.1.map (·.1)) + (C.length + 0) : Nat) : Int) + 20 * ((G.2.1.length + 1 : Nat) : Int) ≤ G.1.1 + (20 + (C.length : Int))
    omega
  · rw [List.length_append]
    show 45 * (((if fw = true then G.2.2 ++ [(G.2.1.length : Int)] else G.2.2).length : Nat) : Int) ≤ 3 * (G.1.1 + (20 + (C.length : Int))) + 75 * ((G.2.1.length + 1 : Nat) : Int) + (c - 90)
    split
    · rw [List.length_append]
      show 45 * ((G.2.2.length + 1 : Nat) : Int) ≤ _
      omega
    · omega
section
variable {σ σ0 : MS} {Q : MQ9} {G : GS9} {d9 : Int}
theorem Purse_fail.g {k h e : Int} (hk : 0 ≤ k ∧ k ≤ 20) (h0 : mV σ 22 0 = h) (h1 : mV σ 22 1 = e) (hq : TxF (wV σ 22 2 k) (k, h, e) → Q (.inr (exN 0)) (wV σ 22 2 k)) : Purse_fail k σ Q := Purse_fail.i ⟨by unfold Rg; omega, hq ⟨wV_self, (wV_ne (Or.inr (by decide))).trans h0, (wV_ne (Or.inr (by decide))).trans h1⟩⟩
theorem Purse_spend.g {n h e : Int} (hn : 0 ≤ n ∧ n ≤ 1000000) (h0 : mV σ 22 0 = h) (h1 : mV σ 22 1 = e) (b0 : 0 ≤ h ∧ h ≤ 60000) (b1 : 0 ≤ e ∧ e ≤ 400000) (hy : ¬ (60000 < h + n ∨ 400000 < e + n) → Q (.inl none) (wV (wV σ 22 0 (h + n)) 22 1 (e + n))) (hno : (60000 < h + n ∨ 400000 < e + n) → TxF (wV σ 22 2 8) (8, h, e) → Q (.inr (exN 0)) (wV σ 22 2 8)) : Purse_spend n σ Q := by
  have no : (60000 < h + n ∨ 400000 < e + n) → Purse_spend_22 σ Q := fun h9 => Purse_spend_22.i (hno h9 ⟨wV_self, (wV_ne (Or.inr (by decide))).trans h0, (wV_ne (Or.inr (by decide))).trans h1⟩)
  refine Purse_spend.i ⟨by unfold Rg; omega, by rw [h0]; unfold Rg; omega, fun a => no (by omega), fun a => ⟨by unfold Rg; omega, by rw [h1]; unfold Rg; omega, fun b => ⟨by rw [h0]; unfold Rg; omega, by rw [h1]; unfold Rg; omega, ?_⟩, fun b => no (by omega)⟩⟩
  rw [h0, h1]
  exact hy (by omega)
theorem GaC.fr {C : List Int} {σ' : MS} (h : GaC σ G C) (hx : ∀ q, q = 130 ∨ q = 132 ∨ q = 134 ∨ q = 136 ∨ q = 138 → mX σ' q = mX σ q) (hv : ∀ k, k = 0 ∨ k = 1 → mV σ' 22 k = mV σ 22 k) : GaC σ' G C := ⟨(hx _ (by decide)).trans h.1, (hx _ (by decide)).trans h.2.1, (hx _ (by decide)).trans h.2.2.1, (hx _ (by decide)).trans h.2.2.2.1, (hx _ (by decide)).trans h.2.2.2.2.1, (hv _ (by decide)).trans h.2.2.2.2.2.1, (hv _ (by decide)).trans h.2.2.2.2.2.2⟩
theorem GaC.put {C D : List Int} (h : GaC σ G C) : GaC (wX σ 130 (mX σ 130 ++ D)) G (C ++ D) := ⟨by rw [wX_self, h.1, List.append_assoc], (wX_ne (by decide)).trans h.2.1, (wX_ne (by decide)).trans h.2.2.1, (wX_ne (by decide)).trans h.2.2.2.1, (wX_ne (by decide)).trans h.2.2.2.2.1, h.2.2.2.2.2.1, h.2.2.2.2.2.2⟩
theorem GaC.len {C : List Int} (h : GaC σ G C) : (mX σ 130).length = suM (G.2.1.map (·.1)) + C.length := by rw [h.1, List.length_append, flat_len]
theorem Galley_finish.c {o fl : Int} {fw : Bool} {C : List Int} (hG : GaC σ G C) (hB : GB9 d9 G) (hC : C.length ≤ 2000) (hc : d9 ≤ 1000) (ho : Rg o) (hf : Rg fl) (hy : ∀ G' σ', gFin o C fl fw G = .inl G' → GaC σ' G' [] → GB9 (d9 - 90) G' → FrGa σ σ' → Q (.inl none) σ') (hn : ∀ e σ', gFin o C fl fw G = .inr e → TxF σ' e → FrGa σ σ' → Q (.inr (exN 0)) σ') : Galley_finish o fl (bZ fw) σ Q := by
  have hlen := hG.len
  obtain ⟨g1, g2, g3, g4, g5, g6, g7⟩ := hG
  obtain ⟨b1, b2, b3, b4, b5⟩ := hB
  have l2 : (mX σ 132).length = G.2.1.length := by rw [g2, enS_len, List.length_map]
  refine Galley_finish.i (Shelf_rows.i (tB.i (by decide) (tB.i (by decide) ?_)))
  show ((((mX σ 132).length : Nat) : Int) < 1500 → _) ∧ (1500 ≤ (((mX σ 132).length : Nat) : Int) → _)
  rw [l2]
  refine ⟨fun h9 => ?_, fun h9 => ?_⟩
  · have sf : sfrM (mX σ 132) (G.2.1.length : Int) = ((suM (G.2.1.map (·.1)) : Nat) : Int) := by
      rw [g2]
      have := sfr_at (p := G.2.1.map (·.1)) (rs := [])
      rw [List.append_nil, List.length_map] at this
      exact this
    refine Galley_finish_26.i ?_
    rw [sf, hlen, show (20 + ((suM (G.2.1.map (·.1)) + C.length : Nat) : Int)) - ((suM (G.2.1.map (·.1)) : Nat) : Int) = 20 + (C.length : Int) by omega]
    refine Purse_spend.g (by omega) g6 g7 b1 b2 (fun h8 => ?_) (fun h8 hx => ?_)
    · refine Shelf_close.i (tB.i (by decide) (tB.i (by decide) (tB.i (by decide) (tB.i (by decide) (tB.i (by decide) ⟨?_, ?_⟩)))))
      · show (mX σ 132).length < capOf 132
        rw [l2]
        show G.2.1.length < 2048
        omega
      show Rg o ∧ _
      have e1 : ∀ (q : Nat) (X : List Int), mX (wX (wV (wV σ 22 0 (G.1.1 + (20 + (C.length : Int)))) 22 1 (G.1.2 + (20 + (C.length : Int)))) 132 X) q = if q = 132 then X else mX σ q := fun q X => by
        by_cases h : q = 132
        · rw [if_pos h, h, wX_self]
        · rw [if_neg h, wX_ne h]
          rfl
      have fy : gFin o C fl fw G = .inl ((G.1.1 + (20 + (C.length : Int)), G.1.2 + (20 + (C.length : Int))), G.2.1 ++ [(C, o, fl)], if fw = true then G.2.2 ++ [(G.2.1.length : Int)] else G.2.2) := by
        unfold gFin
        rw [if_neg (by omega), gSp_y h8]
        rfl
      have bd := (gFin_b (c := d9) ⟨b1, b2, b3, b4, b5⟩ fy).1
      have l5 : (mX σ 138).length < 8192 := by
        rw [g5]
        omega
      refine ⟨ho, ?_, hf, ?_, by cases fw <;> decide, fun h7 => ?_, fun h7 => ⟨?_, ?_⟩⟩
      · rw [e1, if_neg (by decide), g3, List.length_map]
        omega
      · rw [e1, if_neg (by decide), g4, List.length_map]
        omega
      · have hw := bZ_z h7
        refine hy _ _ fy ?_ bd (((FrGa.v.tr FrGa.v).tr (FrGa.x (by decide))).tr ((FrGa.x (by decide)).tr (FrGa.x (by decide))))
        refine ⟨?_, ?_, ?_, ?_, ?_, ?_, ?_⟩
        · show mX σ 130 = _
          rw [g1, List.append_nil, List.map_append, List.flatten_append]
          show _ = _ ++ [C].flatten
          rw [List.flatten_singleton]
        · rw [wX_ne (by decide), wX_ne (by decide), e1, if_pos rfl]
          show mX σ 132 ++ [(((mX σ 130).length : Nat) : Int)] = _
          rw [g2, hlen, List.map_append]
          show _ = enS 0 (_ ++ [C])
          rw [enS_sn, Nat.zero_add]
        · rw [wX_ne (by decide), wX_self, e1, if_neg (by decide), g3, List.map_append]
          rfl
        · rw [wX_self, e1, if_neg (by decide), g4, List.map_append]
          rfl
        · show mX σ 138 = if fw = true then _ else _
          rw [g5, hw]
          rfl
        · show mV (wV (wV σ 22 0 (G.1.1 + (20 + (C.length : Int)))) 22 1 (G.1.2 + (20 + (C.length : Int)))) 22 0 = _
          rw [wV_ne (Or.inr (by decide)), wV_self]
        · show mV (wV (wV σ 22 0 (G.1.1 + (20 + (C.length : Int)))) 22 1 (G.1.2 + (20 + (C.length : Int)))) 22 1 = _
          rw [wV_self]
      · rw [e1, if_neg (by decide)]
        exact l5
      · have hw := bZ_ne h7
        refine hy _ _ fy ?_ bd (((FrGa.v.tr FrGa.v).tr (FrGa.x (by decide))).tr (((FrGa.x (by decide)).tr (FrGa.x (by decide))).tr (FrGa.x (by decide))))
        refine ⟨?_, ?_, ?_, ?_, ?_, ?_, ?_⟩
        · show mX σ 130 = _
          rw [g1, List.append_nil, List.map_append, List.flatten_append]
          show _ = _ ++ [C].flatten
          rw [List.flatten_singleton]
        · rw [wX_ne (by decide), wX_ne (by decide), wX_ne (by decide), e1, if_pos rfl]
          show mX σ 132 ++ [(((mX σ 130).length : Nat) : Int)] = _
          rw [g2, hlen, List.map_append]
          show _ = enS 0 (_ ++ [C])
          rw [enS_sn, Nat.zero_add]
        · rw [wX_ne (by decide), wX_ne (by decide), wX_self, e1, if_neg (by decide), g3, List.map_append]
          rfl
        · rw [wX_ne (by decide), wX_self, e1, if_neg (by decide), g4, List.map_append]
          rfl
        · rw [wX_self]
          show mX σ 138 ++ [(G.2.1.length : Int)] = if fw = true then _ else _
          rw [g5, hw]
          rfl
        · show mV (wV (wV σ 22 0 (G.1.1 + (20 + (C.length : Int)))) 22 1 (G.1.2 + (20 + (C.length : Int)))) 22 0 = _
          rw [wV_ne (Or.inr (by decide)), wV_self]
        · show mV (wV (wV σ 22 0 (G.1.1 + (20 + (C.length : Int)))) 22 1 (G.1.2 + (20 + (C.length : Int)))) 22 1 = _
          rw [wV_self]
    · refine hn _ _ ?_ hx FrGa.v
      unfold gFin
      rw [if_neg (by omega), gSp_n h8]
      rfl
  · refine Purse_fail.g (by decide) g6 g7 (fun hx => hn _ _ ?_ hx FrGa.v)
    unfold gFin
    rw [if_pos (by omega)]
end
/-- the blanks that justify makes -/
def rmO (W n : Int) : Int := max 4 (W - n)
def nGp : List Int → Int
  | [] => 0
  | c :: r => (if c = 32 then 1 else 0) + nGp r
def prJ (J l : Int) : Int := if J = 1 then l else if J = 2 then Int.tdiv l 2 else 0
def prE (J : Int) (ls : Bool) (g l : Int) : Int := if J = 3 ∧ ls = false ∧ 0 < g then Int.tdiv l g else 0
def prM (J : Int) (ls : Bool) (g l : Int) : Int := if J = 3 ∧ ls = false ∧ 0 < g then Int.tmod l g else 0
def prO (ev : Bool) (all more g : Int) : Int := if ev = true then (if g < more then 1 else 0) else (if all - more ≤ g then 1 else 0)
def prG (ev : Bool) (all each more : Int) : Int → List Int → List Int
  | _, [] => []
  | g, c :: r => if c = 32 then c :: (List.replicate (each + prO ev all more g).toNat 32 ++ prG ev all each more (g + 1) r) else c :: prG ev all each more g r
def prH (P : List Int) (hg : Int) (i : Nat) : List Int := if i = 0 then P else List.replicate hg.toNat 32
def prW (P : List Int) (hg : Int) (i : Nat) : Int := if i = 0 then (P.length : Int) else hg
def prF (P : List Int) (hg W : Int) (i n : Nat) (b : Bool) : Int := max 0 (rmO W (prW P hg i) - (n : Int) - bZ b)
def prT (b : Bool) (c : Int) : List Int := if b = true then [45 + (c % 512 - c % 128)] else []
/-- line i -/
def prL (P : List Int) (hg J W : Int) (ls : Bool) (U : List Int) (i : Nat) (x : Nat × Nat × Bool) : List Int := prH P hg i ++ List.replicate (prJ J (prF P hg W i (x.2.1 - x.1) x.2.2)).toNat 32 ++ prG (decide (i % 2 = 0)) (nGp (sgT U x.1 x.2.1)) (prE J ls (nGp (sgT U x.1 x.2.1)) (prF P hg W i (x.2.1 - x.1) x.2.2)) (prM J ls (nGp (sgT U x.1 x.2.1)) (prF P hg W i (x.2.1 - x.1) x.2.2)) 0 (sgT U x.1 x.2.1) ++ prT x.2.2 (U.getD (x.2.1 - 1) 0)
theorem sgT_c {U : List Int} {k b : Nat} (hk : k < b) (hb : b ≤ U.length) : sgT U k b = U.getD k 0 :: sgT U (k + 1) b := by
  unfold sgT
  rw [show b - k = (b - (k + 1)) + 1 by omega, List.drop_eq_getElem_cons (by omega), List.take_succ_cons]
  unfold List.getD
  rw [List.getElem?_eq_getElem (by omega), Option.getD_some]
theorem sgT_n {U : List Int} {b : Nat} : sgT U b b = [] := by
  unfold sgT
  rw [Nat.sub_self, List.take_zero]
theorem sgT_l {U : List Int} {a b : Nat} (hb : b ≤ U.length) : (sgT U a b).length = b - a := by
  unfold sgT
  rw [List.length_take, List.length_drop]
  omega
theorem nGp_b : ∀ (L : List Int), 0 ≤ nGp L ∧ nGp L ≤ L.length
  | [] => by decide
  | c :: r => by
    have := nGp_b r
    show 0 ≤ (if c = 32 then 1 else 0) + nGp r ∧ (if c = 32 then 1 else 0) + nGp r ≤ ((r.length + 1 : Nat) : Int)
    split <;> omega
section
variable {σ σ0 : MS} {Q : MQ9} {G : GS9} {d9 : Int} {q x0 : Nat} {U : List Int}
theorem pri_121 (hU : LnC σ q x0 U) {i : Nat} (hi : i < 65536) {l4 : Int} {l6 J : Int} (hJ : mV σ 111 10 = J) {N : Nat} (hN : (mX σ 112).length = N) (hN6 : N ≤ 65536) {a b : Nat} (hb : b ≤ U.length) (hq : ∀ each more : Int, each = prE J (decide (N ≤ i + 1)) (nGp (sgT U a b)) l6 → more = prM J (decide (N ≤ i + 1)) (nGp (sgT U a b)) l6 → Filler_print_227 q (i : Int) 130 ((x0 + b : Nat) : Int) (nGp (sgT U a b)) each more 0 l4 σ Q) : ∀ (n k : Nat) (g : Int), k + n = b → 0 ≤ g → g + nGp (sgT U k b) = nGp (sgT U a b) → Filler_print_121 q (i : Int) 130 l4 ((x0 + b : Nat) : Int) l6 g ((x0 + k : Nat) : Int) σ Q := by
  have l0 := hU.2.1
  intro n
  induction n with
  | zero =>
    intro k g hk hg he
    have hkb : k = b := by omega
    rw [hkb, sgT_n] at he
    have he : g = nGp (sgT U a b) := by
      rw [← he]
      show g = g + 0
      omega
    have gb := (nGp_b (sgT U a b)).2
    rw [sgT_l hb, ← he] at gb
    have no : ¬ (J = 3 ∧ decide (N ≤ i + 1) = false ∧ 0 < g) → Filler_print_185 q (i : Int) 130 l4 ((x0 + b : Nat) : Int) l6 g σ Q := fun h9 => by
      refine Filler_print_185.i (Filler_print_186.i ⟨fun _ => Filler_print_202.i ⟨fun _ => Filler_print_218.i ?_, fun h8 => absurd rfl h8⟩, fun h8 => absurd rfl h8⟩)
      rw [he] at h9 ⊢
      refine hq 0 0 ?_ ?_
      · unfold prE
        rw [if_neg h9]
      · unfold prM
        rw [if_neg h9]
    refine Filler_print_121.i ⟨by unfold Rg; omega, fun _ => ?_, fun h9 => absurd h9 (by omega)⟩
    rw [hJ, hN]
    refine ⟨fun h9 => no (fun h8 => h9 h8.1), fun h9 => ⟨by unfold Rg; omega, fun h8 => no (fun h7 => ?_), fun h8 => ⟨by unfold Rg; omega, fun h7 => no (fun h6 => by omega), fun h7 => ?_⟩⟩⟩
    · have := of_decide_eq_false h7.2.1
      omega
    · have yes : J = 3 ∧ decide (N ≤ i + 1) = false ∧ 0 < g := ⟨h9, decide_eq_false (by omega), h7⟩
      refine Filler_print_186.i ⟨fun h6 => absurd h6 (by decide), fun _ => ⟨by unfold Rg; omega, h7, Filler_print_202.i ⟨fun h6 => absurd h6 (by decide), fun _ => ⟨by unfold Rg; omega, h7, Filler_print_218.i ?_⟩⟩⟩⟩
      rw [he] at yes ⊢
      refine hq _ _ ?_ ?_
      · unfold prE
        rw [if_pos yes]
      · unfold prM
        rw [if_pos yes]
  | succ n ih =>
    intro k g hk hg he
    have gb := (nGp_b (sgT U a b)).2
    rw [sgT_l hb] at gb
    have gb2 := (nGp_b (sgT U k b)).1
    rw [sgT_c (show k < b by omega) hb] at he
    have e1 : g + ((if U.getD k 0 = 32 then 1 else 0) + nGp (sgT U (k + 1) b)) = nGp (sgT U a b) := he
    refine Filler_print_121.i ⟨by unfold Rg; omega, fun h9 => absurd h9 (by omega), fun _ => tB.i hU.1 (tB.i hU.1 ⟨by unfold Rg; omega, ?_⟩)⟩
    rw [hU.at (show k < U.length by omega)]
    refine ⟨fun h9 => Filler_print_146.i ?_, fun h9 => Filler_print_146.i ?_⟩
    · rw [if_neg h9] at e1
      rw [show ((x0 + k : Nat) : Int) + 1 = ((x0 + (k + 1) : Nat) : Int) by omega]
      exact ih (k + 1) (g + 0) (by omega) (by omega) (by omega)
    · rw [if_pos h9] at e1
      rw [show ((x0 + k : Nat) : Int) + 1 = ((x0 + (k + 1) : Nat) : Int) by omega]
      exact ih (k + 1) (g + 1) (by omega) (by omega) (by omega)
theorem pri_227 (hU : LnC σ q x0 U) (hq1 : q ≠ 130) {i b : Nat} (hi : i < 65536) (hb : b ≤ U.length) {pt : Bool} (hp : rgt (mX σ 116) (i : Int) = bZ pt) (hb1 : 1 ≤ b) {all each more : Int} (h1 : 0 ≤ all ∧ all ≤ 100000) (h2 : 0 ≤ each ∧ each ≤ 100000) (h3 : 0 ≤ more ∧ more ≤ 100000) : ∀ (n k : Nat) (g : Int) (D : List Int), k + n = b → 0 ≤ g → g + (n : Int) ≤ 100000 → (mX σ 130).length + (D ++ prG (decide (i % 2 = 0)) all each more g (sgT U k b) ++ prT pt (U.getD (b - 1) 0)).length ≤ 131072 → Q (.inl none) (wX σ 130 (mX σ 130 ++ (D ++ prG (decide (i % 2 = 0)) all each more g (sgT U k b) ++ prT pt (U.getD (b - 1) 0)))) → Filler_print_227 q (i : Int) 130 ((x0 + b : Nat) : Int) all each more g ((x0 + k : Nat) : Int) (wX σ 130 (mX σ 130 ++ D)) Q := by
  have l0 := hU.2.1
  have rg : ∀ (X : List Int) (j : Nat), j < U.length → rgt (mX (wX σ 130 X) q) ((x0 + j : Nat) : Int) = U.getD j 0 := fun X j hj => by
    rw [wX_ne hq1]
    exact hU.at hj
  intro n
  induction n with
  | zero =>
    intro k g D hk hg hgn hl hq
    have hkb : k = b := by omega
    rw [hkb, sgT_n] at hq hl
    refine Filler_print_227.i ⟨by unfold Rg; omega, fun _ => ⟨by unfold Rg; omega, ?_⟩, fun h9 => absurd h9 (by omega)⟩
    rw [show rgt (mX (wX σ 130 (mX σ 130 ++ D)) 116) (i : Int) = bZ pt by rw [wX_ne (by decide)]; exact hp]
    refine ⟨fun h9 => ?_, fun h9 => ?_⟩
    · have hw : pt = false := by
        cases pt
        · rfl
        · exact absurd rfl h9
      rw [hw] at hq
      rw [show D ++ prG (decide (i % 2 = 0)) all each more g [] ++ prT false (U.getD (b - 1) 0) = D by
        show D ++ [] ++ [] = D
        rw [List.append_nil, List.append_nil]] at hq
      exact hq
    · have hw : pt = true := by
        cases pt
        · exact absurd h9 (by decide)
        · rfl
      rw [hw] at hq hl
      have e0 : D ++ prG (decide (i % 2 = 0)) all each more g [] ++ prT true (U.getD (b - 1) 0) = D ++ [45 + (U.getD (b - 1) 0 % 512 - U.getD (b - 1) 0 % 128)] := by
        show D ++ [] ++ _ = _
        rw [List.append_nil]
        rfl
      rw [e0] at hq hl
      rw [List.length_append] at hl
      refine tB.i hU.1 (tB.i hU.1 ⟨by unfold Rg; omega, tB.i (by decide) (tB.i (by decide) ⟨?_, ?_⟩)⟩)
      · rw [wX_self, List.length_append]
        show _ < 131072
        have : [45 + (U.getD (b - 1) 0 % 512 - U.getD (b - 1) 0 % 128)].length = 1 := rfl
        omega
      · rw [show ((x0 + b : Nat) : Int) - 1 = ((x0 + (b - 1) : Nat) : Int) by omega, rg _ _ (by omega), wX_self, wX_wX, List.append_assoc]
        have e2 : bor 45 (U.getD (b - 1) 0 % 512 - U.getD (b - 1) 0 % 128) = 45 + (U.getD (b - 1) 0 % 512 - U.getD (b - 1) 0 % 128) := by
          have := bor_cd (x := 45) (y := U.getD (b - 1) 0 % 512 / 128) (by decide) (by omega)
          rw [show U.getD (b - 1) 0 % 512 - U.getD (b - 1) 0 % 128 = U.getD (b - 1) 0 % 512 / 128 * 128 by omega, this]
          unfold cdS
          omega
        rw [e2]
        exact hq
  | succ n ih =>
    intro k g D hk hg hgn hl hq
    have hkl : k < U.length := by omega
    rw [sgT_c (show k < b by omega) hb] at hq hl
    have cap : (mX σ 130 ++ D).length < 131072 := by
      rw [List.length_append, List.length_append] at hl
      rw [List.length_append]
      have : 1 ≤ (prG (decide (i % 2 = 0)) all each more g (U.getD k 0 :: sgT U (k + 1) b)).length := by
        show 1 ≤ (if U.getD k 0 = 32 then _ else _ : List Int).length
        split <;> exact Nat.succ_le_of_lt (Nat.succ_pos _)
      omega
    refine Filler_print_227.i ⟨by unfold Rg; omega, fun h9 => absurd h9 (by omega), fun _ => tB.i hU.1 (tB.i hU.1 ⟨by unfold Rg; omega, tB.i (by decide) (tB.i (by decide) ⟨?_, tB.i hU.1 (tB.i hU.1 ⟨by unfold Rg; omega, ?_⟩)⟩)⟩)⟩
    · rw [wX_self]
      exact cap
    rw [rg _ _ hkl, wX_self, wX_wX, List.append_assoc, rg _ _ hkl]
    refine ⟨fun h9 => Filler_print_316.i ?_, fun h9 => ⟨by unfold Rg; omega, by decide, ?_⟩⟩
    · have e0 : D ++ prG (decide (i % 2 = 0)) all each more g (U.getD k 0 :: sgT U (k + 1) b) = (D ++ [U.getD k 0]) ++ prG (decide (i % 2 = 0)) all each more g (sgT U (k + 1) b) := by
        show D ++ (if U.getD k 0 = 32 then _ else _) = _
        rw [if_neg h9, List.append_assoc]
        rfl
      rw [e0] at hq hl
      rw [show ((x0 + k : Nat) : Int) + 1 = ((x0 + (k + 1) : Nat) : Int) by omega]
      exact ih (k + 1) g (D ++ [U.getD k 0]) (by omega) hg (by omega) hl hq
    · have e0 : D ++ prG (decide (i % 2 = 0)) all each more g (U.getD k 0 :: sgT U (k + 1) b) = (D ++ [U.getD k 0] ++ List.replicate (each + prO (decide (i % 2 = 0)) all more g).toNat 32) ++ prG (decide (i % 2 = 0)) all each more (g + 1) (sgT U (k + 1) b) := by
        show D ++ (if U.getD k 0 = 32 then _ else _) = _
        rw [if_pos h9, List.append_assoc, List.append_assoc]
        rfl
      rw [e0] at hq hl
      have fin : ∀ s0 : Int, (s0 = 0 ∨ s0 = 1) → s0 = prO (decide (i % 2 = 0)) all more g → Filler_print_291 q (i : Int) 130 ((x0 + b : Nat) : Int) all each more g ((x0 + k : Nat) : Int) s0 (wX σ 130 (mX σ 130 ++ (D ++ [U.getD k 0]))) Q := fun s0 h01 hs => by
        rw [← hs] at hq hl
        have go : ∀ s2 : Int, s2 = each + s0 → Filler_print_310 q (i : Int) 130 ((x0 + b : Nat) : Int) all each more g ((x0 + k : Nat) : Int) 130 32 s2 (wX σ 130 (mX σ 130 ++ (D ++ [U.getD k 0]))) Q := fun s2 h8 => by
          rw [h8]
          refine Filler_print_310.i (tB.i (by decide) (tB.i (by decide) ⟨by unfold Rg; omega, ?_, Filler_print_316.i ?_⟩))
          · show _ ≤ 131072
            rw [List.length_append, List.length_append, List.length_append, List.length_replicate] at hl
            rw [wX_self, List.length_append]
            omega
          · rw [wX_self, wX_wX, List.append_assoc, show ((x0 + k : Nat) : Int) + 1 = ((x0 + (k + 1) : Nat) : Int) by omega]
            exact ih (k + 1) (g + 1) _ (by omega) (by omega) (by omega) hl hq
        exact Filler_print_291.i ⟨fun h7 => go each (by omega), fun h7 => go (each + 1) (by omega)⟩
      rw [show Int.tmod (i : Int) 2 = ((i % 2 : Nat) : Int) from tm_n (b := 2)]
      refine ⟨fun h8 => ⟨by unfold Rg; omega, by unfold Rg; omega, fun h7 => fin 0 (Or.inl rfl) ?_, fun h7 => fin 1 (Or.inr rfl) ?_⟩, fun h8 => ⟨by unfold Rg; omega, fun h7 => fin 0 (Or.inl rfl) ?_, fun h7 => fin 1 (Or.inr rfl) ?_⟩⟩
      · unfold prO
        rw [if_neg (fun h => h8 (by have := of_decide_eq_true h; omega)), if_neg (by omega)]
      · unfold prO
        rw [if_neg (fun h => h8 (by have := of_decide_eq_true h; omega)), if_pos h7]
      · unfold prO
        rw [if_pos (decide_eq_true (by omega)), if_neg (by omega)]
      · unfold prO
        rw [if_pos (decide_eq_true (by omega)), if_pos h7]
/-- a line that was filled is printed -/
theorem Filler_roomOf.c {i : Int} {P : List Int} {W hg : Int} (hi : Rg i) (hW : mV σ 24 0 = W) (hW8 : 12 ≤ W ∧ W ≤ 80) (hP : mX σ 118 = P) (hP6 : P.length ≤ 64) (hh : mV σ 111 9 = hg) (hh6 : 0 ≤ hg ∧ hg ≤ 100) (hq : Q (.inl (some (rmO W (if i = 0 then (P.length : Int) else hg)))) σ) : Filler_roomOf i σ Q := by
  refine Filler_roomOf.i (Rules_told.i ⟨by decide, fun h9 => absurd h9 (by decide), fun _ => ⟨by decide, fun h9 => absurd h9 (by decide), fun _ => ⟨by decide, by decide, ?_⟩⟩⟩)
  show Rg i ∧ _
  rw [show ((0 : Int).toNat) = 0 from rfl, hW, hP, hh]
  refine ⟨hi, fun h9 => Filler_roomOf_27.i ⟨by unfold Rg; omega, ?_⟩, fun h9 => Filler_roomOf_27.i ⟨by unfold Rg; omega, ?_⟩⟩
  · rw [if_neg h9] at hq
    exact hq
  · rw [if_pos h9] at hq
    exact hq
theorem tdb {a b : Int} (ha : 0 ≤ a ∧ a ≤ 100000) (hb : 0 < b) : (0 ≤ Int.tdiv a b ∧ Int.tdiv a b ≤ a) ∧ 0 ≤ Int.tmod a b ∧ Int.tmod a b ≤ a := by
  obtain ⟨n, e1⟩ := Int.eq_ofNat_of_zero_le ha.1
  obtain ⟨m, e2⟩ := Int.eq_ofNat_of_zero_le (Int.le_of_lt hb)
  have h1 := Nat.div_le_self n m
  have h2 := Nat.mod_le n m
  have h3 : Int.tdiv a b = ((n / m : Nat) : Int) := by
    rw [e1, e2]
    rfl
  have h4 : Int.tmod a b = ((n % m : Nat) : Int) := by
    rw [e1, e2]
    rfl
  rw [h3, h4, e1]
  exact ⟨⟨Int.natCast_nonneg _, Int.ofNat_le.mpr h1⟩, Int.natCast_nonneg _, Int.ofNat_le.mpr h2⟩
theorem prE_b {J l g : Int} {ls : Bool} (hl : 0 ≤ l ∧ l ≤ 100000) : (0 ≤ prE J ls g l ∧ prE J ls g l ≤ l) ∧ 0 ≤ prM J ls g l ∧ prM J ls g l ≤ l := by
  unfold prE prM
  by_cases h : J = 3 ∧ ls = false ∧ 0 < g
  · rw [if_pos h, if_pos h]
    exact tdb hl h.2.2
  · rw [if_neg h, if_neg h]
    omega
theorem lnA_at {Ls : List (Nat × Nat × Bool)} {i : Nat} (hi : i < Ls.length) {X : List Int} (f : Nat × Nat × Bool → Int) (hX : X = Ls.map f) : rgt X (i : Int) = f (Ls.getD i (0, 0, false)) := by
  rw [hX, rgt_n (by rw [List.length_map]; exact hi)]
  unfold List.getD
  rw [List.getElem?_map, List.getElem?_eq_getElem hi]
  rfl
theorem prF_b {P : List Int} {hg W : Int} {i n : Nat} {b : Bool} (hW8 : 12 ≤ W ∧ W ≤ 80) (hh6 : 0 ≤ hg) : 0 ≤ prF P hg W i n b ∧ prF P hg W i n b ≤ 80 := by
  unfold prF rmO prW
  have : 0 ≤ bZ b := by cases b <;> decide
  split <;> omega
/-- a line that was filled is printed -/
theorem Filler_print.c (hU : LnC σ q x0 U) (hq1 : q ≠ 130) {Ls : List (Nat × Nat × Bool)} {i : Nat} (hi : i < Ls.length) (hl6 : Ls.length ≤ 65536) (h112 : mX σ 112 = lnA x0 Ls) (h114 : mX σ 114 = lnB x0 Ls) (h116 : mX σ 116 = lnP Ls) {P : List Int} {hg J W : Int} (hW : mV σ 24 0 = W) (hW8 : 12 ≤ W ∧ W ≤ 80) (hP : mX σ 118 = P) (hP6 : P.length ≤ 64) (hh : mV σ 111 9 = hg) (hh6 : 0 ≤ hg ∧ hg ≤ 100) (hJ : mV σ 111 10 = J) {x : Nat × Nat × Bool} (hx : Ls.getD i (0, 0, false) = x) (hx1 : x.1 < x.2.1 ∧ x.2.1 ≤ U.length) (hcap : (mX σ 130).length + (prL P hg J W (decide (Ls.length ≤ i + 1)) U i x).length ≤ 131072) (hq : Q (.inl none) (wX σ 130 (mX σ 130 ++ prL P hg J W (decide (Ls.length ≤ i + 1)) U i x))) : Filler_print q (i : Int) 130 σ Q := by
  have l0 := hU.2.1
  have r1 := lnA_at hi _ h112
  have r2 := lnA_at hi _ h114
  have r3 := lnA_at hi _ h116
  rw [hx] at r1 r2 r3
  have fb := prF_b (P := P) (hg := hg) (W := W) (i := i) (n := x.2.1 - x.1) (b := x.2.2) hW8 hh6.1
  have gb := nGp_b (sgT U x.1 x.2.1)
  rw [sgT_l hx1.2] at gb
  have bb : 0 ≤ bZ x.2.2 ∧ bZ x.2.2 ≤ 1 := by cases x.2.2 <;> decide
  have lN : (mX σ 112).length = Ls.length := by
    rw [h112]
    exact List.length_map ..
  have eb := prE_b (J := J) (l := prF P hg W i (x.2.1 - x.1) x.2.2) (g := nGp (sgT U x.1 x.2.1)) (ls := decide (Ls.length ≤ i + 1)) (by omega)
  have jb : 0 ≤ prJ J (prF P hg W i (x.2.1 - x.1) x.2.2) := by
    unfold prJ
    split
    · omega
    split
    · exact (tdb ⟨fb.1, by omega⟩ (by decide)).1.1
    · omega
  have step79 : (mX σ 130).length + (prH P hg i).length ≤ 131072 ∧ Filler_print_79 q (i : Int) 130 ((x0 + x.1 : Nat) : Int) ((x0 + x.2.1 : Nat) : Int) (prF P hg W i (x.2.1 - x.1) x.2.2) (wX σ 130 (mX σ 130 ++ prH P hg i)) Q := by
    unfold prL at hcap hq
    have hc := hcap
    rw [List.length_append, List.length_append, List.length_append, List.length_replicate] at hc
    refine ⟨by omega, ?_⟩
    have go : ∀ s2 : Int, s2 = prJ J (prF P hg W i (x.2.1 - x.1) x.2.2) → Filler_print_111 q (i : Int) 130 ((x0 + x.1 : Nat) : Int) ((x0 + x.2.1 : Nat) : Int) (prF P hg W i (x.2.1 - x.1) x.2.2) 130 32 s2 (wX σ 130 (mX σ 130 ++ prH P hg i)) Q := fun s2 h2 => by
      rw [h2]
      refine Filler_print_111.i (tB.i (by decide) (tB.i (by decide) ⟨?_, ?_⟩))
      · rw [wX_self, List.length_append]
        show _ ≤ 131072
        omega
      · rw [wX_self, wX_wX, List.append_assoc]
        have hU1 : ∀ X : List Int, LnC (wX σ 130 X) q x0 U := fun X => ⟨hU.1, hU.2.1, fun t ht => by rw [wX_ne hq1]; exact hU.2.2 t ht⟩
        refine pri_121 (a := x.1) (hU1 _) (by omega) (J := J) hJ (N := Ls.length) (by rw [wX_ne (by decide)]; exact lN) hl6 hx1.2 (fun each more h5 h6 => ?_) (x.2.1 - x.1) x.1 0 (by omega) (by decide) (by omega)
        refine pri_227 hU hq1 (by omega) hx1.2 r3 (by omega) (by omega) (by rw [h5]; omega) (by rw [h6]; omega) (x.2.1 - x.1) x.1 0 _ (by omega) (by decide) (by omega) ?_ ?_
        · rw [h5, h6]
          exact hcap
        · rw [h5, h6]
          exact hq
    refine Filler_print_79.i ?_
    rw [show mV (wX σ 130 (mX σ 130 ++ prH P hg i)) 111 10 = J from hJ]
    refine ⟨fun h1 => ⟨fun h2 => go 0 ?_, fun h2 => ⟨by decide, go _ ?_⟩⟩, fun h1 => go _ ?_⟩
    · unfold prJ
      rw [if_neg h1, if_neg h2]
    · unfold prJ
      rw [if_neg h1, if_pos h2]
    · unfold prJ
      rw [if_pos h1]
  refine Filler_print.i ⟨by unfold Rg; omega, by unfold Rg; omega, Filler_roomOf.c (by unfold Rg; omega) hW hW8 hP hP6 hh hh6 ?_⟩
  show Rg (i : Int) ∧ _
  rw [r1, r2, r3]
  have ew : (if (i : Int) = 0 then (P.length : Int) else hg) = prW P hg i := by
    unfold prW
    by_cases h : i = 0
    · rw [if_pos h, if_pos (by omega)]
    · rw [if_neg h, if_neg (by omega)]
  rw [ew]
  have el : max 0 ((rmO W (prW P hg i) - (((x0 + x.2.1 : Nat) : Int) - ((x0 + x.1 : Nat) : Int))) - bZ x.2.2) = prF P hg W i (x.2.1 - x.1) x.2.2 := by
    unfold prF
    congr 2
    omega
  have rb : 4 ≤ rmO W (prW P hg i) ∧ rmO W (prW P hg i) ≤ 80 := by
    unfold rmO prW
    split <;> omega
  refine ⟨by unfold Rg; omega, by unfold Rg; omega, by unfold Rg; omega, fun h9 => tB.i (by decide) (tB.i (by decide) ?_), fun h9 => tB.i (by decide) (tB.i (by decide) (tB.i (by decide) ?_))⟩
  · rw [el, hh]
    have e1 : prH P hg i = List.replicate hg.toNat 32 := by
      unfold prH
      rw [if_neg (by omega)]
    rw [e1, List.length_replicate] at step79
    exact step79
  · rw [el, pour_all, hP]
    have e1 : prH P hg i = P := by
      unfold prH
      rw [if_pos (by omega)]
    rw [e1] at step79
    refine ⟨?_, step79.2⟩
    show _ ≤ 131072
    have := step79.1
    omega
end
theorem prO_b {ev : Bool} {all more g : Int} : 0 ≤ prO ev all more g ∧ prO ev all more g ≤ 1 := by
  unfold prO
  split <;> split <;> decide
theorem prG_l {ev : Bool} {all each more : Int} (he : 0 ≤ each) : ∀ (M : List Int) (g : Int), ((prG ev all each more g M).length : Int) ≤ M.length + nGp M * each + nGp M
  | [], _ => by
    show (0 : Int) ≤ 0 + 0 * each + 0
    omega
  | c :: r, g => by
    have hb := nGp_b r
    by_cases h : c = 32
    · have ih := prG_l (ev := ev) (all := all) (more := more) he r (g + 1)
      have ob := prO_b (ev := ev) (all := all) (more := more) (g := g)
      have e1 : prG ev all each more g (c :: r) = c :: (List.replicate (each + prO ev all more g).toNat 32 ++ prG ev all each more (g + 1) r) := if_pos h
      have e2 : nGp (c :: r) = 1 + nGp r := by
        show (if c = 32 then 1 else 0) + nGp r = _
        rw [if_pos h]
      rw [e1, e2, List.length_cons, List.length_append, List.length_replicate, List.length_cons, Int.add_mul]
      omega
    · have ih := prG_l (ev := ev) (all := all) (more := more) he r g
      have e1 : prG ev all each more g (c :: r) = c :: prG ev all each more g r := if_neg h
      have e2 : nGp (c :: r) = nGp r := by
        show (if c = 32 then 1 else 0) + nGp r = _
        rw [if_neg h]
        omega
      rw [e1, e2, List.length_cons, List.length_cons]
      omega
theorem prE_m {J l g : Int} {ls : Bool} (hl : 0 ≤ l) : g * prE J ls g l ≤ l ∧ (¬ J = 3 → prE J ls g l = 0) := by
  unfold prE
  by_cases h : J = 3 ∧ ls = false ∧ 0 < g
  · rw [if_pos h]
    refine ⟨?_, fun h9 => absurd h.1 h9⟩
    obtain ⟨n, e1⟩ := Int.eq_ofNat_of_zero_le hl
    obtain ⟨m, e2⟩ := Int.eq_ofNat_of_zero_le (Int.le_of_lt h.2.2)
    have h1 := Nat.div_mul_le_self n m
    rw [e1, e2, show Int.tdiv (n : Int) (m : Int) = ((n / m : Nat) : Int) from rfl, Int.mul_comm]
    exact_mod_cast h1
  · rw [if_neg h]
    omega
theorem prL_l {P : List Int} {hg J W : Int} {ls : Bool} {U : List Int} {i : Nat} {x : Nat × Nat × Bool} (hP : P.length ≤ 64) (hh : 0 ≤ hg ∧ hg ≤ 100) (hW : 12 ≤ W ∧ W ≤ 80) (hx : x.2.1 ≤ U.length) (hx2 : x.2.1 - x.1 ≤ 80) : (prL P hg J W ls U i x).length ≤ 400 := by
  have fb := prF_b (P := P) (hg := hg) (W := W) (i := i) (n := x.2.1 - x.1) (b := x.2.2) hW hh.1
  have gb := nGp_b (sgT U x.1 x.2.1)
  have gl := sgT_l (a := x.1) hx
  have eb := prE_b (J := J) (l := prF P hg W i (x.2.1 - x.1) x.2.2) (g := nGp (sgT U x.1 x.2.1)) (ls := ls) (by omega)
  have em := prE_m (J := J) (l := prF P hg W i (x.2.1 - x.1) x.2.2) (g := nGp (sgT U x.1 x.2.1)) (ls := ls) fb.1
  have pg := prG_l (ev := decide (i % 2 = 0)) (all := nGp (sgT U x.1 x.2.1)) (each := prE J ls (nGp (sgT U x.1 x.2.1)) (prF P hg W i (x.2.1 - x.1) x.2.2)) (more := prM J ls (nGp (sgT U x.1 x.2.1)) (prF P hg W i (x.2.1 - x.1) x.2.2)) eb.1.1 (sgT U x.1 x.2.1) 0
  have h1 : (prH P hg i).length ≤ 100 := by
    unfold prH
    split
    · omega
    · rw [List.length_replicate]
      omega
  have h4 : (prT x.2.2 (U.getD (x.2.1 - 1) 0)).length ≤ 1 := by
    unfold prT
    split
    · exact Nat.le_refl _
    · exact Nat.zero_le _
  have h2 : (prJ J (prF P hg W i (x.2.1 - x.1) x.2.2)).toNat ≤ 80 ∧ (J = 3 → (prJ J (prF P hg W i (x.2.1 - x.1) x.2.2)).toNat = 0) := by
    unfold prJ
    split
    · omega
    split
    · have := tdb (a := prF P hg W i (x.2.1 - x.1) x.2.2) (b := 2) (by omega) (by decide)
      omega
    · omega
  unfold prL
  rw [List.length_append, List.length_append, List.length_append, List.length_replicate]
  by_cases hJ : J = 3
  · have := h2.2 hJ
    omega
  · have h5 := em.2 hJ
    rw [h5, Int.mul_zero] at pg
    rw [h5]
    omega
