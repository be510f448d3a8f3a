/-! LINES ARE PRINTED: the galley, class -/
/-- a line: codes, origin, flag; a galley: (work here, ever), lines, flow -/
abbrev GL9 : Type := List Int × Int × Int
abbrev GS9 : Type := (Int × Int) × List GL9 × List Int
abbrev GR9 : Type := GS9 ⊕ (Int × Int × Int)
def gSp (n : Int) (G : GS9) : GR9 := if 60000 < G.1.1 + n ∨ 400000 < G.1.2 + n then .inr (8, G.1.1, G.1.2) else .inl ((G.1.1 + n, G.1.2 + n), G.2)
def gBd (r : GR9) (f : GS9 → GR9) : GR9 := match r with
  | .inl s => f s
  | .inr e => .inr e
def gFin (o : Int) (C : List Int) (fl : Int) (fw : Bool) (G : GS9) : GR9 := if 1500 ≤ G.2.1.length then .inr (9, G.1.1, G.1.2) else gBd (gSp (20 + (C.length : Int)) G) fun G => .inl (G.1, G.2.1 ++ [(C, o, fl)], if fw = true then G.2.2 ++ [(G.2.1.length : Int)] else G.2.2)
/-- several lines -/
def gAll (o : Int) (fw : Bool) : List (List Int × Int) → GS9 → GR9
  | [], G => .inl G
  | l :: r, G => gBd (gFin o l.1 l.2 fw G) (gAll o fw r)
def GaC (σ : MS) (G : GS9) (C : List Int) : Prop := mX σ 130 = (G.2.1.map (·.1)).flatten ++ C ∧ mX σ 132 = enS 0 (G.2.1.map (·.1)) ∧ mX σ 134 = G.2.1.map (·.2.1) ∧ mX σ 136 = G.2.1.map (·.2.2) ∧ mX σ 138 = G.2.2 ∧ mV σ 22 0 = G.1.1 ∧ mV σ 22 1 = G.1.2
def GB9 (c : Int) (G : GS9) : Prop := (0 ≤ G.1.1 ∧ G.1.1 ≤ 60000) ∧ (0 ≤ G.1.2 ∧ G.1.2 ≤ 400000) ∧ G.2.1.length ≤ 1500 ∧ ((suM (G.2.1.map (·.1)) : Nat) : Int) + 20 * G.2.1.length ≤ G.1.1 ∧ 45 * (G.2.2.length : Int) ≤ 3 * G.1.1 + 75 * G.2.1.length + c
def FrGa (σ σ' : MS) : Prop := (∀ q, q ≠ 130 → q ≠ 132 → q ≠ 134 → q ≠ 136 → q ≠ 138 → mX σ' q = mX σ q) ∧ σ'.2.2 = σ.2.2 ∧ ∀ z k, z ≠ 22 → mV σ' z k = mV σ z k
theorem FrGa.rf {σ : MS} : FrGa σ σ := ⟨fun _ _ _ _ _ _ => rfl, rfl, fun _ _ _ => rfl⟩
theorem FrGa.tr {σ σ1 σ2 : MS} (h : FrGa σ σ1) (h' : FrGa σ1 σ2) : FrGa σ σ2 := ⟨fun q a b c d e => (h'.1 q a b c d e).trans (h.1 q a b c d e), h'.2.1.trans h.2.1, fun z k a => (h'.2.2 z k a).trans (h.2.2 z k a)⟩
theorem FrGa.x {σ : MS} {q : Nat} {L : List Int} (h : q = 130 ∨ q = 132 ∨ q = 134 ∨ q = 136 ∨ q = 138) : FrGa σ (wX σ q L) := ⟨fun q' a b c d e => wX_ne (by rcases h with rfl | rfl | rfl | rfl | rfl <;> assumption), rfl, fun _ _ _ => rfl⟩
theorem FrGa.v {σ : MS} {k : Nat} {x : Int} : FrGa σ (wV σ 22 k x) := ⟨fun _ _ _ _ _ _ => rfl, rfl, fun z k' h => wV_ne (Or.inl h)⟩
theorem gSp_y {n : Int} {G : GS9} (h : ¬ (60000 < G.1.1 + n ∨ 400000 < G.1.2 + n)) : gSp n G = .inl ((G.1.1 + n, G.1.2 + n), G.2) := if_neg h
theorem gSp_n {n : Int} {G : GS9} (h : 60000 < G.1.1 + n ∨ 400000 < G.1.2 + n) : gSp n G = .inr (8, G.1.1, G.1.2) := if_pos h
section
variable {σ σ0 : MS} {Q : MQ9} {G : GS9} {c : Int}
theorem Purse_fail.g {k h e : Int} (hk : 0 ≤ k ∧ k ≤ 20) (h0 : mV σ 22 0 = h) (h1 : mV σ 22 1 = e) (hq : TxF (wV σ 22 2 k) (k, h, e) → Q (.inr (exN 0)) (wV σ 22 2 k)) : Purse_fail k σ Q := Purse_fail.i ⟨by unfold Rg; omega, hq ⟨wV_self, (wV_ne (Or.inr (by decide))).trans h0, (wV_ne (Or.inr (by decide))).trans h1⟩⟩
theorem Purse_spend.g {n h e : Int} (hn : 0 ≤ n ∧ n ≤ 1000000) (h0 : mV σ 22 0 = h) (h1 : mV σ 22 1 = e) (b0 : 0 ≤ h ∧ h ≤ 60000) (b1 : 0 ≤ e ∧ e ≤ 400000) (hy : ¬ (60000 < h + n ∨ 400000 < e + n) → Q (.inl none) (wV (wV σ 22 0 (h + n)) 22 1 (e + n))) (hno : (60000 < h + n ∨ 400000 < e + n) → TxF (wV σ 22 2 8) (8, h, e) → Q (.inr (exN 0)) (wV σ 22 2 8)) : Purse_spend n σ Q := by
  have no : (60000 < h + n ∨ 400000 < e + n) → Purse_spend_22 σ Q := fun h9 => Purse_spend_22.i (hno h9 ⟨wV_self, (wV_ne (Or.inr (by decide))).trans h0, (wV_ne (Or.inr (by decide))).trans h1⟩)
  refine Purse_spend.i ⟨by unfold Rg; omega, by rw [h0]; unfold Rg; omega, fun a => no (by omega), fun a => ⟨by unfold Rg; omega, by rw [h1]; unfold Rg; omega, fun b => ⟨by rw [h0]; unfold Rg; omega, by rw [h1]; unfold Rg; omega, ?_⟩, fun b => no (by omega)⟩⟩
  rw [h0, h1]
  exact hy (by omega)
theorem GaC.fr {C : List Int} {σ' : MS} (h : GaC σ G C) (hx : ∀ q, q = 130 ∨ q = 132 ∨ q = 134 ∨ q = 136 ∨ q = 138 → mX σ' q = mX σ q) (hv : ∀ k, k = 0 ∨ k = 1 → mV σ' 22 k = mV σ 22 k) : GaC σ' G C := ⟨(hx _ (by decide)).trans h.1, (hx _ (by decide)).trans h.2.1, (hx _ (by decide)).trans h.2.2.1, (hx _ (by decide)).trans h.2.2.2.1, (hx _ (by decide)).trans h.2.2.2.2.1, (hv _ (by decide)).trans h.2.2.2.2.2.1, (hv _ (by decide)).trans h.2.2.2.2.2.2⟩
theorem GaC.put {C D : List Int} (h : GaC σ G C) : GaC (wX σ 130 (mX σ 130 ++ D)) G (C ++ D) := ⟨by rw [wX_self, h.1, List.append_assoc], (wX_ne (by decide)).trans h.2.1, (wX_ne (by decide)).trans h.2.2.1, (wX_ne (by decide)).trans h.2.2.2.1, (wX_ne (by decide)).trans h.2.2.2.2.1, h.2.2.2.2.2.1, h.2.2.2.2.2.2⟩
theorem GaC.len {C : List Int} (h : GaC σ G C) : (mX σ 130).length = suM (G.2.1.map (·.1)) + C.length := by rw [h.1, List.length_append, flat_len]
theorem Galley_finish.c {o fl : Int} {fw : Bool} {C : List Int} (hG : GaC σ G C) (hB : GB9 c G) (hC : C.length ≤ 2000) (hc : c ≤ 1000) (ho : Rg o) (hf : Rg fl) (hy : ∀ G' σ', gFin o C fl fw G = .inl G' → GaC σ' G' [] → GB9 (c - 90) G' → FrGa σ σ' → Q (.inl none) σ') (hn : ∀ e σ', gFin o C fl fw G = .inr e → TxF σ' e → FrGa σ σ' → Q (.inr (exN 0)) σ') : Galley_finish o fl (bZ fw) σ Q := by
  have hlen := hG.len
  obtain ⟨g1, g2, g3, g4, g5, g6, g7⟩ := hG
  obtain ⟨b1, b2, b3, b4, b5⟩ := hB
  have l2 : (mX σ 132).length = G.2.1.length := by rw [g2, enS_len, List.length_map]
  refine Galley_finish.i (Shelf_rows.i (tB.i (by decide) (tB.i (by decide) ?_)))
  show ((((mX σ 132).length : Nat) : Int) < 1500 → _) ∧ (1500 ≤ (((mX σ 132).length : Nat) : Int) → _)
  rw [l2]
  refine ⟨fun h9 => ?_, fun h9 => ?_⟩
  · have sf : sfrM (mX σ 132) (G.2.1.length : Int) = ((suM (G.2.1.map (·.1)) : Nat) : Int) := by
      rw [g2]
      have := sfr_at (p := G.2.1.map (·.1)) (rs := [])
      rw [List.append_nil, List.length_map] at this
      exact this
    refine Galley_finish_26.i ?_
    rw [sf, hlen, show (20 + ((suM (G.2.1.map (·.1)) + C.length : Nat) : Int)) - ((suM (G.2.1.map (·.1)) : Nat) : Int) = 20 + (C.length : Int) by omega]
    refine Purse_spend.g (by omega) g6 g7 b1 b2 (fun h8 => ?_) (fun h8 hx => ?_)
    · refine Shelf_close.i (tB.i (by decide) (tB.i (by decide) (tB.i (by decide) (tB.i (by decide) (tB.i (by decide) ⟨?_, ?_⟩)))))
      · show (mX σ 132).length < capOf 132
        rw [l2]
        show G.2.1.length < 2048
        omega
      show Rg o ∧ _
      have e1 : ∀ (q : Nat) (X : List Int), mX (wX (wV (wV σ 22 0 (G.1.1 + (20 + (C.length : Int)))) 22 1 (G.1.2 + (20 + (C.length : Int)))) 132 X) q = if q = 132 then X else mX σ q := fun q X => by
        by_cases h : q = 132
        · rw [if_pos h, h, wX_self]
        · rw [if_neg h, wX_ne h]
          rfl
      have fy : gFin o C fl fw G = .inl ((G.1.1 + (20 + (C.length : Int)), G.1.2 + (20 + (C.length : Int))), G.2.1 ++ [(C, o, fl)], if fw = true then G.2.2 ++ [(G.2.1.length : Int)] else G.2.2) := by
        unfold gFin
        rw [if_neg (by omega), gSp_y h8]
        rfl
      have bd : GB9 (c - 90) ((G.1.1 + (20 + (C.length : Int)), G.1.2 + (20 + (C.length : Int))), G.2.1 ++ [(C, o, fl)], if fw = true then G.2.2 ++ [(G.2.1.length : Int)] else G.2.2) := by
        refine ⟨⟨by omega, by omega⟩, ⟨by omega, by omega⟩, ?_, ?_, ?_⟩
        · rw [List.length_append]
          show G.2.1.length + 1 ≤ 1500
          omega
        · rw [List.length_append, List.map_append, suM_app]
          show ((suM (G.2.1.map (·.1)) + (C.length + 0) : Nat) : Int) + 20 * ((G.2.1.length + 1 : Nat) : Int) ≤ G.1.1 + (20 + (C.length : Int))
          omega
        · rw [List.length_append]
          show 45 * (((if fw = true then G.2.2 ++ [(G.2.1.length : Int)] else G.2.2).length : Nat) : Int) ≤ 3 * (G.1.1 + (20 + (C.length : Int))) + 75 * ((G.2.1.length + 1 : Nat) : Int) + (c - 90)
          split
          · rw [List.length_append]
            show 45 * ((G.2.2.length + 1 : Nat) : Int) ≤ _
            omega
          · omega
      have l5 : (mX σ 138).length < 8192 := by
        rw [g5]
        omega
      refine ⟨ho, ?_, hf, ?_, by cases fw <;> decide, fun h7 => ?_, fun h7 => ⟨?_, ?_⟩⟩
      · rw [e1, if_neg (by decide), g3, List.length_map]
        omega
      · rw [e1, if_neg (by decide), g4, List.length_map]
        omega
      · have hw := bZ_z h7
        refine hy _ _ fy ?_ bd (((FrGa.v.tr FrGa.v).tr (FrGa.x (by decide))).tr ((FrGa.x (by decide)).tr (FrGa.x (by decide))))
        refine ⟨?_, ?_, ?_, ?_, ?_, ?_, ?_⟩
        · show mX σ 130 = _
          rw [g1, List.append_nil, List.map_append, List.flatten_append]
          show _ = _ ++ [C].flatten
          rw [List.flatten_singleton]
        · rw [wX_ne (by decide), wX_ne (by decide), e1, if_pos rfl]
          show mX σ 132 ++ [(((mX σ 130).length : Nat) : Int)] = _
          rw [g2, hlen, List.map_append]
          show _ = enS 0 (_ ++ [C])
          rw [enS_sn, Nat.zero_add]
        · rw [wX_ne (by decide), wX_self, e1, if_neg (by decide), g3, List.map_append]
          rfl
        · rw [wX_self, e1, if_neg (by decide), g4, List.map_append]
          rfl
        · show mX σ 138 = if fw = true then _ else _
          rw [g5, hw]
          rfl
        · show mV (wV (wV σ 22 0 (G.1.1 + (20 + (C.length : Int)))) 22 1 (G.1.2 + (20 + (C.length : Int)))) 22 0 = _
          rw [wV_ne (Or.inr (by decide)), wV_self]
        · show mV (wV (wV σ 22 0 (G.1.1 + (20 + (C.length : Int)))) 22 1 (G.1.2 + (20 + (C.length : Int)))) 22 1 = _
          rw [wV_self]
      · rw [e1, if_neg (by decide)]
        exact l5
      · have hw := bZ_ne h7
        refine hy _ _ fy ?_ bd (((FrGa.v.tr FrGa.v).tr (FrGa.x (by decide))).tr (((FrGa.x (by decide)).tr (FrGa.x (by decide))).tr (FrGa.x (by decide))))
        refine ⟨?_, ?_, ?_, ?_, ?_, ?_, ?_⟩
        · show mX σ 130 = _
          rw [g1, List.append_nil, List.map_append, List.flatten_append]
          show _ = _ ++ [C].flatten
          rw [List.flatten_singleton]
        · rw [wX_ne (by decide), wX_ne (by decide), wX_ne (by decide), e1, if_pos rfl]
          show mX σ 132 ++ [(((mX σ 130).length : Nat) : Int)] = _
          rw [g2, hlen, List.map_append]
          show _ = enS 0 (_ ++ [C])
          rw [enS_sn, Nat.zero_add]
        · rw [wX_ne (by decide), wX_ne (by decide), wX_self, e1, if_neg (by decide), g3, List.map_append]
          rfl
        · rw [wX_ne (by decide), wX_self, e1, if_neg (by decide), g4, List.map_append]
          rfl
        · rw [wX_self]
          show mX σ 138 ++ [(G.2.1.length : Int)] = if fw = true then _ else _
          rw [g5, hw]
          rfl
        · show mV (wV (wV σ 22 0 (G.1.1 + (20 + (C.length : Int)))) 22 1 (G.1.2 + (20 + (C.length : Int)))) 22 0 = _
          rw [wV_ne (Or.inr (by decide)), wV_self]
        · show mV (wV (wV σ 22 0 (G.1.1 + (20 + (C.length : Int)))) 22 1 (G.1.2 + (20 + (C.length : Int)))) 22 1 = _
          rw [wV_self]
    · refine hn _ _ ?_ hx FrGa.v
      unfold gFin
      rw [if_neg (by omega), gSp_n h8]
      rfl
  · refine Purse_fail.g (by decide) g6 g7 (fun hx => hn _ _ ?_ hx FrGa.v)
    unfold gFin
    rw [if_pos (by omega)]
end
/-- the blanks that justify makes -/
def rmO (W n : Int) : Int := max 4 (W - n)
def nGp : List Int → Int
  | [] => 0
  | c :: r => (if c = 32 then 1 else 0) + nGp r
def prJ (J l : Int) : Int := if J = 1 then l else if J = 2 then Int.tdiv l 2 else 0
def prE (J : Int) (ls : Bool) (g l : Int) : Int := if J = 3 ∧ ls = false ∧ 0 < g then Int.tdiv l g else 0
def prM (J : Int) (ls : Bool) (g l : Int) : Int := if J = 3 ∧ ls = false ∧ 0 < g then Int.tmod l g else 0
def prO (ev : Bool) (all more g : Int) : Int := if ev = true then (if g < more then 1 else 0) else (if all - more ≤ g then 1 else 0)
def prG (ev : Bool) (all each more : Int) : Int → List Int → List Int
  | _, [] => []
  | g, c :: r => if c = 32 then c :: (List.replicate (each + prO ev all more g).toNat 32 ++ prG ev all each more (g + 1) r) else c :: prG ev all each more g r
def prH (P : List Int) (hg : Int) (i : Nat) : List Int := if i = 0 then P else List.replicate hg.toNat 32
def prW (P : List Int) (hg : Int) (i : Nat) : Int := if i = 0 then (P.length : Int) else hg
def prF (P : List Int) (hg W : Int) (i n : Nat) (b : Bool) : Int := max 0 (rmO W (prW P hg i) - (n : Int) - bZ b)
def prT (b : Bool) (c : Int) : List Int := if b = true then [45 + (c % 512 - c % 128)] else []
/-- line i -/
def prL (P : List Int) (hg J W : Int) (ls : Bool) (U : List Int) (i : Nat) (x : Nat × Nat × Bool) : List Int := prH P hg i ++ List.replicate (prJ J (prF P hg W i (x.2.1 - x.1) x.2.2)).toNat 32 ++ prG (decide (i % 2 = 0)) (nGp (sgT U x.1 x.2.1)) (prE J ls (nGp (sgT U x.1 x.2.1)) (prF P hg W i (x.2.1 - x.1) x.2.2)) (prM J ls (nGp (sgT U x.1 x.2.1)) (prF P hg W i (x.2.1 - x.1) x.2.2)) 0 (sgT U x.1 x.2.1) ++ prT x.2.2 (U.getD (x.2.1 - 1) 0)
