/-! CONTENTS: the document, the class -/
def ctA (W : Int) (lab : List Int) (lv : Int) (t : List Int) : List Int := (List.replicate (2 * (lv - 1)).toNat 32 ++ t).take (max 0 (W - 3 - (lab.length : Int))).toNat
def ctC (W : Int) (lab : List Int) (lv : Int) (t : List Int) : List Int := ctA W lab lv t ++ [32] ++ List.replicate (max 1 (W - ((ctA W lab lv t).length + 1 : Int) - 1 - (lab.length : Int))).toNat 46 ++ [32] ++ lab
def ctL (W f s : Int) (B : HG9) : Nat → Nat → List (List Int × Int)
  | 0, _ => []
  | n + 1, k => (ctC W (wrN (f + B.2.2.getD k 0) s) (B.2.1.getD k 0) (B.1.getD k []), 0) :: ctL W f s B n (k + 1)
def ctD (o : Int) (S : List Int) (f s : Int) (B : HG9) (b : BK9) : BK9 ⊕ (Int × Int × Int) := if B.1.length = 0 then .inl b else match gAll o true (ctL (S.getD 0 0) f s B B.1.length 0) ((b.1.1.1, b.1.1.2.1), b.2.1.1, flS b (S.getD 8 0)) with
  | .inr e => .inr e
  | .inl G1 => .inl (blG b G1)
/-- headings of the round before -/
def CtB (B : HG9) : Prop := B.1.length ≤ 60 ∧ B.2.1.length = B.1.length ∧ B.2.2.length = B.1.length ∧ suM B.1 ≤ 61000 ∧ (∀ t ∈ B.1, smB t) ∧ ∀ k, k < B.1.length → (1 ≤ B.2.1.getD k 0 ∧ B.2.1.getD k 0 ≤ 3) ∧ (0 ≤ B.2.2.getD k 0 ∧ B.2.2.getD k 0 ≤ 100)
def CtC (σ : MS) (z' : Nat) (B : HG9) : Prop := shR σ (z' + 13) B.1 ∧ mX σ (z' + 18) = B.2.1 ∧ mX σ (z' + 20) = B.2.2
theorem ctA_l {W : Int} {lab : List Int} {lv : Int} {t : List Int} (hW : 12 ≤ W ∧ W ≤ 80) : (ctA W lab lv t).length ≤ 77 := by
  unfold ctA
  exact Nat.le_trans (List.length_take_le _ _) (by omega)
theorem ctC_l {W : Int} {lab : List Int} {lv : Int} {t : List Int} (hW : 12 ≤ W ∧ W ≤ 80) (hl : lab.length ≤ 20) : (ctC W lab lv t).length ≤ 180 := by
  have := ctA_l (lab := lab) (lv := lv) (t := t) hW
  unfold ctC
  rw [List.length_append, List.length_append, List.length_append, List.length_append, List.length_replicate]
  show _ + 1 + _ + 1 + _ ≤ 180
  omega
theorem ctL_l {W f s : Int} {B : HG9} : ∀ (n k : Nat), (ctL W f s B n k).length = n
  | 0, _ => rfl
  | n + 1, k => by
    show (ctL W f s B n (k + 1)).length + 1 = n + 1
    rw [ctL_l n (k + 1)]
theorem rcut_am {D M : List Int} {m : Nat} : rcut (D ++ M) ((D.length + m : Nat) : Int) = D ++ M.take m := by
  unfold rcut
  rw [List.length_append]
  split
  · rw [Int.toNat_natCast, List.take_append, Nat.add_sub_cancel_left, List.take_of_length_le (by omega)]
  · rename_i h
    rw [List.take_of_length_le (by omega)]
section
variable {σ σ0 : MS} {Q : MQ9} {z' : Nat} {W o c9 : Int}
theorem ctn_94 {k x0 : Nat} {lab D t : List Int} {lv : Int} (hz' : z' = 49 ∨ z' = 163) (hB1 : mB σ 1 = z') (hW : 12 ≤ W ∧ W ≤ 80) (h208 : mX σ 208 = lab) (hll : lab.length ≤ 20) (h130 : mX σ 130 = D) (hDl : D.length ≤ 61000) (hk : k ≤ 1000) (hlv : rgt (mX σ (z' + 18)) (k : Int) = lv) (hl3 : 1 ≤ lv ∧ lv ≤ 3) (hsf : sfrM (mX σ (z' + 13 + 3)) (k : Int) = (x0 : Int)) (hst : stoM (mX σ (z' + 13 + 3)) (k : Int) = ((x0 + t.length : Nat) : Int)) (ht : LnC σ (z' + 13 + 1) x0 t) (htl : t.length ≤ 61000) (hq : Setter_contents_236 W (k : Int) (wX σ 130 (D ++ ctC W lab lv t)) Q) : Setter_contents_94 W (k : Int) σ Q := by
  have im : isMarks z' = true := by rcases hz' with rfl | rfl <;> decide
  have i18 : isRow (z' + 18) = true := by rcases hz' with rfl | rfl <;> decide
  have ish : isShelf (z' + 13) = true := by rcases hz' with rfl | rfl <;> decide
  have i14 : isRow (z' + 13 + 1) = true := by rcases hz' with rfl | rfl <;> decide
  have ine : neB (z' + 13 + 1) 130 = true := by rcases hz' with rfl | rfl <;> decide
  have n1 : z' + 13 + 1 ≠ 130 := by omega
  have n3 : z' + 13 + 3 ≠ 130 := by omega
  have rk : Rg (k : Int) := by unfold Rg; omega
  have aL := ctA_l (lab := lab) (lv := lv) (t := t) hW
  refine Setter_contents_94.i ?_
  rw [hB1, hlv, h130]
  refine tB.i im (tB.i i18 (tB.i i18 ⟨rk, by unfold Rg; omega, by omega, ?_⟩))
  refine Setter_contents_121.i ?_
  rw [show mB (wX σ 130 (D ++ List.replicate (2 * (lv - 1)).toNat 32)) 1 = z' from hB1, wX_ne n3, wX_ne n1, wX_self, hsf, hst, show ((x0 + t.length : Nat) : Int) - (x0 : Int) = (t.length : Int) by omega, Int.toNat_natCast]
  have ep := ht.pour (p := 0) (b := t.length) (Nat.zero_le _) (Nat.le_refl _)
  rw [Nat.sub_zero, Nat.add_zero x0] at ep
  have es : sgT t 0 t.length = t := by
    unfold sgT
    rw [List.drop_zero, Nat.sub_zero, List.take_length]
  rw [ep, es, wX_wX]
  refine tB.i im (tB.i ish (tB.i im (tB.i ish (tB.i ish ⟨rk, tB.i im (tB.i ish (tB.i ish ⟨rk, tB.i i14 (tB.i ine ⟨?_, ?_⟩)⟩))⟩))))
  · rw [List.length_append, List.length_replicate]
    omega
  refine Setter_contents_157.i ?_
  rw [wX_ne (q' := 208) (by decide), h208, wX_self, wX_wX]
  refine ⟨by unfold Rg; omega, by unfold Rg; omega, ?_⟩
  rw [show (D.length : Int) + max 0 (W - 3 - (lab.length : Int)) = ((D.length + (max 0 (W - 3 - (lab.length : Int))).toNat : Nat) : Int) by omega, List.append_assoc, rcut_am, show (List.replicate (2 * (lv - 1)).toNat (32 : Int) ++ t).take (max 0 (W - 3 - (lab.length : Int))).toNat = ctA W lab lv t from rfl]
  refine Setter_contents_179.i ?_
  rw [wX_self, wX_wX]
  refine ⟨by rw [List.length_append]; omega, ?_⟩
  refine Setter_contents_185.i ?_
  rw [wX_ne (q' := 208) (by decide), h208, wX_self, wX_wX]
  have el : ((D ++ ctA W lab lv t ++ [32]).length : Int) - (D.length : Int) = ((ctA W lab lv t).length + 1 : Int) := by
    rw [List.length_append, List.length_append]
    show ((D.length + (ctA W lab lv t).length + 1 : Nat) : Int) - _ = _
    omega
  have ll : (D ++ ctA W lab lv t ++ [32]).length = D.length + (ctA W lab lv t).length + 1 := by
    rw [List.length_append, List.length_append]
    rfl
  rw [el]
  refine ⟨by unfold Rg; omega, by rw [ll]; omega, ?_⟩
  refine Setter_contents_214.i ?_
  rw [wX_self, wX_wX]
  refine ⟨by rw [List.length_append, ll, List.length_replicate]; omega, ?_⟩
  refine Setter_contents_220.i ?_
  rw [wX_ne (q' := 208) (by decide), h208, wX_self, wX_wX, Int.sub_zero, Int.toNat_natCast]
  have el2 : pourM (rgt lab) lab.length 0 = lab := by
    have := LnC.pour (σ := wX σ 208 lab) (q := 208) (x0 := 0) (T := lab) (p := 0) (b := lab.length) ⟨by decide, by omega, fun t ht => by
      rw [wX_self, show ((0 : Nat) : Int) + (t : Int) = (t : Int) by omega]
      exact rgt_n ht⟩ (Nat.zero_le _) (Nat.le_refl _)
    rw [wX_self] at this
    have e9 : sgT lab 0 lab.length = lab := by
      unfold sgT
      rw [List.drop_zero, Nat.sub_zero, List.take_length]
    rw [e9] at this
    exact this
  rw [el2]
  refine ⟨by rw [List.length_append, List.length_append, ll, List.length_replicate]; show _ + _ + 1 + _ ≤ _; omega, ?_⟩
  have fin : D ++ ctA W lab lv t ++ [32] ++ List.replicate (max 1 (W - ((ctA W lab lv t).length + 1 : Int) - 1 - (lab.length : Int))).toNat 46 ++ [32] ++ lab = D ++ ctC W lab lv t := by
    unfold ctC
    simp only [List.append_assoc]
  rw [fin]
  exact hq
def FrCt (σ σ' : MS) : Prop := (∀ q, q ≠ 208 → q ≠ 130 → q ≠ 132 → q ≠ 134 → q ≠ 136 → q ≠ 138 → mX σ' q = mX σ q) ∧ σ'.2.2 = σ.2.2 ∧ ∀ y k, y ≠ 22 → mV σ' y k = mV σ y k
theorem FrCt.rf : FrCt σ σ := ⟨fun _ _ _ _ _ _ _ => rfl, rfl, fun _ _ _ => rfl⟩
theorem FrCt.tr {σ1 σ2 : MS} (h : FrCt σ σ1) (h' : FrCt σ1 σ2) : FrCt σ σ2 := ⟨fun q a b c d e f => (h'.1 q a b c d e f).trans (h.1 q a b c d e f), h'.2.1.trans h.2.1, fun y k a => (h'.2.2 y k a).trans (h.2.2 y k a)⟩
theorem FrCt.g {σ1 : MS} (h : FrGa σ σ1) : FrCt σ σ1 := ⟨fun q _ b c d e f => h.1 q b c d e f, h.2.1, h.2.2⟩
theorem FrCt.x {L : List Int} : FrCt σ (wX σ 208 L) := ⟨fun q a _ _ _ _ _ => wX_ne a, rfl, fun _ _ _ => rfl⟩
theorem CtC.fr {σ1 : MS} {B : HG9} (hz' : z' = 49 ∨ z' = 163) (h : CtC σ z' B) (f : FrCt σ σ1) : CtC σ1 z' B := by
  have x : ∀ q, z' ≤ q → q ≤ z' + 36 → mX σ1 q = mX σ q := fun q a c => f.1 q (by omega) (by omega) (by omega) (by omega) (by omega) (by omega)
  exact ⟨⟨(x _ (by omega) (by omega)).trans h.1.1, (x _ (by omega) (by omega)).trans h.1.2⟩, (x _ (by omega) (by omega)).trans h.2.1, (x _ (by omega) (by omega)).trans h.2.2⟩
theorem ctn_51 {f s : Int} {B : HG9} (hz' : z' = 49 ∨ z' = 163) (hW : 12 ≤ W ∧ W ≤ 80) (ho : Rg o) (hB : CtB B) (hf : 0 ≤ f ∧ f ≤ 999) (hs : 0 < B.1.length → 1 ≤ s ∧ s ≤ 5) (hc : c9 ≤ 1000) : ∀ (n k : Nat) (σ : MS) (G : GS9), k + n = B.1.length → mB σ 1 = z' → CtC σ z' B → mV σ z' 14 = f → mV σ z' 15 = s → mV σ 127 16 = o → GaC σ G [] → GB9 c9 G → (∀ G' σ', gAll o true (ctL W f s B n k) G = .inl G' → GaC σ' G' [] → FrCt σ σ' → Q (.inl none) σ') → (∀ e σ', gAll o true (ctL W f s B n k) G = .inr e → TxF σ' e → FrCt σ σ' → Q (.inr (exN 0)) σ') → Setter_contents_51 W (k : Int) σ Q := by
  obtain ⟨b1, b2, b3, b4, b5, b6⟩ := hB
  have im : isMarks z' = true := by rcases hz' with rfl | rfl <;> decide
  have ish : isShelf (z' + 13) = true := by rcases hz' with rfl | rfl <;> decide
  have i16 : isRow (z' + 13 + 3) = true := by rcases hz' with rfl | rfl <;> decide
  have i14 : isRow (z' + 13 + 1) = true := by rcases hz' with rfl | rfl <;> decide
  have i20 : isRow (z' + 20) = true := by rcases hz' with rfl | rfl <;> decide
  intro n
  induction n with
  | zero =>
    intro k σ G hk hB1 hC h14 h15 h16 hG hGB hy hn
    have lr : (mX σ (z' + 13 + 3)).length = B.1.length := by rw [hC.1.2, enS_len]
    refine Setter_contents_51.i ?_
    rw [hB1]
    refine tB.i im (tB.i ish (Shelf_rows.i (tB.i ish (tB.i i16 ?_))))
    rw [lr]
    show Rg (k : Int) ∧ _
    exact ⟨by unfold Rg; omega, fun _ => hy G σ rfl hG FrCt.rf, fun h => absurd h (by omega)⟩
  | succ n ih =>
    intro k σ G hk hB1 hC h14 h15 h16 hG hGB hy hn
    have lr : (mX σ (z' + 13 + 3)).length = B.1.length := by rw [hC.1.2, enS_len]
    have hkl : k < B.1.length := by omega
    have bk := b6 k hkl
    have e0 : ∀ r, gAll o true (ctL W f s B (n + 1) k) G = r ↔ gBd (gFin o (ctC W (wrN (f + B.2.2.getD k 0) s) (B.2.1.getD k 0) (B.1.getD k [])) 0 true G) (gAll o true (ctL W f s B n (k + 1))) = r := fun r => Iff.rfl
    have eB : B.1 = B.1.take k ++ B.1.getD k [] :: B.1.drop (k + 1) := by
      unfold List.getD
      rw [List.getElem?_eq_getElem hkl, Option.getD_some, List.getElem_cons_drop, List.take_append_drop]
    have lt : (B.1.take k).length = k := by rw [List.length_take]; omega
    have sm := suM_tk (W := B.1) (i := k) hkl
    have gl := hG.len
    have gb4 := hGB.2.2.2.1
    have gb1 := hGB.1
    refine Setter_contents_51.i ?_
    rw [hB1]
    refine tB.i im (tB.i ish (Shelf_rows.i (tB.i ish (tB.i i16 ?_))))
    rw [lr]
    show Rg (k : Int) ∧ _
    refine ⟨by unfold Rg; omega, fun h => absurd h (by omega), fun _ => ?_⟩
    refine Setter_contents_72.i ?_
    have lab20 := wrN_len (n := f + B.2.2.getD k 0) (sys := s)
    have h20 : rgt (mX (wX σ 208 ([] : List Int)) (z' + 20)) (k : Int) = B.2.2.getD k 0 := by
      rw [wX_ne (by omega), hC.2.2]
      exact rgt_n (by omega)
    rw [show mB (wX σ 208 ([] : List Int)) 1 = z' from hB1, h20]
    refine tB.i im (tB.i i20 (tB.i i20 ⟨by unfold Rg; omega, tB.i im (Marks_putLabel.i (tB.i im (tB.i im (tB.i (by decide) ?_))))⟩))
    rw [show mV (wX σ 208 ([] : List Int)) z' 14 = f from h14, show mV (wX σ 208 ([] : List Int)) z' 15 = s from h15]
    refine Row_putNumber.s (by decide) (by omega) (hs (by omega)) (fun _ => by omega) (by rw [wX_self]; decide) ?_
    show Setter_contents_94 W (k : Int) (wX (wX σ 208 ([] : List Int)) 208 (mX (wX σ 208 ([] : List Int)) 208 ++ wrN (f + B.2.2.getD k 0) s)) Q
    rw [wX_self, List.nil_append, wX_wX]
    generalize hlab : wrN (f + B.2.2.getD k 0) s = lab at lab20
    rw [hlab] at e0
    have f1 : FrCt σ (wX σ 208 lab) := FrCt.x
    have c1 := hC.fr hz' f1
    have hsh := c1.1
    rw [eB] at hsh
    have sf := sfr_at (p := B.1.take k) (rs := B.1.getD k [] :: B.1.drop (k + 1))
    have st := sto_at (p := B.1.take k) (r := B.1.getD k []) (rs := B.1.drop (k + 1))
    rw [lt, ← hsh.2] at sf st
    have D1 : mX (wX σ 208 lab) 130 = mX σ 130 := wX_ne (by decide)
    have sl : (mX σ 130).length ≤ 60000 := by
      rw [gl, List.length_nil]
      omega
    refine ctn_94 (D := mX σ 130) (lab := lab) (t := B.1.getD k []) (lv := B.2.1.getD k 0) (x0 := suM (B.1.take k)) hz' hB1 hW wX_self lab20 D1 (by omega) (by omega) (by rw [c1.2.1]; exact rgt_n (by omega)) bk.1 sf st (hsh.ln i14 (by omega)) (by omega) ?_
    have cl := ctC_l (lab := lab) (lv := B.2.1.getD k 0) (t := B.1.getD k []) hW lab20
    have hG1 : GaC (wX σ 208 lab) G [] := hG.fr (fun q hq => wX_ne (by omega)) (fun _ _ => rfl)
    have hG2 := hG1.put (D := ctC W lab (B.2.1.getD k 0) (B.1.getD k []))
    rw [List.nil_append, D1] at hG2
    refine Setter_contents_236.i ?_
    rw [show mV (wX (wX σ 208 lab) 130 (mX σ 130 ++ ctC W lab (B.2.1.getD k 0) (B.1.getD k []))) 127 16 = o from h16]
    have f2 : FrCt σ (wX (wX σ 208 lab) 130 (mX σ 130 ++ ctC W lab (B.2.1.getD k 0) (B.1.getD k []))) := f1.tr (FrCt.g (FrGa.x (by decide)))
    refine Galley_finish.c (fw := true) (d9 := c9) hG2 hGB (by omega) hc ho (by decide) (fun G' σ' q1 q2 q3 q4 => ?_) (fun e σ' q1 q2 q3 => ?_)
    · show Setter_contents_249 W (k : Int) σ' Q
      have f3 := f2.tr (FrCt.g q4)
      refine Setter_contents_249.i ?_
      rw [show (k : Int) + 1 = ((k + 1 : Nat) : Int) by omega]
      exact ih (k + 1) σ' G' (by omega) (by rw [show mB σ' = mB σ from congrArg Prod.fst f3.2.1]; exact hB1) (hC.fr hz' f3) ((f3.2.2 _ _ (by omega)).trans h14) ((f3.2.2 _ _ (by omega)).trans h15) ((f3.2.2 _ _ (by decide)).trans h16) q2 (q3.mo (by omega)) (fun G2 σ2 w1 w2 w3 => hy G2 σ2 ((e0 _).mpr (by rw [q1]; exact w1)) w2 (f3.tr w3)) (fun e σ2 w1 w2 w3 => hn e σ2 ((e0 _).mpr (by rw [q1]; exact w1)) w2 (f3.tr w3))
    · exact hn e σ' ((e0 _).mpr (by rw [q1]; rfl)) q2 (f2.tr (FrCt.g q3))
end
/-! blocks without a text: the class, a wider frame (contents, index) -/
/-- rows of contents and index: text, scratch, the filler's, two of the round before -/
def FrIx (z' : Nat) (σ σ' : MS) : Prop := (∀ q, q ∉ [112, 114, 116, 118, 130, 132, 134, 136, 138, 206, 208] → q ≠ z' + 31 → q ≠ z' + 33 → mX σ' q = mX σ q) ∧ σ'.2.2 = σ.2.2 ∧ ∀ y k, y ≠ 22 → y ≠ 126 → ¬ (y = 128 ∧ k = 10) → ¬ (y = 111 ∧ (k = 9 ∨ k = 10 ∨ k = 11 ∨ k = 12)) → mV σ' y k = mV σ y k
section
variable {σ σ0 : MS} {Q : MQ9} {z z' : Nat} {S : List Int} {o : Int} {E : TE} {b : BK9}
theorem FrIx.rf : FrIx z' σ σ := ⟨fun _ _ _ _ => rfl, rfl, fun _ _ _ _ _ _ => rfl⟩
theorem FrIx.tr {σ1 σ2 : MS} (h : FrIx z' σ σ1) (h' : FrIx z' σ1 σ2) : FrIx z' σ σ2 := ⟨fun q a b c => (h'.1 q a b c).trans (h.1 q a b c), h'.2.1.trans h.2.1, fun y k a b c d => (h'.2.2 y k a b c d).trans (h.2.2 y k a b c d)⟩
theorem RdC.g3 {s : TS} {w : Int × Int} {σ1 : MS} (h : RdC σ E z z' s) (nz : ∀ q, (q < 111 ∨ (163 ≤ q ∧ q ≤ 199)) → q ≠ z' + 31 → q ≠ z' + 33 → mX σ1 q = mX σ q) (h2 : σ1.2.2 = σ.2.2) (v : ∀ y k, (y = 49 ∨ y = 163) → mV σ1 y k = mV σ y k) (h0 : mV σ1 22 0 = w.1) (h1 : mV σ1 22 1 = w.2) : RdC σ1 E z z' ((w.1, w.2, s.1.2.2), s.2) := by
  obtain ⟨-, ⟨r3, r4, r5⟩, r6, ⟨⟨m1, m2, m3⟩, ⟨m4, m5⟩, m6, m7, m8⟩, r7, r8⟩ := h
  have hz := r4.2.2.1
  have hz' := r4.2.2.2.1
  have eB : mB σ1 = mB σ := congrArg Prod.fst h2
  have sh : ∀ {y : Nat} {R : List (List Int)}, shR σ y R → (z ≤ y ∧ y + 3 ≤ z + 36) → shR σ1 y R := fun h a => ⟨(nz _ (by omega) (by omega) (by omega)).trans h.1, (nz _ (by omega) (by omega) (by omega)).trans h.2⟩
  exact ⟨⟨h0, h1⟩, ⟨by rw [eB]; exact r3, ⟨by rw [eB]; exact r4.1, by rw [eB]; exact r4.2.1, r4.2.2⟩, r5⟩, r6.cg (nz _ (by omega) (by omega) (by omega)) (nz _ (by omega) (by omega) (by omega)) (nz _ (by omega) (by omega) (by omega)), ⟨⟨sh m1 (by omega), sh m2 (by omega), (nz _ (by omega) (by omega) (by omega)).trans m3⟩, ⟨sh m4 (by omega), (nz _ (by omega) (by omega) (by omega)).trans m5⟩, (v _ _ hz).trans m6, (v _ _ hz).trans m7, (nz _ (by omega) (by omega) (by omega)).trans m8⟩, r7.cg hz' (fun q a c => nz q (by omega) (by omega) (by omega)) (v _ _ hz') (v _ _ hz'), r8.cg (fun q _ _ => nz q (by omega) (by omega) (by omega))⟩
theorem BkC.ix {σ1 : MS} {G1 : GS9} (h : BkC σ E z z' b) (f : FrIx z' σ σ1) (hG : GaC σ1 G1 []) (hb : mV σ1 128 10 = 1) : BkC σ1 E z z' (blG b G1) := by
  obtain ⟨h1, h2, h3, h4, h5, h6⟩ := h
  have hz' := h1.2.1.2.1.2.2.2.1
  have x : ∀ q, (q < 111 ∨ (139 ≤ q ∧ q ≤ 199)) → q ≠ z' + 31 → q ≠ z' + 33 → mX σ1 q = mX σ q := fun q a c d => f.1 q (by
    simp only [List.mem_cons, List.not_mem_nil, or_false]
    omega) c d
  refine ⟨RdC.g3 (w := (G1.1.1, G1.1.2)) h1 (fun q a c d => x q (by omega) c d) f.2.1 (fun y k a => f.2.2 y k (by omega) (by omega) (by omega) (by omega)) hG.2.2.2.2.2.1 hG.2.2.2.2.2.2, hG, ?_, ?_, ?_, hb⟩
  · exact (x 140 (by omega) (by omega) (by omega)).trans h3
  · exact (x 142 (by omega) (by omega) (by omega)).trans h4
  · exact (x 144 (by omega) (by omega) (by omega)).trans h5
theorem FrIx.ct {σ1 : MS} (h : FrCt σ σ1) : FrIx z' σ σ1 := ⟨fun q a _ _ => by
  simp only [List.mem_cons, List.not_mem_nil, or_false] at a
  exact h.1 q (by omega) (by omega) (by omega) (by omega) (by omega) (by omega), h.2.1, fun y k a _ _ _ => h.2.2 y k a⟩
/-- contents, the class -/
theorem Setter_contents.c {f s : Int} {B : HG9} (hS : StB S) (ho : Rg o) (hB : CtB B) (hf : 0 ≤ f ∧ f ≤ 999) (hs : 0 < B.1.length → 1 ≤ s ∧ s ≤ 5) (hSv : ∀ k, k < 13 → mV σ 24 k = S.getD k 0) (h16 : mV σ 127 16 = o) (hB1 : mB σ 1 = z') (hC : CtC σ z' B) (h14 : mV σ z' 14 = f) (h15 : mV σ z' 15 = s) (hK : BkC σ E z z' b) (hGB : GB9 (-45) (bkG b)) (hy : ∀ b' σ', ctD o S f s B b = .inl b' → BkC σ' E z z' b' → FrIx z' σ σ' → Q (.inl none) σ') (hn : ∀ e σ', ctD o S f s B b = .inr e → TxF σ' e → FrIx z' σ σ' → Q (.inr (exN 0)) σ') : Setter_contents σ Q := by
  have s8 := hS.2.2.2.2.2.2
  have hz' : z' = 49 ∨ z' = 163 := hK.1.2.1.2.1.2.2.2.1
  have im : isMarks z' = true := by rcases hz' with rfl | rfl <;> decide
  have ish : isShelf (z' + 13) = true := by rcases hz' with rfl | rfl <;> decide
  have i16 : isRow (z' + 13 + 3) = true := by rcases hz' with rfl | rfl <;> decide
  have lr : (mX σ (z' + 13 + 3)).length = B.1.length := by rw [hC.1.2, enS_len]
  obtain ⟨q1, q2, q3, q4, q5⟩ := hGB
  have q1 : 0 ≤ b.1.1.1 ∧ b.1.1.1 ≤ 60000 := q1
  have q3' : b.2.1.1.length ≤ 1500 := q3
  have q5 : 45 * (b.2.1.2.length : Int) ≤ 3 * b.1.1.1 + 75 * b.2.1.1.length + (-45) := q5
  have lf : 45 * ((flS b (S.getD 8 0)).length : Int) ≤ 3 * b.1.1.1 + 75 * b.2.1.1.length + 90 := by
    unfold flS
    rw [List.length_append]
    split
    · rw [List.length_replicate]
      omega
    · rw [List.length_nil]
      omega
  have lF : (bkG b).2.2.length ≤ 8000 := by
    show b.2.1.2.length ≤ 8000
    omega
  refine Setter_contents.i (told_c (k := 0) (by decide) (hSv 0 (by decide)) ?_)
  show tB (isMarks (mB σ 1)) (tB (isShelf (mB σ 1 + 13)) (Shelf_rows (mB σ 1 + 13) σ _))
  rw [hB1]
  refine tB.i im (tB.i ish (Shelf_rows.i (tB.i ish (tB.i i16 ?_))))
  rw [lr]
  show ((B.1.length : Int) ≤ 0 → Setter_contents_49 (S.getD 0 0) σ Q) ∧ (0 < (B.1.length : Int) → _)
  refine ⟨fun h => ?_, fun h => ?_⟩
  · refine Setter_contents_49.i ?_
    have := ctn_51 (Q := Q) (c9 := 0) (o := o) (f := f) (s := s) hz' hS.1 ho hB hf hs (by decide) 0 0 σ (bkG b) (by omega) hB1 hC h14 h15 h16 hK.2.1 ⟨q1, q2, q3, q4, by show 45 * (b.2.1.2.length : Int) ≤ 3 * b.1.1.1 + 75 * b.2.1.1.length + 0; omega⟩ (fun G' σ' w1 w2 w3 => ?_) (fun e σ' w1 w2 w3 => by cases w1)
    · exact this
    · -- no headings: nothing is done
      refine hy b σ' (by unfold ctD; rw [if_pos (by omega)]) ?_ (FrIx.ct w3)
      have eG : bkG b = G' := Sum.inl.inj w1
      obtain ⟨k1, k2, k3, k4, k5, k6⟩ := hK
      have x : ∀ q, q ≠ 208 → q ≠ 130 → q ≠ 132 → q ≠ 134 → q ≠ 136 → q ≠ 138 → mX σ' q = mX σ q := w3.1
      refine ⟨RdC.g3 (w := (b.1.1.1, b.1.1.2.1)) k1 (fun q a c d => x q (by omega) (by omega) (by omega) (by omega) (by omega) (by omega)) w3.2.1 (fun y k a => w3.2.2 y k (by omega)) ?_ ?_, by rw [eG]; exact w2, (x _ (by decide) (by decide) (by decide) (by decide) (by decide) (by decide)).trans k3, (x _ (by decide) (by decide) (by decide) (by decide) (by decide) (by decide)).trans k4, (x _ (by decide) (by decide) (by decide) (by decide) (by decide) (by decide)).trans k5, (w3.2.2 _ _ (by decide)).trans k6⟩
      · rw [w2.2.2.2.2.2.1, ← eG]
        rfl
      · rw [w2.2.2.2.2.2.2, ← eG]
        rfl
  · refine told_c (k := 8) (by decide) (hSv 8 (by decide)) ?_
    refine Galley_beginBlock.c hK.2.1 hK.2.2.2.2.2 s8 lF (fun σ1 g1 d1 x1 c1 v1 => ?_)
    have fb : FrIx z' σ σ1 := ⟨fun q a _ _ => x1 q (fun e => a (by rw [e]; decide)), c1, fun y k _ _ a _ => v1 y k a⟩
    show Setter_contents_49 (S.getD 0 0) σ1 Q
    refine Setter_contents_49.i ?_
    have eR : ∀ r, ctD o S f s B b = r ↔ (match gAll o true (ctL (S.getD 0 0) f s B B.1.length 0) ((b.1.1.1, b.1.1.2.1), b.2.1.1, flS b (S.getD 8 0)) with
      | .inr e => (Sum.inr e : BK9 ⊕ (Int × Int × Int))
      | .inl G1 => .inl (blG b G1)) = r := fun r => by
      unfold ctD
      rw [if_neg (by omega)]
    have c1' : CtC σ1 z' B := ⟨⟨(x1 _ (by omega)).trans hC.1.1, (x1 _ (by omega)).trans hC.1.2⟩, (x1 _ (by omega)).trans hC.2.1, (x1 _ (by omega)).trans hC.2.2⟩
    have := ctn_51 (Q := Q) (c9 := 90) (o := o) (f := f) (s := s) hz' hS.1 ho hB hf hs (by decide) B.1.length 0 σ1 ((b.1.1.1, b.1.1.2.1), b.2.1.1, flS b (S.getD 8 0)) (by omega) (by rw [show mB σ1 = mB σ from congrArg Prod.fst c1]; exact hB1) c1' ((v1 _ _ (by omega)).trans h14) ((v1 _ _ (by omega)).trans h15) ((v1 _ _ (by decide)).trans h16) g1 ⟨q1, q2, q3, q4, lf⟩ (fun G1 σ2 w1 w2 w3 => ?_) (fun e σ2 w1 w2 w3 => ?_)
    · exact this
    · refine hy (blG b G1) σ2 ((eR _).mpr (by rw [w1])) (hK.ix (fb.tr (FrIx.ct w3)) w2 ?_) (fb.tr (FrIx.ct w3))
      rw [w3.2.2 128 10 (by decide)]
      exact d1
    · exact hn e σ2 ((eR _).mpr (by rw [w1])) w2 (fb.tr (FrIx.ct w3))
end
