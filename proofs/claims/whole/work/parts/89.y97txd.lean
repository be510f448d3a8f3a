/-! THE TEXT OF A PARAGRAPH OR AN ITEM: the document, the class -/
/-- a text begins: style, row and notes of its own -/
def tx0 (s : TS) : TS := ((s.1.1, s.1.2.1, 0), [], s.2.2.1, s.2.2.2.1, s.2.2.2.2.1, ([], [], s.2.2.2.2.2.1.2.2), s.2.2.2.2.2.2)
/-- what blocks make: texts' state, (lines, flow), (where notes are carried, their lines), whether a block has lines -/
abbrev BK9 : Type := TS × (List GL9 × List Int) × (List Int × List (Int × Int)) × Bool
def bkG (b : BK9) : GS9 := ((b.1.1.1, b.1.1.2.1), b.2.1)
/-- settings, from 0 on: wide, indent, justify, hyph, left, right, fill, keep, gap -/
def hyS (S : List Int) (P X : List (List Int)) : HY9 := (decide (S.getD 3 0 = 1), P, X, S.getD 4 0, S.getD 5 0)
def txX (H : HY9) (S P : List Int) (hg : Int) (U : List Int) : List (Nat × Nat × Bool) := liX H U (rmO (S.getD 0 0) (P.length : Int)).toNat (rmO (S.getD 0 0) hg).toNat (decide (S.getD 6 0 = 1))
def flS (b : BK9) (sp : Int) : List Int := b.2.1.2 ++ (if b.2.2.2 = true then List.replicate sp.toNat (-2) else [])
/-- labels and keys know their places in the flow -/
def txM (s : TS) (w : Int × Int) (l0 k0 : Nat) (f : Int → Int) : TS := ((w.1, w.2, 0), [], s.2.2.1, (s.2.2.2.1.1, s.2.2.2.1.2.1, crL l0 f s.2.2.2.1.2.2), (s.2.2.2.2.1.1, crL k0 f s.2.2.2.2.1.2), ([], [], s.2.2.2.2.2.1.2.2), s.2.2.2.2.2.2)
def txN (o : Int) (H : HY9) (S : List Int) (b : BK9) (s1 : TS) (X : List (Nat × Nat × Bool)) (first : Nat) (m0 : Int) (G1 : GS9) : BK9 ⊕ (Int × Int × Int) := match ntD o H (S.getD 0 0) s1.2.2.2.2.2.1.1 (m0 + 1) G1 with
  | .inr e => .inr e
  | .inl q => .inl (txM s1 q.1.1 b.1.2.2.2.1.1.length b.1.2.2.2.2.1.1.length (crF (foP (pkL s1.2.1)) first X), q.1.2, (b.2.2.1.1 ++ s1.2.2.2.2.2.1.2.1.map (fun c => ((first + lnO c X : Nat) : Int)), b.2.2.1.2 ++ q.2), true)
def txF (o : Int) (H : HY9) (S P : List Int) (hg sp : Int) (b : BK9) (s1 : TS) : BK9 ⊕ (Int × Int × Int) := match gAll o true (prN P hg (S.getD 2 0) (S.getD 0 0) (pkL s1.2.1) (S.getD 7 0) (txX H S P hg (pkL s1.2.1))) ((s1.1.1, s1.1.2.1), b.2.1.1, flS b sp) with
  | .inr e => .inr e
  | .inl G1 => txN o H S b s1 (txX H S P hg (pkL s1.2.1)) (flS b sp).length b.1.2.2.2.2.2.1.2.2 G1
def mkd (s s1 : TS) : Bool := decide (s.2.2.2.1.1.length < s1.2.2.2.1.1.length ∨ s.2.2.2.2.1.1.length < s1.2.2.2.2.1.1.length)
def txD (o : Int) (E : TE) (H : HY9) (S P : List Int) (hg sp : Int) (item : Bool) (T : List Int) (b : BK9) : BK9 ⊕ (Int × Int × Int) := match wkD 30 E false [] T (tx0 b.1) with
  | .inr e => .inr e
  | .inl s1 => if mkd b.1 s1 = true ∧ foP (pkL s1.2.1) = -1 then .inr (6, s1.1.1, s1.1.2.1) else if pkL s1.2.1 = [] ∧ item = false then .inl (tx0 s1, b.2) else txF o H S P hg sp b s1
/-- the class between blocks -/
def RdC (σ : MS) (E : TE) (z z' : Nat) (s : TS) : Prop := (mV σ 22 0 = s.1.1 ∧ mV σ 22 1 = s.1.2.1) ∧ (mB σ 0 = z ∧ KZ σ z z' E ∧ z ≠ z') ∧ KC σ s ∧ ((shR σ (z + 1) s.2.2.2.1.1 ∧ shR σ (z + 6) s.2.2.2.1.2.1 ∧ mX σ (z + 11) = s.2.2.2.1.2.2) ∧ (shR σ (z + 24) s.2.2.2.2.1.1 ∧ mX σ (z + 29) = s.2.2.2.2.1.2) ∧ mV σ z 12 = s.2.2.2.2.2.1.2.2 ∧ mV σ z 13 = s.2.2.2.2.2.2 ∧ mX σ (z + 35) = E.2.2.1) ∧ KB σ z' E ∧ KU σ E
section
variable {σ σ0 : MS} {Q : MQ9} {E : TE} {z z' : Nat} {s : TS}
def OtX : List Nat := [87, 89, 91, 93, 105, 107, 109]
def FrOt (σ σ' : MS) : Prop := (∀ q, q ∉ OtX → mX σ' q = mX σ q) ∧ σ'.2.2 = σ.2.2 ∧ ∀ z k, z ≠ 86 → mV σ' z k = mV σ z k
theorem Texts_openText.c (hR : RdC σ E z z' s) (h0 : 0 ≤ s.1.1) (hA : Rg E.2.2.2) (hq : ∀ σ', FrOt σ σ' → CxC σ' E false [] 0 [] 0 ([], false) [] [] z z' 0 (tx0 s) 0 → Q (.inl none) σ') : Texts_openText E.2.2.2 σ Q := by
  obtain ⟨⟨r1, r2⟩, ⟨r3, r4, r5⟩, r6, ⟨⟨m1, m2, m3⟩, ⟨m4, m5⟩, m6, m7, m8⟩, r7, r8⟩ := hR
  have hz := r4.2.2.1
  have hz' := r4.2.2.2.1
  refine Texts_openText.i ⟨hA, Shelf_clear.i (tB.i (by decide) (tB.i (by decide) (tB.i (by decide) (tB.i (by decide) (tB.i (by decide) (tB.i (by decide) ?_))))))⟩
  show Q (.inl none) (wV (wV (wV (wV (wV (wX (wX (wX (wX (wX (wX (wX (wV σ 86 13 E.2.2.2) 87 []) 89 []) 91 []) 93 []) 105 []) 107 []) 109 []) 86 14 0) 86 15 0) 86 16 0) 86 17 0) 86 18 0)
  generalize hσ1 : wV (wV (wV (wV (wV (wX (wX (wX (wX (wX (wX (wX (wV σ 86 13 E.2.2.2) 87 []) 89 []) 91 []) 93 []) 105 []) 107 []) 109 []) 86 14 0) 86 15 0) 86 16 0) 86 17 0) 86 18 0 = σ1
  have hX : mX σ1 = mX (wX (wX (wX (wX (wX (wX (wX σ 87 []) 89 []) 91 []) 93 []) 105 []) 107 []) 109 []) := by rw [← hσ1]; rfl
  have hV : mV σ1 = mV (wV (wV (wV (wV (wV (wV σ 86 13 E.2.2.2) 86 14 0) 86 15 0) 86 16 0) 86 17 0) 86 18 0) := by rw [← hσ1]; rfl
  have h2 : σ1.2.2 = σ.2.2 := by rw [← hσ1]; rfl
  have hB : mB σ1 = mB σ := congrArg Prod.fst h2
  have oX : ∀ q, q ∉ OtX → mX σ1 q = mX σ q := fun q hq => by
    unfold OtX at hq
    simp only [List.mem_cons, List.not_mem_nil, or_false, not_or] at hq
    rw [hX, wX_ne (by omega), wX_ne (by omega), wX_ne (by omega), wX_ne (by omega), wX_ne (by omega), wX_ne (by omega), wX_ne (by omega)]
  have nil : ∀ q, q ∈ OtX → mX σ1 q = [] := fun q hq => by
    unfold OtX at hq
    rw [hX]
    simp only [List.mem_cons, List.not_mem_nil, or_false] at hq
    rcases hq with rfl | rfl | rfl | rfl | rfl | rfl | rfl <;> rfl
  have oV : ∀ y k, y ≠ 86 → mV σ1 y k = mV σ y k := fun y k h => by
    rw [hV, wV_ne (Or.inl h), wV_ne (Or.inl h), wV_ne (Or.inl h), wV_ne (Or.inl h), wV_ne (Or.inl h), wV_ne (Or.inl h)]
  have v : mV σ1 86 13 = E.2.2.2 ∧ mV σ1 86 14 = 0 ∧ mV σ1 86 15 = 0 ∧ mV σ1 86 16 = 0 ∧ mV σ1 86 17 = 0 ∧ mV σ1 86 18 = 0 := by
    rw [hV]
    refine ⟨?_, ?_, ?_, ?_, ?_, wV_self⟩
    · rw [wV_ne (Or.inr (by decide)), wV_ne (Or.inr (by decide)), wV_ne (Or.inr (by decide)), wV_ne (Or.inr (by decide)), wV_ne (Or.inr (by decide)), wV_self]
    · rw [wV_ne (Or.inr (by decide)), wV_ne (Or.inr (by decide)), wV_ne (Or.inr (by decide)), wV_ne (Or.inr (by decide)), wV_self]
    · rw [wV_ne (Or.inr (by decide)), wV_ne (Or.inr (by decide)), wV_ne (Or.inr (by decide)), wV_self]
    · rw [wV_ne (Or.inr (by decide)), wV_ne (Or.inr (by decide)), wV_self]
    · rw [wV_ne (Or.inr (by decide)), wV_self]
  have nz : ∀ q, z ≤ q → q ≤ z + 36 → mX σ1 q = mX σ q := fun q a b => oX q (by
    unfold OtX
    simp only [List.mem_cons, List.not_mem_nil, or_false, not_or]
    omega)
  have nz' : ∀ q, z' ≤ q → q ≤ z' + 36 → mX σ1 q = mX σ q := fun q a b => oX q (by
    unfold OtX
    simp only [List.mem_cons, List.not_mem_nil, or_false, not_or]
    omega)
  have sh : ∀ {y : Nat} {R : List (List Int)}, shR σ y R → z ≤ y → y + 3 ≤ z + 36 → shR σ1 y R := fun h a b => ⟨(nz _ (by omega) (by omega)).trans h.1, (nz _ (by omega) (by omega)).trans h.2⟩
  have hC : TxC σ1 E false [] 0 [] 0 ([], false) [] [] z z' 0 (tx0 s) := by
    refine ⟨⟨(oV _ _ (by decide)).trans r1, (oV _ _ (by decide)).trans r2, v.2.1⟩, ⟨⟨nil 87 (by decide), v.2.2.2.2.2, by decide⟩, ?_, ?_, fun h9 => absurd h9 (by decide), fun _ => ⟨rfl, nil 89 (by decide)⟩⟩, ⟨⟨v.2.2.1, v.1, v.2.2.2.1, v.2.2.2.2.1, nil 91 (by decide), nil 93 (by decide)⟩, ⟨by rw [hB]; exact r4.1, by rw [hB]; exact r4.2.1, hz, hz', r4.2.2.2.2⟩, ⟨?_, (oX 102 (by decide)).trans r6.2⟩, ⟨(oV _ _ (by omega)).trans m7, fun _ => ⟨⟨sh m1 (by omega) (by omega), sh m2 (by omega) (by omega), (nz _ (by omega) (by omega)).trans m3⟩, ⟨sh m4 (by omega) (by omega), (nz _ (by omega) (by omega)).trans m5⟩, ⟨(oV _ _ (by omega)).trans m6, ⟨nil 105 (by decide), nil 107 (by decide)⟩, nil 109 (by decide)⟩, (oV _ _ (by omega)).trans m7, (nz _ (by omega) (by omega)).trans m8⟩⟩, r7.cg hz' (fun q q1 q2 => nz' q (by omega) (by omega)) (oV _ _ (by omega)) (oV _ _ (by omega)), r8.cg (fun q q1 q2 => oX q (by
      unfold OtX
      simp only [List.mem_cons, List.not_mem_nil, or_false, not_or]
      omega))⟩, ⟨fun h9 => absurd h9 (by decide), fun _ => v.2.2.1⟩⟩
    · rw [nil 89 (by decide)]
      exact h0
    · rw [nil 89 (by decide)]
      exact okK.nil
    · obtain ⟨C, c1, c2⟩ := r6.1
      exact ⟨C, ⟨(oX 98 (by decide)).trans c1.1, (oX 100 (by decide)).trans c1.2⟩, c2⟩
  exact hq σ1 ⟨oX, h2, oV⟩ ⟨hC, fun w hw => absurd hw List.not_mem_nil, by decide, fun i hi => absurd hi (Nat.not_lt_zero _), by decide, by decide, by decide, by decide⟩
end
