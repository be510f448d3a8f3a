/-! A ROUND: the document -/
/-- what the round before has told: labels (names, references, pages, first, system), headings, keys with pages -/
abbrev BF9 : Type := (List (List Int) × List (List Int) × List Int × Int × Int) × HG9 × (List (List Int) × List Int)
/-- blocks, headings, rules, numbers, counts, latest -/
abbrev RD9 : Type := BK9 × HG9 × RU × List Int × List Int × List Int
abbrev RF9 : Type := RU × (Int × Int × Int)
def rdE (B : BF9) (R : RU) (Lt : List Int) : TE := (R.2.1, B.1, Lt, 2)
def rdH (R : RU) : HY9 := hyS R.1 R.2.2.1 R.2.2.2
def lnU (M : List Int) (i : Nat) : List Int := sgT M ((mlL M).getD i (0, 0)).1 ((mlL M).getD i (0, 0)).2
def upB (d : RD9) (r : BK9 ⊕ (Int × Int × Int)) : RD9 ⊕ RF9 := match r with
  | .inl b => .inl (b, d.2)
  | .inr e => .inr (d.2.2.1, e)
def cuB (b : BK9) : BK9 := (b.1, (b.2.1.1, b.2.1.2 ++ [-3]), b.2.2)
/-- behind a directive's word -/
def diD (B : BF9) (M : List Int) (i : Nat) (d : RD9) : RD9 ⊕ RF9 := if drT (lnU M i) = 1 then upB d (ctD ((i : Int) + 1) d.2.2.1.1 B.1.2.2.2.1 B.1.2.2.2.2 B.2.1 d.1) else if drT (lnU M i) = 2 then upB d (ixD ((i : Int) + 1) (rdH d.2.2.1) d.2.2.1.1 B.2.2.1 B.2.2.2 B.1.2.2.2.1 B.1.2.2.2.2 d.1) else if drT (lnU M i) = 3 then .inl (cuB d.1, d.2) else .inl d
def dirD (B : BF9) (M : List Int) (i : Nat) (d : RD9) : RD9 ⊕ RF9 := match drD (lnU M i) d.2.2.1 d.1.1 with
  | .inr x => .inr x
  | .inl x => diD B M i ((x.2, d.1.2), d.2.1, x.1, d.2.2.2)
def heaD (B : BF9) (M : List Int) (i : Nat) (d : RD9) : RD9 ⊕ RF9 := match hgD ((i : Int) + 1) (rdE B d.2.2.1 d.2.2.2.2.2) (rdH d.2.2.1) d.2.2.1.1 (hgJ (hgN d.2.2.2.1 (lvL (lnU M i)).toNat) (lvL (lnU M i)).toNat) (lvL (lnU M i)).toNat (tpT (sgT M (((mlL M).getD i (0, 0)).1 + ((lvL (lnU M i)).toNat + 1)) ((mlL M).getD i (0, 0)).2)) d.1 d.2.1 with
  | .inr e => .inr (d.2.2.1, e)
  | .inl x => .inl (x.1, x.2, d.2.2.1, hgN d.2.2.2.1 (lvL (lnU M i)).toNat, d.2.2.2.2.1, hgJ (hgN d.2.2.2.1 (lvL (lnU M i)).toNat) (lvL (lnU M i)).toNat)
def itmD (B : BF9) (M : List Int) (i : Nat) (jo : Bool) (d : RD9) : RD9 ⊕ RF9 := match txD ((i : Int) + 1) (itE (rdE B d.2.2.1 d.2.2.2.2.2) d.2.2.2.2.1 (itQ (lnU M i)) jo (itH (lnU M i))) (rdH d.2.2.1) d.2.2.1.1 (itP d.2.2.2.2.1 (itQ (lnU M i)) jo (itH (lnU M i))) ((itP d.2.2.2.2.1 (itQ (lnU M i)) jo (itH (lnU M i))).length : Int) (if jo = true then 0 else d.2.2.1.1.getD 8 0) true (tpT (sgT M (((mlL M).getD i (0, 0)).1 + (2 * itQ (lnU M i) + 2)) ((mlL M).getD (bnE M i - 1) (0, 0)).2)) d.1 with
  | .inr e => .inr (d.2.2.1, e)
  | .inl b => .inl (b, d.2.1, d.2.2.1, d.2.2.2.1, itN d.2.2.2.2.1 (itQ (lnU M i)) jo (itH (lnU M i)), (itE (rdE B d.2.2.1 d.2.2.2.2.2) d.2.2.2.2.1 (itQ (lnU M i)) jo (itH (lnU M i))).2.2.1)
def parD (B : BF9) (M : List Int) (i : Nat) (d : RD9) : RD9 ⊕ RF9 := upB d (txD ((i : Int) + 1) (rdE B d.2.2.1 d.2.2.2.2.2) (rdH d.2.2.1) d.2.2.1.1 (List.replicate (d.2.2.1.1.getD 1 0).toNat 32) 0 (d.2.2.1.1.getD 8 0) false (tpT (sgT M ((mlL M).getD i (0, 0)).1 ((mlL M).getD (bnE M i - 1) (0, 0)).2)) d.1)
/-- the block of line i -/
def blD (B : BF9) (M : List Int) (i : Nat) (jo : Bool) (d : RD9) : RD9 ⊕ RF9 := if kdL M i = 1 then dirD B M i d else if kdL M i = 2 then heaD B M i d else if kdL M i = 3 then upB d (tbF ((i : Int) + 1) (rdE B d.2.2.1 d.2.2.2.2.2) (rdH d.2.2.1) d.2.2.1.1 M i (bnE M i) d.1) else if kdL M i = 4 then upB d (rwD ((i : Int) + 1) d.2.2.1.1 M i (bnE M i) d.1) else if kdL M i = 5 then itmD B M i jo d else parD B M i d
/-- all blocks from line i on; ln is the last block's line -/
def rnD (B : BF9) (M : List Int) : Nat → Nat → Bool → Int → RD9 → (RD9 × Int) ⊕ (Int × RF9)
  | 0, _, _, ln, d => .inl (d, ln)
  | n + 1, i, jo, ln, d => if (mlL M).length ≤ i then .inl (d, ln) else if kdL M i = 0 then rnD B M n (i + 1) false ln d else if 60000 < d.1.1.1.1 + 15 ∨ 400000 < d.1.1.1.2.1 + 15 then .inr ((i : Int) + 1, d.2.2.1, (8, d.1.1.1.1, d.1.1.1.2.1)) else match blD B M i jo (b15 d.1, d.2) with
    | .inr x => .inr ((i : Int) + 1, x)
    | .inl d' => rnD B M n (bnE M i) (decide (kdL M i = 5)) ((i : Int) + 1) d'
def ru0 : RU := (AT1, ([], [], []), [], [])
def bk0 (w : Int × Int) : BK9 := (((w.1, w.2, 0), [], ([], []), ([], [], []), ([], []), ([], [], 0), 0), ([], []), ([], []), false)
def rd0 (w : Int × Int) : RD9 := (bk0 w, ([], [], []), ru0, [0, 0, 0, 0], [0, 0, 0], [])
/-- a round's blocks -/
def rouD (B : BF9) (M : List Int) (w : Int × Int) : (RD9 × Int) ⊕ (Int × RF9) := if 60000 < w.1 + ((mlL M).length : Int) ∨ 400000 < w.2 + ((mlL M).length : Int) then .inr (0, ru0, (8, w.1, w.2)) else rnD B M (mlL M).length 0 false 0 (rd0 (w.1 + ((mlL M).length : Int), w.2 + ((mlL M).length : Int)))
/-- bounds of what the round before told -/
def BfI (B : BF9) : Prop := (B.1.2.1.length = B.1.1.length ∧ B.1.2.2.1.length = B.1.1.length ∧ B.1.1.length ≤ 60 ∧ smW 12 B.1.1 ∧ smW 32 B.1.2.1 ∧ (∀ x ∈ B.1.2.2.1, 0 ≤ x ∧ x ≤ 100) ∧ (0 ≤ B.1.2.2.2.1 ∧ B.1.2.2.2.1 ≤ 999) ∧ (0 < B.1.1.length → 1 ≤ B.1.2.2.2.2 ∧ B.1.2.2.2.2 ≤ 5)) ∧ CtB B.2.1 ∧ IxB B.2.2.1 B.2.2.2 ∧ (0 < B.2.1.1.length ∨ 0 < B.2.2.1.length → 1 ≤ B.1.2.2.2.2 ∧ B.1.2.2.2.2 ≤ 5)
def RDI (d : RD9) (i : Nat) : Prop := RI9 d.1 d.2.1 ∧ RuI d.2.2.1 ∧ (d.2.2.2.1.length = 4 ∧ ∀ k, k < 4 → 0 ≤ d.2.2.2.1.getD k 0 ∧ d.2.2.2.1.getD k 0 ≤ (d.2.1.1.length : Int)) ∧ (d.2.2.2.2.1.length = 3 ∧ ∀ k, k < 3 → 0 ≤ d.2.2.2.2.1.getD k 0 ∧ d.2.2.2.2.1.getD k 0 ≤ (i : Int)) ∧ (d.2.2.2.2.2.length ≤ 32 ∧ smB d.2.2.2.2.2)
theorem RuI.st {R : RU} (h : RuI R) : StB R.1 := by
  have b := h.1.2
  have b0 := b 0 (by decide)
  have b1 := b 1 (by decide)
  have b2 := b 2 (by decide)
  have b3 := b 3 (by decide)
  have b6 := b 6 (by decide)
  have b7 := b 7 (by decide)
  have b8 := b 8 (by decide)
  exact ⟨b0, b1, b2, b3, b6, b7, b8⟩
theorem RuI.ei {R : RU} {B : BF9} {Lt : List Int} (h : RuI R) (hB : BfI B) (hl : Lt.length ≤ 32) (hs : smB Lt) : EI (rdE B R Lt) := ⟨h.2.1, hB.1, ⟨hl, hs⟩, (show (0 : Int) ≤ 2 ∧ (2 : Int) ≤ 2 by decide)⟩
theorem paL_pos {W : List Int} (h : wOk true W = true) : 0 < (paL W).length := by
  unfold wOk paOk at h
  rw [if_pos rfl, Bool.and_eq_true, Bool.and_eq_true, List.any_eq_true] at h
  obtain ⟨-, ⟨x, hx, hs⟩, -⟩ := h
  unfold sSm at hs
  have hs := of_decide_eq_true hs
  refine List.length_pos_of_mem (a := x) ?_
  unfold paL
  refine List.mem_filter.mpr ⟨hx, ?_⟩
  unfold sDi
  rw [decide_eq_false (by omega)]
  rfl
theorem RuI.hb {R : RU} (h : RuI R) : HyB (rdH R).2.1 (rdH R).2.2.1 (rdH R).2.2.2.1 (rdH R).2.2.2.2 := by
  have b := h.1.2
  have b4 := b 4 (by decide)
  have b5 := b 5 (by decide)
  have b4 : (1 : Int) ≤ R.1.getD 4 0 ∧ R.1.getD 4 0 ≤ 9 := b4
  have b5 : (1 : Int) ≤ R.1.getD 5 0 ∧ R.1.getD 5 0 ≤ 9 := b5
  refine ⟨h.2.2.1.1, fun w hw => ⟨?_, (h.2.2.1.2 w hw).2⟩, fun w hw => paL_pos (h.2.2.1.2 w hw).1, h.2.2.2.1, fun w hw => ⟨?_, (h.2.2.2.2 w hw).2⟩, ⟨by show 0 ≤ R.1.getD 4 0; omega, by show R.1.getD 4 0 ≤ 100; omega⟩, ⟨by show 0 ≤ R.1.getD 5 0; omega, by show R.1.getD 5 0 ≤ 100; omega⟩⟩
  · exact wOk_len (h.2.2.1.2 w hw).1
  · exact wOk_len (h.2.2.2.2 w hw).1
/-! directives spend work alone -/
def sYy (s : TS) (y : Int) : TS := ((s.1.1, s.1.2.1, y), s.2)
theorem tkD_y {most : Nat} {y : Int} : ∀ (ws : List (List Int)) (s : TS) (P : List (List Int)), tkD most ws (sYy s y) P = (match tkD most ws s P with
    | .inl q => (.inl (sYy q.1 y, q.2) : TK9)
    | .inr q => .inr q)
  | [], s, P => rfl
  | w :: ws, s, P => by
    unfold tkD
    by_cases h : most ≤ P.length
    · rw [if_pos h, if_pos h]
      rfl
    · rw [if_neg h, if_neg h]
      by_cases h2 : 60000 < s.1.1 + 10 ∨ 400000 < s.1.2.1 + 10
      · have e1 : tSp 10 (sYy s y) = tFl 8 (sYy s y) := if_pos h2
        have e2 : tSp 10 s = tFl 8 s := if_pos h2
        rw [e1, e2]
        rfl
      · have e1 : tSp 10 (sYy s y) = .inl (sYy (sWk s (s.1.1 + 10) (s.1.2.1 + 10)) y) := if_neg h2
        have e2 : tSp 10 s = .inl (sWk s (s.1.1 + 10) (s.1.2.1 + 10)) := if_neg h2
        rw [e1, e2]
        exact tkD_y ws _ _
theorem drL_y {pat : Bool} {y : Int} {P : List (List Int)} {T : List Int} {p : Nat} {s : TS} : drL pat P T p (sYy s y) = (match drL pat P T p s with
    | .inl q => (.inl (sYy q.1 y, q.2) : TK9)
    | .inr q => .inr q) := by
  unfold drL
  split
  · exact tkD_y _ _ _
  · rfl
theorem drD_y {T : List Int} {R : RU} {s : TS} {y : Int} : drD T R (sYy s y) = (match drD T R s with
    | .inl q => (.inl (q.1, sYy q.2 y) : DR9)
    | .inr q => .inr q) := by
  unfold drD
  rw [drL_y, drL_y]
  split
  · rfl
  · split
    · split
      · rfl
      · split <;> rfl
    · split
      · split <;> rfl
      · split
        · cases drL true R.2.2.1 T (wbD T 0 + 1) s <;> rfl
        · split
          · cases drL false R.2.2.2 T (wbD T 0 + 1) s <;> rfl
          · rfl
/-- what a directive leaves of the texts' state -/
def WkU (s s' : TS) : Prop := s'.2 = s.2 ∧ s'.1.2.2 = s.1.2.2 ∧ s.1.1 ≤ s'.1.1 ∧ s.1.2.1 ≤ s'.1.2.1 ∧ (s.1.1 ≤ 60000 → s'.1.1 ≤ 60000) ∧ (s.1.2.1 ≤ 400000 → s'.1.2.1 ≤ 400000)
theorem WkU.rf {s : TS} : WkU s s := ⟨rfl, rfl, Int.le_refl _, Int.le_refl _, id, id⟩
theorem tkD_u {most : Nat} : ∀ {ws : List (List Int)} {s : TS} {P : List (List Int)}, (∀ q, tkD most ws s P = .inl q → WkU s q.1) ∧ ∀ q, tkD most ws s P = .inr q → s.1.2.1 ≤ q.1.2.2
  | [], s, P => ⟨fun q h => by
    rw [← Sum.inl.inj h]
    exact WkU.rf, fun q h => by cases h⟩
  | w :: ws, s, P => by
    unfold tkD
    by_cases h : most ≤ P.length
    · rw [if_pos h]
      exact ⟨fun q h => (by cases h), fun q h => by
        rw [← Sum.inr.inj h]
        exact Int.le_refl _⟩
    · rw [if_neg h]
      by_cases h2 : 60000 < s.1.1 + 10 ∨ 400000 < s.1.2.1 + 10
      · have e2 : tSp 10 s = tFl 8 s := if_pos h2
        rw [e2]
        exact ⟨fun q h => (by cases h), fun q h => by
          rw [← Sum.inr.inj h]
          exact Int.le_refl _⟩
      · have e2 : tSp 10 s = .inl (sWk s (s.1.1 + 10) (s.1.2.1 + 10)) := if_neg h2
        rw [e2]
        have ih := tkD_u (most := most) (ws := ws) (s := sWk s (s.1.1 + 10) (s.1.2.1 + 10)) (P := P ++ [w])
        refine ⟨fun q h => ?_, fun q h => ?_⟩
        · obtain ⟨i1, i2, i3, i4, i5, i6⟩ := ih.1 q h
          have i3 : s.1.1 + 10 ≤ q.1.1.1 := i3
          have i4 : s.1.2.1 + 10 ≤ q.1.1.2.1 := i4
          exact ⟨i1, i2, by omega, by omega, fun _ => i5 (by show s.1.1 + 10 ≤ 60000; omega), fun _ => i6 (by show s.1.2.1 + 10 ≤ 400000; omega)⟩
        · have := ih.2 q h
          have : s.1.2.1 + 10 ≤ q.1.2.2 := this
          omega
theorem drD_u {T : List Int} {R : RU} {s : TS} : (∀ q, drD T R s = .inl q → WkU s q.2) ∧ ∀ q, drD T R s = .inr q → s.1.2.1 ≤ q.2.2.2 := by
  have dl : ∀ pat P p, (∀ q, drL pat P T p s = .inl q → WkU s q.1) ∧ ∀ q, drL pat P T p s = .inr q → s.1.2.1 ≤ q.1.2.2 := fun pat P p => by
    unfold drL
    split
    · exact tkD_u
    · exact ⟨fun q h => (by cases h), fun q h => by
        rw [← Sum.inr.inj h]
        exact Int.le_refl _⟩
  have no : ∀ {x : RU × (Int × Int × Int)}, s.1.2.1 ≤ x.2.2.2 → (∀ q, (.inr x : DR9) = .inl q → WkU s q.2) ∧ ∀ q, (.inr x : DR9) = .inr q → s.1.2.1 ≤ q.2.2.2 := fun h9 => ⟨fun q h => (by cases h), fun q h => by
    rw [← Sum.inr.inj h]
    exact h9⟩
  have yes : ∀ {x : RU × TS}, WkU s x.2 → (∀ q, (.inl x : DR9) = .inl q → WkU s q.2) ∧ ∀ q, (.inl x : DR9) = .inr q → s.1.2.1 ≤ q.2.2.2 := fun h9 => ⟨fun q h => by
    rw [← Sum.inl.inj h]
    exact h9, fun q h => (by cases h)⟩
  unfold drD
  split
  · exact no (Int.le_refl _)
  · split
    · split
      · exact no (Int.le_refl _)
      · split
        · exact no (Int.le_refl _)
        · exact yes WkU.rf
    · split
      · split
        · exact no (Int.le_refl _)
        · exact yes WkU.rf
      · split
        · cases h : drL true R.2.2.1 T (wbD T 0 + 1) s with
          | inl q => exact yes ((dl true R.2.2.1 (wbD T 0 + 1)).1 q h)
          | inr q => exact no ((dl true R.2.2.1 (wbD T 0 + 1)).2 q h)
        · split
          · cases h : drL false R.2.2.2 T (wbD T 0 + 1) s with
            | inl q => exact yes ((dl false R.2.2.2 (wbD T 0 + 1)).1 q h)
            | inr q => exact no ((dl false R.2.2.2 (wbD T 0 + 1)).2 q h)
          · exact yes WkU.rf
theorem RI9.wk {b : BK9} {g : HG9} {s : TS} (h : RI9 b g) (u : WkU b.1 s) : RI9 (s, b.2) g := by
  obtain ⟨h1, h2, h3, h4, h5, h6⟩ := h
  obtain ⟨u1, u2, u3, u4, u5, u6⟩ := u
  have a1 : 0 ≤ b.1.1.1 ∧ b.1.1.1 ≤ 60000 := h1.1.1
  have a2 : 0 ≤ b.1.1.2.1 ∧ b.1.1.2.1 ≤ 400000 := h1.1.2.1
  have es : s = ((s.1.1, s.1.2.1, s.1.2.2), b.1.2) := by rw [← u1]
  refine ⟨?_, GB9.up (b := b) (s := s) h2 (Int.le_refl _) ⟨u3, u5 a1.2⟩ ⟨by omega, u6 a2.2⟩, ⟨?_, h3.2⟩, h4, ⟨?_, ?_, ?_⟩, h6⟩
  · have := TI.wk (s := tx0 b.1) (w := (s.1.1, s.1.2.1)) h1 ⟨u3, u5 a1.2⟩ ⟨u4, u6 a2.2⟩ (y := 0) (by decide)
    have e : tx0 s = ((s.1.1, s.1.2.1, 0), (tx0 b.1).2) := by
      rw [es]
      rfl
    show TI _ _ (tx0 s)
    rw [e]
    exact this
  · show (b.2.2.1.1.length : Int) = s.2.2.2.2.2.1.2.2
    rw [u1]
    exact h3.1
  · show MkP b.2.1.2 s.2.2.2.1.2.2
    rw [u1]
    exact h5.1
  · show MkP b.2.1.2 s.2.2.2.2.1.2
    rw [u1]
    exact h5.2.1
  · show srt9 s.2.2.2.2.1.2
    rw [u1]
    exact h5.2.2
theorem RI9.cu {b : BK9} {g : HG9} (h : RI9 b g) (hG : GB9 (-45) (bkG b)) : RI9 (cuB b) g := by
  obtain ⟨h1, h2, h3, h4, ⟨h5, h6, h7⟩, ⟨h8, h9⟩, h10, ⟨h11, h12⟩⟩ := h
  obtain ⟨q1, q2, q3, q4, q5⟩ := hG
  refine ⟨h1, ⟨q1, q2, q3, q4, ?_⟩, h3, h4.cut, ⟨h5.ap, h6.ap, h7⟩, ⟨h8.ap, h9⟩, h10, ⟨h11.ap, h12⟩⟩
  have q5 : 45 * (b.2.1.2.length : Int) ≤ 3 * b.1.1.1 + 75 * b.2.1.1.length + (-45) := q5
  show 45 * ((b.2.1.2 ++ [-3]).length : Int) ≤ 3 * b.1.1.1 + 75 * b.2.1.1.length + 0
  rw [List.length_append]
  show 45 * ((b.2.1.2.length + 1 : Nat) : Int) ≤ _
  omega
