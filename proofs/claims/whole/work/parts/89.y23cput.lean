/-! TEXTS, THE CLASS: signs are put -/
def TxW (σ : MS) (s : TS) : Prop := mV σ 22 0 = s.1.1 ∧ mV σ 22 1 = s.1.2.1 ∧ mV σ 86 14 = s.1.2.2
/-- where the signs are: in the arena above A, or in the row, packed -/
def TxA (σ : MS) (a : Bool) (A : List Int) (k : Nat) (R : List Int × Bool) (s : TS) : Prop :=
  (mX σ 87 = R.1 ∧ mV σ 86 18 = bZ R.2 ∧ R.1.length ≤ 60200) ∧ ((mX σ 89).length : Int) ≤ s.1.1 ∧ okK (mX σ 89) ∧ (a = true → mX σ 89 = A ++ s.2.1.drop k ∧ k ≤ s.2.1.length) ∧ (a = false → R = pkS s.2.1 ∧ mX σ 89 = A)
/-- but for the arena, the row, the work and style and gap nothing has changed -/
def K2 (σ σ' : MS) : Prop := (∀ q, q ≠ 87 → q ≠ 89 → mX σ' q = mX σ q) ∧ σ'.2.2 = σ.2.2 ∧ (∀ z k, z ≠ 22 → ¬ (z = 86 ∧ (k = 14 ∨ k = 18)) → mV σ' z k = mV σ z k) ∧ mV σ 22 1 ≤ mV σ' 22 1
theorem K2.rf {σ : MS} : K2 σ σ := ⟨fun _ _ _ => rfl, rfl, fun _ _ _ _ => rfl, Int.le_refl _⟩
theorem K2.tr {σ σ1 σ2 : MS} (h : K2 σ σ1) (h' : K2 σ1 σ2) : K2 σ σ2 := ⟨fun q a b => (h'.1 q a b).trans (h.1 q a b), h'.2.1.trans h.2.1, fun z k a b => (h'.2.2.1 z k a b).trans (h.2.2.1 z k a b), Int.le_trans h.2.2.2 h'.2.2.2⟩
theorem K2.w22 {σ : MS} {k : Nat} {x : Int} (hk : k ≠ 1 ∨ mV σ 22 1 ≤ x) : K2 σ (wV σ 22 k x) := ⟨fun _ _ _ => rfl, rfl, fun z' k' a _ => wV_ne (Or.inl a), by
  by_cases e : k = 1
  · subst e
    rw [wV_self]
    exact hk.resolve_left (fun h => h rfl)
  · rw [wV_ne (Or.inr (fun h => e h.symm))]
    exact Int.le_refl _⟩
theorem K2.w14 {σ : MS} {x : Int} : K2 σ (wV σ 86 14 x) := ⟨fun _ _ _ => rfl, rfl, fun z' k' _ b => wV_ne (by omega), by rw [wV_ne (Or.inl (by decide))]; exact Int.le_refl _⟩
theorem K2.w18 {σ : MS} {x : Int} : K2 σ (wV σ 86 18 x) := ⟨fun _ _ _ => rfl, rfl, fun z' k' _ b => wV_ne (by omega), by rw [wV_ne (Or.inl (by decide))]; exact Int.le_refl _⟩
theorem K2.w87 {σ : MS} {L : List Int} : K2 σ (wX σ 87 L) := ⟨fun q a _ => wX_ne a, rfl, fun _ _ _ _ => rfl, Int.le_refl _⟩
theorem K2.w89 {σ : MS} {L : List Int} : K2 σ (wX σ 89 L) := ⟨fun q _ a => wX_ne a, rfl, fun _ _ _ _ => rfl, Int.le_refl _⟩
/-- the fault is told -/
def TxF (σ : MS) (e : Int × Int × Int) : Prop := mV σ 22 2 = e.1 ∧ mV σ 22 0 = e.2.1 ∧ mV σ 22 1 = e.2.2
def TOk (Q : MQ9) (r : TR) (Rel : TS → MS → Prop) (Fl : MS → Prop) : Prop := (∀ s' σ', r = .inl s' → Rel s' σ' → Q (.inl none) σ') ∧ (∀ e σ', r = .inr e → TxF σ' e → Fl σ' → Q (.inr (exN 0)) σ')
theorem TOk.bd {Q : MQ9} {r : TR} {f : TS → TR} {Rel : TS → MS → Prop} {Fl : MS → Prop} {s1 : TS} (h : TOk Q (tBd r f) Rel Fl) (e : r = .inl s1) : TOk Q (f s1) Rel Fl := by subst e; exact h
theorem TOk.no {Q : MQ9} {r : TR} {f : TS → TR} {Rel : TS → MS → Prop} {Fl : MS → Prop} {e : Int × Int × Int} {σ' : MS} (h : TOk Q (tBd r f) Rel Fl) (he : r = .inr e) (h1 : TxF σ' e) (h2 : Fl σ') : Q (.inr (exN 0)) σ' := h.2 e σ' (by subst he; rfl) h1 h2
theorem Purse_fail.s {σ : MS} {Q : MQ9} {k : Int} {s : TS} (hk : 0 ≤ k ∧ k ≤ 20) (h0 : mV σ 22 0 = s.1.1) (h1 : mV σ 22 1 = s.1.2.1) (hq : ∀ σ', TxF σ' (k, s.1.1, s.1.2.1) → K2 σ σ' → Q (.inr (exN 0)) σ') : Purse_fail k σ Q := Purse_fail.i ⟨by unfold Rg; omega, hq _ ⟨wV_self, h0, h1⟩ (K2.w22 (Or.inl (by decide)))⟩
theorem Purse_spend.s {σ : MS} {Q : MQ9} {n : Int} {s : TS} (hn : 0 ≤ n ∧ n ≤ 100000) (h0 : mV σ 22 0 = s.1.1) (h1 : mV σ 22 1 = s.1.2.1) (b0 : 0 ≤ s.1.1 ∧ s.1.1 ≤ 60000) (b1 : 0 ≤ s.1.2.1 ∧ s.1.2.1 ≤ 400000) (hy : ∀ s', tSp n s = .inl s' → Q (.inl none) (wV (wV σ 22 0 (s.1.1 + n)) 22 1 (s.1.2.1 + n))) (hq : ∀ e σ', tSp n s = .inr e → TxF σ' e → K2 σ σ' → Q (.inr (exN 0)) σ') : Purse_spend n σ Q := by
  have no : (60000 < s.1.1 + n ∨ 400000 < s.1.2.1 + n) → Purse_spend_22 σ Q := fun h => by
    refine Purse_spend_22.i (hq (8, s.1.1, s.1.2.1) _ ?_ ⟨wV_self, h0, h1⟩ (K2.w22 (Or.inl (by decide))))
    unfold tSp
    rw [if_pos h]
    rfl
  refine Purse_spend.i ⟨by unfold Rg; omega, by rw [h0]; unfold Rg; omega, fun a => no (by omega), fun a => ⟨by unfold Rg; omega, by rw [h1]; unfold Rg; omega, fun b => ⟨by rw [h0]; unfold Rg; omega, by rw [h1]; unfold Rg; omega, ?_⟩, fun b => no (by omega)⟩⟩
  rw [h0, h1]
  refine hy (sWk s (s.1.1 + n) (s.1.2.1 + n)) ?_
  unfold tSp
  rw [if_neg (by omega)]
/-- all of it, against a state ahead -/
def TxQ (σ0 : MS) (a : Bool) (A : List Int) (k : Nat) (R : List Int × Bool) (s : TS) (σ : MS) : Prop := TxW σ s ∧ K2 σ0 σ ∧ ∃ R', TxA σ a A k R' s ∧ (a = true → R' = R)
def inOk (σ0 : MS) (a : Bool) : Prop := (a = true → 0 < mV σ0 86 15) ∧ (a = false → mV σ0 86 15 = 0)
theorem pkS_sn {L : List Int} {c : Int} : pkS (L ++ [c]) = pkF (pkS L) c := by
  unfold pkS
  rw [List.foldl_append]
  rfl
theorem okC.r {c : Int} (h : okC c) : Rg c := by
  unfold okC at h
  unfold Rg
  omega
section
variable {σ0 σ : MS} {Q : MQ9} {a : Bool} {A : List Int} {k : Nat} {R : List Int × Bool} {s : TS}
theorem Texts_put.c {c : Int} (h : TxQ σ0 a A k R s σ) (hn : inOk σ0 a) (hi : TI 0 0 s) (hc : okC c) (hq : TOk Q (tPt c s) (fun s' σ' => TxQ σ0 a A k R s' σ') (K2 σ0)) : Texts_put c σ Q := by
  obtain ⟨⟨w0, w1, w2⟩, hk, R', ⟨⟨r1, r2, r3⟩, g1, g2, g3, g4⟩, hR⟩ := h
  refine Texts_put.i (Purse_spend.s (s := s) (by decide) w0 w1 hi.1.1 hi.1.2.1 (fun s1 h1 => ?_) (fun e σ' he h1 h2 => hq.no he h1 (hk.tr h2)))
  obtain ⟨e1, b1, b2⟩ := sp_i h1
  have e2 : tPt c s = .inl (sOu s1 (s1.2.1 ++ [c])) := by unfold tPt; rw [h1]; rfl
  generalize es : wV (wV σ 22 0 (s.1.1 + 1)) 22 1 (s.1.2.1 + 1) = σ1
  have f0 : mV σ1 22 0 = s.1.1 + 1 := by rw [← es]; exact (wV_ne (Or.inr (by decide))).trans wV_self
  have f1 : mV σ1 22 1 = s.1.2.1 + 1 := by rw [← es]; exact wV_self
  have fV : ∀ z k, z ≠ 22 → mV σ1 z k = mV σ z k := fun z k hz => by rw [← es, wV_ne (Or.inl hz), wV_ne (Or.inl hz)]
  have fX : ∀ q, mX σ1 q = mX σ q := fun q => by rw [← es]; rfl
  have fk : K2 σ0 σ1 := by rw [← es]; exact hk.tr ((K2.w22 (Or.inl (by decide))).tr (K2.w22 (Or.inr (by rw [wV_ne (Or.inr (by decide))]; omega))))
  have o1 : s1.2.1 = s.2.1 := by rw [e1]; rfl
  have n15 : mV σ1 86 15 = mV σ0 86 15 := fk.2.2.1 86 15 (by decide) (by decide)
  have st1 : mV σ1 86 14 = s.1.2.2 := by rw [fV _ _ (by decide)]; exact w2
  refine ⟨fun m => ?_, fun m => ⟨hc.r, by rw [fX]; omega, ?_⟩⟩
  · have ha : a = false := by
      cases a with
      | false => rfl
      | true => exact absurd (hn.1 rfl) (by rw [n15] at m; omega)
    subst ha
    obtain ⟨h5, h6⟩ := g4 rfl
    have ob := hi.2.2.2.2.2.2
    have pl := pkL_len (L := s.2.1)
    have plR : R'.1.length ≤ s.2.1.length := by rw [h5]; exact pl
    have fin : ∀ σ2 Rn, K2 σ0 σ2 → mV σ2 22 0 = s.1.1 + 1 → mV σ2 22 1 = s.1.2.1 + 1 → mV σ2 86 14 = s.1.2.2 → mX σ2 87 = Rn.1 → mV σ2 86 18 = bZ Rn.2 → mX σ2 89 = A → Rn = pkF R' c → Q (.inl none) σ2 := by
      intro σ2 Rn k2 v0 v1 v2 x1 x2 x3 hRn
      refine hq.1 _ σ2 e2 ⟨⟨by rw [v0, e1]; rfl, by rw [v1, e1]; rfl, by rw [v2, e1]; rfl⟩, k2, Rn, ⟨⟨x1, x2, ?_⟩, ?_, by rw [x3, ← h6]; exact g2, fun h9 => Bool.noConfusion h9, fun _ => ⟨?_, x3⟩⟩, fun h9 => Bool.noConfusion h9⟩
      · have := pkF_len (q := R') (c := c)
        rw [hRn]
        have l2 : (if sbl c = true then 0 else if R'.2 = true then 2 else 1) ≤ 2 := by
          split
          · omega
          · split <;> omega
        omega
      · rw [x3, ← h6, e1]
        show _ ≤ s.1.1 + 1
        omega
      · show Rn = pkS (s1.2.1 ++ [c])
        rw [o1, pkS_sn, hRn, h5]
    have put70 : ∀ (σ2 : MS) (L : List Int), K2 σ0 σ2 → (∀ k, mV σ2 22 k = mV σ1 22 k) → mV σ2 86 14 = s.1.2.2 → mX σ2 87 = L → mX σ2 89 = A → L.length ≤ 60201 → (L ++ [c], false) = pkF R' c → Texts_put_70 c σ2 Q := by
      intro σ2 L k2 v x14 x87 x89 hl hp
      refine Texts_put_70.i ⟨hc.r, by rw [x87]; omega, ?_⟩
      rw [x87]
      refine fin _ (L ++ [c], false) (k2.tr (K2.w18.tr K2.w87)) ?_ ?_ ?_ wX_self ?_ ?_ hp
      · show mV (wV σ2 86 18 0) 22 0 = _; rw [wV_ne (Or.inl (by decide)), v, f0]
      · show mV (wV σ2 86 18 0) 22 1 = _; rw [wV_ne (Or.inl (by decide)), v, f1]
      · show mV (wV σ2 86 18 0) 86 14 = _; rw [wV_ne (Or.inr (by decide)), x14]
      · exact wV_self
      · rw [wX_ne (by decide)]; exact x89
    have x87 : mX σ1 87 = R'.1 := by rw [fX]; exact r1
    have x89 : mX σ1 89 = A := by rw [fX]; exact h6
    have x18 : mV σ1 86 18 = bZ R'.2 := by rw [fV _ _ (by decide)]; exact r2
    refine ⟨fun nb => ?_, fun bl => ?_⟩
    · have hs : sbl c = false := decide_eq_false nb
      refine ⟨fun g => ?_, fun g => ⟨fun l => ?_, fun l => ⟨by rw [x87]; omega, ?_⟩⟩⟩
      · have hg : R'.2 = false := by rw [x18] at g; exact bZ_z g
        refine put70 σ1 R'.1 fk (fun _ => rfl) st1 x87 x89 (by omega) ?_
        unfold pkF
        rw [hs, if_neg (by decide), hg, if_neg (fun h9 => Bool.noConfusion h9.1)]
      · refine put70 σ1 R'.1 fk (fun _ => rfl) st1 x87 x89 (by omega) ?_
        unfold pkF
        rw [x87] at l
        rw [hs, if_neg (by decide), if_neg (by omega)]
      · have hg : R'.2 = true := by rw [x18] at g; exact bZ_ne g
        rw [x87] at l ⊢
        refine put70 (wX σ1 87 (R'.1 ++ [32])) (R'.1 ++ [32]) (fk.tr K2.w87) (fun _ => rfl) st1 wX_self ((wX_ne (by decide)).trans x89) (by rw [List.length_append, List.length_singleton]; omega) ?_
        unfold pkF
        rw [hs, if_neg (by decide), if_pos ⟨hg, by omega⟩]
    · have hs : sbl c = true := decide_eq_true bl
      refine fin (wV σ1 86 18 1) (R'.1, true) (fk.tr K2.w18) ?_ ?_ ?_ x87 wV_self x89 ?_
      · rw [wV_ne (Or.inl (by decide)), f0]
      · rw [wV_ne (Or.inl (by decide)), f1]
      · rw [wV_ne (Or.inr (by decide)), st1]
      · unfold pkF
        rw [if_pos hs]
  · have ha : a = true := by
      cases a with
      | true => rfl
      | false => exact absurd (hn.2 rfl) (by rw [n15] at m; omega)
    subst ha
    obtain ⟨h5, h6⟩ := g3 rfl
    have x89 : mX σ1 89 = A ++ s.2.1.drop k := by rw [fX]; exact h5
    refine hq.1 _ _ e2 ⟨⟨?_, ?_, ?_⟩, fk.tr K2.w89, R', ⟨⟨?_, ?_, r3⟩, ?_, ?_, fun _ => ⟨?_, ?_⟩, fun h9 => Bool.noConfusion h9⟩, hR⟩
    · show mV σ1 22 0 = _; rw [f0, e1]; rfl
    · show mV σ1 22 1 = _; rw [f1, e1]; rfl
    · show mV σ1 86 14 = _; rw [st1, e1]; rfl
    · rw [wX_ne (by decide), fX]; exact r1
    · show mV σ1 86 18 = _; rw [fV _ _ (by decide)]; exact r2
    · rw [wX_self, List.length_append, List.length_singleton, fX, e1]
      show _ ≤ s.1.1 + 1
      omega
    · rw [wX_self, fX]; exact g2.app (okK.one hc)
    · rw [wX_self, x89, List.append_assoc]
      show _ = A ++ (s1.2.1 ++ [c]).drop k
      rw [o1, List.drop_append_of_le_length h6]
    · show k ≤ (s1.2.1 ++ [c]).length
      rw [o1, List.length_append]
      omega
/-- what lies in the arena below stays readable -/
theorem TxQ.rd (h : TxQ σ0 a A k R s σ) {i : Nat} (hi : i < A.length) : rgt (mX σ 89) (i : Int) = A.getD i 0 := by
  obtain ⟨-, -, R', ⟨-, -, -, g3, g4⟩, -⟩ := h
  cases a with
  | true =>
    obtain ⟨h5, -⟩ := g3 rfl
    rw [h5, rgt_n (by rw [List.length_append]; omega), getD_l hi]
  | false =>
    obtain ⟨-, h6⟩ := g4 rfl
    rw [h6, rgt_n hi]
theorem TxQ.len (h : TxQ σ0 a A k R s σ) (hi : TI 0 0 s) : A.length ≤ 60000 := by
  obtain ⟨-, -, R', ⟨-, g1, -, g3, g4⟩, -⟩ := h
  have b := hi.1.1.2
  cases a with
  | true =>
    obtain ⟨h5, -⟩ := g3 rfl
    rw [h5, List.length_append] at g1
    omega
  | false =>
    obtain ⟨-, h6⟩ := g4 rfl
    rw [h6] at g1
    omega
theorem TxQ.ok (h : TxQ σ0 a A k R s σ) : okK A := by
  obtain ⟨-, -, R', ⟨-, -, g2, g3, g4⟩, -⟩ := h
  cases a with
  | true =>
    obtain ⟨h5, -⟩ := g3 rfl
    rw [h5] at g2
    exact g2.sub (fun x hx => List.mem_append_left _ hx)
  | false =>
    obtain ⟨-, h6⟩ := g4 rfl
    rw [h6] at g2
    exact g2
/-- a part of the arena -/
def seA (A : List Int) (u : Nat) (L : List Int) : Prop := u + L.length ≤ A.length ∧ ∀ t, t < L.length → A.getD (u + t) 0 = L.getD t 0
theorem seA.tl {A : List Int} {u : Nat} {c : Int} {r : List Int} (h : seA A u (c :: r)) : seA A (u + 1) r := ⟨by have := h.1; rw [List.length_cons] at this; omega, fun t ht => by
  have := h.2 (t + 1) (by rw [List.length_cons]; omega)
  rw [show u + 1 + t = u + (t + 1) by omega]
  exact this⟩
theorem seA.hd {A : List Int} {u : Nat} {c : Int} {r : List Int} (h : seA A u (c :: r)) : u < A.length ∧ A.getD u 0 = c := ⟨by have := h.1; rw [List.length_cons] at this; omega, by
  have := h.2 0 (by rw [List.length_cons]; omega)
  rw [Nat.add_zero] at this
  exact this⟩
theorem okK.getD {L : List Int} (h : okK L) {i : Nat} (hi : i < L.length) : okC (L.getD i 0) := by
  rw [List.getD_eq_getElem?_getD, List.getElem?_eq_getElem hi]
  exact h _ (List.getElem_mem hi)
theorem Texts_putPart_2.c (hn : inOk σ0 a) : ∀ {L : List Int} {u : Nat} {s : TS} {σ : MS}, seA A u L → TxQ σ0 a A k R s σ → TI 0 0 s → TOk Q (tPs L s) (fun s' σ' => TxQ σ0 a A k R s' σ') (K2 σ0) → Texts_putPart_2 ((u + L.length : Nat) : Int) (u : Int) σ Q
  | [], u, s, σ, hL, h, hi, hq => by
    have l1 := h.len hi
    have l2 := hL.1
    rw [List.length_nil] at l2 ⊢
    exact Texts_putPart_2.i ⟨by unfold Rg; omega, by unfold Rg; omega, fun _ => hq.1 s σ rfl h, fun h9 => absurd h9 (by omega)⟩
  | c :: r, u, s, σ, hL, h, hi, hq => by
    have l1 := h.len hi
    have l2 := hL.1
    obtain ⟨h1, h2⟩ := hL.hd
    rw [List.length_cons] at l2 ⊢
    have hc : okC c := by rw [← h2]; exact h.ok.getD h1
    refine Texts_putPart_2.i ⟨by unfold Rg; omega, by unfold Rg; omega, fun h9 => absurd h9 (by omega), fun _ => ⟨by unfold Rg; omega, ?_⟩⟩
    rw [h.rd h1, h2]
    refine Texts_put.c h hn hi hc ⟨fun s1 σ1 e1 h3 => ?_, fun e σ1 he h3 h4 => hq.no (f := tPs r) he h3 h4⟩
    have := Texts_putPart_2.c hn hL.tl h3 (hi.pt hc e1) (hq.bd (f := tPs r) e1)
    rw [show u + 1 + r.length = u + (r.length + 1) by omega] at this
    exact this
theorem Texts_putPart.c {L : List Int} {u : Nat} {x y : Int} (hx : x = (u : Int)) (hy : y = ((u + L.length : Nat) : Int)) (hn : inOk σ0 a) (hL : seA A u L) (h : TxQ σ0 a A k R s σ) (hi : TI 0 0 s) (hq : TOk Q (tPs L s) (fun s' σ' => TxQ σ0 a A k R s' σ') (K2 σ0)) : Texts_putPart x y σ Q := by
  subst hx hy
  exact Texts_putPart.i (Texts_putPart_2.c hn hL h hi hq)
theorem bor_cd {x y : Int} (hx : 0 ≤ x ∧ x ≤ 127) (hy : 0 ≤ y ∧ y ≤ 3) : bor x (y * 128) = cdS y x := by
  have key : ∀ a, a < 128 → ∀ b, b < 4 → bor ((a : Nat) : Int) (((b : Nat) : Int) * 128) = cdS ((b : Nat) : Int) ((a : Nat) : Int) := by decide +kernel
  have := key x.toNat (by omega) y.toNat (by omega)
  rw [show ((x.toNat : Nat) : Int) = x by omega, show ((y.toNat : Nat) : Int) = y by omega] at this
  exact this
theorem bor_hd {y : Int} (hy : 0 ≤ y ∧ y ≤ 3) : bor (bor 32 512) (y * 128) = cdS y 544 := by
  have key : ∀ b, b < 4 → bor (bor 32 512) (((b : Nat) : Int) * 128) = cdS ((b : Nat) : Int) 544 := by decide +kernel
  have := key y.toNat (by omega)
  rw [show ((y.toNat : Nat) : Int) = y by omega] at this
  exact this
theorem bxo_1 {y : Int} (hy : 0 ≤ y ∧ y ≤ 3) : bxo y 1 = (if y % 2 = 0 then y + 1 else y - 1) ∧ bxo y 2 = (if y < 2 then y + 2 else y - 2) := by
  have key : ∀ b, b < 4 → bxo ((b : Nat) : Int) 1 = (if ((b : Nat) : Int) % 2 = 0 then ((b : Nat) : Int) + 1 else ((b : Nat) : Int) - 1) ∧ bxo ((b : Nat) : Int) 2 = (if ((b : Nat) : Int) < 2 then ((b : Nat) : Int) + 2 else ((b : Nat) : Int) - 2) := by decide +kernel
  have := key y.toNat (by omega)
  rw [show ((y.toNat : Nat) : Int) = y by omega] at this
  exact this
theorem pt_st {s s' : TS} {c : Int} (h : tPt c s = .inl s') : s'.1.2.2 = s.1.2.2 := by
  obtain ⟨e, -, -⟩ := pt_i h
  rw [e]
  rfl
theorem Texts_putScratch_2.c (hn : inOk σ0 a) {M : List Int} (hM : mX σ0 95 = M) (hl : M.length ≤ 64) (hb : smB M) : ∀ (r p : List Int) (s : TS) (σ : MS), M = p ++ r → TxQ σ0 a A k R s σ → TI 0 0 s → TOk Q (tPn r s) (fun s' σ' => TxQ σ0 a A k R s' σ') (K2 σ0) → Texts_putScratch_2 (p.length : Int) σ Q
  | [], p, s, σ, he, h, hi, hq => by
    have x95 : mX σ 95 = M := by rw [h.2.1.1 95 (by decide) (by decide)]; exact hM
    have l : M.length = p.length := by rw [he, List.append_nil]
    exact Texts_putScratch_2.i ⟨by unfold Rg; omega, fun _ => hq.1 s σ rfl h, fun h9 => absurd h9 (by rw [x95]; omega)⟩
  | c :: r, p, s, σ, he, h, hi, hq => by
    have x95 : mX σ 95 = M := by rw [h.2.1.1 95 (by decide) (by decide)]; exact hM
    have l := len_at he
    have hx := rgt_at he
    have hc : 0 ≤ c ∧ c ≤ 127 := hb c (by rw [he]; exact List.mem_append_right _ List.mem_cons_self)
    have y3 := hi.1.2.2.1
    refine Texts_putScratch_2.i ⟨by unfold Rg; omega, fun h9 => absurd h9 (by rw [x95]; omega), fun _ => ⟨by unfold Rg; omega, ?_⟩⟩
    rw [x95, hx, h.1.2.2, bor_cd hc y3]
    have hq2 : TOk Q (tBd (tPt (cdS s.1.2.2 c) s) (tPs (r.map (cdS s.1.2.2)))) (fun s' σ' => TxQ σ0 a A k R s' σ') (K2 σ0) := hq
    refine Texts_put.c h hn hi (cd_ok y3 hc) ⟨fun s1 σ1 e1 h3 => ?_, fun e σ1 he h3 h4 => hq2.no he h3 h4⟩
    have hq3 := hq2.bd e1
    have := Texts_putScratch_2.c hn hM hl hb r (p ++ [c]) s1 σ1 (nxt_at he) h3 (hi.pt (cd_ok y3 hc) e1) (by unfold tPn; rw [pt_st e1]; exact hq3)
    rw [len_sn] at this
    exact this
theorem Texts_putScratch.c (hn : inOk σ0 a) {M : List Int} (hM : mX σ0 95 = M) (hl : M.length ≤ 64) (hb : smB M) (h : TxQ σ0 a A k R s σ) (hi : TI 0 0 s) (hq : TOk Q (tPn M s) (fun s' σ' => TxQ σ0 a A k R s' σ') (K2 σ0)) : Texts_putScratch σ Q := Texts_putScratch.i (Texts_putScratch_2.c hn hM hl hb M [] s σ rfl h hi hq)
end
