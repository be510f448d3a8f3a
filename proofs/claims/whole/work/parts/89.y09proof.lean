/-! WHAT A PROOF SHOWS: pages, lines, length, sign, style, origin; answer -/
def nxP (P : List Nat) (n i : Nat) : Nat := if i + 1 < P.length then P.getD (i + 1) 0 else n
def stY (x : Int) : Int := (x % 512 - x % 128) / 128
/-- the number that the class keeps with a line -/
def hsh (L : List Int) : Int := L.foldl (fun h x => wr (wr (h * 31) + x % 128)) 0
/-- class and reference show these lines, with these page starts and origins -/
def PgR (σ : MS) (P : List Nat) (L : List (List Int)) (O : List Int) : Prop :=
  (mX σ 220 = P.map Int.ofNat ∧ shR σ 213 L ∧ mX σ 218 = O ∧ O.length = L.length ∧ mX σ 222 = L.map hsh) ∧
  (mV σ 246 123 = (P.length : Int) ∧ P.length ≤ 99 ∧ (∀ i, i < P.length → mV σ 328 i = ((P.getD i 0 : Nat) : Int)) ∧ mV σ 328 P.length = (L.length : Int) ∧ mV σ 246 124 = (L.length : Int) ∧ mV σ 246 125 = ((suM L : Nat) : Int)) ∧
  L.length ≤ 6100 ∧ suM L ≤ 80000 ∧ (∀ i, i < P.length → P.getD i 0 ≤ nxP P L.length i ∧ nxP P L.length i ≤ L.length) ∧
  (∀ l, l < L.length → mV σ 325 l = ((L.getD l []).length : Int) ∧ mV σ 324 l = ((suM (L.take l) : Nat) : Int) ∧ mV σ 326 l = O.getD l 0) ∧
  (∀ i, i < suM L → mV σ 322 i = L.flatten.getD i 0 % 128 ∧ mV σ 323 i = stY (L.flatten.getD i 0))
def PrR (σ : MS) : Prop := (mV σ 212 0 = 0 ∧ mV σ 246 114 = 0) ∨ (mV σ 212 0 = 1 ∧ mV σ 246 114 = 1 ∧ ∃ P L O, PgR σ P L O)
/-- class and reference answer alike and change nothing but what was thrown -/
def Agr (T R : MS → MQ9 → Prop) (σ : MS) : Prop := (∃ v : Int, (∀ Q : MQ9, Q (.inl (some v)) σ → T σ Q) ∧ (∀ Q : MQ9, Q (.inl (some v)) (wV σ 246 0 0) → R σ Q)) ∨ (∃ e t : Nat, (e = 0 ∧ t = 1 ∨ e = 1 ∧ t = 2) ∧ (∀ Q : MQ9, Q (.inr (exN e)) σ → T σ Q) ∧ (∀ Q : MQ9, Q (.inl (some 0)) (wV σ 246 0 (t : Int)) → R σ Q))
theorem map_at {P : List Nat} {i : Nat} (h : i < P.length) : rgt (P.map Int.ofNat) (i : Int) = ((P.getD i 0 : Nat) : Int) := by
  rw [rgt_n (by rw [List.length_map]; exact h), List.getD_eq_getElem?_getD, List.getElem?_map, List.getD_eq_getElem?_getD, List.getElem?_eq_getElem h]
  rfl
section
variable {σ : MS} {P : List Nat} {L : List (List Int)} {O : List Int}
theorem PgR.p1 (h : PgR σ P L O) {i : Nat} (hi : i < P.length) : mV σ 328 (i + 1) = ((nxP P L.length i : Nat) : Int) := by
  obtain ⟨-, ⟨-, -, h3, h4, -⟩, -⟩ := h
  unfold nxP
  by_cases e : i + 1 < P.length
  · rw [if_pos e]; exact h3 _ e
  · rw [if_neg e, show i + 1 = P.length by omega]; exact h4
theorem Proof_linesOf.s {Q : MQ9} (h : PgR σ P L O) {i : Nat} (hi : i < P.length) (hq : Q (.inl (some (((nxP P L.length i : Nat) : Int) - ((P.getD i 0 : Nat) : Int)))) σ) : Proof_linesOf 212 (i : Int) σ Q := by
  obtain ⟨⟨a1, a2, -⟩, ⟨b1, b2, -⟩, c1, c2, c3, -⟩ := h
  have n1 := c3 i hi
  have x0 : mX σ (212 + 8) = P.map Int.ofNat := a1
  have hl : (mX σ (212 + 8)).length = P.length := by rw [x0, List.length_map]
  have e1 : rgt (mX σ (212 + 8)) (i : Int) = ((P.getD i 0 : Nat) : Int) := by rw [x0]; exact map_at hi
  have fin : ∀ s : Int, s = ((nxP P L.length i : Nat) : Int) → Proof_linesOf_33 212 (i : Int) s σ Q := by
    intro s hs
    refine Proof_linesOf_33.i (tB.i rfl (tB.i rfl (tB.i rfl ⟨by unfold Rg; omega, ?_⟩)))
    rw [e1, hs]
    exact ⟨by unfold Rg; omega, hq⟩
  refine Proof_linesOf.i (tB.i rfl (tB.i rfl ⟨by unfold Rg; omega, fun a => tB.i rfl (tB.i rfl (Shelf_rows.i (tB.i rfl (tB.i rfl (fin _ ?_))))), fun a => tB.i rfl (tB.i rfl (tB.i rfl ⟨by unfold Rg; omega, fin _ ?_⟩))⟩))
  · have x3 : mX σ (212 + 1 + 3) = enS 0 L := a2.2
    rw [hl] at a
    rw [x3, enS_len]
    unfold nxP
    rw [if_neg (by omega)]
  · rw [hl] at a
    rw [x0]
    unfold nxP
    rw [if_pos (by omega)]
    exact map_at (i := i + 1) (by omega)
theorem T_needPage.s {Q : MQ9} {p : Int} (hp : Rg p) (h1 : mV σ 212 0 = 1) (h : PgR σ P L O) (hn : (p < 0 ∨ (P.length : Int) ≤ p) → Q (.inr (exN 1)) σ) (hy : ¬ (p < 0 ∨ (P.length : Int) ≤ p) → Q (.inl none) σ) : T_needPage p σ Q := by
  have hl : (mX σ 220).length = P.length := by rw [h.1.1, List.length_map]
  refine T_needPage.i (T_needProof.i ⟨fun _ => ⟨hp, fun a => T_needPage_22.i (hn (Or.inl a)), fun a => ⟨hp, fun b => hy (by omega), fun b => T_needPage_22.i (hn (by omega))⟩⟩, fun a => absurd a (by rw [h1]; decide)⟩)
/-- a line is there -/
def isL (P : List Nat) (n : Nat) (p l : Int) : Prop := (0 ≤ p ∧ p < P.length) ∧ 0 ≤ l ∧ l < ((nxP P n p.toNat : Nat) : Int) - ((P.getD p.toNat 0 : Nat) : Int)
theorem T_needLine.s {Q : MQ9} {p l : Int} (hp : Rg p) (hl : Rg l) (h1 : mV σ 212 0 = 1) (h : PgR σ P L O) (hn : ¬ isL P L.length p l → Q (.inr (exN 1)) σ) (hy : isL P L.length p l → Q (.inl (some (((P.getD p.toNat 0 : Nat) : Int) + l))) σ) : T_needLine p l σ Q := by
  refine T_needLine.i (T_needPage.s hp h1 h (fun a => hn (fun i => by unfold isL at i; omega)) (fun a => ⟨hl, fun b => T_needLine_21.i (hn (fun i => by unfold isL at i; omega)), fun b => ?_⟩))
  have e : p = ((p.toNat : Nat) : Int) := by omega
  have hi : p.toNat < P.length := by omega
  have n1 := h.2.2.2.2.1 p.toNat hi
  have hc := h.2.2.1
  have er : rgt (mX σ 220) p = ((P.getD p.toNat 0 : Nat) : Int) := by rw [h.1.1]; rw [e]; exact map_at hi
  have := Proof_linesOf.s (Q := kI (thQ Q) fun r2 σ2 => (Rg l ∧ (l < r2 → Rg p ∧ Rg ((rgt (mX σ2 220) p) + l) ∧ Q (.inl (some ((rgt (mX σ2 220) p) + l))) σ2) ∧ (r2 ≤ l → T_needLine_21 σ2 Q))) h hi ⟨hl, fun c => ⟨hp, by rw [er]; unfold Rg; omega, by rw [er]; exact hy (by unfold isL; omega)⟩, fun c => T_needLine_21.i (hn (fun i => by unfold isL at i; omega))⟩
  rw [← e] at this
  exact this
theorem isL.b {n : Nat} {p l : Int} (h : isL P n p l) (hc : ∀ i, i < P.length → P.getD i 0 ≤ nxP P n i ∧ nxP P n i ≤ n) : (((P.getD p.toNat 0 : Nat) : Int) + l) = ((P.getD p.toNat 0 + l.toNat : Nat) : Int) ∧ P.getD p.toNat 0 + l.toNat < n := by
  unfold isL at h
  have := hc p.toNat (by omega)
  omega
theorem take_at {l : Nat} (h : l < L.length) : L = L.take l ++ L.getD l [] :: L.drop (l + 1) := by
  have e : L.getD l [] = L[l] := by rw [List.getD_eq_getElem?_getD, List.getElem?_eq_getElem h]; rfl
  rw [e, List.getElem_cons_drop, List.take_append_drop]
theorem PgR.len (h : PgR σ P L O) {l : Nat} (hl : l < L.length) : stoM (mX σ 216) (l : Int) = ((suM (L.take l) + (L.getD l []).length : Nat) : Int) ∧ sfrM (mX σ 216) (l : Int) = ((suM (L.take l) : Nat) : Int) ∧ suM (L.take l) + (L.getD l []).length ≤ suM L := by
  have x3 : mX σ 216 = enS 0 L := h.1.2.1.2
  have ht : (L.take l).length = l := by rw [List.length_take]; omega
  refine ⟨?_, ?_, ?_⟩
  · have := sto_at (p := L.take l) (r := L.getD l []) (rs := L.drop (l + 1))
    rw [← take_at hl, ht] at this
    rw [x3]; exact this
  · have := sfr_at (p := L.take l) (rs := L.getD l [] :: L.drop (l + 1))
    rw [← take_at hl, ht] at this
    rw [x3]; exact this
  · have : suM L = suM (L.take l ++ L.getD l [] :: L.drop (l + 1)) := by rw [← take_at hl]
    rw [this, suM_app]
    show _ ≤ _ + (_ + _)
    omega
theorem Proof_lengthOf.s {Q : MQ9} (h : PgR σ P L O) {l : Nat} (hl : l < L.length) (hq : Q (.inl (some (((L.getD l []).length : Nat) : Int))) σ) : Proof_lengthOf 212 (l : Int) σ Q := by
  obtain ⟨e1, e2, e3⟩ := h.len hl
  have c1 := h.2.2.1
  have c2 := h.2.2.2.1
  have f1 : stoM (mX σ (212 + 1 + 3)) (l : Int) - sfrM (mX σ (212 + 1 + 3)) (l : Int) = (((L.getD l []).length : Nat) : Int) := by
    show stoM (mX σ 216) (l : Int) - sfrM (mX σ 216) (l : Int) = _
    rw [e1, e2]
    omega
  refine Proof_lengthOf.i (tB.i rfl (tB.i rfl (tB.i rfl ⟨by unfold Rg; omega, tB.i rfl (tB.i rfl (tB.i rfl ⟨by unfold Rg; omega, ?_⟩))⟩)))
  rw [f1]
  exact ⟨by unfold Rg; omega, hq⟩
/-- a sign is there -/
theorem T_needSign.s {Q : MQ9} {p l k : Int} (hp : Rg p) (hl : Rg l) (hk : Rg k) (h1 : mV σ 212 0 = 1) (h : PgR σ P L O) (hn : ¬ (isL P L.length p l ∧ 0 ≤ k ∧ k < (L.getD (P.getD p.toNat 0 + l.toNat) []).length) → Q (.inr (exN 1)) σ) (hy : (isL P L.length p l ∧ 0 ≤ k ∧ k < (L.getD (P.getD p.toNat 0 + l.toNat) []).length) → Q (.inl (some (L.flatten.getD (suM (L.take (P.getD p.toNat 0 + l.toNat)) + k.toNat) 0))) σ) : T_needSign p l k σ Q := by
  refine T_needSign.i (T_needLine.s hp hl h1 h (fun a => hn (fun i => a i.1)) (fun a => ⟨hk, fun b => T_needSign_25.i (hn (fun i => by omega)), fun b => ?_⟩))
  obtain ⟨e1, e2⟩ := a.b h.2.2.2.2.1
  rw [e1]
  obtain ⟨f1, f2, f3⟩ := h.len e2
  have c2 := h.2.2.2.1
  refine Proof_lengthOf.s h e2 ⟨hk, fun c => ?_, fun c => T_needSign_25.i (hn (fun i => by omega))⟩
  rw [f2]
  have x1 : mX σ 214 = L.flatten := h.1.2.1.1
  refine ⟨by unfold Rg; omega, ?_⟩
  rw [x1, rgt_a (i := suM (L.take (P.getD p.toNat 0 + l.toNat)) + k.toNat) (by omega) (by rw [flat_len]; omega)]
  exact hy ⟨a, b, c⟩
/-! the reference -/
theorem R_isThere.s {Q : MQ9} {p l : Int} (hp : Rg p) (hl : Rg l) (h1 : mV σ 246 114 = 1) (h : PgR σ P L O) (hn : ¬ isL P L.length p l → Q (.inl (some 0)) (wV σ 246 0 2)) (hy : isL P L.length p l → Q (.inl (some 1)) (wV σ 246 0 0)) : R_isThere p l 1 σ Q := by
  have no : ¬ isL P L.length p l → R_isThere_51 σ Q := fun a => R_isThere_51.i (R_isThere_56.i ⟨fun _ => hn a, fun h9 => absurd h9 (by decide)⟩)
  have yes : isL P L.length p l → R_isThere_55 σ Q := fun a => R_isThere_55.i (R_isThere_56.i ⟨fun h9 => absurd rfl h9, fun _ => hy a⟩)
  have b1 := h.2.1.1
  have b2 := h.2.1.2.1
  refine R_isThere.i ⟨fun _ => ⟨hp, fun a => no (fun i => by unfold isL at i; omega), fun a => ⟨hp, fun b => no (fun i => by unfold isL at i; omega), fun b => ⟨by decide, fun h9 => absurd h9 (by decide), fun _ => ⟨hl, fun c => no (fun i => by unfold isL at i; omega), fun c => ⟨by omega, by omega, by omega, by omega, hl, ?_⟩⟩⟩⟩⟩, fun h9 => absurd h9 (by rw [h1]; decide)⟩
  have hi : p.toNat < P.length := by omega
  have n1 := h.2.2.2.2.1 p.toNat hi
  have c1 := h.2.2.1
  have e1 : mV σ 328 ((p + 1).toNat) = ((nxP P L.length p.toNat : Nat) : Int) := by rw [show (p + 1).toNat = p.toNat + 1 by omega]; exact h.p1 hi
  have e2 : mV σ 328 p.toNat = ((P.getD p.toNat 0 : Nat) : Int) := h.2.1.2.2.1 _ hi
  rw [e1, e2]
  exact ⟨by unfold Rg; omega, fun d => yes (by unfold isL; omega), fun d => no (fun i => by unfold isL at i; omega)⟩
theorem R_isThere.p {Q : MQ9} {p : Int} (hp : Rg p) (h1 : mV σ 246 114 = 1) (h : PgR σ P L O) (hn : (p < 0 ∨ (P.length : Int) ≤ p) → Q (.inl (some 0)) (wV σ 246 0 2)) (hy : ¬ (p < 0 ∨ (P.length : Int) ≤ p) → Q (.inl (some 1)) (wV σ 246 0 0)) : R_isThere p 0 0 σ Q := by
  have b1 := h.2.1.1
  have no : (p < 0 ∨ (P.length : Int) ≤ p) → R_isThere_51 σ Q := fun a => R_isThere_51.i (R_isThere_56.i ⟨fun _ => hn a, fun h9 => absurd h9 (by decide)⟩)
  exact R_isThere.i ⟨fun _ => ⟨hp, fun a => no (Or.inl a), fun a => ⟨hp, fun b => no (by omega), fun b => ⟨by decide, fun _ => R_isThere_55.i (R_isThere_56.i ⟨fun h9 => absurd rfl h9, fun _ => hy (by omega)⟩), fun h9 => absurd rfl h9⟩⟩⟩, fun h9 => absurd h9 (by rw [h1]; decide)⟩
theorem R_isThere.no {Q : MQ9} {p l n : Int} (h1 : mV σ 246 114 = 0) (hq : Q (.inl (some 0)) (wV σ 246 0 1)) : R_isThere p l n σ Q := R_isThere.i ⟨fun h9 => absurd h1 h9, fun _ => R_isThere_56.i ⟨fun _ => hq, fun h9 => absurd h9 (by decide)⟩⟩
theorem R_isSign.s {Q : MQ9} {p l k : Int} (hp : Rg p) (hl : Rg l) (hk : Rg k) (h1 : mV σ 246 114 = 1) (h : PgR σ P L O) (hn : ¬ (isL P L.length p l ∧ 0 ≤ k ∧ k < (L.getD (P.getD p.toNat 0 + l.toNat) []).length) → Q (.inl (some 0)) (wV σ 246 0 2)) (hy : (isL P L.length p l ∧ 0 ≤ k ∧ k < (L.getD (P.getD p.toNat 0 + l.toNat) []).length) → Q (.inl (some 1)) (wV σ 246 0 0)) : R_isSign p l k σ Q := by
  refine R_isSign.i (R_isThere.s hp hl h1 h (fun a => ⟨fun h9 => absurd rfl h9, fun _ => hn (fun i => a i.1)⟩) (fun a => ⟨fun _ => ?_, fun h9 => absurd h9 (by decide)⟩))
  have no : ¬ (isL P L.length p l ∧ 0 ≤ k ∧ k < (L.getD (P.getD p.toNat 0 + l.toNat) []).length) → R_isSign_33 (wV σ 246 0 0) Q := fun b => by
    refine R_isSign_33.i (R_isSign_38.i ⟨fun _ => ?_, fun h9 => absurd h9 (by rw [wV_self]; decide)⟩)
    rw [wV_wV]
    exact hn b
  obtain ⟨e1, e2⟩ := a.b h.2.2.2.2.1
  have hi : p.toNat < P.length := by unfold isL at a; omega
  have b2 := h.2.1.2.1
  have c1 := h.2.2.1
  have e3 : mV (wV σ 246 0 0) 328 p.toNat = ((P.getD p.toNat 0 : Nat) : Int) := h.2.1.2.2.1 _ hi
  refine ⟨hk, fun b => no (fun i => by omega), fun b => ⟨by unfold isL at a; omega, by omega, ?_⟩⟩
  rw [e3, e1]
  have e4 : mV (wV σ 246 0 0) 325 ((((P.getD p.toNat 0 + l.toNat : Nat) : Int)).toNat) = ((L.getD (P.getD p.toNat 0 + l.toNat) []).length : Int) := (h.2.2.2.2.2.1 _ e2).1
  rw [e4]
  refine ⟨by omega, by omega, hk, fun c => R_isSign_38.i ⟨fun h9 => absurd wV_self h9, fun _ => hy ⟨a, b, c⟩⟩, fun c => no (fun i => by omega)⟩
/-! both -/
theorem none_T (h0 : mV σ 212 0 = 0) : (∀ Q : MQ9, Q (.inr (exN 0)) σ → T_needProof σ Q) := fun Q hq => T_needProof.i ⟨fun h9 => absurd h0 h9, fun _ => hq⟩
theorem pages_b (h : PrR σ) : Agr T_pages R_pages σ := by
  rcases h with ⟨h0, h1⟩ | ⟨h0, h1, P, L, O, h⟩
  · exact Or.inr ⟨0, 1, Or.inl ⟨rfl, rfl⟩, fun Q hq => T_pages.i (none_T h0 _ hq), fun Q hq => R_pages.i ⟨fun _ => R_pages_13.i ⟨fun _ => hq, fun h9 => absurd h1 h9⟩, fun h9 => absurd h1 h9⟩⟩
  · refine Or.inl ⟨(P.length : Int), fun Q hq => T_pages.i (T_needProof.i ⟨fun _ => ?_, fun h9 => absurd h9 (by rw [h0]; decide)⟩), fun Q hq => R_pages.i ⟨fun h9 => absurd h9 (by rw [h1]; decide), fun _ => R_pages_13.i ⟨fun h9 => absurd h9 (by rw [h1]; decide), fun _ => ?_⟩⟩⟩
    · have hl : (mX σ 220).length = P.length := by rw [h.1.1, List.length_map]
      show Q (.inl (some ((mX σ 220).length : Int))) σ
      rw [hl]
      exact hq
    · rw [h.2.1.1]
      exact hq
theorem lines_b {p : Int} (hp : Rg p) (h : PrR σ) : Agr (T_lines p) (R_lines p) σ := by
  rcases h with ⟨h0, h1⟩ | ⟨h0, h1, P, L, O, h⟩
  · exact Or.inr ⟨0, 1, Or.inl ⟨rfl, rfl⟩, fun Q hq => T_lines.i (T_needPage.i (none_T h0 _ hq)), fun Q hq => R_lines.i (R_isThere.no h1 ⟨fun _ => hq, fun h9 => absurd rfl h9⟩)⟩
  · by_cases a : p < 0 ∨ (P.length : Int) ≤ p
    · exact Or.inr ⟨1, 2, Or.inr ⟨rfl, rfl⟩, fun Q hq => T_lines.i (T_needPage.s hp h0 h (fun _ => hq) (fun b => absurd a b)), fun Q hq => R_lines.i (R_isThere.p hp h1 h (fun _ => ⟨fun _ => hq, fun h9 => absurd rfl h9⟩) (fun b => absurd a b))⟩
    · have e : p = ((p.toNat : Nat) : Int) := by omega
      have hi : p.toNat < P.length := by omega
      have b2 := h.2.1.2.1
      refine Or.inl ⟨((nxP P L.length p.toNat : Nat) : Int) - ((P.getD p.toNat 0 : Nat) : Int), fun Q hq => T_lines.i (T_needPage.s hp h0 h (fun b => absurd b a) (fun _ => ?_)), fun Q hq => R_lines.i (R_isThere.p hp h1 h (fun b => absurd b a) (fun _ => ⟨fun h9 => absurd h9 (by decide), fun _ => ⟨by omega, by omega, by omega, by omega, ?_⟩⟩))⟩
      · have := Proof_linesOf.s (Q := kI (thQ Q) fun r2 σ2 => Q (.inl (some r2)) σ2) h hi hq
        rw [← e] at this
        exact this
      · have e1 : mV (wV σ 246 0 0) 328 ((p + 1).toNat) = ((nxP P L.length p.toNat : Nat) : Int) := by rw [show (p + 1).toNat = p.toNat + 1 by omega]; exact h.p1 hi
        have e2 : mV (wV σ 246 0 0) 328 p.toNat = ((P.getD p.toNat 0 : Nat) : Int) := h.2.1.2.2.1 _ hi
        have n1 := h.2.2.2.2.1 p.toNat hi
        have c1 := h.2.2.1
        rw [e1, e2]
        exact ⟨by unfold Rg; omega, hq⟩
theorem length_b {p l : Int} (hp : Rg p) (hl : Rg l) (h : PrR σ) : Agr (T_length p l) (R_length p l) σ := by
  rcases h with ⟨h0, h1⟩ | ⟨h0, h1, P, L, O, h⟩
  · exact Or.inr ⟨0, 1, Or.inl ⟨rfl, rfl⟩, fun Q hq => T_length.i (T_needLine.i (T_needPage.i (none_T h0 _ hq))), fun Q hq => R_length.i (R_isThere.no h1 ⟨fun _ => hq, fun h9 => absurd rfl h9⟩)⟩
  · by_cases a : isL P L.length p l
    · obtain ⟨e1, e2⟩ := a.b h.2.2.2.2.1
      have hi : p.toNat < P.length := by unfold isL at a; omega
      have b2 := h.2.1.2.1
      have c1 := h.2.2.1
      refine Or.inl ⟨((L.getD (P.getD p.toNat 0 + l.toNat) []).length : Int), fun Q hq => T_length.i (T_needLine.s hp hl h0 h (fun b => absurd a b) (fun _ => ?_)), fun Q hq => R_length.i (R_isThere.s hp hl h1 h (fun b => absurd a b) (fun _ => ⟨fun h9 => absurd h9 (by decide), fun _ => ⟨by unfold isL at a; omega, by omega, ?_⟩⟩))⟩
      · rw [e1]
        exact Proof_lengthOf.s h e2 hq
      · have e3 : mV (wV σ 246 0 0) 328 p.toNat = ((P.getD p.toNat 0 : Nat) : Int) := h.2.1.2.2.1 _ hi
        have e4 : mV (wV σ 246 0 0) 325 ((((P.getD p.toNat 0 + l.toNat : Nat) : Int)).toNat) = ((L.getD (P.getD p.toNat 0 + l.toNat) []).length : Int) := (h.2.2.2.2.2.1 _ e2).1
        rw [e3, e1, e4]
        exact ⟨by omega, by omega, hq⟩
    · exact Or.inr ⟨1, 2, Or.inr ⟨rfl, rfl⟩, fun Q hq => T_length.i (T_needLine.s hp hl h0 h (fun _ => hq) (fun b => absurd b a)), fun Q hq => R_length.i (R_isThere.s hp hl h1 h (fun _ => ⟨fun _ => hq, fun h9 => absurd rfl h9⟩) (fun b => absurd b a))⟩
theorem origin_b {p l : Int} (hp : Rg p) (hl : Rg l) (h : PrR σ) : Agr (T_origin p l) (R_origin p l) σ := by
  rcases h with ⟨h0, h1⟩ | ⟨h0, h1, P, L, O, h⟩
  · exact Or.inr ⟨0, 1, Or.inl ⟨rfl, rfl⟩, fun Q hq => T_origin.i (T_needLine.i (T_needPage.i (none_T h0 _ hq))), fun Q hq => R_origin.i (R_isThere.no h1 ⟨fun _ => hq, fun h9 => absurd rfl h9⟩)⟩
  · by_cases a : isL P L.length p l
    · obtain ⟨e1, e2⟩ := a.b h.2.2.2.2.1
      have hi : p.toNat < P.length := by unfold isL at a; omega
      have b2 := h.2.1.2.1
      have c1 := h.2.2.1
      have hO := h.1.2.2.2.1
      refine Or.inl ⟨O.getD (P.getD p.toNat 0 + l.toNat) 0, fun Q hq => T_origin.i (T_needLine.s hp hl h0 h (fun b => absurd a b) (fun _ => ?_)), fun Q hq => R_origin.i (R_isThere.s hp hl h1 h (fun b => absurd a b) (fun _ => ⟨fun h9 => absurd h9 (by decide), fun _ => ⟨by unfold isL at a; omega, by omega, ?_⟩⟩))⟩
      · show Q (.inl (some (rgt (mX σ 218) _))) σ
        rw [e1, h.1.2.2.1, rgt_n (by omega)]
        exact hq
      · have e3 : mV (wV σ 246 0 0) 328 p.toNat = ((P.getD p.toNat 0 : Nat) : Int) := h.2.1.2.2.1 _ hi
        have e4 : mV (wV σ 246 0 0) 326 ((((P.getD p.toNat 0 + l.toNat : Nat) : Int)).toNat) = O.getD (P.getD p.toNat 0 + l.toNat) 0 := (h.2.2.2.2.2.1 _ e2).2.2
        rw [e3, e1, e4]
        exact ⟨by omega, by omega, hq⟩
    · exact Or.inr ⟨1, 2, Or.inr ⟨rfl, rfl⟩, fun Q hq => T_origin.i (T_needLine.s hp hl h0 h (fun _ => hq) (fun b => absurd b a)), fun Q hq => R_origin.i (R_isThere.s hp hl h1 h (fun _ => ⟨fun _ => hq, fun h9 => absurd rfl h9⟩) (fun b => absurd b a))⟩
theorem PgR.sg (h : PgR σ P L O) {p l k : Int} (a : isL P L.length p l ∧ 0 ≤ k ∧ k < (L.getD (P.getD p.toNat 0 + l.toNat) []).length) : (0 ≤ p ∧ p < 101) ∧ (0 ≤ mV σ 328 p.toNat + l ∧ mV σ 328 p.toNat + l < 6100) ∧ mV σ 324 ((mV σ 328 p.toNat + l).toNat) + k = ((suM (L.take (P.getD p.toNat 0 + l.toNat)) + k.toNat : Nat) : Int) ∧ suM (L.take (P.getD p.toNat 0 + l.toNat)) + k.toNat < suM L := by
  obtain ⟨e1, e2⟩ := a.1.b h.2.2.2.2.1
  have hi : p.toNat < P.length := by have := a.1; unfold isL at this; omega
  have b2 := h.2.1.2.1
  have c1 := h.2.2.1
  obtain ⟨-, -, f3⟩ := h.len e2
  have e3 : mV σ 328 p.toNat = ((P.getD p.toNat 0 : Nat) : Int) := h.2.1.2.2.1 _ hi
  have e4 := (h.2.2.2.2.2.1 _ e2).2.1
  rw [e3, e1, show (((P.getD p.toNat 0 + l.toNat : Nat) : Int)).toNat = P.getD p.toNat 0 + l.toNat from rfl, e4]
  have := a.1
  unfold isL at this
  refine ⟨by omega, by omega, by omega, by omega⟩
theorem sign_b {p l k : Int} (hp : Rg p) (hl : Rg l) (hk : Rg k) (h : PrR σ) : Agr (T_sign p l k) (R_sign p l k) σ := by
  rcases h with ⟨h0, h1⟩ | ⟨h0, h1, P, L, O, h⟩
  · exact Or.inr ⟨0, 1, Or.inl ⟨rfl, rfl⟩, fun Q hq => T_sign.i (T_needSign.i (T_needLine.i (T_needPage.i (none_T h0 _ hq)))), fun Q hq => R_sign.i (R_isSign.i (R_isThere.no h1 ⟨fun h9 => absurd rfl h9, fun _ => ⟨fun _ => hq, fun h9 => absurd rfl h9⟩⟩))⟩
  · by_cases a : isL P L.length p l ∧ 0 ≤ k ∧ k < (L.getD (P.getD p.toNat 0 + l.toNat) []).length
    · obtain ⟨g1, g2, g3, g4⟩ := h.sg a
      have c2 := h.2.2.2.1
      refine Or.inl ⟨L.flatten.getD (suM (L.take (P.getD p.toNat 0 + l.toNat)) + k.toNat) 0 % 128, fun Q hq => T_sign.i (T_needSign.s hp hl hk h0 h (fun b => absurd a b) (fun _ => hq)), fun Q hq => R_sign.i (R_isSign.s hp hl hk h1 h (fun b => absurd a b) (fun _ => ⟨fun h9 => absurd h9 (by decide), fun _ => ⟨g1.1, g1.2, g2.1, g2.2, ?_⟩⟩))⟩
      have e : mV (wV σ 246 0 0) 324 ((mV (wV σ 246 0 0) 328 p.toNat + l).toNat) + k = ((suM (L.take (P.getD p.toNat 0 + l.toNat)) + k.toNat : Nat) : Int) := g3
      rw [e]
      have e5 : mV (wV σ 246 0 0) 322 ((((suM (L.take (P.getD p.toNat 0 + l.toNat)) + k.toNat : Nat) : Int)).toNat) = L.flatten.getD (suM (L.take (P.getD p.toNat 0 + l.toNat)) + k.toNat) 0 % 128 := (h.2.2.2.2.2.2 _ g4).1
      rw [e5]
      exact ⟨by omega, by omega, hq⟩
    · exact Or.inr ⟨1, 2, Or.inr ⟨rfl, rfl⟩, fun Q hq => T_sign.i (T_needSign.s hp hl hk h0 h (fun _ => hq) (fun b => absurd b a)), fun Q hq => R_sign.i (R_isSign.s hp hl hk h1 h (fun _ => ⟨fun _ => hq, fun h9 => absurd rfl h9⟩) (fun b => absurd b a))⟩
theorem style_b {p l k : Int} (hp : Rg p) (hl : Rg l) (hk : Rg k) (h : PrR σ) : Agr (T_style p l k) (R_style p l k) σ := by
  rcases h with ⟨h0, h1⟩ | ⟨h0, h1, P, L, O, h⟩
  · exact Or.inr ⟨0, 1, Or.inl ⟨rfl, rfl⟩, fun Q hq => T_style.i (T_needSign.i (T_needLine.i (T_needPage.i (none_T h0 _ hq)))), fun Q hq => R_style.i (R_isSign.i (R_isThere.no h1 ⟨fun h9 => absurd rfl h9, fun _ => ⟨fun _ => hq, fun h9 => absurd rfl h9⟩⟩))⟩
  · by_cases a : isL P L.length p l ∧ 0 ≤ k ∧ k < (L.getD (P.getD p.toNat 0 + l.toNat) []).length
    · obtain ⟨g1, g2, g3, g4⟩ := h.sg a
      have c2 := h.2.2.2.1
      refine Or.inl ⟨stY (L.flatten.getD (suM (L.take (P.getD p.toNat 0 + l.toNat)) + k.toNat) 0), fun Q hq => T_style.i (T_needSign.s hp hl hk h0 h (fun b => absurd a b) (fun _ => hq)), fun Q hq => R_style.i (R_isSign.s hp hl hk h1 h (fun b => absurd a b) (fun _ => ⟨fun h9 => absurd h9 (by decide), fun _ => ⟨g1.1, g1.2, g2.1, g2.2, ?_⟩⟩))⟩
      have e : mV (wV σ 246 0 0) 324 ((mV (wV σ 246 0 0) 328 p.toNat + l).toNat) + k = ((suM (L.take (P.getD p.toNat 0 + l.toNat)) + k.toNat : Nat) : Int) := g3
      rw [e]
      have e5 : mV (wV σ 246 0 0) 323 ((((suM (L.take (P.getD p.toNat 0 + l.toNat)) + k.toNat : Nat) : Int)).toNat) = stY (L.flatten.getD (suM (L.take (P.getD p.toNat 0 + l.toNat)) + k.toNat) 0) := (h.2.2.2.2.2.2 _ g4).2
      rw [e5]
      exact ⟨by omega, by omega, hq⟩
    · exact Or.inr ⟨1, 2, Or.inr ⟨rfl, rfl⟩, fun Q hq => T_style.i (T_needSign.s hp hl hk h0 h (fun _ => hq) (fun b => absurd b a)), fun Q hq => R_style.i (R_isSign.s hp hl hk h1 h (fun _ => ⟨fun _ => hq, fun h9 => absurd rfl h9⟩) (fun b => absurd b a))⟩
/-- the answer of tell, hyphens, labelled -/
def AnR (σ : MS) : Prop := mV σ 246 141 = ((mX σ 5).length : Int) ∧ (mX σ 5).length ≤ 65536 ∧ hol σ 336 (mX σ 5)
theorem answer_b {k : Int} (hk : Rg k) (h : AnR σ) : Agr (T_answer k) (R_answer k) σ := by
  obtain ⟨h1, h2, h3⟩ := h
  refine Or.inl ⟨rgt (mX σ 5) k, fun Q hq => T_answer.i ⟨hk, hq⟩, fun Q hq => R_answer.i ⟨hk, fun a => ?_, fun a => ⟨hk, fun b => ?_, fun b => ⟨a, by omega, ?_⟩⟩⟩⟩
  · rw [rgt_o (Or.inl a)] at hq; exact hq
  · rw [rgt_o (Or.inr (by omega))] at hq; exact hq
  · rw [rgt_a (i := k.toNat) (by omega) (by omega)] at hq
    rw [show mV σ 336 k.toNat = (mX σ 5).getD k.toNat 0 from h3 _ (by omega)]
    exact hq
end
