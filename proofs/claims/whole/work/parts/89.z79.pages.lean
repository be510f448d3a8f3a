/-! PAGES: the document -/
/-- how many notes stand ahead of a place -/
def nB : List Int → Int → Nat
  | [], _ => 0
  | p :: r, x => if p < x then nB r x + 1 else 0
/-- lines of the first notes -/
def pS : List (Int × Int) → Nat → Int
  | [], _ => 0
  | _ :: _, 0 => 0
  | x :: r, n + 1 => (x.2 - x.1) + pS r n
/-- lines of the notes from a place to another -/
def ftP (A : List Int) (sp : List (Int × Int)) (fr i : Nat) : Int := pS sp (nB A ((i : Int) + 1)) - pS sp (nB A (fr : Int))
def flE (Ls : List GL9) (l : Int) : Int := (Ls.getD l.toNat ([], 0, 0)).2.2
def peE (fr : Nat) (may fits : Int) : Int × Bool := (if may = -1 then (if fits = -1 then (fr : Int) else fits) else may, decide (¬ fits = -1))
/-- a page that begins at fr fits up to i -/
def fitP (room : Int) (A : List Int) (sp : List (Int × Int)) (fr i : Nat) : Bool := decide (((i : Int) - (fr : Int) + 1) + (if 0 < ftP A sp fr i then ftP A sp fr i + 1 else 0) ≤ room)
/-- where the page that begins at fr ends, and whether anything fits -/
def peD (room : Int) (F : List Int) (Ls : List GL9) (A : List Int) (sp : List (Int × Int)) (fr : Nat) : Nat → Nat → Int → Int → Int × Bool
  | 0, _, may, fits => peE fr may fits
  | n + 1, i, may, fits => if F.length ≤ i then peE fr may fits else if F.getD i 0 < 0 then peD room F Ls A sp fr n (i + 1) may fits else if fitP room A sp fr i = true then (if i + 1 = F.length ∨ F.getD (i + 1) 0 = -3 then ((i : Int), true) else peD room F Ls A sp fr n (i + 1) (if flE Ls (F.getD i 0) % 2 = 0 then (i : Int) else may) (i : Int)) else peE fr may fits
def pgE (room : Int) (F : List Int) (Ls : List GL9) (A : List Int) (sp : List (Int × Int)) (i : Nat) : Nat := (peD room F Ls A sp i F.length i (-1) (-1)).1.toNat
/-- pages from place i on, c being there; none where there are too many -/
def pgD (room : Int) (F : List Int) (Ls : List GL9) (A : List Int) (sp : List (Int × Int)) : Nat → Nat → Nat → Option (List (Nat × Nat))
  | 0, _, _ => some []
  | n + 1, i, c => if F.length ≤ i then some [] else if F.getD i 0 < 0 then pgD room F Ls A sp n (i + 1) c else if 99 ≤ c then none else match pgD room F Ls A sp n (pgE room F Ls A sp i + 1) (c + 1) with
    | none => none
    | some P => some ((i, pgE room F Ls A sp i) :: P)
theorem gdp_mem {L : List (Int × Int)} {i : Nat} (hi : i < L.length) : L.getD i (0, 0) ∈ L := by
  rw [List.getD_eq_getElem?_getD, List.getElem?_eq_getElem hi]
  exact List.getElem_mem hi
section
variable {room : Int} {F : List Int} {Ls : List GL9} {A : List Int} {sp : List (Int × Int)} {fr i : Nat}
theorem nB_l : ∀ {A : List Int} {x : Int}, nB A x ≤ A.length
  | [], x => Nat.le_refl _
  | p :: r, x => by
    have := nB_l (A := r) (x := x)
    show (if p < x then nB r x + 1 else 0) ≤ r.length + 1
    split <;> omega
theorem nB_lt : ∀ {A : List Int} {x : Int} {k : Nat}, k < nB A x → A.getD k 0 < x
  | [], x, k, h => absurd h (Nat.not_lt_zero _)
  | p :: r, x, k, h => by
    have h : k < (if p < x then nB r x + 1 else 0) := h
    by_cases c : p < x
    · rw [if_pos c] at h
      cases k with
      | zero => exact c
      | succ k => exact nB_lt (A := r) (by omega)
    · rw [if_neg c] at h
      omega
theorem nB_at : ∀ {A : List Int} {x : Int}, nB A x < A.length → ¬ A.getD (nB A x) 0 < x
  | [], x, h => absurd h (Nat.not_lt_zero _)
  | p :: r, x, h => by
    have e : nB (p :: r) x = if p < x then nB r x + 1 else 0 := rfl
    rw [e] at h ⊢
    by_cases c : p < x
    · rw [if_pos c] at h ⊢
      have h : nB r x + 1 < r.length + 1 := h
      exact nB_at (A := r) (by omega)
    · rw [if_neg c]
      exact c
theorem nB_eq : ∀ {A : List Int} {x : Int} {k : Nat}, k ≤ A.length → (∀ j, j < k → A.getD j 0 < x) → (k < A.length → ¬ A.getD k 0 < x) → nB A x = k
  | [], x, k, h, _, _ => by
    have h : k ≤ 0 := h
    show 0 = k
    omega
  | p :: r, x, 0, _, _, h2 => if_neg (h2 (by show 0 < r.length + 1; omega))
  | p :: r, x, k + 1, h, h1, h2 => by
    have ih := nB_eq (A := r) (x := x) (k := k) (by have : k + 1 ≤ r.length + 1 := h; omega) (fun j hj => h1 (j + 1) (by omega)) (fun hk => h2 (by show k + 1 < r.length + 1; omega))
    show (if p < x then nB r x + 1 else 0) = k + 1
    rw [if_pos (show p < x from h1 0 (by omega)), ih]
theorem nB_mo {A : List Int} {x y : Int} (h : x ≤ y) : nB A x ≤ nB A y := by
  by_cases c : nB A x ≤ nB A y
  · exact c
  · have h1 : nB A y < A.length := Nat.lt_of_lt_of_le (by omega) (nB_l (A := A) (x := x))
    have h2 := nB_at h1
    have h3 := nB_lt (A := A) (x := x) (k := nB A y) (by omega)
    omega
/-- places without lines have no notes -/
theorem nB_sk (hA : MkP F A) (hi : F.getD i 0 < 0) : nB A ((i : Int) + 1) = nB A (i : Int) := by
  refine nB_eq nB_l (fun j hj => by have := nB_lt hj; omega) (fun hk => ?_)
  have h1 := nB_at hk
  intro h2
  have e : A.getD (nB A (i : Int)) 0 = (i : Int) := by omega
  have h3 := (hA _ (gd_mem hk)).2.2
  rw [e, Int.toNat_natCast] at h3
  omega
theorem pS_s : ∀ {sp : List (Int × Int)} {k : Nat}, k < sp.length → pS sp (k + 1) = pS sp k + ((sp.getD k (0, 0)).2 - (sp.getD k (0, 0)).1)
  | [], k, h => absurd h (Nat.not_lt_zero _)
  | x :: r, 0, _ => by
    have e : pS r 0 = 0 := by cases r <;> rfl
    show (x.2 - x.1) + pS r 0 = 0 + (x.2 - x.1)
    omega
  | x :: r, k + 1, h => by
    have ih := pS_s (sp := r) (k := k) (Nat.lt_of_succ_lt_succ h)
    show (x.2 - x.1) + pS r (k + 1) = (x.2 - x.1) + pS r k + ((r.getD k (0, 0)).2 - (r.getD k (0, 0)).1)
    omega
theorem pS_mo {m : Nat} (hs : SpP m sp) : ∀ {k n : Nat}, k ≤ n → n ≤ sp.length → pS sp k ≤ pS sp n
  | k, 0, h, _ => by
    rw [show k = 0 by omega]
    exact Int.le_refl _
  | k, n + 1, h, hn => by
    by_cases e : k = n + 1
    · rw [e]
      exact Int.le_refl _
    · have ih := pS_mo hs (k := k) (n := n) (by omega) (by omega)
      rw [pS_s (by omega)]
      have := hs _ (gdp_mem (L := sp) (i := n) (by omega))
      omega
/-- all that is known of a page's end -/
def PeI (room : Int) (F : List Int) (A : List Int) (sp : List (Int × Int)) (fr i : Nat) (x : Int) : Prop := x = -1 ∨ ((fr : Int) ≤ x ∧ x < (i : Int) ∧ 0 ≤ F.getD x.toNat 0 ∧ fitP room A sp fr x.toNat = true)
theorem PeI.mo {x : Int} {j : Nat} (h : PeI room F A sp fr i x) (hj : i ≤ j) : PeI room F A sp fr j x := by
  rcases h with h | ⟨h1, h2, h3⟩
  · exact Or.inl h
  · exact Or.inr ⟨h1, by omega, h3⟩
theorem peE_p {may fits : Int} (hfr : fr < F.length) (h0 : 0 ≤ F.getD fr 0) (hi : i ≤ F.length) (hm : PeI room F A sp fr i may) (hf : PeI room F A sp fr i fits) (hmf : fits = -1 → may = -1) : (fr : Int) ≤ (peE fr may fits).1 ∧ (peE fr may fits).1 < (F.length : Int) ∧ 0 ≤ F.getD (peE fr may fits).1.toNat 0 ∧ ((peE fr may fits).2 = true → fitP room A sp fr (peE fr may fits).1.toNat = true) ∧ ((peE fr may fits).2 = false → (peE fr may fits).1 = (fr : Int)) := by
  unfold peE
  by_cases c1 : may = -1
  · by_cases c2 : fits = -1
    · rw [if_pos c1, if_pos c2, decide_eq_false (fun h => h c2)]
      refine ⟨Int.le_refl _, by omega, ?_, fun h => Bool.noConfusion h, fun _ => rfl⟩
      show 0 ≤ F.getD (fr : Int).toNat 0
      rw [Int.toNat_natCast]
      exact h0
    · rw [if_pos c1, if_neg c2, decide_eq_true c2]
      obtain ⟨h1, h2, h3, h4⟩ := hf.resolve_left c2
      exact ⟨h1, by show fits < _; omega, h3, fun _ => h4, fun h => Bool.noConfusion h⟩
  · have c2 : ¬ fits = -1 := fun e => c1 (hmf e)
    rw [if_neg c1, decide_eq_true c2]
    obtain ⟨h1, h2, h3, h4⟩ := hm.resolve_left c1
    exact ⟨h1, by show may < _; omega, h3, fun _ => h4, fun h => Bool.noConfusion h⟩
theorem peD_p (hfr : fr < F.length) (h0 : 0 ≤ F.getD fr 0) : ∀ (n i : Nat) (may fits : Int), fr ≤ i → i ≤ F.length → PeI room F A sp fr i may → PeI room F A sp fr i fits → (fits = -1 → may = -1) → (fr : Int) ≤ (peD room F Ls A sp fr n i may fits).1 ∧ (peD room F Ls A sp fr n i may fits).1 < (F.length : Int) ∧ 0 ≤ F.getD (peD room F Ls A sp fr n i may fits).1.toNat 0 ∧ ((peD room F Ls A sp fr n i may fits).2 = true → fitP room A sp fr (peD room F Ls A sp fr n i may fits).1.toNat = true) ∧ ((peD room F Ls A sp fr n i may fits).2 = false → (peD room F Ls A sp fr n i may fits).1 = (fr : Int))
  | 0, i, may, fits, hi, hl, hm, hf, hmf => peE_p hfr h0 hl hm hf hmf
  | n + 1, i, may, fits, hi, hl, hm, hf, hmf => by
    unfold peD
    by_cases c1 : F.length ≤ i
    · rw [if_pos c1]
      exact peE_p hfr h0 hl hm hf hmf
    · rw [if_neg c1]
      by_cases c2 : F.getD i 0 < 0
      · rw [if_pos c2]
        exact peD_p hfr h0 n (i + 1) may fits (by omega) (by omega) (hm.mo (by omega)) (hf.mo (by omega)) hmf
      · rw [if_neg c2]
        by_cases c3 : fitP room A sp fr i = true
        · rw [if_pos c3]
          by_cases c4 : i + 1 = F.length ∨ F.getD (i + 1) 0 = -3
          · rw [if_pos c4]
            refine ⟨by show (fr : Int) ≤ (i : Int); omega, by show (i : Int) < _; omega, ?_, fun _ => ?_, fun h => Bool.noConfusion h⟩
            · show 0 ≤ F.getD (i : Int).toNat 0
              rw [Int.toNat_natCast]
              omega
            · show fitP room A sp fr (i : Int).toNat = true
              rw [Int.toNat_natCast]
              exact c3
          · rw [if_neg c4]
            have pf : PeI room F A sp fr (i + 1) (i : Int) := Or.inr ⟨by omega, by omega, by rw [Int.toNat_natCast]; omega, by rw [Int.toNat_natCast]; exact c3⟩
            refine peD_p hfr h0 n (i + 1) _ _ (by omega) (by omega) ?_ pf (fun e => by omega)
            split
            · exact pf
            · exact hm.mo (by omega)
        · rw [if_neg c3]
          exact peE_p hfr h0 hl hm hf hmf
theorem pgE_p (hfr : fr < F.length) (h0 : 0 ≤ F.getD fr 0) : fr ≤ pgE room F Ls A sp fr ∧ pgE room F Ls A sp fr < F.length ∧ 0 ≤ F.getD (pgE room F Ls A sp fr) 0 ∧ ((pgE room F Ls A sp fr : Nat) : Int) = (peD room F Ls A sp fr F.length fr (-1) (-1)).1 ∧ (((peD room F Ls A sp fr F.length fr (-1) (-1)).2 = true ∧ fitP room A sp fr (pgE room F Ls A sp fr) = true) ∨ ((peD room F Ls A sp fr F.length fr (-1) (-1)).2 = false ∧ pgE room F Ls A sp fr = fr)) := by
  obtain ⟨h1, h2, h3, h4, h5⟩ := peD_p (room := room) (F := F) (Ls := Ls) (A := A) (sp := sp) hfr h0 F.length fr (-1) (-1) (Nat.le_refl _) (by omega) (Or.inl rfl) (Or.inl rfl) (fun _ => rfl)
  unfold pgE
  refine ⟨by omega, by omega, h3, by omega, ?_⟩
  cases hb : (peD room F Ls A sp fr F.length fr (-1) (-1)).2 with
  | true => exact Or.inl ⟨rfl, h4 hb⟩
  | false =>
    have := h5 hb
    exact Or.inr ⟨rfl, by omega⟩
end
