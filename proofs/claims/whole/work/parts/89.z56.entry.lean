/-! INDEX: pages of a key, entries -/
def pgC (K : List (List Int)) (P : List Int) (key : Nat) : Nat → List Int
  | 0 => []
  | m + 1 => if ((pgC K P key m).length = 0 ∨ ¬ (pgC K P key m).getD ((pgC K P key m).length - 1) 0 = P.getD m 0) ∧ cpK (kyA K m) (kyA K key) = 0 then pgC K P key m ++ [P.getD m 0] else pgC K P key m
/-- how many pages follow without a gap -/
def rnC (p : Int) : List Int → Nat
  | [] => 0
  | x :: r => if x = p + 1 then rnC (p + 1) r + 1 else 0
def enE (f s : Int) : Nat → List Int → List Int
  | 0, _ => []
  | _ + 1, [] => []
  | n + 1, p :: r => if 2 ≤ rnC p r then [44, 32] ++ wrN (f + p) s ++ [45] ++ wrN (f + (p + (rnC p r : Int))) s ++ enE f s n (r.drop (rnC p r)) else [44, 32] ++ wrN (f + p) s ++ enE f s n r
def enT (K : List (List Int)) (P : List Int) (f s : Int) (key : Nat) : List Int := kyA K key ++ enE f s (pgC K P key K.length).length (pgC K P key K.length)
theorem rnC_l : ∀ {p : Int} {r : List Int}, rnC p r ≤ r.length
  | _, [] => Nat.le_refl _
  | p, x :: r => by
    unfold rnC
    split
    · have := rnC_l (p := p + 1) (r := r)
      show _ + 1 ≤ r.length + 1
      omega
    · exact Nat.zero_le _
theorem rnC_at : ∀ {p : Int} {r : List Int} {t : Nat}, t < rnC p r → r.getD t 0 = p + 1 + (t : Int)
  | _, [], _, h => absurd h (Nat.not_lt_zero _)
  | p, x :: r, t, h => by
    unfold rnC at h
    split at h
    · rename_i e
      cases t with
      | zero =>
        show x = _
        omega
      | succ t =>
        show r.getD t 0 = _
        rw [rnC_at (p := p + 1) (r := r) (t := t) (by omega)]
        omega
    · exact absurd h (Nat.not_lt_zero _)
theorem rnC_n : ∀ {p : Int} {r : List Int}, rnC p r < r.length → ¬ r.getD (rnC p r) 0 = p + 1 + (rnC p r : Int)
  | _, [], h => absurd h (Nat.not_lt_zero _)
  | p, x :: r, h => by
    unfold rnC at h ⊢
    split at h
    · rename_i e
      rw [if_pos e]
      have := rnC_n (p := p + 1) (r := r) (Nat.lt_of_succ_lt_succ h)
      show ¬ r.getD (rnC (p + 1) r) 0 = _
      omega
    · rename_i e
      rw [if_neg e]
      show ¬ x = _
      omega
theorem pgC_l {K : List (List Int)} {P : List Int} {key : Nat} : ∀ m, (pgC K P key m).length ≤ m
  | 0 => Nat.le_refl _
  | m + 1 => by
    have := pgC_l (K := K) (P := P) (key := key) m
    unfold pgC
    split
    · rw [List.length_append]
      show _ + 1 ≤ _
      omega
    · omega
/-- the pages rise, each once; they are those that the key has -/
theorem pgC_s {K : List (List Int)} {P : List Int} {key n : Nat} (hP : ∀ i j, i ≤ j → j < n → P.getD i 0 ≤ P.getD j 0) : ∀ m, m ≤ n → (pgC K P key m).Pairwise (· < ·) ∧ (∀ p, p ∈ pgC K P key m ↔ hpB K P key p m = true) ∧ ∀ x ∈ pgC K P key m, ∃ i, i < m ∧ x = P.getD i 0
  | 0, _ => ⟨List.Pairwise.nil, fun p => ⟨fun h => absurd h List.not_mem_nil, fun h => by cases h⟩, fun x hx => absurd hx List.not_mem_nil⟩
  | m + 1, hm => by
    obtain ⟨h1, h2, h3⟩ := pgC_s (K := K) (key := key) hP m (by omega)
    have le : ∀ x ∈ pgC K P key m, x ≤ P.getD m 0 := fun x hx => by
      obtain ⟨i, hi, e⟩ := h3 x hx
      rw [e]
      exact hP i m (by omega) (by omega)
    have eh : ∀ p, hpB K P key p (m + 1) = (hpB K P key p m || (decide (P.getD m 0 = p) && decide (cpK (kyA K m) (kyA K key) = 0))) := fun p => rfl
    unfold pgC
    by_cases hc : ((pgC K P key m).length = 0 ∨ ¬ (pgC K P key m).getD ((pgC K P key m).length - 1) 0 = P.getD m 0) ∧ cpK (kyA K m) (kyA K key) = 0
    · rw [if_pos hc]
      have lt : ∀ x ∈ pgC K P key m, x < P.getD m 0 := fun x hx => by
        have l0 : 0 < (pgC K P key m).length := List.length_pos_of_mem hx
        have hl : ¬ (pgC K P key m).getD ((pgC K P key m).length - 1) 0 = P.getD m 0 := by
          rcases hc.1 with h | h
          · omega
          · exact h
        have hlm := gd_mem (L := pgC K P key m) (i := (pgC K P key m).length - 1) (by omega)
        have hll := le _ hlm
        have hx9 : x ≤ (pgC K P key m).getD ((pgC K P key m).length - 1) 0 := by
          obtain ⟨i, hi, e⟩ := List.getElem_of_mem hx
          by_cases ei : i = (pgC K P key m).length - 1
          · have : (pgC K P key m).getD i 0 = x := by
              unfold List.getD
              rw [List.getElem?_eq_getElem hi]
              exact e
            rw [← ei, this]
            exact Int.le_refl _
          · have := List.pairwise_iff_getElem.mp h1 i ((pgC K P key m).length - 1) hi (by omega) (by omega)
            rw [e] at this
            have e2 : (pgC K P key m).getD ((pgC K P key m).length - 1) 0 = (pgC K P key m)[(pgC K P key m).length - 1]'(by omega) := by
              unfold List.getD
              rw [List.getElem?_eq_getElem (by omega)]
              rfl
            rw [e2]
            omega
        omega
      refine ⟨List.pairwise_append.mpr ⟨h1, List.pairwise_singleton _ _, fun a ha c hc2 => by rw [List.mem_singleton.mp hc2]; exact lt a ha⟩, fun p => ?_, fun x hx => ?_⟩
      · rw [List.mem_append, List.mem_singleton, h2 p, eh p, Bool.or_eq_true, Bool.and_eq_true, decide_eq_true_iff, decide_eq_true_iff]
        exact ⟨fun h => h.imp id (fun e => ⟨e.symm, hc.2⟩), fun h => h.imp id (fun e => e.1.symm)⟩
      · rcases List.mem_append.mp hx with h | h
        · obtain ⟨i, hi, e⟩ := h3 x h
          exact ⟨i, by omega, e⟩
        · exact ⟨m, by omega, List.mem_singleton.mp h⟩
    · rw [if_neg hc]
      refine ⟨h1, fun p => ?_, fun x hx => ?_⟩
      · rw [h2 p, eh p, Bool.or_eq_true, Bool.and_eq_true, decide_eq_true_iff, decide_eq_true_iff]
        refine ⟨Or.inl, fun h => ?_⟩
        rcases h with h | ⟨e1, e2⟩
        · exact h
        · -- the page was the last one
          have hl : (pgC K P key m).getD ((pgC K P key m).length - 1) 0 = P.getD m 0 ∧ ¬ (pgC K P key m).length = 0 := by
            refine ⟨?_, fun h => hc ⟨Or.inl h, e2⟩⟩
            by_cases h : (pgC K P key m).getD ((pgC K P key m).length - 1) 0 = P.getD m 0
            · exact h
            · exact absurd ⟨Or.inr h, e2⟩ hc
          have := gd_mem (L := pgC K P key m) (i := (pgC K P key m).length - 1) (by omega)
          rw [hl.1, e1] at this
          exact (h2 p).mp this
      · obtain ⟨i, hi, e⟩ := h3 x hx
        exact ⟨i, by omega, e⟩
theorem enE_n {f s : Int} : ∀ n, enE f s n [] = []
  | 0 => rfl
  | _ + 1 => rfl
theorem enE_c {f s p : Int} {n : Nat} {r : List Int} : enE f s (n + 1) (p :: r) = if 2 ≤ rnC p r then [44, 32] ++ wrN (f + p) s ++ [45] ++ wrN (f + (p + (rnC p r : Int))) s ++ enE f s n (r.drop (rnC p r)) else [44, 32] ++ wrN (f + p) s ++ enE f s n r := rfl
/-- more turns than pages change nothing -/
theorem enE_m {f s : Int} : ∀ {n m : Nat} {L : List Int}, L.length ≤ n → L.length ≤ m → enE f s n L = enE f s m L
  | n, m, [], _, _ => by rw [enE_n, enE_n]
  | 0, _, _ :: _, h, _ => absurd h (Nat.not_succ_le_zero _)
  | _ + 1, 0, _ :: _, _, h => absurd h (Nat.not_succ_le_zero _)
  | n + 1, m + 1, p :: r, h1, h2 => by
    have h1 : r.length + 1 ≤ n + 1 := h1
    have h2 : r.length + 1 ≤ m + 1 := h2
    rw [enE_c, enE_c, enE_m (n := n) (m := m) (L := r) (by omega) (by omega), enE_m (n := n) (m := m) (L := r.drop (rnC p r)) (by rw [List.length_drop]; omega) (by rw [List.length_drop]; omega)]
theorem enE_l {f s : Int} : ∀ {n : Nat} {L : List Int}, (enE f s n L).length ≤ 43 * L.length
  | 0, L => Nat.zero_le _
  | _ + 1, [] => Nat.zero_le _
  | n + 1, p :: r => by
    have a1 := wrN_len (n := f + p) (sys := s)
    have a2 := wrN_len (n := f + (p + (rnC p r : Int))) (sys := s)
    rw [enE_c]
    show _ ≤ 43 * (r.length + 1)
    split
    · have := enE_l (f := f) (s := s) (n := n) (L := r.drop (rnC p r))
      rw [List.length_drop] at this
      rw [List.length_append, List.length_append, List.length_append, List.length_append]
      show 2 + _ + 1 + _ + _ ≤ _
      omega
    · have := enE_l (f := f) (s := s) (n := n) (L := r)
      rw [List.length_append, List.length_append]
      show 2 + _ + _ ≤ _
      omega
theorem enE_s {f s : Int} : ∀ {n : Nat} {L : List Int}, smB (enE f s n L)
  | 0, L => fun x hx => absurd hx List.not_mem_nil
  | _ + 1, [] => fun x hx => absurd hx List.not_mem_nil
  | n + 1, p :: r => by
    have a1 := wrN_s (n := f + p) (sys := s)
    have a2 := wrN_s (n := f + (p + (rnC p r : Int))) (sys := s)
    have c1 : smB [44, 32] := by
      intro x hx
      simp only [List.mem_cons, List.not_mem_nil, or_false] at hx
      omega
    have c2 : smB [45] := by
      intro x hx
      rw [List.mem_singleton.mp hx]
      decide
    have ap : ∀ {A B : List Int}, smB A → smB B → smB (A ++ B) := fun {A B} ha hb x hx => by
      rcases List.mem_append.mp hx with h | h
      · exact ha x h
      · exact hb x h
    rw [enE_c]
    split
    · exact ap (ap (ap (ap c1 a1) c2) a2) enE_s
    · exact ap (ap c1 a1) enE_s
theorem enT_s {K : List (List Int)} {P : List Int} {f s : Int} {key : Nat} (hb : ∀ w ∈ K, smB w) (hk : key < K.length) : smB (enT K P f s key) := fun x hx => by
  rcases List.mem_append.mp hx with h | h
  · exact hb _ (kya_mem hk) x h
  · exact enE_s x h
theorem kya_l {K : List (List Int)} {k : Nat} (h : k < K.length) : (kyA K k).length ≤ suM K := by
  have := suM_tk (W := K) (i := k) h
  unfold kyA
  omega
theorem enT_l {K : List (List Int)} {P : List Int} {f s : Int} {key : Nat} (hk : key < K.length) (hKl : K.length ≤ 100) : (enT K P f s key).length ≤ suM K + 4300 := by
  have h1 := kya_l hk
  have h2 := pgC_l (K := K) (P := P) (key := key) K.length
  have h3 := enE_l (f := f) (s := s) (n := (pgC K P key K.length).length) (L := pgC K P key K.length)
  unfold enT
  rw [List.length_append]
  omega
section
variable {σ σ0 : MS} {Q : MQ9} {z' : Nat} {K : List (List Int)} {P : List Int} {f s : Int} {key : Nat}
/-- the keys and their pages, the class -/
def IxC (σ : MS) (z' : Nat) (K : List (List Int)) (P : List Int) : Prop := shR σ (z' + 24) K ∧ mX σ (z' + 29) = P
def IxB (K : List (List Int)) (P : List Int) : Prop := K.length ≤ 100 ∧ P.length = K.length ∧ suM K ≤ 60200 ∧ (∀ w ∈ K, smB w) ∧ True ∧ (∀ x ∈ P, 0 ≤ x ∧ x ≤ 99) ∧ ∀ i j, i ≤ j → j < K.length → P.getD i 0 ≤ P.getD j 0
/-- pages are gathered -/
theorem pue_9 (hz' : z' = 49 ∨ z' = 163) (hI : IxC σ z' K P) (hB : IxB K P) (hk : key < K.length) (hq : Marks_putEntry_127 z' 206 0 (wX (wX σ (z' + 31) (pgC K P key K.length)) (z' + 33) (kyA K key)) Q) : ∀ (n m : Nat), m + n = K.length → Marks_putEntry_9 z' (key : Int) 206 (m : Int) (wX σ (z' + 31) (pgC K P key m)) Q := by
  obtain ⟨b1, b2, b3, b4, b5, b6, b7⟩ := hB
  have im : isMarks z' = true := by rcases hz' with rfl | rfl <;> decide
  have ish : isShelf (z' + 24) = true := by rcases hz' with rfl | rfl <;> decide
  have i25 : isRow (z' + 24 + 1) = true := by rcases hz' with rfl | rfl <;> decide
  have i27 : isRow (z' + 24 + 3) = true := by rcases hz' with rfl | rfl <;> decide
  have i29 : isRow (z' + 29) = true := by rcases hz' with rfl | rfl <;> decide
  have i31 : isRow (z' + 31) = true := by rcases hz' with rfl | rfl <;> decide
  have i33 : isRow (z' + 33) = true := by rcases hz' with rfl | rfl <;> decide
  have ine : neB (z' + 24 + 1) (z' + 33) = true := by rcases hz' with rfl | rfl <;> decide
  have c31 : capOf (z' + 31) = 128 := by rcases hz' with rfl | rfl <;> decide
  have c33 : capOf (z' + 33) = 65536 := by rcases hz' with rfl | rfl <;> decide
  have rk : Rg (key : Int) := by unfold Rg; omega
  have lr : ∀ L : List Int, (mX (wX σ (z' + 31) L) (z' + 24 + 3)).length = K.length := fun L => by rw [wX_ne (by omega), hI.1.2, enS_len]
  intro n
  induction n with
  | zero =>
    intro m hm
    have e : m = K.length := by omega
    subst e
    refine Marks_putEntry_9.i (tB.i im (tB.i ish (Shelf_rows.i (tB.i ish (tB.i i27 ?_)))))
    rw [lr]
    show Rg (K.length : Int) ∧ _
    refine ⟨by unfold Rg; omega, fun _ => ?_, fun h => absurd h (by omega)⟩
    obtain ⟨a1, a2, a3⟩ := hI.1.at hk i25 (by omega)
    have ep := a3.pour (p := 0) (b := (K.getD key []).length) (Nat.zero_le _) (Nat.le_refl _)
    rw [Nat.sub_zero, Nat.add_zero (suM (K.take key))] at ep
    have es : sgT (K.getD key []) 0 (K.getD key []).length = kyA K key := by
      unfold sgT kyA
      rw [List.drop_zero, Nat.sub_zero, List.take_length]
    have kl := kya_l hk
    have kl : (K.getD key []).length ≤ suM K := kl
    rw [wX_self, wX_ne (q' := z' + 24 + 3) (by omega), wX_ne (q' := z' + 24 + 3) (by omega), wX_ne (q' := z' + 24 + 1) (by omega), wX_ne (q' := z' + 24 + 1) (by omega), a1, a2, show ((suM (K.take key) + (K.getD key []).length : Nat) : Int) - ((suM (K.take key) : Nat) : Int) = ((K.getD key []).length : Int) by omega, Int.toNat_natCast, ep, es, List.nil_append, wX_wX]
    exact tB.i im (tB.i i33 (tB.i i33 (tB.i im (tB.i im (tB.i ish (tB.i im (tB.i ish (tB.i ish ⟨rk, tB.i im (tB.i ish (tB.i ish ⟨rk, tB.i i33 (tB.i i33 (tB.i i25 (tB.i ine ⟨by rw [List.length_nil, c33]; omega, hq⟩)))⟩))⟩))))))))
  | succ n ih =>
    intro m hm
    have hml : m < K.length := by omega
    have eP : rgt (mX (wX σ (z' + 31) (pgC K P key m)) (z' + 29)) (m : Int) = P.getD m 0 := by
      rw [wX_ne (by omega), hI.2]
      exact rgt_n (by omega)
    have pl := pgC_l (K := K) (P := P) (key := key) m
    have nx := ih (m + 1) (by omega)
    rw [show ((m + 1 : Nat) : Int) = (m : Int) + 1 by omega] at nx
    have keep : pgC K P key (m + 1) = pgC K P key m → Marks_putEntry_79 z' (key : Int) 206 (m : Int) (wX σ (z' + 31) (pgC K P key m)) Q := fun e => by
      rw [e] at nx
      exact Marks_putEntry_79.i nx
    have hK1 : shR (wX σ (z' + 31) (pgC K P key m)) (z' + 24) K := hI.1.cg (wX_ne (by omega)) (wX_ne (by omega))
    have p61 : ((pgC K P key m).length = 0 ∨ ¬ (pgC K P key m).getD ((pgC K P key m).length - 1) 0 = P.getD m 0) → Marks_putEntry_61 z' (key : Int) 206 (m : Int) (P.getD m 0) (wX σ (z' + 31) (pgC K P key m)) Q := fun h1 => by
      refine Marks_putEntry_61.i (tB.i im (Marks_compareKeys.c hz' hK1 (by omega) b4 b1 hml hk ?_))
      show (¬ cpK (kyA K m) (kyA K key) = 0 → _) ∧ (cpK (kyA K m) (kyA K key) = 0 → _)
      refine ⟨fun h => keep ?_, fun h => tB.i im (tB.i i31 (tB.i i31 ⟨?_, ?_⟩))⟩
      · conv => lhs; unfold pgC
        rw [if_neg (fun h9 => h h9.2)]
      · rw [wX_self, c31]
        omega
      · rw [wX_self, wX_wX]
        refine Marks_putEntry_79.i ?_
        have e : pgC K P key (m + 1) = pgC K P key m ++ [P.getD m 0] := by
          conv => lhs; unfold pgC
          rw [if_pos ⟨h1, h⟩]
        rw [e] at nx
        exact nx
    refine Marks_putEntry_9.i (tB.i im (tB.i ish (Shelf_rows.i (tB.i ish (tB.i i27 ?_)))))
    rw [lr]
    show Rg (m : Int) ∧ _
    refine ⟨by unfold Rg; omega, fun h => absurd h (by omega), fun _ => ?_⟩
    rw [eP, wX_self]
    refine tB.i im (tB.i i29 (tB.i i29 ⟨by unfold Rg; omega, tB.i im (tB.i i31 ⟨fun h => p61 (Or.inl (by omega)), fun h => ?_⟩)⟩))
    rw [show ((pgC K P key m).length : Int) - 1 = (((pgC K P key m).length - 1 : Nat) : Int) by omega, rgt_n (by omega)]
    refine tB.i im (tB.i im (tB.i i31 (tB.i i31 (tB.i i31 ⟨by unfold Rg; omega, fun h2 => keep ?_, fun h2 => p61 (Or.inr h2)⟩))))
    conv => lhs; unfold pgC
    rw [if_neg (fun h9 => by
      rcases h9.1 with h | h
      · omega
      · exact h h2)]
end
