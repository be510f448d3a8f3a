/-! INDEX: the order of keys -/
def kyA (K : List (List Int)) (x : Nat) : List Int := K.getD x []
def orP (K : List (List Int)) (k : Nat) : List Nat → List Nat
  | [] => [k]
  | x :: r => if cpK (kyA K x) (kyA K k) < 0 then x :: orP K k r else if cpK (kyA K x) (kyA K k) = 0 then x :: r else k :: x :: r
def orD (K : List (List Int)) : Nat → List Nat
  | 0 => []
  | n + 1 => orP K n (orD K n)
def kR (K : List (List Int)) (x y : Nat) : Prop := kLt (kyA K x) (kyA K y)
/-- the first n keys, each once, in order, by the first of its like -/
def OrS (K : List (List Int)) (n : Nat) (O : List Nat) : Prop := O.Pairwise (kR K) ∧ (∀ x ∈ O, x < n ∧ ∀ m, m < x → kyA K m ≠ kyA K x) ∧ ∀ m, m < n → ∃ x ∈ O, kyA K x = kyA K m
theorem orP_m {K : List (List Int)} {k : Nat} : ∀ {O : List Nat} {x : Nat}, x ∈ orP K k O → x = k ∨ x ∈ O
  | [], x, h => Or.inl (List.mem_singleton.mp h)
  | y :: r, x, h => by
    unfold orP at h
    split at h
    · rcases List.mem_cons.mp h with e | e
      · exact Or.inr (by rw [e]; exact List.mem_cons_self)
      · rcases orP_m e with e | e
        · exact Or.inl e
        · exact Or.inr (List.mem_cons_of_mem _ e)
    · split at h
      · exact Or.inr h
      · rcases List.mem_cons.mp h with e | e
        · exact Or.inl e
        · exact Or.inr e
theorem orP_o {K : List (List Int)} {k : Nat} : ∀ {O : List Nat} {x : Nat}, x ∈ O → x ∈ orP K k O
  | [], x, h => absurd h List.not_mem_nil
  | y :: r, x, h => by
    unfold orP
    split
    · rcases List.mem_cons.mp h with e | e
      · rw [e]
        exact List.mem_cons_self
      · exact List.mem_cons_of_mem _ (orP_o e)
    · split
      · exact h
      · exact List.mem_cons_of_mem _ h
theorem orP_k {K : List (List Int)} {k : Nat} : ∀ {O : List Nat}, ∃ x ∈ orP K k O, kyA K x = kyA K k
  | [] => ⟨k, List.mem_singleton.mpr rfl, rfl⟩
  | y :: r => by
    unfold orP
    split
    · obtain ⟨x, h1, h2⟩ := orP_k (K := K) (k := k) (O := r)
      exact ⟨x, List.mem_cons_of_mem _ h1, h2⟩
    · split
      · rename_i h
        exact ⟨y, List.mem_cons_self, cpK_0.mp h⟩
      · exact ⟨k, List.mem_cons_self, rfl⟩
theorem orP_w {K : List (List Int)} {k : Nat} : ∀ {O : List Nat}, O.Pairwise (kR K) → (orP K k O).Pairwise (kR K)
  | [], _ => List.pairwise_singleton _ _
  | y :: r, h => by
    obtain ⟨h1, h2⟩ := List.pairwise_cons.mp h
    unfold orP
    split
    · rename_i hl
      refine List.pairwise_cons.mpr ⟨fun a ha => ?_, orP_w h2⟩
      rcases orP_m ha with e | e
      · rw [e]
        exact cpK_l.mp hl
      · exact h1 a e
    · rename_i hl
      split
      · exact h
      · rename_i h0
        have hg : kR K k y := cpK_g.mp (by omega)
        refine List.pairwise_cons.mpr ⟨fun a ha => ?_, h⟩
        rcases List.mem_cons.mp ha with e | e
        · rw [e]
          exact hg
        · exact kLt_tr hg (h1 a e)
theorem orP_e {K : List (List Int)} {k x : Nat} : ∀ {O : List Nat}, O.Pairwise (kR K) → x ∈ O → kyA K x = kyA K k → orP K k O = O
  | [], _, h, _ => absurd h List.not_mem_nil
  | y :: r, hp, h, e => by
    obtain ⟨h1, h2⟩ := List.pairwise_cons.mp hp
    unfold orP
    rcases List.mem_cons.mp h with e1 | e1
    · have e0 : cpK (kyA K y) (kyA K k) = 0 := cpK_0.mpr (by rw [← e1]; exact e)
      rw [if_neg (by omega), if_pos e0]
    · have : kR K y x := h1 x e1
      unfold kR at this
      rw [e] at this
      rw [if_pos (cpK_l.mpr this), orP_e h2 e1 e]
theorem OrS.st {K : List (List Int)} {n : Nat} {O : List Nat} (h : OrS K n O) : OrS K (n + 1) (orP K n O) := by
  obtain ⟨h1, h2, h3⟩ := h
  refine ⟨orP_w h1, fun x hx => ?_, fun m hm => ?_⟩
  · rcases orP_m hx with e | e
    · subst e
      refine ⟨by omega, fun m hm e => ?_⟩
      obtain ⟨y, hy, ey⟩ := h3 m hm
      rw [orP_e h1 hy (ey.trans e)] at hx
      exact absurd (h2 _ hx).1 (Nat.lt_irrefl _)
    · exact ⟨by have := (h2 x e).1; omega, (h2 x e).2⟩
  · by_cases e : m = n
    · rw [e]
      exact orP_k
    · obtain ⟨y, hy, ey⟩ := h3 m (by omega)
      exact ⟨y, orP_o hy, ey⟩
theorem orD_s {K : List (List Int)} : ∀ n, OrS K n (orD K n)
  | 0 => ⟨List.Pairwise.nil, fun x hx => absurd hx List.not_mem_nil, fun m hm => absurd hm (Nat.not_lt_zero _)⟩
  | n + 1 => (orD_s n).st
theorem orP_l {K : List (List Int)} {k : Nat} : ∀ {O : List Nat}, (orP K k O).length ≤ O.length + 1
  | [] => Nat.le_refl _
  | y :: r => by
    unfold orP
    split
    · have := orP_l (K := K) (k := k) (O := r)
      show (orP K k r).length + 1 ≤ r.length + 1 + 1
      omega
    · split
      · show r.length + 1 ≤ r.length + 1 + 1
        omega
      · exact Nat.le_refl _
theorem orD_l {K : List (List Int)} : ∀ n, (orD K n).length ≤ n
  | 0 => Nat.le_refl _
  | n + 1 => Nat.le_trans orP_l (by have := orD_l (K := K) n; omega)
/-- where a key is put -/
theorem orP_at {K : List (List Int)} {k : Nat} : ∀ {O : List Nat} {p : Nat}, p ≤ O.length → (∀ i, i < p → cpK (kyA K (O.getD i 0)) (kyA K k) < 0) → (p < O.length → ¬ cpK (kyA K (O.getD p 0)) (kyA K k) < 0) → orP K k O = if p < O.length ∧ cpK (kyA K (O.getD p 0)) (kyA K k) = 0 then O else O.take p ++ k :: O.drop p
  | [], p, h, _, _ => by
    have e : p = 0 := Nat.le_zero.mp h
    subst e
    rfl
  | y :: r, 0, _, _, h3 => by
    have h3 := h3 (Nat.succ_pos _)
    have h3 : ¬ cpK (kyA K y) (kyA K k) < 0 := h3
    unfold orP
    rw [if_neg h3]
    by_cases e : cpK (kyA K y) (kyA K k) = 0
    · rw [if_pos e, if_pos ⟨Nat.succ_pos _, e⟩]
    · rw [if_neg e, if_neg (fun h => e h.2)]
      rfl
  | y :: r, p + 1, h, h2, h3 => by
    have e0 : cpK (kyA K y) (kyA K k) < 0 := h2 0 (Nat.succ_pos _)
    have ih := orP_at (K := K) (k := k) (O := r) (p := p) (Nat.le_of_succ_le_succ h) (fun i hi => h2 (i + 1) (by omega)) (fun hp => h3 (Nat.succ_lt_succ hp))
    unfold orP
    rw [if_pos e0, ih]
    show y :: (if p < r.length ∧ cpK (kyA K (r.getD p 0)) (kyA K k) = 0 then r else r.take p ++ k :: r.drop p) = if p + 1 < r.length + 1 ∧ cpK (kyA K (r.getD p 0)) (kyA K k) = 0 then y :: r else y :: (r.take p ++ k :: r.drop p)
    by_cases c : p < r.length ∧ cpK (kyA K (r.getD p 0)) (kyA K k) = 0
    · rw [if_pos c, if_pos ⟨by omega, c.2⟩]
    · rw [if_neg c, if_neg (fun h => c ⟨by omega, h.2⟩)]
def natZ (O : List Nat) : List Int := O.map (fun (x : Nat) => (x : Int))
theorem natZ_l {O : List Nat} : (natZ O).length = O.length := List.length_map ..
theorem natZ_at {O : List Nat} {i : Nat} (h : i < O.length) : rgt (natZ O) (i : Int) = (O.getD i 0 : Int) := by
  rw [rgt_n (by rw [natZ_l]; exact h)]
  unfold natZ List.getD
  rw [List.getElem?_map, List.getElem?_eq_getElem h]
  rfl
section
variable {σ σ0 : MS} {Q : MQ9} {z' : Nat} {K : List (List Int)}
theorem ralt_t {L : List Int} {i : Nat} {v w : Int} (h : i ≤ L.length) : ralt (L.take i ++ v :: L.drop i) (i : Int) w = L.take i ++ w :: L.drop i := by
  have l : (L.take i).length = i := by rw [List.length_take]; omega
  unfold ralt
  rw [if_pos ⟨by omega, by rw [List.length_append, List.length_cons]; omega⟩, Int.toNat_natCast, List.set_append_right _ _ (by omega), l, Nat.sub_self]
  rfl
/-- room is made -/
theorem ord_80 {L : List Int} {k p : Nat} (hL : L.length ≤ 101) (hk : k ≤ 1000) (hp : p ≤ L.length) (hq : Marks_order_112 z' 208 (k : Int) (wX σ0 208 (L.take p ++ (k : Int) :: L.drop p)) Q) : ∀ (n i : Nat) (v : Int), i = p + n → i ≤ L.length → Marks_order_80 z' 208 (k : Int) (p : Int) (i : Int) (wX σ0 208 (L.take i ++ v :: L.drop i)) Q := by
  intro n
  induction n with
  | zero =>
    intro i v hi hl
    have e : i = p := by omega
    subst e
    refine Marks_order_80.i ⟨by unfold Rg; omega, by unfold Rg; omega, fun _ => tB.i (by decide) (tB.i (by decide) ⟨by unfold Rg; omega, by unfold Rg; omega, ?_⟩), fun h => absurd h (by omega)⟩
    rw [wX_self, ralt_t hl, wX_wX]
    exact hq
  | succ n ih =>
    intro i v hi hl
    have l1 : (L.take i).length = i := by rw [List.length_take]; omega
    have e1 : rgt (L.take i ++ v :: L.drop i) ((i : Int) - 1) = L.getD (i - 1) 0 := by
      rw [show (i : Int) - 1 = ((i - 1 : Nat) : Int) by omega, rgt_n (by rw [List.length_append, List.length_cons]; omega)]
      unfold List.getD
      rw [List.getElem?_append_left (by omega), List.getElem?_take_of_lt (by omega)]
    refine Marks_order_80.i ⟨by unfold Rg; omega, by unfold Rg; omega, fun h => absurd h (by omega), fun _ => tB.i (by decide) (tB.i (by decide) ⟨by unfold Rg; omega, tB.i (by decide) (tB.i (by decide) ⟨by unfold Rg; omega, ?_⟩)⟩)⟩
    rw [wX_self, e1, ralt_t hl, wX_wX, show (i : Int) + (-1) = ((i - 1 : Nat) : Int) by omega]
    have e2 : L.take i ++ L.getD (i - 1) 0 :: L.drop i = L.take (i - 1) ++ L.getD (i - 1) 0 :: L.drop (i - 1) := by
      have a1 : L.take i = L.take (i - 1) ++ [L.getD (i - 1) 0] := by
        have : L.take (i - 1 + 1) = L.take (i - 1) ++ [L.getD (i - 1) 0] := by
          rw [List.take_add_one]
          unfold List.getD
          rw [List.getElem?_eq_getElem (by omega)]
          rfl
        rw [show i - 1 + 1 = i by omega] at this
        exact this
      have a2 : L.drop (i - 1) = L.getD (i - 1) 0 :: L.drop i := by
        rw [List.drop_eq_getElem_cons (by omega), show i - 1 + 1 = i by omega]
        unfold List.getD
        rw [List.getElem?_eq_getElem (by omega)]
        rfl
      rw [a2, a1, List.append_assoc]
      rfl
    rw [e2]
    exact ih (i - 1) _ (by omega) (by omega)
/-- one key finds its place -/
theorem ord_19 {k : Nat} {O : List Nat} (hz' : z' = 49 ∨ z' = 163) (hK : shR σ0 (z' + 24) K) (hs : suM K ≤ 65536) (hb : ∀ w ∈ K, smB w) (hKl : K.length ≤ 100) (hk : k < K.length) (hO : ∀ x ∈ O, x < k) (hOl : O.length ≤ k) (hq : Marks_order_112 z' 208 (k : Int) (wX σ0 208 (natZ (orP K k O))) Q) : ∀ (n p : Nat), p + n = O.length → (∀ i, i < p → cpK (kyA K (O.getD i 0)) (kyA K k) < 0) → Marks_order_19 z' 208 (k : Int) (p : Int) (wX σ0 208 (natZ O)) Q := by
  have im : isMarks z' = true := by rcases hz' with rfl | rfl <;> decide
  have hK1 : shR (wX σ0 208 (natZ O)) (z' + 24) K := hK.cg (wX_ne (by omega)) (wX_ne (by omega))
  have lz := natZ_l (O := O)
  have c128 : capOf 208 = 128 := by decide
  have ins : ∀ p, p ≤ O.length → orP K k O = O.take p ++ k :: O.drop p → Marks_order_67 z' 208 (k : Int) (p : Int) (wX σ0 208 (natZ O)) Q := fun p hp e => by
    refine Marks_order_67.i (tB.i (by decide) (tB.i (by decide) ⟨by unfold Rg; omega, ?_, tB.i (by decide) ?_⟩))
    · rw [wX_self, lz, c128]
      omega
    · rw [wX_self, wX_self, wX_wX, List.length_append]
      have := ord_80 (Q := Q) (z' := z') (σ0 := σ0) (L := natZ O) (k := k) (p := p) (by omega) (by omega) (by omega) (by
        have e2 : natZ (orP K k O) = (natZ O).take p ++ (k : Int) :: (natZ O).drop p := by
          rw [e]
          unfold natZ
          rw [List.map_append, List.map_cons, List.map_take, List.map_drop]
        rw [← e2]
        exact hq) (O.length - p) (natZ O).length (k : Int) (by omega) (Nat.le_refl _)
      rw [List.take_length, List.drop_length] at this
      have e3 : (((natZ O).length + [(k : Int)].length : Nat) : Int) - 1 = ((natZ O).length : Int) := by
        show (((natZ O).length + 1 : Nat) : Int) - 1 = _
        omega
      rw [e3]
      exact this
  have cmp : ∀ (p : Nat) (Q' : MQ9), p < O.length → Q' (.inl (some (cpK (kyA K (O.getD p 0)) (kyA K k)))) (wX σ0 208 (natZ O)) → Marks_compareKeys z' (rgt (mX (wX σ0 208 (natZ O)) 208) (p : Int)) (k : Int) (wX σ0 208 (natZ O)) Q' := fun p Q' hp h => by
    have hm : O.getD p 0 < k := hO _ (by
      unfold List.getD
      rw [List.getElem?_eq_getElem hp, Option.getD_some]
      exact List.getElem_mem _)
    rw [wX_self, natZ_at hp]
    exact Marks_compareKeys.c hz' hK1 hs hb hKl (by omega) hk h
  have p46 : ∀ p, p ≤ O.length → (∀ i, i < p → cpK (kyA K (O.getD i 0)) (kyA K k) < 0) → (p < O.length → ¬ cpK (kyA K (O.getD p 0)) (kyA K k) < 0) → Marks_order_46 z' 208 (k : Int) (p : Int) (wX σ0 208 (natZ O)) Q := fun p hp h1 h2 => by
    have e := orP_at hp h1 h2
    refine Marks_order_46.i (tB.i (by decide) ?_)
    rw [show (mX (wX σ0 208 (natZ O)) 208).length = O.length by rw [wX_self]; exact lz]
    refine ⟨by unfold Rg; omega, fun h => ?_, fun h => tB.i (by decide) (tB.i (by decide) ⟨by unfold Rg; omega, tB.i im (cmp p _ (by omega) ?_)⟩)⟩
    · refine ins p hp ?_
      rw [e, if_neg (fun h9 => by omega)]
    · show (cpK (kyA K (O.getD p 0)) (kyA K k) = 0 → Marks_order_112 z' 208 (k : Int) (wX σ0 208 (natZ O)) Q) ∧ (¬ cpK (kyA K (O.getD p 0)) (kyA K k) = 0 → Marks_order_67 z' 208 (k : Int) (p : Int) (wX σ0 208 (natZ O)) Q)
      refine ⟨fun h0 => ?_, fun h0 => ins p hp ?_⟩
      · rw [if_pos ⟨by omega, h0⟩] at e
        rw [e] at hq
        exact hq
      · rw [e, if_neg (fun h9 => h0 h9.2)]
  intro n
  induction n with
  | zero =>
    intro p hp h1
    refine Marks_order_19.i (tB.i (by decide) ?_)
    rw [show (mX (wX σ0 208 (natZ O)) 208).length = O.length by rw [wX_self]; exact lz]
    exact ⟨by unfold Rg; omega, fun _ => p46 p (by omega) h1 (fun h => absurd h (by omega)), fun h => absurd h (by omega)⟩
  | succ n ih =>
    intro p hp h1
    refine Marks_order_19.i (tB.i (by decide) ?_)
    rw [show (mX (wX σ0 208 (natZ O)) 208).length = O.length by rw [wX_self]; exact lz]
    refine ⟨by unfold Rg; omega, fun h => absurd h (by omega), fun _ => tB.i (by decide) (tB.i (by decide) ⟨by unfold Rg; omega, tB.i im (cmp p _ (by omega) ?_)⟩)⟩
    show (0 ≤ cpK (kyA K (O.getD p 0)) (kyA K k) → Marks_order_46 z' 208 (k : Int) (p : Int) (wX σ0 208 (natZ O)) Q) ∧ (cpK (kyA K (O.getD p 0)) (kyA K k) < 0 → Marks_order_19 z' 208 (k : Int) ((p : Int) + 1) (wX σ0 208 (natZ O)) Q)
    refine ⟨fun h => p46 p (by omega) h1 (fun _ => by omega), fun h => ?_⟩
    rw [show (p : Int) + 1 = ((p + 1 : Nat) : Int) by omega]
    refine ih (p + 1) (by omega) (fun i hi => ?_)
    by_cases e : i = p
    · rw [e]
      exact h
    · exact h1 i (by omega)
/-- the keys in order, the class -/
theorem Marks_order.c (hz' : z' = 49 ∨ z' = 163) (hK : shR σ (z' + 24) K) (hs : suM K ≤ 65536) (hb : ∀ w ∈ K, smB w) (hKl : K.length ≤ 100) (hq : Q (.inl none) (wX σ 208 (natZ (orD K K.length)))) : Marks_order z' 208 σ Q := by
  have im : isMarks z' = true := by rcases hz' with rfl | rfl <;> decide
  have ish : isShelf (z' + 24) = true := by rcases hz' with rfl | rfl <;> decide
  have i27 : isRow (z' + 24 + 3) = true := by rcases hz' with rfl | rfl <;> decide
  have lr : ∀ L : List Int, (mX (wX σ 208 L) (z' + 24 + 3)).length = K.length := fun L => by rw [wX_ne (by omega), hK.2, enS_len]
  have key : ∀ (n k : Nat), k + n = K.length → Marks_order_6 z' 208 (k : Int) (wX σ 208 (natZ (orD K k))) Q := by
    intro n
    induction n with
    | zero =>
      intro k hk
      refine Marks_order_6.i (tB.i im (tB.i ish (Shelf_rows.i (tB.i ish (tB.i i27 ?_)))))
      rw [lr]
      show Rg (k : Int) ∧ _
      rw [show k = K.length by omega]
      exact ⟨by unfold Rg; omega, fun _ => hq, fun h => absurd h (by omega)⟩
    | succ n ih =>
      intro k hk
      refine Marks_order_6.i (tB.i im (tB.i ish (Shelf_rows.i (tB.i ish (tB.i i27 ?_)))))
      rw [lr]
      show Rg (k : Int) ∧ _
      refine ⟨by unfold Rg; omega, fun h => absurd h (by omega), fun _ => ?_⟩
      have os := orD_s (K := K) k
      refine ord_19 (σ0 := σ) (K := K) hz' hK hs hb hKl (by omega) (fun x hx => (os.2.1 x hx).1) (orD_l k) (Marks_order_112.i ?_) (orD K k).length 0 (by omega) (fun i hi => absurd hi (Nat.not_lt_zero _))
      rw [show (k : Int) + 1 = ((k + 1 : Nat) : Int) by omega]
      exact ih (k + 1) (by omega)
  exact Marks_order.i (tB.i (by decide) (tB.i (by decide) (key K.length 0 (by omega))))
end
