/-! MARKS GO TO THEIR LINES: the class; blocks begin -/
/-- the first sign but blanks -/
def foN : List Int → Nat
  | [] => 0
  | c :: r => if c % 128 = 32 then foN r + 1 else 0
def foP (U : List Int) : Int := if foN U < U.length then (foN U : Int) else -1
theorem foN_l : ∀ (U : List Int), foN U ≤ U.length
  | [] => Nat.le_refl _
  | c :: r => by
    have := foN_l r
    show (if c % 128 = 32 then foN r + 1 else 0) ≤ r.length + 1
    split <;> omega
/-- where a mark comes to lie in the flow -/
def crF (solid : Int) (first : Nat) (X : List (Nat × Nat × Bool)) (p : Int) : Int := ((first + lnO (if p = -1 then solid else p) X : Nat) : Int)
def crL (n : Nat) (f : Int → Int) (V : List Int) : List Int := V.take n ++ (V.drop n).map f
theorem lnO_l {p : Int} : ∀ (X : List (Nat × Nat × Bool)), lnO p X ≤ X.length
  | [] => Nat.le_refl _
  | x :: r => by
    have := lnO_l (p := p) r
    show (if r.isEmpty = false ∧ (x.2.1 : Int) ≤ p then lnO p r + 1 else 0) ≤ r.length + 1
    split <;> omega
theorem ralt_at {p r : List Int} {x v : Int} : ralt (p ++ x :: r) (p.length : Int) v = p ++ v :: r := by
  unfold ralt
  rw [if_pos ⟨by omega, by rw [List.length_append, List.length_cons]; omega⟩, Int.toNat_natCast, List.set_append_right _ _ (Nat.le_refl _), Nat.sub_self]
  rfl
section
variable {σ σ0 : MS} {Q : MQ9} {U : List Int} {X : List (Nat × Nat × Bool)} {z first : Nat}
theorem Texts_firstSolid.c (hU : mX σ 87 = U) (hU6 : U.length ≤ 70000) (hq : Q (.inl (some (foP U))) σ) : Texts_firstSolid σ Q := by
  have key : ∀ (r p : List Int), U = p ++ r → p.length + foN r = foN U → Texts_firstSolid_2 (p.length : Int) σ Q := by
    intro r
    induction r with
    | nil =>
      intro p he h
      have h2 : U.length = p.length := by rw [he, List.append_nil]
      have h3 : p.length + 0 = foN U := h
      refine Texts_firstSolid_2.i ⟨by unfold Rg; omega, fun _ => ?_, fun h9 => absurd h9 (by rw [hU]; omega)⟩
      unfold foP at hq
      rw [if_neg (by omega)] at hq
      exact hq
    | cons c r ih =>
      intro p he h
      have h2 : U.length = p.length + (r.length + 1) := by rw [he, List.length_append, List.length_cons]
      refine Texts_firstSolid_2.i ⟨by unfold Rg; omega, fun h9 => absurd h9 (by rw [hU]; omega), fun _ => ⟨by unfold Rg; omega, ?_⟩⟩
      rw [hU, rgt_at he]
      refine ⟨fun h9 => ?_, fun h9 => ⟨by unfold Rg; omega, ?_⟩⟩
      · have e : foN (c :: r) = foN r + 1 := if_pos h9
        rw [e] at h
        have := ih (p ++ [c]) (by rw [List.append_assoc]; exact he) (by rw [List.length_append]; show p.length + 1 + _ = _; omega)
        rw [List.length_append] at this
        exact this
      · have e : foN (c :: r) = 0 := if_neg h9
        rw [e] at h
        unfold foP at hq
        rw [if_pos (by omega), ← h, Nat.add_zero] at hq
        exact hq
  exact Texts_firstSolid.i (key U [] rfl (Nat.zero_add _))
theorem mk_z (hz : z = 49 ∨ z = 163) : isMarks z = true ∧ isRow (z + 11) = true ∧ isRow (z + 29) = true := by
  rcases hz with rfl | rfl <;> decide +kernel
theorem car_81 {l4 : Int} {n : Nat} (hz : z = 49 ∨ z = 163) (hB : mB σ0 0 = z) (hf9 : first ≤ 10000) (hX6 : X.length ≤ 65536) (hX : ∀ x ∈ X, x.2.1 ≤ 70000) (h114 : mX σ0 114 = lnB 0 X) (hl4 : Rg l4) {V : List Int} (hV : V.length ≤ 1000) (hVr : ∀ v ∈ V, Rg v) (hn : n ≤ V.length) (hq : Q (.inl none) (wX σ0 (z + 29) (crL n (crF l4 first X) V))) : ∀ (r p : List Int), V = V.take n ++ (p ++ r) → Setter_carry_81 (first : Int) l4 ((n + p.length : Nat) : Int) (wX σ0 (z + 29) (V.take n ++ (p.map (crF l4 first X) ++ r))) Q := by
  obtain ⟨z1, z2, z3⟩ := mk_z hz
  have lt : (V.take n).length = n := by rw [List.length_take]; omega
  intro r
  induction r with
  | nil =>
    intro p he
    have hl : V.length = n + p.length := by
      have := congrArg List.length he
      rw [List.length_append, List.length_append, List.length_nil, lt] at this
      omega
    have e0 : V.take n ++ (p.map (crF l4 first X) ++ []) = crL n (crF l4 first X) V := by
      unfold crL
      rw [List.append_nil]
      congr 2
      rw [List.append_nil] at he
      have h1 : V.take n ++ V.drop n = V.take n ++ p := by rw [List.take_append_drop]; exact he
      exact (List.append_cancel_left h1).symm
    refine Setter_carry_81.i ?_
    rw [show mB (wX σ0 (z + 29) (V.take n ++ (p.map (crF l4 first X) ++ []))) 0 = z from hB, wX_self]
    refine tB.i z1 (tB.i z3 ⟨by unfold Rg; omega, fun _ => ?_, fun h9 => absurd h9 ?_⟩)
    · rw [e0]
      exact hq
    · rw [List.length_append, List.length_append, List.length_map, lt]
      show ¬ _ < ((_ + (_ + 0) : Nat) : Int)
      omega
  | cons x r ih =>
    intro p he
    have hl : V.length = n + (p.length + (r.length + 1)) := by
      have := congrArg List.length he
      rw [List.length_append, List.length_append, List.length_cons, lt] at this
      omega
    have hx : Rg x := hVr x (by rw [he]; exact List.mem_append_right _ (List.mem_append_right _ List.mem_cons_self))
    have e1 : V.take n ++ (p.map (crF l4 first X) ++ x :: r) = (V.take n ++ p.map (crF l4 first X)) ++ x :: r := by rw [List.append_assoc]
    have e2 : ((n + p.length : Nat) : Int) = (((V.take n ++ p.map (crF l4 first X)).length : Nat) : Int) := by
      rw [List.length_append, List.length_map, lt]
    have xat : rgt (V.take n ++ (p.map (crF l4 first X) ++ x :: r)) ((n + p.length : Nat) : Int) = x := by
      rw [e1, e2]
      exact rgt_at rfl
    refine Setter_carry_81.i ?_
    rw [show mB (wX σ0 (z + 29) (V.take n ++ (p.map (crF l4 first X) ++ x :: r))) 0 = z from hB, wX_self, xat]
    have go : ∀ s4 : Int, Rg s4 → s4 = (if x = -1 then l4 else x) → Setter_carry_134 (first : Int) l4 ((n + p.length : Nat) : Int) (z + 29) ((n + p.length : Nat) : Int) (first : Int) s4 (wX σ0 (z + 29) (V.take n ++ (p.map (crF l4 first X) ++ x :: r))) Q := fun s4 hr hs => by
      refine Setter_carry_134.i (Setter_lineOf.c (x0 := 0) hr hX6 (by decide) hX (by rw [wX_ne (by omega)]; exact h114) ?_)
      show tB (isRow (z + 29)) _
      have ll := lnO_l (p := s4 - ((0 : Nat) : Int)) X
      refine tB.i z3 (tB.i z3 ⟨by unfold Rg; omega, by unfold Rg; omega, ?_⟩)
      rw [wX_self, wX_wX, e1, e2, ralt_at]
      have := ih (p ++ [x]) (by rw [List.append_assoc]; exact he)
      rw [List.length_append, List.map_append, List.append_assoc] at this
      have e3 : (first : Int) + ((lnO (s4 - ((0 : Nat) : Int)) X : Nat) : Int) = crF l4 first X x := by
        unfold crF
        rw [← hs, show s4 - ((0 : Nat) : Int) = s4 by omega]
        omega
      rw [e3, List.append_assoc, show (((V.take n ++ p.map (crF l4 first X)).length : Nat) : Int) + 1 = ((n + (p.length + [x].length) : Nat) : Int) by
        rw [← e2]
        show _ = ((n + (p.length + 1) : Nat) : Int)
        omega]
      exact this
    refine tB.i z1 (tB.i z3 ⟨by unfold Rg; omega, fun h9 => absurd h9 ?_, fun _ => tB.i z1 (tB.i z3 (tB.i z3 ⟨by unfold Rg; omega, tB.i z1 ⟨fun h9 => go x hx (if_neg h9).symm, fun h9 => go l4 hl4 (if_pos h9).symm⟩⟩))⟩)
    rw [List.length_append, List.length_append, List.length_map, lt, List.length_cons]
    omega
theorem car_12 {l4 : Int} {n m : Nat} (hz : z = 49 ∨ z = 163) (hB : mB σ0 0 = z) (hf9 : first ≤ 10000) (hX6 : X.length ≤ 65536) (hX : ∀ x ∈ X, x.2.1 ≤ 70000) (h114 : mX σ0 114 = lnB 0 X) (hl4 : Rg l4) {V : List Int} (hV : V.length ≤ 1000) (hVr : ∀ v ∈ V, Rg v) (hn : n ≤ V.length) (hq : Setter_carry_81 (first : Int) l4 (m : Int) (wX σ0 (z + 11) (crL n (crF l4 first X) V)) Q) : ∀ (r p : List Int), V = V.take n ++ (p ++ r) → Setter_carry_12 (first : Int) (m : Int) l4 ((n + p.length : Nat) : Int) (wX σ0 (z + 11) (V.take n ++ (p.map (crF l4 first X) ++ r))) Q := by
  obtain ⟨z1, z3, z2⟩ := mk_z hz
  have lt : (V.take n).length = n := by rw [List.length_take]; omega
  intro r
  induction r with
  | nil =>
    intro p he
    have hl : V.length = n + p.length := by
      have := congrArg List.length he
      rw [List.length_append, List.length_append, List.length_nil, lt] at this
      omega
    have e0 : V.take n ++ (p.map (crF l4 first X) ++ []) = crL n (crF l4 first X) V := by
      unfold crL
      rw [List.append_nil]
      congr 2
      rw [List.append_nil] at he
      have h1 : V.take n ++ V.drop n = V.take n ++ p := by rw [List.take_append_drop]; exact he
      exact (List.append_cancel_left h1).symm
    refine Setter_carry_12.i ?_
    rw [show mB (wX σ0 (z + 11) (V.take n ++ (p.map (crF l4 first X) ++ []))) 0 = z from hB, wX_self]
    refine tB.i z1 (tB.i z3 ⟨by unfold Rg; omega, fun _ => ?_, fun h9 => absurd h9 ?_⟩)
    · rw [e0]
      exact hq
    · rw [List.length_append, List.length_append, List.length_map, lt]
      show ¬ _ < ((_ + (_ + 0) : Nat) : Int)
      omega
  | cons x r ih =>
    intro p he
    have hl : V.length = n + (p.length + (r.length + 1)) := by
      have := congrArg List.length he
      rw [List.length_append, List.length_append, List.length_cons, lt] at this
      omega
    have hx : Rg x := hVr x (by rw [he]; exact List.mem_append_right _ (List.mem_append_right _ List.mem_cons_self))
    have e1 : V.take n ++ (p.map (crF l4 first X) ++ x :: r) = (V.take n ++ p.map (crF l4 first X)) ++ x :: r := by rw [List.append_assoc]
    have e2 : ((n + p.length : Nat) : Int) = (((V.take n ++ p.map (crF l4 first X)).length : Nat) : Int) := by
      rw [List.length_append, List.length_map, lt]
    have xat : rgt (V.take n ++ (p.map (crF l4 first X) ++ x :: r)) ((n + p.length : Nat) : Int) = x := by
      rw [e1, e2]
      exact rgt_at rfl
    refine Setter_carry_12.i ?_
    rw [show mB (wX σ0 (z + 11) (V.take n ++ (p.map (crF l4 first X) ++ x :: r))) 0 = z from hB, wX_self, xat]
    have go : ∀ s4 : Int, Rg s4 → s4 = (if x = -1 then l4 else x) → Setter_carry_65 (first : Int) (m : Int) l4 ((n + p.length : Nat) : Int) (z + 11) ((n + p.length : Nat) : Int) (first : Int) s4 (wX σ0 (z + 11) (V.take n ++ (p.map (crF l4 first X) ++ x :: r))) Q := fun s4 hr hs => by
      refine Setter_carry_65.i (Setter_lineOf.c (x0 := 0) hr hX6 (by decide) hX (by rw [wX_ne (by omega)]; exact h114) ?_)
      show tB (isRow (z + 11)) _
      have ll := lnO_l (p := s4 - ((0 : Nat) : Int)) X
      refine tB.i z3 (tB.i z3 ⟨by unfold Rg; omega, by unfold Rg; omega, ?_⟩)
      rw [wX_self, wX_wX, e1, e2, ralt_at]
      have := ih (p ++ [x]) (by rw [List.append_assoc]; exact he)
      rw [List.length_append, List.map_append, List.append_assoc] at this
      have e3 : (first : Int) + ((lnO (s4 - ((0 : Nat) : Int)) X : Nat) : Int) = crF l4 first X x := by
        unfold crF
        rw [← hs, show s4 - ((0 : Nat) : Int) = s4 by omega]
        omega
      rw [e3, List.append_assoc, show (((V.take n ++ p.map (crF l4 first X)).length : Nat) : Int) + 1 = ((n + (p.length + [x].length) : Nat) : Int) by
        rw [← e2]
        show _ = ((n + (p.length + 1) : Nat) : Int)
        omega]
      exact this
    refine tB.i z1 (tB.i z3 ⟨by unfold Rg; omega, fun h9 => absurd h9 ?_, fun _ => tB.i z1 (tB.i z3 (tB.i z3 ⟨by unfold Rg; omega, tB.i z1 ⟨fun h9 => go x hx (if_neg h9).symm, fun h9 => go l4 hl4 (if_pos h9).symm⟩⟩))⟩)
    rw [List.length_append, List.length_append, List.length_map, lt, List.length_cons]
    omega
/-- labels and index marks go to their lines -/
theorem Setter_carry.c {n m : Nat} (hz : z = 49 ∨ z = 163) (hB : mB σ 0 = z) (hU : mX σ 87 = U) (hU6 : U.length ≤ 70000) (hf9 : first ≤ 10000) (hX6 : X.length ≤ 65536) (hX : ∀ x ∈ X, x.2.1 ≤ 70000) (h114 : mX σ 114 = lnB 0 X) {V K : List Int} (hv : mX σ (z + 11) = V) (hk : mX σ (z + 29) = K) (hV : V.length ≤ 1000) (hVr : ∀ v ∈ V, Rg v) (hn : n ≤ V.length) (hK : K.length ≤ 1000) (hKr : ∀ v ∈ K, Rg v) (hm : m ≤ K.length) (hq : Q (.inl none) (wX (wX σ (z + 11) (crL n (crF (foP U) first X) V)) (z + 29) (crL m (crF (foP U) first X) K))) : Setter_carry (first : Int) (n : Int) (m : Int) σ Q := by
  have fl := foN_l U
  have hfr : Rg (foP U) := by
    unfold foP Rg
    split <;> omega
  refine Setter_carry.i (Texts_firstSolid.c hU hU6 ?_)
  show Setter_carry_12 (first : Int) (m : Int) (foP U) (n : Int) σ Q
  have k2 := car_81 (Q := Q) (σ0 := wX σ (z + 11) (crL n (crF (foP U) first X) V)) (first := first) (l4 := foP U) (n := m) (V := K) hz hB hf9 hX6 hX (by rw [wX_ne (by omega)]; exact h114) hfr hK hKr hm hq (K.drop m) [] (by rw [List.nil_append, List.take_append_drop])
  rw [List.map_nil, List.nil_append, List.take_append_drop, List.length_nil, Nat.add_zero] at k2
  have e1 : wX (wX σ (z + 11) (crL n (crF (foP U) first X) V)) (z + 29) K = wX σ (z + 11) (crL n (crF (foP U) first X) V) := by
    have : mX (wX σ (z + 11) (crL n (crF (foP U) first X) V)) (z + 29) = K := by
      rw [wX_ne (by omega)]
      exact hk
    rw [← this]
    exact wX_id
  rw [e1] at k2
  have k1 := car_12 (Q := Q) (σ0 := σ) (first := first) (l4 := foP U) (n := n) (m := m) (V := V) hz hB hf9 hX6 hX h114 hfr hV hVr hn k2 (V.drop n) [] (by rw [List.nil_append, List.take_append_drop])
  rw [List.map_nil, List.nil_append, List.take_append_drop, List.length_nil, Nat.add_zero, ← hv, wX_id] at k1
  exact k1
/-- a block begins in the flow -/
theorem Galley_beginBlock.c {G : GS9} {C : List Int} {sp : Int} {bg : Bool} (hG : GaC σ G C) (hb : mV σ 128 10 = bZ bg) (hsp : 0 ≤ sp ∧ sp ≤ 3) (hl : G.2.2.length ≤ 8000) (hq : ∀ σ', GaC σ' (G.1, G.2.1, G.2.2 ++ (if bg = true then List.replicate sp.toNat (-2) else [])) C → mV σ' 128 10 = 1 → (∀ q, q ≠ 138 → mX σ' q = mX σ q) → σ'.2.2 = σ.2.2 → (∀ z k, ¬ (z = 128 ∧ k = 10) → mV σ' z k = mV σ z k) → Q (.inl none) σ') : Galley_beginBlock sp σ Q := by
  obtain ⟨g1, g2, g3, g4, g5, g6, g7⟩ := hG
  refine Galley_beginBlock.i ?_
  rw [hb]
  refine ⟨fun h9 => Galley_beginBlock_17.i ?_, fun h9 => ⟨by unfold Rg; omega, ?_, Galley_beginBlock_17.i ?_⟩⟩
  · rw [bZ_z h9] at hq
    refine hq _ ⟨g1, g2, g3, g4, ?_, (wV_ne (Or.inl (by decide))).trans g6, (wV_ne (Or.inl (by decide))).trans g7⟩ wV_self (fun _ _ => rfl) rfl (fun z k h => wV_ne (by omega))
    show mX σ 138 = G.2.2 ++ []
    rw [List.append_nil]
    exact g5
  · rw [g5]
    omega
  · rw [bZ_ne h9] at hq
    refine hq _ ⟨?_, ?_, ?_, ?_, ?_, (wV_ne (Or.inl (by decide))).trans g6, (wV_ne (Or.inl (by decide))).trans g7⟩ wV_self (fun q h => ?_) rfl (fun z k h => wV_ne (by omega))
    · show mX (wX σ 138 (mX σ 138 ++ List.replicate sp.toNat (-2))) 130 = _
      rw [wX_ne (by decide)]
      exact g1
    · show mX (wX σ 138 (mX σ 138 ++ List.replicate sp.toNat (-2))) 132 = _
      rw [wX_ne (by decide)]
      exact g2
    · show mX (wX σ 138 (mX σ 138 ++ List.replicate sp.toNat (-2))) 134 = _
      rw [wX_ne (by decide)]
      exact g3
    · show mX (wX σ 138 (mX σ 138 ++ List.replicate sp.toNat (-2))) 136 = _
      rw [wX_ne (by decide)]
      exact g4
    · show mX (wX σ 138 (mX σ 138 ++ List.replicate sp.toNat (-2))) 138 = G.2.2 ++ (if true = true then List.replicate sp.toNat (-2) else [])
      rw [wX_self, g5, if_pos rfl]
    · exact wX_ne h
end
