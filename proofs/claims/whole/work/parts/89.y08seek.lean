/-! SHELVES: rows one behind the other; the place of a row among them -/
/-- where the rows of a shelf end -/
def enS : Nat → List (List Int) → List Int
  | _, [] => []
  | a, r :: rs => ((a + r.length : Nat) : Int) :: enS (a + r.length) rs
def suM : List (List Int) → Nat
  | [] => 0
  | r :: rs => r.length + suM rs
theorem enS_len : ∀ (rs : List (List Int)) (a : Nat), (enS a rs).length = rs.length
  | [], _ => rfl
  | r :: rs, a => by
    show (_ :: enS (a + r.length) rs).length = _
    rw [List.length_cons, List.length_cons, enS_len rs]
theorem enS_at : ∀ (p : List (List Int)) (r : List Int) (rs : List (List Int)) (a : Nat), (enS a (p ++ r :: rs)).getD p.length 0 = ((a + suM p + r.length : Nat) : Int)
  | [], r, rs, a => by
    show ((a + r.length : Nat) : Int) = ((a + 0 + r.length : Nat) : Int)
    rfl
  | s :: p, r, rs, a => by
    show (enS (a + s.length) (p ++ r :: rs)).getD p.length 0 = ((a + (s.length + suM p) + r.length : Nat) : Int)
    rw [enS_at p r rs (a + s.length)]
    congr 1
    omega
theorem suM_app : ∀ (p r : List (List Int)), suM (p ++ r) = suM p + suM r
  | [], r => by rw [List.nil_append]; show _ = 0 + _; rw [Nat.zero_add]
  | s :: p, r => by
    show s.length + suM (p ++ r) = s.length + suM p + suM r
    rw [suM_app p r]
    omega
theorem enS_sn : ∀ (p : List (List Int)) (r : List Int) (a : Nat), enS a (p ++ [r]) = enS a p ++ [((a + suM p + r.length : Nat) : Int)]
  | [], r, a => rfl
  | s :: p, r, a => by
    show _ :: enS (a + s.length) (p ++ [r]) = _ :: enS (a + s.length) p ++ _
    rw [enS_sn p r (a + s.length)]
    show _ :: (_ ++ [((a + s.length + suM p + r.length : Nat) : Int)]) = _ :: (_ ++ [((a + (s.length + suM p) + r.length : Nat) : Int)])
    rw [show a + s.length + suM p + r.length = a + (s.length + suM p) + r.length by omega]
theorem flat_len : ∀ (p : List (List Int)), p.flatten.length = suM p
  | [] => rfl
  | r :: p => by
    rw [List.flatten_cons, List.length_append, flat_len p]
    rfl
/-- a shelf holds these rows -/
def shR (σ : MS) (z : Nat) (R : List (List Int)) : Prop := mX σ (z + 1) = R.flatten ∧ mX σ (z + 3) = enS 0 R
theorem sto_at {p : List (List Int)} {r : List Int} {rs : List (List Int)} : stoM (enS 0 (p ++ r :: rs)) (p.length : Int) = ((suM p + r.length : Nat) : Int) := by
  unfold stoM
  have hl : (enS 0 (p ++ r :: rs)).length = p.length + 1 + rs.length := by rw [enS_len, List.length_append, List.length_cons]; omega
  rw [if_pos ⟨by omega, by omega⟩, show ((p.length : Nat) : Int).toNat = p.length from rfl, enS_at, Nat.zero_add]
theorem sfr_at {p rs : List (List Int)} : sfrM (enS 0 (p ++ rs)) (p.length : Int) = ((suM p : Nat) : Int) := by
  unfold sfrM
  have hl : (enS 0 (p ++ rs)).length = p.length + rs.length := by rw [enS_len, List.length_append]
  by_cases h0 : p.length = 0
  · have : p = [] := List.eq_nil_of_length_eq_zero h0
    subst this
    rw [if_neg (by rw [List.length_nil]; omega)]
    rfl
  · rw [if_pos ⟨by omega, by omega⟩]
    have hp : p ≠ [] := fun e => h0 (by rw [e]; rfl)
    have e1 : p = p.dropLast ++ [p.getLast hp] := (List.dropLast_concat_getLast hp).symm
    generalize p.dropLast = q at e1
    generalize p.getLast hp = l at e1
    subst e1
    rw [List.append_assoc]
    rw [show (((q ++ [l]).length : Nat) : Int) - 1 = ((q.length : Nat) : Int) by rw [List.length_append, List.length_singleton]; omega, show ((q.length : Nat) : Int).toNat = q.length from rfl]
    show (enS 0 (q ++ l :: rs)).getD q.length 0 = _
    rw [enS_at, suM_app, Nat.zero_add]
    rfl
def ms7 (L : List Int) : List Int := L.map (fun x => x % 128)
theorem ms7_len {L : List Int} : (ms7 L).length = L.length := List.length_map ..
theorem ms7_at {L : List Int} {i : Nat} (h : i < L.length) : (ms7 L).getD i 0 = L.getD i 0 % 128 := by
  unfold ms7
  rw [List.getD_eq_getElem?_getD, List.getD_eq_getElem?_getD, List.getElem?_map, List.getElem?_eq_getElem h]
  rfl
theorem ms7_id {L : List Int} (h : smB L) : ms7 L = L := by
  refine list_ext ms7_len (fun i hi => ?_)
  rw [ms7_len] at hi
  rw [ms7_at hi]
  have := h.b hi
  omega
theorem flat_at {p : List (List Int)} {r : List Int} {rs : List (List Int)} {i : Nat} (h : i < r.length) : (p ++ r :: rs).flatten.getD (suM p + i) 0 = r.getD i 0 := by
  rw [List.flatten_append, List.flatten_cons]
  have := getD_r (L := p.flatten) (M := r ++ rs.flatten) (n := i)
  rw [flat_len] at this
  rw [this, getD_l h]
/-- the class seeks -/
theorem Shelf_seek_3.s {σ : MS} {Q : MQ9} {z l1 : Nat} {R : List (List Int)} (hz : isShelf z = true) (h1 : isRow (z + 1) = true) (h3 : isRow (z + 3) = true) (hr : isRow l1 = true) (hs : shR σ z R) (hR : suM R ≤ 140000) (hRl : R.length ≤ 140000) {U : List Int} {fr : Int} (hf : 0 ≤ fr ∧ fr ≤ 140000) (hu : U.length ≤ 140000) (hU : ∀ t : Nat, t < U.length → rgt (mX σ l1) (fr + t) = U.getD t 0) : ∀ (r p : List (List Int)), R = p ++ r → Q (.inl (some (ixW (r.map ms7) (p.length : Int) (ms7 U)))) σ → Shelf_seek_3 z l1 fr (fr + (U.length : Int)) (p.length : Int) σ Q
  | [], p, he, hq => by
    have hl : (mX σ (z + 3)).length = p.length := by rw [hs.2, enS_len, he, List.append_nil]
    have hp : p.length ≤ 140000 := by rw [he, List.append_nil] at hRl; exact hRl
    refine Shelf_seek_3.i (tB.i hz (tB.i h3 ⟨by unfold Rg; omega, fun _ => hq, fun h9 => absurd h9 (by rw [hl]; omega)⟩))
  | w :: r, p, he, hq => by
    have hl : (mX σ (z + 3)).length = p.length + 1 + r.length := by rw [hs.2, enS_len, he, List.length_append, List.length_cons]; omega
    have hp : p.length + 1 + r.length ≤ 140000 := by rw [he, List.length_append, List.length_cons] at hRl; omega
    have et : stoM (mX σ (z + 3)) (p.length : Int) = ((suM p + w.length : Nat) : Int) := by rw [hs.2, he]; exact sto_at
    have ef : sfrM (mX σ (z + 3)) (p.length : Int) = ((suM p : Nat) : Int) := by rw [hs.2, he]; exact sfr_at
    have hsum : suM p + w.length ≤ 140000 := by
      have : suM R = suM p + (w.length + suM r) := by rw [he, suM_app]; rfl
      omega
    have nx : ¬ ms7 w = ms7 U → Shelf_seek_56 z l1 fr (fr + (U.length : Int)) (p.length : Int) σ Q := fun hn => by
      refine Shelf_seek_56.i ?_
      have hq2 : Q (.inl (some (ixW (r.map ms7) ((p ++ [w]).length : Int) (ms7 U)))) σ := by
        rw [List.map_cons] at hq
        unfold ixW at hq
        rw [if_neg hn] at hq
        rw [List.length_append, List.length_singleton]
        exact hq
      have := Shelf_seek_3.s hz h1 h3 hr hs hR hRl hf hu hU r (p ++ [w]) (by rw [he, List.append_assoc]; rfl) hq2
      rw [List.length_append, List.length_singleton] at this
      exact this
    refine Shelf_seek_3.i (tB.i hz (tB.i h3 ⟨by unfold Rg; omega, fun h9 => absurd h9 (by rw [hl]; omega), fun _ => tB.i hz (tB.i hz ⟨by unfold Rg; omega, tB.i hz (tB.i hz ⟨by unfold Rg; omega, ?_⟩)⟩)⟩))
    rw [et, ef]
    refine ⟨by unfold Rg; omega, by unfold Rg; omega, fun a => nx (fun e => a ?_), fun a => tB.i hz (tB.i hz (tB.i hz ⟨by unfold Rg; omega, tB.i h1 (tB.i h1 (tB.i hr ⟨by unfold Rg; omega, by unfold Rg; omega, by unfold Rg; omega, ?_⟩))⟩))⟩
    · have := congrArg List.length e
      rw [ms7_len, ms7_len] at this
      omega
    · have hwl : w.length = U.length := by omega
      have key : stdM (fun i => rgt (mX σ (z + 1)) (((suM p : Nat) : Int) + i - fr)) (rgt (mX σ l1)) (fr + (U.length : Int) - fr).toNat fr = true ↔ ms7 w = ms7 U := by
        rw [stdM_i, show (fr + (U.length : Int) - fr).toNat = U.length by omega]
        have one : ∀ i : Nat, i < U.length → rgt (mX σ (z + 1)) (((suM p : Nat) : Int) + (fr + (i : Int)) - fr) = w.getD i 0 := fun i hi => by
          rw [hs.1, rgt_a (i := suM p + i) (by omega) (by rw [he, List.flatten_append, List.flatten_cons, List.length_append, List.length_append, flat_len]; omega), he]
          exact flat_at (by omega)
        constructor
        · intro h
          refine list_ext (by rw [ms7_len, ms7_len, hwl]) (fun i hi => ?_)
          rw [ms7_len] at hi
          have := h i (by omega)
          rw [one i (by omega), hU i (by omega)] at this
          rw [ms7_at hi, ms7_at (by omega)]
          exact this
        · intro h i hi
          rw [one i hi, hU i hi, ← ms7_at (L := w) (by omega), ← ms7_at (L := U) hi, h]
      refine ⟨fun b => nx (fun e => ?_), fun b => ⟨by unfold Rg; omega, ?_⟩⟩
      · rw [if_pos (key.mpr e)] at b
        exact absurd b (by decide)
      · have e : ms7 w = ms7 U := key.mp (Classical.byContradiction (fun hc => b (if_neg hc)))
        rw [List.map_cons] at hq
        unfold ixW at hq
        rw [if_pos e] at hq
        exact hq
theorem Shelf_seek.s {σ : MS} {Q : MQ9} {z l1 : Nat} {R : List (List Int)} (hz : isShelf z = true) (h1 : isRow (z + 1) = true) (h3 : isRow (z + 3) = true) (hr : isRow l1 = true) (hs : shR σ z R) (hR : suM R ≤ 140000) (hRl : R.length ≤ 140000) {U : List Int} {fr to : Int} (hf : 0 ≤ fr ∧ fr ≤ 140000) (hu : U.length ≤ 140000) (ht : to = fr + (U.length : Int)) (hU : ∀ t : Nat, t < U.length → rgt (mX σ l1) (fr + t) = U.getD t 0) (hq : Q (.inl (some (ixW (R.map ms7) 0 (ms7 U)))) σ) : Shelf_seek z l1 fr to σ Q := by
  subst ht
  exact Shelf_seek.i (Shelf_seek_3.s hz h1 h3 hr hs hR hRl hf hu hU R [] rfl hq)
/-! the reference's names of macros -/
/-- the reference holds these names of macros -/
def mnR (σ : MS) (N : List (List Int)) : Prop := mV σ 246 46 = (N.length : Int) ∧ N.length ≤ 40 ∧ ∀ m, m < N.length → mV σ 265 m = ((N.getD m []).length : Int) ∧ (N.getD m []).length ≤ 12 ∧ holA σ 264 (12 * m) (N.getD m [])
theorem getD_at {p : List (List Int)} {w : List Int} {r : List (List Int)} : (p ++ w :: r).getD p.length [] = w := by
  rw [List.getD_eq_getElem?_getD, List.getElem?_append_right (Nat.le_refl _), Nat.sub_self]
  rfl
theorem R_macroOf_2.s {σ : MS} {Q : MQ9} {N : List (List Int)} (hN : mnR σ N) {U : List Int} {fr : Nat} (hu : fr + U.length ≤ 8100) (hU : holA σ 252 fr U) : ∀ (r p : List (List Int)), N = p ++ r → Q (.inl (some (ixW r (p.length : Int) U))) σ → R_macroOf_2 (fr : Int) ((fr + U.length : Nat) : Int) (p.length : Int) σ Q
  | [], p, he, hq => by
    have hl : N.length = p.length := by rw [he, List.append_nil]
    have := hN.2.1
    exact R_macroOf_2.i ⟨by unfold Rg; omega, fun _ => hq, fun h9 => absurd h9 (by rw [hN.1]; omega)⟩
  | w :: r, p, he, hq => by
    obtain ⟨n1, n2, n3⟩ := hN
    have hl : N.length = p.length + 1 + r.length := by rw [he, List.length_append, List.length_cons]; omega
    obtain ⟨w1, w2, w3⟩ := n3 p.length (by omega)
    have ew : N.getD p.length [] = w := by rw [he]; exact getD_at
    rw [ew] at w1 w2 w3
    unfold ixW at hq
    have h85 : R_macroOf_85 (fr : Int) ((fr + U.length : Nat) : Int) (p.length : Int) (bZ (decide (w = U))) σ Q := by
      refine R_macroOf_85.i ⟨fun a => ?_, fun a => ⟨by unfold Rg; omega, ?_⟩⟩
      · rw [if_neg (of_decide_eq_false (bZ_z a))] at hq
        have := R_macroOf_2.s ⟨n1, n2, n3⟩ hu hU r (p ++ [w]) (by rw [he, List.append_assoc]; rfl) (by rw [List.length_append, List.length_singleton]; exact hq)
        rw [List.length_append, List.length_singleton] at this
        exact this
      · rw [if_pos (of_decide_eq_true (bZ_ne a))] at hq
        exact hq
    have m0 : ¬ w = U → R_macroOf_85 (fr : Int) ((fr + U.length : Nat) : Int) (p.length : Int) 0 σ Q := fun h => by
      rw [bZ_f (decide_eq_false h)] at h85; exact h85
    have m1 : w = U → R_macroOf_85 (fr : Int) ((fr + U.length : Nat) : Int) (p.length : Int) 1 σ Q := fun h => by
      rw [bZ_t (decide_eq_true h)] at h85; exact h85
    have en : ((p.length : Nat) : Int).toNat = p.length := rfl
    refine R_macroOf_2.i ⟨by unfold Rg; omega, fun h9 => absurd h9 (by rw [n1]; omega), fun _ => ⟨by omega, by omega, by unfold Rg; omega, ?_⟩⟩
    rw [en, w1]
    refine ⟨fun a => R_macroOf_27.i ?_, fun a => R_macroOf_27.i ?_⟩
    · have hn : ¬ w = U := fun e => a (by rw [e]; omega)
      refine R_macroOf_32.i ⟨by omega, by omega, by decide, ?_⟩
      rw [en, w1]
      exact ⟨fun _ => m0 hn, fun _ => ⟨fun _ => m0 hn, fun h9 => absurd rfl h9⟩⟩
    · have hwl : w.length = U.length := by omega
      refine loopIs (P := fun is i => R_macroOf_32 (fr : Int) ((fr + U.length : Nat) : Int) (p.length : Int) is i σ Q) (f := fun i => decide (w.getD i 0 = U.getD i 0)) (n := w.length) (fun i hi h => ?_) (fun e => ?_) (fun e i hi => ?_)
      · obtain ⟨k1, k0⟩ := bZ_q (P := fun r => R_macroOf_32 (fr : Int) ((fr + U.length : Nat) : Int) (p.length : Int) r ((i : Int) + 1) σ Q) h
        refine R_macroOf_32.i ⟨by omega, by omega, by unfold Rg; omega, ?_⟩
        rw [en, w1]
        refine ⟨fun h9 => absurd h9 (by omega), fun _ => ⟨fun h9 => absurd h9 (by decide), fun _ => ⟨by omega, by omega, by omega, by omega, ?_⟩⟩⟩
        rw [show (12 * (p.length : Int) + (i : Int)).toNat = 12 * p.length + i by omega, show ((fr : Int) + (i : Int)).toNat = fr + i by omega, w3 i hi, hU i (by omega)]
        exact ⟨fun a => R_macroOf_77.i (k0 (decide_eq_false a)), fun a => R_macroOf_77.i (k1 (decide_eq_true a))⟩
      · have hwU : w = U := list_ext hwl (fun i hi => of_decide_eq_true (allR_i.mp e i hi))
        refine R_macroOf_32.i ⟨by omega, by omega, by unfold Rg; omega, ?_⟩
        rw [en, w1]
        exact ⟨fun _ => m1 hwU, fun h9 => absurd h9 (by omega)⟩
      · have hn : ¬ w = U := fun e2 => by
          have : allR (fun i => decide (w.getD i 0 = U.getD i 0)) w.length = true := allR_i.mpr (fun i _ => decide_eq_true (by rw [e2]))
          rw [this] at e
          exact Bool.noConfusion e
        refine R_macroOf_32.i ⟨by omega, by omega, by unfold Rg; omega, ?_⟩
        rw [en, w1]
        exact ⟨fun _ => m0 hn, fun _ => ⟨fun _ => m0 hn, fun h9 => absurd rfl h9⟩⟩
theorem R_macroOf.s {σ : MS} {Q : MQ9} {N : List (List Int)} (hN : mnR σ N) {U : List Int} {fr to : Nat} (hu : fr + U.length ≤ 8100) (ht : to = fr + U.length) (hU : holA σ 252 fr U) (hq : Q (.inl (some (ixW N 0 U))) σ) : R_macroOf (fr : Int) (to : Int) σ Q := by
  subst ht
  exact R_macroOf.i (R_macroOf_2.s hN hu hU N [] rfl hq)
