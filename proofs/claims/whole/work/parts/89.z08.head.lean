/-! HEADINGS: the class sets them -/
def hgX (H : HY9) (W hg : Int) (U : List Int) : List (Nat × Nat × Bool) := fiL (false, H.2) U (rmO W 0).toNat (rmO W hg).toNat U.length 0
def hgP (o : Int) (H : HY9) (S Lt : List Int) (l : Nat) (s : TS) (b : BK9) (g : HG9) : (BK9 × HG9) ⊕ (Int × Int × Int) := match gAll o true (prN [] ((Lt.length : Int) + 1) 0 (S.getD 0 0) ((pkL s.2.1).map boC) 9999 (hgX H (S.getD 0 0) ((Lt.length : Int) + 1) ((pkL s.2.1).map boC))) ((s.1.1, s.1.2.1), b.2.1.1, flS b (max 1 (S.getD 8 0))) with
  | .inr e => .inr e
  | .inl G1 => .inl ((txM s G1.1 b.1.2.2.2.1.1.length b.1.2.2.2.2.1.1.length (crF (foP ((pkL s.2.1).map boC)) (flS b (max 1 (S.getD 8 0))).length (hgX H (S.getD 0 0) ((Lt.length : Int) + 1) ((pkL s.2.1).map boC))), G1.2, b.2.2.1, true), (g.1 ++ [ms7 (pkL s.2.1)], g.2.1 ++ [(l : Int)], g.2.2 ++ [((flS b (max 1 (S.getD 8 0))).length : Int)]))
/-- a heading: its text behind its number, in bold -/
def hgD (o : Int) (E : TE) (H : HY9) (S Lt : List Int) (l : Nat) (T : List Int) (b : BK9) (g : HG9) : (BK9 × HG9) ⊕ (Int × Int × Int) := if 60 ≤ g.1.length then .inr (9, b.1.1.1, b.1.1.2.1) else match wkD 30 (hgE E Lt) false [] T (hgS Lt b.1) with
  | .inr e => .inr e
  | .inl s1 => hgP o H S Lt l s1 b g
theorem boC_r {c : Int} (h : okC c) : okC (boC c) := by
  unfold boC
  unfold okC at h ⊢
  split
  · omega
  · split <;> omega
theorem boC_32 {c : Int} (h : okC c) : boC c = 32 ↔ c = 32 := by
  unfold boC
  unfold okC at h
  constructor
  · intro e
    by_cases h1 : c = 32
    · exact h1
    · rw [if_neg h1] at e
      split at e <;> omega
  · intro e
    rw [if_pos e]
theorem boC_7 {c : Int} : boC c % 128 = c % 128 := by
  unfold boC
  split
  · omega
  · split <;> omega
theorem boC_s {c : Int} (h : okC c) : sbl (boC c) = sbl c := by
  unfold sbl boC
  unfold okC at h
  split
  · rename_i e
    rw [e]
  · split
    · refine decide_eq_decide.mpr ?_
      omega
    · rfl
theorem mp_gd {f : Int → Int} {L : List Int} {i : Nat} (hi : i < L.length) : (L.map f).getD i 0 = f (L.getD i 0) := by
  unfold List.getD
  rw [List.getElem?_map, List.getElem?_eq_getElem hi]
  rfl
theorem bo_ok {L : List Int} (h : okK L) : okK (L.map boC) := fun c hc => by
  obtain ⟨x, hx, e⟩ := List.mem_map.mp hc
  rw [← e]
  exact boC_r (h x hx)
theorem gd_mem {L : List Int} {i : Nat} (hi : i < L.length) : L.getD i 0 ∈ L := by
  unfold List.getD
  rw [List.getElem?_eq_getElem hi, Option.getD_some]
  exact List.getElem_mem _
theorem bo_bk {L : List Int} (h : okK L) (hb : bkE L) : bkE (L.map boC) := fun k hk => by
  rw [List.length_map] at hk
  rw [mp_gd hk, boC_s (h _ (gd_mem hk)), boC_32 (h _ (gd_mem hk))]
  exact hb k hk
section
variable {σ σ0 : MS} {Q : MQ9} {z z' : Nat} {E : TE} {U : List Int}
theorem hea_279 {l3 l4 : Int} (hU : okK U) (hU6 : U.length ≤ 65535) (hq : Filler_openPlain (wX σ0 87 (U.map boC)) (kV (thQ Q) fun σ1 => Setter_heading_337 l3 l4 σ1 Q)) : ∀ (r p : List Int), U = p ++ r → Setter_heading_279 l3 l4 (p.length : Int) (wX σ0 87 (p.map boC ++ r)) Q := by
  intro r
  induction r with
  | nil =>
    intro p he
    rw [List.append_nil] at he
    refine Setter_heading_279.i ?_
    rw [wX_self, List.append_nil, List.length_map, ← he]
    exact ⟨by unfold Rg; omega, fun _ => hq, fun h => absurd h (by omega)⟩
  | cons c r ih =>
    intro p he
    have h2 : U.length = p.length + (r.length + 1) := by rw [he, List.length_append, List.length_cons]
    have hc : okC c := hU c (by rw [he]; exact List.mem_append_right _ List.mem_cons_self)
    have e9 : rgt (p.map boC ++ c :: r) (p.length : Int) = c := by
      have := rgt_at (L := p.map boC ++ c :: r) (p := p.map boC) (r := r) (x := c) rfl
      rw [List.length_map] at this
      exact this
    have al : ∀ x, ralt (p.map boC ++ c :: r) (p.length : Int) x = p.map boC ++ x :: r := fun x => by
      have := ralt_at (p := p.map boC) (r := r) (x := c) (v := x)
      rw [List.length_map] at this
      exact this
    have go : ∀ x : Int, x = boC c → Setter_heading_321 l3 l4 (p.length : Int) (p.length : Int) x (wX σ0 87 (p.map boC ++ c :: r)) Q := fun x hx => by
      refine Setter_heading_321.i ⟨by unfold Rg; omega, ?_⟩
      rw [wX_self, al, wX_wX, hx]
      refine Setter_heading_324.i ?_
      have := ih (p ++ [c]) (by rw [List.append_assoc]; exact he)
      rw [List.length_append, List.map_append, List.append_assoc] at this
      rw [show (p.length : Int) + 1 = ((p.length + [c].length : Nat) : Int) by
        show (p.length : Int) + 1 = ((p.length + 1 : Nat) : Int)
        omega]
      exact this
    refine Setter_heading_279.i ?_
    rw [wX_self, List.length_append, List.length_map, List.length_cons, e9]
    refine ⟨by unfold Rg; omega, fun h => absurd h (by omega), fun _ => ⟨by unfold Rg; omega, fun h9 => ⟨by unfold Rg; omega, go _ (bor_bo ⟨hc.1, hc.2.1⟩ h9)⟩, fun h9 => go _ (by rw [h9]; rfl)⟩⟩
/-- the title is kept, the words grow bold -/
theorem hea_C1 {l l3 l4 : Int} {g : HG9} (hl : Rg l) (hz : z = 49 ∨ z = 163) (hB : mB σ 0 = z) (h87 : mX σ 87 = U) (hU : okK U) (hU6 : U.length ≤ 65535) (hT : shR σ (z + 13) g.1) (hTl : g.1.length < 60) (hLv : mX σ (z + 18) = g.2.1) (hLl : g.2.1.length = g.1.length) (hcap : suM g.1 + U.length ≤ 65536) (hq : ∀ σ', shR σ' (z + 13) (g.1 ++ [ms7 U]) → mX σ' (z + 18) = g.2.1 ++ [l] → mX σ' 87 = U.map boC → (∀ q, q ≠ 87 → q ≠ z + 14 → q ≠ z + 16 → q ≠ z + 18 → mX σ' q = mX σ q) → σ'.2 = σ.2 → Filler_openPlain σ' (kV (thQ Q) fun σ1 => Setter_heading_337 l3 l4 σ1 Q)) : Setter_heading_223 l l3 l4 σ Q := by
  have mk : isMarks z = true ∧ isShelf (z + 13) = true ∧ isRow (z + 13 + 1) = true ∧ isRow (z + 13 + 3) = true ∧ isRow (z + 18) = true ∧ neB 87 (z + 13 + 1) = true := by
    rcases hz with rfl | rfl <;> decide +kernel
  have cp : 65536 ≤ capOf (z + 13 + 1) ∧ 60 ≤ capOf (z + 13 + 3) ∧ 60 ≤ capOf (z + 18) := by
    rcases hz with rfl | rfl <;> decide +kernel
  have ms : pourM (fun i => (rgt (mX σ 87) i) % 128) (((mX σ 87).length : Int) - 0).toNat 0 = ms7 U := by
    rw [h87]
    have key : ∀ (r p : List Int), U = p ++ r → pourM (fun i => rgt U i % 128) r.length (p.length : Int) = ms7 r := by
      intro r
      induction r with
      | nil => intro p _; rfl
      | cons c r ih =>
        intro p he
        show rgt U (p.length : Int) % 128 :: pourM (fun i => rgt U i % 128) r.length ((p.length : Int) + 1) = c % 128 :: ms7 r
        rw [rgt_at he]
        have := ih (p ++ [c]) (by rw [List.append_assoc]; exact he)
        rw [List.length_append, show ((p.length + [c].length : Nat) : Int) = (p.length : Int) + 1 from rfl] at this
        rw [this]
    rw [show ((U.length : Int) - 0).toNat = U.length by omega]
    exact key U [] rfl
  refine Setter_heading_223.i ?_
  rw [hB]
  refine tB.i mk.1 (tB.i mk.2.1 (tB.i mk.2.2.1 (tB.i mk.2.2.1 (tB.i mk.2.2.2.2.2 ⟨?_, ?_⟩))))
  · rw [h87, hT.1, flat_len]
    have := cp.1
    omega
  rw [ms, hT.1]
  refine Setter_heading_255.i ?_
  show tB (isMarks (mB σ 0)) (tB (isShelf (mB σ 0 + 13)) (Shelf_close (mB σ 0 + 13) _ _))
  rw [hB]
  have hne : (z + 13 + 3) ≠ (z + 13 + 1) := by omega
  refine tB.i mk.1 (tB.i mk.2.1 (Shelf_close.i (tB.i mk.2.1 (tB.i mk.2.1 (tB.i mk.2.2.1 (tB.i mk.2.2.2.1 (tB.i mk.2.2.2.1 ⟨?_, ?_⟩)))))))
  · rw [wX_ne hne, hT.2, enS_len]
    have := cp.2.1
    omega
  have e1 : mX (wX σ (z + 13 + 1) (g.1.flatten ++ ms7 U)) (z + 13 + 1) = (g.1 ++ [ms7 U]).flatten := by
    rw [wX_self, List.flatten_append]
    show _ = g.1.flatten ++ (ms7 U ++ [])
    rw [List.append_nil]
  have e3 : mX (wX σ (z + 13 + 1) (g.1.flatten ++ ms7 U)) (z + 13 + 3) = enS 0 g.1 := by
    rw [wX_ne hne]
    exact hT.2
  have cl := shR.close e1 e3
  have eB18 : mB (wX (wX σ (z + 13 + 1) (g.1.flatten ++ ms7 U)) (z + 13 + 3) (enS 0 (g.1 ++ [ms7 U]))) 0 = z := hB
  show Setter_heading_265 l l3 l4 (wX (wX σ (z + 13 + 1) (g.1.flatten ++ ms7 U)) (z + 13 + 3) (mX (wX σ (z + 13 + 1) (g.1.flatten ++ ms7 U)) (z + 13 + 3) ++ [((mX (wX σ (z + 13 + 1) (g.1.flatten ++ ms7 U)) (z + 13 + 1)).length : Int)])) Q
  rw [cl]
  refine Setter_heading_265.i ?_
  rw [eB18]
  have y18 : mX (wX (wX σ (z + 13 + 1) (g.1.flatten ++ ms7 U)) (z + 13 + 3) (enS 0 (g.1 ++ [ms7 U]))) (z + 18) = g.2.1 := by
    rw [wX_ne (by omega), wX_ne (by omega)]
    exact hLv
  refine tB.i mk.1 (tB.i mk.2.2.2.2.1 (tB.i mk.2.2.2.2.1 ⟨?_, ?_⟩))
  · rw [y18]
    have := cp.2.2
    omega
  rw [y18]
  generalize hσ1 : wX (wX (wX σ (z + 13 + 1) (g.1.flatten ++ ms7 U)) (z + 13 + 3) (enS 0 (g.1 ++ [ms7 U]))) (z + 18) (g.2.1 ++ [l]) = σ1
  have x1 : ∀ q, q ≠ z + 14 → q ≠ z + 16 → q ≠ z + 18 → mX σ1 q = mX σ q := fun q a b c => by
    rw [← hσ1, wX_ne c, wX_ne b, wX_ne a]
  have h871 : mX σ1 87 = U := (x1 87 (by omega) (by omega) (by omega)).trans h87
  refine Setter_heading_276.i ?_
  have := hea_279 (Q := Q) (σ0 := σ1) (l3 := l3) (l4 := l4) hU hU6 (hq _ ⟨?_, ?_⟩ ?_ wX_self (fun q a b c d => (wX_ne a).trans (x1 q b c d)) (by rw [← hσ1]; rfl)) U [] rfl
  · rw [List.map_nil, List.nil_append, ← h871, wX_id] at this
    exact this
  · rw [wX_ne (by omega), ← hσ1, wX_ne (by omega), wX_ne (by omega)]
    exact e1
  · rw [wX_ne (by omega), ← hσ1, wX_ne (by omega)]
    exact wX_self
  · rw [wX_ne (by omega), ← hσ1]
    exact wX_self
end
