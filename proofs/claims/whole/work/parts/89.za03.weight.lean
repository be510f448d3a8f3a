/-! THE WEIGHT: flow and notes show each line of the galley at most once -/
def gwF (Ls : List GL9) (f : Int) : List Int := if 0 ≤ f then (Ls.getD f.toNat ([], 0, 0)).1 else []
def nA9 (sp : List (Int × Int)) : List Nat := (sp.map (fun x => seqN x.1.toNat (x.2 - x.1).toNat)).flatten
def wW9 (Ls : List GL9) (F : List Int) (sp : List (Int × Int)) : Nat := suM (F.map (gwF Ls)) + wtN Ls (nA9 sp)
theorem bdS_m {Ls : List GL9} : ∀ {R A : List Int}, (bdS (A ++ R) Ls A.length R.length).map (·.1) = R.map (gwF Ls)
  | [], A => rfl
  | f :: R, A => by
    have ih := bdS_m (Ls := Ls) (R := R) (A := A ++ [f])
    rw [List.append_assoc, List.length_append] at ih
    show (bdL (A ++ f :: R) Ls A.length).1 :: (bdS (A ++ f :: R) Ls (A.length + 1) R.length).map (·.1) = gwF Ls f :: R.map (gwF Ls)
    have ih : (bdS (A ++ f :: R) Ls (A.length + 1) R.length).map (·.1) = R.map (gwF Ls) := ih
    rw [ih]
    have e : (A ++ f :: R).getD A.length 0 = f := by
      have := ap_r (A := A) (B := f :: R) (i := 0)
      exact this
    have : (bdL (A ++ f :: R) Ls A.length).1 = gwF Ls f := by
      unfold bdL gwF
      rw [e]
      split <;> rfl
    rw [this]
theorem wtF9_m {Ls : List GL9} {F : List Int} : wtF9 F Ls F.length = suM (F.map (gwF Ls)) := by
  unfold wtF9
  exact congrArg suM (bdS_m (Ls := Ls) (R := F) (A := []))
theorem nA9_s {A : List (Int × Int)} {x : Int × Int} : nA9 (A ++ [x]) = nA9 A ++ seqN x.1.toNat (x.2 - x.1).toNat := by
  unfold nA9
  rw [List.map_append, List.flatten_append]
  show _ ++ (seqN x.1.toNat (x.2 - x.1).toNat ++ []) = _
  rw [List.append_nil]
theorem ntN_m {sp : List (Int × Int)} : ∀ {m : Nat}, m ≤ sp.length → ntN sp 0 m = nA9 (sp.take m)
  | 0, _ => rfl
  | m + 1, h => by
    have ih := ntN_m (sp := sp) (m := m) (by omega)
    have e : sp.take (m + 1) = sp.take m ++ [sp.getD m (0, 0)] := by
      rw [List.getD_eq_getElem?_getD, List.getElem?_eq_getElem (by omega : m < sp.length)]
      exact List.take_succ_eq_append_getElem (by omega)
    show ntN sp 0 m ++ seqN (sp.getD (0 + m) (0, 0)).1.toNat ((sp.getD (0 + m) (0, 0)).2 - (sp.getD (0 + m) (0, 0)).1).toNat = _
    rw [Nat.zero_add, e, nA9_s, ih]
theorem wW9_e {Ls : List GL9} {F : List Int} {sp : List (Int × Int)} : wtF9 F Ls F.length + wtN Ls (ntN sp 0 sp.length) = wW9 Ls F sp := by
  rw [wtF9_m, ntN_m (Nat.le_refl _), List.take_length]
  rfl
theorem seqN_c : ∀ {n a : Nat}, seqN a (n + 1) = a :: seqN (a + 1) n
  | 0, a => rfl
  | n + 1, a => by
    have ih := seqN_c (n := n) (a := a)
    show seqN a (n + 1) ++ [a + (n + 1)] = a :: (seqN (a + 1) n ++ [a + 1 + n])
    rw [ih, show a + 1 + n = a + (n + 1) by omega]
    rfl
theorem seqN_in : ∀ {n a x : Nat}, x ∈ seqN a n → a ≤ x ∧ x < a + n
  | 0, a, x, h => absurd h List.not_mem_nil
  | n + 1, a, x, h => by
    rcases List.mem_append.mp h with e | e
    · have := seqN_in e
      omega
    · rw [List.mem_singleton.mp e]
      omega
theorem lnG_at {Ls Z : List GL9} {y : GL9} : lnG (Ls ++ y :: Z) Ls.length = y := by
  unfold lnG List.getD
  rw [List.getElem?_append_right (Nat.le_refl _), Nat.sub_self]
  rfl
theorem lnG_ap {Ls Z : List GL9} {i : Nat} (h : i < Ls.length) : lnG (Ls ++ Z) i = lnG Ls i := by
  unfold lnG List.getD
  rw [List.getElem?_append_left h]
theorem seqN_ln : ∀ {Y Ls Z : List GL9}, (seqN Ls.length Y.length).map (lnG (Ls ++ (Y ++ Z))) = Y
  | [], Ls, Z => rfl
  | y :: Y, Ls, Z => by
    have ih := seqN_ln (Y := Y) (Ls := Ls ++ [y]) (Z := Z)
    rw [List.append_assoc, List.length_append] at ih
    have ih : (seqN (Ls.length + 1) Y.length).map (lnG (Ls ++ (y :: (Y ++ Z)))) = Y := ih
    show (seqN Ls.length (Y.length + 1)).map (lnG (Ls ++ (y :: (Y ++ Z)))) = y :: Y
    rw [seqN_c, List.map_cons, ih, lnG_at]
theorem seqZ_gw : ∀ {Y Ls Z : List GL9}, (seqZ Ls.length Y.length).map (gwF (Ls ++ (Y ++ Z))) = Y.map (·.1)
  | [], Ls, Z => rfl
  | y :: Y, Ls, Z => by
    have ih := seqZ_gw (Y := Y) (Ls := Ls ++ [y]) (Z := Z)
    rw [List.append_assoc, List.length_append] at ih
    have ih : (seqZ (Ls.length + 1) Y.length).map (gwF (Ls ++ (y :: (Y ++ Z)))) = Y.map (·.1) := ih
    show (((Ls.length : Nat) : Int) :: seqZ (Ls.length + 1) Y.length).map (gwF (Ls ++ (y :: (Y ++ Z)))) = y.1 :: Y.map (·.1)
    rw [List.map_cons, ih]
    have : gwF (Ls ++ (y :: (Y ++ Z))) ((Ls.length : Nat) : Int) = y.1 := by
      unfold gwF
      rw [if_pos (by omega), Int.toNat_natCast]
      exact congrArg Prod.fst (lnG_at (Ls := Ls) (y := y) (Z := Y ++ Z))
    rw [this]
theorem gwF_ap {Ls Z : List GL9} {F : List Int} (h : FlW Ls.length F) : F.map (gwF (Ls ++ Z)) = F.map (gwF Ls) := by
  refine List.map_congr_left (fun f hf => ?_)
  obtain ⟨i, hi, e⟩ := gdi_mem hf
  unfold gwF
  by_cases c : 0 ≤ f
  · rw [if_pos c, if_pos c]
    have : f < (Ls.length : Int) := by
      rw [← e] at c ⊢
      rcases h.1 i hi with x | x | x
      · omega
      · omega
      · exact x.2
    exact congrArg Prod.fst (lnG_ap (Ls := Ls) (Z := Z) (i := f.toNat) (by omega))
  · rw [if_neg c, if_neg c]
theorem nA9_in {sp : List (Int × Int)} {n x : Nat} (h : SpP n sp) (hx : x ∈ nA9 sp) : x < n := by
  unfold nA9 at hx
  obtain ⟨l, hl, hx⟩ := List.mem_flatten.mp hx
  obtain ⟨y, hy, e⟩ := List.mem_map.mp hl
  rw [← e] at hx
  have := seqN_in hx
  have := h y hy
  omega
theorem wtN_ap {Ls Z : List GL9} {sp : List (Int × Int)} (h : SpP Ls.length sp) : wtN (Ls ++ Z) (nA9 sp) = wtN Ls (nA9 sp) := by
  unfold wtN
  rw [List.map_congr_left (fun x hx => lnG_ap (Ls := Ls) (Z := Z) (nA9_in h hx))]
theorem gw_r2 {Ls : List GL9} : ∀ {m : Nat}, suM ((List.replicate m (-2 : Int)).map (gwF Ls)) = 0
  | 0 => rfl
  | m + 1 => by
    have ih := gw_r2 (Ls := Ls) (m := m)
    show (gwF Ls (-2)).length + suM ((List.replicate m (-2 : Int)).map (gwF Ls)) = 0
    rw [ih, show gwF Ls (-2) = [] from if_neg (by decide)]
    rfl
/-- lines that come to the flow, then lines of notes -/
theorem wW9_add {Ls Y Z : List GL9} {F : List Int} {sp sps : List (Int × Int)} {m : Nat} (h : FlW Ls.length F) (hs : SpP Ls.length sp) (hn : (nA9 sps).map (lnG (Ls ++ (Y ++ Z))) = Z) : wW9 (Ls ++ (Y ++ Z)) (F ++ List.replicate m (-2) ++ seqZ Ls.length Y.length) (sp ++ sps) = wW9 Ls F sp + suM (Y.map (·.1)) + suM (Z.map (·.1)) := by
  unfold wW9
  have e1 : nA9 (sp ++ sps) = nA9 sp ++ nA9 sps := by
    unfold nA9
    rw [List.map_append, List.flatten_append]
  have e2 : wtN (Ls ++ (Y ++ Z)) (nA9 sps) = suM (Z.map (·.1)) := by
    unfold wtN
    rw [hn]
  rw [e1, wtN_a, e2, wtN_ap hs, List.map_append, List.map_append, suM_app, suM_app, gw_r2, gwF_ap h, seqZ_gw]
  omega
/-- flags of lines -/
def FgX (X : List (List Int × Int)) : Prop := ∀ x ∈ X, 0 ≤ x.2 ∧ x.2 ≤ 3
theorem fg_0 : (0 : Int) ≤ 0 ∧ (0 : Int) ≤ 3 := by decide
theorem fg_1 : (0 : Int) ≤ 1 ∧ (1 : Int) ≤ 3 := by decide
theorem FgX.nil : FgX [] := fun x hx => absurd hx List.not_mem_nil
theorem FgX.cons {x : List Int × Int} {X : List (List Int × Int)} (h : 0 ≤ x.2 ∧ x.2 ≤ 3) (h' : FgX X) : FgX (x :: X) := fun y hy => by
  rcases List.mem_cons.mp hy with e | e
  · rw [e]
    exact h
  · exact h' y e
theorem FgX.app {X Y : List (List Int × Int)} (h : FgX X) (h' : FgX Y) : FgX (X ++ Y) := fun y hy => by
  rcases List.mem_append.mp hy with e | e
  · exact h y e
  · exact h' y e
theorem prB_f9 {P : List Int} {hg J W : Int} {U : List Int} {hold : Int} {many : Nat} : ∀ {X : List (Nat × Nat × Bool)} {i : Nat}, FgX (prB P hg J W U hold many i X)
  | [], i => FgX.nil
  | x :: r, i => FgX.cons (by
    show 0 ≤ bZ (hoF hold many i) + 2 * bZ x.2.2 ∧ bZ (hoF hold many i) + 2 * bZ x.2.2 ≤ 3
    have a := bZ_01 (b := hoF hold many i)
    have b := bZ_01 (b := x.2.2)
    omega) (prB_f9 (X := r) (i := i + 1))
theorem prN_f9 {P : List Int} {hg J W : Int} {U : List Int} {hold : Int} {X : List (Nat × Nat × Bool)} : FgX (prN P hg J W U hold X) := by
  unfold prN
  split
  · exact FgX.cons fg_0 FgX.nil
  · exact prB_f9
theorem rwL_f9 {T : List Int} {W : Int} : ∀ {n i : Nat}, FgX (rwL T W n i)
  | 0, i => FgX.nil
  | n + 1, i => FgX.cons fg_0 (rwL_f9 (n := n) (i := i + 1))
theorem ctL_f9 {W f s : Int} {B : HG9} : ∀ {n k : Nat}, FgX (ctL W f s B n k)
  | 0, k => FgX.nil
  | n + 1, k => FgX.cons fg_0 (ctL_f9 (n := n) (k := k + 1))
theorem ixA_f9 {H : HY9} {W f s : Int} {K : List (List Int)} {P : List Int} : ∀ {L : List Nat}, FgX (ixA H W K P f s L)
  | [] => FgX.nil
  | k :: r => FgX.app (by unfold ixL; exact prN_f9) (ixA_f9 (L := r))
theorem tpG_f9 {f : Nat → List Int} {first : Bool} {many : Nat} : ∀ {n i : Nat}, FgX (tpG f first many n i)
  | 0, i => FgX.nil
  | n + 1, i => FgX.cons (by
    show 0 ≤ (if first = true ∨ i + 1 < many then (1 : Int) else 0) ∧ (if first = true ∨ i + 1 < many then (1 : Int) else 0) ≤ 3
    split <;> decide) (tpG_f9 (n := n) (i := i + 1))
theorem tbO_f9 {H : HY9} {W A : List Int} {c : Nat} : ∀ {R : List (List (List Int))} {first : Bool}, FgX (tbO H W A c first R)
  | [], first => FgX.nil
  | row :: r, first => FgX.app (by
    unfold tpR
    refine FgX.app tpG_f9 ?_
    split
    · exact FgX.cons fg_1 FgX.nil
    · exact FgX.nil) (tbO_f9 (R := r) (first := false))
theorem ntD_w {o : Int} {H : HY9} {W : Int} : ∀ {N : List (List Int)} {n : Int} {G : GS9} {q : GS9 × List (Int × Int)}, ntD o H W N n G = .inl q → ∃ Z, q.1.2.1 = G.2.1 ++ Z ∧ (nA9 q.2).map (lnG (G.2.1 ++ Z)) = Z ∧ ∀ z ∈ Z, z.2.1 = o ∧ (0 ≤ z.2.2 ∧ z.2.2 ≤ 3)
  | [], n, G, q, h => by
    have e : (G, []) = q := Sum.inl.inj h
    rw [← e]
    exact ⟨[], (List.append_nil _).symm, rfl, fun z hz => absurd hz List.not_mem_nil⟩
  | N :: r, n, G, q, h => by
    unfold ntD at h
    cases h1 : gAll o false (prN (ntP n) ((ntP n).length : Int) 0 W (pkL N) 0 (ntX H W (pkL N) n)) G with
    | inr e =>
      simp only [h1] at h
      cases h
    | inl G1 =>
      simp only [h1] at h
      cases h2 : ntD o H W r (n + 1) G1 with
      | inr e =>
        simp only [h2] at h
        cases h
      | inl q1 =>
        simp only [h2] at h
        have e := Sum.inl.inj h
        obtain ⟨Z, z1, z2, z3⟩ := ntD_w h2
        have gl := (gAll_l h1).1
        have fx := prN_f9 (P := ntP n) (hg := ((ntP n).length : Int)) (J := 0) (W := W) (U := pkL N) (hold := 0) (X := ntX H W (pkL N) n)
        generalize (prN (ntP n) ((ntP n).length : Int) 0 W (pkL N) 0 (ntX H W (pkL N) n)) = X at gl fx
        have ll : G1.2.1.length = G.2.1.length + (X.map (fun x => ((x.1, o, x.2) : GL9))).length := by
          rw [gl, List.length_append]
        refine ⟨X.map (fun x => ((x.1, o, x.2) : GL9)) ++ Z, ?_, ?_, fun z hz => ?_⟩
        · rw [← e]
          show q1.1.2.1 = _
          rw [z1, gl, List.append_assoc]
        · rw [← e]
          have : nA9 (((G.2.1.length : Int), (G1.2.1.length : Int)) :: q1.2) = seqN G.2.1.length (X.map (fun x => ((x.1, o, x.2) : GL9))).length ++ nA9 q1.2 := by
            show seqN ((G.2.1.length : Int)).toNat ((G1.2.1.length : Int) - (G.2.1.length : Int)).toNat ++ nA9 q1.2 = _
            rw [Int.toNat_natCast, show ((G1.2.1.length : Int) - (G.2.1.length : Int)).toNat = (X.map (fun x => ((x.1, o, x.2) : GL9))).length by omega]
          show (nA9 (((G.2.1.length : Int), (G1.2.1.length : Int)) :: q1.2)).map _ = _
          rw [this, List.map_append, seqN_ln]
          rw [gl, List.append_assoc] at z2
          rw [z2]
        · rcases List.mem_append.mp hz with c | c
          · obtain ⟨x, hx, ex⟩ := List.mem_map.mp c
            rw [← ex]
            exact ⟨rfl, fx x hx⟩
          · exact z3 z c
/-- what is shown weighs no more than the galley; lines know where they come from -/
def WtI (b : BK9) : Prop := wW9 b.2.1.1 b.2.1.2 b.2.2.1.2 ≤ suM (b.2.1.1.map (·.1)) ∧ ∀ x ∈ b.2.1.1, (0 ≤ x.2.1 ∧ x.2.1 ≤ 5000) ∧ (0 ≤ x.2.2 ∧ x.2.2 ≤ 3)
theorem WtI.ad {b b' : BK9} {Y Z : List GL9} {sps : List (Int × Int)} {m : Nat} (w : WtI b) (h : FlW b.2.1.1.length b.2.1.2) (hs : SpP b.2.1.1.length b.2.2.1.2) (hn : (nA9 sps).map (lnG (b.2.1.1 ++ (Y ++ Z))) = Z) (e1 : b'.2.1.1 = b.2.1.1 ++ (Y ++ Z)) (e2 : b'.2.1.2 = b.2.1.2 ++ List.replicate m (-2) ++ seqZ b.2.1.1.length Y.length) (e3 : b'.2.2.1.2 = b.2.2.1.2 ++ sps) (ho : ∀ x ∈ Y ++ Z, (0 ≤ x.2.1 ∧ x.2.1 ≤ 5000) ∧ (0 ≤ x.2.2 ∧ x.2.2 ≤ 3)) : WtI b' := by
  refine ⟨?_, fun x hx => ?_⟩
  · rw [e1, e2, e3, wW9_add h hs hn, List.map_append, List.map_append, suM_app, suM_app]
    have := w.1
    omega
  · rw [e1] at hx
    rcases List.mem_append.mp hx with c | c
    · exact w.2 x c
    · exact ho x c
section
variable {o hg sp : Int} {E : TE} {H : HY9} {S P T Lt : List Int} {item : Bool} {b b' : BK9} {g : HG9}
theorem WtI.bl {s : TS} {X : List (List Int × Int)} {G1 : GS9} (hX : FgX X) (ho : 0 ≤ o ∧ o ≤ 5000) (h : RI9 b g) (w : WtI b) (e : gAll o true X ((s.1.1, s.1.2.1), b.2.1.1, flS b sp) = .inl G1) : WtI (blG (s, b.2) G1) := by
  have gl := gAll_l e
  obtain ⟨m, hm, -⟩ := flS_x (b := b) (sp := sp)
  refine w.ad (Y := X.map (fun x => ((x.1, o, x.2) : GL9))) (Z := []) (sps := []) (m := m) h.2.2.2.1 h.2.2.2.2.2.1.2.2 rfl ?_ ?_ (List.append_nil _).symm (fun x hx => ?_)
  · show G1.2.1 = _
    rw [gl.1, List.append_nil]
  · show G1.2.2 = _
    rw [gl.2.1, if_pos rfl, List.length_map]
    show flS b sp ++ _ = _
    rw [hm]
  · rw [List.append_nil] at hx
    obtain ⟨y, hy, ey⟩ := List.mem_map.mp hx
    rw [← ey]
    exact ⟨ho, hX y hy⟩
theorem txD_w (ho : 0 ≤ o ∧ o ≤ 5000) (h : RI9 b g) (w : WtI b) (e : txD o E H S P hg sp item T b = .inl b') : WtI b' := by
  unfold txD at e
  cases w1 : wkD 30 E false [] T (tx0 b.1) with
  | inr x =>
    simp only [w1] at e
    cases e
  | inl s1 =>
    simp only [w1] at e
    by_cases c1 : mkd b.1 s1 = true ∧ foP (pkL s1.2.1) = -1
    · rw [if_pos c1] at e
      cases e
    · rw [if_neg c1] at e
      by_cases c2 : pkL s1.2.1 = [] ∧ item = false
      · rw [if_pos c2] at e
        rw [← Sum.inl.inj e]
        exact w
      · rw [if_neg c2] at e
        unfold txF at e
        generalize hX : txX H S P hg (pkL s1.2.1) = X at e
        cases hG : gAll o true (prN P hg (S.getD 2 0) (S.getD 0 0) (pkL s1.2.1) (S.getD 7 0) X) ((s1.1.1, s1.1.2.1), b.2.1.1, flS b sp) with
        | inr x =>
          simp only [hG] at e
          cases e
        | inl G1 =>
          simp only [hG] at e
          unfold txN at e
          cases hN : ntD o H (S.getD 0 0) s1.2.2.2.2.2.1.1 (b.1.2.2.2.2.2.1.2.2 + 1) G1 with
          | inr x =>
            simp only [hN] at e
            cases e
          | inl q =>
            simp only [hN] at e
            have e := Sum.inl.inj e
            obtain ⟨Z, z1, z2, z3⟩ := ntD_w hN
            have n4 := ((ntD_g (o := o) (H := H) (W := S.getD 0 0)).1 q hN).2.2.2.1
            have gl := gAll_l hG
            obtain ⟨m, hm, -⟩ := flS_x (b := b) (sp := sp)
            have fx := prN_f9 (P := P) (hg := hg) (J := S.getD 2 0) (W := S.getD 0 0) (U := pkL s1.2.1) (hold := S.getD 7 0) (X := X)
            generalize (prN P hg (S.getD 2 0) (S.getD 0 0) (pkL s1.2.1) (S.getD 7 0) X) = X9 at gl fx
            have g1 : G1.2.1 = b.2.1.1 ++ X9.map (fun x => ((x.1, o, x.2) : GL9)) := gl.1
            rw [← e]
            refine w.ad (Y := X9.map (fun x => ((x.1, o, x.2) : GL9))) (Z := Z) (sps := q.2) (m := m) h.2.2.2.1 h.2.2.2.2.2.1.2.2 ?_ ?_ ?_ rfl (fun x hx => ?_)
            · rw [g1, List.append_assoc] at z2
              exact z2
            · show q.1.2.1 = _
              rw [z1, g1, List.append_assoc]
            · show q.1.2.2 = _
              rw [n4, gl.2.1, if_pos rfl, List.length_map]
              show flS b sp ++ _ = _
              rw [hm]
            · rcases List.mem_append.mp hx with c | c
              · obtain ⟨y, hy, ey⟩ := List.mem_map.mp c
                rw [← ey]
                exact ⟨ho, fx y hy⟩
              · have q := z3 x c
                exact ⟨by rw [q.1]; exact ho, q.2⟩
theorem hgD_w {l : Nat} {g' : HG9} (ho : 0 ≤ o ∧ o ≤ 5000) (h : RI9 b g) (w : WtI b) (e : hgD o E H S Lt l T b g = .inl (b', g')) : WtI b' := by
  unfold hgD at e
  by_cases c60 : 60 ≤ g.1.length
  · rw [if_pos c60] at e
    cases e
  · rw [if_neg c60] at e
    cases w1 : wkD 30 (hgE E Lt) false [] T (hgS Lt b.1) with
    | inr x =>
      simp only [w1] at e
      cases e
    | inl s1 =>
      simp only [w1] at e
      unfold hgP at e
      generalize hX : hgX H (S.getD 0 0) ((Lt.length : Int) + 1) ((pkL s1.2.1).map boC) = X at e
      cases hG : gAll o true (prN [] ((Lt.length : Int) + 1) 0 (S.getD 0 0) ((pkL s1.2.1).map boC) 9999 X) ((s1.1.1, s1.1.2.1), b.2.1.1, flS b (max 1 (S.getD 8 0))) with
      | inr x =>
        simp only [hG] at e
        cases e
      | inl G1 =>
        simp only [hG] at e
        have e := Sum.inl.inj e
        have e1 := (Prod.mk.inj e).1
        have w2 := WtI.bl (s := s1) prN_f9 ho h w hG
        rw [← e1]
        exact w2
theorem rwD_w {M : List Int} {at9 nx : Nat} (ho : 0 ≤ o ∧ o ≤ 5000) (h : RI9 b g) (w : WtI b) (e : rwD o S M at9 nx b = .inl b') : WtI b' := by
  unfold rwD at e
  cases hG : gAll o true (rwL M (S.getD 0 0) (nx - at9) at9) ((b.1.1.1, b.1.1.2.1), b.2.1.1, flS b (S.getD 8 0)) with
  | inr x =>
    simp only [hG] at e
    cases e
  | inl G1 =>
    simp only [hG] at e
    rw [← Sum.inl.inj e]
    exact WtI.bl (s := b.1) rwL_f9 ho h w hG
theorem ctD_w {f s : Int} {B : HG9} (ho : 0 ≤ o ∧ o ≤ 5000) (h : RI9 b g) (w : WtI b) (e : ctD o S f s B b = .inl b') : WtI b' := by
  unfold ctD at e
  by_cases c : B.1.length = 0
  · rw [if_pos c] at e
    rw [← Sum.inl.inj e]
    exact w
  · rw [if_neg c] at e
    cases hG : gAll o true (ctL (S.getD 0 0) f s B B.1.length 0) ((b.1.1.1, b.1.1.2.1), b.2.1.1, flS b (S.getD 8 0)) with
    | inr x =>
      simp only [hG] at e
      cases e
    | inl G1 =>
      simp only [hG] at e
      rw [← Sum.inl.inj e]
      exact WtI.bl (s := b.1) ctL_f9 ho h w hG
theorem ixD_w {f s : Int} {K : List (List Int)} {Pg : List Int} (ho : 0 ≤ o ∧ o ≤ 5000) (h : RI9 b g) (w : WtI b) (e : ixD o H S K Pg f s b = .inl b') : WtI b' := by
  unfold ixD at e
  by_cases c : K.length = 0
  · rw [if_pos c] at e
    rw [← Sum.inl.inj e]
    exact w
  · rw [if_neg c] at e
    cases hG : gAll o true (ixA H (S.getD 0 0) K Pg f s (orD K K.length)) ((b.1.1.1, b.1.1.2.1), b.2.1.1, flS b (S.getD 8 0)) with
    | inr x =>
      simp only [hG] at e
      cases e
    | inl G1 =>
      simp only [hG] at e
      rw [← Sum.inl.inj e]
      exact WtI.bl (s := b.1) ixA_f9 ho h w hG
theorem tbF_w {M : List Int} {at9 nx : Nat} (ho : 0 ≤ o ∧ o ≤ 5000) (h : RI9 b g) (w : WtI b) (e : tbF o E H S M at9 nx b = .inl b') : WtI b' := by
  unfold tbF at e
  cases hA : tbA E M (tbL M at9 nx) b.1 with
  | inr x =>
    simp only [hA] at e
    cases e
  | inl q =>
    simp only [hA] at e
    by_cases c : tbC q.1.1 = 0
    · rw [if_pos c] at e
      rw [← Sum.inl.inj e]
      exact w
    · rw [if_neg c] at e
      cases hG : gAll o true (tbO H (nwD9 (S.getD 0 0) (tbC q.1.1) (tbQ q.1.1)) q.1.2 (tbC q.1.1) true q.1.1) ((q.2.1.1, q.2.1.2.1), b.2.1.1, flS b (S.getD 8 0)) with
      | inr x =>
        simp only [hG] at e
        cases e
      | inl G1 =>
        simp only [hG] at e
        rw [← Sum.inl.inj e]
        exact WtI.bl (s := q.2) tbO_f9 ho h w hG
theorem WtI.cu (w : WtI b) : WtI (cuB b) := by
  refine ⟨?_, w.2⟩
  show suM ((b.2.1.2 ++ [-3]).map (gwF b.2.1.1)) + wtN b.2.1.1 (nA9 b.2.2.1.2) ≤ _
  rw [List.map_append, suM_app]
  have e : suM (([-3] : List Int).map (gwF b.2.1.1)) = 0 := by
    show (gwF b.2.1.1 (-3)).length + 0 = 0
    rw [show gwF b.2.1.1 (-3) = [] from if_neg (by decide)]
    rfl
  rw [e]
  exact w.1
end
section
variable {B : BF9} {M : List Int} {i : Nat} {jo : Bool} {d d' : RD9}
theorem WtI.up {r : BK9 ⊕ (Int × Int × Int)} (hr : ∀ b, r = .inl b → WtI b) (e : upB d r = .inl d') : WtI d'.1 := by
  cases r with
  | inr x => cases e
  | inl b =>
    rw [← Sum.inl.inj e]
    exact hr b rfl
theorem blD_w (hi : i < 5000) (h : RI9 d.1 d.2.1) (w : WtI d.1) (e : blD B M i jo d = .inl d') : WtI d'.1 := by
  have ho : 0 ≤ (i : Int) + 1 ∧ (i : Int) + 1 ≤ 5000 := by omega
  unfold blD at e
  by_cases k1 : kdL M i = 1
  · rw [if_pos k1] at e
    unfold dirD at e
    cases hx : drD (lnU M i) d.2.2.1 d.1.1 with
    | inr x =>
      simp only [hx] at e
      cases e
    | inl x =>
      simp only [hx] at e
      have u := drD_u.1 x hx
      have r1 : RI9 (x.2, d.1.2) d.2.1 := h.wk u
      have w1 : WtI (x.2, d.1.2) := w
      unfold diD at e
      by_cases c1 : drT (lnU M i) = 1
      · rw [if_pos c1] at e
        exact WtI.up (fun b hb => ctD_w ho r1 w1 hb) e
      · rw [if_neg c1] at e
        by_cases c2 : drT (lnU M i) = 2
        · rw [if_pos c2] at e
          exact WtI.up (fun b hb => ixD_w ho r1 w1 hb) e
        · rw [if_neg c2] at e
          by_cases c3 : drT (lnU M i) = 3
          · rw [if_pos c3] at e
            rw [← Sum.inl.inj e]
            exact w1.cu
          · rw [if_neg c3] at e
            rw [← Sum.inl.inj e]
            exact w1
  · rw [if_neg k1] at e
    by_cases k2 : kdL M i = 2
    · rw [if_pos k2] at e
      unfold heaD at e
      generalize hl : (lvL (lnU M i)).toNat = l at e
      cases hx : hgD ((i : Int) + 1) (rdE B d.2.2.1 d.2.2.2.2.2) (rdH d.2.2.1) d.2.2.1.1 (hgJ (hgN d.2.2.2.1 l) l) l (tpT (sgT M (((mlL M).getD i (0, 0)).1 + (l + 1)) ((mlL M).getD i (0, 0)).2)) d.1 d.2.1 with
      | inr x =>
        simp only [hx] at e
        cases e
      | inl x =>
        simp only [hx] at e
        have w2 := hgD_w (g' := x.2) (b' := x.1) ho h w (by rw [hx])
        rw [← Sum.inl.inj e]
        exact w2
    · rw [if_neg k2] at e
      by_cases k3 : kdL M i = 3
      · rw [if_pos k3] at e
        exact WtI.up (fun b hb => tbF_w ho h w hb) e
      · rw [if_neg k3] at e
        by_cases k4 : kdL M i = 4
        · rw [if_pos k4] at e
          exact WtI.up (fun b hb => rwD_w ho h w hb) e
        · rw [if_neg k4] at e
          by_cases k5 : kdL M i = 5
          · rw [if_pos k5] at e
            unfold itmD at e
            cases hx : txD ((i : Int) + 1) (itE (rdE B d.2.2.1 d.2.2.2.2.2) d.2.2.2.2.1 (itQ (lnU M i)) jo (itH (lnU M i))) (rdH d.2.2.1) d.2.2.1.1 (itP d.2.2.2.2.1 (itQ (lnU M i)) jo (itH (lnU M i))) ((itP d.2.2.2.2.1 (itQ (lnU M i)) jo (itH (lnU M i))).length : Int) (if jo = true then 0 else d.2.2.1.1.getD 8 0) true (tpT (sgT M (((mlL M).getD i (0, 0)).1 + (2 * itQ (lnU M i) + 2)) ((mlL M).getD (bnE M i - 1) (0, 0)).2)) d.1 with
            | inr x =>
              simp only [hx] at e
              cases e
            | inl b1 =>
              simp only [hx] at e
              have w2 := txD_w ho h w hx
              rw [← Sum.inl.inj e]
              exact w2
          · rw [if_neg k5] at e
            exact WtI.up (fun b hb => txD_w ho h w hb) e
theorem rnD_w (hB : BfI B) (hMb : smB M) (hM4 : M.length ≤ 4000) (hml : (mlL M).length ≤ 4001) : ∀ {n i : Nat} {jo : Bool} {ln : Int} {d : RD9} {x : RD9 × Int}, i ≤ (mlL M).length → RDI d i → WtI d.1 → rnD B M n i jo ln d = .inl x → WtI x.1.1
  | 0, i, jo, ln, d, x, hi, h, w, e => by
    rw [← Sum.inl.inj e]
    exact w
  | n + 1, i, jo, ln, d, x, hi, h, w, e => by
    unfold rnD at e
    by_cases c1 : (mlL M).length ≤ i
    · rw [if_pos c1] at e
      rw [← Sum.inl.inj e]
      exact w
    · rw [if_neg c1] at e
      by_cases c2 : kdL M i = 0
      · rw [if_pos c2] at e
        exact rnD_w hB hMb hM4 hml (by omega) (h.mo (by omega)) w e
      · rw [if_neg c2] at e
        by_cases c3 : 60000 < d.1.1.1.1 + 15 ∨ 400000 < d.1.1.1.2.1 + 15
        · rw [if_pos c3] at e
          cases e
        · rw [if_neg c3] at e
          cases hx : blD B M i jo (b15 d.1, d.2) with
          | inr y =>
            simp only [hx] at e
            cases e
          | inl d1 =>
            simp only [hx] at e
            have bn := bnE_l (M := M) (i := i) (by omega)
            have r0 := (h.1.sp (by omega) (by omega)).1
            exact rnD_w hB hMb hM4 hml bn.2 (blD_i hB hMb hM4 (by omega) h c3 hx) (blD_w (d := (b15 d.1, d.2)) (by omega) r0 w hx) e
theorem rouD_w (hB : BfI B) (hMb : smB M) (hM4 : M.length ≤ 4000) (hml : (mlL M).length ≤ 4001) {w : Int × Int} (h1 : 0 ≤ w.1) (h2 : 0 ≤ w.2) {x : RD9 × Int} (e : rouD B M w = .inl x) : WtI x.1.1 := by
  unfold rouD at e
  by_cases c : 60000 < w.1 + ((mlL M).length : Int) ∨ 400000 < w.2 + ((mlL M).length : Int)
  · rw [if_pos c] at e
    cases e
  · rw [if_neg c] at e
    exact rnD_w hB hMb hM4 hml (Nat.zero_le _) (rd0_i (by show 0 ≤ w.1 + _ ∧ w.1 + _ ≤ _; omega) (by show 0 ≤ w.2 + _ ∧ w.2 + _ ≤ _; omega)) ⟨Nat.le_refl _, fun x hx => absurd hx List.not_mem_nil⟩ e
end
