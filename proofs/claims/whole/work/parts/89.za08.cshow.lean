/-! A PROOF, the class: its lines -/
/-- lines shown, and the line under way -/
def PoC (σ : MS) (L : List GL9) (C : List Int) : Prop := mX σ 214 = (L.map (·.1)).flatten ++ C ∧ mX σ 216 = enS 0 (L.map (·.1)) ∧ mX σ 218 = L.map (·.2.1) ∧ mX σ 222 = (L.map (·.1)).map hsh
/-- how many lines end in a hyphen that was put -/
def puN : List GL9 → Int
  | [] => 0
  | x :: r => bZ (decide (2 ≤ x.2.2)) + puN r
theorem puN_a : ∀ {L M : List GL9}, puN (L ++ M) = puN L + puN M
  | [], M => (Int.zero_add _).symm
  | x :: L, M => by
    show bZ (decide (2 ≤ x.2.2)) + puN (L ++ M) = bZ (decide (2 ≤ x.2.2)) + puN L + puN M
    rw [puN_a]
    omega
theorem puN_b : ∀ {L : List GL9}, 0 ≤ puN L ∧ puN L ≤ (L.length : Int)
  | [] => ⟨Int.le_refl _, Int.le_refl _⟩
  | x :: L => by
    have ih := puN_b (L := L)
    have b := bZ_01 (b := decide (2 ≤ x.2.2))
    show 0 ≤ bZ (decide (2 ≤ x.2.2)) + puN L ∧ bZ (decide (2 ≤ x.2.2)) + puN L ≤ ((L.length + 1 : Nat) : Int)
    omega
/-- what showing leaves -/
def FrSw (σ σ' : MS) : Prop := (∀ q, q ∉ [214, 216, 218, 220, 222, 226] → mX σ' q = mX σ q) ∧ σ'.2.2 = σ.2.2 ∧ ∀ y k, y ≠ 228 → mV σ' y k = mV σ y k
def SwC (σ : MS) (L : List GL9) : Prop := PoC σ L [] ∧ mV σ 228 8 = puN L
/-- the galley for showing -/
def GwC (σ : MS) (F : List Int) (Ls : List GL9) (A : List Int) (sp : List (Int × Int)) : Prop := PgC σ F Ls A sp ∧ (mX σ 130 = (Ls.map (·.1)).flatten ∧ mX σ 132 = enS 0 (Ls.map (·.1)) ∧ mX σ 134 = Ls.map (·.2.1))
theorem hsh_s9 {U : List Int} {x : Int} : hsh (U ++ [x]) = wr (wr (hsh U * 31) + x % 128) := by
  unfold hsh
  rw [List.foldl_append]
  rfl
section
variable {σ σ0 σ1 σ2 : MS} {Q : MQ9} {F : List Int} {Ls L : List GL9} {A C : List Int} {sp : List (Int × Int)} {o : Int}
theorem FrSw.rf : FrSw σ σ := ⟨fun _ _ => rfl, rfl, fun _ _ _ => rfl⟩
theorem FrSw.tr (h : FrSw σ σ1) (h' : FrSw σ1 σ2) : FrSw σ σ2 := ⟨fun q a => (h'.1 q a).trans (h.1 q a), h'.2.1.trans h.2.1, fun y k a => (h'.2.2 y k a).trans (h.2.2 y k a)⟩
theorem GwC.fr (h : GwC σ F Ls A sp) (f : FrSw σ σ1) : GwC σ1 F Ls A sp := by
  obtain ⟨⟨a1, a2, a3, a4, a5⟩, b1, b2, b3⟩ := h
  exact ⟨⟨(f.1 _ (by decide)).trans a1, (f.1 _ (by decide)).trans a2, (f.1 _ (by decide)).trans a3, (f.1 _ (by decide)).trans a4, (f.1 _ (by decide)).trans a5⟩, (f.1 _ (by decide)).trans b1, (f.1 _ (by decide)).trans b2, (f.1 _ (by decide)).trans b3⟩
/-- what closing a line leaves -/
def FrCx (σ σ' : MS) : Prop := (∀ q, q ∉ [214, 216, 218, 222] → mX σ' q = mX σ q) ∧ σ'.2 = σ.2
theorem FrCx.sw (h : FrCx σ σ1) : FrSw σ σ1 := ⟨fun q a => h.1 q (fun e => a (by
  simp only [List.mem_cons, List.not_mem_nil, or_false] at e ⊢
  omega)), congrArg Prod.snd h.2, fun y k _ => congrFun (congrFun (congrArg Prod.fst h.2) y) k⟩
theorem pcl_17 {fl : Int} (ho : Rg o) (hl : L.length ≤ 6100) (hs : suM (L.map (·.1)) + C.length ≤ 131000) (h : PoC σ L C) (hq : ∀ σ', PoC σ' (L ++ [(C, o, fl)]) [] → FrCx σ σ' → Q (.inl none) σ') : ∀ (n k : Nat), k + n = C.length → Proof_closeLine_17 212 o (hsh (C.take k)) ((suM (L.map (·.1)) + k : Nat) : Int) σ Q := by
  obtain ⟨h1, h2, h3, h4⟩ := h
  have l14 : (mX σ 214).length = suM (L.map (·.1)) + C.length := by rw [h1, List.length_append, flt_l]
  have l22 : (mX σ 222).length = L.length := by rw [h4, List.length_map, List.length_map]
  have l18 : (mX σ 218).length = L.length := by rw [h3, List.length_map]
  have l16 : (mX σ 216).length = L.length := by rw [h2, enS_len, List.length_map]
  have c22 : capOf 222 = 8192 := by decide
  have c18 : capOf 218 = 8192 := by decide
  have c16 : capOf 216 = 8192 := by decide
  intro n
  induction n with
  | zero =>
    intro k hk
    have ek : k = C.length := by omega
    refine Proof_closeLine_17.i (tB.i (by decide) (tB.i (by decide) (tB.i (by decide) ⟨by unfold Rg; omega, fun _ => tB.i (by decide) (tB.i (by decide) (tB.i (by decide) ⟨?_, tB.i (by decide) (tB.i (by decide) (tB.i (by decide) ⟨ho, ?_, tB.i (by decide) (tB.i (by decide) (Shelf_close.i (tB.i (by decide) (tB.i (by decide) (tB.i (by decide) (tB.i (by decide) (tB.i (by decide) ⟨?_, ?_⟩)))))))⟩))⟩)), fun h => ?_⟩)))
    · show (mX σ 222).length < capOf 222
      omega
    · show (mX σ 218).length < capOf 218
      omega
    · show (mX σ 216).length < capOf 216
      omega
    · rw [ek, List.take_length]
      refine hq _ ⟨?_, ?_, ?_, ?_⟩ ⟨fun q hq9 => ?_, rfl⟩
      · show mX σ 214 = ((L ++ [(C, o, fl)]).map (·.1)).flatten ++ []
        rw [h1, mp_sn, List.flatten_append, List.append_nil]
        show _ ++ C = _ ++ (C ++ [])
        rw [List.append_nil]
      · show mX σ 216 ++ [((mX σ 214).length : Int)] = enS 0 ((L ++ [(C, o, fl)]).map (·.1))
        rw [mp_sn]
        refine shR.close (σ := σ) (q := 213) ?_ h2
        show mX σ 214 = _
        rw [h1, List.flatten_append]
        show _ ++ C = _ ++ (C ++ [])
        rw [List.append_nil]
      · show mX σ 218 ++ [o] = (L ++ [(C, o, fl)]).map (·.2.1)
        rw [h3, List.map_append]
        rfl
      · show mX σ 222 ++ [hsh C] = ((L ++ [(C, o, fl)]).map (·.1)).map hsh
        rw [h4, mp_sn, List.map_append]
        rfl
      · simp only [List.mem_cons, List.not_mem_nil, or_false, not_or] at hq9
        exact (wX_ne hq9.2.1).trans ((wX_ne hq9.2.2.1).trans (wX_ne hq9.2.2.2))
    · have h : ((suM (L.map (·.1)) + k : Nat) : Int) < ((mX σ 214).length : Int) := h
      omega
  | succ n ih =>
    intro k hk
    refine Proof_closeLine_17.i (tB.i (by decide) (tB.i (by decide) (tB.i (by decide) ⟨by unfold Rg; omega, fun h => ?_, fun _ => tB.i (by decide) (tB.i (by decide) (tB.i (by decide) (tB.i (by decide) ⟨by unfold Rg; omega, ?_⟩)))⟩)))
    · have h : ((mX σ 214).length : Int) ≤ ((suM (L.map (·.1)) + k : Nat) : Int) := h
      omega
    · show Proof_closeLine_17 212 o (wr (wr (hsh (C.take k) * 31) + rgt (mX σ 214) ((suM (L.map (·.1)) + k : Nat) : Int) % 128)) (((suM (L.map (·.1)) + k : Nat) : Int) + 1) σ Q
      have e : rgt (mX σ 214) ((suM (L.map (·.1)) + k : Nat) : Int) = C.getD k 0 := by
        rw [rgt_n (by omega), h1, ← flt_l]
        exact ap_r
      rw [e, ← hsh_s9, ← take_sn (by omega), show ((suM (L.map (·.1)) + k : Nat) : Int) + 1 = ((suM (L.map (·.1)) + (k + 1) : Nat) : Int) by omega]
      exact ih (k + 1) (by omega)
/-- a line is closed -/
theorem Proof_closeLine.c {fl : Int} (ho : Rg o) (hl : L.length ≤ 6100) (hs : suM (L.map (·.1)) + C.length ≤ 131000) (h : PoC σ L C) (hq : ∀ σ', PoC σ' (L ++ [(C, o, fl)]) [] → FrCx σ σ' → Q (.inl none) σ') : Proof_closeLine 212 o σ Q := by
  refine Proof_closeLine.i (tB.i (by decide) (tB.i (by decide) (tB.i (by decide) (Shelf_rows.i (tB.i (by decide) (tB.i (by decide) ?_))))))
  refine tB.i (show isShelf (212 + 1) = true by decide) (tB.i (show isShelf (212 + 1) = true by decide) ?_)
  show Proof_closeLine_17 212 o 0 (sfrM (mX σ 216) ((mX σ 216).length : Int)) σ Q
  have e : sfrM (mX σ 216) ((mX σ 216).length : Int) = ((suM (L.map (·.1)) + 0 : Nat) : Int) := by
    have q := sfr_at (p := L.map (·.1)) (rs := [])
    rw [List.append_nil] at q
    rw [h.2.1, enS_len]
    exact q
  rw [e]
  exact pcl_17 (fl := fl) ho hl hs h hq C.length 0 (Nat.zero_add _)
/-- an empty line -/
theorem pcl_0 (hl : L.length ≤ 6000) (hs : suM (L.map (·.1)) ≤ 70000) (h : SwC σ L) (hq : ∀ σ', SwC σ' (L ++ [([], 0, 0)]) → FrSw σ σ' → mX σ' 220 = mX σ 220 → Q (.inl none) σ') : Proof_closeLine 212 0 σ Q := by
  refine Proof_closeLine.c (C := []) (fl := 0) (by decide) (by omega) (by show _ + 0 ≤ _; omega) h.1 (fun σ1 p1 f1 => hq σ1 ⟨p1, ?_⟩ f1.sw (f1.1 _ (by decide)))
  have e : mV σ1 228 8 = mV σ 228 8 := congrFun (congrFun (congrArg Prod.fst f1.2) 228) 8
  rw [e, h.2, puN_a]
  show puN L = puN L + (0 + 0)
  omega
theorem gl_map1 {l : Nat} (hl : l < Ls.length) : rgt (Ls.map (·.2.1)) (l : Int) = (Ls.getD l ([], 0, 0)).2.1 ∧ rgt (Ls.map (·.2.2)) (l : Int) = (Ls.getD l ([], 0, 0)).2.2 ∧ (Ls.map (·.1)).getD l [] = (Ls.getD l ([], 0, 0)).1 := by
  refine ⟨?_, ?_, ?_⟩
  · rw [rgt_n (by rw [List.length_map]; exact hl)]
    unfold List.getD
    rw [List.getElem?_map, List.getElem?_eq_getElem hl]
    rfl
  · rw [rgt_n (by rw [List.length_map]; exact hl)]
    unfold List.getD
    rw [List.getElem?_map, List.getElem?_eq_getElem hl]
    rfl
  · unfold List.getD
    rw [List.getElem?_map, List.getElem?_eq_getElem hl]
    rfl
theorem gl_mem {l : Nat} (hl : l < Ls.length) : Ls.getD l ([], 0, 0) ∈ Ls := by
  rw [List.getD_eq_getElem?_getD, List.getElem?_eq_getElem hl]
  exact List.getElem_mem hl
/-- a line of the galley is shown -/
theorem Proof_showMade.c {l : Nat} (hG : GwC σ F Ls A sp) (hT : suM (Ls.map (·.1)) ≤ 60000) (hLl : Ls.length ≤ 1500) (hO : ∀ x ∈ Ls, (0 ≤ x.2.1 ∧ x.2.1 ≤ 5000) ∧ (0 ≤ x.2.2 ∧ x.2.2 ≤ 3)) (hll : l < Ls.length) (hl : L.length ≤ 6000) (hs : suM (L.map (·.1)) ≤ 70000) (h : SwC σ L) (hq : ∀ σ', SwC σ' (L ++ [Ls.getD l ([], 0, 0)]) → FrSw σ σ' → mX σ' 220 = mX σ 220 → Q (.inl none) σ') : Proof_showMade 212 (l : Int) σ Q := by
  have hC := hG.1
  obtain ⟨-, b1, b2, b3⟩ := hG
  obtain ⟨m1, m2, m3⟩ := gl_map1 hll
  obtain ⟨⟨o1, o2⟩, f1, f2⟩ := hO _ (gl_mem hll)
  have hsh : shR σ 129 (Ls.map (·.1)) := ⟨b1, b2⟩
  obtain ⟨q1, q2, q3⟩ := shR.at (k := l) hsh (by rw [List.length_map]; exact hll) (by decide) (by omega)
  rw [m3] at q2 q3
  have q1 : sfrM (mX σ 132) (l : Int) = ((suM ((Ls.map (·.1)).take l) : Nat) : Int) := q1
  have q2 : stoM (mX σ 132) (l : Int) = ((suM ((Ls.map (·.1)).take l) + (Ls.getD l ([], 0, 0)).1.length : Nat) : Int) := q2
  have tk := suM_at9 (K := Ls.map (·.1)) (i := l) (by rw [List.length_map]; exact hll)
  rw [m3] at tk
  have po := q3.pour (p := 0) (b := (Ls.getD l ([], 0, 0)).1.length) (Nat.zero_le _) (Nat.le_refl _)
  have po : pourM (rgt (mX σ 130)) (Ls.getD l ([], 0, 0)).1.length ((suM ((Ls.map (·.1)).take l) : Nat) : Int) = (Ls.getD l ([], 0, 0)).1 := by
    rw [Nat.sub_zero, Nat.add_zero] at po
    rw [show sgT (Ls.getD l ([], 0, 0)).1 0 (Ls.getD l ([], 0, 0)).1.length = (Ls.getD l ([], 0, 0)).1 by
      unfold sgT
      rw [List.drop_zero, Nat.sub_zero, List.take_length]] at po
    exact po
  have rl : Rg (l : Int) := by unfold Rg; omega
  have c14 : capOf 214 = 131072 := by decide
  have l14 : (mX σ 214).length = suM (L.map (·.1)) := by rw [h.1.1, List.append_nil, flt_l]
  refine Proof_showMade.i (tB.i (by decide) (tB.i (by decide) ⟨rl, rl, tB.i (by decide) (tB.i (by decide) (tB.i (by decide) ?_))⟩))
  show (mX σ 214).length + (stoM (mX σ 132) (l : Int) - sfrM (mX σ 132) (l : Int)).toNat ≤ capOf 214 ∧ Rg (l : Int) ∧ tB (isProof 212) (Proof_closeLine 212 (rgt (mX (wX σ 214 (mX σ 214 ++ pourM (rgt (mX σ 130)) (stoM (mX σ 132) (l : Int) - sfrM (mX σ 132) (l : Int)).toNat (sfrM (mX σ 132) (l : Int)))) 134) (l : Int)) (wX σ 214 (mX σ 214 ++ pourM (rgt (mX σ 130)) (stoM (mX σ 132) (l : Int) - sfrM (mX σ 132) (l : Int)).toNat (sfrM (mX σ 132) (l : Int)))) _)
  rw [q1, q2, show (((suM ((Ls.map (·.1)).take l) + (Ls.getD l ([], 0, 0)).1.length : Nat) : Int) - ((suM ((Ls.map (·.1)).take l) : Nat) : Int)).toNat = (Ls.getD l ([], 0, 0)).1.length by omega, po]
  refine ⟨by omega, rl, tB.i (by decide) ?_⟩
  have e134 : mX (wX σ 214 (mX σ 214 ++ (Ls.getD l ([], 0, 0)).1)) 134 = Ls.map (·.2.1) := (wX_ne (by decide)).trans b3
  rw [e134, m1]
  have pC : PoC (wX σ 214 (mX σ 214 ++ (Ls.getD l ([], 0, 0)).1)) L (Ls.getD l ([], 0, 0)).1 := by
    refine ⟨?_, (wX_ne (by decide)).trans h.1.2.1, (wX_ne (by decide)).trans h.1.2.2.1, (wX_ne (by decide)).trans h.1.2.2.2⟩
    rw [wX_self, h.1.1, List.append_nil]
  refine Proof_closeLine.c (fl := (Ls.getD l ([], 0, 0)).2.2) (by unfold Rg; omega) (by omega) (by omega) pC (fun σ2 p2 g2 => ?_)
  have eX : mX σ2 136 = Ls.map (·.2.2) := (g2.1 _ (by decide)).trans ((wX_ne (by decide)).trans hC.2.1)
  have e228 : mV σ2 228 8 = puN L := (congrFun (congrFun (congrArg Prod.fst g2.2) 228) 8).trans h.2
  have f0 : FrSw σ (wX σ 214 (mX σ 214 ++ (Ls.getD l ([], 0, 0)).1)) := ⟨fun q a => wX_ne (fun e => a (by rw [e]; decide)), rfl, fun _ _ _ => rfl⟩
  have fr2 : FrSw σ σ2 := f0.tr g2.sw
  have e220 : mX σ2 220 = mX σ 220 := (g2.1 _ (by decide)).trans (wX_ne (by decide))
  have pb := puN_b (L := L)
  show Rg (l : Int) ∧ ((rgt (mX σ2 136) (l : Int) % 4 - rgt (mX σ2 136) (l : Int) % 2 = 0 → Q (.inl none) σ2) ∧ (¬ rgt (mX σ2 136) (l : Int) % 4 - rgt (mX σ2 136) (l : Int) % 2 = 0 → tB (isProof 212) (tB (arB 228 0 13) ((0 : Int) ≤ 8 ∧ (8 : Int) < 13 ∧ tB (arB 228 0 13) ((0 : Int) ≤ 8 ∧ (8 : Int) < 13 ∧ Rg (mV σ2 228 8 + 1) ∧ Q (.inl none) (wV σ2 228 8 (mV σ2 228 8 + 1)))))))
  rw [eX, m2]
  refine ⟨rl, fun hz => hq σ2 ⟨p2, ?_⟩ fr2 e220, fun hz => tB.i (by decide) (tB.i (by decide) ⟨by decide, by decide, tB.i (by decide) ⟨by decide, by decide, by rw [e228]; unfold Rg; omega, hq _ ⟨p2, ?_⟩ ⟨fr2.1, fr2.2.1, fun y k a => (wV_ne (Or.inl a)).trans (fr2.2.2 y k a)⟩ e220⟩⟩)⟩
  · rw [e228, puN_a]
    show _ = _ + (bZ (decide (2 ≤ (Ls.getD l ([], 0, 0)).2.2)) + 0)
    rw [bZ_f (decide_eq_false (by omega))]
    omega
  · rw [wV_self, e228, puN_a]
    show _ = _ + (bZ (decide (2 ≤ (Ls.getD l ([], 0, 0)).2.2)) + 0)
    rw [bZ_t (decide_eq_true (by omega))]
    omega
/-- the lines of text -/
theorem psp_24 {room : Int} {e last : Nat} (hB : PgB room F Ls A sp) (hT : suM (Ls.map (·.1)) ≤ 60000) (hO : ∀ x ∈ Ls, (0 ≤ x.2.1 ∧ x.2.1 ≤ 5000) ∧ (0 ≤ x.2.2 ∧ x.2.2 ≤ 3)) (hlF : last < F.length) (hll : L.length + (last + 1 - e) ≤ 6000) (hss : suM (L.map (·.1)) + suM ((bdS F Ls e (last + 1 - e)).map (·.1)) ≤ 70000) (hq : ∀ σ', GwC σ' F Ls A sp → SwC σ' (L ++ bdS F Ls e (last + 1 - e)) → FrSw σ0 σ' → mX σ' 220 = mX σ0 220 → Galley_firstNote (e : Int) σ' (kI (thQ Q) fun r1 σ1 => Proof_showPage_83 212 room (e : Int) (last : Int) 0 r1 r1 σ1 Q)) : ∀ (n i : Nat) (σ : MS), i + n = last + 1 → e ≤ i → GwC σ F Ls A sp → SwC σ (L ++ bdS F Ls e (i - e)) → FrSw σ0 σ → mX σ 220 = mX σ0 220 → Proof_showPage_24 212 room (e : Int) (last : Int) (i : Int) σ Q := by
  have lf := hB.2.1
  have l5 := hB.2.2.1
  intro n
  induction n with
  | zero =>
    intro i σ hi he hG hS f0 e0
    have ei : i = last + 1 := by omega
    rw [ei] at hS
    exact Proof_showPage_24.i ⟨by unfold Rg; omega, fun _ => hq σ hG hS f0 e0, fun h => absurd h (by omega)⟩
  | succ n ih =>
    intro i σ hi he hG hS f0 e0
    have e138 : mX σ 138 = F := hG.1.1
    have bs : bdS F Ls e (i + 1 - e) = bdS F Ls e (i - e) ++ [bdL F Ls i] := by
      rw [show i + 1 - e = (i - e) + 1 by omega, bdS_s, show e + (i - e) = i by omega]
    have wb : suM ((bdS F Ls e (i - e)).map (·.1)) + suM ((bdS F Ls i (last + 1 - i)).map (·.1)) = suM ((bdS F Ls e (last + 1 - e)).map (·.1)) := by
      have q := bdS_a (F := F) (Ls := Ls) (n := i - e) (m := last + 1 - i) (e := e)
      rw [show i - e + (last + 1 - i) = last + 1 - e by omega, show e + (i - e) = i by omega] at q
      rw [q, List.map_append, suM_app]
    have lb : (L ++ bdS F Ls e (i - e)).length = L.length + (i - e) := by rw [List.length_append, bdS_l]
    have sb : suM ((L ++ bdS F Ls e (i - e)).map (·.1)) = suM (L.map (·.1)) + suM ((bdS F Ls e (i - e)).map (·.1)) := by rw [List.map_append, suM_app]
    have nx : ∀ σ', SwC σ' (L ++ bdS F Ls e (i - e) ++ [bdL F Ls i]) → FrSw σ σ' → mX σ' 220 = mX σ 220 → Proof_showPage_62 212 room (e : Int) (last : Int) (i : Int) σ' Q := fun σ' p1 f1 e1 => by
      refine Proof_showPage_62.i ?_
      rw [show (i : Int) + 1 = ((i + 1 : Nat) : Int) by omega]
      refine ih (i + 1) σ' (by omega) (by omega) (hG.fr f1) ?_ (f0.tr f1) (e1.trans e0)
      rw [bs, ← List.append_assoc]
      exact p1
    refine Proof_showPage_24.i ⟨by unfold Rg; omega, fun h => absurd h (by omega), fun _ => ⟨by unfold Rg; omega, ?_⟩⟩
    rw [e138, rgt_n (by omega)]
    refine ⟨fun h => tB.i (by decide) (pcl_0 (by omega) (by omega) hS (fun σ' p1 f1 e1 => nx σ' ?_ f1 e1)), fun h => tB.i (by decide) ?_⟩
    · rw [show bdL F Ls i = ([], 0, 0) from if_neg (by omega)]
      exact p1
    · have fb : F.getD i 0 < (Ls.length : Int) := by
        rcases hB.2.2.2.1.1 i (by omega) with x | x | x
        · omega
        · omega
        · exact x.2
      rw [show F.getD i 0 = (((F.getD i 0).toNat : Nat) : Int) by omega]
      refine Proof_showMade.c hG hT l5 hO (by omega) (by omega) (by omega) hS (fun σ' p1 f1 e1 => nx σ' ?_ f1 e1)
      rw [show bdL F Ls i = Ls.getD (F.getD i 0).toNat ([], 0, 0) from if_pos h]
      exact p1
/-- how many lines stand at the foot -/
theorem psp_83 {room : Int} {e last : Nat} (hB : PgB room F Ls A sp) (hG : GwC σ F Ls A sp) (hel : e ≤ last) (hlF : last < F.length) (hq : Proof_showPage_139 212 room (e : Int) (last : Int) (ftP A sp e last) (nB A (e : Int) : Int) σ Q) : ∀ (n k : Nat), k + n = nB A ((last : Int) + 1) → nB A (e : Int) ≤ k → Proof_showPage_83 212 room (e : Int) (last : Int) (pS sp k - pS sp (nB A (e : Int))) (nB A (e : Int) : Int) (k : Int) σ Q := by
  obtain ⟨c1, c2, c3, c4, c5⟩ := hG.1
  have la := hB.2.2.2.2.2.2.2.2
  have ls := hB.2.2.2.2.2.2.2.1
  have lf := hB.2.1
  have nl := nB_l (A := A) (x := (last : Int) + 1)
  intro n
  induction n with
  | zero =>
    intro k hk hk0
    have e9 : k = nB A ((last : Int) + 1) := by omega
    have key : Proof_showPage_139 212 room (e : Int) (last : Int) (pS sp k - pS sp (nB A (e : Int))) (nB A (e : Int) : Int) σ Q := by
      rw [e9]
      exact hq
    refine Proof_showPage_83.i ⟨by unfold Rg; omega, fun _ => key, fun h => ⟨by unfold Rg; omega, fun _ => key, fun h9 => ?_⟩⟩
    rw [c3] at h h9
    rw [rgt_n (by omega)] at h9
    rw [e9] at h h9
    exact absurd (show A.getD (nB A ((last : Int) + 1)) 0 < (last : Int) + 1 by omega) (nB_at (by omega))
  | succ n ih =>
    intro k hk hk0
    have lt := nB_lt (A := A) (x := (last : Int) + 1) (k := k) (by omega)
    refine Proof_showPage_83.i ⟨by unfold Rg; omega, fun h => ?_, fun h => ⟨by unfold Rg; omega, fun h9 => ?_, fun _ => ⟨by unfold Rg; omega, by unfold Rg; omega, ?_⟩⟩⟩
    · rw [c3] at h
      omega
    · rw [c3, rgt_n (by omega)] at h9
      omega
    · rw [c4, c5, sp_1 (by omega), sp_2 (by omega), show (k : Int) + 1 = ((k + 1 : Nat) : Int) by omega]
      have := ih (k + 1) (by omega) (by omega)
      rw [pS_s (by omega), show pS sp k + ((sp.getD k (0, 0)).2 - (sp.getD k (0, 0)).1) - pS sp (nB A (e : Int)) = pS sp k - pS sp (nB A (e : Int)) + ((sp.getD k (0, 0)).2 - (sp.getD k (0, 0)).1) by omega] at this
      exact this
end
