/-! tell, THE CLASS -/
/-- a tape as a text; the state ahead of a text of its own -/
def tpT (L : List Int) : List Int := L.map (fun x => if x = 10 then 32 else x)
def tl0 (ev u : Int) : TS := ((0, ev, 0), [], ([], []), ([], [], []), ([], []), ([], [], 0), u)
theorem tpT_len {L : List Int} : (tpT L).length = L.length := List.length_map ..
theorem tpT_at {L : List Int} {i : Nat} (h : i < L.length) : (tpT L).getD i 0 = if L.getD i 0 = 10 then 32 else L.getD i 0 := by
  unfold tpT
  rw [List.getD_eq_getElem?_getD, List.getElem?_map, List.getElem?_eq_getElem h, List.getD_eq_getElem?_getD, List.getElem?_eq_getElem h]
  rfl
theorem tpT_sm {L : List Int} (h : smB L) : smB (tpT L) := fun x hx => by
  obtain ⟨y, hy, rfl⟩ := List.mem_map.mp hx
  have := h y hy
  split <;> omega
theorem tl0_ti {ev u : Int} (he : 0 ≤ ev ∧ ev ≤ 400000) (hu : 0 ≤ u ∧ u ≤ ev) : TI 0 0 (tl0 ev u) := by
  refine ⟨⟨⟨(by decide : (0 : Int) ≤ 0), (by decide : (0 : Int) ≤ 60000)⟩, he, ⟨(by decide : (0 : Int) ≤ 0), (by decide : (0 : Int) ≤ 3)⟩, okK.nil⟩, ⟨rfl, (by decide : 0 ≤ 20), fun w hw => absurd hw List.not_mem_nil, fun x hx => absurd hx List.not_mem_nil⟩, ⟨rfl, rfl, (by decide : 0 ≤ 60), fun w hw => absurd hw List.not_mem_nil, fun w hw => absurd hw List.not_mem_nil⟩, ⟨rfl, (by decide : 0 ≤ 100), fun w hw => absurd hw List.not_mem_nil⟩, ⟨rfl, (by decide : ((0 : Nat) : Int) ≤ 0), (by decide : (0 : Int) ≤ 60), fun w hw => absurd hw List.not_mem_nil⟩, ⟨hu.1, ?_, (by decide : (0 : Int) ≤ 0)⟩, (by decide : ((0 : Nat) : Int) + ((0 : Nat) : Int) + ((0 : Nat) : Int) + 0 ≤ 0 + 100)⟩
  show u + 0 ≤ ev
  omega
/-- what tell leaves in the class -/
def TlF (z : Nat) (E : TE) (σ σ' : MS) : Prop := (∀ q, q ∉ [1, 5, 7] → q ∉ TXX → mX σ' q = mX σ q) ∧ (∀ i, i ≠ 2 → i ≠ 3 → mB σ' i = mB σ i) ∧ mW σ' = mW σ ∧ (∀ z k, z ≠ 22 → z ≠ 86 → ¬ ((z = 49 ∨ z = 163) ∧ (k = 12 ∨ k = 13)) → mV σ' z k = mV σ z k) ∧ KB σ' z E
section
variable {σ : MS} {Q : MQ9} {E : TE} {z a : Nat}
theorem rows_z : isRow 7 = true ∧ 7 ∉ TXX ∧ isShelf 97 = true ∧ isRow 98 = true ∧ isRow 100 = true ∧ isShelf 104 = true ∧ isRow 105 = true ∧ isRow 107 = true := by decide +kernel
theorem tell_9 (hb : smB (mX σ 1)) (hl : (mX σ 1).length ≤ 4000) (hq : T_tell_9 a ((mX σ 1).length : Int) (wX σ 7 (tpT (mX σ 1))) Q) : ∀ (r p : List Int), mX σ 1 = p ++ r → T_tell_9 a (p.length : Int) (wX σ 7 (tpT p)) Q
  | [], p, he => by
    rw [List.append_nil] at he
    rw [← he]
    exact hq
  | c :: r, p, he => by
    have hlen : (mX σ 1).length = p.length + 1 + r.length := by rw [he, List.length_append, List.length_cons]; omega
    have hx : rgt (mX (wX σ 7 (tpT p)) 1) (p.length : Int) = c := by
      rw [wX_ne (by decide)]
      exact rgt_at he
    have hc := hb c (by rw [he]; simp)
    have nx := tell_9 hb hl hq r (p ++ [c]) (by rw [he, List.append_assoc]; rfl)
    rw [List.length_append, List.length_singleton] at nx
    have e9 : ∀ v : Int, v = (if c = 10 then 32 else c) → T_tell_50 a (p.length : Int) v (wX σ 7 (tpT p)) Q := by
      intro v hv
      refine T_tell_50.i ⟨by rw [wX_self, tpT_len]; omega, ?_⟩
      rw [wX_self, wX_wX, hv, show tpT p ++ [if c = 10 then 32 else c] = tpT (p ++ [c]) by unfold tpT; rw [List.map_append]; rfl]
      exact nx
    have l1 : ((mX (wX σ 7 (tpT p)) 1).length : Int) = (mX σ 1).length := by rw [wX_ne (by decide)]
    refine T_tell_9.i ⟨by unfold Rg; omega, fun h9 => absurd h9 (by rw [l1]; omega), fun _ => ⟨by unfold Rg; omega, fun h9 => ⟨by unfold Rg; omega, ?_⟩, fun h9 => ?_⟩⟩
    · rw [hx] at h9 ⊢
      exact e9 c (by rw [if_neg h9])
    · rw [hx] at h9
      exact e9 32 (by rw [if_pos h9])
theorem T_tell.c (ha : 1 ≤ a) (hE : EI E) (h0 : E.2.2.2 = 0) (hz : z = 49 ∨ z = 163) (hB0 : mB σ 0 = z) (hU : KU σ E) (hB : KB σ z E) (hu : 0 ≤ mV σ z 13 ∧ mV σ z 13 ≤ mV σ 22 1) (he : 0 ≤ mV σ 22 1 ∧ mV σ 22 1 ≤ 400000) (hl : (mX σ 1).length ≤ 4000) (hb : smB (mX σ 1))
    (h1 : ∀ s' σ', wkD 30 E true [] (tpT (mX σ 1)) (tl0 (mV σ 22 1) (mV σ z 13)) = .inl s' → TlF z E σ σ' → mX σ' 1 = [] → mX σ' 5 = ms7 s'.2.1 → mV σ' 22 1 = s'.1.2.1 → mV σ' z 13 = s'.2.2.2.2.2.2 → Q (.inl (some (s'.2.1.length : Int))) σ')
    (h2 : ∀ e σ', wkD 30 E true [] (tpT (mX σ 1)) (tl0 (mV σ 22 1) (mV σ z 13)) = .inr e → TlF z E σ σ' → mX σ' 1 = [] → mX σ' 5 = mX σ 5 → mV σ' 22 1 = e.2.2 → (0 ≤ mV σ' z 13 ∧ mV σ' z 13 ≤ mV σ' 22 1) → -20 ≤ -1 - e.1 ∧ -1 - e.1 < 0 → Q (.inl (some (-1 - e.1))) σ') (hf : ∀ e, wkD 30 E true [] (tpT (mX σ 1)) (tl0 (mV σ 22 1) (mV σ z 13)) = .inr e → 0 ≤ e.1 ∧ e.1 ≤ 19) : T_tell a σ Q := by
  obtain ⟨r1, r2, r3, r4, r5, r6, r7, r8⟩ := rows_z
  refine T_tell.i (tell_9 hb hl ?_ (mX σ 1) [] rfl)
  generalize hT : tpT (mX σ 1) = T at h1 h2 hf ⊢
  have lT : T.length ≤ 4000 := by rw [← hT, tpT_len]; exact hl
  have sT : smB T := by rw [← hT]; exact tpT_sm hb
  have l1 : ((mX (wX σ 7 T) 1).length : Int) = (mX σ 1).length := by rw [wX_ne (by decide)]
  refine T_tell_9.i ⟨by unfold Rg; omega, fun _ => Purse_open.i ?_, fun h9 => absurd h9 (by rw [l1]; omega)⟩
  show Texts_workAlone 7 (mB σ 0) (wV (wV (wX (wX σ 7 T) 1 []) 22 0 0) 22 2 0) _
  rw [hB0]
  refine Texts_workAlone.i (Texts_openRound.i ⟨hz, hz, Shelf_clear.i (tB.i r3 (tB.i r4 (tB.i r4 (tB.i r3 (tB.i r5 (tB.i r5 ?_))))))⟩)
  refine Texts_openText.i ⟨by decide, Shelf_clear.i (tB.i r6 (tB.i r7 (tB.i r7 (tB.i r6 (tB.i r8 (tB.i r8 ?_))))))⟩
  show tB (isRow 7) (Texts_work 240 7 0 ((mX (wV (wV (wV (wV (wV (wX (wX (wX (wX (wX (wX (wX (wV (wX (wX (wX (wB (wB (wV (wV (wX (wX σ 7 T) 1 []) 22 0 0) 22 2 0) 2 z) 3 z) (97 + 1) []) (97 + 3) []) 102 []) 86 13 0) 87 []) 89 []) 91 []) 93 []) (104 + 1) []) (104 + 3) []) 109 []) 86 14 0) 86 15 0) 86 16 0) 86 17 0) 86 18 0) 7).length : Int) 0 (wV (wV (wV (wV (wV (wV (wX (wX (wX (wX (wX (wX (wX (wV (wX (wX (wX (wB (wB (wV (wV (wX (wX σ 7 T) 1 []) 22 0 0) 22 2 0) 2 z) 3 z) (97 + 1) []) (97 + 3) []) 102 []) 86 13 0) 87 []) 89 []) 91 []) 93 []) (104 + 1) []) (104 + 3) []) 109 []) 86 14 0) 86 15 0) 86 16 0) 86 17 0) 86 18 0) 86 15 1) _)
  refine tB.i r1 ?_
  generalize hσ2 : wV (wV (wV (wV (wV (wX (wX (wX (wX (wX (wX (wX (wV (wX (wX (wX (wB (wB (wV (wV (wX (wX σ 7 T) 1 []) 22 0 0) 22 2 0) 2 z) 3 z) (97 + 1) []) (97 + 3) []) 102 []) 86 13 0) 87 []) 89 []) 91 []) 93 []) (104 + 1) []) (104 + 3) []) 109 []) 86 14 0) 86 15 0) 86 16 0) 86 17 0) 86 18 0 = σ2
  generalize hσ1 : wV σ2 86 15 1 = σ1
  have hXX : mX σ2 7 = mX σ1 7 := by rw [← hσ1]; rfl
  have oX : ∀ q, q ∉ [1, 7, 87, 89, 91, 93, 98, 100, 102, 105, 107, 109] → mX σ1 q = mX σ q := fun q hq => by
    simp only [List.mem_cons, List.not_mem_nil, or_false, not_or] at hq
    rw [← hσ1, ← hσ2]
    show mX (wX (wX (wX (wX (wX (wX (wX (wX (wX (wX (wX (wX σ 7 T) 1 []) (97 + 1) []) (97 + 3) []) 102 []) 87 []) 89 []) 91 []) 93 []) (104 + 1) []) (104 + 3) []) 109 []) q = mX σ q
    rw [wX_ne (by omega), wX_ne (by omega), wX_ne (by omega), wX_ne (by omega), wX_ne (by omega), wX_ne (by omega), wX_ne (by omega), wX_ne (by omega), wX_ne (by omega), wX_ne (by omega), wX_ne (by omega), wX_ne (by omega)]
  have x1 : mX σ1 1 = [] := by
    rw [← hσ1, ← hσ2]
    show mX (wX (wX (wX (wX (wX (wX (wX (wX (wX (wX (wX (wX σ 7 T) 1 []) (97 + 1) []) (97 + 3) []) 102 []) 87 []) 89 []) 91 []) 93 []) (104 + 1) []) (104 + 3) []) 109 []) 1 = []
    rw [wX_ne (by decide), wX_ne (by decide), wX_ne (by decide), wX_ne (by decide), wX_ne (by decide), wX_ne (by decide), wX_ne (by decide), wX_ne (by decide), wX_ne (by decide), wX_ne (by decide), wX_self]
  have x7 : mX σ1 7 = T := by
    rw [← hσ1, ← hσ2]
    show mX (wX (wX (wX (wX (wX (wX (wX (wX (wX (wX (wX (wX σ 7 T) 1 []) (97 + 1) []) (97 + 3) []) 102 []) 87 []) 89 []) 91 []) 93 []) (104 + 1) []) (104 + 3) []) 109 []) 7 = T
    rw [wX_ne (by decide), wX_ne (by decide), wX_ne (by decide), wX_ne (by decide), wX_ne (by decide), wX_ne (by decide), wX_ne (by decide), wX_ne (by decide), wX_ne (by decide), wX_ne (by decide), wX_ne (by decide), wX_self]
  have nil : ∀ q, q ∈ [87, 89, 91, 93, 98, 100, 102, 109] → mX σ1 q = [] := fun q hq => by
    have hX : mX σ1 = mX (wX (wX (wX (wX (wX (wX (wX (wX (wX (wX (wX (wX σ 7 T) 1 []) (97 + 1) []) (97 + 3) []) 102 []) 87 []) 89 []) 91 []) 93 []) (104 + 1) []) (104 + 3) []) 109 []) := by rw [← hσ1, ← hσ2]; rfl
    rw [hX]
    simp only [List.mem_cons, List.not_mem_nil, or_false] at hq
    rcases hq with rfl | rfl | rfl | rfl | rfl | rfl | rfl | rfl <;> rfl
  have oV : ∀ y k, y ≠ 22 → y ≠ 86 → mV σ1 y k = mV σ y k := fun y k h22 h86 => by
    rw [← hσ1, ← hσ2]
    show mV (wV (wV (wV (wV (wV (wV (wV (wV (wV σ 22 0 0) 22 2 0) 86 13 0) 86 14 0) 86 15 0) 86 16 0) 86 17 0) 86 18 0) 86 15 1) y k = mV σ y k
    rw [wV_ne (Or.inl h86), wV_ne (Or.inl h86), wV_ne (Or.inl h86), wV_ne (Or.inl h86), wV_ne (Or.inl h86), wV_ne (Or.inl h86), wV_ne (Or.inl h86), wV_ne (Or.inl h22), wV_ne (Or.inl h22)]
  have v : mV σ1 22 0 = 0 ∧ mV σ1 22 1 = mV σ 22 1 ∧ mV σ1 86 13 = 0 ∧ mV σ1 86 14 = 0 ∧ mV σ1 86 15 = 1 ∧ mV σ1 86 16 = 0 ∧ mV σ1 86 17 = 0 ∧ mV σ1 86 18 = 0 := by
    have hV : mV σ1 = mV (wV (wV (wV (wV (wV (wV (wV (wV (wV σ 22 0 0) 22 2 0) 86 13 0) 86 14 0) 86 15 0) 86 16 0) 86 17 0) 86 18 0) 86 15 1) := by rw [← hσ1, ← hσ2]; rfl
    rw [hV]
    exact ⟨rfl, rfl, rfl, rfl, rfl, rfl, rfl, rfl⟩
  have oB : mB σ1 2 = z ∧ mB σ1 3 = z ∧ (∀ i, i ≠ 2 → i ≠ 3 → mB σ1 i = mB σ i) ∧ mW σ1 = mW σ := by
    rw [← hσ1, ← hσ2]
    refine ⟨?_, ?_, fun i h2 h3 => ?_, rfl⟩
    · show va_up (va_up (mB σ) 2 z) 3 z 2 = z
      rw [va_up_ne _ _ (by decide), va_up_self]
    · show va_up (va_up (mB σ) 2 z) 3 z 3 = z
      rw [va_up_self]
    · show va_up (va_up (mB σ) 2 z) 3 z i = _
      rw [va_up_ne _ _ h3, va_up_ne _ _ h2]
  obtain ⟨v0, v1, v13, v14, v15, v16, v17, v18⟩ := v
  have hB1 : KB σ1 z E := hB.cg hz (fun q q1 q2 => oX q (by simp only [List.mem_cons, List.not_mem_nil, or_false, not_or]; omega)) (oV _ _ (by omega) (by omega)) (oV _ _ (by omega) (by omega))
  have hU1 : KU σ1 E := hU.cg (fun q q1 q2 => oX q (by simp only [List.mem_cons, List.not_mem_nil, or_false, not_or]; omega))
  have hC : TxC σ1 E true [] 0 [] 0 ([], false) [] [] z z 1 (tl0 (mV σ 22 1) (mV σ z 13)) := by
    refine ⟨⟨v0, v1, v14⟩, ⟨⟨nil 87 (by decide), v18, by decide⟩, ?_, ?_, fun _ => ⟨?_, Nat.le_refl _⟩, fun h9 => absurd h9 (by decide)⟩, ⟨⟨v15, ?_, v16, v17, nil 91 (by decide), nil 93 (by decide)⟩, ⟨oB.1, oB.2.1, hz, hz, fun h9 => absurd h9 (by omega)⟩, ⟨⟨[], ⟨nil 98 (by decide), nil 100 (by decide)⟩, rfl⟩, nil 102 (by decide)⟩, ⟨oV _ _ (by omega) (by omega), fun h9 => absurd h9 (by omega)⟩, hB1, hU1⟩, ⟨fun _ => by rw [v15]; decide, fun h9 => absurd h9 (by decide)⟩⟩
    · rw [nil 89 (by decide)]
      exact Int.le_refl _
    · rw [nil 89 (by decide)]
      exact okK.nil
    · rw [nil 89 (by decide)]
      rfl
    · rw [v13, h0]
  have hcx : CxC σ1 E true [] 0 [] 0 ([], false) [] [] z z 1 (tl0 (mV σ 22 1) (mV σ z 13)) 0 := ⟨hC, fun w hw => absurd hw List.not_mem_nil, by decide, fun i hi => absurd hi (Nat.not_lt_zero _), by decide, by decide, by decide, by decide⟩
  have hTi := tl0_ti he hu
  have hSg : SgT σ1 7 0 T := ⟨r1, r2, by omega, fun t ht => by
    rw [x7, show ((0 : Nat) : Int) + (t : Int) = (t : Int) by omega]
    exact rgt_n ht⟩
  have fin : ∀ σ3 : MS, FrT σ1 σ3 → KB σ3 z E → ∀ L, TlF z E σ (wX σ3 5 L) ∧ TlF z E σ σ3 := by
    intro σ3 f3 k3 L
    have oX3 : ∀ q, q ∉ [1, 5, 7] → q ∉ TXX → mX σ3 q = mX σ q := fun q h1 h2 => by
      rw [f3.1 q h2]
      refine oX q (fun h9 => ?_)
      simp only [List.mem_cons, List.not_mem_nil, or_false] at h9 h1
      rcases h9 with rfl | rfl | rfl | rfl | rfl | rfl | rfl | rfl | rfl | rfl | rfl | rfl
      · omega
      · omega
      all_goals exact absurd (by decide) h2
    have eB : mB σ3 = mB σ1 := congrArg Prod.fst f3.2.1
    have eW : mW σ3 = mW σ1 := congrArg Prod.snd f3.2.1
    have bb : ∀ i, i ≠ 2 → i ≠ 3 → mB σ3 i = mB σ i := fun i a b => by rw [eB]; exact oB.2.2.1 i a b
    have ww : mW σ3 = mW σ := eW.trans oB.2.2.2
    have vv : ∀ y k, y ≠ 22 → y ≠ 86 → ¬ ((y = 49 ∨ y = 163) ∧ (k = 12 ∨ k = 13)) → mV σ3 y k = mV σ y k := fun y k a b c => (f3.2.2.1 y k a b c).trans (oV y k a b)
    refine ⟨⟨fun q h1 h2 => by rw [wX_ne (fun e => h1 (by rw [e]; decide))]; exact oX3 q h1 h2, bb, ww, vv, ?_⟩, oX3, bb, ww, vv, k3⟩
    exact k3.cg hz (fun q q1 q2 => wX_ne (by omega)) rfl rfl
  have eT : ((mX σ2 7).length : Int) = ((0 + T.length : Nat) : Int) := by rw [hXX, x7, Nat.zero_add]
  rw [eT]
  have zz : ∀ s' : TS, ∀ σ3 : MS, FrT σ1 σ3 → KB σ3 z E := fun s' σ3 f3 => hB1.cg hz (fun q q1 q2 => f3.2.2.2.1.2 z (Or.inr v13) hz q (by omega) (by omega)) (f3.2.2.1 _ _ (by omega) (by omega) (by omega)) (f3.2.2.1 _ _ (by omega) (by omega) (by omega))
  have x5 : mX σ1 5 = mX σ 5 := oX 5 (by decide)
  have u1 : mV σ1 z 13 = mV σ z 13 := oV _ _ (by omega) (by omega)
  refine Texts_work.c (D := 30) (σ := σ1) (dep := 0) hE (is_c hE 30 (by decide)) (by decide) (by decide) hSg sT hcx hTi ⟨fun s' σ3 e3 h3 => ?_, fun e σ3 e3 q3 f3 => ⟨rfl, ha, ?_⟩⟩
  · obtain ⟨f3, R', c3, -⟩ := h3
    have k3 := c3.2.2.1.2.2.2.2.1
    have a3 := c3.2.1
    have x89 : mX σ3 89 = s'.2.1 := by
      rw [(a3.2.2.2.1 rfl).1]
      rfl
    have ti3 := wkD_ti hE (Int.le_refl 0) (Int.le_refl 0) hTi (fun w hw => absurd hw List.not_mem_nil) sT e3
    have b3 := ti3.1.1.2
    have l3 : (s'.2.1.length : Int) ≤ s'.1.1 := by rw [← x89]; exact a3.2.1
    have pm : pourM (fun i => rgt (mX σ3 89) i % 128) (((mX σ3 89).length : Int) - 0).toNat 0 = ms7 s'.2.1 := by
      have := TxQ.pour7 (σ0 := σ3) (σ := σ3) (a := true) (A := s'.2.1) (k := s'.2.1.length) (R := R') (s := s') (u := 0) (L := s'.2.1) ⟨c3.1, K2.rf, R', ⟨a3.1, a3.2.1, a3.2.2.1, fun _ => ⟨by rw [List.drop_length, List.append_nil]; exact x89, Nat.le_refl _⟩, fun h9 => absurd h9 (by decide)⟩, fun _ => rfl⟩ ⟨by omega, fun t ht => by rw [Nat.zero_add]⟩
      rw [show (((mX σ3 89).length : Int) - 0).toNat = s'.2.1.length by rw [x89]; omega]
      exact this
    refine T_tell_107.i ⟨by decide, fun _ => ?_, fun h9 => absurd h9 (by decide)⟩
    rw [pm, List.nil_append, wX_wX]
    have l5 : (ms7 s'.2.1).length = s'.2.1.length := ms7_len
    refine ⟨?_, ?_⟩
    · rw [x89, List.length_nil]
      omega
    · rw [l5]
      refine h1 s' _ e3 (fin σ3 f3 k3 _).1 ?_ wX_self ?_ ?_
      · rw [wX_ne (by decide), f3.1 1 (by decide)]
        exact x1
      · exact c3.1.2.1
      · exact c3.2.2.1.2.2.2.1.1
  · have hk := hf e e3
    have k3 := zz (tl0 0 0) σ3 f3
    refine wp_sub (lo2 := [(0, vr 0)]) (by simp) (by decide) (T_tell_97.i ?_)
    rw [q3.1]
    refine T_tell_107.i ⟨by unfold Rg; omega, fun h9 => absurd h9 (by omega), fun _ => ⟨by unfold Rg; omega, ?_⟩⟩
    refine h2 e σ3 e3 (fin σ3 f3 k3 []).2 ?_ ?_ q3.2.2 ?_ (by omega)
    · rw [f3.1 1 (by decide)]
      exact x1
    · rw [f3.1 5 (by decide)]
      exact x5
    · have g0 := f3.2.2.2.2.2 z hz
      have g3 : mV σ1 z 13 ≤ mV σ3 z 13 ∧ (mV σ3 z 13 ≤ mV σ1 z 13 ∨ mV σ3 z 13 ≤ mV σ3 22 1) := ⟨g0.1, g0.2.1⟩
      have g4 := f3.2.2.2.2.1
      rw [u1] at g3
      rw [v1] at g4
      omega
end
