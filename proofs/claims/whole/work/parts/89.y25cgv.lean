/-! TEXTS, THE CLASS: what calls give -/
def KF (σ : MS) (E : TE) (f : List (List Int)) (fr : Int) (S H : List Int) (n : Int) : Prop := mV σ 86 15 = n ∧ mV σ 86 13 = E.2.2.2 ∧ mV σ 86 16 = fr ∧ mV σ 86 17 = (f.length : Int) ∧ mX σ 91 = S ∧ mX σ 93 = H
def KZ (σ : MS) (z z' : Nat) (E : TE) : Prop := mB σ 2 = z ∧ mB σ 3 = z' ∧ (z = 49 ∨ z = 163) ∧ (z' = 49 ∨ z' = 163) ∧ (0 < E.2.2.2 → z ≠ z')
def KC (σ : MS) (s : TS) : Prop := (∃ C, shR σ 97 C ∧ C.map ms7 = s.2.2.1.1) ∧ mX σ 102 = s.2.2.1.2
def KM0 (σ : MS) (z : Nat) (E : TE) (s : TS) : Prop := (shR σ (z + 1) s.2.2.2.1.1 ∧ shR σ (z + 6) s.2.2.2.1.2.1 ∧ mX σ (z + 11) = s.2.2.2.1.2.2) ∧ (shR σ (z + 24) s.2.2.2.2.1.1 ∧ mX σ (z + 29) = s.2.2.2.2.1.2) ∧ (mV σ z 12 = s.2.2.2.2.2.1.2.2 ∧ shR σ 104 (s.2.2.2.2.2.1.1.map pkL) ∧ mX σ 109 = s.2.2.2.2.2.1.2.1) ∧ mV σ z 13 = s.2.2.2.2.2.2 ∧ mX σ (z + 35) = E.2.2.1
/-- marks are told only where they are allowed -/
def KM (σ : MS) (z : Nat) (E : TE) (s : TS) : Prop := mV σ z 13 = s.2.2.2.2.2.2 ∧ (0 < E.2.2.2 → KM0 σ z E s)
def KB (σ : MS) (z : Nat) (E : TE) : Prop := shR σ (z + 1) E.2.1.1 ∧ shR σ (z + 6) E.2.1.2.1 ∧ mX σ (z + 11) = E.2.1.2.2.1 ∧ mV σ z 14 = E.2.1.2.2.2.1 ∧ mV σ z 15 = E.2.1.2.2.2.2
def KU (σ : MS) (E : TE) : Prop := shR σ 25 E.1.1 ∧ mX σ 30 = E.1.2.1 ∧ ∃ B, shR σ 34 B ∧ suM B ≤ 4100 ∧ B.length ≤ 4100 ∧ (mX σ 32).length = E.1.1.length ∧ ∀ m, m < E.1.1.length → ∃ j : Nat, (mX σ 32).getD m 0 = (j : Int) ∧ j < B.length ∧ B.getD j [] = E.1.2.2.getD m []
def TxK (σ : MS) (E : TE) (f : List (List Int)) (fr : Int) (S H : List Int) (z z' : Nat) (n : Int) (s : TS) : Prop := KF σ E f fr S H n ∧ KZ σ z z' E ∧ KC σ s ∧ KM σ z E s ∧ KB σ z' E ∧ KU σ E
/-- rows that texts may change -/
def TXX : List Nat := [87, 89, 91, 93, 95, 98, 100, 102, 105, 107, 109, 51, 53, 56, 58, 60, 74, 76, 78, 165, 167, 170, 172, 174, 188, 190, 192]
def TXY : List Nat := [87, 89, 91, 93, 95, 98, 100, 102, 105, 107, 109]
/-- what texts leave; the marks of the round before stay whole -/
def FrT (σ σ' : MS) : Prop := (∀ q, q ∉ TXX → mX σ' q = mX σ q) ∧ σ'.2.2 = σ.2.2 ∧ (∀ z k, z ≠ 22 → z ≠ 86 → ¬ ((z = 49 ∨ z = 163) ∧ (k = 12 ∨ k = 13)) → mV σ' z k = mV σ z k) ∧ (mV σ' 86 13 = mV σ 86 13 ∧ ∀ z', ((mB σ 3 = z' ∧ mB σ 2 ≠ z') ∨ mV σ 86 13 = 0) → (z' = 49 ∨ z' = 163) → (∀ q, z' ≤ q → q ≤ z' + 36 → mX σ' q = mX σ q)) ∧ mV σ 22 1 ≤ mV σ' 22 1 ∧ ∀ z, (z = 49 ∨ z = 163) → mV σ z 13 ≤ mV σ' z 13 ∧ (mV σ' z 13 ≤ mV σ z 13 ∨ mV σ' z 13 ≤ mV σ' 22 1) ∧ (mV σ 86 13 = 0 → mV σ' z 12 = mV σ z 12)
theorem FrT.rf {σ : MS} : FrT σ σ := ⟨fun _ _ => rfl, rfl, fun _ _ _ _ _ => rfl, ⟨rfl, fun _ _ _ _ _ _ => rfl⟩, Int.le_refl _, fun _ _ => ⟨Int.le_refl _, Or.inl (Int.le_refl _), fun _ => rfl⟩⟩
theorem FrT.tr {σ σ1 σ2 : MS} (h : FrT σ σ1) (h' : FrT σ1 σ2) : FrT σ σ2 := ⟨fun q a => (h'.1 q a).trans (h.1 q a), h'.2.1.trans h.2.1, fun z k a b c => (h'.2.2.1 z k a b c).trans (h.2.2.1 z k a b c), ⟨h'.2.2.2.1.1.trans h.2.2.2.1.1, fun z' e1 e3 q a b => (h'.2.2.2.1.2 z' (by rw [show mB σ1 = mB σ from congrArg Prod.fst h.2.1, h.2.2.2.1.1]; exact e1) e3 q a b).trans (h.2.2.2.1.2 z' e1 e3 q a b)⟩, Int.le_trans h.2.2.2.2.1 h'.2.2.2.2.1, fun z hz => by
  have a1 := h.2.2.2.2.2 z hz
  have a2 := h'.2.2.2.2.2 z hz
  have a3 := h'.2.2.2.2.1
  have a4 := h.2.2.2.1.1
  exact ⟨by omega, by omega, fun h0 => (a2.2.2 (by omega)).trans (a1.2.2 h0)⟩⟩
theorem FrT.k2 {σ σ' : MS} (h : K2 σ σ') : FrT σ σ' := ⟨fun q a => h.1 q (fun e => a (by rw [e]; decide)) (fun e => a (by rw [e]; decide)), h.2.1, fun z k a b _ => h.2.2.1 z k a (fun e => b e.1), ⟨h.2.2.1 86 13 (by decide) (by decide), fun z' _ e3 q a b => h.1 q (by omega) (by omega)⟩, h.2.2.2, fun z hz => by
  rw [h.2.2.1 z 13 (by omega) (by omega), h.2.2.1 z 12 (by omega) (by omega)]
  exact ⟨Int.le_refl _, Or.inl (Int.le_refl _), fun _ => rfl⟩⟩
theorem txy_b : ∀ q ∈ TXY, q ∈ TXX ∧ 86 ≤ q ∧ q < 163 := by decide
theorem FrT.x {σ : MS} {q : Nat} {L : List Int} (hq : q ∈ TXY) : FrT σ (wX σ q L) := ⟨fun q' a => wX_ne (fun e => a (by rw [e]; exact (txy_b q hq).1)), rfl, fun _ _ _ _ _ => rfl, ⟨rfl, fun z' _ e3 q' a b => wX_ne (by have := (txy_b q hq).2; omega)⟩, Int.le_refl _, fun _ _ => ⟨Int.le_refl _, Or.inl (Int.le_refl _), fun _ => rfl⟩⟩
theorem FrT.xm {σ : MS} {q z : Nat} {L : List Int} (hal : mV σ 86 13 ≠ 0) (hz : z = 49 ∨ z = 163) (hz2 : mB σ 2 = z) (hq : q ∈ TXX) (h1 : z ≤ q) (h2 : q ≤ z + 36) : FrT σ (wX σ q L) := ⟨fun q' a => wX_ne (fun e => a (by rw [e]; exact hq)), rfl, fun _ _ _ _ _ => rfl, ⟨rfl, fun z' e1 e3 q' a b => wX_ne (by
  have e2 := (e1.resolve_right hal).2
  rw [hz2] at e2
  omega)⟩, Int.le_refl _, fun _ _ => ⟨Int.le_refl _, Or.inl (Int.le_refl _), fun _ => rfl⟩⟩
theorem FrT.v86 {σ : MS} {k : Nat} {x : Int} (hk : 13 ≠ k := by decide) : FrT σ (wV σ 86 k x) := ⟨fun _ _ => rfl, rfl, fun z' k' _ b _ => wV_ne (Or.inl b), ⟨wV_ne (Or.inr hk), fun _ _ _ _ _ _ => rfl⟩, by rw [wV_ne (Or.inl (by decide))]; exact Int.le_refl _, fun z hz => by
  rw [show mV (wV σ 86 k x) z 13 = mV σ z 13 from wV_ne (Or.inl (by omega)), show mV (wV σ 86 k x) z 12 = mV σ z 12 from wV_ne (Or.inl (by omega))]
  exact ⟨Int.le_refl _, Or.inl (Int.le_refl _), fun _ => rfl⟩⟩
theorem FrT.v22 {σ : MS} {k : Nat} {x : Int} (hk : k ≠ 1 ∨ mV σ 22 1 ≤ x) : FrT σ (wV σ 22 k x) := ⟨fun _ _ => rfl, rfl, fun z' k' b _ _ => wV_ne (Or.inl b), ⟨wV_ne (Or.inl (by decide)), fun _ _ _ _ _ _ => rfl⟩, (K2.w22 hk).2.2.2, fun z hz => by
  rw [show mV (wV σ 22 k x) z 13 = mV σ z 13 from wV_ne (Or.inl (by omega)), show mV (wV σ 22 k x) z 12 = mV σ z 12 from wV_ne (Or.inl (by omega))]
  exact ⟨Int.le_refl _, Or.inl (Int.le_refl _), fun _ => rfl⟩⟩
theorem FrT.vz {σ : MS} {z k : Nat} {x : Int} (hz : z = 49 ∨ z = 163) (hk : (k = 12 ∧ mV σ 86 13 ≠ 0) ∨ (k = 13 ∧ mV σ z 13 ≤ x ∧ x ≤ mV σ 22 1)) : FrT σ (wV σ z k x) := ⟨fun _ _ => rfl, rfl, fun z' k' _ _ c => wV_ne (by
  by_cases e : z' = z
  · exact Or.inr (fun e2 => c ⟨by omega, by omega⟩)
  · exact Or.inl e), ⟨wV_ne (Or.inl (by omega)), fun _ _ _ _ _ _ => rfl⟩, by rw [wV_ne (Or.inl (by omega))]; exact Int.le_refl _, fun z' hz' => by
  rw [show mV (wV σ z k x) 22 1 = mV σ 22 1 from wV_ne (Or.inl (by omega))]
  have e12 : mV σ 86 13 = 0 → mV (wV σ z k x) z' 12 = mV σ z' 12 := fun h0 => wV_ne (by
    rcases hk with h | h
    · exact absurd h0 h.2
    · exact Or.inr (by omega))
  by_cases e : z' = z ∧ 13 = k
  · obtain ⟨rfl, rfl⟩ := e
    rw [wV_self]
    exact ⟨by omega, by omega, e12⟩
  · rw [show mV (wV σ z k x) z' 13 = mV σ z' 13 from wV_ne (by omega)]
    exact ⟨Int.le_refl _, Or.inl (Int.le_refl _), e12⟩⟩
section
variable {σ σ' : MS} {E : TE} {f : List (List Int)} {fr : Int} {S H : List Int} {z z' : Nat} {n : Int} {s s' : TS}
theorem shR.cg {q : Nat} {W : List (List Int)} (h : shR σ q W) (h1 : mX σ' (q + 1) = mX σ (q + 1)) (h3 : mX σ' (q + 3) = mX σ (q + 3)) : shR σ' q W := ⟨h1.trans h.1, h3.trans h.2⟩
theorem KF.k2 (h : KF σ E f fr S H n) (k : K2 σ σ') : KF σ' E f fr S H n := by
  obtain ⟨a, b, c, d, e, g⟩ := h
  exact ⟨by rw [k.2.2.1 86 15 (by decide) (by decide)]; exact a, by rw [k.2.2.1 86 13 (by decide) (by decide)]; exact b, by rw [k.2.2.1 86 16 (by decide) (by decide)]; exact c, by rw [k.2.2.1 86 17 (by decide) (by decide)]; exact d, by rw [k.1 91 (by decide) (by decide)]; exact e, by rw [k.1 93 (by decide) (by decide)]; exact g⟩
theorem KZ.b (h : KZ σ z z' E) (k : σ'.2.2 = σ.2.2) : KZ σ' z z' E := by
  obtain ⟨a, b, c⟩ := h
  exact ⟨by rw [show mB σ' = mB σ from congrArg Prod.fst k]; exact a, by rw [show mB σ' = mB σ from congrArg Prod.fst k]; exact b, c⟩
theorem KC.cg (h : KC σ s) (h1 : mX σ' 98 = mX σ 98) (h2 : mX σ' 100 = mX σ 100) (h3 : mX σ' 102 = mX σ 102) : KC σ' s := by
  obtain ⟨⟨C, a, b⟩, c⟩ := h
  exact ⟨⟨C, a.cg h1 h2, b⟩, by rw [h3]; exact c⟩
theorem KM0.cg (hz : z = 49 ∨ z = 163) (h : KM0 σ z E s) (hX : ∀ q, q = 105 ∨ q = 107 ∨ q = 109 ∨ (z + 2 ≤ q ∧ q ≤ z + 35) → mX σ' q = mX σ q) (h12 : mV σ' z 12 = mV σ z 12) (h13 : mV σ' z 13 = mV σ z 13) : KM0 σ' z E s := by
  obtain ⟨⟨a, b, c⟩, ⟨d, e⟩, ⟨g, i, j⟩, k, l⟩ := h
  exact ⟨⟨a.cg (hX _ (by omega)) (hX _ (by omega)), b.cg (hX _ (by omega)) (hX _ (by omega)), by rw [hX _ (by omega)]; exact c⟩, ⟨d.cg (hX _ (by omega)) (hX _ (by omega)), by rw [hX _ (by omega)]; exact e⟩, ⟨by rw [h12]; exact g, i.cg (hX 105 (by omega)) (hX 107 (by omega)), by rw [hX _ (by omega)]; exact j⟩, by rw [h13]; exact k, by rw [hX _ (by omega)]; exact l⟩
theorem KM.cg (hz : z = 49 ∨ z = 163) (h : KM σ z E s) (hX : ∀ q, q = 105 ∨ q = 107 ∨ q = 109 ∨ (z + 2 ≤ q ∧ q ≤ z + 35) → mX σ' q = mX σ q) (h12 : mV σ' z 12 = mV σ z 12) (h13 : mV σ' z 13 = mV σ z 13) : KM σ' z E s := ⟨h13.trans h.1, fun b9 => (h.2 b9).cg hz hX h12 h13⟩
theorem KM.of (h : KM0 σ z E s) : KM σ z E s := ⟨h.2.2.2.1, fun _ => h⟩
theorem KB.cg (hz : z = 49 ∨ z = 163) (h : KB σ z E) (hX : ∀ q, z + 2 ≤ q → q ≤ z + 11 → mX σ' q = mX σ q) (h12 : mV σ' z 14 = mV σ z 14) (h13 : mV σ' z 15 = mV σ z 15) : KB σ' z E := by
  obtain ⟨a, b, c, d, e⟩ := h
  exact ⟨a.cg (hX _ (by omega) (by omega)) (hX _ (by omega) (by omega)), b.cg (hX _ (by omega) (by omega)) (hX _ (by omega) (by omega)), by rw [hX _ (by omega) (by omega)]; exact c, by rw [h12]; exact d, by rw [h13]; exact e⟩
theorem KU.cg (h : KU σ E) (hX : ∀ q, 26 ≤ q → q ≤ 37 → mX σ' q = mX σ q) : KU σ' E := by
  obtain ⟨a, b, B, c, d, e, g, i⟩ := h
  exact ⟨a.cg (hX 26 (by decide) (by decide)) (hX 28 (by decide) (by decide)), by rw [hX _ (by decide) (by decide)]; exact b, B, c.cg (hX 35 (by decide) (by decide)) (hX 37 (by decide) (by decide)), d, e, by rw [hX 32 (by decide) (by decide)]; exact g, fun m hm => by rw [hX 32 (by decide) (by decide)]; exact i m hm⟩
theorem TxK.k2 (h : TxK σ E f fr S H z z' n s) (k : K2 σ σ') : TxK σ' E f fr S H z z' n s := by
  obtain ⟨a, b, c, d, e, g⟩ := h
  have hz := b.2.2.1
  have hz' := b.2.2.2.1
  exact ⟨a.k2 k, b.b k.2.1, c.cg (k.1 _ (by decide) (by decide)) (k.1 _ (by decide) (by decide)) (k.1 _ (by decide) (by decide)), d.cg hz (fun q hq => k.1 q (by omega) (by omega)) (k.2.2.1 _ _ (by omega) (by omega)) (k.2.2.1 _ _ (by omega) (by omega)), e.cg hz' (fun q h1 h2 => k.1 q (by omega) (by omega)) (k.2.2.1 _ _ (by omega) (by omega)) (k.2.2.1 _ _ (by omega) (by omega)), g.cg (fun q h1 h2 => k.1 q (by omega) (by omega))⟩
/-- only the scratch row -/
theorem TxK.x95 (h : TxK σ E f fr S H z z' n s) {L : List Int} : TxK (wX σ 95 L) E f fr S H z z' n s := by
  obtain ⟨⟨a1, a2, a3, a4, a5, a6⟩, b, c, d, e, g⟩ := h
  have hz := b.2.2.1
  have hz' := b.2.2.2.1
  exact ⟨⟨a1, a2, a3, a4, (wX_ne (by decide)).trans a5, (wX_ne (by decide)).trans a6⟩, b, c.cg (wX_ne (by decide)) (wX_ne (by decide)) (wX_ne (by decide)), d.cg hz (fun q hq => wX_ne (by omega)) rfl rfl, e.cg hz' (fun q h1 h2 => wX_ne (by omega)) rfl rfl, g.cg (fun q h1 h2 => wX_ne (by omega))⟩
end
def TxC (σ : MS) (E : TE) (a : Bool) (f : List (List Int)) (fr : Int) (A : List Int) (k : Nat) (R : List Int × Bool) (S H : List Int) (z z' : Nat) (n : Int) (s : TS) : Prop := TxW σ s ∧ TxA σ a A k R s ∧ TxK σ E f fr S H z z' n s ∧ inOk σ a
def TxD (σ : MS) (E : TE) (a : Bool) (f : List (List Int)) (fr : Int) (A : List Int) (k : Nat) (R : List Int × Bool) (S H : List Int) (z z' : Nat) (n : Int) (s' : TS) (σ' : MS) : Prop := FrT σ σ' ∧ ∃ R', TxC σ' E a f fr A k R' S H z z' n s' ∧ (a = true → R' = R)
/-- a state with more put -/
def PuR (s s' : TS) : Prop := ∃ L, s' = sOu (sWk s (s.1.1 + (L : List Int).length) (s.1.2.1 + L.length)) (s.2.1 ++ L)
section
variable {σ0 σ : MS} {Q : MQ9} {E : TE} {a : Bool} {f : List (List Int)} {fr : Int} {A : List Int} {k : Nat} {R : List Int × Bool} {S H : List Int} {z z' : Nat} {n : Int} {s s' : TS}
theorem TxC.q (h : TxC σ E a f fr A k R S H z z' n s) : TxQ σ a A k R s σ := ⟨h.1, K2.rf, R, h.2.1, fun _ => rfl⟩
theorem TxC.put (h : TxK σ0 E f fr S H z z' n s) (hn : inOk σ0 a) (hp : PuR s s') (hq : TxQ σ0 a A k R s' σ) : ∃ R', TxC σ E a f fr A k R' S H z z' n s' ∧ (a = true → R' = R) := by
  obtain ⟨w, k2, R', ha, hR⟩ := hq
  obtain ⟨L, e⟩ := hp
  subst e
  have e15 : mV σ 86 15 = mV σ0 86 15 := k2.2.2.1 86 15 (by decide) (by decide)
  exact ⟨R', ⟨w, ha, h.k2 k2, ⟨fun x => by rw [e15]; exact hn.1 x, fun x => by rw [e15]; exact hn.2 x⟩⟩, hR⟩
theorem PuR.ps {L : List Int} (h : tPs L s = .inl s') : PuR s s' := ⟨L, ps_i h⟩
theorem gv1_put {kd : Int} {w : List (List Int)} (e : gv1 kd w s = .inl s') : PuR s s' := by
  unfold gv1 at e
  split at e
  · exact PuR.ps e
  · split at e
    · split at e
      · exact PuR.ps e
      · cases e
    · split at e
      · split at e
        · split at e
          · exact PuR.ps e
          · cases e
        · cases e
      · split at e
        · split at e
          · exact PuR.ps e
          · cases e
        · split at e
          · split at e
            · exact PuR.ps e
            · cases e
          · exact PuR.ps e
theorem gv2_put {kd : Int} {w : List (List Int)} (e : gv2 kd w s = .inl s') : PuR s s' := by
  unfold gv2 at e
  split at e
  · exact PuR.ps e
  · split at e
    · exact PuR.ps e
    · split at e
      · split at e
        · exact PuR.ps e
        · cases e
      · split at e
        · exact PuR.ps e
        · cases e
/-- from a spec against puts alone to the whole -/
theorem TOk.put (h : TxC σ E a f fr A k R S H z z' n s) {r : TR} (hp : ∀ s', r = .inl s' → PuR s s') (hq : TOk Q r (fun s' σ' => TxD σ E a f fr A k R S H z z' n s' σ') (FrT σ)) : TOk Q r (fun s' σ' => TxQ σ a A k R s' σ') (K2 σ) := ⟨fun s' σ' e h1 => hq.1 s' σ' e ⟨FrT.k2 h1.2.1, TxC.put h.2.2.1 h.2.2.2 (hp s' e) h1⟩, fun e σ' he h1 h2 => hq.2 e σ' he h1 (FrT.k2 h2)⟩
theorem nuX_b {L : List Int} {l m : Int} (h : nuOk L l m = true) : l ≤ nuX L ∧ nuX L ≤ m := by
  unfold nuOk at h
  rw [Bool.and_eq_true] at h
  exact of_decide_eq_true h.2
theorem seA.part {u p m : Nat} {L : List Int} (h : seA A u L) (hp : p ≤ L.length) : seA A (u + p) ((L.drop p).take m) := by
  have hl : ((L.drop p).take m).length ≤ L.length - p := by rw [List.length_take, List.length_drop]; omega
  refine ⟨by have := h.1; omega, fun t ht => ?_⟩
  rw [List.length_take, List.length_drop] at ht
  have := h.2 (p + t) (by omega)
  rw [show u + p + t = u + (p + t) by omega, this, List.getD_eq_getElem?_getD, List.getD_eq_getElem?_getD, List.getElem?_take, if_pos (by omega), List.getElem?_drop]
theorem seA.nil {u : Nat} (h : u ≤ A.length) : seA A u [] := ⟨h, fun t ht => absurd ht (Nat.not_lt_zero t)⟩
theorem Texts_reshape.c {kd b : Int} {w : List (List Int)} (h : TxC σ E a f fr A k R S H z z' n s) (hi : TI 0 0 s) (hk : 0 ≤ kd ∧ kd ≤ 7) (hb : 0 ≤ b ∧ b ≤ 1000) (hw : ∀ i : Nat, i < w.length → arA H A (b + 2 * (i : Int)) (w.getD i [])) (hl : w.length = (anD.getD kd.toNat 0).toNat) (hq : TOk Q (gv1 kd w s) (fun s' σ' => TxD σ E a f fr A k R S H z z' n s' σ') (FrT σ)) : Texts_reshape kd b σ Q := by
  have hq := hq.put h (fun s' => gv1_put)
  have hH : mX σ 93 = H := h.2.2.1.1.2.2.2.2.2
  have hn := h.2.2.2
  have l1 := h.q.len hi
  have wl4 : w.length ≤ 4 := by
    rw [hl]
    have key : ∀ j, j < 8 → (anD.getD j 0).toNat ≤ 4 := by decide
    exact key _ (by omega)
  have g1 : ∀ i : Nat, i < w.length → Rg (b + 2 * (i : Int)) ∧ Rg (b + 2 * (i : Int) + 1) := fun i hi2 => by
    unfold Rg
    omega
  have h33 : ∀ j : Nat, j < w.length → (j = if kd = 6 then 2 else if kd = 3 ∨ kd = 5 ∨ kd = 7 then 1 else 0) → Texts_reshape_33 kd b b 2 (j : Int) σ Q := by
    intro j hj hjk
    obtain ⟨u, u1, u2, u3⟩ := hw j hj
    have l2 := u3.1
    refine Texts_reshape_33.i ⟨(g1 j hj).1, (g1 j hj).2, ?_⟩
    rw [hH, u1, u2]
    have num : ∀ (i : Nat) (l m : Int) (Q' : MQ9), i < w.length → (-9999 ≤ l ∧ l ≤ 9999) → (-9999 ≤ m ∧ m ≤ 9999) → (nuOk (w.getD i []) l m = true → Q' (.inl (some (nuX (w.getD i [])))) σ) → (nuOk (w.getD i []) l m = false → ∀ σ', TxF σ' (5, s.1.1, s.1.2.1) → K2 σ σ' → Q' (.inr (exN 0)) σ') → Texts_number (b + 2 * (i : Int)) l m σ Q' := fun i l m Q' hi2 h1 h2 hy hno => Texts_number.c h1 h2 h.q hi hH (by omega) (hw i hi2) hy hno
    have num0 : ∀ (l m : Int) (Q' : MQ9), (-9999 ≤ l ∧ l ≤ 9999) → (-9999 ≤ m ∧ m ≤ 9999) → (nuOk (w.getD 0 []) l m = true → Q' (.inl (some (nuX (w.getD 0 [])))) σ) → (nuOk (w.getD 0 []) l m = false → ∀ σ', TxF σ' (5, s.1.1, s.1.2.1) → K2 σ σ' → Q' (.inr (exN 0)) σ') → Texts_number b l m σ Q' := fun l m Q' h1 h2 hy hno => by
      have := num 0 l m Q' (by omega) h1 h2 hy hno
      rw [show b + 2 * ((0 : Nat) : Int) = b by omega] at this
      exact this
    have rg : Rg kd := by unfold Rg; omega
    refine ⟨rg, fun c => ⟨rg, fun d => Texts_reshape_251.i ?_, fun d => ?_⟩, fun c => ?_, fun c => ?_, fun c => ?_, fun c => ?_, trivial⟩
    · have hj0 : j = 0 := by rw [hjk, if_neg (by omega), if_neg (by omega)]
      subst hj0
      have e : gv1 kd w s = tPs (rcL kd 0 (-1) (w.getD 0 [])) s := by
        unfold gv1
        rw [if_neg (by omega), if_neg (by omega), if_neg (by omega), if_neg (by omega), if_neg d]
      rw [e] at hq
      exact rs_257 (by omega) (by decide) hn (w.getD 0 []) u (-1) s σ u3 rfl (Nat.le_refl _) (fun _ => rfl) (fun h9 => absurd h9 (Nat.lt_irrefl _)) (by decide) h.q hi hq
    · have hj1 : j = 1 := by rw [hjk, if_neg (by omega), if_pos (by omega)]
      subst hj1
      refine num0 _ _ _ (by decide) (by decide) (fun hy => Texts_reshape_251.i ?_) (fun hno σ' p1 p2 => hq.2 _ σ' ?_ p1 p2)
      · have e : gv1 kd w s = tPs (rcL 3 (nuX (w.getD 0 [])) (-1) (w.getD 1 [])) s := by
          unfold gv1
          rw [if_neg (by omega), if_neg (by omega), if_neg (by omega), if_neg (by omega), if_pos d, if_pos hy]
        rw [e, ← d] at hq
        exact rs_257 (by omega) (nuX_b hy) hn (w.getD 1 []) u (-1) s σ u3 rfl (Nat.le_refl _) (fun _ => rfl) (fun h9 => absurd h9 (Nat.lt_irrefl _)) (by decide) h.q hi hq
      · unfold gv1
        rw [if_neg (by omega), if_neg (by omega), if_neg (by omega), if_neg (by omega), if_pos d, hno, if_neg (by decide)]
        rfl
    · have hj0 : j = 0 := by rw [hjk, if_neg (by omega), if_neg (by omega)]
      subst hj0
      have e : gv1 kd w s = tPs (w.getD 0 []).reverse s := by
        unfold gv1
        rw [if_pos c]
      rw [e] at hq
      have := rs_94 hn (u0 := u) (w.getD 0 []).reverse [] s σ (by rw [List.reverse_reverse, List.append_nil]; exact u3) h.q hi hq
      rw [List.length_reverse, show (u : Int) + ((w.getD 0 []).length : Int) - 1 = ((u + (w.getD 0 []).length : Nat) : Int) - 1 by omega] at this
      exact this
    · have hj1 : j = 1 := by rw [hjk, if_neg (by omega), if_pos (by omega)]
      subst hj1
      refine num0 _ _ _ (by decide) (by decide) (fun hy => ?_) (fun hno σ' p1 p2 => hq.2 _ σ' ?_ p1 p2)
      · have e : gv1 kd w s = tPs (List.replicate (nuX (w.getD 0 [])).toNat (w.getD 1 [])).flatten s := by
          unfold gv1
          rw [if_neg (by omega), if_pos c, if_pos hy]
        rw [e] at hq
        have hb2 := nuX_b hy
        have := rs_136 hn u3 (n := (nuX (w.getD 0 [])).toNat) (by omega) (nuX (w.getD 0 [])).toNat 0 s σ (by omega) h.q hi hq
        rw [show (((nuX (w.getD 0 [])).toNat : Nat) : Int) = nuX (w.getD 0 []) by omega] at this
        exact this
      · unfold gv1
        rw [if_neg (by omega), if_pos c, hno, if_neg (by decide)]
        rfl
    · have hj2 : j = 2 := by rw [hjk, if_pos c]
      subst hj2
      refine num0 _ _ _ (by decide) (by decide) (fun hy => ?_) (fun hno σ' p1 p2 => hq.2 _ σ' ?_ p1 p2)
      · have n1 := num 1 0 9999
        rw [show b + 2 * ((1 : Nat) : Int) = b + 2 by omega] at n1
        refine n1 _ (by omega) (by decide) (by decide) (fun hy2 => ?_) (fun hno σ' p1 p2 => hq.2 _ σ' ?_ p1 p2)
        · have b1 := nuX_b hy
          have b2 := nuX_b hy2
          have e : gv1 kd w s = tPs (((w.getD 2 []).drop (nuX (w.getD 0 [])).toNat).take (nuX (w.getD 1 [])).toNat) s := by
            unfold gv1
            rw [if_neg (by omega), if_neg (by omega), if_pos c, if_pos hy, if_pos hy2]
          rw [e] at hq
          refine ⟨by unfold Rg; omega, ?_⟩
          by_cases hp : (nuX (w.getD 0 [])).toNat ≤ (w.getD 2 []).length
          · have l9 : (((w.getD 2 []).drop (nuX (w.getD 0 [])).toNat).take (nuX (w.getD 1 [])).toNat).length = min (nuX (w.getD 1 [])).toNat ((w.getD 2 []).length - (nuX (w.getD 0 [])).toNat) := by rw [List.length_take, List.length_drop]
            exact Texts_putPart.c (L := ((w.getD 2 []).drop (nuX (w.getD 0 [])).toNat).take (nuX (w.getD 1 [])).toNat) (u := u + (nuX (w.getD 0 [])).toNat) (by omega) (by rw [l9]; omega) hn (u3.part hp) h.q hi hq
          · rw [List.drop_eq_nil_of_le (by omega), List.take_nil] at hq
            refine Texts_putPart.i (Texts_putPart_2.i ⟨by unfold Rg; omega, by unfold Rg; omega, fun _ => hq.1 s σ rfl h.q, fun h9 => absurd h9 (by omega)⟩)
        · unfold gv1
          rw [if_neg (by omega), if_neg (by omega), if_pos c, if_pos hy, hno, if_neg (by decide)]
          rfl
      · unfold gv1
        rw [if_neg (by omega), if_neg (by omega), if_pos c, hno, if_neg (by decide)]
        rfl
    · have hj1 : j = 1 := by rw [hjk, if_neg (by omega), if_pos (by omega)]
      subst hj1
      refine num0 _ _ _ (by decide) (by decide) (fun hy => Texts_putNthWord.i ?_) (fun hno σ' p1 p2 => hq.2 _ σ' ?_ p1 p2)
      · have e : gv1 kd w s = tPs (nwD (nuX (w.getD 0 [])) (-1) false (w.getD 1 [])) s := by
          unfold gv1
          rw [if_neg (by omega), if_neg (by omega), if_neg (by omega), if_pos c, if_pos hy]
        rw [e] at hq
        exact nw_9 hn (nuX_b hy) (w.getD 1 []) u (-1) false s σ u3 rfl (by omega) h.q hi hq
      · unfold gv1
        rw [if_neg (by omega), if_neg (by omega), if_neg (by omega), if_pos c, hno, if_neg (by decide)]
        rfl
  have rg : Rg kd := by unfold Rg; omega
  have ar : ∀ j, j < 8 → (anD.getD j 0).toNat = (if j = 6 then 3 else if j = 3 ∨ j = 5 ∨ j = 7 then 2 else 1) := by decide
  have ar2 := ar kd.toNat (by omega)
  have h28 : (kd = 3 ∨ kd = 5 ∨ kd = 7) → Texts_reshape_28 kd b b 2 σ Q := fun c => Texts_reshape_28.i (h33 1 (by rw [hl, ar2, if_neg (by omega), if_pos (by omega)]; omega) (by rw [if_neg (by omega), if_pos c]))
  refine Texts_reshape.i ⟨rg, fun c6 => ⟨rg, fun c => h28 (by omega), fun c3 => ⟨rg, fun c => h28 (by omega), fun c5 => ⟨rg, fun c7 => ?_, fun c => h28 (by omega)⟩⟩⟩, fun c => ?_⟩
  · exact h33 0 (by rw [hl, ar2, if_neg (by omega), if_neg (by omega)]; omega) (by rw [if_neg (by omega), if_neg (by omega)])
  · exact h33 2 (by rw [hl, ar2, if_pos (by omega)]; omega) (by rw [if_pos c])
end
