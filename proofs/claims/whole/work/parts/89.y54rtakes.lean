/-! THE REFERENCE WORKS TEXTS: arguments are taken -/
def AlT (g kt j i nw z k : Nat) : Prop := AlU g kt (j + 1) nw z k ∨ ((z = 261 ∨ z = 262) ∧ k = 10 * j + i)
def FrV9 (g kt j i nw : Nat) (σ σ' : MS) : Prop := FrA (AlT g kt j i nw) σ σ'
section
variable {σ σ0 σ1 σ2 σ3 : MS} {Q : MQ9} {g kt kt' u c D Dm Dd nw n0 l0 k0 x0 j i : Nat} {a : Bool} {E : TE} {O T : List Int} {X : RY9} {s s1 s2 : TS} {f w : List (List Int)} {call : Int} {A L P K : List Int} {x y p k : Int}
theorem FrU.tx (h : FrU g kt (j + 1) nw σ σ1) : FrV9 g kt j i nw σ σ1 := FrA.mo h (fun _ _ a => Or.inl a)
theorem FrV9.fu (h : FrV9 g kt j i nw σ σ1) : FrU g kt j nw σ σ1 := FrA.mo h (fun z k a => by
  rcases a with a | ⟨a, rfl⟩
  · rcases a with a | ⟨a1, a2, a3⟩
    · exact Or.inl a
    · refine Or.inr ⟨a1, ?_, a3⟩
      unfold loB at a2 ⊢
      split
      · rename_i h1; rw [if_pos h1] at a2; omega
      · rename_i h1
        rw [if_neg h1] at a2
        split
        · rename_i h2; rw [if_pos h2] at a2; omega
        · rename_i h2
          rw [if_neg h2] at a2
          split
          · rename_i h3; rw [if_pos h3] at a2; omega
          · rename_i h3
            rw [if_neg h3] at a2
            split
            · rename_i h4; rw [if_pos h4] at a2; omega
            · omega
  · rcases a with rfl | rfl
    · exact Or.inr ⟨by decide, by show 10 * j ≤ 10 * j + i; omega, Or.inl rfl⟩
    · exact Or.inr ⟨by decide, by show 10 * j ≤ 10 * j + i; omega, Or.inl rfl⟩)
theorem FrV9.tr (h : FrV9 g kt j i nw σ σ1) (h' : FrV9 g kt j i nw σ1 σ2) : FrV9 g kt j i nw σ σ2 := FrA.tr h h'
/-- spans, and arguments ahead of this one, stay -/
theorem FrV9.at (h : FrV9 g kt j i nw σ σ1) {z k9 : Nat} (hz : 259 ≤ z ∧ z ≤ 262) (hk : k9 < 10 * (j + 1)) (hn : ¬ ((z = 261 ∨ z = 262) ∧ k9 = 10 * j + i)) : mV σ1 z k9 = mV σ z k9 := h.2.2 z k9 (fun a => by
  rcases a with a | a
  · rcases a with a | ⟨a1, a2, a3⟩
    · omega
    · unfold loB at a2
      rw [if_neg (by omega), if_neg (by omega), if_pos (by omega)] at a2
      omega
  · exact hn a)
theorem ArG.tx {i' : Nat} (h : ArG σ (10 * j + i') kt A) (q : FrV9 g kt j i nw σ σ1) (hi : i' < i) (hi9 : i < 10) : ArG σ1 (10 * j + i') kt A := by
  obtain ⟨v, h1, h2, h3, h4⟩ := h
  refine ⟨v, (q.at (by decide) (by omega) (by omega)).trans h1, (q.at (by decide) (by omega) (by omega)).trans h2, h3, h4.cg (fun k k1 k2 => ?_)⟩
  have u := q.fu
  exact ⟨u.lo (by show k < kt; omega) (by decide), u.lo (by show k < kt; omega) (by decide)⟩
theorem RxS.ar (h : RxS X g kt c D a E O σ s) : RxS X (g + s.2.1.length) kt c D true E (if a = true then O else s.2.1) (wV σ 246 95 0) (sOu s []) := by
  obtain ⟨h1, h2, h3, h4⟩ := h
  have q : FrZ [] [95] σ (wV σ 246 95 0) := FrZ.wf (by decide)
  have q2 : FrQ σ (wV σ 246 95 0) := FrA.w (Or.inl ⟨rfl, by decide⟩)
  exact ⟨h1.z q (by decide) (by decide), ⟨(q.f (by decide) (by decide)).trans h2.1, hoG.nil⟩, h3.v q2, (q.f (by decide) (by decide)).trans h4.1, (q.f (by decide) (by decide)).trans h4.2.1, (q.f (by decide) (by decide)).trans h4.2.2.1, wV_self, h4.2.2.2.2.z q (by decide) (by decide)⟩
theorem takes_99 {n : Nat} {l6 : Int} (hk : kt + n ≤ 60100) (h16 : mV σ3 246 16 = ((g + n : Nat) : Int)) (hg : g + n ≤ 60100) (hq : ∀ σ', FrZ [257, 258] [21] σ3 σ' → (∀ k, k < kt → mV σ' 257 k = mV σ3 257 k ∧ mV σ' 258 k = mV σ3 258 k) → mV σ' 246 21 = ((kt + n : Nat) : Int) → (∀ t, t < n → mV σ' 257 (kt + t) = b8 (mV σ3 254 (g + t)) ∧ mV σ' 258 (kt + t) = b8 (mV σ3 255 (g + t))) → R_takes_99 (Dd + 1) (j : Int) (i : Int) l6 ((g + n : Nat) : Int) σ' Q) : ∀ (r t : Nat) (σ' : MS), t + r = n → FrZ [257, 258] [21] σ3 σ' → (∀ k, k < kt → mV σ' 257 k = mV σ3 257 k ∧ mV σ' 258 k = mV σ3 258 k) → mV σ' 246 21 = ((kt + t : Nat) : Int) → (∀ t', t' < t → mV σ' 257 (kt + t') = b8 (mV σ3 254 (g + t')) ∧ mV σ' 258 (kt + t') = b8 (mV σ3 255 (g + t'))) → R_takes_99 (Dd + 1) (j : Int) (i : Int) l6 ((g + t : Nat) : Int) σ' Q := by
  intro r
  induction r with
  | zero =>
    intro t σ' ht hf lo h21 hh
    have e : t = n := by omega
    subst e
    exact hq σ' hf lo h21 hh
  | succ r ih =>
    intro t σ' ht hf lo h21 hh
    have t16 : mV σ' 246 16 = ((g + n : Nat) : Int) := by rw [hf.f (by decide) (by decide)]; exact h16
    refine R_takes_99.i ⟨by unfold Rg; omega, fun h9 => absurd h9 (by rw [t16]; omega), fun _ => ?_⟩
    rw [h21, Int.toNat_natCast, Int.toNat_natCast, hf.z (by decide) (by decide), hf.z (by decide) (by decide), show ((g + t : Nat) : Int) + 1 = ((g + (t + 1) : Nat) : Int) by omega]
    refine ⟨by omega, by omega, by omega, by omega, by omega, by omega, by omega, by omega, by unfold Rg; omega, ih (t + 1) _ (by omega) (((hf.tr (FrZ.wz (by decide))).tr (FrZ.wz (by decide))).tr (FrZ.wf (by decide))) (fun k hk9 => ?_) ?_ (fun t' ht' => ?_)⟩
    · rw [wV_ne (Or.inl (by decide)), wV_ne (Or.inl (by decide)), wV_ne (Or.inr (by omega)), wV_ne (Or.inl (by decide)), wV_ne (Or.inr (by omega)), wV_ne (Or.inl (by decide))]
      exact lo k hk9
    · rw [wV_self]
      omega
    · by_cases e : t' = t
      · subst e
        rw [wV_ne (Or.inl (by decide)), wV_ne (Or.inl (by decide)), wV_self, wV_ne (Or.inl (by decide)), wV_self]
        exact ⟨rfl, rfl⟩
      · rw [wV_ne (Or.inl (by decide)), wV_ne (Or.inl (by decide)), wV_ne (Or.inr (by omega)), wV_ne (Or.inl (by decide)), wV_ne (Or.inr (by omega)), wV_ne (Or.inl (by decide))]
        exact hh t' (by omega)
theorem sp_ou {n : Int} (e : tSp n s = .inl s1) : tSp n (sOu s []) = .inl (sOu s1 []) := by
  obtain ⟨e1, e2, e3⟩ := sp_i e
  subst e1
  unfold tSp
  rw [if_neg]
  · rfl
  · show ¬ (60000 < s.1.1 + n ∨ 400000 < s.1.2.1 + n)
    omega
theorem sp_no {n : Int} (e : tSp n s = tFl 8 s) : tSp n (sOu s []) = tFl 8 s := by
  unfold tSp at e ⊢
  by_cases h : 60000 < s.1.1 + n ∨ 400000 < s.1.2.1 + n
  · rw [if_pos (show 60000 < (sOu s []).1.1 + n ∨ 400000 < (sOu s []).1.2.1 + n from h)]
    rfl
  · rw [if_neg h] at e
    exact absurd e (by simp [tFl])
theorem R_takes.r (hE : EI E) (hW : ∀ D', D = D' + 1 → WkR E D' Dm) (hDd : Dm ≤ Dd) (hj : j ≤ 30) (hi9 : i < 10) (h259 : mV σ 259 (10 * j + i) = (x0 : Int)) (h260 : mV σ 260 (10 * j + i) = ((x0 + T.length : Nat) : Int)) (hT : SgR σ x0 T) (hTb : smB T) (hRE : RxE σ E X.1) (hF : FmR σ kt j call f) (hf : okM9 f) (hS : RxS X g kt (j + 1) D a E O σ s) (hi : TI p 0 s) (hp : ((g + kt : Nat) : Int) ≤ p) (hcD : j + D ≤ 30) (h1 : ∀ s1 σ', isD D E true f T (sOu s []) = .inl s1 → RxS X g (kt + s1.2.1.length) (j + 1) D a E O σ' (sOu s1 s.2.1) → ArG σ' (10 * j + i) (kt + s1.2.1.length) s1.2.1 → FrV9 g kt j i X.1 σ σ' → Q (.inl none) σ') (h0 : ∀ e σ', isD D E true f T (sOu s []) = .inr e → FaR g kt σ' e → (∃ kt', RxP σ' kt' (j + 1) D a E) → FrV9 g kt j i X.1 σ σ' → Q (.inl none) σ') : R_takes (Dd + 1) (j : Int) (i : Int) call σ Q := by
  have hB := hi.bd hp
  have hb1 := hB.1
  have hb3 := hB.2.2
  have eji : (10 * (j : Int) + (i : Int)).toNat = 10 * j + i := by omega
  refine R_takes.i (R_enters.r hS hB (by omega) (fun D' s1 eD e1 σ1 hS1 f1 => ⟨fun _ => ?_, fun h9 => absurd h9 (by decide)⟩) (fun k hk k7 k8 => ⟨fun h9 => absurd rfl h9, fun _ => ?_⟩))
  · subst eD
    obtain ⟨e1a, -, -⟩ := sp_i e1
    have o1 : s1.2.1 = s.2.1 := by rw [e1a]; rfl
    have y1 : s1.1.2.2 = s.1.2.2 := by rw [e1a]; rfl
    have u1 : ∀ {g kt c : Nat}, FrU g kt c X.1 σ σ1 := f1.u0 (by decide)
    have hi1 : TI p 0 s1 := (hi.sp (by decide) e1).mo (by omega) (by decide)
    rw [eji, f1.z (by decide) (by decide), f1.z (by decide) (by decide), h259, h260]
    have hS2 := hS1.ar
    rw [o1] at hS2
    have f2 : FrZ [] [31, 32, 33, 95] σ (wV σ1 246 95 0) := (f1.mo (by decide) (by decide)).tr (FrZ.wf (by decide))
    have u2 : ∀ {g kt c : Nat}, FrU g kt c X.1 σ (wV σ1 246 95 0) := f2.u0 (by decide)
    have hi2 : TI (p + s.2.1.length) 0 (sOu s1 []) := by
      have := hi1.ou okK.nil
      rw [o1] at this
      exact this.mo (by rw [List.length_nil]; omega) (by decide)
    have t16 : mV σ1 246 16 = ((g + s.2.1.length : Nat) : Int) := by
      rw [f1.f (by decide) (by decide)]
      exact hS.2.1.1
    have t18 : mV σ1 246 18 = s.1.2.2 := by
      rw [f1.f (by decide) (by decide)]
      exact hS.1.2.2.2
    have t95 : mV σ1 246 95 = (if a = true then 0 else E.2.2.2) := by
      rw [f1.f (by decide) (by decide)]
      exact hS.2.2.2.2.2.2.1
    rw [t16, t18, t95]
    refine ⟨by omega, by omega, by omega, by omega, hW D' rfl Dd x0 T true f call X (g + s.2.1.length) kt (j + 1) (if a = true then O else s.2.1) (sOu s1 []) (wV σ1 246 95 0) _ (p + s.2.1.length) hDd (hT.cg (fun k => f2.z (by decide) (by decide))) hTb (hRE.u hE (u2 (g := g) (kt := kt) (c := j))) ((hF.u (u2 (g := g))).mo (Nat.le_refl _) (by omega)) hf hS2 hi2 (by omega) (by omega) (fun h9 => absurd h9 (by decide)) ⟨fun s2 σ2 e2 h2 v2 => ?_, fun e σ2 he h2 h3 v2 => ?_⟩⟩
    · have eI : isD (D' + 1) E true f T (sOu s []) = .inl (sSt s2 s.1.2.2) := by
        rw [isD_s, sp_ou e1]
        show tBd (wkD D' E true f T (sOu s1 [])) _ = _
        rw [e2]
        show Sum.inl (sSt s2 s1.1.2.2) = _
        rw [y1]
      obtain ⟨w1, w2, w3, w4, w5, w6, w7, w8⟩ := id h2
      have hB2 : BdR (g + s.2.1.length) kt s2 := (wkD_ti hE (by omega) (by decide) hi2 hf hTb e2).bd (by omega)
      have b21 := hB2.1
      have b23 := hB2.2.2
      show Rg (mV σ2 246 31 - 1) ∧ 0 ≤ 10 * (j : Int) + (i : Int) ∧ 10 * (j : Int) + (i : Int) < 400 ∧ R_takes_99 (Dd + 1) (j : Int) (i : Int) ((g + s.2.1.length : Nat) : Int) ((g + s.2.1.length : Nat) : Int) (wV (wV (wV (wV σ2 246 95 (if a = true then 0 else E.2.2.2)) 246 18 s.1.2.2) 246 31 (mV σ2 246 31 - 1)) 261 ((10 * (j : Int) + (i : Int)).toNat) (mV σ2 246 21)) Q
      rw [w6, w4, eji, show 30 - (D' : Int) - 1 = 30 - ((D' + 1 : Nat) : Int) by omega]
      refine ⟨by unfold Rg; omega, by omega, by omega, ?_⟩
      generalize hσ3 : wV (wV (wV (wV σ2 246 95 (if a = true then 0 else E.2.2.2)) 246 18 s.1.2.2) 246 31 (30 - ((D' + 1 : Nat) : Int))) 261 (10 * j + i) (kt : Int) = σ3
      have f3 : FrZ [261] [18, 31, 95] σ2 σ3 := by
        rw [← hσ3]
        exact (((FrZ.wf (by decide)).tr (FrZ.wf (by decide))).tr (FrZ.wf (by decide))).tr (FrZ.wz (by decide))
      have t16' : mV σ3 246 16 = ((g + s.2.1.length + s2.2.1.length : Nat) : Int) := by
        rw [f3.f (by decide) (by decide)]
        exact w2.1
      have x3 : FrV9 g kt j i X.1 σ σ3 := by
        refine FrV9.tr (FrU.tx (u2.tr (v2.mo (by omega) (Nat.le_refl _) (Nat.le_refl _)))) ?_
        rw [← hσ3]
        exact (((FrA.w (Or.inl (Or.inl ⟨rfl, by decide⟩))).tr (FrA.w (Or.inl (Or.inl ⟨rfl, by decide⟩)))).tr (FrA.w (Or.inl (Or.inl ⟨rfl, by decide⟩)))).tr (FrA.w (Or.inr ⟨Or.inl rfl, rfl⟩))
      refine takes_99 (kt := kt) (g := g + s.2.1.length) (n := s2.2.1.length) (by omega) t16' (by omega) (fun σ4 f4 lo4 h21 h4 => ?_) s2.2.1.length 0 σ3 (by omega) FrZ.rf (fun _ _ => ⟨rfl, rfl⟩) (by rw [f3.f (by decide) (by decide)]; exact w4) (fun t' ht' => absurd ht' (Nat.not_lt_zero _))
      have t16'' : mV σ4 246 16 = ((g + s.2.1.length + s2.2.1.length : Nat) : Int) := by
        rw [f4.f (by decide) (by decide)]
        exact t16'
      refine R_takes_99.i ⟨by unfold Rg; omega, fun _ => ⟨by omega, by omega, ?_⟩, fun h9 => absurd h9 (by rw [t16'']; omega)⟩
      rw [eji, h21]
      generalize hσ5 : wV (wV σ4 262 (10 * j + i) ((kt + s2.2.1.length : Nat) : Int)) 246 16 ((g + s.2.1.length : Nat) : Int) = σ5
      have f5 : FrZ [257, 258, 261, 262] [16, 18, 21, 31, 95] σ2 σ5 := by
        rw [← hσ5]
        exact (((f3.mo (by decide) (by decide)).tr (f4.mo (by decide) (by decide))).tr (FrZ.wz (by decide))).tr (FrZ.wf (by decide))
      have x5 : FrV9 g kt j i X.1 σ σ5 := by
        refine x3.tr (FrV9.tr (σ1 := σ4) ⟨f4.1, f4.2.1, fun z k n => ?_⟩ ?_)
        · by_cases hz : z = 257 ∨ z = 258
          · by_cases hk9 : k < kt
            · rcases hz with rfl | rfl
              · exact (lo4 k hk9).1
              · exact (lo4 k hk9).2
            · refine absurd (Or.inl (Or.inr ⟨by rcases hz with rfl | rfl <;> decide, ?_, Or.inl (by rcases hz with rfl | rfl <;> rfl)⟩)) n
              rcases hz with rfl | rfl
              · show kt ≤ k; omega
              · show kt ≤ k; omega
          · refine f4.2.2 z k (by simp only [List.mem_cons, List.not_mem_nil, or_false]; exact hz) ?_
            by_cases e6 : z = 246
            · exact Or.inr (fun hk9 => n (Or.inl (Or.inl ⟨e6, by rw [List.mem_singleton.mp hk9]; decide⟩)))
            · exact Or.inl e6
        · rw [← hσ5]
          exact (FrA.w (Or.inr ⟨Or.inr rfl, rfl⟩)).tr (FrA.w (Or.inl (Or.inl ⟨rfl, by decide⟩)))
      refine h1 (sSt s2 s.1.2.2) σ5 eI ⟨⟨(f5.f (by decide) (by decide)).trans w1.1, (f5.f (by decide) (by decide)).trans w1.2.1, (f5.f (by decide) (by decide)).trans w1.2.2.1, ?_⟩, ⟨?_, ?_⟩, ?_, ?_, (f5.f (by decide) (by decide)).trans w5, ?_, ?_, w8.z f5 (by decide) (by decide)⟩ ⟨kt, ?_, ?_, ?_, ?_⟩ x5
      · rw [← hσ5, wV_ne (Or.inr (by decide)), wV_ne (Or.inl (by decide)), f4.f (by decide) (by decide), ← hσ3, wV_ne (Or.inl (by decide)), wV_ne (Or.inr (by decide)), wV_self]
        rfl
      · rw [← hσ5, wV_self]
        rfl
      · show hoG σ5 254 255 g s.2.1
        refine hS.2.1.2.cg (fun k _ k2 => ?_)
        have k2 : k < g + s.2.1.length := k2
        rw [f5.z (by decide) (by decide), f5.z (by decide) (by decide), v2.lo (zz := 254) (by show k < g + s.2.1.length; exact k2) (by decide), v2.lo (zz := 255) (by show k < g + s.2.1.length; exact k2) (by decide), f2.z (by decide) (by decide), f2.z (by decide) (by decide)]
        exact ⟨rfl, rfl⟩
      · have q5 : FrQ σ2 σ5 := ⟨f5.1, f5.2.1, fun z k n => by
          refine f5.2.2 z k (fun hz => n (Or.inr (Or.inr ?_))) ?_
          · revert hz
            simp only [List.mem_cons, List.not_mem_nil, or_false]
            omega
          · by_cases e6 : z = 246
            · refine Or.inr (fun hk9 => n (Or.inl ⟨e6, ?_⟩))
              revert hk9
              simp only [List.mem_cons, List.not_mem_nil, or_false]
              omega
            · exact Or.inl e6⟩
        exact w3.v q5
      · rw [← hσ5, wV_ne (Or.inr (by decide)), wV_ne (Or.inl (by decide))]
        exact h21
      · rw [← hσ5, wV_ne (Or.inr (by decide)), wV_ne (Or.inl (by decide)), f4.f (by decide) (by decide), ← hσ3, wV_ne (Or.inl (by decide)), wV_self]
      · rw [← hσ5, wV_ne (Or.inr (by decide)), wV_ne (Or.inl (by decide)), f4.f (by decide) (by decide), ← hσ3, wV_ne (Or.inl (by decide)), wV_ne (Or.inr (by decide)), wV_ne (Or.inr (by decide)), wV_self]
      · rw [← hσ5, wV_ne (Or.inl (by decide)), wV_ne (Or.inl (by decide)), f4.z (by decide) (by decide), ← hσ3, wV_self]
      · rw [← hσ5, wV_ne (Or.inl (by decide)), wV_self]
        rfl
      · show kt + s2.2.1.length ≤ kt + s2.2.1.length
        omega
      · intro t ht
        have ht : t < s2.2.1.length := ht
        obtain ⟨v1, v3⟩ := h4 t ht
        obtain ⟨o3, o4⟩ := w2.2 t ht
        rw [← hσ5, wV_ne (Or.inl (by decide)), wV_ne (Or.inl (by decide)), wV_ne (Or.inl (by decide)), wV_ne (Or.inl (by decide)), v1, v3, f3.z (by decide) (by decide), f3.z (by decide) (by decide), o3, o4, cgB_b, cyB_1]
        exact ⟨rfl, rfl⟩
    · have eI : isD (D' + 1) E true f T (sOu s []) = .inr e := by
        rw [isD_s, sp_ou e1]
        show tBd (wkD D' E true f T (sOu s1 [])) _ = _
        rw [he]
        rfl
      obtain ⟨w4, w5, w6, w7, w8⟩ := id h3
      obtain ⟨z1, z2, z3, z4, t, z5, z6, z7⟩ := id h2
      show Rg (mV σ2 246 31 - 1) ∧ 0 ≤ 10 * (j : Int) + (i : Int) ∧ 10 * (j : Int) + (i : Int) < 400 ∧ R_takes_99 (Dd + 1) (j : Int) (i : Int) ((g + s.2.1.length : Nat) : Int) ((g + s.2.1.length : Nat) : Int) (wV (wV (wV (wV σ2 246 95 (if a = true then 0 else E.2.2.2)) 246 18 s.1.2.2) 246 31 (mV σ2 246 31 - 1)) 261 ((10 * (j : Int) + (i : Int)).toNat) (mV σ2 246 21)) Q
      rw [w6, w4, eji, show 30 - (D' : Int) - 1 = 30 - ((D' + 1 : Nat) : Int) by omega]
      refine ⟨by unfold Rg; omega, by omega, by omega, ?_⟩
      generalize hσ3 : wV (wV (wV (wV σ2 246 95 (if a = true then 0 else E.2.2.2)) 246 18 s.1.2.2) 246 31 (30 - ((D' + 1 : Nat) : Int))) 261 (10 * j + i) (kt : Int) = σ3
      have f3 : FrZ [261] [18, 31, 95] σ2 σ3 := by
        rw [← hσ3]
        exact (((FrZ.wf (by decide)).tr (FrZ.wf (by decide))).tr (FrZ.wf (by decide))).tr (FrZ.wz (by decide))
      have et : t = g + s.2.1.length + (t - (g + s.2.1.length)) := by omega
      have t16' : mV σ3 246 16 = ((g + s.2.1.length + (t - (g + s.2.1.length)) : Nat) : Int) := by
        rw [f3.f (by decide) (by decide), ← et]
        exact z5
      have x3 : FrV9 g kt j i X.1 σ σ3 := by
        refine FrV9.tr (FrU.tx (u2.tr (v2.mo (by omega) (Nat.le_refl _) (Nat.le_refl _)))) ?_
        rw [← hσ3]
        exact (((FrA.w (Or.inl (Or.inl ⟨rfl, by decide⟩))).tr (FrA.w (Or.inl (Or.inl ⟨rfl, by decide⟩)))).tr (FrA.w (Or.inl (Or.inl ⟨rfl, by decide⟩)))).tr (FrA.w (Or.inr ⟨Or.inl rfl, rfl⟩))
      refine takes_99 (kt := kt) (g := g + s.2.1.length) (n := t - (g + s.2.1.length)) (by omega) t16' (by omega) (fun σ4 f4 lo4 h21 h4 => ?_) (t - (g + s.2.1.length)) 0 σ3 (by omega) FrZ.rf (fun _ _ => ⟨rfl, rfl⟩) (by rw [f3.f (by decide) (by decide)]; exact w4) (fun t' ht' => absurd ht' (Nat.not_lt_zero _))
      have t16'' : mV σ4 246 16 = ((g + s.2.1.length + (t - (g + s.2.1.length)) : Nat) : Int) := by
        rw [f4.f (by decide) (by decide)]
        exact t16'
      refine R_takes_99.i ⟨by unfold Rg; omega, fun _ => ⟨by omega, by omega, ?_⟩, fun h9 => absurd h9 (by rw [t16'']; omega)⟩
      rw [eji, h21]
      generalize hσ5 : wV (wV σ4 262 (10 * j + i) ((kt + (t - (g + s.2.1.length)) : Nat) : Int)) 246 16 ((g + s.2.1.length : Nat) : Int) = σ5
      have f5 : FrZ [257, 258, 261, 262] [16, 18, 21, 31, 95] σ2 σ5 := by
        rw [← hσ5]
        exact (((f3.mo (by decide) (by decide)).tr (f4.mo (by decide) (by decide))).tr (FrZ.wz (by decide))).tr (FrZ.wf (by decide))
      have x5 : FrV9 g kt j i X.1 σ σ5 := by
        refine x3.tr (FrV9.tr (σ1 := σ4) ⟨f4.1, f4.2.1, fun z k n => ?_⟩ ?_)
        · by_cases hz : z = 257 ∨ z = 258
          · by_cases hk9 : k < kt
            · rcases hz with rfl | rfl
              · exact (lo4 k hk9).1
              · exact (lo4 k hk9).2
            · refine absurd (Or.inl (Or.inr ⟨by rcases hz with rfl | rfl <;> decide, ?_, Or.inl (by rcases hz with rfl | rfl <;> rfl)⟩)) n
              rcases hz with rfl | rfl
              · show kt ≤ k; omega
              · show kt ≤ k; omega
          · refine f4.2.2 z k (by simp only [List.mem_cons, List.not_mem_nil, or_false]; exact hz) ?_
            by_cases e6 : z = 246
            · exact Or.inr (fun hk9 => n (Or.inl (Or.inl ⟨e6, by rw [List.mem_singleton.mp hk9]; decide⟩)))
            · exact Or.inl e6
        · rw [← hσ5]
          exact (FrA.w (Or.inr ⟨Or.inr rfl, rfl⟩)).tr (FrA.w (Or.inl (Or.inl ⟨rfl, by decide⟩)))
      refine h0 e σ5 eI ⟨(f5.f (by decide) (by decide)).trans z1, z2, (f5.f (by decide) (by decide)).trans z3, (f5.f (by decide) (by decide)).trans z4, g + s.2.1.length, ?_, by omega, by omega⟩ ⟨kt + (t - (g + s.2.1.length)), ?_, (f5.f (by decide) (by decide)).trans w5, ?_, ?_, w8.z f5 (by decide) (by decide)⟩ x5
      · rw [← hσ5, wV_self]
      · rw [← hσ5, wV_ne (Or.inr (by decide)), wV_ne (Or.inl (by decide))]
        exact h21
      · rw [← hσ5, wV_ne (Or.inr (by decide)), wV_ne (Or.inl (by decide)), f4.f (by decide) (by decide), ← hσ3, wV_ne (Or.inl (by decide)), wV_self]
      · rw [← hσ5, wV_ne (Or.inr (by decide)), wV_ne (Or.inl (by decide)), f4.f (by decide) (by decide), ← hσ3, wV_ne (Or.inl (by decide)), wV_ne (Or.inr (by decide)), wV_ne (Or.inr (by decide)), wV_self]
  · have e : isD D E true f T (sOu s []) = tFl k s := by
      cases D with
      | zero => rw [isD_0, k7 rfl]; rfl
      | succ D' =>
        obtain ⟨k8a, k8b⟩ := k8 D' rfl
        rw [isD_s, sp_no k8b, k8a]
        rfl
    exact h0 _ _ e (FaR.fl hk hS.1 hS.2.1 hB) ⟨kt, hS.2.2.2.p (FrP.w (g := g) (by decide))⟩ (FrA.w (Or.inl (Or.inl ⟨rfl, by decide⟩)))
end
