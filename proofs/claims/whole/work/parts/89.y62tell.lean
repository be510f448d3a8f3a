/-! tell: BOTH ANSWER ALIKE -/
/-- macros and labels, at rest -/
def TlR (σ : MS) (E : TE) (z nw : Nat) : Prop := (EI E ∧ E.2.2.2 = 0 ∧ (z = 49 ∨ z = 163) ∧ mB σ 0 = z ∧ KU σ E ∧ KB σ z E ∧ 0 ≤ mV σ z 13 ∧ mV σ z 13 ≤ mV σ 22 1) ∧ (nw ≤ 1 ∧ mV σ 246 59 = (nw : Int) ∧ MaR σ E ∧ (¬ mV σ 246 114 = 0 → LaR σ E nw) ∧ (mV σ 246 114 = 0 → E.2.1.1 = []) ∧ (0 < E.2.1.1.length → mV σ 246 130 = E.2.1.2.2.2.1 ∧ mV σ 246 131 = E.2.1.2.2.2.2) ∧ UnB σ)
/-- what tell leaves -/
def FrTl (nw : Nat) (σ σ' : MS) : Prop := (∀ q, q ∉ [1, 5, 7] → q ∉ TXX → mX σ' q = mX σ q) ∧ (∀ i, i ≠ 2 → i ≠ 3 → mB σ' i = mB σ i) ∧ ∀ z k, z ≠ 22 → z ≠ 86 → ¬ ((z = 49 ∨ z = 163) ∧ (k = 12 ∨ k = 13)) → ¬ AlL nw z k → mV σ' z k = mV σ z k
section
variable {σ σ1 σ2 : MS} {Q : MQ9} {E : TE} {z nw a : Nat}
theorem sh_tl {ev u v : Int} : tl0 ev v = shU (v - u) (tl0 ev u) := by
  show ((0, ev, 0), [], ([], []), ([], [], []), ([], []), ([], [], 0), v) = ((0, ev, 0), [], ([], []), ([], [], []), ([], []), ([], [], 0), u + (v - u))
  rw [show u + (v - u) = v by omega]
theorem MaR.cg (h : MaR σ E) (h46 : mV σ1 246 46 = mV σ 246 46) (hz : ∀ y k, 264 ≤ y → y ≤ 268 → mV σ1 y k = mV σ y k) (hs : ∀ k, k < 4000 → mV σ1 252 k = mV σ 252 k) : MaR σ1 E := by
  obtain ⟨⟨b1, b2, b3⟩, b4, b5⟩ := h
  refine ⟨⟨h46.trans b1, b2, fun i hi => ⟨(hz _ _ (by decide) (by decide)).trans (b3 i hi).1, (b3 i hi).2.1, (b3 i hi).2.2.cg (fun k _ _ => hz _ _ (by decide) (by decide))⟩⟩, b4, fun i hi => ?_⟩
  obtain ⟨g1, x, g2, g4, g5, g6⟩ := b5 i hi
  refine ⟨(hz _ _ (by decide) (by decide)).trans g1, x, (hz _ _ (by decide) (by decide)).trans g2, (hz _ _ (by decide) (by decide)).trans g4, ⟨g5.1, fun t ht => ?_⟩, g6⟩
  rw [hs _ (by omega)]
  exact g5.2 t ht
theorem LaR.al (hE : EI E) (h : LaR σ E nw) (q : FrA (AlL nw) σ σ1) (hn : nw ≤ 1) : LaR σ1 E nw := by
  obtain ⟨c1, c2, c3, c4⟩ := h
  have al : ∀ y k, y ≠ 246 → y ≠ 252 → y ≠ 336 → bkW y ≠ 0 → ¬ k / bkW y = 1 - nw → mV σ1 y k = mV σ y k := fun y k n1 n2 n3 n4 n5 => q.2.2 y k (fun h => by
    rcases h with h | h | h | ⟨-, h⟩
    · exact n1 h.1
    · exact n2 h.1
    · exact n3 h
    · exact h.elim n4 n5)
  refine ⟨?_, ?_, ?_, fun i hi => ?_⟩
  · rw [al 285 nw (by decide) (by decide) (by decide) (by decide) (by show ¬ nw / 1 = 1 - nw; omega)]
    exact c1
  · exact c2.b (w := 12) (fun i _ => (hE.2.1.2.2.2.1.at i).1) (fun i k hi k1 k2 => al 279 k (by decide) (by decide) (by decide) (by decide) (by have := hE.2.1.2.2.1; show ¬ k / 720 = 1 - nw; omega)) (fun i hi => al 280 _ (by decide) (by decide) (by decide) (by decide) (by have := hE.2.1.2.2.1; show ¬ (60 * nw + i) / 60 = 1 - nw; omega))
  · exact c3.b (w := 32) (fun i _ => (hE.2.1.2.2.2.2.1.at i).1) (fun i k hi k1 k2 => al 281 k (by decide) (by decide) (by decide) (by decide) (by have := hE.2.1.2.2.1; have := hE.2.1.1; show ¬ k / 1920 = 1 - nw; omega)) (fun i hi => al 282 _ (by decide) (by decide) (by decide) (by decide) (by have := hE.2.1.2.2.1; have := hE.2.1.1; show ¬ (60 * nw + i) / 60 = 1 - nw; omega))
  · rw [q.2.2 283 _ (fun h => ?_)]
    · exact c4 i hi
    · rcases h with h | h | h | ⟨h, -⟩
      · exact absurd h.1 (by decide)
      · exact absurd h.1 (by decide)
      · exact absurd h (by decide)
      · exact absurd h (by decide)
/-- a state behind both -/
theorem tell_end {L : List Int} (h : MemR σ) (t : TlR σ E z nw) (f1 : TlF z E σ σ1) (x1 : mX σ1 1 = []) (f2 : FrA (AlL nw) σ1 σ2) (y6 : mV σ2 246 6 = 0) (hev : mV σ1 22 1 = mV σ2 246 33) (hev2 : 0 ≤ mV σ1 22 1 ∧ mV σ1 22 1 ≤ 400000) (hu1 : 0 ≤ mV σ1 z 13 ∧ mV σ1 z 13 ≤ mV σ1 22 1) (hu2 : UnB σ2) : MemR σ2 ∧ TlR σ2 E z nw ∧ FrTl nw σ σ2 := by
  obtain ⟨⟨p1, p2, p3, p4⟩, ⟨m1, m2, m3, m4⟩, ⟨t9, c9, hP⟩, e1, e2, e3⟩ := h
  obtain ⟨⟨hE, h0, hz, hB0, hU, hB, hu⟩, hn, h59, hM, hL, hN, h30, hUn⟩ := t
  obtain ⟨g1, g2, g3, g4, g5⟩ := f1
  have nal : ∀ y k, (y < 242 ∨ (y = 246 ∧ k ∉ [0, 6, 16, 17, 18, 21, 22, 28, 31, 32, 33, 81, 85, 86, 94, 95, 141, 143, 161]) ∨ (y = 252 ∧ k < 4000) ∨ (242 ≤ y ∧ y ≠ 246 ∧ y ≠ 252 ∧ y ≠ 336 ∧ y ∉ TRS)) → ¬ AlL nw y k := fun y k hy ha => by
    rcases ha with ha | ha | ha | ⟨ha, -⟩
    · rcases hy with hy | hy | hy | hy
      · omega
      · exact hy.2 ha.2
      · omega
      · exact hy.2.1 ha.1
    · rcases hy with hy | hy | hy | hy
      · omega
      · omega
      · omega
      · exact hy.2.2.1 ha.1
    · rcases hy with hy | hy | hy | hy
      · omega
      · omega
      · omega
      · exact hy.2.2.2.1 ha
    · rcases hy with hy | hy | hy | hy
      · have : 254 ≤ y := by
          unfold TRS at ha
          simp only [List.mem_cons, List.not_mem_nil, or_false] at ha
          omega
        omega
      · rw [hy.1] at ha
        exact absurd ha (by decide)
      · rw [hy.1] at ha
        exact absurd ha (by decide)
      · exact hy.2.2.2.2 ha
  have fr : ∀ y k, y ≠ 22 → y ≠ 86 → ¬ ((y = 49 ∨ y = 163) ∧ (k = 12 ∨ k = 13)) → ¬ AlL nw y k → mV σ2 y k = mV σ y k := fun y k a b c d => (f2.2.2 y k d).trans (g4 y k a b c)
  have f6 : ∀ k, k ∉ [0, 6, 16, 17, 18, 21, 22, 28, 31, 32, 33, 81, 85, 86, 94, 95, 141, 143, 161] → mV σ2 246 k = mV σ 246 k := fun k hk => fr 246 k (by decide) (by decide) (by omega) (nal _ _ (Or.inr (Or.inl ⟨rfl, hk⟩)))
  have fz : ∀ y k, 242 ≤ y → y ≠ 246 → y ≠ 252 → y ≠ 336 → y ∉ TRS → mV σ2 y k = mV σ y k := fun y k a b c d e => fr y k (by omega) (by omega) (by omega) (nal _ _ (Or.inr (Or.inr (Or.inr ⟨a, b, c, d, e⟩))))
  have fl : ∀ y k, y < 242 → y ≠ 22 → y ≠ 86 → ¬ ((y = 49 ∨ y = 163) ∧ (k = 12 ∨ k = 13)) → mV σ2 y k = mV σ y k := fun y k a b c d => fr y k b c d (nal _ _ (Or.inl a))
  have eX : mX σ2 = mX σ1 := f2.1
  have eB : mB σ2 = mB σ1 := f2.2.1
  have xx : ∀ q, q ∉ [1, 5, 7] → q ∉ TXX → mX σ2 q = mX σ q := fun q a b => by rw [eX]; exact g1 q a b
  have v221 : mV σ2 22 1 = mV σ1 22 1 := f2.2.2 22 1 (nal _ _ (Or.inl (by decide)))
  have vz13 : mV σ2 z 13 = mV σ1 z 13 := f2.2.2 z 13 (nal _ _ (Or.inl (by omega)))
  have hE' := hE
  refine ⟨⟨⟨?_, ?_, ?_, ?_⟩, ⟨?_, ?_, ?_, ?_⟩, ⟨t9, c9, ?_⟩, ?_, ?_, ?_⟩, ⟨⟨hE, h0, hz, ?_, ?_, ?_, ?_, ?_⟩, hn, ?_, ?_, fun h9 => ?_, fun h9 => ?_, fun h9 => ?_, hu2⟩, xx, fun i a b => by rw [eB]; exact g2 i a b, fr⟩
  · rw [y6, eX, x1]
    rfl
  · rw [eX, x1]
    exact fun i hi => absurd hi (Nat.not_lt_zero _)
  · rw [eX, x1]
    exact Nat.zero_le _
  · rw [eX, x1]
    exact smB.nil
  · rw [f6 7 (by decide), xx 3 (by decide) (by decide)]
    exact m1
  · rw [xx 3 (by decide) (by decide)]
    exact fun i hi => by rw [fz 248 i (by decide) (by decide) (by decide) (by decide) (by decide)]; exact m2 i hi
  · rw [xx 3 (by decide) (by decide)]
    exact m3
  · rw [xx 3 (by decide) (by decide)]
    exact m4
  · refine hP.cg (fun j hj => ?_) (fun k => fz 251 k (by decide) (by decide) (by decide) (by decide) (by decide)) (fun k => fz 250 k (by decide) (by decide) (by decide) (by decide) (by decide)) (f6 8 (by decide)) (fl 0 6 (by decide) (by decide) (by decide) (by omega)) (fl 0 5 (by decide) (by decide) (by decide) (by omega))
    have hh : ∀ j, j < 6 → 10 + 2 * j ∉ [1, 5, 7] ∧ 10 + 2 * j ∉ TXX := by decide
    exact xx _ (hh j hj).1 (hh j hj).2
  · rw [v221]
    exact hev
  · rw [v221]
    exact hev2.1
  · rw [v221]
    exact hev2.2
  · rw [eB, g2 0 (by decide) (by decide)]
    exact hB0
  · refine hU.cg (fun q q1 q2 => ?_)
    have hh : ∀ q, 26 ≤ q → q ≤ 37 → q ∉ [1, 5, 7] ∧ q ∉ TXX := fun q h1 h2 => by
      unfold TXX
      simp only [List.mem_cons, List.not_mem_nil, or_false]
      omega
    exact xx q (hh q q1 q2).1 (hh q q1 q2).2
  · exact g5.cg hz (fun q _ _ => by rw [eX]) (f2.2.2 _ _ (nal _ _ (Or.inl (by omega)))) (f2.2.2 _ _ (nal _ _ (Or.inl (by omega))))
  · rw [vz13]
    exact hu1.1
  · rw [vz13, v221]
    exact hu1.2
  · rw [f6 59 (by decide)]
    exact h59
  · refine hM.cg (f6 46 (by decide)) (fun y k a b => fz y k (by omega) (by omega) (by omega) (by omega) (by
      unfold TRS
      simp only [List.mem_cons, List.not_mem_nil, or_false]
      omega)) (fun k hk => fr 252 k (by decide) (by decide) (by omega) (nal _ _ (Or.inr (Or.inr (Or.inl ⟨rfl, hk⟩)))))
  · rw [f6 114 (by decide)] at h9
    have hh : LaR σ1 E nw := by
      obtain ⟨c1, c2, c3, c4⟩ := hL h9
      have gz : ∀ y k, 242 ≤ y → mV σ1 y k = mV σ y k := fun y k hy => g4 y k (by omega) (by omega) (by omega)
      exact ⟨(gz _ _ (by decide)).trans c1, c2.cg (fun k => gz _ _ (by decide)) (fun k => gz _ _ (by decide)), c3.cg (fun k => gz _ _ (by decide)) (fun k => gz _ _ (by decide)), fun i hi => (gz _ _ (by decide)).trans (c4 i hi)⟩
    exact hh.al hE f2 hn
  · rw [f6 114 (by decide)] at h9
    exact hN h9
  · rw [f6 130 (by decide), f6 131 (by decide)]
    exact h30 h9
theorem tell_b {th th' : String → MS → Prop} (ha : 1 ≤ a) (h : MemR σ) (t : TlR σ E z nw) (an : AnR σ) (hq : ∀ r σ', MemR σ' → TlR σ' E z nw → AnR σ' → FrTl nw σ σ' → Q (.inl (some r)) σ') : T_tell a σ (kI th fun r σ1 => R_tell σ1 (kI th' fun r' σ2 => r' = r ∧ Q (.inl (some r)) σ2)) := by
  obtain ⟨⟨p1, p2, p3, p4⟩, -, -, e1, e2, e3⟩ := id h
  obtain ⟨⟨hE, h0, hz, hB0, hU, hB, hu⟩, hn, h59, hM, hL, hN, h30, hUn⟩ := id t
  have hTi := tl0_ti (ev := mV σ 22 1) (u := mV σ z 13) ⟨e2, e3⟩ hu
  have hTb := tpT_sm p4
  have hk := ek_wk (D := 30) (E := E) (a := true) (f := []) (T := tpT (mX σ 1)) (s := tl0 (mV σ 22 1) (mV σ z 13)) e3
  have ref : ∀ (σ1 : MS), TlF z E σ σ1 → mX σ1 1 = [] → (0 ≤ mV σ1 22 1 ∧ mV σ1 22 1 ≤ 400000) → (0 ≤ mV σ1 z 13 ∧ mV σ1 z 13 ≤ mV σ1 22 1) → ∀ r : Int, (∀ s', wkD 30 E true [] (tpT (mX σ 1)) (tl0 (mV σ 22 1) (mV σ z 13)) = .inl s' → r = (s'.2.1.length : Int) ∧ mX σ1 5 = ms7 s'.2.1 ∧ mV σ1 22 1 = s'.1.2.1) → (∀ e, wkD 30 E true [] (tpT (mX σ 1)) (tl0 (mV σ 22 1) (mV σ z 13)) = .inr e → r = -1 - e.1 ∧ mX σ1 5 = mX σ 5 ∧ mV σ1 22 1 = e.2.2) → R_tell σ1 (kI th' fun r' σ2 => r' = r ∧ Q (.inl (some r)) σ2) := by
    intro σ1 f1 x1 ev1 u1 r hr1 hr2
    have gz : ∀ y k, 242 ≤ y → mV σ1 y k = mV σ y k := fun y k hy => f1.2.2.2.1 y k (by omega) (by omega) (by omega)
    have hM1 : MaR σ1 E := hM.cg (gz _ _ (by decide)) (fun y k a b => gz y k (by omega)) (fun k _ => gz _ _ (by decide))
    have w33 : mV σ1 246 33 = mV σ 22 1 := by rw [gz _ _ (by decide)]; exact e1.symm
    have w85 : mV σ1 246 85 = mV σ 246 85 := gz _ _ (by decide)
    have hx := wkD_sh (D := 30) (E := E) (a := true) (f := []) (T := tpT (mX σ 1)) (s := tl0 (mV σ 22 1) (mV σ z 13)) (d := mV σ 246 85 - mV σ z 13)
    rw [← sh_tl] at hx
    have hUn1 : UnB σ1 := by
      unfold UnB at hUn ⊢
      rw [gz _ _ (by decide), gz _ _ (by decide)]
      exact hUn
    refine R_tell.r (nw := nw) (L := mX σ 1) hE h0 hn (by rw [gz _ _ (by decide)]; exact p1) (fun i hi => by rw [gz _ _ (by decide)]; exact p2 i hi) p3 p4 hM1 (fun h9 => ?_) (fun h9 => ?_) (by rw [gz _ _ (by decide)]; exact h59) (fun h9 => by rw [gz _ _ (by decide), gz _ _ (by decide)]; exact h30 h9) (by rw [w33]; exact ⟨e2, e3⟩) hUn1 (fun s' σ2 es q2 y6 y336 y141 l9 y33 un2 => ?_) (fun e σ2 es q2 y6 y141 y336 y33 un2 => ?_)
    · rw [gz _ _ (by decide)] at h9
      obtain ⟨c1, c2, c3, c4⟩ := hL h9
      exact ⟨(gz _ _ (by decide)).trans c1, c2.cg (fun k => gz _ _ (by decide)) (fun k => gz _ _ (by decide)), c3.cg (fun k => gz _ _ (by decide)) (fun k => gz _ _ (by decide)), fun i hi => (gz _ _ (by decide)).trans (c4 i hi)⟩
    · rw [gz _ _ (by decide)] at h9
      exact hN h9
    · rw [w33, w85, hx] at es
      cases hw : wkD 30 E true [] (tpT (mX σ 1)) (tl0 (mV σ 22 1) (mV σ z 13)) with
      | inr e => rw [hw] at es; cases es
      | inl s0 =>
        rw [hw] at es
        have es : s' = shU (mV σ 246 85 - mV σ z 13) s0 := by
          injection es with es
          exact es.symm
        subst es
        obtain ⟨r1, r2, r3⟩ := hr1 s0 hw
        obtain ⟨E1, E2, E3⟩ := tell_end (L := []) h t f1 x1 q2 y6 (by rw [y33, r3]; rfl) ev1 u1 un2
        refine ⟨r1.symm, hq r σ2 E1 E2 ⟨?_, ?_, ?_⟩ E3⟩
        · rw [y141, q2.1, r2, ms7_len]
          rfl
        · rw [q2.1, r2, ms7_len]
          have l9 : s0.2.1.length ≤ 60100 := l9
          omega
        · rw [q2.1, r2]
          exact y336
    · rw [w33, w85, hx] at es
      cases hw : wkD 30 E true [] (tpT (mX σ 1)) (tl0 (mV σ 22 1) (mV σ z 13)) with
      | inl s0 => rw [hw] at es; cases es
      | inr e0 =>
        rw [hw] at es
        have es : e = e0 := by
          injection es with es
          exact es.symm
        subst es
        obtain ⟨r1, r2, r3⟩ := hr2 e hw
        obtain ⟨E1, E2, E3⟩ := tell_end (L := []) h t f1 x1 q2 y6 (by rw [y33, r3]) ev1 u1 un2
        refine ⟨r1.symm, hq r σ2 E1 E2 ⟨?_, ?_, ?_⟩ E3⟩
        · rw [y141, gz _ _ (by decide), q2.1, r2]
          exact an.1
        · rw [q2.1, r2]
          exact an.2.1
        · rw [q2.1, r2]
          exact fun i hi => by rw [y336, gz _ _ (by decide)]; exact an.2.2 i hi
  refine T_tell.c ha hE h0 hz hB0 hU hB hu ⟨e2, e3⟩ p3 p4 (fun s' σ1 es f1 x1 x5 v1 vu => ?_) (fun e σ1 es f1 x1 x5 v1 vu vr => ?_) (fun e es => by have := fk_wk e es; omega)
  · have ti := wkD_ti hE (Int.le_refl 0) (Int.le_refl 0) hTi (fun w hw => absurd hw List.not_mem_nil) hTb es
    have t1 := ti.1.2.1
    have t2 := ti.2.2.2.2.2.1
    refine ref σ1 f1 x1 (by rw [v1]; exact t1) (by rw [v1, vu]; omega) _ (fun s9 e9 => ?_) (fun e9 h9 => ?_)
    · rw [es] at e9
      injection e9 with e9
      subst e9
      exact ⟨rfl, x5, v1⟩
    · rw [es] at h9
      cases h9
  · have b9 := hk.2 e es
    refine ref σ1 f1 x1 (by omega) vu _ (fun s9 e9 => ?_) (fun e9 h9 => ?_)
    · rw [es] at e9
      cases e9
    · rw [es] at h9
      injection h9 with h9
      subst h9
      exact ⟨rfl, x5, v1⟩
end
