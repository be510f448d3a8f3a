/-! TEXTS, THE CLASS: references, arguments, calls -/
section
variable {σ0 σ σ' : MS} {Q : MQ9} {E : TE} {a : Bool} {f : List (List Int)} {fr : Int} {A : List Int} {k : Nat} {R : List Int × Bool} {S H : List Int} {z z' : Nat} {n : Int} {s s' : TS}
/-- one more unknown -/
theorem TxC.un (h : TxC σ E a f fr A k R S H z z' n s) : TxC (wV σ z 13 (s.2.2.2.2.2.2 + 1)) E a f fr A k R S H z z' n (sUn s (s.2.2.2.2.2.2 + 1)) := by
  obtain ⟨⟨w1, w2, w3⟩, ⟨⟨r1, r2, r3⟩, g1, g2, g3, g4⟩, ⟨⟨a1, a2, a3, a4, a5, a6⟩, b, c, d, e, g⟩, hn⟩ := h
  have hz := b.2.2.1
  have hz' := b.2.2.2.1
  have v : ∀ y i, y ≠ z ∨ i ≠ 13 → mV (wV σ z 13 (s.2.2.2.2.2.2 + 1)) y i = mV σ y i := fun y i hy => wV_ne hy
  refine ⟨⟨by rw [v _ _ (by omega)]; exact w1, by rw [v _ _ (by omega)]; exact w2, by rw [v _ _ (by omega)]; exact w3⟩, ⟨⟨r1, by rw [v _ _ (by omega)]; exact r2, r3⟩, g1, g2, g3, g4⟩, ⟨⟨by rw [v _ _ (by omega)]; exact a1, by rw [v _ _ (by omega)]; exact a2, by rw [v _ _ (by omega)]; exact a3, by rw [v _ _ (by omega)]; exact a4, a5, a6⟩, b, c, ⟨wV_self, fun b9 => by
    obtain ⟨m1, m2, ⟨m3, m4, m5⟩, m6, m7⟩ := d.2 b9
    exact ⟨m1, m2, ⟨by rw [v _ _ (by omega)]; exact m3, m4, m5⟩, wV_self, m7⟩⟩, e.cg hz' (fun _ _ _ => rfl) (v _ _ (by omega)) (v _ _ (by omega)), g⟩, ⟨fun y => by rw [v _ _ (by omega)]; exact hn.1 y, fun y => by rw [v _ _ (by omega)]; exact hn.2 y⟩⟩
theorem Texts_refer.c {kd b : Int} {w : List (List Int)} (hE : EI E) (h : TxC σ E a f fr A k R S H z z' n s) (hi : TI 0 1 s) (hk : kd = 19 ∨ kd = 20) (hb : 0 ≤ b ∧ b ≤ 1000) (h0 : arA H A b (w.getD 0 [])) (hq : TOk Q (gvR E kd w s) (fun s' σ' => TxD σ E a f fr A k R S H z z' n s' σ') (FrT σ)) : Texts_refer kd b σ Q := by
  have hi0 : TI 0 0 s := hi.mo (Int.le_refl _) (by decide)
  have hH : mX σ 93 = H := h.2.2.1.1.2.2.2.2.2
  have l1 := h.q.len hi0
  obtain ⟨z1, z2, hz, hz', hzz⟩ := h.2.2.1.2.1
  obtain ⟨⟨i1, -⟩, -⟩ := marks_ok hz
  obtain ⟨⟨k1, k2, k3, k4, k5, k6, k7, k8, -⟩, ⟨-, -, m3⟩, -, -⟩ := marks_ok hz'
  obtain ⟨lb, rf, la, bf, bs⟩ := h.2.2.1.2.2.2.2.1
  obtain ⟨t1, t2, t3, t4, t5, t6, t7, t8⟩ := hE.2.1
  have s12 := suM_b (n := 12) (W := E.2.1.1) (fun x hx => (t4 x hx).1)
  obtain ⟨u, u1, u2, u3⟩ := id h0
  have l2 := u3.1
  refine Texts_refer.i (Texts_needKey.c h.q hi0 hH (by omega) h0 (fun hy => ?_) (fun hno σ' q1 q2 => hq.2 _ σ' (by unfold gvR; rw [hno, if_neg (by decide)]; rfl) q1 (FrT.k2 q2)))
  show tB (isMarks (mB σ 3)) (Rg b ∧ Rg (b + 1) ∧ tB (isShelf (mB σ 3 + 1)) (Shelf_seek (mB σ 3 + 1) 89 (rgt (mX σ 93) b) (rgt (mX σ 93) (b + 1)) σ _))
  rw [z2]
  refine tB.i k1 ⟨by unfold Rg; omega, by unfold Rg; omega, tB.i k2 ?_⟩
  rw [hH, u1, u2]
  refine Shelf_seek.s (R := E.2.1.1) k2 k3 k4 cap100.2.2.2.2 lb (by omega) (by omega) (U := w.getD 0 []) (by omega) (by have := (keyD_i hy).2; omega) (by omega) (fun t ht => by rw [show (u : Int) + (t : Int) = ((u + t : Nat) : Int) by omega, h.q.rd (by omega)]; exact u3.2 t ht) ?_
  have em : E.2.1.1.map ms7 = E.2.1.1 := by
    have : E.2.1.1.map ms7 = E.2.1.1.map id := List.map_congr_left (fun x hx => ms7_id (t4 x hx).2)
    rw [this, List.map_id]
  rw [em]
  have ib := ixW_b E.2.1.1 0 (ms7 (w.getD 0 []))
  have eg : gvR E kd w s = (if ixW E.2.1.1 0 (ms7 (w.getD 0 [])) = -1 then tPn [63, 63] (sUn s (s.2.2.2.2.2.2 + 1))
    else if kd = 19 then tPn (E.2.1.2.1.getD (ixW E.2.1.1 0 (ms7 (w.getD 0 []))).toNat []) s
    else tPn (wrN (E.2.1.2.2.2.1 + E.2.1.2.2.1.getD (ixW E.2.1.1 0 (ms7 (w.getD 0 []))).toNat 0) E.2.1.2.2.2.2) s) := by
    unfold gvR
    rw [if_pos hy]
  generalize ixW E.2.1.1 0 (ms7 (w.getD 0 [])) = m at *
  rw [eg] at hq
  show (¬ m = -1 → _) ∧ (m = -1 → _)
  refine ⟨fun c => ⟨by unfold Rg; omega, fun d => ?_, fun d => ?_⟩, fun c => ?_⟩
  · have hm := ib.resolve_left c
    rw [if_neg c, if_neg d] at hq
    rw [z2]
    have e1 : rgt (mX (wX σ 95 []) (z' + 11)) m = E.2.1.2.2.1.getD m.toNat 0 := by
      rw [wX_ne (by omega), la, rgt_a (i := m.toNat) (by omega) (by omega)]
    have hp : 0 ≤ E.2.1.2.2.1.getD m.toNat 0 ∧ E.2.1.2.2.1.getD m.toNat 0 ≤ 100 := by
      rw [List.getD_eq_getElem?_getD, List.getElem?_eq_getElem (by omega)]
      exact t6 _ (List.getElem_mem _)
    rw [e1, bf, bs]
    refine tB.i k1 (tB.i k1 (tB.i k8 (tB.i k8 (tB.i k1 ?_))))
    refine Row_putNumber.s cap95.2 (by omega) (t8 (by omega)) (fun _ => by omega) (by rw [wX_self, List.length_nil, cap95.1]; omega) ?_
    show Texts_refer_157 (wX (wX σ 95 []) 95 (mX (wX σ 95 []) 95 ++ wrN (E.2.1.2.2.2.1 + E.2.1.2.2.1.getD m.toNat 0) E.2.1.2.2.2.2)) Q
    rw [wX_self, wX_wX, List.nil_append]
    have hl := wrN_len (n := E.2.1.2.2.2.1 + E.2.1.2.2.1.getD m.toNat 0) (sys := E.2.1.2.2.2.2)
    exact Texts_refer_157.i (Texts_scr h hi0 (by omega) wrN_s hq)
  · have hm := ib.resolve_left c
    rw [if_neg c, if_pos d] at hq
    rw [z2]
    obtain ⟨q1, q2, q3⟩ := sh_at (L := E.2.1.2.1) (l := m.toNat) (by omega)
    have e6 : mX (wX σ 95 []) (z' + 6 + 3) = enS 0 E.2.1.2.1 := (wX_ne (by omega)).trans rf.2
    have e7 : mX (wX σ 95 []) (z' + 6 + 1) = E.2.1.2.1.flatten := (wX_ne (by omega)).trans rf.1
    have em2 : m = ((m.toNat : Nat) : Int) := by omega
    have p1 : stoM (enS 0 E.2.1.2.1) m = ((suM (E.2.1.2.1.take m.toNat) + (E.2.1.2.1.getD m.toNat []).length : Nat) : Int) := by rw [em2]; exact q1
    have p2 : sfrM (enS 0 E.2.1.2.1) m = ((suM (E.2.1.2.1.take m.toNat) : Nat) : Int) := by rw [em2]; exact q2
    have hr := t5.at m.toNat
    have pf : pourM (rgt E.2.1.2.1.flatten) (E.2.1.2.1.getD m.toNat []).length ((suM (E.2.1.2.1.take m.toNat) : Nat) : Int) = E.2.1.2.1.getD m.toNat [] := by
      have key : ∀ (r p : List Int), E.2.1.2.1.getD m.toNat [] = p ++ r → pourM (rgt E.2.1.2.1.flatten) r.length ((suM (E.2.1.2.1.take m.toNat) + p.length : Nat) : Int) = r := by
        intro r
        induction r with
        | nil => intro p _; rfl
        | cons x r ih =>
          intro p he
          have hl := len_at he
          show rgt E.2.1.2.1.flatten _ :: pourM (rgt E.2.1.2.1.flatten) r.length (_ + 1) = x :: r
          rw [rgt_n (by rw [flat_len]; omega), fl_at (by omega) (by omega), he]
          have := ih (p ++ [x]) (nxt_at he)
          rw [List.length_append, List.length_singleton, show ((suM (E.2.1.2.1.take m.toNat) + (p.length + 1) : Nat) : Int) = ((suM (E.2.1.2.1.take m.toNat) + p.length : Nat) : Int) + 1 by omega] at this
          rw [this]
          congr 1
          have := getD_r (L := p) (M := x :: r) (n := 0)
          rw [Nat.add_zero] at this
          exact this
      exact key _ [] rfl
    rw [e6, e7, p1, p2, show (((suM (E.2.1.2.1.take m.toNat) + (E.2.1.2.1.getD m.toNat []).length : Nat) : Int) - ((suM (E.2.1.2.1.take m.toNat) : Nat) : Int)).toNat = (E.2.1.2.1.getD m.toNat []).length by omega, pf, wX_wX, List.nil_append, List.length_nil]
    refine tB.i k1 (tB.i k5 (tB.i k1 (tB.i k5 (tB.i k5 (tB.i k1 (tB.i k5 (tB.i k5 (tB.i k6 (tB.i m3 ⟨by omega, Texts_refer_157.i (Texts_scr h hi0 (by omega) hr.2 hq)⟩)))))))))
  · rw [if_pos c] at hq
    rw [z1]
    have huu : mV σ z 13 = s.2.2.2.2.2.2 := h.2.2.1.2.2.2.1.1
    obtain ⟨b1, b2, b3⟩ := hi.2.2.2.2.2.1
    have b4 := hi.1.2.1.2
    refine tB.i i1 (tB.i i1 ?_)
    rw [huu]
    refine ⟨by unfold Rg; omega, by decide, Texts_refer_157.i ?_⟩
    have e9 : wX (wV (wX σ 95 []) z 13 (s.2.2.2.2.2.2 + 1)) 95 ([] ++ List.replicate 2 63) = wX (wV σ z 13 (s.2.2.2.2.2.2 + 1)) 95 [63, 63] := by
      show wX (wX (wV σ z 13 (s.2.2.2.2.2.2 + 1)) 95 []) 95 [63, 63] = _
      rw [wX_wX]
    rw [e9]
    have hiU : TI 0 0 (sUn s (s.2.2.2.2.2.2 + 1)) := by
      obtain ⟨ia, ⟨ib1, ib2, ib3, ib4⟩, ic, id, ie, ig, ih⟩ := hi
      exact ⟨ia, ⟨ib1, ib2, ib3, fun x hx => by have := ib4 x hx; show 0 ≤ x ∧ x + 0 ≤ s.1.1; omega⟩, ic, id, ie, ⟨by show 0 ≤ s.2.2.2.2.2.2 + 1; omega, by show s.2.2.2.2.2.2 + 1 + 0 ≤ s.1.2.1; omega, by show (0 : Int) ≤ s.1.1; omega⟩, ih⟩
    exact Texts_scr h.un hiU (by decide) ((smB.one (x := 63) (by decide)).app (smB.one (by decide))) (hq.fz9 (FrT.vz hz (Or.inr ⟨rfl, by rw [huu]; omega, by rw [show mV σ 22 1 = s.1.2.1 from h.1.2.1]; omega⟩)))
end
