/-! TEXTS, THE CLASS: calls, their ends -/
theorem rcut_ap {L M : List Int} : rcut (L ++ M) (L.length : Int) = L := by
  unfold rcut
  split
  · rw [show ((L.length : Nat) : Int).toNat = L.length from rfl, List.take_left]
  · rename_i h
    have : M.length = 0 := by rw [List.length_append] at h; omega
    rw [List.eq_nil_of_length_eq_zero this, List.append_nil]
theorem rrem_ap {L M N : List Int} : rrem (L ++ M ++ N) (L.length : Int) ((L ++ M).length : Int) = L ++ N := by
  unfold rrem
  have l1 : (L ++ M).length = L.length + M.length := List.length_append
  have l2 : (L ++ M ++ N).length = (L ++ M).length + N.length := List.length_append
  rw [if_pos (by omega), show ((L.length : Nat) : Int).toNat = L.length from rfl, show (((L ++ M).length : Nat) : Int).toNat = (L ++ M).length from rfl, List.drop_left, List.append_assoc, List.take_left]
theorem an_ok : ∀ j : Nat, j < 21 → stI 4 (j : Int) = anD.getD j 0 ∧ 0 ≤ anD.getD j 0 ∧ anD.getD j 0 ≤ 4 := by decide +kernel
section
variable {σ0 σ σ' : MS} {Q : MQ9} {E : TE} {a : Bool} {f : List (List Int)} {fr : Int} {A : List Int} {k : Nat} {R : List Int × Bool} {S H : List Int} {z z' : Nat} {n : Int} {s s' : TS} {q x0 : Nat} {T : List Int}
/-- a call's arguments go -/
theorem ca_437 {D : Nat} {R0 : List Int × Bool} {s0 s1 : TS} {Ar Wf Sp Hd : List Int} {nx : Int} (h0 : a = true → Ar = A ++ s0.2.1.drop k ∧ k ≤ s0.2.1.length) (h0f : a = false → Ar = A) (hf : FrT σ0 σ) (h : TxC σ E a f fr (Ar ++ Wf) s0.2.1.length R (S ++ Sp) (H ++ Hd) z z' n s1) (hR : a = true → R = R0) (ho : OX s0 s1) (hq : ∀ σ', TxD σ0 E a f fr A k R0 S H z z' n s1 σ' → Q (.inl (some nx)) σ') : Texts_call_437 (D + 1) (S.length : Int) (H.length : Int) (Ar.length : Int) nx ((Ar ++ Wf).length : Int) σ Q := by
  obtain ⟨⟨w1, w2, w3⟩, ⟨⟨r1, r2, r3⟩, g1, g2, g3, g4⟩, ⟨⟨a1, a2, a3, a4, a5, a6⟩, b, c, d, e, g⟩, hn9⟩ := h
  have hz := b.2.2.1
  have hz' := b.2.2.2.1
  obtain ⟨Lo, eo⟩ := ho
  have fin : ∀ B : List Int, (B.length : Int) ≤ s1.1.1 → okK B → (a = true → B = A ++ s1.2.1.drop k ∧ k ≤ s1.2.1.length) → (a = false → B = A) → Texts_call_467 (D + 1) (S.length : Int) (H.length : Int) nx (wX σ 89 B) Q := by
    intro B hB1 hB2 hB3 hB4
    refine Texts_call_467.i (hq _ ?_)
    have e91 : rcut (mX (wX σ 89 B) 91) (S.length : Int) = S := by rw [wX_ne (by decide), a5]; exact rcut_ap
    have e93 : rcut (mX (wX σ 89 B) 93) (H.length : Int) = H := by rw [wX_ne (by decide), a6]; exact rcut_ap
    rw [e91, e93]
    generalize eσ : wX (wX (wX σ 89 B) 91 S) 93 H = σ2
    have o : ∀ x, x ≠ 89 → x ≠ 91 → x ≠ 93 → mX σ2 x = mX σ x := fun x h1 h2 h3 => by rw [← eσ, wX_ne h3, wX_ne h2, wX_ne h1]
    have y89 : mX σ2 89 = B := by rw [← eσ, wX_ne (by decide), wX_ne (by decide)]; exact wX_self
    have y91 : mX σ2 91 = S := by rw [← eσ, wX_ne (by decide)]; exact wX_self
    have y93 : mX σ2 93 = H := by rw [← eσ]; exact wX_self
    have V2 : σ2.2 = σ.2 := by rw [← eσ]; rfl
    have eV : mV σ2 = mV σ := congrArg Prod.fst V2
    refine ⟨hf.tr (by rw [← eσ]; exact (FrT.x (by decide)).tr ((FrT.x (by decide)).tr (FrT.x (by decide)))), R, ⟨⟨by rw [eV]; exact w1, by rw [eV]; exact w2, by rw [eV]; exact w3⟩, ⟨⟨by rw [o 87 (by decide) (by decide) (by decide)]; exact r1, by rw [eV]; exact r2, r3⟩, by rw [y89]; exact hB1, by rw [y89]; exact hB2, fun y => by rw [y89]; exact hB3 y, fun y => ⟨(g4 y).1, by rw [y89]; exact hB4 y⟩⟩, ⟨⟨by rw [eV]; exact a1, by rw [eV]; exact a2, by rw [eV]; exact a3, by rw [eV]; exact a4, y91, y93⟩, b.b (congrArg Prod.snd V2), c.cg (o _ (by decide) (by decide) (by decide)) (o _ (by decide) (by decide) (by decide)) (o _ (by decide) (by decide) (by decide)), d.cg hz (fun x hx => o x (by omega) (by omega) (by omega)) (by rw [eV]) (by rw [eV]), e.cg hz' (fun x h1 h2 => o x (by omega) (by omega) (by omega)) (by rw [eV]) (by rw [eV]), g.cg (fun x h1 h2 => o x (by omega) (by omega) (by omega))⟩, ⟨fun y => by rw [eV]; exact hn9.1 y, fun y => by rw [eV]; exact hn9.2 y⟩⟩, hR⟩
  refine Texts_call_437.i ⟨fun m => ?_, fun m => ?_⟩
  · have ha : a = false := by
      cases ha : a with
      | false => rfl
      | true => exact absurd (hn9.1 ha) (by omega)
    have e89 : mX σ 89 = Ar ++ Wf := (g4 ha).2
    rw [e89, rcut_ap]
    refine fin Ar ?_ (g2.sub (fun x hx => by rw [e89]; exact List.mem_append_left _ hx)) (fun h9 => by rw [ha] at h9; exact Bool.noConfusion h9) (fun _ => h0f ha)
    rw [e89, List.length_append] at g1
    omega
  · have ha : a = true := by
      cases ha : a with
      | true => rfl
      | false => exact absurd (hn9.2 ha) (by omega)
    have e89 : mX σ 89 = Ar ++ Wf ++ s1.2.1.drop s0.2.1.length := (g3 ha).1
    have edr : s1.2.1.drop s0.2.1.length = Lo := by rw [eo, List.drop_left]
    obtain ⟨h1, h2⟩ := h0 ha
    rw [e89, rrem_ap]
    refine fin _ ?_ (g2.sub (fun x hx => by
      rw [e89]
      rcases List.mem_append.mp hx with hx | hx
      · exact List.mem_append_left _ (List.mem_append_left _ hx)
      · exact List.mem_append_right _ hx)) (fun _ => ⟨?_, ?_⟩) (fun h9 => by rw [ha] at h9; exact Bool.noConfusion h9)
    · rw [e89, List.length_append, List.length_append] at g1
      rw [List.length_append]
      omega
    · rw [edr, h1, eo, List.append_assoc, List.drop_append_of_le_length h2]
    · rw [eo, List.length_append]; omega
theorem Texts_arityOf.c {p : Nat} (hE : EI E) (h : TxC σ E a f fr A k R S H z z' n s) (hy : ¬ (maD E T p = -1 ∧ kiD E T p = -1) → ¬ (maD E T p = -1 ∧ noM E a (kiD E T p) = true) → Q (.inl (some ((arD E T p : Nat) : Int))) σ) (hno : ∀ kd, (maD E T p = -1 ∧ kiD E T p = -1 → kd = 3) → (¬ (maD E T p = -1 ∧ kiD E T p = -1) → kd = 6 ∧ (maD E T p = -1 ∧ noM E a (kiD E T p) = true)) → ∀ σ', TxF σ' (kd, s.1.1, s.1.2.1) → K2 σ σ' → Q (.inr (exN 0)) σ') : Texts_arityOf (maD E T p) (kiD E T p) σ Q := by
  have mb := ixW_b E.1.1 0 (sgT T p (neD T p))
  have hme : maD E T p = ixW E.1.1 0 (sgT T p (neD T p)) := rfl
  rw [← hme] at mb
  have kb : kiD E T p = -1 ∨ (0 ≤ kiD E T p ∧ kiD E T p < 21) := by
    unfold kiD
    split
    · have := ixW_b (wdT 1) 0 (sgT T p (neD T p))
      have l : (wdT 1).length = 21 := by decide +kernel
      rw [l] at this
      rcases this with h | h
      · exact Or.inl h
      · exact Or.inr (by omega)
    · exact Or.inl rfl
  have x30 : mX σ 30 = E.1.2.1 := h.2.2.1.2.2.2.2.2.2.1
  obtain ⟨t1, t2, t3, -, t5, -⟩ := hE.1
  have x13 : mV σ 86 13 = E.2.2.2 := h.2.2.1.1.2.1
  have x15 : mV σ 86 15 = n := h.2.2.1.1.1
  generalize hm : maD E T p = m at *
  generalize hk : kiD E T p = kd at *
  have ar1 : m = -1 → arD E T p = (anD.getD kd.toNat 0).toNat := fun e => by unfold arD; rw [hm, if_pos e, hk]
  have ar2 : ¬ m = -1 → arD E T p = (E.1.2.1.getD m.toNat 0).toNat := fun e => by unfold arD; rw [hm, if_neg e]
  have val : 0 ≤ kd → kd < 21 → m = -1 → stI 4 kd = ((arD E T p : Nat) : Int) := fun h1 h2 e => by
    obtain ⟨v1, v2, v3⟩ := an_ok kd.toNat (by omega)
    rw [ar1 e, show kd = ((kd.toNat : Nat) : Int) by omega, v1]
    rw [show (((kd.toNat : Nat) : Int)).toNat = kd.toNat by omega]
    omega
  have f29 : m = -1 → kd = -1 → Texts_arityOf_29 σ Q := fun e1 e2 => Texts_arityOf_29.i (Purse_fail.s (s := s) (by decide) h.1.1 h.1.2.1 (hno 3 (fun _ => rfl) (fun h9 => absurd ⟨e1, e2⟩ h9)))
  refine Texts_arityOf.i ⟨by unfold Rg; omega, fun e => ⟨by unfold Rg; omega, fun c => f29 e (by omega), fun c => ⟨by unfold Rg; omega, fun d => ?_, fun d => absurd d (by omega)⟩⟩, fun e => ⟨by unfold Rg; omega, ?_⟩⟩
  · have nk : ¬ (m = -1 ∧ kd = -1) := by omega
    have good : noM E a kd = false → Q (.inl (some (stI 4 kd))) σ := fun hg => by
      rw [val c d e]
      exact hy nk (fun h9 => by rw [hg] at h9; exact Bool.noConfusion h9.2)
    have bad : noM E a kd = true → Texts_arityOf_92 kd σ Q := fun hg => Texts_arityOf_92.i (Purse_fail.s (s := s) (by decide) h.1.1 h.1.2.1 (hno 6 (fun h9 => absurd h9 nk) (fun _ => ⟨rfl, e, hg⟩)))
    have h57 : (kd = 16 ∨ kd = 17 ∨ kd = 18) → Texts_arityOf_57 kd σ Q := by
      intro hmk
      refine Texts_arityOf_57.i (Texts_arityOf_62.i ⟨fun h9 => absurd h9 (by decide), fun _ => ⟨fun g => bad ?_, fun g => ⟨by unfold Rg; omega, fun g2 => Texts_arityOf_89.i ⟨fun g3 => ⟨c, d, good ?_⟩, fun g3 => bad ?_⟩, fun g2 => Texts_arityOf_89.i ⟨fun g3 => ⟨c, d, good ?_⟩, fun g3 => bad ?_⟩⟩⟩⟩)
      · have ha : a = true := by
          cases ha : a with
          | true => rfl
          | false => exact absurd (h.2.2.2.2 ha) (by omega)
        unfold noM
        rw [decide_eq_true hmk, ha]
        rfl
      · have ha : a = false := by
          cases ha : a with
          | false => rfl
          | true => exact absurd (h.2.2.2.1 ha) (by omega)
        unfold noM
        rw [ha, Bool.false_or, if_neg g2, decide_eq_false (p := E.2.2.2 < 1) (by omega), Bool.and_false]
      · have ha : a = false := by
          cases ha : a with
          | false => rfl
          | true => exact absurd (h.2.2.2.1 ha) (by omega)
        unfold noM
        rw [ha, Bool.false_or, if_neg g2, decide_eq_true (p := E.2.2.2 < 1) (by omega), decide_eq_true hmk]
        rfl
      · have ha : a = false := by
          cases ha : a with
          | false => rfl
          | true => exact absurd (h.2.2.2.1 ha) (by omega)
        unfold noM
        rw [ha, Bool.false_or, if_pos g2, decide_eq_false (p := E.2.2.2 < 2) (by omega), Bool.and_false]
      · have ha : a = false := by
          cases ha : a with
          | false => rfl
          | true => exact absurd (h.2.2.2.1 ha) (by omega)
        unfold noM
        rw [ha, Bool.false_or, if_pos g2, decide_eq_true (p := E.2.2.2 < 2) (by omega), decide_eq_true hmk]
        rfl
    have rg : Rg kd := by unfold Rg; omega
    refine ⟨rg, fun g => h57 (Or.inl g), fun g1 => ⟨rg, fun g => h57 (Or.inr (Or.inl g)), fun g2 => ⟨rg, fun g3 => Texts_arityOf_62.i ⟨fun _ => ⟨c, d, good ?_⟩, fun h9 => absurd rfl h9⟩, fun g => h57 (Or.inr (Or.inr g))⟩⟩⟩
    unfold noM
    rw [decide_eq_false (by omega), Bool.false_and]
  · have hm2 := mb.resolve_left e
    rw [x30, rgt_a (i := m.toNat) (by omega) (by omega)]
    have v := hy (fun h9 => e h9.1) (fun h9 => e h9.1)
    rw [ar2 e] at v
    have hb : 0 ≤ E.1.2.1.getD m.toNat 0 := by
      rw [List.getD_eq_getElem?_getD, List.getElem?_eq_getElem (by omega)]
      exact (t5 _ (List.getElem_mem _)).1
    rw [show (((E.1.2.1.getD m.toNat 0).toNat : Nat) : Int) = E.1.2.1.getD m.toNat 0 by omega] at v
    exact v
/-- the name ends -/
theorem ca_3 {D : Nat} {dep : Int} {p0 : Int} (hT : SgT σ q x0 T) (hTb : smB T) : ∀ (r : List Int) (j : Nat), T.drop j = r → j ≤ T.length → Texts_call_27 (D + 1) q p0 ((x0 + T.length : Nat) : Int) dep ((x0 + (j + (r.takeWhile sLe).length) : Nat) : Int) σ Q → Texts_call_3 (D + 1) q p0 ((x0 + T.length : Nat) : Int) dep ((x0 + j : Nat) : Int) σ Q
  | [], j, he, hj, h => by
    have l0 := hT.2.2.1
    have : T.length ≤ j := by
      have := congrArg List.length he
      rw [List.length_drop, List.length_nil] at this
      omega
    exact Texts_call_3.i ⟨by unfold Rg; omega, by unfold Rg; omega, fun _ => h, fun h9 => absurd h9 (by omega)⟩
  | c :: r, j, he, hj, h => by
    have l0 := hT.2.2.1
    have hlt : j < T.length := by
      have := congrArg List.length he
      rw [List.length_drop, List.length_cons] at this
      omega
    have hc : T.getD j 0 = c := by
      have : T.drop j = T.getD j 0 :: T.drop (j + 1) := by
        rw [List.drop_eq_getElem_cons hlt, List.getD_eq_getElem?_getD, List.getElem?_eq_getElem hlt]
        rfl
      rw [he] at this
      exact (List.cons.inj this).1.symm
    have hr : T.drop (j + 1) = r := by
      have : T.drop j = T.getD j 0 :: T.drop (j + 1) := by
        rw [List.drop_eq_getElem_cons hlt, List.getD_eq_getElem?_getD, List.getElem?_eq_getElem hlt]
        rfl
      rw [he] at this
      exact (List.cons.inj this).2.symm
    have hx : rgt (mX σ q) ((x0 + j : Nat) : Int) = c := by
      rw [show ((x0 + j : Nat) : Int) = (x0 : Int) + (j : Int) by omega, hT.2.2.2 j hlt, hc]
    refine Texts_call_3.i ⟨by unfold Rg; omega, by unfold Rg; omega, fun h9 => absurd h9 (by omega), fun _ => tB.i hT.1 (tB.i hT.1 ⟨by unfold Rg; omega, ?_⟩)⟩
    rw [hx]
    have hcb := hTb.b hlt
    rw [hc] at hcb
    rw [List.takeWhile_cons] at h
    refine T_isLetter.s (by unfold Rg; omega) ⟨fun d => ?_, fun d => ?_⟩
    · rw [bZ_z d, if_neg (by decide)] at h
      exact h
    · rw [bZ_ne d, if_pos rfl, List.length_cons] at h
      have := ca_3 (D := D) (dep := dep) (p0 := p0) hT hTb r (j + 1) hr (by omega) (by rw [show j + 1 + (r.takeWhile sLe).length = j + ((r.takeWhile sLe).length + 1) by omega]; exact h)
      exact this
end
