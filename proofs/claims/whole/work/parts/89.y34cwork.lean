/-! TEXTS, THE CLASS: a text is worked, at every depth -/
section
variable {σ0 σ σ' : MS} {Q : MQ9} {E : TE} {a : Bool} {f : List (List Int)} {fr : Int} {A : List Int} {k : Nat} {R R0 : List Int × Bool} {S H : List Int} {z z' : Nat} {n : Int} {s s' : TS} {q x0 : Nat} {T : List Int}
theorem wk_8 {sub : Sub9} {dep : Int} {Dm D : Nat} (hE : EI E) (hs : SubC E sub dep Dm) (hok : SubOk sub) (hox : SubX sub) (hD : Dm + 3 ≤ D) (hdep : 0 ≤ dep ∧ dep ≤ 30) (hTb : smB T) : ∀ (m p : Nat) (s : TS) (σ : MS) (R : List Int × Bool), p ≤ T.length → m ≤ 70000 → SgT σ q x0 T → CxC σ E a f fr A k R S H z z' n s dep → FrT σ0 σ → (a = true → R = R0) → TI 0 0 s → TOk Q (wkP sub E a f T m p s) (fun s' σ' => TxD σ0 E a f fr A k R0 S H z z' n s' σ') (FrT σ0) → Texts_work_8 (D + 1) q ((x0 + T.length : Nat) : Int) dep ((x0 + p : Nat) : Int) (m : Int) σ Q := by
  intro m
  induction m with
  | zero =>
    intro p s σ R hp hm hT hx hf0 hR hi hq
    exact Texts_work_8.i ⟨by decide, fun _ => hq.1 s σ rfl ⟨hf0, R, hx.1, hR⟩, fun h9 => absurd h9 (by decide)⟩
  | succ m ih =>
    intro p s σ R hp hm hT hx hf0 hR hi hq
    have l0 := hT.2.2.1
    have y3 := hi.1.2.2.1
    have hC := hx.1
    have nxt : ∀ (p' : Nat) (s1 : TS) (σ1 : MS) (R1 : List Int × Bool), p' ≤ T.length → TxC σ1 E a f fr A k R1 S H z z' n s1 → FrT σ σ1 → (a = true → R1 = R) → TI 0 0 s1 → TOk Q (wkP sub E a f T m p' s1) (fun s' σ' => TxD σ0 E a f fr A k R0 S H z z' n s' σ') (FrT σ0) → Texts_work_202 (D + 1) q ((x0 + T.length : Nat) : Int) dep ((x0 + p' : Nat) : Int) ((m + 1 : Nat) : Int) σ1 Q := by
      intro p' s1 σ1 R1 hp' h1 hf1 hR1 hi1 hq1
      refine Texts_work_202.i ?_
      rw [show ((m + 1 : Nat) : Int) + -1 = (m : Int) by omega]
      exact ih p' s1 σ1 R1 hp' (by omega) (hT.fr hf1) ⟨h1, hx.2⟩ (hf0.tr hf1) (fun y => (hR1 y).trans (hR y)) hi1 hq1
    by_cases hlt : T.length ≤ p
    · have e : wkP sub E a f T (m + 1) p s = .inl s := by unfold wkP; rw [if_pos hlt]
      rw [e] at hq
      exact Texts_work_8.i ⟨by unfold Rg; omega, fun h9 => absurd h9 (by omega), fun _ => ⟨by unfold Rg; omega, by unfold Rg; omega, fun _ => hq.1 s σ rfl ⟨hf0, R, hC, hR⟩, fun h9 => absurd h9 (by omega)⟩⟩
    · have hpl : p < T.length := by omega
      have hx0 : rgt (mX σ q) ((x0 + p : Nat) : Int) = T.getD p 0 := by
        rw [show ((x0 + p : Nat) : Int) = (x0 : Int) + (p : Int) by omega]
        exact hT.2.2.2 p hpl
      have hcb := hTb.b hpl
      have fail : ∀ {kd : Int} {Q' : MQ9}, (0 ≤ kd ∧ kd ≤ 20) → wkP sub E a f T (m + 1) p s = tFl kd s → (∀ σ', Q (.inr (exN 0)) σ' → Q' (.inr (exN 0)) σ') → Purse_fail kd σ Q' := fun {kd} {Q'} hk e hQ => Purse_fail.s (s := s) hk hC.1.1 hC.1.2.1 (fun σ' q1 q2 => hQ σ' (hq.2 _ σ' e q1 (hf0.tr (FrT.k2 q2))))
      have unf : wkP sub E a f T (m + 1) p s = (if T.getD p 0 = 92 then
        (if T.length ≤ p + 1 then tFl 2 s
        else if sLe (T.getD (p + 1) 0) = true then tBd (caW sub E a f T (p + 1) s) (wkP sub E a f T m (nxC E T (p + 1)))
        else tBd (tPt (cdS s.1.2.2 (if T.getD (p + 1) 0 = 32 then 544 else T.getD (p + 1) 0)) s) (wkP sub E a f T m (p + 2)))
      else if T.getD p 0 = 123 then
        (if clD T p = -1 then tFl 2 s else tBd (sub a f (sgT T (p + 1) (clD T p).toNat) s) (wkP sub E a f T m ((clD T p).toNat + 1)))
      else if T.getD p 0 = 125 then tFl 2 s
      else if T.getD p 0 = 35 then
        (if p + 1 < T.length ∧ 49 ≤ T.getD (p + 1) 0 ∧ T.getD (p + 1) 0 ≤ 57 ∧ T.getD (p + 1) 0 - 48 ≤ f.length then tBd (tPs (f.getD (T.getD (p + 1) 0 - 49).toNat []) s) (wkP sub E a f T m (p + 2)) else tFl 11 s)
      else if T.getD p 0 = 42 then wkP sub E a f T m (p + 1) (sSt s (if s.1.2.2 % 2 = 0 then s.1.2.2 + 1 else s.1.2.2 - 1))
      else if T.getD p 0 = 95 then wkP sub E a f T m (p + 1) (sSt s (if s.1.2.2 < 2 then s.1.2.2 + 2 else s.1.2.2 - 2))
      else tBd (tPt (cdS s.1.2.2 (T.getD p 0)) s) (wkP sub E a f T m (p + 1))) := by
        conv => lhs; unfold wkP
        rw [if_neg hlt]
      have put1 : ∀ (c : Int) (p' : Nat) (Q' : MQ9), okC c → p' ≤ T.length → TOk Q (tBd (tPt c s) (wkP sub E a f T m p')) (fun s' σ' => TxD σ0 E a f fr A k R0 S H z z' n s' σ') (FrT σ0) → (∀ σ1, Texts_work_202 (D + 1) q ((x0 + T.length : Nat) : Int) dep ((x0 + p' : Nat) : Int) ((m + 1 : Nat) : Int) σ1 Q → Q' (.inl none) σ1) → (∀ σ', Q (.inr (exN 0)) σ' → Q' (.inr (exN 0)) σ') → Texts_put c σ Q' := by
        intro c p' Q' hc hp' hq1 hQ1 hQ2
        refine Texts_put.c hC.q hC.2.2.2 hi hc ⟨fun s1 σ1 e1 h1 => ?_, fun e σ1 he h1 h2 => hQ2 σ1 (hq1.no he h1 (hf0.tr (FrT.k2 h2)))⟩
        have k2 := h1.2.1
        obtain ⟨R1, c1, r1⟩ := TxC.put hC.2.2.1 hC.2.2.2 (⟨[c], by obtain ⟨e9, -, -⟩ := pt_i e1; exact e9⟩ : PuR s s1) h1
        exact hQ1 σ1 (nxt p' s1 σ1 R1 hp' c1 (FrT.k2 k2) r1 (hi.pt hc e1) (hq1.bd e1))
      rw [unf] at hq
      rw [unf] at fail
      refine Texts_work_8.i ⟨by unfold Rg; omega, fun h9 => absurd h9 (by omega), fun _ => ⟨by unfold Rg; omega, by unfold Rg; omega, fun h9 => absurd h9 (by omega), fun _ => tB.i hT.1 (tB.i hT.1 ⟨by unfold Rg; omega, ?_⟩)⟩⟩
      rw [hx0]
      refine ⟨fun c92 => ⟨fun c123 => ⟨fun c125 => ⟨fun c35 => ⟨fun c42 => ⟨fun c95 => ?_, fun c95 => ?_⟩, fun c42 => ?_⟩, fun c35 => ?_⟩, fun c125 => ?_⟩, fun c123 => ?_⟩, fun c92 => ?_⟩
      · rw [if_neg c92, if_neg c123, if_neg c125, if_neg c35, if_neg c42, if_neg c95] at hq
        rw [hC.1.2.2, bor_cd hcb y3]
        exact put1 _ (p + 1) _ (cd_ok y3 hcb) (by omega) hq (fun σ1 h9 => Texts_work_199.i h9) (fun _ h9 => h9)
      · rw [if_neg c92, if_neg c123, if_neg c125, if_neg c35, if_neg c42, if_pos c95] at hq
        rw [hC.1.2.2, (bxo_1 y3).2]
        exact Texts_work_199.i (nxt (p + 1) _ _ R (by omega) hC.st FrT.v86 (fun _ => rfl) (hi.st (st_x2 y3)) hq)
      · rw [if_neg c92, if_neg c123, if_neg c125, if_neg c35, if_pos c42] at hq
        rw [hC.1.2.2, (bxo_1 y3).1]
        exact Texts_work_199.i (nxt (p + 1) _ _ R (by omega) hC.st FrT.v86 (fun _ => rfl) (hi.st (st_x1 y3)) hq)
      · rw [if_neg c92, if_neg c123, if_neg c125, if_pos c35] at hq fail
        have x17 : mV σ 86 17 = (f.length : Int) := hC.2.2.1.1.2.2.2.1
        have x16 : mV σ 86 16 = fr := hC.2.2.1.1.2.2.1
        have x93 : mX σ 93 = H := hC.2.2.1.1.2.2.2.2.2
        have hno : ∀ d : Int, ¬ (p + 1 < T.length ∧ 49 ≤ T.getD (p + 1) 0 ∧ T.getD (p + 1) 0 ≤ 57 ∧ T.getD (p + 1) 0 - 48 ≤ f.length) → Texts_putArgument_24 d σ (kV (thQ Q) fun σ1 => Texts_work_202 (D + 1) q ((x0 + T.length : Nat) : Int) dep (((x0 + p : Nat) : Int) + 2) ((m + 1 : Nat) : Int) σ1 Q) := fun d hn => Texts_putArgument_24.i (fail (by decide) (by rw [if_neg hn]) (fun _ h9 => h9))
        refine ⟨by unfold Rg; omega, by unfold Rg; omega, fun g => Texts_work_136.i (Texts_putArgument.i (T_isDigit.s (by decide) ⟨fun _ => hno _ (by omega), fun h9 => absurd h9 (by decide)⟩)), fun g => tB.i hT.1 (tB.i hT.1 ⟨by unfold Rg; omega, ?_⟩)⟩
        have hp1 : p + 1 < T.length := by omega
        have hx1 : rgt (mX σ q) (((x0 + p : Nat) : Int) + 1) = T.getD (p + 1) 0 := by
          rw [show ((x0 + p : Nat) : Int) + 1 = (x0 : Int) + ((p + 1 : Nat) : Int) by omega]
          exact hT.2.2.2 (p + 1) hp1
        have hb1 := hTb.b hp1
        rw [hx1]
        refine Texts_work_136.i (Texts_putArgument.i (T_isDigit.s (by unfold Rg; omega) ⟨fun d => hno _ (fun h9 => ?_), fun d => ⟨by unfold Rg; omega, fun g1 => hno _ (by omega), fun g1 => ⟨by unfold Rg; omega, fun g2 => ?_, fun g2 => hno _ (by rw [x17] at g2; omega)⟩⟩⟩))
        · have := bZ_z d
          rw [sDi_t (by omega)] at this
          exact Bool.noConfusion this
        · have dg := sDi_i.mp (bZ_ne d)
          rw [x17] at g2
          have hyes : p + 1 < T.length ∧ 49 ≤ T.getD (p + 1) 0 ∧ T.getD (p + 1) 0 ≤ 57 ∧ T.getD (p + 1) 0 - 48 ≤ f.length := ⟨hp1, by omega, by omega, by omega⟩
          rw [if_pos hyes] at hq
          have hj : (T.getD (p + 1) 0 - 49).toNat < f.length := by omega
          obtain ⟨u, u1, u2, u3⟩ := hx.2.2.2.1 _ hj
          have efr := hx.2.2.2.2.1
          have ei : fr + 2 * (((T.getD (p + 1) 0 - 49).toNat : Nat) : Int) = fr + 2 * (T.getD (p + 1) 0 - 49) := by omega
          rw [ei] at u1 u2
          refine Texts_putArgument_33.i ⟨by rw [x16]; unfold Rg; omega, by rw [x16]; unfold Rg; omega, ?_⟩
          rw [x16, x93, u1, u2]
          have okf : okK (f.getD (T.getD (p + 1) 0 - 49).toNat []) := hx.2.1.at _
          refine Texts_putPart.c rfl rfl hC.2.2.2 u3 hC.q hi ⟨fun s1 σ1 e1 h1 => ?_, fun e σ1 he h1 h2 => hq.no he h1 (hf0.tr (FrT.k2 h2))⟩
          have k2 := h1.2.1
          obtain ⟨R1, c1, r1⟩ := TxC.put hC.2.2.1 hC.2.2.2 (PuR.ps e1) h1
          have := nxt (p + 2) s1 σ1 R1 (by omega) c1 (FrT.k2 k2) r1 (hi.ps okf e1) (hq.bd e1)
          rw [show ((x0 + (p + 2) : Nat) : Int) = ((x0 + p : Nat) : Int) + 2 by omega] at this
          exact this
      · rw [if_neg c92, if_neg c123, if_pos c125] at fail
        exact fail (by decide) rfl (fun _ h9 => h9)
      · rw [if_neg c92, if_pos c123] at hq
        refine Texts_closing.c (s := s) hT hC.1.1 hC.1.2.1 hp (fun g => ?_) (fun g σ' q1 q2 => hq.2 _ σ' (by rw [if_pos g]; rfl) q1 (hf0.tr (FrT.k2 q2)))
        obtain ⟨b1, b2, b3⟩ := clD_b g hp c123 hpl
        rw [if_neg g] at hq
        have hlen := sg_len (T := T) b1 (Nat.le_of_lt b2)
        show Texts_inside D q (((x0 + p : Nat) : Int) + 1) ((x0 : Int) + clD T p) dep σ (kV (thQ Q) fun σ4 => Texts_work_202 (D + 1) q ((x0 + T.length : Nat) : Int) dep ((x0 : Int) + clD T p + 1) ((m + 1 : Nat) : Int) σ4 Q)
        rw [show ((x0 + p : Nat) : Int) + 1 = ((x0 + (p + 1) : Nat) : Int) by omega, show (x0 : Int) + clD T p = ((x0 + (p + 1) + (sgT T (p + 1) (clD T p).toNat).length : Nat) : Int) by rw [hlen]; omega]
        refine hs D q (x0 + (p + 1)) _ a f fr A k R S H z z' n s σ _ (by omega) (hT.sg b1 (Nat.le_of_lt b2)) hTb.sg ⟨hC, hx.2.1, hx.2.2.1, hx.2.2.2.1, hx.2.2.2.2.1, by have := hx.2.2.2.2.2.1; omega, by have := hx.2.2.2.2.2.2.1; omega, by have := hx.2.2.2.2.2.2.2; omega⟩ hi ⟨fun s1 σ1 e1 hd => ?_, fun e σ1 he h1 h2 => hq.no he h1 (hf0.tr h2)⟩
        obtain ⟨fd, R1, c1, r1⟩ := hd
        obtain ⟨ti1, -⟩ := hok a f _ s s1 0 0 (Int.le_refl _) (Int.le_refl _) hi hx.2.1 hTb.sg e1
        have := nxt ((clD T p).toNat + 1) s1 σ1 R1 (by omega) c1 fd r1 ti1 (hq.bd e1)
        show Texts_work_202 (D + 1) q ((x0 + T.length : Nat) : Int) dep (((x0 + (p + 1) + (sgT T (p + 1) (clD T p).toNat).length : Nat) : Int) + 1) ((m + 1 : Nat) : Int) σ1 Q
        rw [show ((x0 + (p + 1) + (sgT T (p + 1) (clD T p).toNat).length : Nat) : Int) + 1 = ((x0 + ((clD T p).toNat + 1) : Nat) : Int) by rw [hlen]; omega]
        exact this
      · rw [if_pos c92] at hq
        obtain ⟨D', rfl⟩ : ∃ D', D = D' + 1 := ⟨D - 1, by omega⟩
        refine Texts_escape.i ⟨by unfold Rg; omega, by unfold Rg; omega, fun g => Texts_escape_13.i ?_, fun g => Purse_fail.s (s := s) (by decide) hC.1.1 hC.1.2.1 (fun σ' q1 q2 => hq.2 _ σ' (by rw [if_pos (by omega)]; rfl) q1 (hf0.tr (FrT.k2 q2)))⟩
        have hp1 : p + 1 < T.length := by omega
        rw [if_neg (by omega)] at hq
        have hx1 : rgt (mX σ q) (((x0 + p : Nat) : Int) + 1) = T.getD (p + 1) 0 := by
          rw [show ((x0 + p : Nat) : Int) + 1 = (x0 : Int) + ((p + 1 : Nat) : Int) by omega]
          exact hT.2.2.2 (p + 1) hp1
        have hb1 := hTb.b hp1
        refine tB.i hT.1 (tB.i hT.1 ⟨by unfold Rg; omega, ?_⟩)
        rw [hx1]
        refine T_isLetter.s (by unfold Rg; omega) ⟨fun d => ?_, fun d => ?_⟩
        · rw [bZ_z d, if_neg (by decide)] at hq
          have fin : ∀ c : Int, okC c → TOk Q (tBd (tPt c s) (wkP sub E a f T m (p + 2))) (fun s' σ' => TxD σ0 E a f fr A k R0 S H z z' n s' σ') (FrT σ0) → Texts_put c σ (kV (thQ (kI (thQ Q) fun r5 σ5 => Texts_work_202 (D' + 1 + 1) q ((x0 + T.length : Nat) : Int) dep r5 ((m + 1 : Nat) : Int) σ5 Q)) fun σ1 => Rg (((x0 + p : Nat) : Int) + 1 + 1) ∧ (kI (thQ Q) fun r5 σ5 => Texts_work_202 (D' + 1 + 1) q ((x0 + T.length : Nat) : Int) dep r5 ((m + 1 : Nat) : Int) σ5 Q) (.inl (some (((x0 + p : Nat) : Int) + 1 + 1))) σ1) := by
            intro c hc hq1
            refine put1 c (p + 2) _ hc (by omega) hq1 (fun σ1 h9 => ⟨by unfold Rg; omega, ?_⟩) (fun _ h9 => h9)
            show Texts_work_202 (D' + 1 + 1) q ((x0 + T.length : Nat) : Int) dep (((x0 + p : Nat) : Int) + 1 + 1) ((m + 1 : Nat) : Int) σ1 Q
            rw [show ((x0 + p : Nat) : Int) + 1 + 1 = ((x0 + (p + 2) : Nat) : Int) by omega]
            exact h9
          refine ⟨fun g2 => Texts_escape_57.i ?_, fun g2 => Texts_escape_57.i ?_⟩
          · rw [if_neg g2] at hq
            rw [hC.1.2.2, bor_cd hb1 y3]
            exact fin _ (cd_ok y3 hb1) hq
          · rw [if_pos g2] at hq
            rw [hC.1.2.2, g2, bor_hd y3]
            exact fin _ (cd_hard y3) hq
        · rw [bZ_ne d, if_pos rfl] at hq
          obtain ⟨D'', rfl⟩ : ∃ D'', D' = D'' + 1 := ⟨D' - 1, by omega⟩
          rw [show ((x0 + p : Nat) : Int) + 1 = ((x0 + (p + 1) : Nat) : Int) by omega]
          refine Texts_call.c hE hs hok hox (by omega) hdep (by omega) hT hTb hx hi ⟨fun s1 σ1 e1 hd => ?_, fun e σ1 he h1 h2 => hq.no he h1 (hf0.tr h2)⟩
          obtain ⟨fd, R1, c1, r1⟩ := hd
          have hne : neD T (p + 1) ≤ T.length := by
            unfold neD
            have : ((T.drop (p + 1)).takeWhile sLe).length ≤ (T.drop (p + 1)).length := (List.takeWhile_sublist _).length_le
            rw [List.length_drop] at this
            omega
          have hnx : nxC E T (p + 1) ≤ T.length := by
            unfold nxC
            cases hfa : faD T (arD E T (p + 1)) (neD T (p + 1)) with
            | inl w => exact (fa_b hne (sp := w.1) (e := w.2) hfa).2.2.1
            | inr kd => exact Nat.zero_le _
          exact nxt _ s1 σ1 R1 hnx c1 fd r1 (ca_ti hok hE hx.2.1 hTb (Int.le_refl _) (Int.le_refl _) hi e1) (hq.bd e1)
theorem Texts_work.c {D Dd : Nat} {dep : Int} (hE : EI E) (hs : SubC E (isD D E) dep (5 * D + 1)) (hD : 5 * D + 5 ≤ Dd) (hdep : 0 ≤ dep ∧ dep ≤ 30) (hT : SgT σ q x0 T) (hTb : smB T) (h : CxC σ E a f fr A k R S H z z' n s dep) (hi : TI 0 0 s) (hq : TOk Q (wkD D E a f T s) (fun s' σ' => TxD σ E a f fr A k R S H z z' n s' σ') (FrT σ)) : Texts_work Dd q (x0 : Int) ((x0 + T.length : Nat) : Int) dep σ Q := by
  obtain ⟨d, rfl⟩ : ∃ d, Dd = d + 1 := ⟨Dd - 1, by omega⟩
  have l0 := hT.2.2.1
  rw [wkD_i] at hq
  refine Texts_work.i ?_
  have := wk_8 (σ0 := σ) (R0 := R) (D := d) hE hs (is_ti hE D) (is_ox D) (by omega) hdep hTb T.length 0 s σ R (Nat.zero_le _) (by omega) hT h FrT.rf (fun _ => rfl) hi hq
  rw [show ((x0 + T.length : Nat) : Int) - (x0 : Int) = ((T.length : Nat) : Int) by omega]
  exact this
/-- within braces, at every depth -/
theorem is_c (hE : EI E) : ∀ D : Nat, D ≤ 30 → SubC E (isD D E) (30 - (D : Int)) (5 * D + 1)
  | 0, _, Dd, q, x0, T, a, f, fr, A, k, R, S, H, z, z', n, s, σ, Q, hD, hT, hTb, h, hi, hq => by
    obtain ⟨d, rfl⟩ : ∃ d, Dd = d + 1 := ⟨Dd - 1, by omega⟩
    refine Texts_inside.i ⟨by decide, fun h9 => absurd h9 (by decide), fun _ => Purse_fail.s (s := s) (by decide) h.1.1.1 h.1.1.2.1 (fun σ' q1 q2 => hq.2 _ σ' rfl q1 (FrT.k2 q2))⟩
  | D + 1, hle, Dd, q, x0, T, a, f, fr, A, k, R, S, H, z, z', n, s, σ, Q, hD, hT, hTb, h, hi, hq => by
    obtain ⟨d, rfl⟩ : ∃ d, Dd = d + 1 := ⟨Dd - 1, by omega⟩
    have hC := h.1
    have hq2 : TOk Q (tBd (tSp 5 s) fun s1 => tBd (wkD D E a f T s1) fun s2 => .inl (sSt s2 s1.1.2.2)) (fun s' σ' => TxD σ E a f fr A k R S H z z' n s' σ') (FrT σ) := hq
    have ih := is_c hE D (by omega)
    refine Texts_inside.i ⟨by unfold Rg; omega, fun _ => Texts_inside_16.i ?_, fun h9 => absurd h9 (by omega)⟩
    refine Purse_spend.s (s := s) (by decide) hC.1.1 hC.1.2.1 hi.1.1 hi.1.2.1 (fun s1 h1 => ?_) (fun e σ' he q1 q2 => hq2.no he q1 (FrT.k2 q2))
    have hC1 := hC.sp (by decide) h1
    have ti1 := (hi.sp (by decide) h1).mo (p' := 0) (v' := 0) (by decide) (by decide)
    have hq3 := hq2.bd h1
    generalize eσ1 : wV (wV σ 22 0 (s.1.1 + 5)) 22 1 (s.1.2.1 + 5) = σ1 at hC1 ⊢
    have f1 : FrT σ σ1 := by rw [← eσ1]; exact (FrT.v22 (Or.inl (by decide))).tr (FrT.v22 (Or.inr (by rw [wV_ne (Or.inr (by decide))]; have := hC.1.2.1; omega)))
    have y14 : mV σ1 86 14 = s1.1.2.2 := hC1.1.2.2
    have edep : (30 : Int) - ((D + 1 : Nat) : Int) + 1 = 30 - (D : Int) := by omega
    show Texts_work d q (x0 : Int) ((x0 + T.length : Nat) : Int) ((30 : Int) - ((D + 1 : Nat) : Int) + 1) σ1 _
    rw [edep]
    have hx1 : CxC σ1 E a f fr A k R S H z z' n s1 (30 - (D : Int)) := ⟨hC1, h.2.1, h.2.2.1, h.2.2.2.1, h.2.2.2.2.1, by have := h.2.2.2.2.2.1; omega, by have := h.2.2.2.2.2.2.1; omega, by have := h.2.2.2.2.2.2.2; omega⟩
    refine Texts_work.c hE ih (by omega) (by omega) (hT.fr f1) hTb hx1 ti1 ⟨fun s2 σ2 e2 hd => ?_, fun e σ2 he h2 h3 => hq3.no he h2 (f1.tr h3)⟩
    obtain ⟨fd, R2, c2, r2⟩ := hd
    show Q (.inl none) (wV σ2 86 14 (mV σ1 86 14))
    rw [y14]
    exact (hq3.bd e2).1 _ _ rfl ⟨(f1.tr fd).tr FrT.v86, R2, c2.st, r2⟩
end
