/-! PAGES: the reference finds a page's end -/
section
variable {σ : MS} {Q : MQ9} {room : Int} {F : List Int} {Ls : List GL9} {A : List Int} {sp : List (Int × Int)} {e : Nat}
theorem peE_i {q : Nat} : peE e (q : Int) (q : Int) = ((q : Int), true) := by
  unfold peE
  rw [if_neg (by omega), decide_eq_true (by omega)]
theorem rly_124 (hB : PgB room F Ls A sp) (hG : LiR σ Ls) (hE : ElR σ F) (hN : NnR σ F A sp) : ∀ (n q : Nat) (may fits : Int), F.length ≤ q + n → e ≤ q → q ≤ F.length → (q < F.length → ¬ F.getD q 0 = -3) → (-1 ≤ may ∧ may ≤ 6600) → (-1 ≤ fits ∧ fits ≤ 6600) → (∀ al fi : Int, (-1 ≤ al ∧ al ≤ 6600) → (-1 ≤ fi ∧ fi ≤ 6600) → peE e al fi = peD room F Ls A sp e n q may fits → R_lay_259 (e : Int) room al fi σ Q) → R_lay_124 (e : Int) room ((q : Int) - (e : Int)) (pS sp (nB A (q : Int)) - pS sp (nB A (e : Int))) may fits (q : Int) 0 σ Q := by
  have la := hB.2.2.2.2.2.2.2.2
  have ls := hB.2.2.2.2.2.2.2.1
  have lf := hB.2.1
  have l5 := hB.2.2.1
  have r6 := hB.1
  have e112 : mV σ 246 112 = (F.length : Int) := hE.1
  have mbl : nB A (e : Int) ≤ 60 := by have := nB_l (A := A) (x := (e : Int)); omega
  have mb := pS_b hB (k := nB A (e : Int)) (by have := nB_l (A := A) (x := (e : Int)); omega)
  intro n
  induction n with
  | zero =>
    intro q may fits hn he hl h3 hm hf hq
    exact R_lay_124.i ⟨by unfold Rg; omega, fun _ => hq may fits hm hf rfl, fun h => by rw [e112] at h; omega⟩
  | succ n ih =>
    intro q may fits hn he hl h3 hm hf hq
    by_cases hql : F.length ≤ q
    · refine R_lay_124.i ⟨by unfold Rg; omega, fun _ => hq may fits hm hf ?_, fun h => by rw [e112] at h; omega⟩
      unfold peD
      rw [if_pos hql]
    · have hql : q < F.length := by omega
      obtain ⟨k1, k2⟩ := hE.2 q hql
      refine R_lay_124.i ⟨by unfold Rg; omega, fun h => by rw [e112] at h; omega, fun _ => ⟨fun h => absurd rfl h, fun _ => ⟨by omega, by omega, ?_⟩⟩⟩
      rw [Int.toNat_natCast, k1]
      rcases hB.2.2.2.1.1 q hql with ⟨f1, f2, f3⟩ | f1 | ⟨f1, f2⟩
      · have ek : elK (F.getD q 0) = 1 := by
          rw [f1]
          rfl
        rw [ek]
        refine ⟨fun _ => ⟨by omega, by omega, fun _ => R_lay_253.i ?_, fun h => absurd h (by decide)⟩, fun h => absurd h (by decide)⟩
        have := ih (q + 1) may fits (by omega) (by omega) (by omega) (fun _ => f3) hm hf (fun al fi ra rf h9 => hq al fi ra rf (h9.trans (by
          conv => rhs; unfold peD
          rw [if_neg (by omega), if_pos (by omega)])))
        rw [show ((q + 1 : Nat) : Int) = (q : Int) + 1 by omega, nB_sk hB.2.2.2.2.1 (by omega)] at this
        rw [show (q : Int) - (e : Int) + 1 = (q : Int) + 1 - (e : Int) by omega]
        exact this
      · exact absurd f1 (h3 hql)
      · have ek : elK (F.getD q 0) = 0 := by
          unfold elK
          rw [if_pos f1]
        rw [ek]
        refine ⟨fun _ => ⟨by omega, by omega, fun h => absurd rfl h, fun _ => ⟨by omega, by omega, ?_⟩⟩, fun h => absurd h (by decide)⟩
        rw [k2 f1]
        refine R_noteLines.p hB hN hql f1 ?_
        have pbl : nB A ((q : Int) + 1) ≤ 60 := by have := nB_l (A := A) (x := (q : Int) + 1); omega
        have pb := pS_b hB (k := nB A ((q : Int) + 1)) (by have := nB_l (A := A) (x := (q : Int) + 1); omega)
        have pm := pS_mo (sp := sp) hB.2.2.2.2.2.2.1 (k := nB A (e : Int)) (n := nB A ((q : Int) + 1)) (nB_mo (by omega)) (by have := nB_l (A := A) (x := (q : Int) + 1); omega)
        have el4 : pS sp (nB A (q : Int)) - pS sp (nB A (e : Int)) + (pS sp (nB A ((q : Int) + 1)) - pS sp (nB A (q : Int))) = ftP A sp e q := by
          unfold ftP
          omega
        have bft : 0 ≤ ftP A sp e q ∧ ftP A sp e q ≤ 90000 := by
          unfold ftP
          omega
        show Rg (_ + _) ∧ _
        rw [el4]
        have e314 : mV σ 314 (F.getD q 0).toNat = bZ (decide (flE Ls (F.getD q 0) % 2 = 0)) := (hG.2.2 (F.getD q 0).toNat (by omega)).2.2.2.2.1
        -- the line doesn't fit: the page is over
        have over : ¬ fitP room A sp e q = true → R_lay_212 (e : Int) room ((q : Int) - (e : Int) + 1) (ftP A sp e q) may fits (q : Int) 1 σ Q := fun hno => by
          have h259 : R_lay_259 (e : Int) room may fits σ Q := hq may fits hm hf (by
            conv => rhs; unfold peD
            rw [if_neg (by omega), if_neg (by omega), if_neg hno])
          refine R_lay_212.i ⟨fun _ => R_lay_253.i (R_lay_124.i ⟨by unfold Rg; omega, fun _ => h259, fun _ => ⟨fun _ => h259, fun h => absurd h (by decide)⟩⟩), fun h => absurd h (by decide)⟩
        -- it fits
        have fit : fitP room A sp e q = true → R_lay_212 (e : Int) room ((q : Int) - (e : Int) + 1) (ftP A sp e q) may fits (q : Int) 0 σ Q := fun hyes => by
          have hpe : peD room F Ls A sp e (n + 1) q may fits = (if q + 1 = F.length ∨ F.getD (q + 1) 0 = -3 then ((q : Int), true) else peD room F Ls A sp e n (q + 1) (if flE Ls (F.getD q 0) % 2 = 0 then (q : Int) else may) (q : Int)) := by
            conv => lhs; unfold peD
            rw [if_neg (by omega), if_neg (by omega), if_pos hyes]
          rw [hpe] at hq
          have nxt : ∀ al : Int, (q + 1 = F.length → al = (q : Int)) → (¬ q + 1 = F.length → al = (if flE Ls (F.getD q 0) % 2 = 0 then (q : Int) else may)) → R_lay_253 (e : Int) room ((q : Int) - (e : Int) + 1) (ftP A sp e q) al (q : Int) (q : Int) 0 σ Q := fun al hal hal2 => by
            refine R_lay_253.i ?_
            by_cases c4 : q + 1 = F.length
            · rw [if_pos (Or.inl c4)] at hq
              refine R_lay_124.i ⟨by unfold Rg; omega, fun _ => ?_, fun h => by rw [e112] at h; omega⟩
              rw [hal c4]
              exact hq _ _ (by omega) (by omega) peE_i
            · by_cases c5 : F.getD (q + 1) 0 = -3
              · rw [if_pos (Or.inr c5)] at hq
                obtain ⟨k3, -⟩ := hE.2 (q + 1) (by omega)
                have h259 := hq (q : Int) (q : Int) (by omega) (by omega) peE_i
                refine R_lay_124.i ⟨by unfold Rg; omega, fun h => by rw [e112] at h; omega, fun _ => ⟨fun h => absurd rfl h, fun _ => ⟨by omega, by omega, ?_⟩⟩⟩
                rw [show ((q : Int) + 1).toNat = q + 1 by omega, k3, c5]
                refine ⟨fun h => absurd (show elK (-3) = 2 from rfl) h, fun _ => R_lay_124.i ⟨by unfold Rg; omega, fun _ => h259, fun _ => ⟨fun _ => h259, fun h => absurd h (by decide)⟩⟩⟩
              · rw [if_neg (by omega)] at hq
                have eal := hal2 c4
                have := ih (q + 1) al (q : Int) (by omega) (by omega) (by omega) (fun _ => c5) (by rw [eal]; split <;> omega) (by omega) (by rw [eal]; exact hq)
                rw [show ((q + 1 : Nat) : Int) = (q : Int) + 1 by omega] at this
                rw [show (q : Int) - (e : Int) + 1 = (q : Int) + 1 - (e : Int) by omega]
                exact this
          refine R_lay_212.i ⟨fun h => absurd rfl h, fun _ => ⟨by omega, by omega, ?_⟩⟩
          rw [Int.toNat_natCast, k2 f1, e314]
          refine ⟨by omega, by omega, fun h => ?_, fun h => ⟨by unfold Rg; omega, by rw [e112]; unfold Rg; omega, fun h9 => ?_, fun h9 => ?_⟩⟩
          · have c := of_decide_eq_true (bZ_ne h)
            exact R_lay_249.i (nxt (q : Int) (fun _ => rfl) (fun _ => by rw [if_pos c]))
          · have c := of_decide_eq_false (bZ_z h)
            rw [e112] at h9
            exact nxt may (fun h8 => absurd h9 (by omega)) (fun _ => by rw [if_neg c])
          · rw [e112] at h9
            exact R_lay_249.i (nxt (q : Int) (fun _ => rfl) (fun h8 => absurd h8 (by omega)))
        have go : ∀ s1 : Int, s1 = (if 0 < ftP A sp e q then ftP A sp e q + 1 else 0) → R_lay_202 (e : Int) room ((q : Int) - (e : Int) + 1) (ftP A sp e q) may fits (q : Int) ((q : Int) - (e : Int) + 1) s1 σ Q := fun s1 hs => by
          have fe : ((q : Int) - (e : Int) + 1) + s1 ≤ room ↔ fitP room A sp e q = true := by
            rw [hs]
            exact decide_eq_true_iff.symm
          have sb : 0 ≤ s1 ∧ s1 ≤ 90001 := by
            rw [hs]
            split <;> omega
          exact R_lay_202.i ⟨by unfold Rg; omega, by unfold Rg; omega, fun h => fit (fe.mp h), fun h => over (fun h9 => absurd (fe.mpr h9) (by omega))⟩
        exact ⟨by unfold Rg; omega, fun h => go 0 (by rw [if_neg (by omega)]), fun h => go _ (by rw [if_pos h])⟩
end
