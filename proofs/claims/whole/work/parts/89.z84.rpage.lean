/-! PAGES: what a page shows; the reference writes its lines -/
def bdL (F : List Int) (Ls : List GL9) (q : Nat) : GL9 := if 0 ≤ F.getD q 0 then Ls.getD (F.getD q 0).toNat ([], 0, 0) else ([], 0, 0)
def bdS (F : List Int) (Ls : List GL9) : Nat → Nat → List GL9
  | _, 0 => []
  | e, n + 1 => bdL F Ls e :: bdS F Ls (e + 1) n
def PgS9 : List Nat := 319 :: 328 :: 337 :: PfS
def PgK9 : List Nat := [123, 124, 125, 143]
/-- what a page's lines leave -/
def FrPp (σ σ' : MS) : Prop := FrZ PgS9 PgK9 σ σ'
section
variable {σ σ0 : MS} {Q : MQ9} {room : Int} {F : List Int} {Ls : List GL9} {A : List Int} {sp : List (Int × Int)} {e : Nat} {L0 : List GL9}
theorem bdS_s : ∀ {n e : Nat}, bdS F Ls e (n + 1) = bdS F Ls e n ++ [bdL F Ls (e + n)]
  | 0, e => rfl
  | n + 1, e => by
    have ih := bdS_s (n := n) (e := e + 1)
    show bdL F Ls e :: bdS F Ls (e + 1) (n + 1) = bdL F Ls e :: (bdS F Ls (e + 1) n) ++ [bdL F Ls (e + (n + 1))]
    rw [ih, show e + 1 + n = e + (n + 1) by omega]
    rfl
theorem bdS_l : ∀ {n e : Nat}, (bdS F Ls e n).length = n
  | 0, e => rfl
  | n + 1, e => by
    show (bdS F Ls (e + 1) n).length + 1 = n + 1
    rw [bdS_l]
theorem FrPp.tr {σ1 σ2 : MS} (h : FrPp σ σ1) (h' : FrPp σ1 σ2) : FrPp σ σ2 := FrZ.tr h h'
theorem FrPp.pf {σ1 : MS} (h : FrPf σ σ1) : FrPp σ σ1 := FrZ.mo h (by decide) (by decide)
/-- the galley of the reference, for pages -/
def GyR (σ : MS) (F : List Int) (Ls : List GL9) (A : List Int) (sp : List (Int × Int)) : Prop := LiR σ Ls ∧ ElR σ F ∧ NnR σ F A sp
theorem GyR.p {σ1 : MS} (h : GyR σ F Ls A sp) (f : FrPp σ σ1) : GyR σ1 F Ls A sp := by
  obtain ⟨h1, h2, h3⟩ := h
  have z : ∀ y k, y ∉ PgS9 → y ≠ 246 → mV σ1 y k = mV σ y k := fun y k a c => f.z a c
  have kk : ∀ k, k ∉ PgK9 → mV σ1 246 k = mV σ 246 k := fun k a => f.f a (by decide)
  refine ⟨LiR.cg h1 (kk _ (by decide)) (kk _ (by decide)) (fun y j a _ => z y j (by rcases a with rfl | rfl | rfl | rfl | rfl <;> decide) (by omega)) (fun j _ => ⟨z _ _ (by decide) (by decide), z _ _ (by decide) (by decide)⟩), ⟨(kk _ (by decide)).trans h2.1, fun i hi => ?_⟩, ⟨fun k hk1 => ?_, h3.2.1, fun i hi h0 => ?_⟩⟩
  · rw [z 320 _ (by decide) (by decide), z 321 _ (by decide) (by decide)]
    exact h2.2 i hi
  · rw [z 303 _ (by decide) (by decide), z 304 _ (by decide) (by decide)]
    exact h3.1 k hk1
  · unfold nlA
    rw [z 317 _ (by decide) (by decide), z 318 _ (by decide) (by decide)]
    exact h3.2.2 i hi h0
/-- which page lines stand on -/
def LpR (σ0 σ : MS) (F : List Int) (c : Int) (e q : Nat) : Prop := (∀ j, e ≤ j → j < q → 0 ≤ F.getD j 0 → mV σ 319 (F.getD j 0).toNat = c) ∧ (∀ l, (∀ j, e ≤ j → j < q → 0 ≤ F.getD j 0 → (F.getD j 0).toNat ≠ l) → mV σ 319 l = mV σ0 319 l) ∧ ∀ k, mV σ 328 k = mV σ0 328 k
theorem tot_l {i : Nat} (hi : i < Ls.length) : suM ((Ls.map (·.1)).take i) + (Ls.getD i ([], 0, 0)).1.length ≤ suM (Ls.map (·.1)) := by
  have h := suM_at9 (K := Ls.map (·.1)) (i := i) (by rw [List.length_map]; exact hi)
  have e : (Ls.map (·.1)).getD i [] = (Ls.getD i ([], 0, 0)).1 := by
    unfold List.getD
    rw [List.getElem?_map, List.getElem?_eq_getElem hi]
    rfl
  rw [e] at h
  exact h
/-- a page's lines of text, the reference -/
theorem rpg_46 {last : Nat} {most l4 c : Int} (hB : PgB room F Ls A sp) (hT : suM (Ls.map (·.1)) ≤ 70000) (ho : ∀ i, i < Ls.length → Rg (Ls.getD i ([], 0, 0)).2.1) (hla : last < F.length) (hc : mV σ0 246 123 = c) (hl : L0.length + (last + 1 - e) ≤ 6100) (hs : suM (L0.map (·.1)) + suM ((bdS F Ls e (last + 1 - e)).map (·.1)) ≤ 80000) (hq : ∀ σ', GyR σ' F Ls A sp → PfR σ' (L0 ++ bdS F Ls e (last + 1 - e)) → FrPp σ0 σ' → mV σ' 246 123 = c → LpR σ0 σ' F c e (last + 1) → R_page_46 (e : Int) (last : Int) most l4 (pS sp (nB A ((last : Int) + 1)) - pS sp (nB A (e : Int))) ((last : Int) + 1) σ' Q) : ∀ (n q : Nat) (σ : MS), q + n = last + 1 → e ≤ q → GyR σ F Ls A sp → PfR σ (L0 ++ bdS F Ls e (q - e)) → FrPp σ0 σ → mV σ 246 123 = c → LpR σ0 σ F c e q → R_page_46 (e : Int) (last : Int) most l4 (pS sp (nB A (q : Int)) - pS sp (nB A (e : Int))) (q : Int) σ Q := by
  have lf := hB.2.1
  have l5 := hB.2.2.1
  intro n
  induction n with
  | zero =>
    intro q σ hn he hg hp hf hc1 hlp
    have eq : q = last + 1 := by omega
    rw [eq] at hp hlp ⊢
    have := hq σ hg hp hf hc1 hlp
    rw [show ((last + 1 : Nat) : Int) = (last : Int) + 1 by omega]
    exact this
  | succ n ih =>
    intro q σ hn he hg hp hf hc1 hlp
    have hql : q < F.length := by omega
    obtain ⟨hg1, hg2, hg3⟩ := id hg
    obtain ⟨k1, k2⟩ := hg2.2 q hql
    have eb : bdS F Ls e (q + 1 - e) = bdS F Ls e (q - e) ++ [bdL F Ls q] := by
      rw [show q + 1 - e = (q - e) + 1 by omega, bdS_s, show e + (q - e) = q by omega]
    -- what is left of room for signs
    have mono : ∀ (m : Nat), (q - e) + m = last + 1 - e → suM ((bdS F Ls e (q - e)).map (·.1)) ≤ suM ((bdS F Ls e (last + 1 - e)).map (·.1)) ∧ (1 ≤ m → suM ((bdS F Ls e (q - e)).map (·.1)) + (bdL F Ls q).1.length ≤ suM ((bdS F Ls e (last + 1 - e)).map (·.1))) := by
      have st : ∀ (m k : Nat), suM ((bdS F Ls e k).map (·.1)) ≤ suM ((bdS F Ls e (k + m)).map (·.1)) := by
        intro m
        induction m with
        | zero => intro k; exact Nat.le_refl _
        | succ m ihm =>
          intro k
          have := ihm k
          rw [show k + (m + 1) = (k + m) + 1 by omega, bdS_s, mp_sn, suM_s9]
          omega
      intro m hm
      refine ⟨by rw [← hm]; exact st m (q - e), fun h1 => ?_⟩
      have := st (m - 1) (q - e + 1)
      rw [show q - e + 1 + (m - 1) = last + 1 - e by omega, bdS_s, mp_sn, suM_s9, show e + (q - e) = q by omega] at this
      exact this
    have mo := (mono (last + 1 - q) (by omega)).2 (by omega)
    have ll : (L0 ++ bdS F Ls e (q - e)).length = L0.length + (q - e) := by rw [List.length_append, bdS_l]
    have sl : suM ((L0 ++ bdS F Ls e (q - e)).map (·.1)) = suM (L0.map (·.1)) + suM ((bdS F Ls e (q - e)).map (·.1)) := by rw [List.map_append, suM_app]
    have nx : ∀ σ2 : MS, GyR σ2 F Ls A sp → PfR σ2 (L0 ++ bdS F Ls e (q - e) ++ [bdL F Ls q]) → FrPp σ0 σ2 → mV σ2 246 123 = c → LpR σ0 σ2 F c e (q + 1) → ∀ l5' : Int, l5' = pS sp (nB A ((q + 1 : Nat) : Int)) - pS sp (nB A (e : Int)) → R_page_114 (e : Int) (last : Int) most l4 l5' (q : Int) σ2 Q := fun σ2 q1 q2 q3 q4 q5 l5' hl5 => by
      refine R_page_114.i ?_
      rw [hl5, show (q : Int) + 1 = ((q + 1 : Nat) : Int) by omega]
      refine ih (q + 1) σ2 (by omega) (by omega) q1 ?_ q3 q4 q5
      rw [eb, ← List.append_assoc]
      exact q2
    refine R_page_46.i ⟨by unfold Rg; omega, by unfold Rg; omega, fun h => absurd h (by omega), fun _ => ⟨by omega, by omega, ?_⟩⟩
    rw [Int.toNat_natCast, k1]
    by_cases f0 : 0 ≤ F.getD q 0
    · have ek : elK (F.getD q 0) = 0 := by
        unfold elK
        rw [if_pos f0]
      rw [ek, k2 f0]
      have fb := F_b hB hql
      have elb : bdL F Ls q = Ls.getD (F.getD q 0).toNat ([], 0, 0) := if_pos f0
      refine ⟨fun h => absurd rfl h, fun _ => ⟨by omega, by omega, by omega, by omega, by omega, by omega, ?_⟩⟩
      have f1 : FrPp σ (wV σ 319 (F.getD q 0).toNat (mV σ 246 123)) := FrZ.wz (by decide)
      have hg1 := hg.p f1
      have p1 : PfR (wV σ 319 (F.getD q 0).toNat (mV σ 246 123)) (L0 ++ bdS F Ls e (q - e)) := by
        obtain ⟨a1, a2, a3, a4⟩ := hp
        exact ⟨(wV_ne (Or.inl (by decide))).trans a1, (wV_ne (Or.inl (by decide))).trans a2, fun l h9 => by
          rw [wV_ne (Or.inl (by decide)), wV_ne (Or.inl (by decide)), wV_ne (Or.inl (by decide)), wV_ne (Or.inl (by decide))]
          exact a3 l h9, fun i h9 => by
          rw [wV_ne (Or.inl (by decide)), wV_ne (Or.inl (by decide))]
          exact a4 i h9⟩
      have lp1 : LpR σ0 (wV σ 319 (F.getD q 0).toNat (mV σ 246 123)) F c e (q + 1) := by
        refine ⟨fun j h1 h2 h3 => ?_, fun l h1 => ?_, fun k => (wV_ne (Or.inl (by decide))).trans (hlp.2.2 k)⟩
        · by_cases ej : j = q
          · rw [ej, wV_self]
            exact hc1
          · have := hB.2.2.2.1.2 j q (by omega) hql h3 f0
            rw [wV_ne (Or.inr (by omega))]
            exact hlp.1 j h1 (by omega) h3
        · rw [wV_ne (Or.inr (fun ee => h1 q he (by omega) f0 ee.symm))]
          exact hlp.2.1 l (fun j g1 g2 g3 => h1 j g1 (by omega) g3)
      have c1 : mV (wV σ 319 (F.getD q 0).toNat (mV σ 246 123)) 246 123 = c := (wV_ne (Or.inl (by decide))).trans hc1
      have hf1 := hf.tr f1
      generalize wV σ 319 (F.getD q 0).toNat (mV σ 246 123) = σ1 at hg1 p1 lp1 c1 hf1
      refine R_noteLines.p hB hg1.2.2 hql f0 ?_
      refine ⟨by omega, by omega, ?_⟩
      rw [(hg1.2.1.2 q hql).2 f0, show F.getD q 0 = ((F.getD q 0).toNat : Int) by omega]
      have tl := tot_l (Ls := Ls) (i := (F.getD q 0).toNat) (by omega)
      refine R_proofCopy.p (x := Ls.getD (F.getD q 0).toNat ([], 0, 0)) (by omega) (hg1.1.2.2 (F.getD q 0).toNat (by omega)) (by omega) (ho _ (by omega)) p1 (by rw [ll]; omega) (by rw [sl, ← elb]; omega) (fun σ2 p2 f2 => ?_)
      rw [← elb] at p2
      refine nx σ2 (hg1.p (FrPp.pf f2)) p2 (hf1.tr (FrPp.pf f2)) ((f2.f (by decide) (by decide)).trans c1) ⟨fun j g1 g2 g3 => (f2.z (by decide) (by decide)).trans (lp1.1 j g1 g2 g3), fun l g1 => (f2.z (by decide) (by decide)).trans (lp1.2.1 l g1), fun k => (f2.z (by decide) (by decide)).trans (lp1.2.2 k)⟩ _ ?_
      rw [show ((q + 1 : Nat) : Int) = (q : Int) + 1 by omega]
      omega
    · have ek : ¬ elK (F.getD q 0) = 0 := by
        unfold elK
        rw [if_neg f0]
        split <;> decide
      have elb : bdL F Ls q = ([], 0, 0) := if_neg f0
      refine ⟨fun _ => ?_, fun h => absurd h ek⟩
      have := R_proofLine.p (Q := kV (thQ Q) fun σ1 => R_page_114 (e : Int) (last : Int) most l4 (pS sp (nB A (q : Int)) - pS sp (nB A (e : Int))) (q : Int) σ1 Q) (o := 0) (pt := false) (fl := 0) (by decide) hp (by rw [ll]; omega) (by rw [sl]; omega) (by decide) (fun σ2 p2 f2 => ?_)
      · exact this
      · rw [← elb] at p2
        refine nx σ2 (hg.p (FrPp.pf f2)) p2 (hf.tr (FrPp.pf f2)) ((f2.f (by decide) (by decide)).trans hc1) ⟨fun j g1 g2 g3 => ?_, fun l g1 => (f2.z (by decide) (by decide)).trans (hlp.2.1 l (fun j h1 h2 h3 => g1 j h1 (by omega) h3)), fun k => (f2.z (by decide) (by decide)).trans (hlp.2.2 k)⟩ _ ?_
        · by_cases ej : j = q
          · rw [ej] at g3
            exact absurd g3 f0
          · exact (f2.z (by decide) (by decide)).trans (hlp.1 j g1 (by omega) g3)
        · rw [show ((q + 1 : Nat) : Int) = (q : Int) + 1 by omega, nB_sk hB.2.2.2.2.1 (by omega)]
end
