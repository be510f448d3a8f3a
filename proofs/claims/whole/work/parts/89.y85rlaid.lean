/-! LINES ARE LAID AND FILLED: the reference -/
/-- what stands ahead of the first line -/
def AhR (σ : MS) (P : List Int) : Prop := ∃ A : List Int, mV σ 246 161 = (A.length : Int) ∧ A.length ≤ 64 ∧ hol σ 350 A ∧ A.length ≤ P.length ∧ P = List.replicate (P.length - A.length) 32 ++ A ∧ ∀ x ∈ A, 0 ≤ x ∧ x ≤ 127
def FrLa (n : Nat) (σ σ' : MS) : Prop := FrZ (338 :: 339 :: MkS) [28, 32, 33, 98, 99, 160] σ σ' ∧ ∀ z k, z = 315 ∨ z = 316 ∨ z = 317 ∨ z = 318 → k < n → mV σ' z k = mV σ z k
theorem FrLa.rf {n : Nat} {σ : MS} : FrLa n σ σ := ⟨FrZ.rf, fun _ _ _ _ => rfl⟩
theorem FrLa.tr {n m : Nat} {σ σ1 σ2 : MS} (h : FrLa n σ σ1) (hnm : n ≤ m) (h' : FrLa m σ1 σ2) : FrLa n σ σ2 := ⟨h.1.tr h'.1, fun z k a b => (h'.2 z k a (by omega)).trans (h.2 z k a b)⟩
theorem FrLa.k {n : Nat} {σ σ' : MS} (h : FrMk n σ σ') : FrLa n σ σ' := ⟨h.1.mo (fun x hx => List.mem_cons_of_mem _ (List.mem_cons_of_mem _ hx)) (fun x hx => by
  simp only [List.mem_cons, List.not_mem_nil, or_false] at hx ⊢
  omega), h.2⟩
theorem FrLa.b {n : Nat} {σ σ' : MS} (h : FrZ [338, 339] [160] σ σ') : FrLa n σ σ' := ⟨h.mo (fun x hx => by
  simp only [List.mem_cons, List.not_mem_nil, or_false] at hx
  rcases hx with rfl | rfl
  · exact List.mem_cons_self
  · exact List.mem_cons_of_mem _ List.mem_cons_self) (fun x hx => by
  simp only [List.mem_cons, List.not_mem_nil, or_false] at hx ⊢
  omega), fun z k hz _ => h.z (by simp only [List.mem_cons, List.not_mem_nil, or_false]; omega) (by omega)⟩
theorem RxG.b {σ σ' : MS} {G : GS9} (h : RxG σ G) (f : FrZ [338, 339] [160] σ σ') : RxG σ' G := ⟨(f.f (by decide) (by decide)).trans h.1, (f.f (by decide) (by decide)).trans h.2.1, (f.f (by decide) (by decide)).trans h.2.2.1, h.2.2.2.cg (f.f (by decide) (by decide)) (f.f (by decide) (by decide)) (fun z k hz _ => f.z (by simp only [List.mem_cons, List.not_mem_nil, or_false]; omega) (by omega)) (fun k _ => ⟨f.z (by decide) (by decide), f.z (by decide) (by decide)⟩)⟩
section
variable {σ σ0 : MS} {Q : MQ9} {G : GS9} {c o : Int} {u : Nat} {L P : List Int} {hg J W : Int}
theorem lai_31 {l1 l2 l3 l4 l6 l7 l8 : Int} {A D : List Int} (hA : A.length ≤ 64) (hAA : ∀ x ∈ A, 0 ≤ x ∧ x ≤ 127) (h1 : mV σ0 246 161 = (A.length : Int)) (h2 : hol σ0 350 A) (hD : D.length + A.length ≤ 400) (hq : ∀ σ', FrZ [338, 339] [160] σ0 σ' → LbR σ' (D ++ A) → R_laid_67 l1 l2 l3 l4 l6 l7 l8 σ' Q) : ∀ (n k : Nat) (σ : MS), k + n = A.length → FrZ [338, 339] [160] σ0 σ → LbR σ (D ++ A.take k) → R_laid_31 l1 l2 l3 l4 l6 l7 l8 (k : Int) σ Q := by
  intro n
  induction n with
  | zero =>
    intro k σ hk hf hb
    have e := (hf.f (k := 161) (by decide) (by decide)).trans h1
    rw [show A.take k = A from List.take_of_length_le (by omega)] at hb
    refine R_laid_31.i ⟨by unfold Rg; omega, fun _ => hq σ hf hb, fun h9 => absurd h9 (by omega)⟩
  | succ n ih =>
    intro k σ hk hf hb
    have e := (hf.f (k := 161) (by decide) (by decide)).trans h1
    have e2 : mV σ 350 k = A.getD k 0 := (hf.z (by decide) (by decide)).trans (h2 k (by omega))
    have hm : A.getD k 0 ∈ A := by
      unfold List.getD
      rw [List.getElem?_eq_getElem (by omega), Option.getD_some]
      exact List.getElem_mem _
    have hx := hAA _ hm
    refine R_laid_31.i ⟨by unfold Rg; omega, fun h9 => absurd h9 (by omega), fun _ => ⟨by omega, by omega, ?_⟩⟩
    rw [Int.toNat_natCast, e2]
    have := R_adds.p (Q := kV (thQ Q) fun σ1 => R_laid_31 l1 l2 l3 l4 l6 l7 l8 ((k : Int) + 1) σ1 Q) (c := A.getD k 0) hb (by rw [List.length_append, List.length_take]; omega) (fun σ2 f2 b2 => by
      show R_laid_31 l1 l2 l3 l4 l6 l7 l8 ((k : Int) + 1) σ2 Q
      have e3 : D ++ A.take k ++ [A.getD k 0] = D ++ A.take (k + 1) := by
        rw [List.append_assoc]
        congr 1
        rw [List.take_succ]
        unfold List.getD
        rw [List.getElem?_eq_getElem (by omega)]
        rfl
      rw [e3] at b2
      exact ih (k + 1) σ2 (by omega) (hf.tr f2) b2)
    rw [show A.getD k 0 % 128 = A.getD k 0 by omega, show cyB (A.getD k 0) = 0 by unfold cyB; omega] at this
    exact this
theorem lai_pre {l1 l2 l3 l6 l7 l8 : Int} {n : Nat} (hn : n ≤ 100000) (hP : AhR σ0 P) (hP6 : P.length ≤ 64) (hh : 0 ≤ hg ∧ hg ≤ 100) (hq : ∀ σ', FrZ [338, 339] [160] σ0 σ' → LbR σ' (prH P hg n) → R_laid_67 l1 l2 l3 (n : Int) l6 l7 l8 σ' Q) : R_laid l1 l2 l3 (n : Int) (prW P hg n) l6 l7 l8 σ0 Q := by
  obtain ⟨A, a1, a2, a3, a4, a5, a6⟩ := hP
  have f0 : FrZ [338, 339] [160] σ0 (wV σ0 246 160 0) := FrZ.wf (by decide)
  have b0 : LbR (wV σ0 246 160 0) [] := ⟨wV_self, fun i hi => absurd hi (by simp)⟩
  refine R_laid.i ⟨by unfold Rg; omega, fun h9 => ?_, fun h9 => ⟨fun h8 => ?_, fun h8 => ?_⟩⟩
  · have e1 : prW P hg n = hg := if_neg (by omega)
    have e2 : prH P hg n = List.replicate hg.toNat 32 := if_neg (by omega)
    rw [e1]
    rw [e2] at hq
    exact R_laid_61.i (R_blanks.p (by omega) (by omega) b0 (by show 0 + _ ≤ _; omega) (fun σ' f b => hq σ' (f0.tr f) b))
  · have e1 : prW P hg n = (P.length : Int) := if_pos (by omega)
    have e2 : prH P hg n = P := if_pos (by omega)
    rw [e1]
    rw [e2] at hq
    have hA : A = [] := List.eq_nil_of_length_eq_zero (by omega)
    rw [hA] at a5
    refine R_laid_61.i (R_blanks.p (by omega) (by omega) b0 (by show 0 + _ ≤ _; omega) (fun σ' f b => hq σ' (f0.tr f) ?_))
    rw [a5]
    rw [List.length_nil, Nat.sub_zero, List.append_nil]
    rw [Int.toNat_natCast, List.nil_append] at b
    exact b
  · have e1 : prW P hg n = (P.length : Int) := if_pos (by omega)
    have e2 : prH P hg n = P := if_pos (by omega)
    have e3 : n = 0 := by omega
    rw [e1, a1]
    rw [e2] at hq
    refine R_blanks.p (by omega) (by omega) b0 (by show 0 + _ ≤ _; omega) (fun σ' f b => ?_)
    show R_laid_31 l1 l2 l3 (n : Int) l6 l7 l8 0 σ' Q
    rw [show ((P.length : Int) - (A.length : Int)).toNat = P.length - A.length by omega, List.nil_append] at b
    refine lai_31 (D := List.replicate (P.length - A.length) 32) a2 a6 ((f.f (by decide) (by decide)).trans a1) (f.hol (by decide) (by decide) (fun i hi => a3 i hi)) (by rw [List.length_replicate]; omega) (fun σ2 f2 b2 => hq σ2 (f0.tr (f.tr f2)) (by rw [a5]; exact b2)) A.length 0 σ' (by omega) FrZ.rf (by rw [List.take_zero, List.append_nil]; exact b)
/-- a line is laid -/
theorem R_laid.p (hok : okK L) (hu : u + L.length ≤ 139000) (hG0 : hoG σ 254 255 u L) {a b n : Nat} (hn : n ≤ 100000) (hb : b ≤ L.length) (hab : a < b) (ha1 : sbl (L.getD a 0) = false) (hb1 : sbl (L.getD (b - 1) 0) = false) {pt ls fw : Bool} (hP : AhR σ P) (hP6 : P.length ≤ 64) (hh : 0 ≤ hg ∧ hg ≤ 100) (hW : 12 ≤ W ∧ W ≤ 80) (hJ : 0 ≤ J ∧ J ≤ 3) (hfit : ((gP L b - gP L a : Nat) : Int) + bZ pt ≤ rmO W (prW P hg n)) (hG : RxG σ G) (hB : GB9 c G) (ho : mV σ 246 29 = o) (hy : ∀ G' σ', gFin o (prL P hg J W ls (pkL L) n (gP L a, gP L b, pt)) (2 * bZ pt) fw G = .inl G' → RxG σ' G' → FrLa G.2.1.length σ σ' → (mV σ' 315 G.2.1.length = ((u + a : Nat) : Int) ∧ mV σ' 316 G.2.1.length = ((u + b : Nat) : Int) ∧ mV σ' 317 G.2.1.length = 0 ∧ mV σ' 318 G.2.1.length = 0) → Q (.inl none) σ') (hn9 : ∀ e σ', gFin o (prL P hg J W ls (pkL L) n (gP L a, gP L b, pt)) (2 * bZ pt) fw G = .inr e → TxR σ' e → mV σ' 246 99 = (G.2.1.length : Int) → FrLa G.2.1.length σ σ' → Q (.inl none) σ') : R_laid ((u + a : Nat) : Int) ((u + b : Nat) : Int) (bZ pt) (n : Int) (prW P hg n) (rmO W (prW P hg n)) (bZ ls) J σ Q := by
  have rs := rs_all hab hb ha1 hb1
  have hbl := gP_bl (L := L) (b := b) (by omega) hb hb1
  have rsl : (rsC (sgT L a b)).length = gP L b - gP L a := by
    rw [rs, sgT_l hbl]
  have bb : 0 ≤ bZ pt ∧ bZ pt ≤ 1 := by cases pt <;> decide
  have hpz : Rg (bZ pt) := by unfold Rg; omega
  have hlz : Rg (bZ ls) := by cases ls <;> decide
  have rb : 4 ≤ rmO W (prW P hg n) ∧ rmO W (prW P hg n) ≤ 80 := by
    unfold rmO prW
    split <;> omega
  have hF : rmO W (prW P hg n) - ((gP L b - gP L a : Nat) : Int) - bZ pt = prF P hg W n (gP L b - gP L a) pt := by
    unfold prF
    omega
  have fb := prF_b (P := P) (hg := hg) (W := W) (i := n) (n := gP L b - gP L a) (b := pt) hW hh.1
  have tl := prL_l (P := P) (hg := hg) (J := J) (W := W) (ls := ls) (U := pkL L) (i := n) (x := (gP L a, gP L b, pt)) hP6 hh hW hbl (by show gP L b - gP L a ≤ 80; omega)
  have ub : (pkL L).getD (gP L b - 1) 0 = L.getD (b - 1) 0 := by
    have h1 := gP_fn (L := L) (k := b) (by omega) hb hb1
    have h2 := gP_at (L := L) (k := b - 1) (by omega) hb1
    rw [show gP L b - 1 = gP L (b - 1) by omega]
    exact h2.1
  have eb := prE_b (J := J) (l := prF P hg W n (gP L b - gP L a) pt) (g := nGp (sgT (pkL L) (gP L a) (gP L b))) (ls := ls) (by omega)
  have hu0 : u + b ≤ 139000 := by omega
  refine lai_pre hn hP hP6 hh (fun σ1 f1 b1 => R_laid_67.i ?_)
  have g1 : hoG σ1 254 255 u L := hG0.cg (fun k _ _ => ⟨f1.z (by decide) (by decide), f1.z (by decide) (by decide)⟩)
  refine R_taken.p hok hu g1 hb hb1 hab ?_
  show Rg (bZ pt) ∧ _
  rw [rsl]
  have s85 : ∀ s1 : Int, s1 = bZ pt → R_laid_85 ((u + a : Nat) : Int) ((u + b : Nat) : Int) (bZ pt) (n : Int) (bZ ls) J (rmO W (prW P hg n) - ((gP L b - gP L a : Nat) : Int)) s1 σ1 Q := fun s1 hs1 => by
    rw [hs1]
    refine R_laid_85.i (R_gaps.p hok hu g1 hb hb1 hab ?_)
    show Rg J ∧ _
    rw [rs, hF]
    have fin : ∀ (σ2 : MS) (K : Int), K = prJ J (prF P hg W n (gP L b - gP L a) pt) → FrZ [338, 339] [160] σ σ2 → LbR σ2 (prH P hg n ++ List.replicate K.toNat 32) → R_laid_122 ((u + a : Nat) : Int) ((u + b : Nat) : Int) (bZ pt) (n : Int) (bZ ls) J (prF P hg W n (gP L b - gP L a) pt) (nGp (sgT (pkL L) (gP L a) (gP L b))) σ2 Q := fun σ2 K hK f2 b2 => by
      rw [hK] at b2
      have c177 : ∀ s4 s5 : Int, s4 = prE J ls (nGp (sgT (pkL L) (gP L a) (gP L b))) (prF P hg W n (gP L b - gP L a) pt) → s5 = prM J ls (nGp (sgT (pkL L) (gP L a) (gP L b))) (prF P hg W n (gP L b - gP L a) pt) → R_laid_177 ((u + a : Nat) : Int) ((u + b : Nat) : Int) (bZ pt) (n : Int) ((u + a : Nat) : Int) ((u + b : Nat) : Int) (bZ pt) s4 s5 σ2 Q := fun s4 s5 h4 h5 => by
        have g2 : hoG σ2 254 255 u L := hG0.cg (fun k _ _ => ⟨f2.z (by decide) (by decide), f2.z (by decide) (by decide)⟩)
        have c189 : ∀ s6 : Int, s6 = bZ (decide (n % 2 = 0)) → R_laid_189 ((u + a : Nat) : Int) ((u + b : Nat) : Int) (bZ pt) ((u + a : Nat) : Int) ((u + b : Nat) : Int) (bZ pt) s4 s5 s6 σ2 Q := fun s6 h6 => by
          rw [h4, h5, h6]
          have el : (prH P hg n ++ List.replicate (prJ J (prF P hg W n (gP L b - gP L a) pt)).toNat 32) ++ prG (decide (n % 2 = 0)) (nGp (rsC (sgT L a b))) (prE J ls (nGp (sgT (pkL L) (gP L a) (gP L b))) (prF P hg W n (gP L b - gP L a) pt)) (prM J ls (nGp (sgT (pkL L) (gP L a) (gP L b))) (prF P hg W n (gP L b - gP L a) pt)) 0 (rsC (sgT L a b)) ++ prT pt (L.getD (b - 1) 0) = prL P hg J W ls (pkL L) n (gP L a, gP L b, pt) := by
            rw [rs, ← ub]
            rfl
          refine R_laid_189.i (R_content.p hok hu g2 hb hb1 hab (by omega) (by omega) b2 (by rw [el]; exact tl) (fun σ3 f3 b3 => ?_))
          rw [el] at b3
          have f03 := f2.tr f3
          refine R_makes.p (fw := fw) (by unfold Rg; omega) (by unfold Rg; omega) (hG.b f03) hB b3 tl ((f03.f (by decide) (by decide)).trans ho) (fun G' σ' q1 q2 q3 q4 => ?_) (fun e σ' q1 q2 q9 q3 => ?_)
          · exact hy G' σ' q1 q2 ((FrLa.b f03).tr (Nat.le_refl _) (FrLa.k q3)) q4
          · exact hn9 e σ' q1 q2 q9 ((FrLa.b f03).tr (Nat.le_refl _) (FrLa.k q3))
        refine R_laid_177.i ⟨by unfold Rg; omega, by decide, ?_⟩
        rw [show Int.tmod (n : Int) 2 = ((n % 2 : Nat) : Int) from tm_n (b := 2)]
        refine ⟨fun h9 => c189 0 ?_, fun h9 => c189 1 ?_⟩
        · rw [decide_eq_false (by omega)]
          rfl
        · rw [decide_eq_true (by omega)]
          rfl
      have no : ¬ (J = 3 ∧ ls = false ∧ 0 < nGp (sgT (pkL L) (gP L a) (gP L b))) → R_laid_142 ((u + a : Nat) : Int) ((u + b : Nat) : Int) (bZ pt) (n : Int) (prF P hg W n (gP L b - gP L a) pt) (nGp (sgT (pkL L) (gP L a) (gP L b))) σ2 Q := fun h9 => by
        refine R_laid_142.i (R_laid_143.i ⟨fun _ => R_laid_163.i ⟨fun _ => c177 0 0 ?_ ?_, fun h8 => absurd rfl h8⟩, fun h8 => absurd rfl h8⟩)
        · unfold prE
          rw [if_neg h9]
        · unfold prM
          rw [if_neg h9]
      refine R_laid_122.i ⟨by unfold Rg; omega, fun h9 => no (fun h => h9 h.1), fun h9 => ⟨hlz, fun h8 => no (fun h => h8 (by rw [h.2.1]; rfl)), fun h8 => ⟨fun h7 => no (fun h => by omega), fun h7 => ?_⟩⟩⟩
      have yes : J = 3 ∧ ls = false ∧ 0 < nGp (sgT (pkL L) (gP L a) (gP L b)) := ⟨h9, bZ_z h8, h7⟩
      refine R_laid_143.i ⟨fun h6 => absurd h6 (by decide), fun _ => ⟨by unfold Rg; omega, h7, R_laid_163.i ⟨fun h6 => absurd h6 (by decide), fun _ => ⟨by unfold Rg; omega, h7, c177 _ _ ?_ ?_⟩⟩⟩⟩
      · unfold prE
        rw [if_pos yes]
      · unfold prM
        rw [if_pos yes]
    have ph : (prH P hg n).length ≤ 100 := by
      unfold prH
      split
      · omega
      · rw [List.length_replicate]
        omega
    refine ⟨by unfold Rg; omega, fun h9 => ?_, fun h9 => ?_⟩
    · refine R_laid_108.i ⟨by unfold Rg; omega, fun h8 => fin σ1 0 ?_ f1 ?_, fun h8 => ⟨by unfold Rg; omega, by decide, ?_⟩⟩
      · unfold prJ
        rw [if_neg h9, if_neg h8]
      · show LbR σ1 (prH P hg n ++ [])
        rw [List.append_nil]
        exact b1
      · have tb := tdb (a := prF P hg W n (gP L b - gP L a) pt) (b := 2) (by omega) (by decide)
        refine R_blanks.p (by omega) (by omega) b1 (by omega) (fun σ2 f2 b2 => fin σ2 _ ?_ (f1.tr f2) b2)
        unfold prJ
        rw [if_neg h9, if_pos h8]
    · refine R_blanks.p (by omega) (by omega) b1 (by omega) (fun σ2 f2 b2 => R_laid_108.i ⟨by unfold Rg; omega, fun h8 => fin σ2 _ ?_ (f1.tr f2) b2, fun h8 => absurd h8 (by omega)⟩)
      unfold prJ
      rw [if_pos h9]
  exact ⟨hpz, fun h9 => s85 0 h9.symm, fun h9 => s85 1 (by omega)⟩
end
