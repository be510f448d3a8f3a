/-! ONE ROUND: the reference, from its beginning to what the next one finds -/
def KpZ9 : List Nat := [246, 247, 248, 249, 250, 251, 329, 330, 331, 336]
def KpK8 : List Nat := [6, 7, 8, 114, 115, 135, 141]
/-- where rounds may write in the reference -/
def okZ9 (z : Nat) : Bool := decide (246 < z ∧ z ∉ KpZ9)
def AlE9 (z k : Nat) : Prop := (z = 246 ∧ k ∉ KpK8) ∨ okZ9 z = true
def FrE9 (σ σ' : MS) : Prop := FrA AlE9 σ σ'
section
variable {σ σ1 σ2 : MS} {Q : MQ9} {nw n : Nat} {M : List Int} {B : BF9} {w : Int × Int}
theorem FrE9.tr (h : FrE9 σ σ1) (h' : FrE9 σ1 σ2) : FrE9 σ σ2 := FrA.tr h h'
theorem FrE9.z {S K : List Nat} (h : FrZ S K σ σ1) (hs : ∀ x ∈ S, okZ9 x = true) (hk : ∀ k ∈ K, k ∉ KpK8) : FrE9 σ σ1 := ⟨h.1, h.2.1, fun z k n => h.2.2 z k (fun e => n (Or.inr (hs z e))) (by
  by_cases h6 : z = 246
  · exact Or.inr (fun e => n (Or.inl ⟨h6, hk k e⟩))
  · exact Or.inl h6)⟩
theorem FrE9.g (h : FrG9 nw σ σ1) : FrE9 σ σ1 := FrA.mo h (fun z k a => by
  have s1 : ∀ x ∈ RdS9 ++ TRS ++ RDS ++ HdS9 ++ hdS1, okZ9 x = true := by decide
  have k1 : ∀ x ∈ (84 :: BkK) ++ RDK ++ [29, 30, 74], x ∉ KpK8 := by decide
  have ms : ∀ {L : List Nat}, L ⊆ RdS9 ++ TRS ++ RDS ++ HdS9 ++ hdS1 → z ∈ L → AlE9 z k := fun hL hz => Or.inr (s1 z (hL hz))
  have mk : ∀ {L : List Nat}, L ⊆ (84 :: BkK) ++ RDK ++ [29, 30, 74] → z = 246 → k ∈ L → AlE9 z k := fun hL hz hk => Or.inl ⟨hz, k1 k (hL hk)⟩
  rcases a with ((a | a | a) | a | a) | a
  · rcases a with a | a | a
    · exact mk (L := 84 :: BkK) (by decide) a.1 a.2
    · exact ms (L := RdS9) (by decide) a
    · exact ms (L := TRS) (by decide) a.1
  · exact ms (L := HdS9) (by decide) a
  · rcases a with a | a
    · exact mk (L := [74]) (by decide) a.1 (by rw [a.2]; exact List.mem_singleton.mpr rfl)
    · exact ms (L := hdS1) (by decide) a.1
  · exact ms (L := RDS) (by decide) a
  · exact mk (L := RDK) (by decide) a.1 a.2
  · exact mk (L := [29, 30]) (by decide) a.1 (by
      rcases a.2 with e | e
      · rw [e]; exact List.mem_cons_self
      · rw [e]; exact List.mem_cons_of_mem _ List.mem_cons_self))
theorem S9.z (h : FrA (AlS9 nw) σ σ1) : FrZ [283, 290, 296] [] σ σ1 := ⟨h.1, h.2.1, fun z k hz _ => h.2.2 z k (S9.n (by
  simp only [List.mem_cons, List.not_mem_nil, or_false] at hz
  omega))⟩
theorem ScR.z9 {S K : List Nat} (h : ScR σ M) (f : FrZ S K σ σ1) (hs : ∀ x ∈ [246, 252, 253], x ∉ S) (hk : ∀ k ∈ [10, 12], k ∉ K) : ScR σ1 M := ⟨(f.f (hk _ (by decide)) (hs _ (by decide))).trans h.1, h.2.1, fun i hi => (f.z (hs _ (by decide)) (by decide)).trans (h.2.2.1 i hi), (f.f (hk _ (by decide)) (hs _ (by decide))).trans h.2.2.2.1, fun i hi => (f.z (hs _ (by decide)) (by decide)).trans (h.2.2.2.2 i hi)⟩
theorem MkR9.cg (h : MkR9 σ n B) (l1 : B.1.1.length ≤ 60) (l2 : B.2.1.1.length ≤ 60) (l3 : B.2.2.1.length ≤ 100) (z : ∀ y k, y ∈ [279, 280, 281, 282, 285, 286, 287, 288, 289, 292, 293, 294, 295, 298] → mV σ1 y k = mV σ y k) (h283 : ∀ q, q < 60 → mV σ1 283 (60 * n + q) = mV σ 283 (60 * n + q)) (h290 : ∀ q, q < 60 → mV σ1 290 (60 * n + q) = mV σ 290 (60 * n + q)) (h296 : ∀ q, q < 100 → mV σ1 296 (100 * n + q) = mV σ 296 (100 * n + q)) : MkR9 σ1 n B := by
  obtain ⟨⟨a1, a2, a3, a4⟩, ⟨b1, b2⟩, ⟨c1, c2⟩, c3⟩ := h
  refine ⟨⟨(z _ _ (by decide)).trans a1, a2.cg (fun k => z _ _ (by decide)) (fun k => z _ _ (by decide)), a3.cg (fun k => z _ _ (by decide)) (fun k => z _ _ (by decide)), fun q hq => (h283 q (by omega)).trans (a4 q hq)⟩, ⟨(z _ _ (by decide)).trans b1, fun i hi => ?_⟩, ⟨(z _ _ (by decide)).trans c1, fun i hi => ?_⟩, fun i hi => (h296 i (by omega)).trans (c3 i hi)⟩
  · obtain ⟨x1, x2, x3, x4, x5⟩ := b2 i hi
    exact ⟨(z _ _ (by decide)).trans x1, (z _ _ (by decide)).trans x2, fun t ht => (z _ _ (by decide)).trans (x3 t ht), (z _ _ (by decide)).trans x4, (h290 i (by omega)).trans x5⟩
  · obtain ⟨x1, x2, x3⟩ := c2 i hi
    exact ⟨(z _ _ (by decide)).trans x1, (z _ _ (by decide)).trans x2, fun t ht => (z _ _ (by decide)).trans (x3 t ht)⟩
theorem PfR.z9 {S K : List Nat} {L : List GL9} (h : PfR σ L) (f : FrZ S K σ σ1) (hs : ∀ x ∈ [246, 322, 323, 324, 325, 326, 327], x ∉ S) (hk : ∀ k ∈ [124, 125], k ∉ K) : PfR σ1 L := by
  obtain ⟨a1, a2, a3, a4⟩ := h
  refine ⟨(f.f (hk _ (by decide)) (hs _ (by decide))).trans a1, (f.f (hk _ (by decide)) (hs _ (by decide))).trans a2, fun l hl => ?_, fun i hi => ?_⟩
  · obtain ⟨x1, x2, x3, x4⟩ := a3 l hl
    exact ⟨(f.z (hs _ (by decide)) (by decide)).trans x1, (f.z (hs _ (by decide)) (by decide)).trans x2, (f.z (hs _ (by decide)) (by decide)).trans x3, (f.z (hs _ (by decide)) (by decide)).trans x4⟩
  · obtain ⟨x1, x2⟩ := a4 i hi
    exact ⟨(f.z (hs _ (by decide)) (by decide)).trans x1, (f.z (hs _ (by decide)) (by decide)).trans x2⟩
end
/-- all lines of a round's proof -/
def plR9 (d : RD9) (P : List (Nat × Nat)) : List GL9 := prG9 d.2.2.1.1 d.1.2.1.2 d.1.2.1.1 d.1.2.2.1.1 d.1.2.2.1.2 d.2.1 (rmP d.2.2.1.1) 0 P
def psD (d : RD9) (P : List (Nat × Nat)) : List Nat := psG d.2.2.1.1 d.1.2.1.2 d.1.2.1.1 d.1.2.2.1.1 d.1.2.2.1.2 d.2.1 (rmP d.2.2.1.1) 0 0 P
/-- the reference behind a round -/
def EnR (σ : MS) (nw : Nat) (d : RD9) (P : List (Nat × Nat)) : Prop := PfR σ (plR9 d P) ∧ (mV σ 246 123 = (P.length : Int) ∧ (∀ k, k < P.length → mV σ 328 k = (((psD d P).getD k 0 : Nat) : Int)) ∧ mV σ 328 P.length = ((plR9 d P).length : Int)) ∧ MkR9 σ nw (neB9 d P) ∧ RuR σ d.2.2.1 ∧ (mV σ 246 86 = d.1.1.2.2.2.2.2.1.2.2 ∧ mV σ 246 85 = d.1.1.2.2.2.2.2.2 ∧ UnB σ) ∧ (mV σ 246 52 = d.2.2.1.1.getD 11 0 ∧ mV σ 246 53 = d.2.2.1.1.getD 12 0) ∧ mV σ 246 59 = (nw : Int) ∧ (mV σ 246 28 = 0 ∧ mV σ 246 32 = d.1.1.1.1 ∧ mV σ 246 33 = d.1.1.1.2.1)
/-- the reference between rounds; r is the next one's number, nw its bank -/
def SeR (σ : MS) (M : List Int) (B : BF9) (nw : Nat) (w : Int × Int) (r : Nat) : Prop := ScR σ M ∧ mV σ 246 59 = ((1 - nw : Nat) : Int) ∧ (mV σ 246 28 = 0 ∧ mV σ 246 32 = w.1 ∧ mV σ 246 33 = w.2) ∧ LbR9 σ nw B ∧ BeR9 σ nw B ∧ mV σ 246 126 = (r : Int) - 1 ∧ mV σ 328 0 = 0
section
variable {σ : MS} {Q : MQ9} {nw : Nat} {M : List Int} {B : BF9} {w : Int × Int}
theorem plR9_b {d : RD9} {i : Nat} {P : List (Nat × Nat)} {σ0 σ1 : MS} (h : RDI d i) (hw : WtI d.1) (hP : P.length ≤ 99) (hL : LyS σ0 σ1 d.1.2.1.2 d.1.2.1.1 d.1.2.2.1.1 d.1.2.2.1.2 d.2.2.1.1 d.2.1 (rmP d.2.2.1.1) P d.1.2.1.2.length) : (plR9 d P).length ≤ 6000 ∧ suM ((plR9 d P).map (·.1)) ≤ 70000 := by
  obtain ⟨l1, l2⟩ := hL.2.2.2.2.2.1
  have l1 : (plR9 d P).length ≤ 60 * P.length := l1
  have l2 : suM ((plR9 d P).map (·.1)) ≤ 90 * P.length + wtF9 d.1.2.1.2 d.1.2.1.1 d.1.2.1.2.length + wtN d.1.2.1.1 (ntN d.1.2.2.1.2 0 (nB d.1.2.2.1.1 (d.1.2.1.2.length : Int))) := l2
  have pb := h.pg.1
  have ls : d.1.2.2.1.2.length = d.1.2.2.1.1.length := pb.2.2.2.2.2.2.2.1
  have nl := nB_l (A := d.1.2.2.1.1) (x := (d.1.2.1.2.length : Int))
  have wd := wtN_d (Ls := d.1.2.1.1) (sp := d.1.2.2.1.2) (k := nB d.1.2.2.1.1 (d.1.2.1.2.length : Int)) (n := d.1.2.2.1.2.length) (by omega)
  have we := wW9_e (Ls := d.1.2.1.1) (F := d.1.2.1.2) (sp := d.1.2.2.1.2)
  have w1 := hw.1
  have g4 : ((suM (d.1.2.1.1.map (·.1)) : Nat) : Int) + 20 * d.1.2.1.1.length ≤ d.1.1.1.1 := h.1.2.1.2.2.2.1
  have g1 : d.1.1.1.1 ≤ 60000 := h.1.2.1.1.2
  omega
theorem LbR9.mk (hnw : nw ≤ 1) (h : MkR9 σ nw B) (h5 : mV σ 246 52 = B.1.2.2.2.1 ∧ mV σ 246 53 = B.1.2.2.2.2) : LbR9 σ (1 - nw) B ∧ BeR9 σ (1 - nw) B := by
  have e : 1 - (1 - nw) = nw := by omega
  unfold LbR9 BeR9
  rw [e]
  exact ⟨⟨h.1.1, h.1.2.1, h.1.2.2.1, h.1.2.2.2, fun _ => h5⟩, ⟨h.2.1, h.2.2.1, h.2.2.2, fun _ => h5⟩⟩
/-- a round, the reference -/
theorem rse_1 {r : Nat} (hr : 1 ≤ r ∧ r ≤ 5) (hMb : smB M) (hB : BfI B) (hw0 : 0 ≤ w.1 ∧ w.1 ≤ 60000) (hw1 : 0 ≤ w.2 ∧ w.2 ≤ 400000) (hnw : nw ≤ 1) (h127 : mV σ 246 127 = 0) (hS : SeR σ M B nw w r) (hy : ∀ x σ', roD B M w = .inl x → x.2.2.length ≤ 99 → ((plR9 x.1 x.2.2).length ≤ 6000 ∧ suM ((plR9 x.1 x.2.2).map (·.1)) ≤ 70000) → EnR σ' nw x.1 x.2.2 → ScR σ' M → mV σ' 246 126 = (r : Int) → mV σ' 246 127 = bZ (lkB (neB9 x.1 x.2.2) B) → mV σ' 328 0 = 0 → FrE9 σ σ' → R_set_96 σ' Q) (hn : ∀ x σ', roD B M w = .inr x → TxR σ' x.2.2 → UnB σ' → RuR σ' x.2.1 → mV σ' 246 29 = x.1 → mV σ' 246 59 = (nw : Int) → mV σ' 328 0 = 0 → FrE9 σ σ' → R_set_353 σ' Q) : R_set_96 σ Q := by
  obtain ⟨hSc, h59, ⟨h28, h32, h33⟩, hLb, hBe, h126, h328⟩ := hS
  have hM4 : M.length ≤ 4000 := hSc.2.1
  refine R_set_96.i ⟨fun h => absurd h28 h, fun _ => ⟨fun h => absurd h127 h, fun _ => ⟨fun h => by rw [h126] at h; omega, fun _ => ?_⟩⟩⟩
  rw [h59, h126, show (1 : Int) - ((1 - nw : Nat) : Int) = (nw : Int) by omega, show (r : Int) - 1 + 1 = (r : Int) by omega]
  refine ⟨by unfold Rg; omega, by unfold Rg; omega, ?_⟩
  generalize hσa : wV (wV σ 246 59 (nw : Int)) 246 126 (r : Int) = σa
  have fa : FrZ [] [59, 126] σ σa := by
    rw [← hσa]
    exact (FrZ.wf (by decide)).tr (FrZ.wf (by decide))
  have a59 : mV σa 246 59 = (nw : Int) := by
    rw [← hσa]
    exact (wV_ne (Or.inr (by decide))).trans wV_self
  have a126 : mV σa 246 126 = (r : Int) := by
    rw [← hσa]
    exact wV_self
  clear hσa
  have za : ∀ y k, y ≠ 246 → mV σa y k = mV σ y k := fun y k h => fa.z List.not_mem_nil h
  have ka : ∀ k, k ≠ 59 → k ≠ 126 → mV σa 246 k = mV σ 246 k := fun k h1 h2 => fa.f (by
    simp only [List.mem_cons, List.not_mem_nil, or_false]
    omega) (by decide)
  have hP : PrR9 σa M B nw w := by
    refine ⟨hSc.z9 fa (fun x _ => List.not_mem_nil) (by decide), ⟨hnw, a59⟩, ⟨(ka _ (by decide) (by decide)).trans h28, (ka _ (by decide) (by decide)).trans h32, (ka _ (by decide) (by decide)).trans h33⟩, ?_, hBe.fr hnw (fun y k h => za y k (fun e => by rw [e] at h; exact absurd h (by decide))) (fun y h => za y _ (by omega)) (fun j h => ka j (by omega) (by omega))⟩
    obtain ⟨l1, l2, l3, l4, l5⟩ := hLb
    exact ⟨(za _ _ (by decide)).trans l1, l2.cg (fun k => za _ _ (by decide)) (fun k => za _ _ (by decide)), l3.cg (fun k => za _ _ (by decide)) (fun k => za _ _ (by decide)), fun q hq => (za _ _ (by decide)).trans (l4 q hq), fun h => ⟨(ka _ (by decide) (by decide)).trans (l5 h).1, (ka _ (by decide) (by decide)).trans (l5 h).2⟩⟩
  have ga : FrE9 σ σa := FrE9.z fa (fun x hx => absurd hx List.not_mem_nil) (by decide)
  have n328 : ∀ {s : MS}, FrG9 nw σa s → mV s 328 0 = 0 := fun {s} f => by
    refine (f.2.2 328 0 (fun h => ?_)).trans ((za _ _ (by decide)).trans h328)
    have s1 : ∀ x ∈ RdS9 ++ TRS ++ RDS ++ HdS9 ++ hdS1, x ≠ 328 := by decide
    rcases h with ((a | a | a) | a | a) | a
    · rcases a with a | a | a
      · exact absurd a.1 (by decide)
      · exact absurd a (by decide)
      · exact absurd a.1 (by decide)
    · exact absurd a (by decide)
    · rcases a with a | a
      · exact absurd a.1 (by decide)
      · exact absurd a.1 (by decide)
    · exact absurd a (by decide)
    · exact absurd a.1 (by decide)
    · exact absurd a.1 (by decide)
  have n126 : ∀ {s : MS}, FrG9 nw σa s → mV s 246 126 = (r : Int) := fun {s} f => by
    refine (f.2.2 246 126 (fun h => ?_)).trans a126
    rcases h with ((a | a | a) | a | a) | a
    · rcases a with a | a | a
      · exact absurd a.2 (by decide)
      · exact absurd a (by decide)
      · exact absurd a.1 (by decide)
    · exact absurd a (by decide)
    · rcases a with a | a
      · exact absurd a.2 (by decide)
      · exact absurd a.1 (by decide)
    · exact absurd a (by decide)
    · exact absurd a.2 (by decide)
    · exact absurd a.2 (by decide)
  have n59 : ∀ {s : MS}, FrG9 nw σa s → mV s 246 59 = (nw : Int) := fun {s} f => by
    refine (f.2.2 246 59 (fun h => ?_)).trans a59
    rcases h with ((a | a | a) | a | a) | a
    · rcases a with a | a | a
      · exact absurd a.2 (by decide)
      · exact absurd a (by decide)
      · exact absurd a.1 (by decide)
    · exact absurd a (by decide)
    · rcases a with a | a
      · exact absurd a.2 (by decide)
      · exact absurd a.1 (by decide)
    · exact absurd a (by decide)
    · exact absurd a.2 (by decide)
    · exact absurd a.2 (by decide)
  refine R_round.p hMb hB hw0 hw1 hP (fun x σ1 e1 hC e30 f1 => ?_) (fun l x σ1 e1 hx t1 u1 r1 e29 f1 => ?_)
  · have hI := (rouD_i hB hMb hM4 hw0.1 hw1.1 e1).1
    have ml4 : (mlL M).length ≤ 4000 := Nat.le_trans (mlF_l (T := M) M.length 0) hM4
    have hW := rouD_w hB hMb hM4 (by omega) hw0.1 hw1.1 e1
    obtain ⟨hSc1, ⟨⟨b28, b32, b33, bLi⟩, bE, bT, bU, ⟨bEl, b113⟩, ⟨bM1, bM2⟩, bN⟩, hHd, hRu, hNu, hBe1⟩ := hC
    obtain ⟨tC, ⟨tL1, tL2, tL3⟩, ⟨tK1, -, tK3⟩, t86, t85⟩ := bT
    refine ⟨fun h => absurd b28 h, fun _ => ⟨by decide, by decide, by decide, by decide, by decide, by decide, ?_⟩⟩
    have st : ∀ k, k < 13 → mV σ1 275 k = x.1.2.2.1.1.getD k 0 := hRu.1
    rw [st 9 (by decide), st 11 (by decide), st 12 (by decide)]
    generalize hσ2 : wV (wV (wV σ1 246 50 (x.1.2.2.1.1.getD 9 0)) 246 52 (x.1.2.2.1.1.getD 11 0)) 246 53 (x.1.2.2.1.1.getD 12 0) = σ2
    have f2 : FrZ [] [50, 52, 53] σ1 σ2 := by
      rw [← hσ2]
      exact ((FrZ.wf (by decide)).tr (FrZ.wf (by decide))).tr (FrZ.wf (by decide))
    have a52 : mV σ2 246 52 = x.1.2.2.1.1.getD 11 0 := by
      rw [← hσ2]
      exact (wV_ne (Or.inr (by decide))).trans wV_self
    have a53 : mV σ2 246 53 = x.1.2.2.1.1.getD 12 0 := by
      rw [← hσ2]
      exact wV_self
    clear hσ2
    have z2 : ∀ y k, y ≠ 246 → mV σ2 y k = mV σ1 y k := fun y k h => f2.z List.not_mem_nil h
    have k2 : ∀ k, k ≠ 50 → k ≠ 52 → k ≠ 53 → mV σ2 246 k = mV σ1 246 k := fun k h1 h2 h3 => f2.f (by
      simp only [List.mem_cons, List.not_mem_nil, or_false]
      omega) (by decide)
    obtain ⟨pgb, r3⟩ := hI.pg
    have ru := hI.2.1
    have b9 : (5 : Int) ≤ x.1.2.2.1.1.getD 9 0 ∧ x.1.2.2.1.1.getD 9 0 ≤ 60 := ru.1.2 9 (by decide)
    have b11 : (1 : Int) ≤ x.1.2.2.1.1.getD 11 0 ∧ x.1.2.2.1.1.getD 11 0 ≤ 999 := ru.1.2 11 (by decide)
    have b12 : (1 : Int) ≤ x.1.2.2.1.1.getD 12 0 ∧ x.1.2.2.1.1.getD 12 0 ≤ 5 := ru.1.2 12 (by decide)
    have g4 : ((suM (x.1.1.2.1.1.map (·.1)) : Nat) : Int) + 20 * x.1.1.2.1.1.length ≤ x.1.1.1.1.1 := hI.1.2.1.2.2.2.1
    have g1 : x.1.1.1.1.1 ≤ 60000 := hI.1.2.1.1.2
    have we := wW9_e (Ls := x.1.1.2.1.1) (F := x.1.1.2.1.2) (sp := x.1.1.2.2.1.2)
    have w1 := hW.1
    have tot : (suM x.1.1.1.2.2.2.2.1.1 : Int) + ((0 : Nat) : Int) + ((0 : Nat) : Int) + ((suM x.1.2.1.1 : Nat) + 100 : Int) ≤ x.1.1.1.1.1 + 100 := hI.1.1.2.2.2.2.2.2
    have hd := hI.1.2.2.2.2.2.2.1
    have hdt := hI.1.2.2.2.2.2.2.2.2.1
    have hNn2 : NnR σ2 x.1.1.2.1.2 x.1.1.2.2.1.1 x.1.1.2.2.1.2 := by
      obtain ⟨n1, n2, n3⟩ := bN
      refine ⟨fun k hk => ⟨(z2 _ _ (by decide)).trans (n1 k hk).1, (z2 _ _ (by decide)).trans (n1 k hk).2⟩, n2, fun i hi h0 => ?_⟩
      have q := n3 i hi h0
      unfold nlA at q ⊢
      rw [z2 317 _ (by decide), z2 318 _ (by decide)]
      exact q
    have hGy2 : GyR σ2 x.1.1.2.1.2 x.1.1.2.1.1 x.1.1.2.2.1.1 x.1.1.2.2.1.2 := ⟨LiR.cg bLi (k2 _ (by decide) (by decide) (by decide)) (k2 _ (by decide) (by decide) (by decide)) (fun y k a _ => z2 y k (by omega)) (fun k _ => ⟨z2 _ _ (by decide), z2 _ _ (by decide)⟩), ⟨(k2 _ (by decide) (by decide) (by decide)).trans bEl.1, fun i hi => ⟨(z2 _ _ (by decide)).trans (bEl.2 i hi).1, fun h0 => (z2 _ _ (by decide)).trans ((bEl.2 i hi).2 h0)⟩⟩, hNn2⟩
    have s59 : mV σ2 246 59 = (nw : Int) := (k2 _ (by decide) (by decide) (by decide)).trans (n59 f1)
    have s328 : mV σ2 328 0 = 0 := (z2 _ _ (by decide)).trans (n328 f1)
    refine R_lay.p (nw := nw) (S := x.1.2.2.1.1) (g := x.1.2.1) pgb r3 (by omega) (by rw [we]; omega) (fun i hi => ?_) ru.st ⟨by omega, b9.2⟩ ⟨by omega, b11.2⟩ b12 rfl hnw s59 ((k2 _ (by decide) (by decide) (by decide)).trans b28) (fun k hk => (z2 _ _ (by decide)).trans (st k hk)) hd hdt (by omega) (hHd.z9 f2 (fun z _ => List.not_mem_nil) (by decide)) hGy2 s328 (fun P σ3 p1 p2 hL => ?_) (fun σ3 p1 p2 p3 f3 p5 => ?_)
    · have ol := hW.2 (x.1.1.2.1.1.getD i ([], 0, 0)) (by
        rw [List.getD_eq_getElem?_getD, List.getElem?_eq_getElem hi]
        exact List.getElem_mem hi)
      unfold Rg
      omega
    · -- marks turn to pages
      have f3 : FrZ PgS9 PgK9 σ2 σ3 := hL.2.2.2.2.2.2
      have hLp : LpN σ3 x.1.1.2.1.2 P x.1.1.2.1.2.length := hL.2.2.2.2.1.1
      have z3 : ∀ y k, y ∉ PgS9 → y ≠ 246 → mV σ3 y k = mV σ1 y k := fun y k h h6 => (f3.z h h6).trans (z2 y k h6)
      have k3 : ∀ k, k ∉ PgK9 → mV σ3 246 k = mV σ2 246 k := fun k h => f3.f h (by decide)
      have c59 : mV σ3 246 59 = (nw : Int) := (k3 _ (by decide)).trans s59
      have c28 : mV σ3 246 28 = 0 := (k3 _ (by decide)).trans ((k2 _ (by decide) (by decide) (by decide)).trans b28)
      have ti := hI.1.1
      have ll : x.1.1.1.2.2.2.1.2.2.length = x.1.1.1.2.2.2.1.1.length := ti.2.2.1.2.1
      have ll6 : x.1.1.1.2.2.2.1.1.length ≤ 60 := ti.2.2.1.2.2.1
      have lk : x.1.1.1.2.2.2.2.1.2.length = x.1.1.1.2.2.2.2.1.1.length := ti.2.2.2.1.1
      have lk1 : x.1.1.1.2.2.2.2.1.1.length ≤ 100 := ti.2.2.2.1.2.1
      have lh := hd.2.2
      have lh6 := hd.1
      refine R_set_186.i ⟨fun _ => ?_, fun h => absurd c28 h⟩
      refine rst_198 (nw := nw) (P := P) (σ0 := σ3) pgb hnw c59 (V := x.1.1.1.2.2.2.1.2.2) (by omega) (by rw [ll, z3 _ _ (by decide) (by decide)]; exact tL1) (bM1.cg (fun j => z3 _ _ (by decide) (by decide))) hLp (fun σ4 f4 g4 => ?_) _ 0 σ3 (Nat.zero_add _) FrA.rf (fun k hk => absurd hk (Nat.not_lt_zero _))
      have f4z := S9.z f4
      have z4 : ∀ y k, y ∉ PgS9 → y ≠ 246 → y ∉ [283, 290, 296] → mV σ4 y k = mV σ1 y k := fun y k h h6 h9 => (f4z.z h9 h6).trans (z3 y k h h6)
      have hLp4 : LpN σ4 x.1.1.2.1.2 P x.1.1.2.1.2.length := fun j hj h0 => (f4z.z (by decide) (by decide)).trans (hLp j hj h0)
      refine rst_244 (nw := nw) (P := P) (σ0 := σ4) pgb hnw ((f4z.f List.not_mem_nil (by decide)).trans c59) (V := x.1.2.1.2.2) (by omega) (by rw [lh, z4 _ _ (by decide) (by decide) (by decide)]; exact hHd.1) (hHd.2.2.2.cg (fun j => z4 _ _ (by decide) (by decide) (by decide))) hLp4 (fun σ5 f5 e5 g5 => ?_) _ 0 σ4 (Nat.zero_add _) FrA.rf (fun _ => rfl) (fun k hk => absurd hk (Nat.not_lt_zero _))
      have f5z := S9.z f5
      have z5 : ∀ y k, y ∉ PgS9 → y ≠ 246 → y ∉ [283, 290, 296] → mV σ5 y k = mV σ1 y k := fun y k h h6 h9 => (f5z.z h9 h6).trans (z4 y k h h6 h9)
      have hLp5 : LpN σ5 x.1.1.2.1.2 P x.1.1.2.1.2.length := fun j hj h0 => (f5z.z (by decide) (by decide)).trans (hLp4 j hj h0)
      refine rst_290 (nw := nw) (P := P) (σ0 := σ5) pgb hnw ((f5z.f List.not_mem_nil (by decide)).trans ((f4z.f List.not_mem_nil (by decide)).trans c59)) (V := x.1.1.1.2.2.2.2.1.2) (by omega) (by rw [lk, z5 _ _ (by decide) (by decide) (by decide)]; exact tK1) (bM2.cg (fun j => z5 _ _ (by decide) (by decide) (by decide))) hLp5 (fun σ6 f6 e6 e6' g6 => ?_) _ 0 σ5 (Nat.zero_add _) FrA.rf (fun _ => rfl) (fun _ => rfl) (fun k hk => absurd hk (Nat.not_lt_zero _))
      have f6z := S9.z f6
      have z6 : ∀ y k, y ∉ PgS9 → y ≠ 246 → y ∉ [283, 290, 296] → mV σ6 y k = mV σ1 y k := fun y k h h6 h9 => (f6z.z h9 h6).trans (z5 y k h h6 h9)
      have f36 : FrZ [283, 290, 296] [] σ3 σ6 := (f4z.tr f5z).tr f6z
      have f36a : FrA (AlS9 nw) σ3 σ6 := (f4.tr f5).tr f6
      have s6 : mV σ6 246 59 = (nw : Int) := (f36.f List.not_mem_nil (by decide)).trans c59
      -- what the banks tell
      have hN6 : MkR9 σ6 nw (neB9 x.1 P) := by
        refine ⟨⟨(z6 _ _ (by decide) (by decide) (by decide)).trans tL1, tL2.cg (fun k => z6 _ _ (by decide) (by decide) (by decide)) (fun k => z6 _ _ (by decide) (by decide) (by decide)), tL3.cg (fun k => z6 _ _ (by decide) (by decide) (by decide)) (fun k => z6 _ _ (by decide) (by decide) (by decide)), fun q hq => ?_⟩, ⟨(z6 _ _ (by decide) (by decide) (by decide)).trans hHd.1, fun i hi => ?_⟩, ⟨(z6 _ _ (by decide) (by decide) (by decide)).trans tK1, fun i hi => ?_⟩, fun i hi => ?_⟩
        · have hq : q < x.1.1.1.2.2.2.1.1.length := hq
          show mV σ6 283 (60 * nw + q) = (x.1.1.1.2.2.2.1.2.2.map (fun v => (pgN P v : Int))).getD q 0
          rw [map_gd9 (by omega), e6, e5]
          exact g4 q (by omega)
        · have hi : i < x.1.2.1.1.length := hi
          obtain ⟨y1, y2, y3⟩ := hHd.2.1.2 i hi
          refine ⟨(z6 _ _ (by decide) (by decide) (by decide)).trans y1, (z6 _ _ (by decide) (by decide) (by decide)).trans y2, fun t ht => (z6 _ _ (by decide) (by decide) (by decide)).trans (y3 t ht), (z6 _ _ (by decide) (by decide) (by decide)).trans (hHd.2.2.1 i hi), ?_⟩
          show mV σ6 290 (60 * nw + i) = (x.1.2.1.2.2.map (fun v => (pgN P v : Int))).getD i 0
          rw [map_gd9 (by omega), e6']
          exact g5 i (by omega)
        · obtain ⟨y1, y2, y3⟩ := tK3 i hi
          exact ⟨(z6 _ _ (by decide) (by decide) (by decide)).trans y1, (z6 _ _ (by decide) (by decide) (by decide)).trans y2, fun t ht => (z6 _ _ (by decide) (by decide) (by decide)).trans (y3 t ht)⟩
        · have hi : i < x.1.1.1.2.2.2.2.1.1.length := hi
          show mV σ6 296 (100 * nw + i) = (x.1.1.1.2.2.2.2.1.2.map (fun v => (pgN P v : Int))).getD i 0
          rw [map_gd9 (by omega)]
          exact g6 i (by omega)
      have hO1 : MkR9 σ1 (1 - nw) B := ⟨bE.2.2.1, hBe1.1, hBe1.2.1, hBe1.2.2.1⟩
      have hO6 : MkR9 σ6 (1 - nw) B := by
        refine hO1.cg hB.1.2.2.1 hB.2.1.1 hB.2.2.1.1 (fun y k h => z6 y k ?_ ?_ ?_) (fun q hq => ?_) (fun q hq => ?_) (fun q hq => ?_)
        · have a : ∀ y ∈ [279, 280, 281, 282, 285, 286, 287, 288, 289, 292, 293, 294, 295, 298], y ∉ PgS9 := by decide
          exact a y h
        · have a : ∀ y ∈ [279, 280, 281, 282, 285, 286, 287, 288, 289, 292, 293, 294, 295, 298], y ≠ 246 := by decide
          exact a y h
        · have a : ∀ y ∈ [279, 280, 281, 282, 285, 286, 287, 288, 289, 292, 293, 294, 295, 298], y ∉ [283, 290, 296] := by decide
          exact a y h
        · refine (f36a.2.2 _ _ (fun h => ?_)).trans (z3 _ _ (by decide) (by decide))
          rcases h with h | h | h
          · omega
          · exact absurd h.1 (by decide)
          · exact absurd h.1 (by decide)
        · refine (f36a.2.2 _ _ (fun h => ?_)).trans (z3 _ _ (by decide) (by decide))
          rcases h with h | h | h
          · exact absurd h.1 (by decide)
          · omega
          · exact absurd h.1 (by decide)
        · refine (f36a.2.2 _ _ (fun h => ?_)).trans (z3 _ _ (by decide) (by decide))
          rcases h with h | h | h
          · exact absurd h.1 (by decide)
          · exact absurd h.1 (by decide)
          · omega
      refine R_areSettled.p hnw s6 (neB9_i hI p2) hB hN6 hO6 ?_
      have fin : ∀ s : Int, s = bZ (lkB (neB9 x.1 P) B) → R_set_347 s σ6 Q := fun s hs => by
        refine R_set_347.i ?_
        have f7 : FrZ [283, 290, 296] [127] σ3 (wV σ6 246 127 s) := (f36.mo (fun x hx => hx) (fun x hx => absurd hx List.not_mem_nil)).tr (FrZ.wf (by decide))
        have f7a : FrZ (283 :: 290 :: 296 :: PgS9) ([50, 52, 53, 127] ++ PgK9) σ1 (wV σ6 246 127 s) := ((f2.mo (fun x hx => absurd hx List.not_mem_nil) (by decide)).tr (f3.mo (by decide) (by decide))).tr (f7.mo (by decide) (by decide))
        have k7 : ∀ k, k ∉ [50, 52, 53, 127] ++ PgK9 → mV (wV σ6 246 127 s) 246 k = mV σ1 246 k := fun k h => f7a.f h (by decide)
        have v7 : ∀ y k, y ≠ 246 → mV (wV σ6 246 127 s) y k = mV σ6 y k := fun y k h => wV_ne (Or.inl h)
        have m7 : MkR9 (wV σ6 246 127 s) nw (neB9 x.1 P) := by
          have bi := neB9_i hI p2
          refine hN6.cg bi.1.2.2.1 bi.2.1.1 bi.2.2.1.1 (fun y k h => v7 y k (fun e => by rw [e] at h; exact absurd h (by decide))) (fun q hq => v7 _ _ (by decide)) (fun q hq => v7 _ _ (by decide)) (fun q hq => v7 _ _ (by decide))
        have st7 : mV (wV σ6 246 127 s) 328 0 = 0 := by
          refine (f7.z (by decide) (by decide)).trans ?_
          by_cases c : 0 < P.length
          · refine (hL.2.2.2.1.1 0 c).trans ?_
            rw [psG_0]
            rfl
          · have eP : P = [] := List.eq_nil_of_length_eq_zero (by omega)
            have := hL.2.2.2.1.2
            rw [eP] at this
            exact this
        refine hy (x.1, x.2, P) _ (roD_y e1 p1) p2 (plR9_b hI hW p2 hL) ⟨hL.2.1.z9 f7 (by decide) (by decide), ⟨(f7.f (by decide) (by decide)).trans hL.2.2.1, fun k hk => (f7.z (by decide) (by decide)).trans (hL.2.2.2.1.1 k hk), (f7.z (by decide) (by decide)).trans hL.2.2.2.1.2⟩, m7, hRu.z f7a (by decide) (by decide), ⟨(k7 _ (by decide)).trans t86, (k7 _ (by decide)).trans t85, bU.z f7a (by decide) (by decide)⟩, ⟨(f7.f (by decide) (by decide)).trans ((k3 _ (by decide)).trans a52), (f7.f (by decide) (by decide)).trans ((k3 _ (by decide)).trans a53)⟩, (f7.f (by decide) (by decide)).trans c59, ⟨(k7 _ (by decide)).trans b28, (k7 _ (by decide)).trans b32, (k7 _ (by decide)).trans b33⟩⟩ (hSc1.z9 f7a (by decide) (by decide)) ((k7 _ (by decide)).trans (n126 f1)) (by rw [← hs]; exact wV_self) st7 ((ga.tr (FrE9.g f1)).tr (FrE9.z f7a (by decide) (by decide)))
      show (bZ (lkB (neB9 x.1 P) B) = 0 → R_set_347 0 σ6 Q) ∧ (¬ bZ (lkB (neB9 x.1 P) B) = 0 → R_set_347 1 σ6 Q)
      refine ⟨fun h => fin 0 h.symm, fun h => fin 1 ?_⟩
      rcases bZ_01 (b := lkB (neB9 x.1 P) B) with e | e
      · exact absurd e h
      · exact e.symm
    · -- too many pages
      have f3a : FrZ PgS9 ([50, 52, 53] ++ (28 :: 29 :: PgK9)) σ1 σ3 := (f2.mo (fun x hx => absurd hx List.not_mem_nil) (by decide)).tr (f3.mo (fun x hx => hx) (by decide))
      have k3 : ∀ k, k ∉ [50, 52, 53] ++ (28 :: 29 :: PgK9) → mV σ3 246 k = mV σ1 246 k := fun k h => f3a.f h (by decide)
      refine R_set_186.i ⟨fun h => by rw [p2] at h; exact absurd h (by decide), fun _ => ?_⟩
      exact hn (x.2, x.1.2.2.1, (9, x.1.1.1.1.1, x.1.1.1.1.2.1)) σ3 (roD_n e1 p1) ⟨p2, (k3 _ (by decide)).trans b32, (k3 _ (by decide)).trans b33⟩ (bU.z f3a (by decide) (by decide)) (hRu.z f3a (by decide) (by decide)) (p3.trans ((k2 _ (by decide) (by decide) (by decide)).trans e30)) ((k3 _ (by decide)).trans (n59 f1)) p5 ((ga.tr (FrE9.g f1)).tr (FrE9.z f3a (by decide) (by decide)))
  · have h28' : ¬ mV σ1 246 28 = 0 := by
      rw [t1.1]
      exact hx
    refine ⟨fun _ => R_set_186.i ⟨fun h => absurd h h28', fun _ => ?_⟩, fun h => absurd h h28'⟩
    exact hn (l, x) σ1 (roD_f e1) t1 u1 r1 e29 (n59 f1) (n328 f1) (ga.tr (FrE9.g f1))
end
