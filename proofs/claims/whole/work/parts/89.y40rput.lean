/-! THE REFERENCE WORKS TEXTS: what it puts -/
def cgB (c : Int) : Int := if 512 ≤ c then -96 else c % 128
def cyB (c : Int) : Int := c / 128 % 4
def rdG (c : Int) : Int := if 512 ≤ c then 160 else c % 128
def hoG (σ : MS) (zg zy a : Nat) (L : List Int) : Prop := ∀ i, i < L.length → mV σ zg (a + i) = cgB (L.getD i 0) ∧ mV σ zy (a + i) = cyB (L.getD i 0)
theorem cgB_r {c : Int} : cgB c % 256 = rdG c := by
  unfold cgB rdG
  split <;> omega
theorem rdG_c {c : Int} : b8 (b8 (rdG c)) = cgB c := by
  unfold cgB rdG b8
  split <;> omega
theorem cgB_b {c : Int} : b8 (cgB c) = cgB c := by
  unfold cgB b8
  split <;> omega
theorem cyB_b {c : Int} : b8 (b8 (cyB c)) = cyB c := by
  unfold cyB b8
  omega
theorem cyB_1 {c : Int} : b8 (cyB c) = cyB c := by
  unfold cyB b8
  omega
theorem rdG_n {c : Int} : 0 ≤ rdG c ∧ rdG c ≤ 160 := by
  unfold rdG
  split <;> omega
theorem rdG_r {c : Int} : Rg (rdG c) := by
  have := rdG_n (c := c)
  unfold Rg
  omega
theorem cyB_n {c : Int} : 0 ≤ cyB c ∧ cyB c ≤ 3 := by
  unfold cyB
  omega
theorem rd_cd {y x : Int} (hy : 0 ≤ y ∧ y ≤ 3) (hx : 0 ≤ x ∧ x ≤ 127) : rdG (cdS y x) = x ∧ cyB (cdS y x) = y := by
  unfold rdG cdS cyB
  rw [if_neg (by omega)]
  omega
theorem rd_hd {y : Int} (hy : 0 ≤ y ∧ y ≤ 3) : rdG (cdS y 544) = 160 ∧ cyB (cdS y 544) = y := by
  unfold rdG cdS cyB
  rw [if_pos (by omega)]
  omega
theorem hoG.at {σ : MS} {zg zy a : Nat} {L : List Int} (h : hoG σ zg zy a L) {i : Nat} (hi : i < L.length) : mV σ zg (a + i) % 256 = rdG (L.getD i 0) := by
  rw [(h i hi).1, cgB_r]
theorem hoG.nil {σ : MS} {zg zy a : Nat} : hoG σ zg zy a [] := fun i hi => absurd hi (Nat.not_lt_zero _)
theorem hoG.cg {σ σ' : MS} {zg zy a : Nat} {L : List Int} (h : hoG σ zg zy a L) (e : ∀ k, a ≤ k → k < a + L.length → mV σ' zg k = mV σ zg k ∧ mV σ' zy k = mV σ zy k) : hoG σ' zg zy a L := fun i hi => by
  have := e (a + i) (by omega) (by omega)
  rw [this.1, this.2]
  exact h i hi
theorem hoG.sn {σ : MS} {zg zy a : Nat} {L : List Int} {c x y : Int} (hz : zg ≠ zy) (h : hoG σ zg zy a L) (hx : x = cgB c) (hy : y = cyB c) : hoG (wV (wV σ zg (a + L.length) x) zy (a + L.length) y) zg zy a (L ++ [c]) := fun i hi => by
  rw [List.length_append, List.length_singleton] at hi
  by_cases e : i = L.length
  · subst e
    rw [wV_ne (Or.inl hz), wV_self, wV_self, getD_s]
    exact ⟨hx, hy⟩
  · rw [wV_ne (Or.inl hz), wV_ne (Or.inr (by omega)), wV_ne (Or.inr (by omega)), wV_ne (Or.inl (fun h => hz h.symm)), getD_l (by omega)]
    exact h i (by omega)
/-- work and style; what is put out -/
def RxW (σ : MS) (s : TS) : Prop := mV σ 246 28 = 0 ∧ mV σ 246 32 = s.1.1 ∧ mV σ 246 33 = s.1.2.1 ∧ mV σ 246 18 = s.1.2.2
def RxO (σ : MS) (g : Nat) (s : TS) : Prop := mV σ 246 16 = ((g + s.2.1.length : Nat) : Int) ∧ hoG σ 254 255 g s.2.1
def BdR (g kt : Nat) (s : TS) : Prop := (0 ≤ s.1.1 ∧ s.1.1 ≤ 60000) ∧ (0 ≤ s.1.2.1 ∧ s.1.2.1 ≤ 400000) ∧ ((g + s.2.1.length + kt : Nat) : Int) ≤ s.1.1 + 100
def FrP (g : Nat) (σ σ' : MS) : Prop := FrZ [254, 255, 337] [16, 28, 32, 33, 143] σ σ' ∧ (∀ k, (k < g ∨ 70000 ≤ k) → mV σ' 254 k = mV σ 254 k ∧ mV σ' 255 k = mV σ 255 k) ∧ mV σ 246 33 ≤ mV σ' 246 33
/-- what a put leaves -/
def Fr0 (σ σ' : MS) : Prop := FrZ [254, 255] [16, 28, 32, 33] σ σ'
def PoR (g : Nat) (σ : MS) (s : TS) (σ' : MS) (s' : TS) : Prop := FrP g σ σ' ∧ PuR s s' ∧ RxW σ' s' ∧ RxO σ' g s'
def FaR (g kt : Nat) (σ' : MS) (e : Int × Int × Int) : Prop := mV σ' 246 28 = e.1 ∧ e.1 ≠ 0 ∧ mV σ' 246 32 = e.2.1 ∧ mV σ' 246 33 = e.2.2 ∧ ∃ t : Nat, mV σ' 246 16 = (t : Int) ∧ g ≤ t ∧ t + kt ≤ 60100
def POk (Q : MQ9) (g kt : Nat) (σ : MS) (s : TS) (r : TR) : Prop := (∀ s' σ', r = .inl s' → PoR g σ s σ' s' → Q (.inl none) σ') ∧ (∀ e σ', r = .inr e → FaR g kt σ' e → FrP g σ σ' → Q (.inl none) σ')
section
variable {σ σ0 σ1 σ2 : MS} {Q : MQ9} {g kt : Nat} {s s1 s2 : TS} {c x y : Int}
theorem FrP.rf : FrP g σ σ := ⟨FrZ.rf, fun _ _ => ⟨rfl, rfl⟩, Int.le_refl _⟩
theorem FrP.tr (h : FrP g σ σ1) (h' : FrP g σ1 σ2) : FrP g σ σ2 := ⟨h.1.tr h'.1, fun k hk => ⟨(h'.2.1 k hk).1.trans (h.2.1 k hk).1, (h'.2.1 k hk).2.trans (h.2.1 k hk).2⟩, Int.le_trans h.2.2 h'.2.2⟩
theorem frp_k : ∀ k ∈ [16, 28, 32, 143], k ∈ [16, 28, 32, 33, 143] ∧ 33 ≠ k := by decide
theorem FrP.w {k : Nat} (hk : k ∈ [16, 28, 32, 143]) : FrP g σ (wV σ 246 k x) := ⟨FrZ.wf (frp_k k hk).1, fun _ _ => ⟨wV_ne (Or.inl (by decide)), wV_ne (Or.inl (by decide))⟩, by rw [wV_ne (Or.inr (frp_k k hk).2)]; exact Int.le_refl _⟩
theorem FrP.w3 (hx : mV σ 246 33 ≤ x) : FrP g σ (wV σ 246 33 x) := ⟨FrZ.wf (by decide), fun _ _ => ⟨wV_ne (Or.inl (by decide)), wV_ne (Or.inl (by decide))⟩, by rw [wV_self]; exact hx⟩
theorem FrP.g4 {z k : Nat} (hz : z = 254 ∨ z = 255) (h : g ≤ k ∧ k < 70000) : FrP g σ (wV σ z k x) := ⟨FrZ.wz (by rcases hz with rfl | rfl <;> decide), fun k' hk' => ⟨wV_ne (Or.inr (by omega)), wV_ne (Or.inr (by omega))⟩, by rw [wV_ne (Or.inl (by omega))]; exact Int.le_refl _⟩
theorem FrP.sm {L : List Int} (h : SmR σ σ1 L) : FrP g σ σ1 := ⟨h.1.mo (by decide) (by decide), fun k _ => ⟨h.1.z (by decide) (by decide), h.1.z (by decide) (by decide)⟩, by rw [h.1.f (by decide) (by decide)]; exact Int.le_refl _⟩
theorem PuR.rf : PuR s s := ⟨[], by
  show s = ((s.1.1 + ((0 : Nat) : Int), s.1.2.1 + ((0 : Nat) : Int), s.1.2.2), s.2.1 ++ [], s.2.2)
  rw [List.append_nil, show s.1.1 + ((0 : Nat) : Int) = s.1.1 by omega, show s.1.2.1 + ((0 : Nat) : Int) = s.1.2.1 by omega]⟩
theorem PuR.tr (h : PuR s s1) (h' : PuR s1 s2) : PuR s s2 := by
  obtain ⟨L, rfl⟩ := h
  obtain ⟨M, rfl⟩ := h'
  refine ⟨L ++ M, ?_⟩
  show ((s.1.1 + (L.length : Int) + (M.length : Int), s.1.2.1 + (L.length : Int) + (M.length : Int), s.1.2.2), s.2.1 ++ L ++ M, s.2.2) = ((s.1.1 + ((L ++ M).length : Int), s.1.2.1 + ((L ++ M).length : Int), s.1.2.2), s.2.1 ++ (L ++ M), s.2.2)
  rw [List.append_assoc, List.length_append, show s.1.1 + (L.length : Int) + (M.length : Int) = s.1.1 + ((L.length + M.length : Nat) : Int) by omega, show s.1.2.1 + (L.length : Int) + (M.length : Int) = s.1.2.1 + ((L.length + M.length : Nat) : Int) by omega]
theorem PoR.rf (h : RxW σ s) (h' : RxO σ g s) : PoR g σ s σ s := ⟨FrP.rf, PuR.rf, h, h'⟩
theorem PoR.tr (h : PoR g σ s σ1 s1) (h' : PoR g σ1 s1 σ2 s2) : PoR g σ s σ2 s2 := ⟨h.1.tr h'.1, h.2.1.tr h'.2.1, h'.2.2⟩
theorem POk.bd {r : TR} {f : TS → TR} (h : POk Q g kt σ s (tBd r f)) (e : r = .inl s1) (h1 : PoR g σ s σ1 s1) : POk Q g kt σ1 s1 (f s1) := by
  subst e
  exact ⟨fun s' σ' e' p => h.1 s' σ' e' (h1.tr p), fun e' σ' he p q => h.2 e' σ' he p (h1.1.tr q)⟩
theorem POk.no {r : TR} {f : TS → TR} (h : POk Q g kt σ s (tBd r f)) {e : Int × Int × Int} (he : r = .inr e) (h1 : FaR g kt σ1 e) (h2 : FrP g σ σ1) : Q (.inl none) σ1 := by
  subst he
  exact h.2 e σ1 rfl h1 h2
theorem TI.bd {p v : Int} (h : TI p v s) (hp : ((g + kt : Nat) : Int) ≤ p) : BdR g kt s := by
  obtain ⟨a, -, -, -, -, -, q⟩ := h
  refine ⟨a.1, a.2.1, ?_⟩
  have := Int.natCast_nonneg (suM s.2.2.2.2.1.1)
  have := Int.natCast_nonneg (suM s.2.2.2.2.2.1.1)
  omega
theorem RxW.r {σ' : MS} (h : RxW σ s) (h8 : mV σ' 246 28 = mV σ 246 28) (h2 : mV σ' 246 32 = mV σ 246 32) (h3 : mV σ' 246 33 = mV σ 246 33) (hy : mV σ' 246 18 = mV σ 246 18) : RxW σ' s := ⟨h8.trans h.1, h2.trans h.2.1, h3.trans h.2.2.1, hy.trans h.2.2.2⟩
theorem R_fail.r {k : Int} (hk : 0 ≤ k ∧ k ≤ 100) (h : RxW σ s) (hq : Q (.inl none) (wV σ 246 28 k)) : R_fail k σ Q :=
  R_fail.i ⟨fun a => absurd h.1 a, fun _ => ⟨by unfold Rg; omega, hq⟩⟩
/-- the state in which a fault was told -/
theorem FaR.fl {k : Int} (hk : k ≠ 0) (h : RxW σ s) (hO : RxO σ g s) (hB : BdR g kt s) : FaR g kt (wV σ 246 28 k) (k, s.1.1, s.1.2.1) := by
  obtain ⟨b1, b2, b3⟩ := hB
  refine ⟨wV_self, hk, ?_, ?_, g + s.2.1.length, ?_, by omega, by omega⟩
  · rw [wV_ne (Or.inr (by decide))]; exact h.2.1
  · rw [wV_ne (Or.inr (by decide))]; exact h.2.2.1
  · rw [wV_ne (Or.inr (by decide))]; exact hO.1
theorem R_fail.p {k : Int} (hk : 0 < k ∧ k ≤ 100) (h : RxW σ s) (hO : RxO σ g s) (hB : BdR g kt s) (hq : POk Q g kt σ s (tFl k s)) : R_fail k σ Q :=
  R_fail.r (by omega) h (hq.2 _ _ rfl (FaR.fl (by omega) h hO hB) (FrP.w (by decide)))
theorem R_spend.r {n : Int} (hn : 0 ≤ n ∧ n ≤ 100000) (h : RxW σ s) (hB : BdR g kt s) (h1 : ∀ s1, tSp n s = .inl s1 → Q (.inl (some 1)) (wV (wV σ 246 32 (s.1.1 + n)) 246 33 (s.1.2.1 + n))) (h2 : tSp n s = tFl 8 s → Q (.inl (some 0)) (wV σ 246 28 8)) : R_spend n σ Q := by
  obtain ⟨b1, b2, b3⟩ := hB
  have w1 := h.2.1
  have w2 := h.2.2.1
  have no : (60000 < s.1.1 + n ∨ 400000 < s.1.2.1 + n) → R_spend_24 σ Q := fun hh => R_spend_24.i (R_fail.r (by decide) h (h2 (by unfold tSp; rw [if_pos hh])))
  refine R_spend.i ⟨by unfold Rg; omega, fun a => no (by omega), fun a => ⟨by unfold Rg; omega, fun b => ⟨by unfold Rg; omega, by unfold Rg; omega, ?_⟩, fun b => no (by omega)⟩⟩
  rw [w1, w2]
  exact h1 _ (by unfold tSp; rw [if_neg (by omega)])
theorem R_put.q (h : RxW σ s) (hO : RxO σ g s) (hB : BdR g kt s) (hx : x = rdG c) (hy : y = cyB c) (hq1 : ∀ s' σ', tPt c s = .inl s' → PoR g σ s σ' s' → Fr0 σ σ' → Q (.inl none) σ') (hq2 : ∀ e σ', tPt c s = .inr e → FaR g kt σ' e → FrP g σ σ' → Fr0 σ σ' → Q (.inl none) σ') : R_put x y σ Q := by
  refine R_put.i ⟨fun a => absurd h.1 a, fun _ => R_spend.r (g := g) (kt := kt) (by decide) h hB (fun s1 e => ?_) (fun e => ?_)⟩
  · have hp : tPt c s = .inl (sOu s1 (s1.2.1 ++ [c])) := by unfold tPt; rw [e]; rfl
    obtain ⟨e1, e2, e3⟩ := sp_i e
    obtain ⟨b1, b2, b3⟩ := hB
    refine ⟨fun _ => ?_, fun b => absurd b (by decide)⟩
    have t1 : mV (wV (wV σ 246 32 (s.1.1 + 1)) 246 33 (s.1.2.1 + 1)) 246 16 = ((g + s.2.1.length : Nat) : Int) := by
      rw [wV_ne (Or.inr (by decide)), wV_ne (Or.inr (by decide))]
      exact hO.1
    rw [t1, Int.toNat_natCast, hx, hy, rdG_c, cyB_b]
    refine ⟨by omega, by omega, by omega, by omega, by unfold Rg; omega, hq1 _ _ hp ⟨?_, ?_, ?_, ?_⟩ ?_⟩
    · exact ((((FrP.w (by decide)).tr (FrP.w3 (by rw [wV_ne (Or.inr (by decide))]; have := h.2.2.1; omega))).tr (FrP.g4 (Or.inl rfl) (by omega))).tr (FrP.g4 (Or.inr rfl) (by omega))).tr (FrP.w (by decide))
    · subst e1
      exact ⟨[c], rfl⟩
    · subst e1
      refine ⟨?_, ?_, ?_, ?_⟩
      · simp only [wV_ne (Or.inr (show (28 : Nat) ≠ 16 by decide)), wV_ne (Or.inl (show (246 : Nat) ≠ 255 by decide)), wV_ne (Or.inl (show (246 : Nat) ≠ 254 by decide)), wV_ne (Or.inr (show (28 : Nat) ≠ 33 by decide)), wV_ne (Or.inr (show (28 : Nat) ≠ 32 by decide))]
        exact h.1
      · simp only [wV_ne (Or.inr (show (32 : Nat) ≠ 16 by decide)), wV_ne (Or.inl (show (246 : Nat) ≠ 255 by decide)), wV_ne (Or.inl (show (246 : Nat) ≠ 254 by decide)), wV_ne (Or.inr (show (32 : Nat) ≠ 33 by decide)), wV_self]
        rfl
      · simp only [wV_ne (Or.inr (show (33 : Nat) ≠ 16 by decide)), wV_ne (Or.inl (show (246 : Nat) ≠ 255 by decide)), wV_ne (Or.inl (show (246 : Nat) ≠ 254 by decide)), wV_self]
        rfl
      · simp only [wV_ne (Or.inr (show (18 : Nat) ≠ 16 by decide)), wV_ne (Or.inl (show (246 : Nat) ≠ 255 by decide)), wV_ne (Or.inl (show (246 : Nat) ≠ 254 by decide)), wV_ne (Or.inr (show (18 : Nat) ≠ 33 by decide)), wV_ne (Or.inr (show (18 : Nat) ≠ 32 by decide))]
        exact h.2.2.2
    · subst e1
      refine ⟨?_, ?_⟩
      · rw [wV_self]
        show ((g + s.2.1.length : Nat) : Int) + 1 = ((g + (s.2.1 ++ [c]).length : Nat) : Int)
        rw [List.length_append, List.length_singleton]
        omega
      · have h0 : hoG (wV (wV σ 246 32 (s.1.1 + 1)) 246 33 (s.1.2.1 + 1)) 254 255 g s.2.1 := hO.2.cg (fun k _ _ => ⟨by rw [wV_ne (Or.inl (by decide)), wV_ne (Or.inl (by decide))], by rw [wV_ne (Or.inl (by decide)), wV_ne (Or.inl (by decide))]⟩)
        have h1 := h0.sn (c := c) (by decide) rfl rfl
        exact h1.cg (fun k _ _ => ⟨wV_ne (Or.inl (by decide)), wV_ne (Or.inl (by decide))⟩)
    · exact ((((FrZ.wf (by decide)).tr (FrZ.wf (by decide))).tr (FrZ.wz (by decide))).tr (FrZ.wz (by decide))).tr (FrZ.wf (by decide))
  · refine ⟨fun b => absurd rfl b, fun _ => hq2 (8, s.1.1, s.1.2.1) _ (by unfold tPt; rw [e]; rfl) (FaR.fl (by decide) h hO hB) (FrP.w (by decide)) (FrZ.wf (by decide))⟩
theorem R_put.r (h : RxW σ s) (hO : RxO σ g s) (hB : BdR g kt s) (hx : x = rdG c) (hy : y = cyB c) (hq : POk Q g kt σ s (tPt c s)) : R_put x y σ Q := R_put.q (kt := kt) h hO hB hx hy (fun s' σ' e p _ => hq.1 s' σ' e p) (fun e σ' he p q _ => hq.2 e σ' he p q)
theorem BdR.put (hB : BdR g kt s) (e : tPt c s = .inl s1) : BdR g kt s1 := by
  obtain ⟨e1, e2, e3⟩ := pt_i e
  obtain ⟨b1, b2, b3⟩ := hB
  subst e1
  refine ⟨?_, ?_, ?_⟩
  · show 0 ≤ s.1.1 + 1 ∧ s.1.1 + 1 ≤ 60000
    omega
  · show 0 ≤ s.1.2.1 + 1 ∧ s.1.2.1 + 1 ≤ 400000
    omega
  · show ((g + (s.2.1 ++ [c]).length + kt : Nat) : Int) ≤ s.1.1 + 1 + 100
    rw [List.length_append, List.length_singleton]
    omega
theorem drop_c {L : List Int} {i : Nat} (h : i < L.length) : L.drop i = L.getD i 0 :: L.drop (i + 1) := by
  rw [List.drop_eq_getElem_cons h, List.getD_eq_getElem?_getD, List.getElem?_eq_getElem h]
  rfl
/-- a loop that puts a row, sign by sign -/
theorem loopP {P : Nat → MS → Prop} {L : List Int} (step : ∀ i σ' s', i < L.length → PoR g σ0 s σ' s' → Fr0 σ0 σ' → R_put (rdG (L.getD i 0)) (cyB (L.getD i 0)) σ' (kV (thQ Q) fun σ2 => P (i + 1) σ2) → P i σ') (flt : ∀ i σ', i ≤ L.length → FrP g σ0 σ' → Fr0 σ0 σ' → ¬ mV σ' 246 28 = 0 → Q (.inl none) σ' → P i σ') (fin : ∀ σ' s', PoR g σ0 s σ' s' → Fr0 σ0 σ' → Q (.inl none) σ' → P L.length σ') (h : RxW σ0 s) (hO : RxO σ0 g s) (hB : BdR g kt s) (hq : POk Q g kt σ0 s (tPs L s)) : P 0 σ0 := by
  have key : ∀ (n i : Nat) (σ' : MS) (s' : TS), i + n = L.length → PoR g σ0 s σ' s' → Fr0 σ0 σ' → BdR g kt s' → POk Q g kt σ' s' (tPs (L.drop i) s') → P i σ' := by
    intro n
    induction n with
    | zero =>
      intro i σ' s' hi hp h0 hb hq
      have e : i = L.length := by omega
      subst e
      rw [List.drop_length] at hq
      exact fin σ' s' hp h0 (hq.1 _ _ rfl (PoR.rf hp.2.2.1 hp.2.2.2))
    | succ n ih =>
      intro i σ' s' hi hp h0 hb hq
      rw [drop_c (by omega)] at hq
      refine step i σ' s' (by omega) hp h0 (R_put.q (kt := kt) hp.2.2.1 hp.2.2.2 hb rfl rfl (fun s1 σ1 e1 p1 z1 => ?_) (fun e σ1 he p1 q1 z1 => ?_))
      · exact ih (i + 1) σ1 s1 (by omega) (hp.tr p1) (h0.tr z1) (hb.put e1) (hq.bd e1 p1)
      · exact flt (i + 1) σ1 (by omega) (hp.1.tr q1) (h0.tr z1) (by rw [p1.1]; exact p1.2.1) (hq.no he p1 q1)
  exact key L.length 0 σ0 s (by omega) (PoR.rf h hO) FrZ.rf hB (by rw [List.drop_zero]; exact hq)
end
