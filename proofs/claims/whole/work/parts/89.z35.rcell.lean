/-! TABLES: the reference works the cells of a line -/
def CbR (σ : MS) (E : TE) (nw : Nat) (s : TS) (g : Nat) : Prop := (mV σ 246 28 = 0 ∧ mV σ 246 32 = s.1.1 ∧ mV σ 246 33 = s.1.2.1) ∧ mV σ 246 16 = (g : Int) ∧ TmR σ nw s.2.2 ∧ UnB σ ∧ RxE σ E nw ∧ (mV σ 246 17 = 70000 ∧ mV σ 246 21 = 0 ∧ mV σ 246 22 = 0 ∧ mV σ 246 31 = 0 ∧ mV σ 246 94 = 0 ∧ mV σ 246 95 = 0)
/-- the cells lie in the row, trimmed -/
def CeR (σ : MS) (C : List (List Int)) : Prop := ∀ j, j < C.length → ∃ a b, TmP (C.getD j []) a b ∧ mV σ 342 j = ((suM (C.take j) + a : Nat) : Int) ∧ mV σ 343 j = ((suM (C.take j) + b : Nat) : Int) ∧ hoG σ 254 255 (suM (C.take j)) (C.getD j [])
/-- what the cells of a table may change in the reference -/
def BtS : List Nat := [256, 348, 337]
def BtK : List Nat := TRK ++ [161]
def AlBt (nw z k : Nat) : Prop := (z = 246 ∧ k ∈ BtK) ∨ z ∈ BtS ∨ (z ∈ TRS ∧ (bkW z = 0 ∨ k / bkW z = nw))
def FrBt (nw : Nat) (σ σ' : MS) : Prop := FrA (AlBt nw) σ σ'
theorem FrBt.u {g kt c nw : Nat} {σ σ1 : MS} (h : FrU g kt c nw σ σ1) : FrBt nw σ σ1 := FrA.mo h (fun z k a => by
  rcases a with a | a
  · exact Or.inl ⟨a.1, List.mem_append_left _ a.2⟩
  · exact Or.inr (Or.inr ⟨a.1, a.2.2⟩))
def AlTe (nw z k : Nat) : Prop := AlBt nw z k ∨ z ∈ [342, 343, 346]
def FrTe (nw : Nat) (σ σ' : MS) : Prop := FrA (AlTe nw) σ σ'
section
variable {σ σ0 : MS} {Q : MQ9} {E : TE} {nw g : Nat} {M : List Int} {s : TS}
theorem FrTe.tr {σ1 σ2 : MS} (h : FrTe nw σ σ1) (h' : FrTe nw σ1 σ2) : FrTe nw σ σ2 := FrA.tr h h'
theorem FrTe.bb {σ1 : MS} (h : FrBt nw σ σ1) : FrTe nw σ σ1 := FrA.mo h (fun z k a => Or.inl a)
theorem FrTe.w {z k : Nat} {x : Int} (h : z ∈ [342, 343, 346]) : FrTe nw σ (wV σ z k x) := FrA.w (Or.inr h)
theorem FrTe.k {k : Nat} {x : Int} (h : k ∈ BtK) : FrTe nw σ (wV σ 246 k x) := FrA.w (Or.inl (Or.inl ⟨rfl, h⟩))
theorem CeR.sn {σ1 : MS} {C : List (List Int)} {L : List Int} {a b : Nat} (h : CeR σ C) (e : ∀ z k, (z = 342 ∨ z = 343) → k < C.length → mV σ1 z k = mV σ z k) (e2 : ∀ z k, (z = 254 ∨ z = 255) → k < suM C → mV σ1 z k = mV σ z k) (hT : TmP L a b) (h2 : mV σ1 342 C.length = ((suM C + a : Nat) : Int)) (h3 : mV σ1 343 C.length = ((suM C + b : Nat) : Int)) (hG : hoG σ1 254 255 (suM C) L) : CeR σ1 (C ++ [L]) := fun j hj => by
  rw [List.length_append] at hj
  have hj : j < C.length + 1 := hj
  by_cases e9 : j = C.length
  · have e1 : (C ++ [L]).take j = C := by rw [e9, List.take_left]
    have e3 : (C ++ [L]).getD j [] = L := by
      rw [e9]
      unfold List.getD
      rw [List.getElem?_append_right (Nat.le_refl _), Nat.sub_self]
      rfl
    rw [e1, e3, e9]
    exact ⟨a, b, hT, h2, h3, hG⟩
  · have e1 : (C ++ [L]).take j = C.take j := List.take_append_of_le_length (by omega)
    have e3 : (C ++ [L]).getD j [] = C.getD j [] := by
      unfold List.getD
      rw [List.getElem?_append_left (by omega)]
    rw [e1, e3]
    obtain ⟨a', b', t1, t2, t3, t4⟩ := h j (by omega)
    have sm := suM_tk (W := C) (i := j) (by omega)
    exact ⟨a', b', t1, (e _ _ (Or.inl rfl) (by omega)).trans t2, (e _ _ (Or.inr rfl) (by omega)).trans t3, fun i hi => ⟨(e2 _ _ (Or.inl rfl) (by omega)).trans (t4 i hi).1, (e2 _ _ (Or.inr rfl) (by omega)).trans (t4 i hi).2⟩⟩
/-- one cell is worked -/
theorem cel_w {T : List Int} {x0 : Nat} {t0 : Int} {N : MS → Prop} {F : MS → Prop} (hE : EI E) (hE2 : E.2.2.2 = 2) (hT : SgR σ x0 T) (hTb : smB T) (hC : CbR σ E nw s g) (hTI : TI t0 0 (tx0 s)) (hg : (g : Int) ≤ t0) (hy : ∀ s1 σ', wkD 30 (eZ E) false [] T (tx0 s) = .inl s1 → CbR σ' E nw (tx0 s1) (g + s1.2.1.length) → hoG σ' 254 255 g s1.2.1 → FrU g 0 0 nw σ σ' → N σ') (hn : ∀ e σ', wkD 30 (eZ E) false [] T (tx0 s) = .inr e → TxR σ' e → UnB σ' → FrU g 0 0 nw σ σ' → F σ') {th : String → MS → Prop} : R_works 240 (x0 : Int) ((x0 + T.length : Nat) : Int) (-1) (wV σ 246 18 0) (kV th fun σ2 => ((mV σ2 246 28 = 0 → N σ2) ∧ (¬ mV σ2 246 28 = 0 → F σ2))) := by
  obtain ⟨⟨w1, w2, w3⟩, w4, ⟨m1, m2, m3, m4, m5⟩, un, re, ⟨k1, k2, k3, k4, k5, k6⟩⟩ := hC
  have f1 : FrZ [] [18] σ (wV σ 246 18 0) := FrZ.wf (by decide)
  have v1 : ∀ k, k ≠ 18 → mV (wV σ 246 18 0) 246 k = mV σ 246 k := fun k h => wV_ne (Or.inr h)
  have al : (0 : Int) < E.2.2.2 := by omega
  have num : 0 ≤ s.2.2.2.2.2.1.2.2 := by
    have := hTI.2.2.2.2.1.2.1
    have : ((([] : List (List Int)).length : Nat) : Int) ≤ s.2.2.2.2.2.1.2.2 := this
    have e0 : ((([] : List (List Int)).length : Nat) : Int) = 0 := rfl
    omega
  have tlp : s.2.2.2.1.2.2.length = s.2.2.2.1.1.length := hTI.2.2.1.2.1
  have tkp : s.2.2.2.2.1.2.length = s.2.2.2.2.1.1.length := hTI.2.2.2.1.1
  have rxs : RxS (nw, (s.2.2.2.2.2.1.2.2).toNat, s.2.2.2.1.1.length, s.2.2.2.2.1.1.length, 0) g 0 0 30 true E [] (wV σ 246 18 0) (tx0 s) := by
    refine ⟨⟨(v1 _ (by decide)).trans w1, (v1 _ (by decide)).trans w2, (v1 _ (by decide)).trans w3, wV_self⟩, ⟨(v1 _ (by decide)).trans w4, fun i hi => absurd hi (Nat.not_lt_zero _)⟩, ⟨m1.z f1 (by simp) (by decide), fun _ => m2.z f1 (by simp), fun _ => m3.z f1 (by simp) (by decide), fun _ => ⟨(v1 _ (by decide)).trans m4, ?_, (v1 _ (by decide)).trans k1, fun i hi => absurd hi (Nat.not_lt_zero _)⟩, ⟨by rw [v1 _ (by decide), m5]; exact (Int.add_zero _).symm, rfl⟩, fun _ => ⟨[], (v1 _ (by decide)).trans k5, fun i hi => absurd hi (Nat.not_lt_zero _), ⟨rfl, rfl⟩, ⟨?_, ?_⟩, ⟨?_, ?_⟩, ?_, fun x hx => absurd hx List.not_mem_nil⟩⟩, ⟨(v1 _ (by decide)).trans k2, (v1 _ (by decide)).trans k3, (v1 _ (by decide)).trans k4, (v1 _ (by decide)).trans k6, un.z f1 (by simp) (by decide)⟩⟩
    · show s.2.2.2.2.2.1.2.2 = (((s.2.2.2.2.2.1.2.2).toNat + 0 : Nat) : Int)
      omega
    · show s.2.2.2.1.1.length ≤ s.2.2.2.1.2.2.length
      omega
    · show wtQ _ _ [] (s.2.2.2.1.2.2.drop s.2.2.2.1.1.length)
      rw [List.drop_of_length_le (by omega)]
      exact ⟨rfl, rfl⟩
    · show s.2.2.2.2.1.1.length ≤ s.2.2.2.2.1.2.length
      omega
    · show wtQ _ _ [] (s.2.2.2.2.1.2.drop s.2.2.2.2.1.1.length)
      rw [List.drop_of_length_le (by omega)]
      exact ⟨rfl, rfl⟩
    · show 0 = 0 + (s.2.2.2.1.2.2.length - s.2.2.2.1.1.length) + (s.2.2.2.2.1.2.length - s.2.2.2.2.1.1.length)
      omega
  have eq : wkD 30 E true [] T (tx0 s) = wkD 30 (eZ E) false [] T (tx0 s) := wkD_nq
  have fu0 : FrU g 0 0 nw σ (wV σ 246 18 0) := FrU.wf (by decide)
  refine is_r hE 30 240 x0 T true [] (-1) (nw, (s.2.2.2.2.2.1.2.2).toNat, s.2.2.2.1.1.length, s.2.2.2.2.1.1.length, 0) g 0 0 [] (tx0 s) (wV σ 246 18 0) _ t0 (by decide) (hT.cg (fun k => wV_ne (Or.inl (by decide)))) hTb (re.k f1 (by simp) (by decide)) (Or.inl ⟨rfl, rfl⟩) (fun w hw => absurd hw List.not_mem_nil) rxs hTI (by omega) (by decide) (fun h => absurd h (by decide)) ⟨fun s1 σ2 w9 rx1 f2 => ?_, fun e σ2 w9 q1 q2 f2 => ?_⟩
  · rw [eq] at w9
    have zm := zm_wk (E := eZ E) (show (0 : Int) < 1 by decide) s1 w9
    have fu : FrU g 0 0 nw σ σ2 := FrA.tr fu0 f2
    have rm := rx1.2.2.1
    have n0 : s1.2.2.2.2.2.1 = ([], [], s.2.2.2.2.2.1.2.2) := zm.2.2
    show (mV σ2 246 28 = 0 → N σ2) ∧ (¬ mV σ2 246 28 = 0 → F σ2)
    refine ⟨fun _ => hy s1 σ2 w9 ⟨⟨rx1.1.1, rx1.1.2.1, rx1.1.2.2.1⟩, rx1.2.1.1, ⟨rm.1, rm.2.1 al, rm.2.2.1 al, (rm.2.2.2.1 al).1, ?_⟩, rx1.2.2.2.2.2.2.2, (re.k f1 (by simp) (by decide)).u hE f2, ⟨?_, rx1.2.2.2.1, rx1.2.2.2.2.1, ?_, ?_, rx1.2.2.2.2.2.2.1⟩⟩ rx1.2.1.2 fu, fun h => absurd rx1.1.1 h⟩
    · have := rm.2.2.2.2.1.1
      rw [this]
      exact Int.add_zero _
    · rw [(rm.2.2.2.1 al).2.2.1, n0]
      rfl
    · have := rx1.2.2.2.2.2.1
      rw [this]
      rfl
    · obtain ⟨Wt, x1, x2, x3⟩ := rm.2.2.2.2.2 al
      have x4 : Wt.length = s1.2.2.2.2.2.1.2.1.length + (s1.2.2.2.1.2.2.length - s.2.2.2.1.1.length) + (s1.2.2.2.2.1.2.length - s.2.2.2.2.1.1.length) := x3.2.2.2.1
      rw [x1, x4, n0, show s1.2.2.2.1 = s.2.2.2.1 from zm.1, show s1.2.2.2.2.1 = s.2.2.2.2.1 from zm.2.1, tlp, tkp]
      show ((0 + (s.2.2.2.1.1.length - s.2.2.2.1.1.length) + (s.2.2.2.2.1.1.length - s.2.2.2.2.1.1.length) : Nat) : Int) = 0
      omega
  · rw [eq] at w9
    have fu : FrU g 0 0 nw σ σ2 := FrA.tr fu0 f2
    show (mV σ2 246 28 = 0 → N σ2) ∧ (¬ mV σ2 246 28 = 0 → F σ2)
    exact ⟨fun h => absurd (q1.1.symm.trans h) q1.2.1, fun _ => hn e σ2 w9 ⟨q1.1, q1.2.2.1, q1.2.2.2.1⟩ q2.2.2.2.2 fu⟩
end
