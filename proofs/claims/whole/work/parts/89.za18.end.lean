/-! EVERY SCRIPT: from the start, call by call -/
section
variable {σ : MS} {ρ : MR9} {c : Nat → Nat} {w : Nat → Int32}
theorem call_20 (h : Inv9 σ) (wf : WF σ) (ck : CK c) : Pair 166 333 [.int (w 1)] (cv ρ c σ) (KQ ρ.2.1 ρ.2.2 c) :=
  pair9 (D := 7) (D' := 10) (a := 0) (agr_P (T := T_count (w 1).toInt) (R := R_count (w 1).toInt) (fun _ h => h) (fun _ h => h) h (count_b (Rg.of _) h)) (by decide) (by decide) (by decide) wf ck lo_a lo_a ar_a ar_a
end
/-- the start -/
def ms0 : MS := (fun _ => [], fun z k => (I0 z k).toInt, nb0, 0)
theorem ms0_c {L : Nat} {scr : Nat → Int32} : cv (fun _ => 0, L, scr) c16 ms0 = σ0 L scr := by
  unfold cv σ0 ms0
  refine Prod.ext ?_ (Prod.ext ?_ (Prod.ext rfl (Prod.ext rfl (Prod.ext ?_ rfl))))
  · funext z k
    exact iI_to _
  · funext q
    rfl
  · show iJ 0 = 0
    rfl
theorem ms0_z {z k : Nat} (h : z < 246) (h1 : z ≠ 24) (h2 : z ≠ 111) : mV ms0 z k = 0 := by
  show (I0 z k).toInt = 0
  unfold I0
  rw [if_pos h, if_neg h1]
  unfold v0X
  rw [if_neg (fun h => h2 h.1)]
  rfl
theorem ms0_f {k : Nat} (h : k ∉ [50, 52, 53, 54, 130, 131]) : mV ms0 246 k = 0 := by
  simp only [List.mem_cons, List.not_mem_nil, or_false, not_or] at h
  show (I0 246 k).toInt = 0
  have e : I0 246 k = vM1 k := rfl
  rw [e]
  unfold vM1
  rw [va_up_ne _ _ (by omega), va_up_ne _ _ (by omega), va_up_ne _ _ (by omega), va_up_ne _ _ (by omega), va_up_ne _ _ (by omega), va_up_ne _ _ (by omega)]
  rfl
theorem ms0_a {z k : Nat} (h : 246 < z) (h1 : z ≠ 275) : mV ms0 z k = 0 := by
  show (I0 z k).toInt = 0
  unfold I0
  rw [if_neg (by omega), if_neg (by omega)]
  unfold aM1
  rw [va_up_ne _ _ (by omega)]
  rfl
theorem ms0_i : Inv9 ms0 := by
  have r0 : RuI ru0 := (rd0_i (w := (0, 0)) (by decide) (by decide)).2.1
  have b0 := bf0_i (f := 0) (s := 0) (by decide)
  have noI : ∀ {p : Int → Prop}, ∀ x ∈ ([] : List Int), p x := fun x hx => absurd hx List.not_mem_nil
  have hy0 := r0.hb
  have h24 : mV ms0 24 4 = 2 ∧ mV ms0 24 5 = 2 := by decide
  have h275 : mV ms0 275 4 = 2 ∧ mV ms0 275 5 = 2 := by decide
  refine ⟨(([], [], []), ([], [], [], 0, 0), [], 0), 49, 0, ⟨⟨ms0_f (by decide), fun i hi => absurd hi (Nat.not_lt_zero _), Nat.zero_le _, noI⟩, ⟨ms0_f (by decide), fun i hi => absurd hi (Nat.not_lt_zero _), Nat.zero_le _, noI⟩, ⟨0, 0, by decide, by decide, ms0_z (by decide) (by decide) (by decide), ms0_z (by decide) (by decide) (by decide), ms0_f (by decide), fun k hk => absurd hk (Nat.not_lt_zero _)⟩, (ms0_z (by decide) (by decide) (by decide)).trans (ms0_f (by decide)).symm, Int.le_of_eq (ms0_z (by decide) (by decide) (by decide)).symm, by rw [ms0_z (by decide) (by decide) (by decide)]; decide⟩, ⟨⟨⟨r0.2.1, b0.1, ⟨Nat.zero_le _, noI⟩, (by decide : (0 : Int) ≤ 0 ∧ (0 : Int) ≤ 2)⟩, rfl, Or.inl rfl, rfl, ⟨⟨rfl, rfl⟩, rfl, [], ⟨rfl, rfl⟩, by decide, by decide, rfl, fun m hm => absurd hm (Nat.not_lt_zero _)⟩, ⟨⟨rfl, rfl⟩, ⟨rfl, rfl⟩, rfl, ms0_z (by decide) (by decide) (by decide), ms0_z (by decide) (by decide) (by decide)⟩, Int.le_of_eq (ms0_z (by decide) (by decide) (by decide)).symm, ?_⟩, ⟨by decide, ms0_f (by decide), ⟨⟨ms0_f (by decide), Nat.zero_le _, fun m hm => absurd hm (Nat.not_lt_zero _)⟩, fun w hw => absurd hw List.not_mem_nil, fun m hm => absurd hm (Nat.not_lt_zero _)⟩, fun h => absurd (ms0_f (by decide)) h, fun _ => rfl, fun h => absurd h (Nat.lt_irrefl _), ?_⟩⟩, ⟨rfl, fun y h => ?_⟩, ⟨ms0_f (by decide), Nat.zero_le _, fun i hi => absurd hi (Nat.not_lt_zero _)⟩, Or.inl ⟨ms0_z (by decide) (by decide) (by decide), ms0_f (by decide)⟩, Or.inl ⟨ms0_z (by decide) (by decide) (by decide), ms0_f (by decide)⟩, ⟨[], [], 2, 2, hy0, ⟨⟨rfl, rfl⟩, ⟨rfl, rfl⟩, h24.1, h24.2⟩, ⟨⟨ms0_f (by decide), fun p hp => absurd hp (Nat.not_lt_zero _)⟩, ⟨ms0_f (by decide), fun p hp => absurd hp (Nat.not_lt_zero _)⟩, h275.1, h275.2⟩⟩, fun h => ?_, ⟨ms0_a (by decide) (by decide), (ms0_z (by decide) (by decide) (by decide)).trans (ms0_f (by decide)).symm⟩⟩
  · rw [ms0_z (z := 49) (by decide) (by decide) (by decide), ms0_z (z := 22) (by decide) (by decide) (by decide)]
    exact Int.le_refl _
  · unfold UnB
    rw [ms0_f (k := 85) (by decide), ms0_f (k := 33) (by decide)]
    decide
  · rw [ms0_z (z := y) (by omega) (by omega) (by omega)]
    decide
  · rw [ms0_z (z := 212) (by decide) (by decide) (by decide)] at h
    exact absurd h (by decide)
theorem ms0_w : WF ms0 := ⟨fun q x hx => absurd hx List.not_mem_nil, fun z k => Rg.of _, fun q => Nat.zero_le _, fun j => by
  show nb0 j = 49 ∨ nb0 j = 163
  unfold nb0
  split
  · exact Or.inr rfl
  · exact Or.inl rfl, (by decide : Rl 0)⟩
theorem c16_k : CK c16 := fun q hq => ⟨0, Nat.zero_le _, rfl⟩
theorem cap_sum : (xRows.map capOf).sum = 1755264 := by decide +kernel
theorem sum_mo {f g : Nat → Nat} : ∀ {l : List Nat}, (∀ q ∈ l, f q ≤ g q) → (l.map f).sum ≤ (l.map g).sum
  | [], _ => Nat.le_refl _
  | a :: l, h => by
    have ih := sum_mo (l := l) (fun q hq => h q (List.mem_cons_of_mem _ hq))
    have ha := h a List.mem_cons_self
    rw [List.map_cons, List.map_cons, List.sum_cons, List.sum_cons]
    omega
theorem Ph_b {c : Nat → Nat} (h : CK c) : Ph c ≤ 1755264 := by
  rw [← cap_sum]
  refine sum_mo (fun q hq => ?_)
  obtain ⟨j, hj, e⟩ := h q hq
  have : 2 ^ j ≤ 2 ^ capE q := Nat.pow_le_pow_right (by decide) hj
  unfold capOf
  omega
/-- what holds ahead of the n-th call -/
def LwI (L : Nat) (scr : Nat → Int32) (n : Nat) (s : SS) (ka sa : Nat) : Prop := ∃ (o1 : Nat → Int64) (c : Nat → Nat) (σ : MS), s = cv (o1, L, scr) c σ ∧ Inv9 σ ∧ WF σ ∧ CK c ∧ 16 * ka ≤ Ph c + 16 * n ∧ sa ≤ 2 * Ph c + 6 * n
theorem LwI.k {L : Nat} {scr : Nat → Int32} {n ka sa : Nat} {c : Nat → Nat} (h1 : 16 * ka ≤ Ph c + 16 * n) (h2 : sa ≤ 2 * Ph c + 6 * n) {s : SS} {k m : Nat} (h : KQ L scr c s k m) : LwI L scr (n + 1) s (ka + k) (sa + m) := by
  obtain ⟨o1, c2, σ2, e, hI, hw, ck, k1, n1⟩ := h
  exact ⟨o1, c2, σ2, e, hI, hw, ck, by omega, by omega⟩
theorem Pair.mono {μ ν : Nat} {ax : List Value} {s : SS} {K K' : KK} (h : Pair μ ν ax s K) (hk : ∀ s k n, K s k n → K' s k n) : Pair μ ν ax s K' := Ev.mono h (fun o s k n hh => by
  obtain ⟨v, h1, h2, h3, h4⟩ := hh
  exact ⟨v, h1, h2, h3, Ev.mono h4 (fun o s k n hh => ⟨hh.1, hk _ _ _ hh.2⟩)⟩)
theorem PairT.mono {μ ν : Nat} {E : String} {ax : List Value} {s : SS} {K K' : KK} (h : PairT μ ν E ax s K) (hk : ∀ s k n, K s k n → K' s k n) : PairT μ ν E ax s K' := Ev.mono h (fun o s k n hh => by
  obtain ⟨h1, h2, h3⟩ := hh
  refine ⟨h1, h2, ?_⟩
  rcases h3 with ⟨v, e, h⟩ | ⟨e, h⟩
  · exact Or.inl ⟨v, e, Ev.mono h (fun o s k n hh => ⟨hh.1, hh.2.1, hh.2.2.1, hk _ _ _ hh.2.2.2⟩)⟩
  · exact Or.inr ⟨e, Ev.mono h (fun o s k n hh => ⟨hh.1, hh.2.1, hk _ _ _ hh.2.2⟩)⟩)
theorem PairU.mono {μ ν : Nat} {E E2 : String} {ax : List Value} {s : SS} {K K' : KK} (h : PairU μ ν E E2 ax s K) (hk : ∀ s k n, K s k n → K' s k n) : PairU μ ν E E2 ax s K' := Ev.mono h (fun o s k n hh => by
  obtain ⟨h1, h2, h3⟩ := hh
  refine ⟨h1, h2, ?_⟩
  rcases h3 with ⟨v, e, h⟩ | ⟨e, h⟩ | ⟨e, h⟩
  · exact Or.inl ⟨v, e, Ev.mono h (fun o s k n hh => ⟨hh.1, hh.2.1, hh.2.2.1, hk _ _ _ hh.2.2.2⟩)⟩
  · exact Or.inr (Or.inl ⟨e, Ev.mono h (fun o s k n hh => ⟨hh.1, hh.2.1, hk _ _ _ hh.2.2⟩)⟩)
  · exact Or.inr (Or.inr ⟨e, Ev.mono h (fun o s k n hh => ⟨hh.1, hh.2.1, hk _ _ _ hh.2.2⟩)⟩))
