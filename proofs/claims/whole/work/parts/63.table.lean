/-! WHAT A TABLE OF INSTRUCTIONS MUST KEEP -/
def jOK (pc : Nat) (off : Int) (t : Nat) : Bool := decide (am_j pc off = some t)
def jsOK (pc : Nat) : List Int → List Nat → Bool
  | [], [] => true
  | o :: os, t :: ts => jOK pc o t && jsOK pc os ts
  | _, _ => false
def ofe (o : Option FS) (f : FS) : Bool := match o with
  | some g => feq g f
  | none => false
theorem ofe_ok {o : Option FS} {f : FS} (h : ofe o f = true) : o = some f := by
  unfold ofe at h
  split at h
  · rw [feq_ok h]
  · cases h
def gfO (ci k kd v z0 : Nat) : Bool := if ci = 12 then decide (z0 = 246) && (match kd with
    | 0 => decide (mOff k = none) && decide (k ≠ 159)
    | 1 => decide (mOff k = some (v - 247)) && decide (247 ≤ v)
    | 2 => decide (mOff k = none) && decide (k = 159)
    | _ => false) else decide (ci ≠ 5) && (match am_ob z0 with
    | some q => decide (q.1 = ci) && (match kd with
      | 0 => ofe q.2[k]? (.inr (.inl ()))
      | 1 => ofe q.2[k]? (.inl v)
      | 3 => ofe q.2[k]? (.inr (.inr v))
      | _ => false)
    | none => false)
def gf2 (own idx c k : Nat) : Bool := decide (am_fl own idx = some (c, k)) && (match c with
  | 5 => Nat.beq k 1
  | 8 => Nat.ble k 1
  | 2 => Nat.ble k 15
  | 3 => Nat.ble k 7
  | _ => false)
def gfOK (own idx : Nat) : List Nat → Bool
  | [c, k] => gf2 own idx c k
  | [ci, k, kd, v, z0] => decide (am_fl own idx = some (ci, k)) && gfO ci k kd v z0
  | _ => false
def fnB (ci k : Nat) (ty : FieldType) : Bool := decide ((tx ci k).2.2.2 = false) && decide (tyx ci k = ty)
def pf2 (own idx c k : Nat) : Bool := decide (am_fl own idx = some (c, k)) && (match c with
  | 2 => Nat.ble 12 k && Nat.ble k 15 && fnB 2 k .int
  | 3 => Nat.beq k 0 && fnB 3 0 .boolean
  | _ => false)
def pf5 (ci k kd v z0 : Nat) : Bool := match kd with
  | 0 => gfO ci k 0 0 z0 && fnB ci k .int
  | 4 => gfO ci k 0 0 z0 && fnB ci k .boolean
  | 2 => decide (ci = 12) && decide (k = 159) && decide (z0 = 246) && decide ((tx 12 159).2.2.2 = false)
  | 3 => decide (ci ≠ 12) && gfO ci k 3 v z0 && decide ((tx ci k).2.2.2 = false) && (match tyx ci k with
    | .object _ => true
    | _ => false)
  | _ => false
def pfOK (own idx : Nat) : List Nat → Bool
  | [c, k] => pf2 own idx c k
  | [ci, k, kd, v, z0] => decide (am_fl own idx = some (ci, k)) && pf5 ci k kd v z0
  | _ => false
def ivOK (own idx : Nat) : List Nat → Bool
  | [k] => decide (am_ml own idx = none) && decide (am_tf (slT own) idx = some k)
  | [ν, nA, L, _, _, ci, z0] => decide (am_ml own idx = some ν) && decide (mK ν = 0 ∨ mK ν = 2) && decide (mA ν = nA) && Nat.ble L (mL ν) && (match ci with
    | 5 => decide (mO ν = 5)
    | 8 => decide (mO ν = 8)
    | 2 => decide (mO ν = 2)
    | 3 => decide (mO ν = 3)
    | _ => decide (am_cls z0 = some (mO ν)))
  | _ => false
def isOK (own idx : Nat) : List Nat → Bool
  | [_, _] => decide ((mmT own).find? (fun q => q.1 == idx) = none) && decide (am_ml own idx = none) && decide (am_mn own idx = none) && decide (am_tf (fmT own) idx = some 0)
  | [k] => decide ((mmT own).find? (fun q => q.1 == idx) = some (idx, k))
  | [ν, nA, L, _, _] => decide ((mmT own).find? (fun q => q.1 == idx) = none) && ((decide (am_ml own idx = some ν) && decide (mK ν = 1 ∨ mK ν = 3)) || (decide (am_ml own idx = none) && decide (am_mn own idx = some ν) && decide (mK ν = 1))) && decide (mA ν = nA) && Nat.ble L (mL ν)
  | _ => false
def tok (μ nL own pc : Nat) (ins : Jvm.ClassFile.Instr) (ln : Nat) (ex : List Nat) : Bool := match ins with
  | .iconst i => Nat.beq ln 1 && decide (-1 ≤ i) && decide (i ≤ 5)
  | .bipush i => Nat.beq ln 2 && decide (-128 ≤ i) && decide (i ≤ 127)
  | .sipush i => Nat.beq ln 3 && decide (-32768 ≤ i) && decide (i ≤ 32767)
  | .ldc idx => Nat.beq ln 2 && (match ex with
    | [v] => decide (am_k (ckT own) idx = some (nI v)) && decide (v ≤ 2147483647)
    | [_, j] => decide (am_k (ckT own) idx = none) && decide (am_tf (srT own) idx = some j)
    | _ => false)
  | .ldc_w idx => Nat.beq ln 3 && (match ex with
    | [v] => decide (am_k (ckT own) idx = some (nI v)) && decide (v ≤ 2147483647)
    | [_, j] => decide (am_k (ckT own) idx = none) && decide (am_tf (srT own) idx = some j)
    | _ => false)
  | .ldc2_w idx => Nat.beq ln 3 && (match ex with
    | [v] => decide (am_kl (clT own) idx = some (Int64.ofNat v))
    | _ => false)
  | .iload _ => Nat.beq ln 2
  | .lload _ => Nat.beq ln 2
  | .aload _ => Nat.beq ln 2
  | .istore i => Nat.beq ln 2 && decide (i < nL)
  | .lstore i => Nat.beq ln 2 && decide (i + 1 < nL)
  | .astore i => Nat.beq ln 2 && decide (i < nL)
  | .istore_n i => Nat.beq ln 1 && decide ((i : Nat) < nL)
  | .lstore_n i => Nat.beq ln 1 && decide ((i : Nat) + 1 < nL)
  | .astore_n i => Nat.beq ln 1 && decide ((i : Nat) < nL)
  | .iinc i _ => Nat.beq ln 3 && decide (i < nL)
  | .goto o => Nat.beq ln 3 && (match ex with
    | [t] => jOK pc o t
    | _ => false)
  | .ifCond _ o => Nat.beq ln 3 && (match ex with
    | [t] => jOK pc o t
    | _ => false)
  | .if_icmp _ o => Nat.beq ln 3 && (match ex with
    | [t] => jOK pc o t
    | _ => false)
  | .tableswitch d low high offs => (match ex with
    | t :: ts => jOK pc d t && jsOK pc offs.toList ts && decide (high - low + 1 = ts.length)
    | _ => false)
  | .getstatic idx => Nat.beq ln 3 && (match ex with
    | [j] => decide (am_tf (gsT own) idx = some j)
    | _ => false)
  | .getfield idx => Nat.beq ln 3 && gfOK own idx ex
  | .putfield idx => Nat.beq ln 3 && pfOK own idx ex
  | .invokestatic idx => Nat.beq ln 3 && isOK own idx ex
  | .invokevirtual idx => Nat.beq ln 3 && ivOK own idx ex
  | .new idx => Nat.beq ln 3 && (match ex with
    | [c] => decide (am_T μ (.new idx) pc 3 [] = some (exN c))
    | _ => false)
  | _ => Nat.beq ln 1
/-! the fields -/
theorem ob_get {σ : SS} {ci z k : Nat} {fs : List FS} {f : FS} {v : Value} (h5 : ci ≠ 5) (h12 : ci ≠ 12) (ho : am_ob z = some (ci, fs)) (hf : fs[k]? = some f) (hv : fvO σ z k f = some v) : am_get σ ci z k = some v := by rw [gt_ob h5 h12 ho hf]; exact hv
theorem mk_get (z : Nat) : ∀ j, j < 16 → (mkFS z)[j]? = some (if j ≤ 11 then .inl (z + mkOff j) else .inr (.inl ()))
  | 0, _ => rfl
  | 1, _ => rfl
  | 2, _ => rfl
  | 3, _ => rfl
  | 4, _ => rfl
  | 5, _ => rfl
  | 6, _ => rfl
  | 7, _ => rfl
  | 8, _ => rfl
  | 9, _ => rfl
  | 10, _ => rfl
  | 11, _ => rfl
  | 12, _ => rfl
  | 13, _ => rfl
  | 14, _ => rfl
  | 15, _ => rfl
  | n + 16, h => absurd h (by omega)
theorem pf_get (z : Nat) : ∀ j, j < 7 → (pfFS z)[j + 1]? = some (.inl (z + pfOff (j + 1)))
  | 0, _ => rfl
  | 1, _ => rfl
  | 2, _ => rfl
  | 3, _ => rfl
  | 4, _ => rfl
  | 5, _ => rfl
  | 6, _ => rfl
  | n + 7, h => absurd h (by omega)
section
variable {σ : MS} {own idx z ci k v : Nat} {ex : List Nat}
theorem gO0 (h : gfO ci k 0 v z = true) (ρ : MR9) (c : Nat → Nat) : am_get (cv ρ c σ) ci z k = some (.int (iI (mV σ z k))) := by
  unfold gfO at h
  by_cases h12 : ci = 12
  · subst h12
    rw [if_pos rfl] at h
    simp only [Bool.and_eq_true, decide_eq_true_eq] at h
    obtain ⟨rfl, h1, h2⟩ := h
    exact gt_mint h1 h2
  · rw [if_neg h12] at h
    simp only [Bool.and_eq_true, decide_eq_true_eq] at h
    obtain ⟨h5, h⟩ := h
    split at h
    · rename_i q hq
      simp only [Bool.and_eq_true, decide_eq_true_eq] at h
      obtain ⟨rfl, h⟩ := h
      exact ob_get h5 h12 hq (ofe_ok h) rfl
    · cases h
theorem gO1 (h : gfO ci k 1 v z = true) (ρ : MR9) (c : Nat → Nat) : am_get (cv ρ c σ) ci z k = some (.ref v) := by
  unfold gfO at h
  by_cases h12 : ci = 12
  · subst h12
    rw [if_pos rfl] at h
    simp only [Bool.and_eq_true, decide_eq_true_eq] at h
    obtain ⟨rfl, h1, h2⟩ := h
    rw [gt_mref h1, show 247 + (v - 247) = v by omega]
  · rw [if_neg h12] at h
    simp only [Bool.and_eq_true, decide_eq_true_eq] at h
    obtain ⟨h5, h⟩ := h
    split at h
    · rename_i q hq
      simp only [Bool.and_eq_true, decide_eq_true_eq] at h
      obtain ⟨rfl, h⟩ := h
      exact ob_get h5 h12 hq (ofe_ok h) rfl
    · cases h
theorem gO2 (h : gfO ci k 2 v z = true) (ρ : MR9) (c : Nat → Nat) : am_get (cv ρ c σ) ci z k = some (.long (iJ (mW σ))) := by
  unfold gfO at h
  by_cases h12 : ci = 12
  · subst h12
    rw [if_pos rfl] at h
    simp only [Bool.and_eq_true, decide_eq_true_eq] at h
    obtain ⟨rfl, h1, rfl⟩ := h
    unfold am_get
    rw [if_neg (by decide), if_pos rfl, if_pos rfl, h1]
    rfl
  · rw [if_neg h12] at h
    simp only [Bool.and_eq_true, decide_eq_true_eq] at h
    obtain ⟨h5, h⟩ := h
    split at h
    · simp at h
    · cases h
theorem gO3 (h : gfO ci k 3 v z = true) (ρ : MR9) (c : Nat → Nat) : am_get (cv ρ c σ) ci z k = some (.ref (mB σ v)) := by
  unfold gfO at h
  by_cases h12 : ci = 12
  · subst h12
    rw [if_pos rfl] at h
    simp at h
  · rw [if_neg h12] at h
    simp only [Bool.and_eq_true, decide_eq_true_eq] at h
    obtain ⟨h5, h⟩ := h
    split at h
    · rename_i q hq
      simp only [Bool.and_eq_true, decide_eq_true_eq] at h
      obtain ⟨rfl, h⟩ := h
      exact ob_get h5 h12 hq (ofe_ok h) rfl
    · cases h
theorem gf2_ok {kk : MV → Prop} {c j : Nat} (w : WF σ) (h : gf2 own idx c j = true) (hs : sgf2 σ z kk c j) : ∃ v q, am_fl own idx = some q ∧ (∀ ρ c, am_get (cv ρ c σ) q.1 z q.2 = some (cvV v)) ∧ okM v ∧ kk v := by
  unfold gf2 at h
  rw [Bool.and_eq_true] at h
  obtain ⟨hf, hc⟩ := h
  have hf := of_decide_eq_true hf
  unfold sgf2 at hs
  split at hs
  · obtain ⟨h1, h2⟩ := hs.e
    have hj : j = 1 := Nat.eq_of_beq_eq_true hc
    subst hj
    refine ⟨vw (mX σ z).length, (5, 1), hf, fun ρ c => ?_, show Rg ((mX σ z).length : Int) from Rg.n (by have := w.2.2.1 z; omega), h2⟩
    rw [gt_row (isRow_ok h1)]
    show some (Value.int (nI ((mX σ z).map iI).length)) = some (.int (iI ((mX σ z).length : Int)))
    rw [List.length_map, iI_nat]
  · obtain ⟨h1, h2⟩ := hs.e
    have hj : j ≤ 1 := Nat.le_of_ble_eq_true hc
    split at h2
    · exact ⟨vr (z + 1), (8, 0), hf, fun ρ c => ob_get (show (8 : Nat) ≠ 5 by decide) (show (8 : Nat) ≠ 12 by decide) (isShelf_ok h1) rfl rfl, trivial, h2⟩
    · rename_i hj0
      have hj1 : j = 1 := by have : j ≠ 0 := hj0; omega
      subst hj1
      exact ⟨vr (z + 3), (8, 1), hf, fun ρ c => ob_get (show (8 : Nat) ≠ 5 by decide) (show (8 : Nat) ≠ 12 by decide) (isShelf_ok h1) rfl rfl, trivial, h2⟩
  · obtain ⟨h1, h2⟩ := hs.e
    have hj : j ≤ 15 := Nat.le_of_ble_eq_true hc
    have hg := mk_get z j (by omega)
    split at h2
    · rename_i hb
      have hb := Nat.le_of_ble_eq_true hb
      rw [if_pos hb] at hg
      exact ⟨vr (z + mkOff j), (2, j), hf, fun ρ c => ob_get (show (2 : Nat) ≠ 5 by decide) (show (2 : Nat) ≠ 12 by decide) (isMarks_ok h1) hg rfl, trivial, h2⟩
    · rename_i hb
      have hb : ¬ j ≤ 11 := fun e => by rw [Nat.ble_eq_true_of_le e] at hb; cases hb
      rw [if_neg hb] at hg
      exact ⟨vw (mV σ z j), (2, j), hf, fun ρ c => ob_get (show (2 : Nat) ≠ 5 by decide) (show (2 : Nat) ≠ 12 by decide) (isMarks_ok h1) hg rfl, w.2.1 z j, h2⟩
  · obtain ⟨h1, h2⟩ := hs.e
    have hj : j ≤ 7 := Nat.le_of_ble_eq_true hc
    split at h2
    · exact ⟨vw (mV σ z 0), (3, 0), hf, fun ρ c => ob_get (show (3 : Nat) ≠ 5 by decide) (show (3 : Nat) ≠ 12 by decide) (isProof_ok h1) rfl rfl, w.2.1 z 0, h2⟩
    · rename_i hj0
      obtain ⟨i, rfl⟩ : ∃ i, j = i + 1 := ⟨j - 1, by have : j ≠ 0 := hj0; omega⟩
      exact ⟨vr (z + pfOff (i + 1)), (3, i + 1), hf, fun ρ c => ob_get (show (3 : Nat) ≠ 5 by decide) (show (3 : Nat) ≠ 12 by decide) (isProof_ok h1) (pf_get z i (by omega)) rfl, trivial, h2⟩
  · exact hs.elim
theorem gf_ok {kk : MV → Prop} (w : WF σ) (h : gfOK own idx ex = true) (hs : sgf σ z kk ex) : ∃ v q, am_fl own idx = some q ∧ (∀ ρ c, am_get (cv ρ c σ) q.1 z q.2 = some (cvV v)) ∧ okM v ∧ kk v := by
  unfold sgf at hs
  split at hs
  · exact gf2_ok w h hs
  · rename_i ci j kd v z0
    obtain ⟨h1, h2⟩ := hs.e
    have h1 := Nat.eq_of_beq_eq_true h1
    subst h1
    have h : (decide (am_fl own idx = some (ci, j)) && gfO ci j kd v z) = true := h
    rw [Bool.and_eq_true] at h
    have hf := of_decide_eq_true h.1
    unfold sgf5 at h2
    split at h2
    · exact ⟨vw (mV σ z j), (ci, j), hf, gO0 h.2, w.2.1 z j, h2⟩
    · exact ⟨vr v, (ci, j), hf, gO1 h.2, trivial, h2⟩
    · exact ⟨vl (mW σ), (ci, j), hf, gO2 h.2, trivial, h2⟩
    · exact ⟨vr (mB σ v), (ci, j), hf, gO3 h.2, trivial, h2⟩
    · exact h2.elim
  · exact hs.elim
theorem pt_0 {x : Int} (hf : (tx ci k).2.2.2 = false) (h : gfO ci k 0 0 z = true) (hx : narrow (tyx ci k) (.int (iI x)) = .int (iI x) ∧ fits (tyx ci k) (.int (iI x)) = true) (ρ : MR9) (c : Nat → Nat) : am_put (cv ρ c σ) ci z k (.int (iI x)) = some (cv ρ c (wV σ z k x)) := by
  unfold gfO at h
  by_cases h12 : ci = 12
  · subst h12
    rw [if_pos rfl] at h
    simp only [Bool.and_eq_true, decide_eq_true_eq] at h
    obtain ⟨rfl, h1, h2⟩ := h
    rw [pt_mint hf h1 h2 hx, cv_V]
  · rw [if_neg h12] at h
    simp only [Bool.and_eq_true, decide_eq_true_eq] at h
    obtain ⟨h5, h⟩ := h
    split at h
    · rename_i q hq
      simp only [Bool.and_eq_true, decide_eq_true_eq] at h
      obtain ⟨rfl, h⟩ := h
      rw [pt_ob hf h12 hq (ofe_ok h) hx, cv_V]
    · cases h
theorem fn_ok {ty : FieldType} (h : fnB ci k ty = true) : (tx ci k).2.2.2 = false ∧ tyx ci k = ty := by
  unfold fnB at h
  rw [Bool.and_eq_true] at h
  exact ⟨of_decide_eq_true h.1, of_decide_eq_true h.2⟩
theorem i01 {x : Int} (h : x = 0 ∨ x = 1) : iI x = 0 ∨ iI x = 1 := by
  rcases h with rfl | rfl
  · exact Or.inl rfl
  · exact Or.inr rfl
theorem r01 {x : Int} (h : x = 0 ∨ x = 1) : Rg x := by unfold Rg; omega
theorem pf_ok {kk : MS → Prop} {u : MV} (w : WF σ) (hu : okM u) (h : pfOK own idx ex = true) (hs : spf σ kk u z ex) : ∃ σ2 q, am_fl own idx = some q ∧ (∀ ρ c, am_put (cv ρ c σ) q.1 z q.2 (cvV u) = some (cv ρ c σ2)) ∧ WF σ2 ∧ kk σ2 := by
  unfold spf at hs
  split at hs
  · rename_i c j
    have h : pf2 own idx c j = true := h
    unfold pf2 at h
    rw [Bool.and_eq_true] at h
    obtain ⟨hf, h⟩ := h
    have hf := of_decide_eq_true hf
    split at hs
    · rename_i x
      rw [cvV_i]
      unfold spf2 at hs
      split at hs
      · obtain ⟨h1, hs⟩ := hs.e
        obtain ⟨r, hs⟩ := gd.e hs hu
        have h : (Nat.ble 12 j && Nat.ble j 15 && fnB 2 j .int) = true := h
        rw [Bool.and_eq_true, Bool.and_eq_true] at h
        obtain ⟨⟨e1, e2⟩, e3⟩ := h
        obtain ⟨e3, e4⟩ := fn_ok e3
        have e1 := Nat.le_of_ble_eq_true e1
        have e2 := Nat.le_of_ble_eq_true e2
        have hg := mk_get z j (by omega)
        rw [if_neg (by omega)] at hg
        refine ⟨wV σ z j (uv x), (2, j), hf, fun ρ c => ?_, w.setV r, hs⟩
        rw [pt_ob e3 (show (2 : Nat) ≠ 12 by decide) (isMarks_ok h1) hg (by rw [e4]; exact nf_int), cv_V]
      · obtain ⟨h1, hs⟩ := hs.e
        obtain ⟨r, hs⟩ := hs.e
        have h : (Nat.beq j 0 && fnB 3 0 .boolean) = true := h
        rw [Bool.and_eq_true] at h
        obtain ⟨e1, e3⟩ := h
        obtain ⟨e3, e4⟩ := fn_ok e3
        have e1 : j = 0 := Nat.eq_of_beq_eq_true e1
        subst e1
        refine ⟨wV σ z 0 (uv x), (3, 0), hf, fun ρ c => ?_, w.setV (r01 r), hs⟩
        rw [pt_ob e3 (show (3 : Nat) ≠ 12 by decide) (isProof_ok h1) rfl (by rw [e4]; exact nf_bool (i01 r)), cv_V]
      · exact hs.elim
    · exact hs.elim
  · rename_i ci j kd v z0
    obtain ⟨h1, h2⟩ := hs.e
    have h1 := Nat.eq_of_beq_eq_true h1
    subst h1
    have h : (decide (am_fl own idx = some (ci, j)) && pf5 ci j kd v z) = true := h
    rw [Bool.and_eq_true] at h
    obtain ⟨hf, h⟩ := h
    have hf := of_decide_eq_true hf
    unfold pf5 at h
    unfold spf5 at h2
    split at h2
    · rename_i x _
      have h : (gfO ci j 0 0 z && fnB ci j .int) = true := h
      rw [Bool.and_eq_true] at h
      obtain ⟨e1, e2⟩ := h
      obtain ⟨e3, e4⟩ := fn_ok e2
      obtain ⟨r, h2⟩ := gd.e h2 hu
      rw [cvV_i]
      exact ⟨wV σ z j (uv x), (ci, j), hf, pt_0 e3 e1 (by rw [e4]; exact nf_int), w.setV r, h2⟩
    · rename_i x _
      have h : (gfO ci j 0 0 z && fnB ci j .boolean) = true := h
      rw [Bool.and_eq_true] at h
      obtain ⟨e1, e2⟩ := h
      obtain ⟨e3, e4⟩ := fn_ok e2
      obtain ⟨r, h2⟩ := h2.e
      rw [cvV_i]
      exact ⟨wV σ z j (uv x), (ci, j), hf, pt_0 e3 e1 (by rw [e4]; exact nf_bool (i01 r)), w.setV (r01 r), h2⟩
    · rename_i x _
      have h : (decide (ci = 12) && decide (j = 159) && decide (z = 246) && decide ((tx 12 159).2.2.2 = false)) = true := h
      simp only [Bool.and_eq_true, decide_eq_true_eq] at h
      obtain ⟨⟨⟨rfl, rfl⟩, rfl⟩, e⟩ := h
      refine ⟨wU σ x, (12, 159), hf, fun ρ c => ?_, w.setW h2.1, h2.2⟩
      show am_put (cv ρ c σ) 12 246 159 (.long (iJ x)) = _
      unfold am_put
      rw [if_pos e]
      dsimp only
      rw [if_pos ⟨rfl, rfl, rfl⟩]
      rfl
    · rename_i r _
      have h : (decide (ci ≠ 12) && gfO ci j 3 v z && decide ((tx ci j).2.2.2 = false) && (match tyx ci j with
        | .object _ => true
        | _ => false)) = true := h
      simp only [Bool.and_eq_true, decide_eq_true_eq] at h
      obtain ⟨⟨⟨e1, e2⟩, e3⟩, e4⟩ := h
      refine ⟨wB σ v r, (ci, j), hf, fun ρ c => ?_, w.setB h2.1, h2.2⟩
      unfold gfO at e2
      rw [if_neg e1] at e2
      simp only [Bool.and_eq_true, decide_eq_true_eq] at e2
      obtain ⟨e5, e2⟩ := e2
      split at e2
      · rename_i q hq
        simp only [Bool.and_eq_true, decide_eq_true_eq] at e2
        obtain ⟨rfl, e2⟩ := e2
        have e2 := ofe_ok e2
        show am_put (cv ρ c σ) q.1 z j (.ref r) = _
        unfold am_put
        rw [if_pos e3]
        dsimp only
        rw [hq]
        dsimp only
        rw [if_pos ⟨rfl, h2.1⟩, e2]
        split at e4
        · rename_i s hs
          rw [hs]
          rfl
        · cases e4
      · cases e2
    · exact h2.elim
  · exact hs.elim
/-! the arrays -/
theorem arB_ok {K N : Nat} (h : arB z K N = true) : am_ar z = some (K, N) := by
  unfold arB at h
  split at h
  · rename_i q hq
    rw [Bool.and_eq_true] at h
    have h1 : q.1 = K := Nat.eq_of_beq_eq_true h.1
    have h2 : q.2 = N := Nat.eq_of_beq_eq_true h.2
    subst h1 h2
    exact hq
  · cases h
theorem xArrs_le : ∀ q ∈ xArrs, q.2 ≤ 140000 := by decide +kernel
theorem arrL_le : ∀ j, j < 104 → arrL j ≤ 140000 := by decide +kernel
theorem ar_le {K N : Nat} (h : am_ar z = some (K, N)) : N ≤ 140000 := by
  rcases am_ar_inv h with ⟨h1, -⟩ | ⟨j, hj, -, -, rfl⟩
  · exact xArrs_le _ h1
  · exact arrL_le j hj
theorem ar_in {K N : Nat} {x : Int} (h : am_ar z = some (K, N)) (h1 : 0 ≤ x) (h2 : x < (N : Nat)) : am_in (iI x) N = true ∧ (iI x).toNatClampNeg = x.toNat := by
  have hN := ar_le h
  obtain ⟨n, rfl⟩ := Int.eq_ofNat_of_zero_le h1
  rw [iI_nat]
  exact ⟨am_in_nI (by omega) (by omega), by rw [nI_clamp (by omega)]; rfl⟩
end
