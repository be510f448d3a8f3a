/-! test only -/
def PairU (νx νm : Nat) (E E2 : String) (ax : List Value) (σ : SS) (K : KK) : Prop :=
  Ev 998 νx 0 (lv_args 0 (.ref 0 :: ax)) [] σ (fun o σ1 k s => sN σ1 = sN σ ∧ sS σ1 = sS σ ∧
    ((∃ v, o = .inl (some v) ∧ Ev 999 νm 0 (lv_args 0 (.ref 246 :: ax)) [] (outp σ1 v) (fun o2 σ2 k2 s2 => o2 = .inl (some v) ∧ sI σ2 246 0 = 0 ∧ sO σ2 0 = v.toInt64 ∧ K σ2 (k + k2) (s + s2))) ∨
     (o = .inr E ∧ Ev 999 νm 0 (lv_args 0 (.ref 246 :: ax)) [] σ1 (fun o2 σ2 k2 s2 => (∃ b, o2 = .inl (some b)) ∧ sI σ2 246 0 = 1 ∧ K σ2 (k + k2) (s + s2))) ∨
     (o = .inr E2 ∧ Ev 999 νm 0 (lv_args 0 (.ref 246 :: ax)) [] σ1 (fun o2 σ2 k2 s2 => (∃ b, o2 = .inl (some b)) ∧ sI σ2 246 0 = 2 ∧ K σ2 (k + k2) (s + s2)))))
