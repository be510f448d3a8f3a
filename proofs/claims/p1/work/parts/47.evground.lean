/-! A RUN THAT IS COMPUTED -/
theorem lva_lt : ∀ (av : List Value) (i : Nat), ∀ q ∈ lv_args i av, i ≤ q.1
  | [], _, _, h => absurd h List.not_mem_nil
  | v :: vs, i, q, h => by
    unfold lv_args at h
    rcases List.mem_cons.mp h with rfl | h
    · exact Nat.le_refl _
    · have := lva_lt vs _ q h
      split at this <;> omega
theorem lva_kn : ∀ (av : List Value) (i : Nat), kn (lv_args i av)
  | [], _ => List.nodup_nil
  | v :: vs, i => by
    unfold lv_args
    refine List.nodup_cons.mpr ⟨fun h => ?_, lva_kn vs _⟩
    obtain ⟨q, hq, e⟩ := List.mem_map.mp h
    have := lva_lt vs _ q hq
    dsimp only at e
    split at this <;> omega
theorem am_H_nP {law : Bool} {own ln : Nat} {ins : Jvm.ClassFile.Instr} {st : List Value} {σ : SS} {q : List Value × SS} (h : am_H law own ins ln st σ = some q) : npB ins = true := by
  cases ins <;> first | rfl | cases h
theorem am_R_nh {T : Option FieldType} {ln : Nat} {ins : Jvm.ClassFile.Instr} {st : List Value} {r : Option Int32} (h : am_R T ins ln st = some r) : nhB ins = true := by
  cases ins <;> first | rfl | cases h
theorem am_T_nh {μ pc ln : Nat} {ins : Jvm.ClassFile.Instr} {st : List Value} {E : String} (h : am_T μ ins pc ln st = some E) : nhB ins = true := by
  cases ins <;> first | rfl | cases h
theorem am_C_call {own ln : Nat} {ins : Jvm.ClassFile.Instr} {st : List Value} {q : Nat × List Value × List Value} (h : am_C own ins ln st = some q) : isCall ins = true := by
  cases ins <;> first | rfl | cases h
theorem am_M_st {own ln : Nat} {ins : Jvm.ClassFile.Instr} {st st' : List Value} (h : am_M own ins ln st = some st') : ∃ idx, ins = .invokestatic idx := by
  cases ins <;> first | exact ⟨_, rfl⟩ | cases h
theorem add_inv {k s : Nat} {x : XR} {out : AO} {σ' : SS} {kc ks : Nat} (h : am_add k s x = some (out, σ', kc, ks)) : ∃ kc' ks', x = some (out, σ', kc', ks') ∧ kc = k + kc' ∧ ks = s + ks' := by
  cases x with
  | none => cases h
  | some q =>
    obtain ⟨a, b, c, d⟩ := q
    cases h
    exact ⟨_, _, rfl, rfl, rfl⟩
theorem ev_of_run : ∀ (f d μ pc : Nat) (lo : ALo) (st : List Value) (σ : SS) (out : AO) (σ' : SS) (kc ks : Nat) (Q : EQ), kn lo → am_x f d μ pc lo st σ = some (out, σ', kc, ks) → Q out σ' kc ks → Ev d μ pc lo st σ Q := by
  intro f
  induction f with
  | zero => intro d μ pc lo st σ out σ' kc ks Q hk h; cases h
  | succ f ih =>
    intro d μ pc lo st σ out σ' kc ks Q hk h hQ
    rw [am_x] at h
    cases hd : decode (mC μ) pc with
    | error e => rw [hd] at h; cases h
    | ok r =>
      obtain ⟨ins, ln⟩ := r
      rw [hd] at h
      dsimp only at h
      cases hP : am_P (mL μ) ins ln pc lo st with
      | some q =>
        rw [hP] at h
        obtain ⟨lo1, e1, _, e3⟩ := am_P_mono (fun _ x => x) hk hP
        rw [hP] at e1
        obtain ⟨a, b, c⟩ := q
        cases e1
        exact ev_P (mL μ) rfl hd hP (ih _ _ _ _ _ _ _ _ _ _ _ e3 h hQ)
      | none =>
        rw [hP] at h
        dsimp only at h
        cases hH : am_H (mK μ == 9) (mO μ) ins ln st σ with
        | some q =>
          rw [hH] at h
          exact ev_H _ _ rfl rfl hd hH (ih _ _ _ _ _ _ _ _ _ _ _ hk h hQ) (am_H_nP hH)
        | none =>
          rw [hH] at h
          dsimp only at h
          cases hR : am_R (mT μ) ins ln st with
          | some r =>
            rw [hR] at h
            cases h
            exact ev_R _ rfl hd hR (am_R_nh hR) hQ
          | none =>
            rw [hR] at h
            dsimp only at h
            cases hT : am_T μ ins pc ln st with
            | some E =>
              rw [hT] at h
              dsimp only at h
              by_cases h6 : 6 ≤ d
              · rw [if_pos h6] at h
                cases h
                exact ev_T hd hR hT h6 (am_T_nh hT) hQ
              · rw [if_neg h6] at h; cases h
            | none =>
              rw [hT] at h
              dsimp only at h
              cases hM : am_M (mO μ) ins ln st with
              | some st' =>
                rw [hM] at h
                dsimp only at h
                by_cases h1 : 1 ≤ d
                · rw [if_pos h1] at h
                  obtain ⟨idx, rfl⟩ := am_M_st hM
                  exact ev_M _ rfl hd hM h1 (ih _ _ _ _ _ _ _ _ _ _ _ hk h hQ)
                · rw [if_neg h1] at h; cases h
              | none =>
                rw [hM] at h
                dsimp only at h
                cases hC : am_C (mO μ) ins ln st with
                | none => rw [hC] at h; cases h
                | some r =>
                  obtain ⟨ν, av, rest⟩ := r
                  rw [hC] at h
                  dsimp only at h
                  by_cases h1 : 1 ≤ d
                  · rw [if_pos h1] at h
                    have cont : ∀ (o1 : AO) (σ1 : SS) (k1 s1 : Nat), (match (some (o1, σ1, k1, s1) : XR) with
                      | none => none
                      | some (.inl none, σ1, k1, s1) => am_add k1 s1 (am_x f d μ (pc + 3) lo rest σ1)
                      | some (.inl (some v), σ1, k1, s1) => am_add k1 s1 (am_x f d μ (pc + 3) lo (.int v :: rest) σ1)
                      | some (.inr E, σ1, k1, s1) => (match tableOf (mH μ) with
                        | [] => some (.inr E, σ1, k1, s1)
                        | x :: _ => (match am_hd μ x pc E lo with
                          | some q => am_add k1 s1 (am_x f d μ q.1 q.2 [] σ1)
                          | none => none))) = some (out, σ', kc, ks) → EvC d μ pc lo rest Q o1 σ1 k1 s1 := by
                      intro o1 σ1 k1 s1 hh
                      unfold EvC
                      rcases o1 with (_ | v) | E
                      · obtain ⟨kc', ks', e1, rfl, rfl⟩ := add_inv hh
                        exact ih _ _ _ _ _ _ _ _ _ _ _ hk e1 hQ
                      · obtain ⟨kc', ks', e1, rfl, rfl⟩ := add_inv hh
                        exact ih _ _ _ _ _ _ _ _ _ _ _ hk e1 hQ
                      · dsimp only at hh ⊢
                        cases ht : tableOf (mH μ) with
                        | nil => rw [ht] at hh; cases hh; exact hQ
                        | cons x r =>
                          rw [ht] at hh
                          dsimp only at hh ⊢
                          cases hq : am_hd μ x pc E lo with
                          | none => rw [hq] at hh; cases hh
                          | some q =>
                            rw [hq] at hh
                            obtain ⟨kc', ks', e1, rfl, rfl⟩ := add_inv hh
                            obtain ⟨lo1, z1, _, z3⟩ := hd_mono (fun _ x => x) hk hq
                            rw [hq] at z1
                            obtain ⟨a, b⟩ := q
                            cases z1
                            exact ih _ _ _ _ _ _ _ _ _ _ _ z3 e1 hQ
                    by_cases hν : ν ≤ 12
                    · rw [if_pos hν] at h
                      cases hp : am_prim ν (d - 1) av σ with
                      | none => rw [hp] at h; cases h
                      | some q =>
                        obtain ⟨o1, σ1, k1, s1⟩ := q
                        rw [hp] at h
                        exact ev_Cp _ rfl hd (am_C_call hC) hM hC h1 hν hp (cont o1 σ1 k1 s1 h)
                    · rw [if_neg hν] at h
                      by_cases hl : (lg_sl av).length ≤ mL ν
                      · rw [if_pos hl] at h
                        cases hp : am_x f (d - 1) ν 0 (lv_args 0 av) [] σ with
                        | none => rw [hp] at h; cases h
                        | some q =>
                          obtain ⟨o1, σ1, k1, s1⟩ := q
                          rw [hp] at h
                          exact ev_C _ rfl hd (am_C_call hC) hM hC h1 hν hl (lva_kn _ _) (ih _ _ _ _ _ _ _ _ _ _ _ (lva_kn _ _) hp (cont o1 σ1 k1 s1 h))
                      · rw [if_neg hl] at h; cases h
                  · rw [if_neg h1] at h; cases h
/-! THE SCRIPT DOESN'T MATTER -/
def ns (N : Nat) (S : Nat → Int32) (σ : SS) : SS := (σ.1, σ.2.1, σ.2.2.1, σ.2.2.2.1, σ.2.2.2.2.1, σ.2.2.2.2.2.1, N, S)
section
variable {N : Nat} {S : Nat → Int32} {σ : SS}
def nsH (N : Nat) (S : Nat → Int32) (q : List Value × SS) : List Value × SS := (q.1, ns N S q.2)
theorem get_ns (ci z k : Nat) : am_get (ns N S σ) ci z k = am_get σ ci z k := rfl
theorem put_ns (ci z k : Nat) (v : Value) : am_put (ns N S σ) ci z k v = (am_put σ ci z k v).map (ns N S) := by
  unfold am_put
  split
  · split
    · split
      · split
        · split <;> rfl
        · split
          · split
            · split <;> rfl
            · rfl
          · rfl
      · rfl
    · split <;> rfl
    · split
      · split
        · split <;> rfl
        · rfl
      · rfl
    · rfl
  · rfl
theorem H_ns (own ln : Nat) (ins : Jvm.ClassFile.Instr) (st : List Value) : am_H false own ins ln st (ns N S σ) = (am_H false own ins ln st σ).map (nsH N S) := by
  cases ins
  case getfield idx =>
    unfold am_H am_getf
    dsimp only
    split
    · split
      · split
        · rename_i q hq
          rw [get_ns]
          split <;> rfl
        · rfl
      · rfl
    · rfl
  case putfield idx =>
    unfold am_H am_putf
    dsimp only
    split
    · split
      · split
        · rename_i q hq
          rw [put_ns]
          cases am_put σ q.1 _ q.2 _ <;> rfl
        · rfl
      · rfl
    · rfl
  case iaload =>
    unfold am_H am_iald
    dsimp only
    split
    · split
      · split
        · rw [if_neg (fun h => Bool.noConfusion h.1), if_neg (fun h => Bool.noConfusion h.1)]; rfl
        · split
          · split <;> rfl
          · rfl
      · rfl
    · rfl
  case baload =>
    unfold am_H am_bald
    dsimp only
    split
    · split
      · split
        · split <;> rfl
        · rfl
      · rfl
    · rfl
  case iastore =>
    unfold am_H am_iast
    dsimp only
    split
    · split
      · split
        · split <;> rfl
        · rfl
      · rfl
    · rfl
  case bastore =>
    unfold am_H am_bast
    dsimp only
    split
    · split
      · split
        · split
          · split
            · rfl
            · split <;> rfl
          · rfl
        · rfl
      · rfl
    · rfl
  case laload =>
    unfold am_H am_lald
    dsimp only
    split
    · split <;> rfl
    · rfl
  case lastore =>
    unfold am_H am_last
    dsimp only
    split
    · split <;> rfl
    · rfl
  case aaload =>
    unfold am_H am_aald
    dsimp only
    split
    · split <;> rfl
    · rfl
  case arraylength =>
    unfold am_H am_alen
    dsimp only
    split
    · split
      · split
        · rw [if_neg (fun h => Bool.noConfusion h), if_neg (fun h => Bool.noConfusion h)]; rfl
        · split
          · split <;> rfl
          · rfl
      · rfl
    · rfl
  case ldc idx =>
    unfold am_H
    dsimp only
    split
    · split <;> rfl
    · rfl
  case ldc_w idx =>
    unfold am_H
    dsimp only
    split
    · split <;> rfl
    · rfl
  case ldc2_w idx =>
    unfold am_H
    dsimp only
    split
    · split <;> rfl
    · rfl
  all_goals rfl
def nsX (N : Nat) (S : Nat → Int32) (q : AO × SS × Nat × Nat) : AO × SS × Nat × Nat := (q.1, ns N S q.2.1, q.2.2)
theorem prim_ns (ν d : Nat) (av : List Value) : am_prim ν d av (ns N S σ) = (am_prim ν d av σ).map (nsX N S) := by
  unfold am_prim
  split
  all_goals first
    | rfl
    | (split
       · first
         | rfl
         | (rw [apply_ite (Option.map (nsX N S))]; rfl)
       · rfl)
theorem add_ns (k s : Nat) (x : XR) : am_add k s (x.map (nsX N S)) = (am_add k s x).map (nsX N S) := by
  cases x <;> rfl
theorem am_ml_k {own idx ν : Nat} {ln : Nat} {ins : Jvm.ClassFile.Instr} {st av rest : List Value} (h : am_C own ins ln st = some (ν, av, rest)) : ¬ mK ν = 9 := by
  obtain ⟨_, _, h | h⟩ := am_C_ok h
  · obtain ⟨idx, z, As, _, _, hk, _⟩ := h
    omega
  · obtain ⟨idx, _, _, hk, _⟩ := h
    omega
end
theorem x_ns {N : Nat} {S : Nat → Int32} : ∀ (f d μ pc : Nat) (lo : ALo) (st : List Value) (σ : SS), ¬ mK μ = 9 → am_x f d μ pc lo st (ns N S σ) = (am_x f d μ pc lo st σ).map (nsX N S) := by
  intro f
  induction f with
  | zero => intros; rfl
  | succ f ih =>
    intro d μ pc lo st σ hμ
    have hK : (mK μ == 9) = false := by simpa using hμ
    rw [am_x, am_x]
    cases hd : decode (mC μ) pc with
    | error e => rfl
    | ok r =>
      obtain ⟨ins, ln⟩ := r
      dsimp only
      cases hP : am_P (mL μ) ins ln pc lo st with
      | some q => exact ih _ _ _ _ _ _ hμ
      | none =>
        dsimp only
        rw [hK, H_ns]
        cases hH : am_H false (mO μ) ins ln st σ with
        | some q => exact ih _ _ _ _ _ _ hμ
        | none =>
          dsimp only [Option.map]
          cases hR : am_R (mT μ) ins ln st with
          | some r => rfl
          | none =>
            dsimp only
            cases hT : am_T μ ins pc ln st with
            | some E =>
              dsimp only
              split <;> rfl
            | none =>
              dsimp only
              cases hM : am_M (mO μ) ins ln st with
              | some st' =>
                dsimp only
                split
                · exact ih _ _ _ _ _ _ hμ
                · rfl
              | none =>
                dsimp only
                cases hC : am_C (mO μ) ins ln st with
                | none => rfl
                | some r =>
                  obtain ⟨ν, av, rest⟩ := r
                  dsimp only
                  have hν := am_ml_k (idx := 0) hC
                  by_cases h1 : 1 ≤ d
                  · rw [if_pos h1, if_pos h1]
                    have e : (if ν ≤ 12 then am_prim ν (d - 1) av (ns N S σ) else if (lg_sl av).length ≤ mL ν then am_x f (d - 1) ν 0 (lv_args 0 av) [] (ns N S σ) else none) = (if ν ≤ 12 then am_prim ν (d - 1) av σ else if (lg_sl av).length ≤ mL ν then am_x f (d - 1) ν 0 (lv_args 0 av) [] σ else none).map (nsX N S) := by
                      split
                      · exact prim_ns _ _ _
                      · split
                        · exact ih _ _ _ _ _ _ hν
                        · rfl
                    rw [e]
                    generalize (if ν ≤ 12 then am_prim ν (d - 1) av σ else if (lg_sl av).length ≤ mL ν then am_x f (d - 1) ν 0 (lv_args 0 av) [] σ else none) = x
                    rcases x with _ | ⟨(_ | v) | E, σ1, k1, s1⟩
                    · rfl
                    · show am_add k1 s1 (am_x f d μ (pc + 3) lo rest (ns N S σ1)) = (am_add k1 s1 (am_x f d μ (pc + 3) lo rest σ1)).map (nsX N S)
                      rw [ih _ _ _ _ _ _ hμ, add_ns]
                    · show am_add k1 s1 (am_x f d μ (pc + 3) lo (.int v :: rest) (ns N S σ1)) = (am_add k1 s1 (am_x f d μ (pc + 3) lo (.int v :: rest) σ1)).map (nsX N S)
                      rw [ih _ _ _ _ _ _ hμ, add_ns]
                    · dsimp only [Option.map, nsX]
                      split
                      · rfl
                      · split
                        · rw [ih _ _ _ _ _ _ hμ, add_ns]; rfl
                        · rfl
                  · rw [if_neg h1, if_neg h1]

