section
variable {p : Program} {l : Launch} {e : Env} {R : Room} {s : State} {m : MethodId} {args : Array Value} {below : List Frame} {meth : Method} {c : Code} {H : Heap} {locs : List Loc} {cells slots : Nat} {Q : State → Prop}
variable {cc : ByteArray} {nL pc : Nat} {own : String} {ls : Array Slot} {rest : List Value} {D : va_G} {G : Nat → ClassId} {t : Nat → Nat} {A : Nat → Prop} {N : Nat} {ad : Nat → Nat} {cl : Nat → va_E}
theorem g_zald (X : Cx p s m args meth c cc nL own D G t A) (w : Wd D A s H locs N ad cl) (i : Nat) (hi : i < N) {n : Nat} {f : Nat → Int32} (hc : cl i = .inl (G 2, n, .inl f)) {x : Int32} (hin : vp_in x n) (hdg : decode cc pc = .ok (.baload, 1))
    (kk : W p l e R s m args below meth c H locs cells slots Q (F0 m (pc + 1) ls (.int (f x.toNatClampNeg) :: rest))) : W p l e R s m args below meth c H locs cells slots Q (F0 m pc ls (.int x :: .ref (ad i) :: rest)) := by
  obtain ⟨hx, hb, hml, hown, hts, hK, hA, hZ, hN, hlo⟩ := X
  exact va_zald hx hb hK w.1 i 2 (by rw [wd_get hi, hc]) rfl hin hdg kk
theorem g_lald (X : Cx p s m args meth c cc nL own D G t A) (w : Wd D A s H locs N ad cl) (i : Nat) (hi : i < N) {n : Nat} {f : Nat → Int64} (hc : cl i = .inl (G 3, n, .inr (.inl f))) {x : Int32} (hin : vp_in x n) (hdg : decode cc pc = .ok (.laload, 1))
    (kk : W p l e R s m args below meth c H locs cells slots Q (F0 m (pc + 1) ls (.long (f x.toNatClampNeg) :: rest))) : W p l e R s m args below meth c H locs cells slots Q (F0 m pc ls (.int x :: .ref (ad i) :: rest)) := by
  obtain ⟨hx, hb, hml, hown, hts, hK, hA, hZ, hN, hlo⟩ := X
  exact va_lald hx hb hK w.1 i 3 (by rw [wd_get hi, hc]) rfl hin hdg kk
theorem g_bast (X : Cx p s m args meth c cc nL own D G t A) (w : Wd D A s H locs N ad cl) (i : Nat) (hi : i < N) {n : Nat} {f : Nat → Int32} (hc : cl i = .inl (G 1, n, .inl f)) {x y : Int32} (hin : vp_in x n) (hdg : decode cc pc = .ok (.bastore, 1))
    (kk : ∀ (H : Heap) (locs : List Loc), Wd D A s H locs N ad (va_up cl i (.inl (G 1, n, .inl (upd f x.toNatClampNeg (vp_nar .byte y))))) → W p l e R s m args below meth c H locs cells slots Q (F0 m (pc + 1) ls rest)) : W p l e R s m args below meth c H locs cells slots Q (F0 m pc ls (.int y :: .int x :: .ref (ad i) :: rest)) := by
  obtain ⟨hx, hb, hml, hown, hts, hK, hA, hZ, hN, hlo⟩ := X
  refine va_bast hx hb hK w.1 w.2.1 w.2.2 i 1 (by rw [wd_get hi, hc]) rfl hin hdg (fun H1 l1 h1 h2 h3 => kk H1 l1 ⟨?_, ?_, h3⟩)
  · rw [wd_set hi] at h1; exact h1
  · rw [wd_set hi] at h2; exact h2
theorem g_zast (X : Cx p s m args meth c cc nL own D G t A) (w : Wd D A s H locs N ad cl) (i : Nat) (hi : i < N) {n : Nat} {f : Nat → Int32} (hc : cl i = .inl (G 2, n, .inl f)) {x y : Int32} (hin : vp_in x n) (hdg : decode cc pc = .ok (.bastore, 1))
    (kk : ∀ (H : Heap) (locs : List Loc), Wd D A s H locs N ad (va_up cl i (.inl (G 2, n, .inl (upd f x.toNatClampNeg (vp_nar .boolean y))))) → W p l e R s m args below meth c H locs cells slots Q (F0 m (pc + 1) ls rest)) : W p l e R s m args below meth c H locs cells slots Q (F0 m pc ls (.int y :: .int x :: .ref (ad i) :: rest)) := by
  obtain ⟨hx, hb, hml, hown, hts, hK, hA, hZ, hN, hlo⟩ := X
  refine va_zast hx hb hK w.1 w.2.1 w.2.2 i 2 (by rw [wd_get hi, hc]) rfl hin hdg (fun H1 l1 h1 h2 h3 => kk H1 l1 ⟨?_, ?_, h3⟩)
  · rw [wd_set hi] at h1; exact h1
  · rw [wd_set hi] at h2; exact h2
end
def am_in (x : Int32) (n : Nat) : Bool := !(decide (x < 0) || decide (n ≤ x.toNatClampNeg))
theorem am_in_ok {x : Int32} {n : Nat} (h : am_in x n = true) : vp_in x n := by
  unfold am_in at h
  unfold vp_in
  simp at h
  rintro (h1 | h1)
  · exact absurd h1 (by simpa using h.1)
  · exact absurd h1 (by simpa using h.2)
def am_k (T : List (Nat × Int32)) (idx : Nat) : Option Int32 := match T.find? (fun q => q.1 == idx) with
  | some q => some q.2
  | none => none
def am_kl (T : List (Nat × Int64)) (idx : Nat) : Option Int64 := match T.find? (fun q => q.1 == idx) with
  | some q => some q.2
  | none => none
theorem am_k_ok {own idx : Nat} {v : Int32} (h : am_k (ckT own) idx = some v) : Cond.constant (rx own) idx v ∈ tb := by
  unfold am_k at h
  split at h
  · rename_i q hq
    have hm := AllP.mem (ckT_ok own) (List.mem_of_find?_eq_some hq)
    have he := List.find?_some hq
    simp at he
    cases h
    rw [← he]
    exact hm
  · cases h
theorem am_kl_ok {own idx : Nat} {v : Int64} (h : am_kl (clT own) idx = some v) : Cond.constantLong (rx own) idx v ∈ tb := by
  unfold am_kl at h
  split at h
  · rename_i q hq
    have hm := AllP.mem (clT_ok own) (List.mem_of_find?_eq_some hq)
    have he := List.find?_some hq
    simp at he
    cases h
    rw [← he]
    exact hm
  · cases h
abbrev HR : Type := Option (List Value × SS)
def am_getf (own idx ln : Nat) (σ : SS) : List Value → HR
  | .ref z :: r => if ln = 3 then (match am_fl own idx with
    | some q => (match am_get σ q.1 z q.2 with
      | some v => some (v :: r, σ)
      | none => none)
    | none => none) else none
  | _ => none
def am_putf (own idx ln : Nat) (σ : SS) : List Value → HR
  | v :: .ref z :: r => if ln = 3 then (match am_fl own idx with
    | some q => (match am_put σ q.1 z q.2 v with
      | some σ' => some (r, σ')
      | none => none)
    | none => none) else none
  | _ => none
def am_iald (law : Bool) (ln : Nat) (σ : SS) : List Value → HR
  | .int x :: .ref z :: r => if ln = 1 then (if z = 352 then (if law = true ∧ am_in x (sN σ) = true then some (.int (sS σ x.toNatClampNeg) :: r, σ) else none) else (match am_ar z with
    | some q => if q.1 = 0 ∧ am_in x q.2 = true then some (.int (sI σ z x.toNatClampNeg) :: r, σ) else none
    | none => none)) else none
  | _ => none
def am_bald (ln : Nat) (σ : SS) : List Value → HR
  | .int x :: .ref z :: r => if ln = 1 then (match am_ar z with
    | some q => if (q.1 = 1 ∨ q.1 = 2) ∧ am_in x q.2 = true then some (.int (sI σ z x.toNatClampNeg) :: r, σ) else none
    | none => none) else none
  | _ => none
def am_iast (ln : Nat) (σ : SS) : List Value → HR
  | .int y :: .int x :: .ref z :: r => if ln = 1 then (match am_ar z with
    | some q => if q.1 = 0 ∧ am_in x q.2 = true then some (r, uI σ (va_up (sI σ) z (upd (sI σ z) x.toNatClampNeg y))) else none
    | none => none) else none
  | _ => none
def am_bast (ln : Nat) (σ : SS) : List Value → HR
  | .int y :: .int x :: .ref z :: r => if ln = 1 then (match am_ar z with
    | some q => if am_in x q.2 = true then (if q.1 = 1 then some (r, uI σ (va_up (sI σ) z (upd (sI σ z) x.toNatClampNeg (vp_nar .byte y)))) else if q.1 = 2 then some (r, uI σ (va_up (sI σ) z (upd (sI σ z) x.toNatClampNeg (vp_nar .boolean y)))) else none) else none
    | none => none) else none
  | _ => none
def am_lald (ln : Nat) (σ : SS) : List Value → HR
  | .int x :: .ref z :: r => if ln = 1 ∧ z = 351 ∧ am_in x 1 = true then some (.long (sO σ x.toNatClampNeg) :: r, σ) else none
  | _ => none
def am_last (ln : Nat) (σ : SS) : List Value → HR
  | .long y :: .int x :: .ref z :: r => if ln = 1 ∧ z = 351 ∧ am_in x 1 = true then some (r, uO σ (vp_updL (sO σ) x.toNatClampNeg y)) else none
  | _ => none
def am_aald (ln : Nat) (σ : SS) : List Value → HR
  | .int x :: .ref z :: r => if ln = 1 ∧ z = 9 ∧ am_in x 6 = true then some (.ref (10 + 2 * x.toNatClampNeg) :: r, σ) else none
  | _ => none
def am_alen (law : Bool) (ln : Nat) (σ : SS) : List Value → HR
  | .ref z :: r => if ln = 1 then (if z = 352 then (if law = true then some (.int (Int32.ofNat (sN σ)) :: r, σ) else none) else (match am_ar z with
    | some q => if q.1 < 3 then some (.int (nI q.2) :: r, σ) else none
    | none => none)) else none
  | _ => none
def am_H (law : Bool) (own : Nat) (ins : Jvm.ClassFile.Instr) (ln : Nat) (st : List Value) (σ : SS) : HR := match ins with
  | .getfield idx => am_getf own idx ln σ st
  | .putfield idx => am_putf own idx ln σ st
  | .iaload => am_iald law ln σ st
  | .baload => am_bald ln σ st
  | .iastore => am_iast ln σ st
  | .bastore => am_bast ln σ st
  | .laload => am_lald ln σ st
  | .lastore => am_last ln σ st
  | .aaload => am_aald ln σ st
  | .arraylength => am_alen law ln σ st
  | .ldc idx => if ln = 2 then (match am_k (ckT own) idx with
    | some v => some (.int v :: st, σ)
    | none => none) else none
  | .ldc_w idx => if ln = 3 then (match am_k (ckT own) idx with
    | some v => some (.int v :: st, σ)
    | none => none) else none
  | .ldc2_w idx => if ln = 3 then (match am_kl (clT own) idx with
    | some v => some (.long v :: st, σ)
    | none => none) else none
  | _ => none
theorem arr_G {G : Nat → ClassId} : ∀ k, k < 3 → ∃ ty, (tyG G)[k]? = some (G k, ty)
  | 0, _ => ⟨_, rfl⟩
  | 1, _ => ⟨_, rfl⟩
  | 2, _ => ⟨_, rfl⟩
  | n + 3, h => absurd h (by omega)
section
variable {p : Program} {l : Launch} {e : Env} {R : Room} {s : State} {m : MethodId} {args : Array Value} {below : List Frame} {meth : Method} {c : Code} {H : Heap} {locs : List Loc} {cells slots : Nat} {Q : State → Prop}
variable {cc : ByteArray} {nL pc : Nat} {own : Nat} {ls : Array Slot}  {D : va_G} {G : Nat → ClassId} {t : Nat → Nat} {A : Nat → Prop}  {ad : Nat → Nat} {cl : Nat → va_E} {b : Nat} {σ : SS}
theorem am_getf_ok (X : Cx p s m args meth c cc nL (rx own) D G t A) (w : Wd D A s H locs 352 ad cl) (P : PIC G ad cl σ) {ln : Nat} {st : List Value} {q : List Value × SS} {idx : Nat} (h : am_getf own idx ln σ st = some q) (hdg : decode cc pc = .ok (.getfield idx, ln)) (kk : ∀ (H : Heap) (locs : List Loc) (cl' : Nat → va_E), Wd D A s H locs 352 ad cl' → PIC G ad cl' q.2 → W p l e R s m args below meth c H locs cells slots Q (F0 m (pc + ln) ls (am_sk (adx b t ad) q.1))) : W p l e R s m args below meth c H locs cells slots Q (F0 m pc ls (am_sk (adx b t ad) (st))) := by
  unfold am_getf at h
  split at h
  · rename_i z r
    by_cases e1 : ln = 3
    · rw [if_pos e1] at h
      subst e1
      split at h
      · rename_i q1 hq
        have F := am_fl_ok hq
        split at h
        · rename_i v hv
          cases h
          obtain ⟨h1, ⟨fs, h2, h3⟩, -⟩ := am_get_ok (b := b) (t := t) P F.2.1 hv
          show W p l e R s m args below meth c H locs cells slots Q (F0 m pc ls (.ref (adx b t ad z) :: am_sk (adx b t ad) r))
          rw [adx_lt h1]
          exact am_gf X w F h1 h2 h3 hdg (kk H locs cl w P)
        · cases h
      · cases h
    · rw [if_neg e1] at h; cases h
  · cases h
theorem am_putf_ok (X : Cx p s m args meth c cc nL (rx own) D G t A) (w : Wd D A s H locs 352 ad cl) (P : PIC G ad cl σ) {ln : Nat} {st : List Value} {q : List Value × SS} {idx : Nat} (h : am_putf own idx ln σ st = some q) (hdg : decode cc pc = .ok (.putfield idx, ln)) (kk : ∀ (H : Heap) (locs : List Loc) (cl' : Nat → va_E), Wd D A s H locs 352 ad cl' → PIC G ad cl' q.2 → W p l e R s m args below meth c H locs cells slots Q (F0 m (pc + ln) ls (am_sk (adx b t ad) q.1))) : W p l e R s m args below meth c H locs cells slots Q (F0 m pc ls (am_sk (adx b t ad) (st))) := by
  unfold am_putf at h
  split at h
  · rename_i v z r
    by_cases e1 : ln = 3
    · rw [if_pos e1] at h
      subst e1
      split at h
      · rename_i q1 hq
        have F := am_fl_ok hq
        split at h
        · rename_i σ' hv
          cases h
          exact am_put_ok X w P F hv hdg kk
        · cases h
      · cases h
    · rw [if_neg e1] at h; cases h
  · cases h
theorem am_iald_ok (X : Cx p s m args meth c cc nL (rx own) D G t A) (w : Wd D A s H locs 352 ad cl) (P : PIC G ad cl σ) {ln : Nat} {st : List Value} {q : List Value × SS} {law : Bool} (hS : law = true → va_X b (sN σ) (sS σ) s s.heap ∧ b < s.heap.size ∧ ¬ A b) (h : am_iald law ln σ st = some q) (hdg : decode cc pc = .ok (.iaload, ln)) (kk : ∀ (H : Heap) (locs : List Loc) (cl' : Nat → va_E), Wd D A s H locs 352 ad cl' → PIC G ad cl' q.2 → W p l e R s m args below meth c H locs cells slots Q (F0 m (pc + ln) ls (am_sk (adx b t ad) q.1))) : W p l e R s m args below meth c H locs cells slots Q (F0 m pc ls (am_sk (adx b t ad) (st))) := by
  obtain ⟨hx, hb, -⟩ := id X
  unfold am_iald at h
  split at h
  · rename_i x z r
    by_cases e1 : ln = 1
    · rw [if_pos e1] at h
      subst e1
      by_cases e2 : z = 352
      · rw [if_pos e2] at h
        by_cases e3 : law = true ∧ am_in x (sN σ) = true
        · rw [if_pos e3] at h
          cases h
          subst e2
          obtain ⟨s1, s2, s3⟩ := hS e3.1
          show W p l e R s m args below meth c H locs cells slots Q (F0 m pc ls (.int x :: .ref (adx b t ad 352) :: am_sk (adx b t ad) r))
          rw [adx_scr]
          exact va_sld hx hb s1 s2 s3 w.2.2 (am_in_ok e3.2) hdg (kk H locs cl w P)
        · rw [if_neg e3] at h; cases h
      · rw [if_neg e2] at h
        split at h
        · rename_i q1 hq
          by_cases e3 : q1.1 = 0 ∧ am_in x q1.2 = true
          · rw [if_pos e3] at h
            cases h
            obtain ⟨k, n⟩ := q1
            obtain ⟨rfl, h3⟩ := e3
            obtain ⟨h1, h2⟩ := P.ar hq
            show W p l e R s m args below meth c H locs cells slots Q (F0 m pc ls (.int x :: .ref (adx b t ad z) :: am_sk (adx b t ad) r))
            rw [adx_lt h1]
            exact g_iald X w z rfl h1 h2 (am_in_ok h3) hdg (kk H locs cl w P)
          · rw [if_neg e3] at h; cases h
        · cases h
    · rw [if_neg e1] at h; cases h
  · cases h
theorem am_bald_ok (X : Cx p s m args meth c cc nL (rx own) D G t A) (w : Wd D A s H locs 352 ad cl) (P : PIC G ad cl σ) {ln : Nat} {st : List Value} {q : List Value × SS}  (h : am_bald ln σ st = some q) (hdg : decode cc pc = .ok (.baload, ln)) (kk : ∀ (H : Heap) (locs : List Loc) (cl' : Nat → va_E), Wd D A s H locs 352 ad cl' → PIC G ad cl' q.2 → W p l e R s m args below meth c H locs cells slots Q (F0 m (pc + ln) ls (am_sk (adx b t ad) q.1))) : W p l e R s m args below meth c H locs cells slots Q (F0 m pc ls (am_sk (adx b t ad) (st))) := by
  unfold am_bald at h
  split at h
  · rename_i x z r
    by_cases e1 : ln = 1
    · rw [if_pos e1] at h
      subst e1
      split at h
      · rename_i q1 hq
        by_cases e3 : (q1.1 = 1 ∨ q1.1 = 2) ∧ am_in x q1.2 = true
        · rw [if_pos e3] at h
          cases h
          obtain ⟨k, n⟩ := q1
          obtain ⟨h0, h3⟩ := e3
          obtain ⟨h1, h2⟩ := P.ar hq
          show W p l e R s m args below meth c H locs cells slots Q (F0 m pc ls (.int x :: .ref (adx b t ad z) :: am_sk (adx b t ad) r))
          rw [adx_lt h1]
          rcases h0 with rfl | rfl
          · exact g_bald X w z rfl h1 h2 (am_in_ok h3) hdg (kk H locs cl w P)
          · exact g_zald X w z h1 h2 (am_in_ok h3) hdg (kk H locs cl w P)
        · rw [if_neg e3] at h; cases h
      · cases h
    · rw [if_neg e1] at h; cases h
  · cases h
theorem am_iast_ok (X : Cx p s m args meth c cc nL (rx own) D G t A) (w : Wd D A s H locs 352 ad cl) (P : PIC G ad cl σ) {ln : Nat} {st : List Value} {q : List Value × SS}  (h : am_iast ln σ st = some q) (hdg : decode cc pc = .ok (.iastore, ln)) (kk : ∀ (H : Heap) (locs : List Loc) (cl' : Nat → va_E), Wd D A s H locs 352 ad cl' → PIC G ad cl' q.2 → W p l e R s m args below meth c H locs cells slots Q (F0 m (pc + ln) ls (am_sk (adx b t ad) q.1))) : W p l e R s m args below meth c H locs cells slots Q (F0 m pc ls (am_sk (adx b t ad) (st))) := by
  unfold am_iast at h
  split at h
  · rename_i y x z r
    by_cases e1 : ln = 1
    · rw [if_pos e1] at h
      subst e1
      split at h
      · rename_i q1 hq
        by_cases e3 : q1.1 = 0 ∧ am_in x q1.2 = true
        · rw [if_pos e3] at h
          cases h
          obtain ⟨k, n⟩ := q1
          obtain ⟨rfl, h3⟩ := e3
          obtain ⟨h1, h2⟩ := P.ar hq
          show W p l e R s m args below meth c H locs cells slots Q (F0 m pc ls (.int y :: .int x :: .ref (adx b t ad z) :: am_sk (adx b t ad) r))
          rw [adx_lt h1]
          exact g_iast X w z rfl h1 h2 (am_in_ok h3) hdg (fun H locs w => kk H locs _ w (P.arw hq _))
        · rw [if_neg e3] at h; cases h
      · cases h
    · rw [if_neg e1] at h; cases h
  · cases h
theorem am_bast_ok (X : Cx p s m args meth c cc nL (rx own) D G t A) (w : Wd D A s H locs 352 ad cl) (P : PIC G ad cl σ) {ln : Nat} {st : List Value} {q : List Value × SS}  (h : am_bast ln σ st = some q) (hdg : decode cc pc = .ok (.bastore, ln)) (kk : ∀ (H : Heap) (locs : List Loc) (cl' : Nat → va_E), Wd D A s H locs 352 ad cl' → PIC G ad cl' q.2 → W p l e R s m args below meth c H locs cells slots Q (F0 m (pc + ln) ls (am_sk (adx b t ad) q.1))) : W p l e R s m args below meth c H locs cells slots Q (F0 m pc ls (am_sk (adx b t ad) (st))) := by
  unfold am_bast at h
  split at h
  · rename_i y x z r
    by_cases e1 : ln = 1
    · rw [if_pos e1] at h
      subst e1
      split at h
      · rename_i q1 hq
        by_cases e3 : am_in x q1.2 = true
        · rw [if_pos e3] at h
          obtain ⟨k, n⟩ := q1
          obtain ⟨h1, h2⟩ := P.ar hq
          show W p l e R s m args below meth c H locs cells slots Q (F0 m pc ls (.int y :: .int x :: .ref (adx b t ad z) :: am_sk (adx b t ad) r))
          rw [adx_lt h1]
          by_cases e4 : k = 1
          · subst e4
            rw [if_pos rfl] at h
            cases h
            exact g_bast X w z h1 h2 (am_in_ok e3) hdg (fun H locs w => kk H locs _ w (P.arw hq _))
          · rw [if_neg e4] at h
            by_cases e5 : k = 2
            · subst e5
              rw [if_pos rfl] at h
              cases h
              exact g_zast X w z h1 h2 (am_in_ok e3) hdg (fun H locs w => kk H locs _ w (P.arw hq _))
            · rw [if_neg e5] at h; cases h
        · rw [if_neg e3] at h; cases h
      · cases h
    · rw [if_neg e1] at h; cases h
  · cases h
theorem am_lald_ok (X : Cx p s m args meth c cc nL (rx own) D G t A) (w : Wd D A s H locs 352 ad cl) (P : PIC G ad cl σ) {ln : Nat} {st : List Value} {q : List Value × SS}  (h : am_lald ln σ st = some q) (hdg : decode cc pc = .ok (.laload, ln)) (kk : ∀ (H : Heap) (locs : List Loc) (cl' : Nat → va_E), Wd D A s H locs 352 ad cl' → PIC G ad cl' q.2 → W p l e R s m args below meth c H locs cells slots Q (F0 m (pc + ln) ls (am_sk (adx b t ad) q.1))) : W p l e R s m args below meth c H locs cells slots Q (F0 m pc ls (am_sk (adx b t ad) (st))) := by
  unfold am_lald at h
  split at h
  · rename_i x z r
    by_cases e1 : ln = 1 ∧ z = 351 ∧ am_in x 1 = true
    · rw [if_pos e1] at h
      obtain ⟨rfl, rfl, h3⟩ := e1
      cases h
      show W p l e R s m args below meth c H locs cells slots Q (F0 m pc ls (.int x :: .ref (adx b t ad 351) :: am_sk (adx b t ad) r))
      rw [adx_lt (by decide)]
      exact g_lald X w 351 (by decide) P.2.2 (am_in_ok h3) hdg (kk H locs cl w P)
    · rw [if_neg e1] at h; cases h
  · cases h
theorem am_last_ok (X : Cx p s m args meth c cc nL (rx own) D G t A) (w : Wd D A s H locs 352 ad cl) (P : PIC G ad cl σ) {ln : Nat} {st : List Value} {q : List Value × SS}  (h : am_last ln σ st = some q) (hdg : decode cc pc = .ok (.lastore, ln)) (kk : ∀ (H : Heap) (locs : List Loc) (cl' : Nat → va_E), Wd D A s H locs 352 ad cl' → PIC G ad cl' q.2 → W p l e R s m args below meth c H locs cells slots Q (F0 m (pc + ln) ls (am_sk (adx b t ad) q.1))) : W p l e R s m args below meth c H locs cells slots Q (F0 m pc ls (am_sk (adx b t ad) (st))) := by
  unfold am_last at h
  split at h
  · rename_i y x z r
    by_cases e1 : ln = 1 ∧ z = 351 ∧ am_in x 1 = true
    · rw [if_pos e1] at h
      obtain ⟨rfl, rfl, h3⟩ := e1
      cases h
      show W p l e R s m args below meth c H locs cells slots Q (F0 m pc ls (.long y :: .int x :: .ref (adx b t ad 351) :: am_sk (adx b t ad) r))
      rw [adx_lt (by decide)]
      exact g_last X w 351 rfl (by decide) P.2.2 (am_in_ok h3) hdg (fun H locs w => kk H locs _ w (P.out _))
    · rw [if_neg e1] at h; cases h
  · cases h
theorem am_aald_ok (X : Cx p s m args meth c cc nL (rx own) D G t A) (w : Wd D A s H locs 352 ad cl) (P : PIC G ad cl σ) {ln : Nat} {st : List Value} {q : List Value × SS}  (h : am_aald ln σ st = some q) (hdg : decode cc pc = .ok (.aaload, ln)) (kk : ∀ (H : Heap) (locs : List Loc) (cl' : Nat → va_E), Wd D A s H locs 352 ad cl' → PIC G ad cl' q.2 → W p l e R s m args below meth c H locs cells slots Q (F0 m (pc + ln) ls (am_sk (adx b t ad) q.1))) : W p l e R s m args below meth c H locs cells slots Q (F0 m pc ls (am_sk (adx b t ad) (st))) := by
  unfold am_aald at h
  split at h
  · rename_i x z r
    by_cases e1 : ln = 1 ∧ z = 9 ∧ am_in x 6 = true
    · rw [if_pos e1] at h
      obtain ⟨rfl, rfl, h3⟩ := e1
      cases h
      have hin := am_in_ok h3
      have hlt : x.toNatClampNeg < 6 := Nat.not_le.mp fun q => hin (Or.inr q)
      show W p l e R s m args below meth c H locs cells slots Q (F0 m pc ls (.int x :: .ref (adx b t ad 9) :: am_sk (adx b t ad) r))
      rw [adx_lt (by decide)]
      refine g_aldQ X w 9 rfl (by decide) P.1.2.2.2.2.1 hin (v := ad (10 + 2 * x.toNatClampNeg)) (by simp only [fq, hlt, if_true]) hdg ?_
      have := kk H locs cl w P
      simp only [am_sk, List.map_cons, am_v] at this
      rw [adx_lt (by omega)] at this
      exact this
    · rw [if_neg e1] at h; cases h
  · cases h
theorem am_alen_ok (X : Cx p s m args meth c cc nL (rx own) D G t A) (w : Wd D A s H locs 352 ad cl) (P : PIC G ad cl σ) {ln : Nat} {st : List Value} {q : List Value × SS} {law : Bool} (hS : law = true → va_X b (sN σ) (sS σ) s s.heap ∧ b < s.heap.size ∧ ¬ A b) (h : am_alen law ln σ st = some q) (hdg : decode cc pc = .ok (.arraylength, ln)) (kk : ∀ (H : Heap) (locs : List Loc) (cl' : Nat → va_E), Wd D A s H locs 352 ad cl' → PIC G ad cl' q.2 → W p l e R s m args below meth c H locs cells slots Q (F0 m (pc + ln) ls (am_sk (adx b t ad) q.1))) : W p l e R s m args below meth c H locs cells slots Q (F0 m pc ls (am_sk (adx b t ad) (st))) := by
  obtain ⟨hx, hb, -⟩ := id X
  unfold am_alen at h
  split at h
  · rename_i z r
    by_cases e1 : ln = 1
    · rw [if_pos e1] at h
      subst e1
      by_cases e2 : z = 352
      · rw [if_pos e2] at h
        by_cases e3 : law = true
        · rw [if_pos e3] at h
          cases h
          subst e2
          obtain ⟨s1, s2, s3⟩ := hS e3
          show W p l e R s m args below meth c H locs cells slots Q (F0 m pc ls (.ref (adx b t ad 352) :: am_sk (adx b t ad) r))
          rw [adx_scr]
          exact va_slen hx hb s1 s2 s3 w.2.2 hdg (kk H locs cl w P)
        · rw [if_neg e3] at h; cases h
      · rw [if_neg e2] at h
        split at h
        · rename_i q1 hq
          by_cases e3 : q1.1 < 3
          · rw [if_pos e3] at h
            cases h
            obtain ⟨k, n⟩ := q1
            obtain ⟨h1, h2⟩ := P.ar hq
            obtain ⟨ty, hty⟩ := arr_G (G := G) k e3
            show W p l e R s m args below meth c H locs cells slots Q (F0 m pc ls (.ref (adx b t ad z) :: am_sk (adx b t ad) r))
            rw [adx_lt h1]
            exact g_alen X w z rfl h1 h2 hty hdg (kk H locs cl w P)
          · rw [if_neg e3] at h; cases h
        · cases h
    · rw [if_neg e1] at h; cases h
  · cases h
theorem am_H_ok (X : Cx p s m args meth c cc nL (rx own) D G t A) (w : Wd D A s H locs 352 ad cl) (P : PIC G ad cl σ) {ln : Nat} {st : List Value} {q : List Value × SS} {ins : Jvm.ClassFile.Instr} {law : Bool} (hS : law = true → va_X b (sN σ) (sS σ) s s.heap ∧ b < s.heap.size ∧ ¬ A b) (h : am_H law own ins ln st σ = some q) (hdg : decode cc pc = .ok (ins, ln)) (kk : ∀ (H : Heap) (locs : List Loc) (cl' : Nat → va_E), Wd D A s H locs 352 ad cl' → PIC G ad cl' q.2 → W p l e R s m args below meth c H locs cells slots Q (F0 m (pc + ln) ls (am_sk (adx b t ad) q.1))) : W p l e R s m args below meth c H locs cells slots Q (F0 m pc ls (am_sk (adx b t ad) (st))) := by
  obtain ⟨hx, hb, hml, hown, hts, -⟩ := id X
  cases ins
  all_goals try (have h0 : (none : HR) = some q := h; exact nomatch h0)
  case getfield idx => exact am_getf_ok X w P h hdg kk
  case putfield idx => exact am_putf_ok X w P h hdg kk
  case iaload => exact am_iald_ok X w P hS h hdg kk
  case baload => exact am_bald_ok X w P h hdg kk
  case iastore => exact am_iast_ok X w P h hdg kk
  case bastore => exact am_bast_ok X w P h hdg kk
  case laload => exact am_lald_ok X w P h hdg kk
  case lastore => exact am_last_ok X w P h hdg kk
  case aaload => exact am_aald_ok X w P h hdg kk
  case arraylength => exact am_alen_ok X w P hS h hdg kk
  case ldc idx =>
    unfold am_H at h
    dsimp only at h
    by_cases e1 : ln = 2
    · rw [if_pos e1] at h
      subst e1
      split at h
      · rename_i v hv
        cases h
        exact lv_ldc hx hb hown (hts _ (am_k_ok hv)) hdg (kk H locs cl w P)
      · cases h
    · rw [if_neg e1] at h; cases h
  case ldc_w idx =>
    unfold am_H at h
    dsimp only at h
    by_cases e1 : ln = 3
    · rw [if_pos e1] at h
      subst e1
      split at h
      · rename_i v hv
        cases h
        exact lv_ldcw hx hb hown (hts _ (am_k_ok hv)) hdg (kk H locs cl w P)
      · cases h
    · rw [if_neg e1] at h; cases h
  case ldc2_w idx =>
    unfold am_H at h
    dsimp only at h
    by_cases e1 : ln = 3
    · rw [if_pos e1] at h
      subst e1
      split at h
      · rename_i v hv
        cases h
        exact lv_ldc2 hx hb hown (hts _ (am_kl_ok hv)) hdg (kk H locs cl w P)
      · cases h
    · rw [if_neg e1] at h; cases h
end
