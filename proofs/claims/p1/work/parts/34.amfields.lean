/-! THE ABSTRACT MACHINE'S STEPS OVER THE HEAP -/
def adx (b : Nat) (t ad : Nat → Nat) : Nat → Nat := fun i => if i < 352 then ad i else if i = 352 then b else t (i - 353)
theorem adx_lt {b : Nat} {t ad : Nat → Nat} {i : Nat} (h : i < 352) : adx b t ad i = ad i := if_pos h
theorem adx_scr {b : Nat} {t ad : Nat → Nat} : adx b t ad 352 = b := by simp [adx]
def okV : Value → Prop
  | .ref i => rowArr i = false
  | _ => True
def am_fl (own idx : Nat) : Option (Nat × Nat) := match (flT own).find? (fun q => q.1 == idx) with
  | some q => some q.2
  | none => none
theorem am_fl_ok {own idx : Nat} {q : Nat × Nat} (h : am_fl own idx = some q) : FLok own (idx, q.1, q.2) := by
  unfold am_fl at h
  split at h
  · rename_i q1 hq
    have hm := AllP.mem (flT_ok own) (List.mem_of_find?_eq_some hq)
    have he := List.find?_some hq
    simp at he
    cases h
    rw [← he]
    exact hm
  · cases h
def am_ob (z : Nat) : Option (Nat × List FS) := match xObjs.find? (fun q => q.1 == z) with
  | some q => some q.2
  | none => none
theorem am_ob_ok {z : Nat} {q : Nat × List FS} (h : am_ob z = some q) : (z, q.1, q.2) ∈ xObjs := by
  unfold am_ob at h
  split at h
  · rename_i q1 hq
    have hm := List.mem_of_find?_eq_some hq
    have he := List.find?_some hq
    simp at he
    cases h
    rw [← he]
    exact hm
  · cases h
def am_get (σ : SS) (ci z k : Nat) : Option Value :=
  if ci = 5 then (if k = 1 ∧ z ∈ xRows then some (.int (nI (sX σ z).length)) else none)
  else if ci = 12 then (if z = 246 then (match mOff k with
      | some j => some (.ref (247 + j))
      | none => if k = 159 then some (.long (sL σ)) else some (.int (sI σ 246 k))) else none)
  else (match am_ob z with
    | some q => if q.1 = ci then (match q.2[k]? with
      | some (.inl r) => some (.ref r)
      | some (.inr (.inl _)) => some (.int (sI σ z k))
      | some (.inr (.inr j)) => some (.ref (sB σ j))
      | none => none) else none
    | none => none)
def am_put (σ : SS) (ci z k : Nat) (v : Value) : Option SS :=
  if (tx ci k).2.2.2 = false then (match v with
    | .int x => if narrow (tyx ci k) (.int x) = .int x ∧ fits (tyx ci k) (.int x) = true then
        (if ci = 12 then (if z = 246 ∧ mOff k = none ∧ k ≠ 159 then some (uI σ (vset (sI σ) 246 k x)) else none)
        else (match am_ob z with
          | some q => if q.1 = ci then (match q.2[k]? with
            | some (.inr (.inl _)) => some (uI σ (vset (sI σ) z k x))
            | _ => none) else none
          | none => none)) else none
    | .long x => if ci = 12 ∧ z = 246 ∧ k = 159 then some (uL σ x) else none
    | .ref r => (match am_ob z with
      | some q => if q.1 = ci ∧ (r = 49 ∨ r = 163) then (match q.2[k]?, tyx ci k with
        | some (.inr (.inr j)), .object _ => some (uB σ (va_up (sB σ) j r))
        | _, _ => none) else none
      | none => none)
    | _ => none) else none
theorem fmap_get {f : Nat → FS → Value} : ∀ (fs : List FS) (n k : Nat), (fmap f n fs)[k]? = (fs[k]?).map (f (n + k))
  | [], _, _ => by simp [fmap]
  | a :: fs, n, 0 => by simp [fmap]
  | a :: fs, n, k + 1 => by
    rw [fmap, List.getElem?_cons_succ, List.getElem?_cons_succ, fmap_get fs (n + 1) k, show n + 1 + k = n + (k + 1) by omega]
theorem am_get_ok {G : Nat → ClassId} {ad t : Nat → Nat} {b : Nat} {cl : Nat → va_E} {σ : SS} {ci z k : Nat} {v : Value} (P : PIC G ad cl σ) (hk : k < nfx ci) (h : am_get σ ci z k = some v) : z < 352 ∧ (∃ fs, cl z = .inr (ci, fs) ∧ fs[k]? = some (am_v (adx b t ad) v)) ∧ okV v := by
  unfold am_get at h
  by_cases h5 : ci = 5
  · rw [if_pos h5] at h
    by_cases hz : k = 1 ∧ z ∈ xRows
    · rw [if_pos hz] at h
      cases h
      obtain ⟨rfl, hz⟩ := hz
      subst h5
      have hR := P.1.2.1 z hz
      exact ⟨by have := hR.1; omega, ⟨_, hR.2.1, rfl⟩, trivial⟩
    · rw [if_neg hz] at h; cases h
  · rw [if_neg h5] at h
    by_cases h12 : ci = 12
    · rw [if_pos h12] at h
      subst h12
      have hk : k < 164 := hk
      by_cases hz : z = 246
      · rw [if_pos hz] at h
        subst hz
        refine ⟨by decide, ⟨_, P.2.1.2.1, ?_⟩, ?_⟩
        · rw [fsOf_get hk]
          split at h
          · rename_i j hj
            cases h
            rw [mf_ref hj (mOff_inv hk hj).2, am_v, adx_lt (by have := (mOff_inv hk hj).2; omega)]
          · rename_i hj
            by_cases h9 : k = 159
            · rw [if_pos h9] at h
              cases h
              subst h9
              simp only [mfldJ, hj, if_true, am_v]
            · rw [if_neg h9] at h
              cases h
              rw [mf_int hj h9]; rfl
        · split at h
          · rename_i j hj
            cases h
            exact row_hi (by omega)
          · rename_i hj
            by_cases h9 : k = 159
            · rw [if_pos h9] at h; cases h; exact trivial
            · rw [if_neg h9] at h; cases h; exact trivial
      · rw [if_neg hz] at h; cases h
    · rw [if_neg h12] at h
      split at h
      · rename_i q hq
        have hm := am_ob_ok hq
        by_cases hc : q.1 = ci
        · rw [if_pos hc] at h
          have hz : z < 246 := objs_lt _ hm
          refine ⟨by omega, ⟨_, by rw [← hc]; exact P.1.o hm, ?_⟩, ?_⟩
          · rw [fmap_get, Nat.zero_add]
            split at h
            · rename_i r hr
              cases h
              have := objs_fld _ hm _ (List.mem_of_getElem? hr)
              simp at this
              rw [hr]
              simp only [Option.map_some, fval, am_v]
              rw [adx_lt (by omega)]
            · rename_i u hr
              cases h
              rw [hr]; rfl
            · rename_i j hr
              cases h
              rw [hr]
              simp only [Option.map_some, fval, am_v]
              rw [adx_lt (by rcases P.1.2.2.2.2.2 j with e | e <;> rw [e] <;> decide)]
            · cases h
          · split at h
            · rename_i r hr
              cases h
              have := objs_fld _ hm _ (List.mem_of_getElem? hr)
              simp at this
              exact this.2
            · cases h; exact trivial
            · rename_i j hr
              cases h
              show rowArr (sB σ j) = false
              rcases P.1.2.2.2.2.2 j with e | e <;> rw [e] <;> decide
            · cases h
        · rw [if_neg hc] at h; cases h
      · cases h
theorem dyn_all : ∀ q ∈ xObjs, ∀ k, k < q.2.2.length → (match q.2.2[k]? with | some (.inr (.inr j)) => dynB j q.1 k | _ => true) = true := by decide +kernel
theorem dyn_at {z ci j k : Nat} {fs : List FS} (hm : (z, ci, fs) ∈ xObjs) (hk : fs[k]? = some (.inr (.inr j))) : dynB j z k = true := by
  have h := dyn_all _ hm k (List.getElem?_eq_some_iff.mp hk).1
  dsimp only at h
  rw [hk] at h
  exact h
section
variable {p : Program} {l : Launch} {e : Env} {R : Room} {s : State} {m : MethodId} {args : Array Value} {below : List Frame} {meth : Method} {c : Code} {H : Heap} {locs : List Loc} {cells slots : Nat} {Q : State → Prop}
variable {cc : ByteArray} {nL pc : Nat} {own : Nat} {ls : Array Slot} {D : va_G} {G : Nat → ClassId} {t : Nat → Nat} {A : Nat → Prop} {ad : Nat → Nat} {cl : Nat → va_E} {b : Nat} {σ : SS}
/-- a field is read -/
theorem am_gf (X : Cx p s m args meth c cc nL (rx own) D G t A) (w : Wd D A s H locs 352 ad cl) {idx ci k i : Nat} {rest : List Value} (F : FLok own (idx, ci, k)) (hi : i < 352) {fs : List Value} (hc : cl i = .inr (ci, fs)) {v : Value} (hv : fs[k]? = some v) (hdg : decode cc pc = .ok (.getfield idx, 3))
    (kk : W p l e R s m args below meth c H locs cells slots Q (F0 m (pc + 3) ls (v :: rest))) : W p l e R s m args below meth c H locs cells slots Q (F0 m pc ls (.ref (ad i) :: rest)) := by
  obtain ⟨h1, h2, h3, h4 | ⟨host, h4⟩⟩ := F
  · exact g_get X w i rfl hi hc (kcx ci h1) k h2 h3 h4 hv hdg kk
  · exact g_getN X w i rfl hi hc (kcx ci h1) k h2 h3 h4 hv hdg kk
theorem am_pf (X : Cx p s m args meth c cc nL (rx own) D G t A) (w : Wd D A s H locs 352 ad cl) {idx ci k i : Nat} {rest : List Value} (F : FLok own (idx, ci, k)) (hi : i < 352) {fs : List Value} (hc : cl i = .inr (ci, fs)) (hfin : (tx ci k).2.2.2 = false) {v : Value} (hn : narrow (tyx ci k) v = v) (hfit : fits (tyx ci k) v = true) (hfl : k < fs.length) (hdg : decode cc pc = .ok (.putfield idx, 3))
    (kk : ∀ (H : Heap) (locs : List Loc), Wd D A s H locs 352 ad (va_up cl i (.inr (ci, fs.set k v))) → W p l e R s m args below meth c H locs cells slots Q (F0 m (pc + 3) ls rest)) : W p l e R s m args below meth c H locs cells slots Q (F0 m pc ls (v :: .ref (ad i) :: rest)) := by
  obtain ⟨h1, h2, h3, h4 | ⟨host, h4⟩⟩ := F
  · exact g_put X w i rfl hi hc (kcx ci h1) k h2 h3 h4 hfin hn hfit hfl hdg kk
  · exact g_putN X w i rfl hi hc (kcx ci h1) k h2 h3 h4 hfin hn hfit hfl hdg kk
theorem am_put_ok (X : Cx p s m args meth c cc nL (rx own) D G t A) (w : Wd D A s H locs 352 ad cl) (P : PIC G ad cl σ) {idx ci k z : Nat} {r : List Value} {v : Value} {σ' : SS} (F : FLok own (idx, ci, k)) (h : am_put σ ci z k v = some σ') (hdg : decode cc pc = .ok (.putfield idx, 3))
    (kk : ∀ (H : Heap) (locs : List Loc) (cl' : Nat → va_E), Wd D A s H locs 352 ad cl' → PIC G ad cl' σ' → W p l e R s m args below meth c H locs cells slots Q (F0 m (pc + 3) ls (am_sk (adx b t ad) r))) : W p l e R s m args below meth c H locs cells slots Q (F0 m pc ls (am_sk (adx b t ad) (v :: .ref z :: r))) := by
  unfold am_put at h
  by_cases hfin : (tx ci k).2.2.2 = false
  · rw [if_pos hfin] at h
    split at h
    · rename_i x
      by_cases hn : narrow (tyx ci k) (.int x) = .int x ∧ fits (tyx ci k) (.int x) = true
      · rw [if_pos hn] at h
        by_cases h12 : ci = 12
        · subst h12
          rw [if_pos rfl] at h
          by_cases hz : z = 246 ∧ mOff k = none ∧ k ≠ 159
          · rw [if_pos hz] at h
            obtain ⟨rfl, h1, h2⟩ := hz
            cases h
            have hk : k < 164 := F.2.1
            show W p l e R s m args below meth c H locs cells slots Q (F0 m pc ls (.int x :: .ref (adx b t ad 246) :: am_sk (adx b t ad) r))
            rw [adx_lt (by decide)]
            exact am_pf X w F (by decide) P.2.1.2.1 hfin hn.1 hn.2 (by rw [fsOf_len]; exact hk) hdg (fun H locs w => kk H locs _ w (P.mint hk h1 h2 x))
          · rw [if_neg hz] at h; cases h
        · rw [if_neg h12] at h
          split at h
          · rename_i q hq
            have hm := am_ob_ok hq
            by_cases hc : q.1 = ci
            · rw [if_pos hc] at h
              split at h
              · rename_i u hr
                cases h
                subst hc
                have hz : z < 246 := objs_lt _ hm
                show W p l e R s m args below meth c H locs cells slots Q (F0 m pc ls (.int x :: .ref (adx b t ad z) :: am_sk (adx b t ad) r))
                rw [adx_lt (by omega)]
                exact am_pf X w F (by omega) (P.1.o hm) hfin hn.1 hn.2 (by rw [fmap_len]; exact (List.getElem?_eq_some_iff.mp hr).1) hdg (fun H locs w => kk H locs _ w (P.int hm hr x))
              · cases h
            · rw [if_neg hc] at h; cases h
          · cases h
      · rw [if_neg hn] at h; cases h
    · rename_i x
      by_cases hz : ci = 12 ∧ z = 246 ∧ k = 159
      · rw [if_pos hz] at h
        obtain ⟨rfl, rfl, rfl⟩ := hz
        cases h
        show W p l e R s m args below meth c H locs cells slots Q (F0 m pc ls (.long x :: .ref (adx b t ad 246) :: am_sk (adx b t ad) r))
        rw [adx_lt (by decide)]
        exact am_pf X w F (by decide) P.2.1.2.1 hfin rfl rfl (by rw [fsOf_len]; decide) hdg (fun H locs w => kk H locs _ w (P.mlong x))
      · rw [if_neg hz] at h; cases h
    · rename_i q0
      split at h
      · rename_i q hq
        have hm := am_ob_ok hq
        by_cases hc : q.1 = ci ∧ (q0 = 49 ∨ q0 = 163)
        · rw [if_pos hc] at h
          obtain ⟨rfl, hr⟩ := hc
          split at h
          · rename_i j C hj hty
            cases h
            have hz : z < 246 := objs_lt _ hm
            show W p l e R s m args below meth c H locs cells slots Q (F0 m pc ls (.ref (adx b t ad q0) :: .ref (adx b t ad z) :: am_sk (adx b t ad) r))
            rw [adx_lt (by rcases hr with rfl | rfl <;> decide), adx_lt (by omega)]
            exact am_pf X w F (by omega) (P.1.o hm) hfin (by rw [hty]; rfl) (by rw [hty]; rfl) (by rw [fmap_len]; exact (List.getElem?_eq_some_iff.mp hj).1) hdg (fun H locs w => kk H locs _ w (P.dyn hm hj (dyn_at hm hj) hr))
          · cases h
        · rw [if_neg hc] at h; cases h
      · cases h
    · cases h
  · rw [if_neg hfin] at h; cases h
end
