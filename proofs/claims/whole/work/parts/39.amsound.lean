/-! THE ABSTRACT MACHINE IS THE MACHINE -/
def FL (l : Launch) (D : va_G) (G : Nat → ClassId) (t : Nat → Nat) (b : Nat) (f : Nat) : Prop :=
  ∀ (d μ pc : Nat) (lo : ALo) (st : List Value) (σ σ' : SS) (out : AO) (kc ks : Nat), am_x f d μ pc lo st σ = some (out, σ', kc, ks) →
  ∀ (p : Program) (e : Env) (R : Room) (s : State) (m : MethodId) (args : Array Value) (below : List Frame) (meth : Method) (c : Code) (H : Heap) (locs : List Loc) (cells slots : Nat) (Q : State → Prop) (A : Nat → Prop) (ls : Array Slot) (ad : Nat → Nat) (cl : Nat → va_E),
  Cx p s m args meth c (mC μ) (mL μ) (rx (mO μ)) D G t A → c.exceptionTable.toList = tableOf (mH μ) → Wd D A s H locs 352 ad cl → PIC G ad cl σ → ((mK μ == 9) = true → va_X b (sN σ) (sS σ) s s.heap ∧ b < s.heap.size ∧ ¬ A b) → lv_has ls (mL μ) (am_lo (adx b t ad) lo) → okL lo → okS st → d ≤ R.frames → 60 * d ≤ R.locals → cells + kc ≤ R.cells → slots + ks ≤ R.slots →
  (∀ r, out = .inl r → ∀ (pc' : Nat) (ls' : Array Slot) (H' : Heap) (locs' : List Loc) (ad' : Nat → Nat) (cl' : Nat → va_E), Wd D A s H' locs' 352 ad' cl' → PIC G ad' cl' σ' → AdR ad ad' → am_Rok (mC μ) (mT μ) pc' r → W p l e R s m args below meth c H' locs' (cells + kc) (slots + ks) Q (F0 m pc' ls' (am_rs r))) →
  (∀ E, out = .inr E → ∃ (Qc : Array Value → State → Outcome → State → Prop) (pX : String → PS → Prop) (mc ms : Nat), Q = vx_MQ below Qc (XQ D G A pX) args s mc ms A ∧ cells + kc ≤ mc ∧ slots + ks ≤ ms ∧ ∀ (ad' : Nat → Nat) (cl' : Nat → va_E), PIC G ad' cl' σ' → AdR ad ad' → pX E (352, ad', cl')) →
  W p l e R s m args below meth c H locs cells slots Q (F0 m pc ls (am_sk (adx b t ad) st))
theorem am_rs_sk (h : Nat → Nat) (r : Option Int32) : am_sk h (am_rs r) = am_rs r := by cases r <;> rfl
theorem am_prim_scr {ν d : Nat} {av : List Value} {σ σ' : SS} {out : AO} {kc ks : Nat} (h : am_prim ν d av σ = some (out, σ', kc, ks)) : sN σ' = sN σ ∧ sS σ' = sS σ := by
  unfold am_prim am_p1 at h
  split at h
  all_goals first
    | (split at h
       · split at h
         · cases h; exact ⟨rfl, rfl⟩
         · cases h
       · cases h)
    | cases h
theorem am_add_inv {k s : Nat} {x : XR} {out : AO} {σ : SS} {kc ks : Nat} (h : am_add k s x = some (out, σ, kc, ks)) : ∃ k2 s2, x = some (out, σ, k2, s2) ∧ kc = k + k2 ∧ ks = s + s2 := by
  unfold am_add at h
  split at h
  · rename_i q
    obtain ⟨q1, q2, q3, q4⟩ := q
    cases h
    exact ⟨q3, q4, rfl, rfl, rfl⟩
  · cases h
/-- a run leaves the script -/
theorem am_x_scr : ∀ (f d μ pc : Nat) (lo : ALo) (st : List Value) (σ σ' : SS) (out : AO) (kc ks : Nat), am_x f d μ pc lo st σ = some (out, σ', kc, ks) → (∀ (σ : SS) (q : List Value × SS) (law : Bool) (own : Nat) (ins : Jvm.ClassFile.Instr) (ln : Nat) (st : List Value), am_H law own ins ln st σ = some q → sN q.2 = sN σ ∧ sS q.2 = sS σ) → sN σ' = sN σ ∧ sS σ' = sS σ
  | 0, _, _, _, _, _, _, _, _, _, _, h, _ => by simp [am_x] at h
  | f + 1, d, μ, pc, lo, st, σ, σ', out, kc, ks, h, hH => by
    unfold am_x at h
    split at h
    · cases h
    rename_i ins ln hdg
    split at h
    · exact am_x_scr f _ _ _ _ _ _ _ _ _ _ h hH
    split at h
    · rename_i q hq
      obtain ⟨a1, a2⟩ := am_x_scr f _ _ _ _ _ _ _ _ _ _ h hH
      obtain ⟨b1, b2⟩ := hH _ _ _ _ _ _ _ hq
      exact ⟨a1.trans b1, a2.trans b2⟩
    split at h
    · cases h; exact ⟨rfl, rfl⟩
    split at h
    · split at h
      · cases h; exact ⟨rfl, rfl⟩
      · cases h
    split at h
    · split at h
      · exact am_x_scr f _ _ _ _ _ _ _ _ _ _ h hH
      · cases h
    split at h
    · split at h
      · split at h
        · exact am_x_scr f _ _ _ _ _ _ _ _ _ _ h hH
        · cases h
      · cases h
    rename_i ν av rest hC
    split at h
    · have key : ∀ (o1 : AO) (σ1 : SS) (k1 s1 : Nat), (if ν ≤ 15 then am_prim ν (d - 1) av σ else if (lg_sl av).length ≤ mL ν then am_x f (d - 1) ν 0 (lv_args 0 av) [] σ else none) = some (o1, σ1, k1, s1) → sN σ1 = sN σ ∧ sS σ1 = sS σ := by
        intro o1 σ1 k1 s1 hr
        split at hr
        · exact am_prim_scr hr
        · split at hr
          · exact am_x_scr f _ _ _ _ _ _ _ _ _ _ hr hH
          · cases hr
      split at h
      · cases h
      · rename_i σ1 k1 s1 hr
        obtain ⟨k2, s2, h, -, -⟩ := am_add_inv h
        obtain ⟨a1, a2⟩ := am_x_scr f _ _ _ _ _ _ _ _ _ _ h hH
        obtain ⟨b1, b2⟩ := key _ _ _ _ hr
        exact ⟨a1.trans b1, a2.trans b2⟩
      · rename_i v σ1 k1 s1 hr
        obtain ⟨k2, s2, h, -, -⟩ := am_add_inv h
        obtain ⟨a1, a2⟩ := am_x_scr f _ _ _ _ _ _ _ _ _ _ h hH
        obtain ⟨b1, b2⟩ := key _ _ _ _ hr
        exact ⟨a1.trans b1, a2.trans b2⟩
      · rename_i E σ1 k1 s1 hr
        obtain ⟨b1, b2⟩ := key _ _ _ _ hr
        split at h
        · cases h; exact ⟨b1, b2⟩
        · split at h
          · obtain ⟨k2, s2, h, -, -⟩ := am_add_inv h
            obtain ⟨a1, a2⟩ := am_x_scr f _ _ _ _ _ _ _ _ _ _ h hH
            exact ⟨a1.trans b1, a2.trans b2⟩
          · cases h
    · cases h
/-- what a run answers fits its method -/
def RetOk (T : Option FieldType) : AO → Prop
  | .inl (some _) => T = some .int ∨ T = some .boolean
  | .inl none => T = none
  | .inr _ => True
theorem am_x_fit : ∀ (f d μ pc : Nat) (lo : ALo) (st : List Value) (σ σ' : SS) (out : AO) (kc ks : Nat), am_x f d μ pc lo st σ = some (out, σ', kc, ks) → RetOk (mT μ) out
  | 0, _, _, _, _, _, _, _, _, _, _, h => by simp [am_x] at h
  | f + 1, d, μ, pc, lo, st, σ, σ', out, kc, ks, h => by
    unfold am_x at h
    split at h
    · cases h
    rename_i ins ln hdg
    split at h
    · exact am_x_fit f _ _ _ _ _ _ _ _ _ _ h
    split at h
    · exact am_x_fit f _ _ _ _ _ _ _ _ _ _ h
    split at h
    · rename_i r hr
      cases h
      have := (am_R_ok (T := mT μ) hdg hr).1
      cases r with
      | none => exact this.2
      | some v =>
        rcases this.2 with h | h
        · exact Or.inl h
        · exact Or.inr h.1
    split at h
    · split at h
      · cases h; exact trivial
      · cases h
    split at h
    · split at h
      · exact am_x_fit f _ _ _ _ _ _ _ _ _ _ h
      · cases h
    split at h
    · split at h
      · split at h
        · exact am_x_fit f _ _ _ _ _ _ _ _ _ _ h
        · cases h
      · cases h
    split at h
    · split at h
      · cases h
      · obtain ⟨k2, s2, h, -, -⟩ := am_add_inv h
        exact am_x_fit f _ _ _ _ _ _ _ _ _ _ h
      · obtain ⟨k2, s2, h, -, -⟩ := am_add_inv h
        exact am_x_fit f _ _ _ _ _ _ _ _ _ _ h
      · split at h
        · cases h; exact trivial
        · split at h
          · obtain ⟨k2, s2, h, -, -⟩ := am_add_inv h
            exact am_x_fit f _ _ _ _ _ _ _ _ _ _ h
          · cases h
    · cases h
theorem am_x_ret (f d μ pc : Nat) (lo : ALo) (st : List Value) (σ σ' : SS) (out : AO) (kc ks : Nat) (h : am_x f d μ pc lo st σ = some (out, σ', kc, ks)) (v : Int32) (e : out = .inl (some v)) : mT μ = some .int ∨ mT μ = some .boolean := by
  have := am_x_fit f d μ pc lo st σ σ' out kc ks h
  rw [e] at this
  exact this
theorem am_x_retv (f d μ pc : Nat) (lo : ALo) (st : List Value) (σ σ' : SS) (out : AO) (kc ks : Nat) (h : am_x f d μ pc lo st σ = some (out, σ', kc, ks)) (e : out = .inl none) : mT μ = none := by
  have := am_x_fit f d μ pc lo st σ σ' out kc ks h
  rw [e] at this
  exact this
/-- a callee's contract -/
theorem am_callee {l : Launch} {D : va_G} {G : Nat → ClassId} {t : Nat → Nat} {b f : Nat} (IH : FL l D G t b f) {d ν : Nat} {av : List Value} {σ σ' : SS} {out : AO} {kc ks : Nat} (h : am_x f d ν 0 (lv_args 0 av) [] σ = some (out, σ', kc, ks)) (hlen : (lg_sl av).length ≤ mL ν) (hk : mK ν ≠ 9) (hav : okS av) {ad : Nat → Nat} {cl : Nat → va_E} (P : PIC G ad cl σ) : CtAM l ν d kc ks D G t ad cl (am_sk (adx b t ad) av) σ' out := by
  rcases mR_ok ν with k9 | ⟨hpl, hcls, h41, kk⟩
  · exact absurd k9 hk
  have hlen2 : (lg_sl (am_sk (adx b t ad) av)).length ≤ mL ν := by rw [am_sl]; exact hlen
  have hno9 : ¬ (mK ν == 9) = true := by simpa using hk
  -- the body, for any end
  have body : ∀ (Qc : (Nat → Prop) → Array Value → State → Outcome → State → Prop) (pX : String → PS → Prop),
      (∀ r, out = .inl r → ∀ (p : Program) (e : Env) (s : State) (m : MethodId) (args : Array Value) (below : List Frame) (meth : Method) (c : Code) (A : Nat → Prop) (pc' : Nat) (ls' : Array Slot) (H' : Heap) (locs' : List Loc) (ad' : Nat → Nat) (cl' : Nat → va_E), Cx p s m args meth c (mC ν) (mL ν) (rx (mO ν)) D G t A → meth.sig.returnType = mT ν → Wd D A s H' locs' 352 ad' cl' → PIC G ad' cl' σ' → AdR ad ad' → am_Rok (mC ν) (mT ν) pc' r → W p l e (rmD d kc ks) s m args below meth c H' locs' kc ks (MQ below (Qc A) args s kc ks A) (F0 m pc' ls' (am_rs r))) →
      (∀ E, out = .inr E → ∀ (ad' : Nat → Nat) (cl' : Nat → va_E), PIC G ad' cl' σ' → AdR ad ad' → pX E (352, ad', cl')) →
      ∀ p e s m args below meth c A ls, Cx p s m args meth c (mC ν) (mL ν) (rx (mO ν)) D G t A → meth.sig.returnType = mT ν → c.exceptionTable.toList = tableOf (mH ν) → lv_has ls (mL ν) (lv_args 0 (am_sk (adx b t ad) av)) → Wd D A s s.heap [] 352 ad cl → W p l e (rmD d kc ks) s m args below meth c s.heap [] 0 0 (vx_MQ below (Qc A) (XQ D G A pX) args s kc ks A) (F0 m 0 ls []) := by
    intro Qc pX hret hthr p e s m args below meth c A ls X hr htb hl w
    rw [am_args] at hl
    refine IH d ν 0 (lv_args 0 av) [] σ σ' out kc ks h p e (rmD d kc ks) s m args below meth c s.heap [] 0 0 _ A ls ad cl X htb w P (fun k => absurd k hno9) hl (okL.args hav) (fun _ h => absurd h List.not_mem_nil) (Nat.le_refl _) (Nat.le_refl _) (by show 0 + kc ≤ kc; omega) (by show 0 + ks ≤ ks; omega) (fun r hr0 pc' ls' H' locs' ad' cl' w' P' R' ok => ?_) (fun E hE => ⟨Qc A, pX, kc, ks, rfl, by omega, by omega, hthr E hE⟩)
    rw [Nat.zero_add, Nat.zero_add]
    exact vx_ret (hret r hr0 p e s m args below meth c A pc' ls' H' locs' ad' cl' X hr w' P' R' ok)
  -- the contract, for any end
  have con : ∀ (Qc : (Nat → Prop) → Array Value → State → Outcome → State → Prop) (pX : String → PS → Prop),
      (∀ r, out = .inl r → ∀ (p : Program) (e : Env) (s : State) (m : MethodId) (args : Array Value) (below : List Frame) (meth : Method) (c : Code) (A : Nat → Prop) (pc' : Nat) (ls' : Array Slot) (H' : Heap) (locs' : List Loc) (ad' : Nat → Nat) (cl' : Nat → va_E), Cx p s m args meth c (mC ν) (mL ν) (rx (mO ν)) D G t A → meth.sig.returnType = mT ν → Wd D A s H' locs' 352 ad' cl' → PIC G ad' cl' σ' → AdR ad ad' → am_Rok (mC ν) (mT ν) pc' r → W p l e (rmD d kc ks) s m args below meth c H' locs' kc ks (MQ below (Qc A) args s kc ks A) (F0 m pc' ls' (am_rs r))) →
      (∀ E, out = .inr E → ∀ (ad' : Nat → Nat) (cl' : Nat → va_E), PIC G ad' cl' σ' → AdR ad ad' → pX E (352, ad', cl')) →
      ∀ sz, vx_Met l (mY ν) (wsM ν) (rmD d kc ks) (va_Pc (am_sk (adx b t ad) av) (PP D G t (352, ad, cl) sz)) (Qc (PA (352, ad, cl) sz)) (XQ D G (PA (352, ad, cl) sz) pX) kc ks (PA (352, ad, cl) sz) := by
    intro Qc pX h1 h2 sz
    have B := body Qc pX h1 h2
    by_cases k2 : mK ν < 2
    · have hH : mH ν = [] := by
        rcases kk with ⟨k, q, _⟩ | ⟨k, q, _⟩ | ⟨k, q, _⟩ | ⟨k, q, _⟩
        · exact q
        · exact q
        · exact absurd k2 (by rw [show mK ν = 2 from k]; decide)
        · exact absurd k2 (by rw [show mK ν = 3 from k]; decide)
      rw [wsM_c k2]
      refine ct_GX (own := rx (mO ν)) hpl hcls hlen2 ?_ sz
      intro p e s m args below meth c A ls X hr htb hl w
      exact B p e s m args below meth c A ls X hr (by rw [htb, hH]; rfl) hl w
    · rw [wsM_w k2]
      exact ct_GW (own := rx (mO ν)) hpl hcls hlen2 B sz
  cases out with
  | inl r =>
    cases r with
    | some v =>
      have C := con (fun A => va_Qi (fun x u => x = v ∧ AOK G ad σ' u) (PB D G A) A) (fun _ _ => False) (fun r hr p e s m args below meth c A pc' ls' H' locs' ad' cl' X hrt w P' R' ok => by
        cases hr
        obtain ⟨hdg, T | ⟨T, hn⟩⟩ := ok
        · exact e_I X (hrt.trans T) w ⟨rfl, ad', cl', rfl, P', R'⟩ (Nat.le_refl _) (Nat.le_refl _) hdg
        · exact e_Z X (hrt.trans T) hn w ⟨rfl, ad', cl', rfl, P', R'⟩ (Nat.le_refl _) (Nat.le_refl _) hdg) (fun E hE => nomatch hE)
      refine ⟨?_, fun sz => vx_toMet (C sz) (fun E s t ⟨u, hu, _⟩ => hu)⟩
      have key := am_x_ret f d ν 0 (lv_args 0 av) [] σ σ' (.inl (some v)) kc ks h v rfl
      exact key
    | none =>
      have C := con (fun A => va_Qv (AOK G ad σ') (PB D G A) A) (fun _ _ => False) (fun r hr p e s m args below meth c A pc' ls' H' locs' ad' cl' X hrt w P' R' ok => by
        cases hr
        obtain ⟨hdg, T⟩ := ok
        exact e_V X (hrt.trans T) w ⟨ad', cl', rfl, P', R'⟩ (Nat.le_refl _) (Nat.le_refl _) hdg) (fun E hE => nomatch hE)
      refine ⟨?_, fun sz => vx_toMet (C sz) (fun E s t ⟨u, hu, _⟩ => hu)⟩
      exact am_x_retv f d ν 0 (lv_args 0 av) [] σ σ' (.inl none) kc ks h rfl
  | inr E =>
    exact con (fun _ _ _ _ _ => False) (fun E' u => E' = E ∧ AOK G ad σ' u) (fun r hr => nomatch hr) (fun E' hE ad' cl' P' R' => by
      cases hE
      exact ⟨rfl, ad', cl', rfl, P', R'⟩)
