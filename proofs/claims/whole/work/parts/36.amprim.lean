/-! CALLS OF THE ABSTRACT MACHINE: Row's methods and Rules.clear are single steps -/
abbrev AO : Type := Option Int32 ⊕ String
abbrev XR : Type := Option (AO × SS × Nat × Nat)
def am_p1 (σ : SS) (z : Nat) (cap : Nat) (ys : List Int32) (kc ks : Nat) : XR := some (.inl none, uX σ z cap ys, kc, ks)
def xShelves : List Nat := [25, 34, 39, 44, 50, 55, 62, 73, 97, 104, 129, 151, 164, 169, 176, 187, 213, 230]
def shB (z : Nat) : Bool := match xObjs.find? (fun q => q.1 == z) with
  | some (_, 8, [.inl a, .inl b]) => a == z + 1 && b == z + 3
  | _ => false
theorem shelf_mem {z : Nat} (h : shB z = true) : (z, 8, [.inl (z + 1), .inl (z + 3)]) ∈ xObjs := by
  unfold shB at h
  split at h
  · rename_i z' a b hq
    rw [Bool.and_eq_true] at h
    have e1 : a = z + 1 := eq_of_beq h.1
    have e2 : b = z + 3 := eq_of_beq h.2
    have hm := List.mem_of_find?_eq_some hq
    have he := List.find?_some hq
    have e3 : z' = z := eq_of_beq he
    rw [e1, e2, e3] at hm
    exact hm
  · cases h
theorem shelves_in : ∀ z ∈ xShelves, shB z = true ∧ z + 3 ∈ xRows ∧ z < 246 := by decide +kernel
theorem shelves_ok (z : Nat) (h : z ∈ xShelves) : (z, 8, [.inl (z + 1), .inl (z + 3)]) ∈ xObjs ∧ z + 3 ∈ xRows ∧ z < 246 := ⟨shelf_mem (shelves_in z h).1, (shelves_in z h).2⟩
theorem lt352 {z : Nat} (h : z < 246) : z < 352 := by omega
def am_prim (ν d : Nat) (av : List Value) (σ : SS) : XR := match ν with
  | 1 => (match av with
    | [.ref z, .int x] => if z ∈ xRows then some (.inl (some (rget (sX σ z) x)), σ, 0, 0) else none
    | _ => none)
  | 2 => (match av with
    | [.ref z, .int x] => if z ∈ xRows ∧ (sX σ z).length < 131072 ∧ 1 ≤ d then am_p1 σ z (gcap (sC σ z) (sX σ z).length) (sX σ z ++ [x]) (gmc (sC σ z) (sX σ z).length) (gms (sC σ z) (sX σ z).length) else none
    | _ => none)
  | 3 => (match av with
    | [.ref z] => if z ∈ xRows then am_p1 σ z (sC σ z) [] 0 0 else none
    | _ => none)
  | 4 => (match av with
    | [.ref z, .ref y, .int a, .int b] => if z ∈ xRows ∧ y ∈ xRows ∧ y ≠ z ∧ (sX σ z).length + (b.toInt - a.toInt).toNat ≤ 131072 ∧ 2 ≤ d then am_p1 σ z (gcapN (sC σ z) (sX σ z).length (b.toInt - a.toInt).toNat) (sX σ z ++ pourL (rget (sX σ y)) (b.toInt - a.toInt).toNat a) (gmcN (sC σ z) (sX σ z).length (b.toInt - a.toInt).toNat) (gmsN (sC σ z) (sX σ z).length (b.toInt - a.toInt).toNat) else none
    | _ => none)
  | 5 => (match av with
    | [.ref z, .ref y, .int a, .int b, .int k] => if z ∈ xRows ∧ y ∈ xRows ∧ y ≠ z ∧ (sX σ z).length + (b.toInt - a.toInt).toNat ≤ 131072 ∧ 2 ≤ d then am_p1 σ z (gcapN (sC σ z) (sX σ z).length (b.toInt - a.toInt).toNat) (sX σ z ++ pourL (fun i => rget (sX σ y) i &&& k) (b.toInt - a.toInt).toNat a) (gmcN (sC σ z) (sX σ z).length (b.toInt - a.toInt).toNat) (gmsN (sC σ z) (sX σ z).length (b.toInt - a.toInt).toNat) else none
    | _ => none)
  | 6 => (match av with
    | [.ref z, .int x, .int k] => if z ∈ xRows ∧ (sX σ z).length + (k.toInt - (0 : Int32).toInt).toNat ≤ 131072 ∧ 2 ≤ d then am_p1 σ z (gcapN (sC σ z) (sX σ z).length (k.toInt - (0 : Int32).toInt).toNat) (sX σ z ++ pourL (fun _ => x) (k.toInt - (0 : Int32).toInt).toNat 0) (gmcN (sC σ z) (sX σ z).length (k.toInt - (0 : Int32).toInt).toNat) (gmsN (sC σ z) (sX σ z).length (k.toInt - (0 : Int32).toInt).toNat) else none
    | _ => none)
  | 7 => (match av with
    | [.ref z, .ref y] => if z ∈ xRows ∧ y ∈ xRows ∧ y ≠ z ∧ (sX σ y).length ≤ 131072 ∧ 3 ≤ d then am_p1 σ z (gcapN (sC σ z) 0 (sX σ y).length) (sX σ y) (gmcN (sC σ z) 0 (sX σ y).length) (gmsN (sC σ z) 0 (sX σ y).length) else none
    | _ => none)
  | 8 => (match av with
    | [.ref z, .ref y] => if z ∈ xRows ∧ y ∈ xRows ∧ 2 ≤ d then some (.inl (some (if sX σ z = sX σ y then 1 else 0)), σ, 0, 0) else none
    | _ => none)
  | 9 => (match av with
    | [.ref z, .int a, .ref y, .int f, .int b] => if z ∈ xRows ∧ y ∈ xRows ∧ 2 ≤ d then some (.inl (some (if standsL (fun i => rget (sX σ z) ((a + i) - f)) (rget (sX σ y)) (b.toInt - f.toInt).toNat f = true then 1 else 0)), σ, 0, 0) else none
    | _ => none)
  | 10 => (match av with
    | [.ref z, .int x, .int y] => if z ∈ xRows then am_p1 σ z (sC σ z) (raltL (sX σ z) x y) 0 0 else none
    | _ => none)
  | 11 => (match av with
    | [.ref z, .int x] => if z ∈ xRows then am_p1 σ z (sC σ z) (rcutL (sX σ z) x) 0 0 else none
    | _ => none)
  | 12 => (match av with
    | [.ref z] => if z = 23 ∧ 3 ≤ d then some (.inl none, (va_up (sI σ) 24 (va_cpy (tOf [40, 2, 3, 1, 2, 2, 0, 2, 1, 24, 0, 1, 1]) (sI σ 24) 0 0 13), clr (sX σ) [47, 45, 42, 40, 37, 35, 32, 30, 28, 26], σ.2.2), 0, 0) else none
    | _ => none)
  | 13 => (match av with
    | [.ref z, .int x] => if z ∈ xShelves then some (.inl (some (sfrom (sX σ (z + 3)) x)), σ, 0, 0) else none
    | _ => none)
  | 14 => (match av with
    | [.ref z, .int x] => if z ∈ xShelves then some (.inl (some (sto (sX σ (z + 3)) x)), σ, 0, 0) else none
    | _ => none)
  | 15 => (match av with
    | [.ref z, .int x, .int y] => if z ∈ xRows ∧ 1 ≤ d then am_p1 σ z (sC σ z) (rremL (sX σ z) x y) 0 0 else none
    | _ => none)
  | _ => none
def wsM (ν : Nat) : List Cond := (if mK ν < 2 then Cond.code (mY ν) (mC ν) (mL ν) (mT ν) else Cond.codeWith (mY ν) (mC ν) (mL ν) (mT ν) (mH ν)) :: tb
def AOK (G : Nat → ClassId) (ad : Nat → Nat) (σ : SS) (u : PS) : Prop := ∃ ad' cl', u = (352, ad', cl') ∧ PIC G ad' cl' σ ∧ AdR ad ad'
def CtRI (l : Launch) (ν d kc ks : Nat) (D : va_G) (G : Nat → ClassId) (t ad : Nat → Nat) (cl : Nat → va_E) (av : List Value) (r : Int32) (σ : SS) : Prop :=
  ∀ sz, Met l (mY ν) (wsM ν) (rmD d kc ks) (va_Pc av (PP D G t (352, ad, cl) sz)) (va_Qi (fun x u => x = r ∧ AOK G ad σ u) (PB D G (PA (352, ad, cl) sz)) (PA (352, ad, cl) sz)) kc ks (PA (352, ad, cl) sz)
def CtRV (l : Launch) (ν d kc ks : Nat) (D : va_G) (G : Nat → ClassId) (t ad : Nat → Nat) (cl : Nat → va_E) (av : List Value) (σ : SS) : Prop :=
  ∀ sz, Met l (mY ν) (wsM ν) (rmD d kc ks) (va_Pc av (PP D G t (352, ad, cl) sz)) (va_Qv (AOK G ad σ) (PB D G (PA (352, ad, cl) sz)) (PA (352, ad, cl) sz)) kc ks (PA (352, ad, cl) sz)
def CtTX (l : Launch) (ν d kc ks : Nat) (D : va_G) (G : Nat → ClassId) (t ad : Nat → Nat) (cl : Nat → va_E) (av : List Value) (E : String) (σ : SS) : Prop :=
  ∀ sz, vx_Met l (mY ν) (wsM ν) (rmD d kc ks) (va_Pc av (PP D G t (352, ad, cl) sz)) (fun _ _ _ _ => False) (XQ D G (PA (352, ad, cl) sz) (fun E' u => E' = E ∧ AOK G ad σ u)) kc ks (PA (352, ad, cl) sz)
def CtAM (l : Launch) (ν d kc ks : Nat) (D : va_G) (G : Nat → ClassId) (t ad : Nat → Nat) (cl : Nat → va_E) (av : List Value) (σ : SS) : AO → Prop
  | .inl (some r) => (mT ν = some .int ∨ mT ν = some .boolean) ∧ CtRI l ν d kc ks D G t ad cl av r σ
  | .inl none => mT ν = none ∧ CtRV l ν d kc ks D G t ad cl av σ
  | .inr E => CtTX l ν d kc ks D G t ad cl av E σ
theorem Met.mono9 {l : Launch} {y : MethodName} {ws : List Cond} {rm : Room} {Pc : Array Value → State → Prop} {Qc Qc' : Array Value → State → Outcome → State → Prop} {mc ms : Nat} {free : Addr → Prop} (h : Met l y ws rm Pc Qc mc ms free) (hq : ∀ a s o t, Qc a s o t → Qc' a s o t) : Met l y ws rm Pc Qc' mc ms free := by
  intro p e h1 h2 h3 s m args below h4 h5 h6 h7
  obtain ⟨n, o, a1, a2, a3, a4, a5⟩ := h p e h1 h2 h3 s m args below h4 h5 h6 h7
  exact ⟨n, o, a1, a2, a3, hq _ _ _ _ a4, a5⟩
theorem ct_toI {l : Launch} {y : MethodName} {cc : ByteArray} {nL d kc ks ν : Nat} {D : va_G} {G : Nat → ClassId} {t ad : Nat → Nat} {cl : Nat → va_E} {av : List Value} {r : Int32} {σ : SS} {post : Int32 → PS → Prop} (h : CtI l y cc nL (rmD d kc ks) D G t (352, ad, cl) av post) (e1 : mY ν = y) (e2 : wsM ν = wY y cc nL (some .int)) (hp : ∀ x u, post x u → x = r ∧ AOK G ad σ u) : CtRI l ν d kc ks D G t ad cl av r σ := by
  intro sz
  rw [e1, e2]
  exact (h sz).mono9 (fun a s o t ⟨⟨x, u, h1, h2, h3⟩, h4⟩ => ⟨⟨x, u, h1, hp x u h2, h3⟩, h4⟩)
theorem ct_toZ {l : Launch} {y : MethodName} {cc : ByteArray} {nL d kc ks ν : Nat} {D : va_G} {G : Nat → ClassId} {t ad : Nat → Nat} {cl : Nat → va_E} {av : List Value} {r : Int32} {σ : SS} {post : Int32 → PS → Prop} (h : CtZ l y cc nL (rmD d kc ks) D G t (352, ad, cl) av post) (e1 : mY ν = y) (e2 : wsM ν = wY y cc nL (some .boolean)) (hp : ∀ x u, post x u → x = r ∧ AOK G ad σ u) : CtRI l ν d kc ks D G t ad cl av r σ := by
  intro sz
  rw [e1, e2]
  exact (h sz).mono9 (fun a s o t ⟨⟨x, u, h1, h2, h3⟩, h4⟩ => ⟨⟨x, u, h1, hp x u h2, h3⟩, h4⟩)
theorem ct_toV {l : Launch} {y : MethodName} {cc : ByteArray} {nL d kc ks ν : Nat} {D : va_G} {G : Nat → ClassId} {t ad : Nat → Nat} {cl : Nat → va_E} {av : List Value} {σ : SS} {post : PS → Prop} (h : CtV l y cc nL (rmD d kc ks) D G t (352, ad, cl) av post) (e1 : mY ν = y) (e2 : wsM ν = wY y cc nL none) (hp : ∀ u, post u → AOK G ad σ u) : CtRV l ν d kc ks D G t ad cl av σ := by
  intro sz
  rw [e1, e2]
  exact (h sz).mono9 (fun a s o t ⟨⟨u, h1, h2, h3⟩, h4⟩ => ⟨⟨u, h1, hp u h2, h3⟩, h4⟩)
theorem AOK.row {G : Nat → ClassId} {ad : Nat → Nat} {cl : Nat → va_E} {σ : SS} (P : PIC G ad cl σ) {z cap : Nat} {ys : List Int32} (hz : z ∈ xRows) {u : PS} (h : ∃ ad' cl', u = (352, ad', cl') ∧ RowL G 352 ad' cl' z cap ys ∧ FrR 352 z ad cl ad' cl') : AOK G ad (uX σ z cap ys) u := by
  obtain ⟨ad', cl', rfl, h1, h2⟩ := h
  obtain ⟨p1, p2⟩ := P.row hz h2 h1
  exact ⟨ad', cl', rfl, p1, p2⟩
theorem AOK.same {G : Nat → ClassId} {ad : Nat → Nat} {cl : Nat → va_E} {σ : SS} (P : PIC G ad cl σ) {u : PS} (h : u = (352, ad, cl)) : AOK G ad σ u := ⟨ad, cl, h, P, AdR.rf⟩
theorem rows_apart : ∀ q ∈ xRows, ∀ r ∈ xRows, q ≠ r → q + 1 ≠ r := fun q hq r hr _ e => rows_obj r hr q hq e.symm
theorem adx_row {b z : Nat} {t ad : Nat → Nat} (h : z ∈ xRows) : adx b t ad z = ad z := adx_lt (by have := rows_lt z h; omega)
theorem PIC.rules {G : Nat → ClassId} {ad ad' : Nat → Nat} {cl cl' : Nat → va_E} {σ : SS} (P : PIC G ad cl σ) {xs : Nat → List Int32} {f : Nat → Int32} (h : XW G 352 ad' cl' (sC σ) xs (sI σ) (va_up (sI σ) 24 f) (sB σ)) (F : FrX 352 ad cl ad' cl') : PIC G ad' cl' (va_up (sI σ) 24 f, xs, σ.2.2) ∧ AdR ad ad' := by
  obtain ⟨h1, h2, h3⟩ := P
  refine ⟨⟨h.cg (fun q hq => ?_) (fun _ _ => rfl), ?_, ?_⟩, F.1⟩
  · exact va_up_ne _ _ (fun e => objs_arrs q hq (24, 13) (by decide) e.symm)
  · have e1 : va_up (sI σ) 24 f 246 = sI σ 246 := va_up_ne _ _ (by omega)
    have e2 : (fun j => va_up (sI σ) 24 f (247 + j)) = fun j => sI σ (247 + j) := by funext j; exact va_up_ne _ _ (by omega)
    show MW G 352 ad' cl' 246 (va_up (sI σ) 24 f 246) (sL σ) (fun j => va_up (sI σ) 24 f (247 + j))
    rw [e1, e2]
    exact h2.ext (fun z z1 z2 => F.1 z (by omega) (row_hi (by omega))) (fun z z1 z2 => F.2 z (by omega) z1)
  · rw [F.2 351 (by decide) (by decide)]; exact h3
set_option maxRecDepth 100000 in
theorem am_prim_ok {l : Launch} {ν d kc ks b : Nat} {D : va_G} {G : Nat → ClassId} {t ad : Nat → Nat} {cl : Nat → va_E} {av : List Value} {σ σ' : SS} {out : AO} (P : PIC G ad cl σ) (h : am_prim ν d av σ = some (out, σ', kc, ks)) : CtAM l ν d kc ks D G t ad cl (am_sk (adx b t ad) av) σ' out := by
  unfold am_prim at h
  split at h
  · split at h
    · rename_i _ z x
      by_cases e : z ∈ xRows
      · rw [if_pos e] at h
        cases h
        have hz := e
        simp only [am_sk, List.map_cons, List.map_nil, am_v, adx_row hz]
        exact ⟨Or.inl rfl, ct_toI (ct_X5_get l D G t 352 ad cl z _ _ (P.1.2.1 z hz) x d) rfl rfl (fun x u hp => ⟨hp.1, AOK.same P hp.2⟩)⟩
      · rw [if_neg e] at h; cases h
    · cases h
  · split at h
    · rename_i _ z x
      by_cases e : z ∈ xRows ∧ (sX σ z).length < 131072 ∧ 1 ≤ d
      · rw [if_pos e] at h
        cases h
        obtain ⟨hz, h1, h2⟩ := e
        simp only [am_sk, List.map_cons, List.map_nil, am_v, adx_row hz]
        exact ⟨rfl, ct_toV (ct_X5_put l D G t 352 ad cl z _ _ (P.1.2.1 z hz) x h1 d h2) rfl rfl (fun u hp => AOK.row P hz hp)⟩
      · rw [if_neg e] at h; cases h
    · cases h
  · split at h
    · rename_i _ z
      by_cases e : z ∈ xRows
      · rw [if_pos e] at h
        cases h
        have hz := e
        simp only [am_sk, List.map_cons, List.map_nil, am_v, adx_row hz]
        exact ⟨rfl, ct_toV (ct_X5_clear l D G t 352 ad cl z _ _ (P.1.2.1 z hz) d) rfl rfl (fun u hp => AOK.row P hz hp)⟩
      · rw [if_neg e] at h; cases h
    · cases h
  · split at h
    · rename_i _ z y a b9
      by_cases e : z ∈ xRows ∧ y ∈ xRows ∧ y ≠ z ∧ (sX σ z).length + (b9.toInt - a.toInt).toNat ≤ 131072 ∧ 2 ≤ d
      · rw [if_pos e] at h
        cases h
        obtain ⟨hz, hy, hyz, h1, h2⟩ := e
        simp only [am_sk, List.map_cons, List.map_nil, am_v, adx_row hz, adx_row hy]
        exact ⟨rfl, ct_toV (ct_X5_pour l D G t 352 ad cl z _ _ (P.1.2.1 z hz) y _ _ (P.1.2.1 y hy) hyz (rows_obj y hy z hz) (rows_apart y hy z hz hyz) a b9 h1 d h2) rfl rfl (fun u hp => AOK.row P hz hp)⟩
      · rw [if_neg e] at h; cases h
    · cases h
  · split at h
    · rename_i _ z y a b9 k
      by_cases e : z ∈ xRows ∧ y ∈ xRows ∧ y ≠ z ∧ (sX σ z).length + (b9.toInt - a.toInt).toNat ≤ 131072 ∧ 2 ≤ d
      · rw [if_pos e] at h
        cases h
        obtain ⟨hz, hy, hyz, h1, h2⟩ := e
        simp only [am_sk, List.map_cons, List.map_nil, am_v, adx_row hz, adx_row hy]
        exact ⟨rfl, ct_toV (ct_X5_pourMasked l D G t 352 ad cl z _ _ (P.1.2.1 z hz) y _ _ (P.1.2.1 y hy) hyz (rows_obj y hy z hz) (rows_apart y hy z hz hyz) a b9 k h1 d h2) rfl rfl (fun u hp => AOK.row P hz hp)⟩
      · rw [if_neg e] at h; cases h
    · cases h
  · split at h
    · rename_i _ z x k
      by_cases e : z ∈ xRows ∧ (sX σ z).length + (k.toInt - (0 : Int32).toInt).toNat ≤ 131072 ∧ 2 ≤ d
      · rw [if_pos e] at h
        cases h
        obtain ⟨hz, h1, h2⟩ := e
        simp only [am_sk, List.map_cons, List.map_nil, am_v, adx_row hz]
        exact ⟨rfl, ct_toV (ct_X5_putMany l D G t 352 ad cl z _ _ (P.1.2.1 z hz) x k h1 d h2) rfl rfl (fun u hp => AOK.row P hz hp)⟩
      · rw [if_neg e] at h; cases h
    · cases h
  · split at h
    · rename_i _ z y
      by_cases e : z ∈ xRows ∧ y ∈ xRows ∧ y ≠ z ∧ (sX σ y).length ≤ 131072 ∧ 3 ≤ d
      · rw [if_pos e] at h
        cases h
        obtain ⟨hz, hy, hyz, h1, h2⟩ := e
        simp only [am_sk, List.map_cons, List.map_nil, am_v, adx_row hz, adx_row hy]
        exact ⟨rfl, ct_toV (ct_X5_copy l D G t 352 ad cl z _ _ (P.1.2.1 z hz) y _ _ (P.1.2.1 y hy) hyz (rows_obj y hy z hz) (rows_apart y hy z hz hyz) h1 d h2) rfl rfl (fun u hp => AOK.row P hz hp)⟩
      · rw [if_neg e] at h; cases h
    · cases h
  · split at h
    · rename_i _ z y
      by_cases e : z ∈ xRows ∧ y ∈ xRows ∧ 2 ≤ d
      · rw [if_pos e] at h
        cases h
        obtain ⟨hz, hy, h2⟩ := e
        simp only [am_sk, List.map_cons, List.map_nil, am_v, adx_row hz, adx_row hy]
        exact ⟨Or.inr rfl, ct_toZ (ct_X5_like l D G t 352 ad cl z _ _ (P.1.2.1 z hz) y _ _ (P.1.2.1 y hy) d h2) rfl rfl (fun x u hp => ⟨hp.1, AOK.same P hp.2⟩)⟩
      · rw [if_neg e] at h; cases h
    · cases h
  · split at h
    · rename_i _ z a y f b9
      by_cases e : z ∈ xRows ∧ y ∈ xRows ∧ 2 ≤ d
      · rw [if_pos e] at h
        cases h
        obtain ⟨hz, hy, h2⟩ := e
        simp only [am_sk, List.map_cons, List.map_nil, am_v, adx_row hz, adx_row hy]
        exact ⟨Or.inr rfl, ct_toZ (ct_X5_stands l D G t 352 ad cl z _ _ (P.1.2.1 z hz) y _ _ (P.1.2.1 y hy) a f b9 d h2) rfl rfl (fun x u hp => ⟨hp.1, AOK.same P hp.2⟩)⟩
      · rw [if_neg e] at h; cases h
    · cases h
  · split at h
    · rename_i _ z x y
      by_cases e : z ∈ xRows
      · rw [if_pos e] at h
        cases h
        have hz := e
        simp only [am_sk, List.map_cons, List.map_nil, am_v, adx_row hz]
        exact ⟨rfl, ct_toV (ct_X5_alter l D G t 352 ad cl z _ _ (P.1.2.1 z hz) x y d) rfl rfl (fun u hp => AOK.row P hz hp)⟩
      · rw [if_neg e] at h; cases h
    · cases h
  · split at h
    · rename_i _ z x
      by_cases e : z ∈ xRows
      · rw [if_pos e] at h
        cases h
        have hz := e
        simp only [am_sk, List.map_cons, List.map_nil, am_v, adx_row hz]
        exact ⟨rfl, ct_toV (ct_X5_cut l D G t 352 ad cl z _ _ (P.1.2.1 z hz) x d) rfl rfl (fun u hp => AOK.row P hz hp)⟩
      · rw [if_neg e] at h; cases h
    · cases h
  · split at h
    · rename_i _ z
      by_cases e : z = 23 ∧ 3 ≤ d
      · rw [if_pos e] at h
        cases h
        obtain ⟨hz, h2⟩ := e
        subst hz
        simp only [am_sk, List.map_cons, List.map_nil, am_v]
        rw [adx_lt (by decide)]
        refine ⟨rfl, ct_toV (cx_6_clear l D G t 352 ad cl _ _ _ _ _ P.1 d h2) rfl rfl (fun u hp => ?_)⟩
        obtain ⟨ad1, cl1, rfl, hW, hF⟩ := hp
        obtain ⟨q1, q2⟩ := P.rules hW hF
        exact ⟨ad1, cl1, rfl, q1, q2⟩
      · rw [if_neg e] at h; cases h
    · cases h
  · split at h
    · rename_i _ z x
      by_cases e : z ∈ xShelves
      · rw [if_pos e] at h
        cases h
        have hz := e
        obtain ⟨q1, q2, q3⟩ := shelves_ok z hz
        simp only [am_sk, List.map_cons, List.map_nil, am_v]
        rw [adx_lt (lt352 q3)]
        exact ⟨Or.inl rfl, ct_toI (ct_X8_from l D G t 352 ad cl z _ _ (lt352 q3) (P.1.o q1) (P.1.2.1 (z + 3) q2) x d) rfl rfl (fun x u hp => ⟨hp.1, AOK.same P hp.2⟩)⟩
      · rw [if_neg e] at h; cases h
    · cases h
  · split at h
    · rename_i _ z x
      by_cases e : z ∈ xShelves
      · rw [if_pos e] at h
        cases h
        have hz := e
        obtain ⟨q1, q2, q3⟩ := shelves_ok z hz
        simp only [am_sk, List.map_cons, List.map_nil, am_v]
        rw [adx_lt (lt352 q3)]
        exact ⟨Or.inl rfl, ct_toI (ct_X8_to l D G t 352 ad cl z _ _ (lt352 q3) (P.1.o q1) (P.1.2.1 (z + 3) q2) x d) rfl rfl (fun x u hp => ⟨hp.1, AOK.same P hp.2⟩)⟩
      · rw [if_neg e] at h; cases h
    · cases h
  · split at h
    · rename_i _ z x y
      by_cases e : z ∈ xRows ∧ 1 ≤ d
      · rw [if_pos e] at h
        cases h
        obtain ⟨hz, h2⟩ := e
        simp only [am_sk, List.map_cons, List.map_nil, am_v, adx_row hz]
        exact ⟨rfl, ct_toV (ct_X5_remove l D G t 352 ad cl z _ _ (P.1.2.1 z hz) x y d h2) rfl rfl (fun u hp => AOK.row P hz hp)⟩
      · rw [if_neg e] at h; cases h
    · cases h
  · cases h
