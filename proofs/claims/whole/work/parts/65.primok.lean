/-! THE SINGLE STEPS AND ALL INSTRUCTIONS -/
theorem grow_step {c : Nat → Nat} {z v k1 s1 : Nat} (hz : z ∈ xRows) (hck : CK c) (g : (∃ j, j ≤ capE z ∧ v = 16 * 2 ^ j) ∧ 16 * k1 + c z ≤ v ∧ s1 + 2 * c z ≤ 2 * v) : CK (va_up c z v) ∧ 16 * k1 + Ph c ≤ Ph (va_up c z v) ∧ s1 + 2 * Ph c ≤ 2 * Ph (va_up c z v) := by
  obtain ⟨g1, g2, g3⟩ := g
  have := Ph_up (c := c) (v := v) hz
  exact ⟨hck.up g1, by omega, by omega⟩
theorem rcl_ok {ρ : MR9} {c : Nat → Nat} {σ : MS} : rcl (cv ρ c σ) = cv ρ c (rclM σ) := by
  unfold rcl cv rclM
  refine Prod.ext ?_ (Prod.ext ?_ rfl)
  · funext z k
    show va_up (fun z k => iI (σ.2.1 z k)) 24 _ z k = iI (va_up σ.2.1 24 _ z k)
    by_cases hz : z = 24
    · subst hz
      rw [va_up_self, va_up_self]
      unfold va_cpy
      by_cases hk : k < 13
      · have : ∀ k, k < 13 → tOf [40, 2, 3, 1, 2, 2, 0, 2, 1, 24, 0, 1, 1] (0 + (k - 0)) = iI (AT1.getD k 0) := by decide
        rw [if_pos (by omega), if_pos hk]
        exact this k hk
      · rw [if_neg (by omega), if_neg hk]
    · rw [va_up_ne _ _ hz, va_up_ne _ _ hz]
  · funext q
    show clr (fun q => (σ.1 q).map iI) _ q = List.map iI (if q ∈ _ then [] else σ.1 q)
    unfold clr
    by_cases hq : q ∈ [47, 45, 42, 40, 37, 35, 32, 30, 28, 26]
    · rw [if_pos hq, if_pos hq]; rfl
    · rw [if_neg hq, if_neg hq]
theorem AT1_rg : ∀ k : Nat, Rg (AT1.getD k 0) := by
  intro k
  rw [List.getD_eq_getElem?_getD]
  have h : ∀ x ∈ AT1, -100 ≤ x ∧ x ≤ 100 := by decide
  cases hx : AT1[k]? with
  | none => unfold Rg; simp
  | some y => have := h y (List.mem_of_getElem? hx); unfold Rg; simp only [Option.getD_some]; omega
theorem WF.rcl {σ : MS} (h : WF σ) : WF (rclM σ) := by
  obtain ⟨a, b, c, d, e⟩ := h
  refine ⟨fun q x hx => ?_, fun z k => ?_, fun q => ?_, d, e⟩
  · have hx : x ∈ (if q ∈ [47, 45, 42, 40, 37, 35, 32, 30, 28, 26] then [] else mX σ q) := hx
    split at hx
    · exact absurd hx List.not_mem_nil
    · exact a q x hx
  · show Rg (va_up (mV σ) 24 (fun k => if k < 13 then AT1.getD k 0 else mV σ 24 k) z k)
    by_cases hz : z = 24
    · subst hz
      rw [va_up_self]
      split
      · exact AT1_rg k
      · exact b 24 k
    · rw [va_up_ne _ _ hz]; exact b z k
  · show (if q ∈ [47, 45, 42, 40, 37, 35, 32, 30, 28, 26] then [] else mX σ q).length ≤ 131072
    split
    · exact Nat.zero_le _
    · exact c q
theorem neB_ok {y z : Nat} (h : neB y z = true) : y ≠ z := fun e => by
  subst e
  unfold neB at h
  rw [beq_nat] at h
  simp at h
section
variable {D a μ nL own rt pc ln : Nat} {hd : MHd} {Q : MQ9} {k : Nat → MLo → List MV → MS → Prop} {ex : List Nat} {lo : MLo} {st : List MV} {σ : MS} {ins : Jvm.ClassFile.Instr}
theorem ok_prm {av rest : List MV} {ν : Nat} (hO : mO μ = own) (hdc : decode (mC μ) pc = .ok (ins, 3)) (hc : CM own ins (cvS st) ν (cvS av) (cvS rest)) (hD : 6 ≤ D) (hr : okSt st → okSt av ∧ okSt rest)
    (K : ∀ st1 σ1, k (pc + 3) lo st1 σ1 → WP D a μ (pc + 3) lo st1 σ1 Q) (h : prm (fun σ1 => k (pc + 3) lo rest σ1) (fun v => k (pc + 3) lo (v :: rest) σ) σ av ν) : WP D a μ pc lo st σ Q := by
  refine WP.wf (fun w1 w2 w3 => ?_)
  obtain ⟨wa, wr⟩ := hr w3
  have wl := w1.2.2.1
  have wx := w1.1
  unfold prm at h
  split at h
  · rename_i z x
    obtain ⟨h1, h⟩ := h.e
    obtain ⟨h2, h⟩ := gd.e h wa.t.h
    refine wp_free (K _ _ h) (fun w1 w2 w3 => ⟨w1, w2, okSt.c (rgt_rg (wx z)) wr⟩) (fun _ _ _ d ρ c hd9 EQ9 hh => ?_)
    rw [show cvS [vr z, .inl x] = [.ref z, cvV (.inl x)] from rfl, cvV_i] at hc
    refine ev_rget hO hdc (isRow_ok h1) hc (by omega) rfl ?_
    rw [show sX (cv ρ c σ) z = (mX σ z).map iI from rfl, rgt_ok (wl z) h2]
    exact hh
  · rename_i z x
    obtain ⟨h1, h⟩ := h.e
    obtain ⟨h2, h3, h⟩ := gd.e h wa.t.h
    have hz := isRow_ok h1
    have hcap := capOf_le z
    refine wp_step (K _ _ h) (fun w1 w2 w3 => ⟨w1.setX (fun y hy => ?_) (by rw [List.length_append]; simp; omega), w2, wr⟩) (fun _ _ _ d ρ c hd9 hck => ?_)
    · rcases List.mem_append.mp hy with e | e
      · exact wx z y e
      · rw [List.mem_singleton.mp e]; exact h2
    · obtain ⟨g1, g2, g3⟩ := grow_step hz hck (grow1 h3 (hck z hz))
      refine ⟨_, _, _, g1, g2, g3, fun EQ9 hh => ?_⟩
      rw [show cvS [vr z, .inl x] = [.ref z, cvV (.inl x)] from rfl, cvV_i] at hc
      refine ev_rput hO hdc hz hc (by omega) (by rw [show sX (cv ρ c σ) z = (mX σ z).map iI from rfl, List.length_map]; omega) rfl ?_
      rw [show sX (cv ρ c σ) z = (mX σ z).map iI from rfl, List.length_map, show (mX σ z).map iI ++ [iI (uv x)] = (mX σ z ++ [uv x]).map iI from by rw [List.map_append]; rfl, cv_X]
      exact hh
  · rename_i z
    obtain ⟨h1, h⟩ := h.e
    refine wp_free (K _ _ h) (fun w1 w2 w3 => ⟨w1.setX (fun y hy => absurd hy List.not_mem_nil) (Nat.zero_le _), w2, wr⟩) (fun _ _ _ d ρ c hd9 EQ9 hh => ?_)
    refine ev_rclear hO hdc (isRow_ok h1) hc (by omega) rfl ?_
    have e : uX (cv ρ c σ) z (sC (cv ρ c σ) z) ([] : List Int32) = cv ρ c (wX σ z []) := cv_X0 (L := [])
    rw [e]
    exact hh
  · rename_i z y p q
    obtain ⟨h1, h⟩ := h.e
    obtain ⟨h2, h⟩ := h.e
    obtain ⟨h3, h⟩ := h.e
    obtain ⟨r1, h⟩ := gd.e h wa.t.t.h
    obtain ⟨r2, h4, h⟩ := gd.e h wa.t.t.t.h
    have hz := isRow_ok h1
    have hy := isRow_ok h2
    have hcap := capOf_le z
    refine wp_step (K _ _ h) (fun w1 w2 w3 => ⟨w1.setX (fun u hu => ?_) (by rw [List.length_append, pourM_len]; omega), w2, wr⟩) (fun _ _ _ d ρ c hd9 hck => ?_)
    · rcases List.mem_append.mp hu with e | e
      · exact wx z u e
      · obtain ⟨i, rfl⟩ := pourM_mem _ _ e
        exact rgt_rg (wx y)
    · obtain ⟨g1, g2, g3⟩ := grow_step hz hck (growN _ _ _ h4 (hck z hz))
      refine ⟨_, _, _, g1, g2, g3, fun EQ9 hh => ?_⟩
      rw [show cvS [vr z, vr y, .inl p, .inl q] = [.ref z, .ref y, cvV (.inl p), cvV (.inl q)] from rfl, cvV_i, cvV_i] at hc
      refine ev_rpour hO hdc hz hy (neB_ok h3) hc (by omega) (by rw [show sX (cv ρ c σ) z = (mX σ z).map iI from rfl, List.length_map, r1.to, r2.to]; omega) rfl ?_
      rw [show sX (cv ρ c σ) z = (mX σ z).map iI from rfl, show sX (cv ρ c σ) y = (mX σ y).map iI from rfl, List.length_map, r1.to, r2.to, pour_ok (g := rgt (mX σ y)) (fun x hx => rgt_ok (wl y) hx) _ _ r1 (by unfold Rg at r1 r2; omega), ← List.map_append, cv_X]
      exact hh
  · rename_i z y p q m
    obtain ⟨h1, h⟩ := h.e
    obtain ⟨h2, h⟩ := h.e
    obtain ⟨h3, h⟩ := h.e
    obtain ⟨r1, h⟩ := gd.e h wa.t.t.h
    obtain ⟨r2, h4, h⟩ := gd.e h wa.t.t.t.h
    have hz := isRow_ok h1
    have hy := isRow_ok h2
    have hcap := capOf_le z
    refine wp_step (K _ _ h) (fun w1 w2 w3 => ⟨w1.setX (fun u hu => ?_) (by rw [List.length_append, pourM_len]; omega), w2, wr⟩) (fun _ _ _ d ρ c hd9 hck => ?_)
    · rcases List.mem_append.mp hu with e | e
      · exact wx z u e
      · obtain ⟨i, rfl⟩ := pourM_mem _ _ e
        exact bnd_rg _ _
    · obtain ⟨g1, g2, g3⟩ := grow_step hz hck (growN _ _ _ h4 (hck z hz))
      refine ⟨_, _, _, g1, g2, g3, fun EQ9 hh => ?_⟩
      rw [show cvS [vr z, vr y, .inl p, .inl q, .inl m] = [.ref z, .ref y, cvV (.inl p), cvV (.inl q), cvV (.inl m)] from rfl, cvV_i, cvV_i, cvV_i] at hc
      refine ev_rpourM hO hdc hz hy (neB_ok h3) hc (by omega) (by rw [show sX (cv ρ c σ) z = (mX σ z).map iI from rfl, List.length_map, r1.to, r2.to]; omega) rfl ?_
      rw [show sX (cv ρ c σ) z = (mX σ z).map iI from rfl, show sX (cv ρ c σ) y = (mX σ y).map iI from rfl, List.length_map, r1.to, r2.to, pour_ok (g := fun i => bnd (rgt (mX σ y) i) (uv m)) (fun x hx => by rw [rgt_ok (wl y) hx, bnd_ok]) _ _ r1 (by unfold Rg at r1 r2; omega), ← List.map_append, cv_X]
      exact hh
  · rename_i z x n
    obtain ⟨h1, h⟩ := h.e
    obtain ⟨r1, h⟩ := gd.e h wa.t.h
    obtain ⟨r2, h4, h⟩ := gd.e h wa.t.t.h
    have hz := isRow_ok h1
    have hcap := capOf_le z
    refine wp_step (K _ _ h) (fun w1 w2 w3 => ⟨w1.setX (fun u hu => ?_) (by rw [List.length_append, List.length_replicate]; omega), w2, wr⟩) (fun _ _ _ d ρ c hd9 hck => ?_)
    · rcases List.mem_append.mp hu with e | e
      · exact wx z u e
      · rw [(List.mem_replicate.mp e).2]; exact r1
    · obtain ⟨g1, g2, g3⟩ := grow_step hz hck (growN _ _ _ h4 (hck z hz))
      refine ⟨_, _, _, g1, g2, g3, fun EQ9 hh => ?_⟩
      rw [show cvS [vr z, .inl x, .inl n] = [.ref z, cvV (.inl x), cvV (.inl n)] from rfl, cvV_i, cvV_i] at hc
      have e0 : ((iI (uv n)).toInt - (0 : Int32).toInt).toNat = (uv n).toNat := by rw [r2.to, show (0 : Int32).toInt = 0 from rfl, Int.sub_zero]
      have e1 : ∀ (j : Nat) (i : Int32), pourL (fun _ => iI (uv x)) j i = (List.replicate j (uv x)).map iI := by
        intro j
        induction j with
        | zero => intro i; rfl
        | succ j ih => intro i; rw [pourL, ih, List.replicate_succ]; rfl
      refine ev_rputMany hO hdc hz hc (by omega) (by rw [show sX (cv ρ c σ) z = (mX σ z).map iI from rfl, List.length_map, e0]; omega) rfl ?_
      rw [show sX (cv ρ c σ) z = (mX σ z).map iI from rfl, List.length_map, e0, e1, ← List.map_append, cv_X]
      exact hh
  · rename_i z y
    obtain ⟨h1, h⟩ := h.e
    obtain ⟨h2, h⟩ := h.e
    obtain ⟨h3, h4, h⟩ := h.e
    have hz := isRow_ok h1
    have hy := isRow_ok h2
    have hcap := capOf_le z
    refine wp_step (K _ _ h) (fun w1 w2 w3 => ⟨w1.setX (wx y) (wl y), w2, wr⟩) (fun _ _ _ d ρ c hd9 hck => ?_)
    obtain ⟨g1, g2, g3⟩ := grow_step hz hck (growN (mX σ y).length 0 _ (by omega) (hck z hz))
    refine ⟨_, _, _, g1, g2, g3, fun EQ9 hh => ?_⟩
    refine ev_rcopy hO hdc hz hy (neB_ok h3) hc (by omega) (by rw [show sX (cv ρ c σ) y = (mX σ y).map iI from rfl, List.length_map]; omega) rfl ?_
    rw [show sX (cv ρ c σ) y = (mX σ y).map iI from rfl, List.length_map, cv_X]
    exact hh
  · rename_i z y
    obtain ⟨h1, h⟩ := h.e
    obtain ⟨h2, h⟩ := h.e
    have hz := isRow_ok h1
    have hy := isRow_ok h2
    refine wp_free (K _ _ h) (fun w1 w2 w3 => ⟨w1, w2, okSt.c (by show Rg _; split <;> (unfold Rg; omega)) wr⟩) (fun _ _ _ d ρ c hd9 EQ9 hh => ?_)
    refine ev_rlike hO hdc hz hy hc (by omega) rfl ?_
    have e : (if sX (cv ρ c σ) z = sX (cv ρ c σ) y then (1 : Int32) else 0) = iI (if mX σ z = mX σ y then 1 else 0) := by
      show (if (mX σ z).map iI = (mX σ y).map iI then (1 : Int32) else 0) = _
      by_cases e : mX σ z = mX σ y
      · rw [if_pos e, if_pos (by rw [e])]; rfl
      · rw [if_neg e, if_neg (fun x => e ((map_inj (wx z) (wx y)).mp x))]; rfl
    rw [e]
    exact hh
  · rename_i z p y f b
    obtain ⟨h1, h⟩ := h.e
    obtain ⟨h2, h⟩ := h.e
    obtain ⟨r1, h⟩ := gd.e h wa.t.h
    obtain ⟨r2, h⟩ := gd.e h wa.t.t.t.h
    obtain ⟨r3, r4, h⟩ := gd.e h wa.t.t.t.t.h
    have hz := isRow_ok h1
    have hy := isRow_ok h2
    refine wp_free (K _ _ h) (fun w1 w2 w3 => ⟨w1, w2, okSt.c (by show Rg _; split <;> (unfold Rg; omega)) wr⟩) (fun _ _ _ d ρ c hd9 EQ9 hh => ?_)
    rw [show cvS [vr z, .inl p, vr y, .inl f, .inl b] = [.ref z, cvV (.inl p), .ref y, cvV (.inl f), cvV (.inl b)] from rfl, cvV_i, cvV_i, cvV_i] at hc
    refine ev_rstands hO hdc hz hy hc (by omega) rfl ?_
    rw [show sX (cv ρ c σ) z = (mX σ z).map iI from rfl, show sX (cv ρ c σ) y = (mX σ y).map iI from rfl, r2.to, r3.to]
    rw [stands_ok (g := fun i => rgt (mX σ z) (uv p + i - uv f)) (h := rgt (mX σ y)) (uv b - uv f).toNat (uv f) r2 (by unfold Rg at r2 r3; omega) (fun i i1 i2 => ?_)]
    · have e : ∀ b : Bool, (if b = true then (1 : Int32) else 0) = iI (if b = true then 1 else 0) := by intro b; cases b <;> rfl
      rw [e]
      exact hh
    · have ri : Rg (uv p + i - uv f) := by unfold Rg at *; omega
      have rj : Rg i := by unfold Rg at *; omega
      refine ⟨?_, rgt_ok (wl y) rj⟩
      rw [← iI_add, ← iI_sub]
      exact rgt_ok (wl z) ri
  · rename_i z x v
    obtain ⟨h1, h⟩ := h.e
    obtain ⟨r1, h⟩ := gd.e h wa.t.h
    obtain ⟨r2, h⟩ := gd.e h wa.t.t.h
    refine wp_free (K _ _ h) (fun w1 w2 w3 => ⟨w1.setX (fun u hu => ?_) (by rw [ralt_len]; exact wl z), w2, wr⟩) (fun _ _ _ d ρ c hd9 EQ9 hh => ?_)
    · rcases ralt_mem hu with e | e
      · exact wx z u e
      · rw [e]; exact r2
    · rw [show cvS [vr z, .inl x, .inl v] = [.ref z, cvV (.inl x), cvV (.inl v)] from rfl, cvV_i, cvV_i] at hc
      refine ev_ralter hO hdc (isRow_ok h1) hc (by omega) rfl ?_
      rw [show sX (cv ρ c σ) z = (mX σ z).map iI from rfl, ralt_ok (wl z) r1]
      rw [show sC (cv ρ c σ) z = c z from rfl, cv_X0]
      exact hh
  · rename_i z x
    obtain ⟨h1, h⟩ := h.e
    obtain ⟨r1, h⟩ := gd.e h wa.t.h
    refine wp_free (K _ _ h) (fun w1 w2 w3 => ⟨w1.setX (fun u hu => wx z u (rcut_mem hu)) (Nat.le_trans rcut_len (wl z)), w2, wr⟩) (fun _ _ _ d ρ c hd9 EQ9 hh => ?_)
    rw [show cvS [vr z, .inl x] = [.ref z, cvV (.inl x)] from rfl, cvV_i] at hc
    refine ev_rcut hO hdc (isRow_ok h1) hc (by omega) rfl ?_
    rw [show sX (cv ρ c σ) z = (mX σ z).map iI from rfl, rcut_ok (wl z) r1]
    rw [show sC (cv ρ c σ) z = c z from rfl, cv_X0]
    exact hh
  · rename_i z
    obtain ⟨h1, h⟩ := h.e
    have h1 : z = 23 := Nat.eq_of_beq_eq_true h1
    subst h1
    refine wp_free (K _ _ h) (fun w1 w2 w3 => ⟨w1.rcl, w2, wr⟩) (fun _ _ _ d ρ c hd9 EQ9 hh => ?_)
    refine ev_rules hO hdc hc (by omega) rfl ?_
    rw [rcl_ok]
    exact hh
  · rename_i z x
    obtain ⟨h1, h⟩ := h.e
    obtain ⟨r1, h⟩ := gd.e h wa.t.h
    refine wp_free (K _ _ h) (fun w1 w2 w3 => ⟨w1, w2, okSt.c (sfr_rg (wx (z + 3))) wr⟩) (fun _ _ _ d ρ c hd9 EQ9 hh => ?_)
    rw [show cvS [vr z, .inl x] = [.ref z, cvV (.inl x)] from rfl, cvV_i] at hc
    refine ev_sfrom hO hdc (isShelf_mem h1) hc (by omega) rfl ?_
    rw [show sX (cv ρ c σ) (z + 3) = (mX σ (z + 3)).map iI from rfl, sfr_ok (wl (z + 3)) r1]
    exact hh
  · rename_i z x
    obtain ⟨h1, h⟩ := h.e
    obtain ⟨r1, h⟩ := gd.e h wa.t.h
    refine wp_free (K _ _ h) (fun w1 w2 w3 => ⟨w1, w2, okSt.c (sto_rg (wx (z + 3))) wr⟩) (fun _ _ _ d ρ c hd9 EQ9 hh => ?_)
    rw [show cvS [vr z, .inl x] = [.ref z, cvV (.inl x)] from rfl, cvV_i] at hc
    refine ev_sto hO hdc (isShelf_mem h1) hc (by omega) rfl ?_
    rw [show sX (cv ρ c σ) (z + 3) = (mX σ (z + 3)).map iI from rfl, sto_ok (wl (z + 3)) r1]
    exact hh
  · rename_i z x y
    obtain ⟨h1, h⟩ := h.e
    obtain ⟨r1, h⟩ := gd.e h wa.t.h
    obtain ⟨r2, h⟩ := gd.e h wa.t.t.h
    refine wp_free (K _ _ h) (fun w1 w2 w3 => ⟨w1.setX (fun u hu => wx z u (rrem_mem hu)) (Nat.le_trans rrem_len (wl z)), w2, wr⟩) (fun _ _ _ d ρ c hd9 EQ9 hh => ?_)
    rw [show cvS [vr z, .inl x, .inl y] = [.ref z, cvV (.inl x), cvV (.inl y)] from rfl, cvV_i, cvV_i] at hc
    refine ev_rrem hO hdc (isRow_ok h1) hc (by omega) rfl ?_
    rw [show sX (cv ρ c σ) z = (mX σ z).map iI from rfl, rrem_ok (wl z) r1 r2]
    rw [show sC (cv ρ c σ) z = c z from rfl, cv_X0]
    exact hh
  · exact h.elim
/-- a call -/
theorem ok_scl {av rest : List MV} {ν L dν rt' : Nat} (hO : mO μ = own) (hH : HdOK μ hd) (hdc : decode (mC μ) pc = .ok (ins, 3)) (hc : scat rest ≤ 8 → CM own ins (cvS st) ν (cvS av) (cvS rest)) (hL : L ≤ mL ν) (hr : okSt st → okSt av ∧ okSt rest)
    (K : ∀ st1 σ1, k (pc + 3) lo st1 σ1 → WP D a μ (pc + 3) lo st1 σ1 Q) (h : scl D (thH D a μ pc lo Q hd) (fun st1 σ1 => k (pc + 3) lo st1 σ1) σ av rest ν L dν rt') : WP D a μ pc lo st σ Q := by
  unfold scl at h
  obtain ⟨h1, h⟩ := h.e
  have hc := hc (Nat.le_of_ble_eq_true h1)
  split at h
  · obtain ⟨h2, h⟩ := h.e
    exact ok_prm hO hdc hc (Nat.le_of_ble_eq_true h2) hr K h
  · rename_i hν
    have hν : ¬ ν ≤ 15 := fun e => by rw [Nat.ble_eq_true_of_le e] at hν; cases hν
    obtain ⟨h2, h⟩ := h.e
    obtain ⟨h3, h⟩ := h.e
    obtain ⟨h4, h⟩ := h.e
    have h2 := Nat.le_of_ble_eq_true h2
    have h3 := Nat.le_of_ble_eq_true h3
    have ht : ∀ E σ1, thH D a μ pc lo Q hd E σ1 → (mH μ = [] ∧ Q (.inr E) σ1) ∨ ∃ x r h i, tableOf (mH μ) = x :: r ∧ (∀ lo', am_hd μ x pc E lo' = some (h, lo'.filter (fun q => !(q.1 == i) && !(q.1 + 1 == i && q.2.category == 2)))) ∧ 1 ≤ a ∧ WP D (a - 1) μ h (mfl i lo) [] σ1 Q := by
      intro E σ1 ht
      match hd, hH, ht with
      | none, hH, ht => exact Or.inl ⟨hH, ht⟩
      | some (f, t, h9, i), hH, ht =>
        obtain ⟨x, r, g1, g2⟩ := hH
        unfold thH at ht
        dsimp only at ht
        cases hb : (Nat.ble f pc && Nat.blt pc t) with
        | true =>
          rw [hb] at ht
          rw [Bool.and_eq_true] at hb
          obtain ⟨rfl, ha, hw⟩ := ht
          exact Or.inr ⟨x, r, h9, i, g1, fun lo' => g2 pc lo' (Nat.le_of_ble_eq_true hb.1) (by have := hb.2; unfold Nat.blt at this; exact Nat.le_of_ble_eq_true this), ha, hw⟩
        | false =>
          rw [hb] at ht
          exact ht.elim
    have hD' : ∀ d, D ≤ d → dnx D dν ≤ d - 1 := by
      intro d hd9
      match dν, h4 with
      | 0, _ => show D - 1 ≤ d - 1; omega
      | n + 1, h4 =>
        have := Nat.le_of_ble_eq_true h4
        show n + 1 ≤ d - 1
        omega
    match rt', h with
    | 0, h => exact ok_call hO hdc hc hν (by omega) h3 hD' (fun w => (hr w).2) h (fun σ1 hq => K _ _ hq) (fun x σ1 hq => hq.elim) (fun E σ1 hq => ht E σ1 hq)
    | _ + 1, h => exact ok_call hO hdc hc hν (by omega) h3 hD' (fun w => (hr w).2) h (fun σ1 hq => hq.elim) (fun x σ1 hq => K _ _ hq) (fun E σ1 hq => ht E σ1 hq)
theorem spl_ok : ∀ (n : Nat) {st as rest : List MV}, spl n st = some (as, rest) → st = as ++ rest ∧ as.length = n
  | 0, st, as, rest, h => by
    unfold spl at h
    cases h
    exact ⟨rfl, rfl⟩
  | n + 1, [], _, _, h => by
    unfold spl at h
    cases h
  | n + 1, v :: st, as, rest, h => by
    unfold spl at h
    split at h
    · rename_i q hq
      cases h
      obtain ⟨e1, e2⟩ := spl_ok n (as := q.1) (rest := q.2) hq
      exact ⟨by rw [e1]; rfl, by rw [List.length_cons, e2]⟩
    · cases h
theorem okSt.app {as rest : List MV} (h : okSt (as ++ rest)) : okSt as ∧ okSt rest := ⟨fun v hv => h v (List.mem_append_left _ hv), fun v hv => h v (List.mem_append_right _ hv)⟩
theorem okSt.rev {as : List MV} (h : okSt as) : okSt as.reverse := fun v hv => h v (List.mem_reverse.mp hv)
theorem cvS_app {as rest : List MV} : cvS (as ++ rest) = cvS as ++ cvS rest := List.map_append ..
theorem cvS_rev {as : List MV} : cvS as.reverse = (cvS as).reverse := List.map_reverse ..
end
