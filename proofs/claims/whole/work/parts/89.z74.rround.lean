/-! A ROUND: the reference, directives -/
def sZz (s : TS) (y : Int) (r : List Int × TM) : TS := ((s.1.1, s.1.2.1, y), r)
theorem tkD_z {most : Nat} {y : Int} {r : List Int × TM} : ∀ (ws : List (List Int)) (s : TS) (P : List (List Int)), tkD most ws (sZz s y r) P = (match tkD most ws s P with
    | .inl q => (.inl (sZz q.1 y r, q.2) : TK9)
    | .inr q => .inr q)
  | [], s, P => rfl
  | w :: ws, s, P => by
    unfold tkD
    by_cases h : most ≤ P.length
    · rw [if_pos h, if_pos h]
      rfl
    · rw [if_neg h, if_neg h]
      by_cases h2 : 60000 < s.1.1 + 10 ∨ 400000 < s.1.2.1 + 10
      · have e1 : tSp 10 (sZz s y r) = tFl 8 (sZz s y r) := if_pos h2
        have e2 : tSp 10 s = tFl 8 s := if_pos h2
        rw [e1, e2]
        rfl
      · have e1 : tSp 10 (sZz s y r) = .inl (sZz (sWk s (s.1.1 + 10) (s.1.2.1 + 10)) y r) := if_neg h2
        have e2 : tSp 10 s = .inl (sWk s (s.1.1 + 10) (s.1.2.1 + 10)) := if_neg h2
        rw [e1, e2]
        exact tkD_z ws _ _
theorem drL_z {pat : Bool} {y : Int} {r : List Int × TM} {P : List (List Int)} {T : List Int} {p : Nat} {s : TS} : drL pat P T p (sZz s y r) = (match drL pat P T p s with
    | .inl q => (.inl (sZz q.1 y r, q.2) : TK9)
    | .inr q => .inr q) := by
  unfold drL
  split
  · exact tkD_z _ _ _
  · rfl
theorem drD_z {T : List Int} {R : RU} {s : TS} {y : Int} {r : List Int × TM} : drD T R (sZz s y r) = (match drD T R s with
    | .inl q => (.inl (q.1, sZz q.2 y r) : DR9)
    | .inr q => .inr q) := by
  unfold drD
  rw [drL_z, drL_z]
  split
  · rfl
  · split
    · split
      · rfl
      · split <;> rfl
    · split
      · split <;> rfl
      · split
        · cases drL true R.2.2.1 T (wbD T 0 + 1) s <;> rfl
        · split
          · cases drL false R.2.2.2 T (wbD T 0 + 1) s <;> rfl
          · rfl
theorem dr_pg {T : List Int} {R : RU} {s : TS} (h1 : drO T = true) (h2 : 4 ≤ drW T) : drD T R s = .inl (R, s) := by
  unfold drD
  rw [if_neg (by rw [h1]; decide), if_neg (by omega), if_neg (by omega), if_neg (by omega), if_neg (by omega)]
section
variable {σ σ0 σ1 : MS} {Q : MQ9} {nw i : Nat} {M : List Int} {B : BF9} {jo : Bool} {d : RD9} {E : TE} {b : BK9}
/-- rules have been told -/
theorem BkR.di {R R' : RU} {s0 : TS} {Lt : List Int} (h : BkR σ (rdE B R Lt) nw b) (f : FrZ RDS RDK σ σ1) (hR : RuR σ1 R') (u : WkU b.1 s0) (w28 : mV σ1 246 28 = 0) (w32 : mV σ1 246 32 = s0.1.1) (w33 : mV σ1 246 33 = s0.1.2.1) : BkR σ1 (rdE B R' Lt) nw (s0, b.2) := by
  obtain ⟨r1, r2, ⟨m1, m2, m3, m4, m5⟩, r4, ⟨r5, r6⟩, ⟨r7, r8⟩, r9⟩ := h
  obtain ⟨u1, u2, u3, u4, u5, u6⟩ := u
  obtain ⟨⟨a1, a2⟩, -, ⟨c1, c2, c3, c4⟩, d1, e1⟩ := r2
  have z : ∀ y j, y ∉ RDS → y ≠ 246 → mV σ1 y j = mV σ y j := fun y j a c => f.z a c
  have k : ∀ j, j ∉ RDK → mV σ1 246 j = mV σ 246 j := fun j a => f.f a (by decide)
  have w33' : mV σ 246 33 = b.1.1.2.1 := r1.2.2.1
  have um : s0.2.2 = b.1.2.2 := by rw [u1]
  refine ⟨⟨w28, w32, w33, ?_⟩, ⟨⟨a1, (k _ (by decide)).trans a2⟩, ?_, ⟨(z _ _ (by decide) (by decide)).trans c1, c2.cg (fun k => z _ _ (by decide) (by decide)) (fun k => z _ _ (by decide) (by decide)), c3.cg (fun k => z _ _ (by decide) (by decide)) (fun k => z _ _ (by decide) (by decide)), fun j hj => (z _ _ (by decide) (by decide)).trans (c4 j hj)⟩, fun hp => ⟨(k _ (by decide)).trans (d1 hp).1, (k _ (by decide)).trans (d1 hp).2⟩, fun hp => ⟨(k _ (by decide)).trans (e1 hp).1, fun i hi => (z _ _ (by decide) (by decide)).trans ((e1 hp).2 i hi)⟩⟩, ?_, ?_, ⟨⟨(k _ (by decide)).trans r5.1, fun i hi => ?_⟩, (k _ (by decide)).trans r6⟩, ⟨?_, ?_⟩, ?_⟩
  · refine LiR.cg r1.2.2.2 (k _ (by decide)) (k _ (by decide)) (fun y j a _ => z y j ?_ (by omega)) (fun j _ => ⟨z _ _ (by decide) (by decide), z _ _ (by decide) (by decide)⟩)
    rcases a with rfl | rfl | rfl | rfl | rfl <;> decide
  · obtain ⟨q1, q2, q3⟩ := hR.2.1 (B.1, Lt, 2)
    exact ⟨q1, q2, fun m hm => ⟨(q3 m hm).1, by
      obtain ⟨-, x, x1, x2, x3, -⟩ := q3 m hm
      exact ⟨x, x1, x2, x3⟩⟩⟩
  · show TmR σ1 nw s0.2.2
    rw [um]
    exact ⟨m1.z f (by decide) (by decide), m2.z f (by decide), m3.z f (by decide) (by decide), (k _ (by decide)).trans m4, (k _ (by decide)).trans m5⟩
  · unfold UnB at r4 ⊢
    rw [k 85 (by decide), w33]
    omega
  · rw [z 320 _ (by decide) (by decide), z 321 _ (by decide) (by decide)]
    exact r5.2 i hi
  · show MkL σ1 284 b.2.1.2 s0.2.2.2.1.2.2
    rw [um]
    exact r7.cg (fun j => z _ _ (by decide) (by decide))
  · show MkL σ1 297 b.2.1.2 s0.2.2.2.2.1.2
    rw [um]
    exact r8.cg (fun j => z _ _ (by decide) (by decide))
  · refine ⟨fun k hk1 => ?_, r9.2.1, fun i hi h0 => ?_⟩
    · rw [z 303 _ (by decide) (by decide), z 304 _ (by decide) (by decide)]
      exact r9.1 k hk1
    · unfold nlA
      rw [z 317 _ (by decide) (by decide), z 318 _ (by decide) (by decide)]
      exact r9.2.2 i hi h0
theorem HdR.z9 {S9 K9 : List Nat} {F : List Int} {g : HG9} (h : HdR σ nw F g) (f : FrZ S9 K9 σ σ1) (hs : ∀ z ∈ [246, 286, 287, 288, 289, 291, 292], z ∉ S9) (hk : 74 ∉ K9) : HdR σ1 nw F g := by
  obtain ⟨h1, ⟨h2, h3⟩, h4, h5⟩ := h
  refine ⟨(f.z (hs _ (by decide)) (by decide)).trans h1, ⟨(f.f hk (hs _ (by decide))).trans h2, fun i hi => ?_⟩, fun i hi => (f.z (hs _ (by decide)) (by decide)).trans (h4 i hi), h5.cg (fun j => f.z (hs _ (by decide)) (by decide))⟩
  obtain ⟨a1, a2, a3⟩ := h3 i hi
  exact ⟨(f.z (hs _ (by decide)) (by decide)).trans a1, (f.z (hs _ (by decide)) (by decide)).trans a2, fun t ht => (f.z (hs _ (by decide)) (by decide)).trans (a3 t ht)⟩
theorem BeR9.z9 {S9 K9 : List Nat} (h : BeR9 σ nw B) (f : FrZ S9 K9 σ σ1) (hs : ∀ z ∈ [246, 286, 287, 288, 289, 290, 292, 293, 294, 295, 296, 298], z ∉ S9) (hk : ∀ k ∈ [52, 53], k ∉ K9) : BeR9 σ1 nw B := ⟨h.1.z f (fun z a => hs z (by
  revert z
  decide)), h.2.1.z f (fun z a => hs z (by
  revert z
  decide)), fun i hi => (f.z (hs _ (by decide)) (by decide)).trans (h.2.2.1 i hi), fun e => ⟨(f.f (hk _ (by decide)) (hs _ (by decide))).trans (h.2.2.2 e).1, (f.f (hk _ (by decide)) (hs _ (by decide))).trans (h.2.2.2 e).2⟩⟩
theorem ki_1 {U : List Int} (h : kiL U = 1) : U.getD 0 0 = 64 := by
  unfold kiL at h
  split at h
  · exact absurd h (by decide)
  · split at h
    · assumption
    · split at h
      · exact absurd h (by decide)
      · split at h
        · exact absurd h (by decide)
        · split at h
          · split at h <;> exact absurd h (by decide)
          · split at h <;> exact absurd h (by decide)
/-- a page's end, the reference -/
theorem R_cuts.p (hR : BkR σ E nw b) (hfl : FlB b) (hsl : b.2.2.1.2.length = b.2.2.1.1.length) (hG : GB9 0 (bkG b)) (hq : ∀ σ1, BkR σ1 E nw (cuB b) → FrZ [320] [112] σ σ1 → Q (.inl (some 1)) σ1) : R_cuts σ Q := by
  obtain ⟨r1, r2, ⟨m1, m2, m3, m4, m5⟩, r4, ⟨r5, r6⟩, ⟨r7, r8⟩, r9⟩ := hR
  have e112 : mV σ 246 112 = (b.2.1.2.length : Int) := r5.1
  have lf : b.2.1.2.length ≤ 6600 := GB9.fl hG (by decide)
  refine R_cuts.i ⟨by omega, by omega, by unfold Rg; omega, hq _ ?_ ((FrZ.wz (by decide)).tr (FrZ.wf (by decide)))⟩
  rw [e112, Int.toNat_natCast, b8_id (by decide)]
  have f : FrZ [320] [112] σ (wV (wV σ 320 b.2.1.2.length 2) 246 112 ((b.2.1.2.length : Int) + 1)) := (FrZ.wz (by decide)).tr (FrZ.wf (by decide))
  have z : ∀ y j, y ≠ 320 → y ≠ 246 → mV (wV (wV σ 320 b.2.1.2.length 2) 246 112 ((b.2.1.2.length : Int) + 1)) y j = mV σ y j := fun y j a c => f.z (by simp only [List.mem_singleton]; exact a) c
  have k : ∀ j, j ≠ 112 → mV (wV (wV σ 320 b.2.1.2.length 2) 246 112 ((b.2.1.2.length : Int) + 1)) 246 j = mV σ 246 j := fun j a => f.f (by simp only [List.mem_singleton]; exact a) (by decide)
  refine ⟨r1.z f (by decide) (by decide), r2.k f (by decide) (by decide), ⟨m1.z f (by decide) (by decide), m2.z f (by decide), m3.z f (by decide) (by decide), (k _ (by decide)).trans m4, (k _ (by decide)).trans m5⟩, ?_, ⟨ElR.sn r5 wV_self ?_ (fun h => absurd h (by decide)) (fun j hj => ⟨?_, z _ _ (by decide) (by decide)⟩), (k _ (by decide)).trans r6⟩, ⟨fun j hj => ?_, fun j hj => ?_⟩, ?_⟩
  · unfold UnB at r4 ⊢
    rw [k 85 (by decide), k 33 (by decide)]
    exact r4
  · rw [wV_ne (Or.inl (by decide)), wV_self]
    rfl
  · rw [wV_ne (Or.inl (by decide)), wV_ne (Or.inr (by omega))]
  · rw [z 284 j (by decide) (by decide)]
    exact (r7 j hj).app
  · rw [z 297 j (by decide) (by decide)]
    exact (r8 j hj).app
  · have := r9.new (σ1 := wV (wV σ 320 b.2.1.2.length 2) 246 112 ((b.2.1.2.length : Int) + 1)) (Z := [-3]) (n0 := b.2.1.1.length) (k := 0) (m0 := b.2.2.1.1.length) (qs := []) (sps := []) hfl (fun x hx => by rw [List.mem_singleton.mp hx]; decide) rfl hsl rfl (fun x hx => absurd hx List.not_mem_nil) (fun y j a _ => z y j (by omega) (by omega)) (fun y j a _ => z y j (by omega) (by omega)) (fun i hi => absurd hi (Nat.not_lt_zero _)) (fun i hi => absurd hi (Nat.not_lt_zero _))
    rw [List.map_nil, List.append_nil, List.append_nil] at this
    have e : b.2.1.2 ++ [-3] ++ seqZ b.2.1.1.length 0 = b.2.1.2 ++ [-3] := List.append_nil _
    rw [e] at this
    exact this
/-- a directive, the reference -/
theorem blr_1 (hi : i < (mlL M).length) (hk : kdL M i = 1) (hMb : smB M) (hB : BfI B) (h : RDI d i) (h15 : ¬ (60000 < d.1.1.1.1 + 15 ∨ 400000 < d.1.1.1.2.1 + 15)) (hC : CdR σ M B nw jo (b15 d.1, d.2)) (h29 : mV σ 246 29 = (i : Int) + 1) (hq : RyR Q σ M B nw false (dirD B M i (b15 d.1, d.2))) : R_directive (((mlL M).getD i (0, 0)).1 : Int) (((mlL M).getD i (0, 0)).2 : Int) σ Q := by
  obtain ⟨r0, ti, gb⟩ := h.1.sp (by omega) (by omega)
  have hC0 := hC
  obtain ⟨h1, h2, h3, h4, ⟨h5, cn, cl, ch, cb, ce⟩, h6⟩ := hC
  have h4 : RuR σ d.2.2.1 := h4
  have h2 : BkR σ (rdE B d.2.2.1 d.2.2.2.2.2) nw (b15 d.1) := h2
  have M4 := h1.2.1
  have hw := h2.2.1.1.1
  have u85 := h2.2.2.2.1
  obtain ⟨lu, le1, le2⟩ := lnU_l hi
  have so := ln_so hi (by rw [hk]; decide)
  have at0 := ki_1 (U := lnU M i) hk
  have st := h.2.1.st
  have ln : LnR σ ((mlL M).getD i (0, 0)).1 (lnU M i) := by
    have := LnR.sg (x0 := 0) (T := M) (σ := σ) ⟨by omega, fun t ht => by rw [Nat.zero_add]; exact h1.2.2.1 t ht⟩ le1 le2
    rw [Nat.zero_add] at this
    exact this
  have n10 : ∀ x ∈ lnU M i, x ≠ 10 := fun x hx => by
    obtain ⟨j, hj, e⟩ := gdi_mem hx
    rw [← e]
    have p := (ml_p (T := M) hi).1.2.2.2.1 (((mlL M).getD i (0, 0)).1 + j) (by omega) (by omega)
    have : (lnU M i).getD j 0 = M.getD (((mlL M).getD i (0, 0)).1 + j) 0 := by
      unfold lnU
      exact sgT_at (by omega)
    rw [this]
    exact p
  have hW : RxW σ (sZz (b15 d.1).1 (mV σ 246 18) (tx0 (b15 d.1).1).2) := ⟨h2.1.1, h2.1.2.1, h2.1.2.2.1, rfl⟩
  have hBd : BdR 0 0 (sZz (b15 d.1).1 (mV σ 246 18) (tx0 (b15 d.1).1).2) := ⟨ti.1.1, ti.1.2.1, by
    have := ti.1.1.1
    have : 0 ≤ (b15 d.1).1.1.1 := this
    show ((0 + 0 + 0 : Nat) : Int) ≤ (b15 d.1).1.1.1 + 100
    omega⟩
  have i197 : ∀ σ1, Q (.inl none) σ1 → R_directive_197 1 σ1 Q := fun σ1 hh => R_directive_197.i ⟨fun _ => hh, fun e => absurd e (by decide)⟩
  have pg : drO (lnU M i) = true → 4 ≤ drW (lnU M i) → dirD B M i (b15 d.1, d.2) = diD B M i (b15 d.1, d.2) := fun a1 a2 => by
    unfold dirD
    rw [dr_pg a1 a2]
  have key := R_directive.p (Q := Q) (R := d.2.2.1) (s := sZz (b15 d.1).1 (mV σ 246 18) (tx0 (b15 d.1).1).2) ln hMb.sg9 n10 (by omega) (by omega) (by rw [at0]; decide) h.2.1 h4 hW hBd (fun a1 a2 => ?_) (fun a1 a2 => ?_) (fun a1 a2 => ?_) (fun a1 R' s' σ1 x1 x2 x3 x4 => ?_) (fun R' e σ1 x1 x2 x3 x4 => ?_)
  · rw [show ((((mlL M).getD i (0, 0)).1 + (lnU M i).length : Nat) : Int) = (((mlL M).getD i (0, 0)).2 : Int) by omega] at key
    exact key
  · have e := pg a1 (by omega)
    unfold diD at e
    have t3 : drT (lnU M i) = 3 := by
      unfold drT
      rw [if_neg (by omega)]
      omega
    rw [t3, if_neg (by decide), if_neg (by decide), if_pos rfl] at e
    refine R_cuts.p h2 r0.2.2.2.1.flb r0.2.2.1.2 r0.2.1 (fun σ1 w1 w2 => i197 σ1 ?_)
    have f : FrA (AlP9 nw) σ σ1 := P9.z w2 (by decide) (by decide)
    exact hq.1 _ σ1 e (hC0.n0 (b' := cuB (b15 d.1)) hB f (fun k => w2.z (by decide) (by decide)) w1 ⟨[-3], rfl⟩) (FrD9.p f)
  · have e := pg a1 (by omega)
    unfold diD at e
    have t3 : drT (lnU M i) = 2 := by
      unfold drT
      rw [if_neg (by omega)]
      omega
    rw [t3, if_neg (by decide), if_pos rfl] at e
    refine R_register.p (S := d.2.2.1.1) (H := rdH d.2.2.1) (o := (i : Int) + 1) (E := rdE B d.2.2.1 d.2.2.2.2.2) (nw := nw) (b := b15 d.1) st hB.2.2.1 hB.1.2.2.2.2.2.2.1 (fun h9 => hB.2.2.2 (Or.inr h9)) h.2.1.hb ⟨h6.2.1, h6.2.2.1, fun a => h6.2.2.2 (Or.inr a), h4.hy, h4.1, h29⟩ h2 r0.2.2.2.1.flb r0.2.2.1.2 gb (fun b' σ1 w1 w2 w3 => i197 σ1 ?_) (fun x σ1 w1 w2 w3 w4 => i197 σ1 ?_)
    · have f : FrA (AlP9 nw) σ σ1 := P9.z w3 (by decide) (by decide)
      exact hq.1 (b', d.2) σ1 (e.trans (by show upB _ _ = _; unfold upB; rw [w1])) (hC0.n0 hB f (fun k => w3.z (by decide) (by decide)) w2 (ixD_x w1)) (FrD9.p f)
    · have f : FrA (AlP9 nw) σ σ1 := P9.z w4 (by decide) (by decide)
      have e85 : mV σ1 246 85 = mV σ 246 85 := w4.f (by decide) (by decide)
      have u1 := u85.1
      have u2 := u85.2
      exact hq.2 (d.2.2.1, x) σ1 (e.trans (by show upB _ _ = _; unfold upB; rw [w1])) (ixD_k9 w1) w2 ⟨by rw [e85]; exact u1, by rw [e85]; omega⟩ (h4.r9 (P9.r f)) (FrD9.p f)
  · have e := pg a1 (by omega)
    unfold diD at e
    have t3 : drT (lnU M i) = 1 := by
      unfold drT
      rw [if_neg (by omega)]
      omega
    rw [t3, if_pos rfl] at e
    refine R_contents.p (S := d.2.2.1.1) (o := (i : Int) + 1) (E := rdE B d.2.2.1 d.2.2.2.2.2) (nw := nw) (b := b15 d.1) st hB.2.1 hB.1.2.2.2.2.2.2.1 (fun h9 => hB.2.2.2 (Or.inl h9)) h4.1 h29 h6.1 (fun a => h6.2.2.2 (Or.inl a)) h2 r0.2.2.2.1.flb r0.2.2.1.2 gb (fun b' σ1 w1 w2 w3 => i197 σ1 ?_) (fun x σ1 w1 w2 w3 w4 => i197 σ1 ?_)
    · have f : FrA (AlP9 nw) σ σ1 := P9.z w3 (by decide) (by decide)
      exact hq.1 (b', d.2) σ1 (e.trans (by show upB _ _ = _; unfold upB; rw [w1])) (hC0.n0 hB f (fun k => w3.z (by decide) (by decide)) w2 (ctD_x w1)) (FrD9.p f)
    · have f : FrA (AlP9 nw) σ σ1 := P9.z w4 (by decide) (by decide)
      have e85 : mV σ1 246 85 = mV σ 246 85 := w4.f (by decide) (by decide)
      have u1 := u85.1
      have u2 := u85.2
      exact hq.2 (d.2.2.1, x) σ1 (e.trans (by show upB _ _ = _; unfold upB; rw [w1])) (ctD_k9 w1) w2 ⟨by rw [e85]; exact u1, by rw [e85]; omega⟩ (h4.r9 (P9.r f)) (FrD9.p f)
  · rw [drD_z] at x1
    cases hd : drD (lnU M i) d.2.2.1 (b15 d.1).1 with
    | inr q =>
      simp only [hd] at x1
      cases x1
    | inl q =>
      simp only [hd] at x1
      obtain ⟨R0, s0⟩ := q
      have x1 := Sum.inl.inj x1
      have eR : R0 = R' := congrArg Prod.fst x1
      have es : sZz s0 (mV σ 246 18) (tx0 (b15 d.1).1).2 = s' := congrArg Prod.snd x1
      subst eR
      have u : WkU (b15 d.1).1 s0 := drD_u.1 _ hd
      have w32 : mV σ1 246 32 = s0.1.1 := by rw [x3.2.1, ← es]; rfl
      have w33 : mV σ1 246 33 = s0.1.2.1 := by rw [x3.2.2.1, ← es]; rfl
      have k2 := BkR.di h2 x4 x2 u x3.1 w32 w33
      refine hq.1 ((s0, (b15 d.1).2), d.2.1, R0, d.2.2.2) σ1 ?_ ⟨h1.z x4 (by decide) (by decide), k2, h3.z9 x4 (by decide) (by decide), x2, ⟨fun k hk => (x4.z (by decide) (by decide)).trans (h5 k hk), cn, cl, fun k hk => (x4.z (by decide) (by decide)).trans (ch k hk), cb, fun e => absurd e (by decide)⟩, h6.z9 x4 (by decide) (by decide)⟩ (FrD9.di x4)
      unfold dirD
      have hd' : drD (lnU M i) (b15 d.1, d.2).2.2.1 (b15 d.1, d.2).1.1 = .inl (R0, s0) := hd
      rw [hd']
      have t0 : drT (lnU M i) = 0 := if_pos a1
      show diD B M i _ = _
      unfold diD
      rw [t0, if_neg (by decide), if_neg (by decide), if_neg (by decide)]
  · rw [drD_z] at x1
    cases hd : drD (lnU M i) d.2.2.1 (b15 d.1).1 with
    | inl q =>
      simp only [hd] at x1
      cases x1
    | inr q =>
      simp only [hd] at x1
      have x1 := Sum.inr.inj x1
      have hev := drD_u.2 _ hd
      rw [x1] at hev hd
      have hev : (b15 d.1).1.1.2.1 ≤ e.2.2 := hev
      have w33' : mV σ 246 33 = (b15 d.1).1.1.2.1 := h2.1.2.2.1
      have e85 : mV σ1 246 85 = mV σ 246 85 := x4.f (by decide) (by decide)
      have u1 := u85.1
      have u2 := u85.2
      refine hq.2 (R', e) σ1 ?_ x3.2.1 ⟨x3.1, x3.2.2⟩ ⟨by rw [e85]; exact u1, by rw [e85, x3.2.2.2]; omega⟩ x2 (FrD9.di x4)
      unfold dirD
      have hd' : drD (lnU M i) (b15 d.1, d.2).2.2.1 (b15 d.1, d.2).1.1 = .inr (R', e) := hd
      rw [hd']
end
