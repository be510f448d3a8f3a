/-! EVERY CALL: class and reference answer alike, and what holds between calls holds again -/
section
variable {σ : MS} {ρ : MR9} {c : Nat → Nat} {w : Nat → Int32}
theorem Inv9.mem (h : Inv9 σ) : MemR σ := by
  obtain ⟨-, -, -, hM, -⟩ := h
  exact hM
theorem Inv9.pr (h : Inv9 σ) : PrR σ := by
  obtain ⟨-, -, -, -, -, -, -, hP, -⟩ := h
  exact hP
theorem Inv9.ke (h : Inv9 σ) : KeR σ := by
  obtain ⟨-, -, -, -, -, -, -, -, hK, -⟩ := h
  exact hK
theorem Inv9.an (h : Inv9 σ) : AnR σ := by
  obtain ⟨-, -, -, -, -, -, hA, -⟩ := h
  exact hA
theorem Inv9.hy (h : Inv9 σ) : HyP σ := by
  obtain ⟨-, -, -, -, -, -, -, -, -, hH, -⟩ := h
  exact hH
/-- calls that only tell -/
theorem agr_U {D D' μ ν : Nat} {lo lo' : MLo} {T R : MS → MQ9 → Prop} (hT : ∀ Q, T σ Q → WP D 0 μ 0 lo [] σ Q) (hR : ∀ Q, R σ Q → WP D' 0 ν 0 lo' [] σ Q) (h : Inv9 σ) (ag : Agr T R σ) : WP D 0 μ 0 lo [] σ (ThP D' ν lo' (exN 0) (exN 1)) := by
  rcases ag with ⟨v, t1, r1⟩ | ⟨e, t, het, t1, r1⟩
  · exact hT _ (t1 _ (Or.inl ⟨v, rfl, hR _ (r1 _ ⟨rfl, wV_self, h.t⟩)⟩))
  · rcases het with ⟨rfl, rfl⟩ | ⟨rfl, rfl⟩
    · exact hT _ (t1 _ (Or.inr (Or.inl ⟨rfl, hR _ (r1 _ ⟨⟨0, rfl⟩, wV_self, h.t⟩)⟩)))
    · exact hT _ (t1 _ (Or.inr (Or.inr ⟨rfl, hR _ (r1 _ ⟨⟨0, rfl⟩, wV_self, h.t⟩)⟩)))
theorem call_0 (h : Inv9 σ) (wf : WF σ) (ck : CK c) : Pair 146 303 [.long (lgw (w 1) (w 2)), .long (lgw (w 3) (w 4)), .long (lgw (w 5) (w 6))] (cv ρ c σ) (KQ ρ.2.1 ρ.2.2 c) :=
  pair9 (D := 7) (D' := 6) (a := 0) (feed_b (th := fun _ _ => False) (th' := fun _ _ => False) (Q := fun _ s => Inv9 s) h.mem (fun r σ' hM f => h.m hM f)) (by decide) (by decide) (by decide) wf ck lo_l lo_l ar_l ar_l
theorem call_1 (h : Inv9 σ) (wf : WF σ) (ck : CK c) : Pair 147 306 [] (cv ρ c σ) (KQ ρ.2.1 ρ.2.2 c) :=
  pair9 (D := 7) (D' := 7) (a := 0) (write_b (th := fun _ _ => False) (th' := fun _ _ => False) (Q := fun _ s => Inv9 s) h.mem (fun σ' hM f => h.m hM f)) (by decide) (by decide) (by decide) wf ck lo_1 lo_r rfl rfl
theorem call_2 (h : Inv9 σ) (wf : WF σ) (ck : CK c) : Pair 148 308 [] (cv ρ c σ) (KQ ρ.2.1 ρ.2.2 c) :=
  pair9 (D := 7) (D' := 7) (a := 0) (add_b (th := fun _ _ => False) (th' := fun _ _ => False) (Q := fun _ s => Inv9 s) h.mem (fun r σ' hM f => h.m hM f)) (by decide) (by decide) (by decide) wf ck lo_1 lo_r rfl rfl
theorem call_4 (h : Inv9 σ) (wf : WF σ) (ck : CK c) : Pair 150 312 [] (cv ρ c σ) (KQ ρ.2.1 ρ.2.2 c) :=
  pair9 (D := 6) (D' := 6) (a := 0) (back_b (th := fun _ _ => False) (th' := fun _ _ => False) (Q := fun _ s => Inv9 s) h.mem (fun r σ' hM f => h.m hM f)) (by decide) (by decide) (by decide) wf ck lo_1 lo_r rfl rfl
theorem call_5 (h : Inv9 σ) (wf : WF σ) (ck : CK c) : Pair 151 313 [.int (w 1)] (cv ρ c σ) (KQ ρ.2.1 ρ.2.2 c) :=
  pair9 (D := 6) (D' := 10) (a := 0) (find_b (x := (w 1).toInt) (th := fun _ _ => False) (th' := fun _ _ => False) (Q := fun _ s => Inv9 s) (Rg.of _) h.mem (fun r σ' hM f => h.m hM f)) (by decide) (by decide) (by decide) wf ck lo_a lo_a ar_a ar_a
theorem call_6 (h : Inv9 σ) (wf : WF σ) (ck : CK c) : Pair 152 314 [.int (w 1)] (cv ρ c σ) (KQ ρ.2.1 ρ.2.2 c) :=
  pair9 (D := 6) (D' := 6) (a := 0) (letter_b (x := (w 1).toInt) (th := fun _ _ => False) (th' := fun _ _ => False) (Q := fun _ s => Inv9 s) (Rg.of _) h.mem (fun r σ' hM f => h.m hM f)) (by decide) (by decide) (by decide) wf ck lo_a lo_a ar_a ar_a
theorem call_7 (h : Inv9 σ) (wf : WF σ) (ck : CK c) : Pair 153 302 [] (cv ρ c σ) (KQ ρ.2.1 ρ.2.2 c) :=
  pair9 (D := 303) (D' := 305) (a := 1) (set_b (a := 1) (th := fun _ _ => False) (th' := fun _ _ => False) (Q := fun _ s => Inv9 s) (by decide) h (fun v σ' hI => hI)) (by decide) (by decide) (by decide) wf ck lo_1 lo_r rfl rfl
theorem call_14 (h : Inv9 σ) (wf : WF σ) (ck : CK c) : Pair 160 323 [] (cv ρ c σ) (KQ ρ.2.1 ρ.2.2 c) := by
  obtain ⟨E, z, nw, hM, ht, -, hA, hP, -⟩ := id h
  have pr : mV σ 212 0 = 0 ↔ mV σ 246 114 = 0 := by
    rcases hP with ⟨p1, p2⟩ | ⟨p1, p2, -⟩
    · exact ⟨fun _ => p2, fun _ => p1⟩
    · refine ⟨fun h9 => ?_, fun h9 => ?_⟩
      · rw [p1] at h9
        exact absurd h9 (by decide)
      · rw [p2] at h9
        exact absurd h9 (by decide)
  exact pair9 (D := 7) (D' := 7) (a := 0) (labelled_b (th := fun _ _ => False) (th' := fun _ _ => False) (Q := fun _ s => Inv9 s) hM ht hA pr (fun v σ' hM' _ hA' f => h.lb hM' hA' f.1 f.2.1 (fun y k h1 h2 h3 => f.2.2 y k (fun h9 => h1 (by
    simp only [List.mem_cons, List.not_mem_nil, or_false] at h9 ⊢
    omega)) h3))) (by decide) (by decide) (by decide) wf ck lo_1 lo_r rfl rfl
theorem call_15 (h : Inv9 σ) (wf : WF σ) (ck : CK c) : Pair 161 324 [] (cv ρ c σ) (KQ ρ.2.1 ρ.2.2 c) := by
  obtain ⟨E, z, nw, hM, ht, ⟨hb1, -⟩, hA, -⟩ := id h
  refine pair9 (D := 302) (D' := 301) (a := 1) (tell_b (a := 1) (th := fun _ _ => False) (th' := fun _ _ => False) (Q := fun _ s => Inv9 s) (by decide) hM ht hA (fun v σ' hM' ht' hA' f => h.tl hM' ht' hb1 (fun E' z' nw' t' => ?_) hA' f)) (by decide) (by decide) (by decide) wf ck lo_1 lo_r rfl rfl
  have e1 : mV σ 246 59 = (nw' : Int) := t'.2.2.1
  have e2 : mV σ 246 59 = (nw : Int) := ht.2.2.1
  omega
theorem call_16 (h : Inv9 σ) (wf : WF σ) (ck : CK c) : Pair 162 325 [] (cv ρ c σ) (KQ ρ.2.1 ρ.2.2 c) :=
  pair9 (D := 9) (D' := 9) (a := 0) (hyphens_b (th := fun _ _ => False) (th' := fun _ _ => False) (Q := fun _ s => Inv9 s) h.mem h.hy h.an (fun v σ' hM' _ hA' f => h.lb hM' hA' f.1 f.2.1 (fun y k h1 h2 h3 => f.2.2 y k (fun h9 => h1 (by
    simp only [List.mem_cons, List.not_mem_nil, or_false] at h9 ⊢
    omega)) h2 h3))) (by decide) (by decide) (by decide) wf ck lo_1 lo_r rfl rfl
/-- calls that answer always, and change nothing -/
theorem agr_P {D D' μ ν : Nat} {lo lo' : MLo} {T R : MS → MQ9 → Prop} (hT : ∀ Q, T σ Q → WP D 0 μ 0 lo [] σ Q) (hR : ∀ Q, R σ Q → WP D' 0 ν 0 lo' [] σ Q) (h : Inv9 σ) (ag : ∃ v : Int, (∀ Q : MQ9, Q (.inl (some v)) σ → T σ Q) ∧ (∀ Q : MQ9, Q (.inl (some v)) (wV σ 246 0 0) → R σ Q)) : WP D 0 μ 0 lo [] σ (kI (fun _ _ => False) fun v σ1 => WP D' 0 ν 0 lo' [] σ1 (kI (fun _ _ => False) fun v' σ2 => v' = v ∧ Inv9 σ2)) := by
  obtain ⟨v, t1, r1⟩ := ag
  exact hT _ (t1 _ (hR _ (r1 _ ⟨rfl, h.t⟩)))
theorem answer_v {k : Int} (hk : Rg k) (h : AnR σ) : ∃ v : Int, (∀ Q : MQ9, Q (.inl (some v)) σ → T_answer k σ Q) ∧ (∀ Q : MQ9, Q (.inl (some v)) (wV σ 246 0 0) → R_answer k σ Q) := by
  obtain ⟨h1, h2, h3⟩ := h
  refine ⟨rgt (mX σ 5) k, fun Q hq => T_answer.i ⟨hk, hq⟩, fun Q hq => R_answer.i ⟨hk, fun a => ?_, fun a => ⟨hk, fun b => ?_, fun b => ⟨a, by omega, ?_⟩⟩⟩⟩
  · rw [rgt_o (Or.inl a)] at hq; exact hq
  · rw [rgt_o (Or.inr (by rw [← h1]; exact b))] at hq; exact hq
  · have e : rgt (mX σ 5) k = (mX σ 5).getD k.toNat 0 := by
      have := rgt_n (L := mX σ 5) (i := k.toNat) (by omega)
      rw [show ((k.toNat : Nat) : Int) = k by omega] at this
      exact this
    rw [h3 _ (by omega), ← e]
    exact hq
theorem call_17 (h : Inv9 σ) (wf : WF σ) (ck : CK c) : Pair 163 326 [.int (w 1)] (cv ρ c σ) (KQ ρ.2.1 ρ.2.2 c) :=
  pair9 (D := 6) (D' := 6) (a := 0) (agr_P (T := T_answer (w 1).toInt) (R := R_answer (w 1).toInt) (fun _ h => h) (fun _ h => h) h (answer_v (Rg.of _) h.an)) (by decide) (by decide) (by decide) wf ck lo_a lo_a ar_a ar_a
theorem call_8 (h : Inv9 σ) (wf : WF σ) (ck : CK c) : PairT 154 317 "java/lang/IllegalStateException" [] (cv ρ c σ) (KQ ρ.2.1 ρ.2.2 c) := by
  refine pairT9 (D := 7) (D' := 6) (lo := [(0, vr 0)]) (lo' := [(0, vr 246)]) ?_ (by decide) (by decide) wf ck lo_1 lo_r rfl rfl
  rcases pages_t h.pr with ⟨v, t1, r1⟩ | ⟨t1, r1⟩
  · exact t1 _ (Or.inl ⟨v, rfl, r1 _ ⟨rfl, wV_self, h.t⟩⟩)
  · exact t1 _ (Or.inr ⟨rfl, r1 _ ⟨⟨0, rfl⟩, wV_self, h.t⟩⟩)
theorem call_9 (h : Inv9 σ) (wf : WF σ) (ck : CK c) : PairU 155 318 "java/lang/IllegalStateException" "java/lang/IndexOutOfBoundsException" [.int (w 1)] (cv ρ c σ) (KQ ρ.2.1 ρ.2.2 c) :=
  pairU9 (D := 8) (D' := 7) (E := exN 0) (E2 := exN 1) (agr_U (T := T_lines (w 1).toInt) (R := R_lines (w 1).toInt) (fun _ h => h) (fun _ h => h) h (lines_b (Rg.of _) h.pr)) (by decide) (by decide) wf ck lo_a lo_a ar_a ar_a
theorem call_10 (h : Inv9 σ) (wf : WF σ) (ck : CK c) : PairU 156 319 "java/lang/IllegalStateException" "java/lang/IndexOutOfBoundsException" [.int (w 1), .int (w 2)] (cv ρ c σ) (KQ ρ.2.1 ρ.2.2 c) :=
  pairU9 (D := 9) (D' := 7) (E := exN 0) (E2 := exN 1) (agr_U (T := T_length (w 1).toInt (w 2).toInt) (R := R_length (w 1).toInt (w 2).toInt) (fun _ h => h) (fun _ h => h) h (length_b (Rg.of _) (Rg.of _) h.pr)) (by decide) (by decide) wf ck lo_b lo_b ar_b ar_b
theorem call_11 (h : Inv9 σ) (wf : WF σ) (ck : CK c) : PairU 157 320 "java/lang/IllegalStateException" "java/lang/IndexOutOfBoundsException" [.int (w 1), .int (w 2), .int (w 3)] (cv ρ c σ) (KQ ρ.2.1 ρ.2.2 c) :=
  pairU9 (D := 10) (D' := 8) (E := exN 0) (E2 := exN 1) (agr_U (T := T_sign (w 1).toInt (w 2).toInt (w 3).toInt) (R := R_sign (w 1).toInt (w 2).toInt (w 3).toInt) (fun _ h => h) (fun _ h => h) h (sign_b (Rg.of _) (Rg.of _) (Rg.of _) h.pr)) (by decide) (by decide) wf ck lo_c lo_c ar_c ar_c
theorem call_12 (h : Inv9 σ) (wf : WF σ) (ck : CK c) : PairU 158 321 "java/lang/IllegalStateException" "java/lang/IndexOutOfBoundsException" [.int (w 1), .int (w 2), .int (w 3)] (cv ρ c σ) (KQ ρ.2.1 ρ.2.2 c) :=
  pairU9 (D := 10) (D' := 8) (E := exN 0) (E2 := exN 1) (agr_U (T := T_style (w 1).toInt (w 2).toInt (w 3).toInt) (R := R_style (w 1).toInt (w 2).toInt (w 3).toInt) (fun _ h => h) (fun _ h => h) h (style_b (Rg.of _) (Rg.of _) (Rg.of _) h.pr)) (by decide) (by decide) wf ck lo_c lo_c ar_c ar_c
theorem call_13 (h : Inv9 σ) (wf : WF σ) (ck : CK c) : PairU 159 322 "java/lang/IllegalStateException" "java/lang/IndexOutOfBoundsException" [.int (w 1), .int (w 2)] (cv ρ c σ) (KQ ρ.2.1 ρ.2.2 c) :=
  pairU9 (D := 9) (D' := 7) (E := exN 0) (E2 := exN 1) (agr_U (T := T_origin (w 1).toInt (w 2).toInt) (R := R_origin (w 1).toInt (w 2).toInt) (fun _ h => h) (fun _ h => h) h (origin_b (Rg.of _) (Rg.of _) h.pr)) (by decide) (by decide) wf ck lo_b lo_b ar_b ar_b
/-- the tape is emptied on both sides, what was thrown is told -/
theorem call_3 (h : Inv9 σ) (wf : WF σ) (ck : CK c) : PairT 149 311 "java/lang/IllegalArgumentException" [.int (w 1)] (cv ρ c σ) (KQ ρ.2.1 ρ.2.2 c) := by
  refine pairT9 (D := 9) (D' := 10) (lo := [(0, vr 0), (1, vi (w 1).toInt)]) (lo' := [(0, vr 246), (1, vi (w 1).toInt)]) ?_ (by decide) (by decide) wf ck lo_a lo_a ar_a ar_a
  by_cases hx : 0 ≤ (w 1).toInt ∧ (w 1).toInt ≤ 7
  · have key := replace_c (th := fun _ _ => False) (th' := fun _ _ => False) (Q := fun _ s => mV s 246 0 = 0 ∧ Inv9 s) hx h.mem (fun r σ' hM f h0 => ⟨h0, h.m hM f⟩)
    refine WP.mono key (fun o s hq => ?_)
    match o, hq with
    | .inl (some v), hq =>
      refine Or.inl ⟨v, rfl, WP.mono hq (fun o2 s2 hq2 => ?_)⟩
      match o2, hq2 with
      | .inl (some v'), hq2 =>
        obtain ⟨rfl, h1, h2⟩ := hq2
        exact ⟨rfl, h1, h2⟩
  · obtain ⟨t1, r1⟩ := replace_t (σ := σ) (Rg.of (w 1)) hx
    obtain ⟨-, r2⟩ := replace_t (σ := wX σ 1 []) (Rg.of (w 1)) hx
    have hM := h.mem
    obtain ⟨ma, mf⟩ := add_no hM
    have i1 : Inv9 (wV (wV (wX σ 1 []) 246 0 0) 246 6 0) := h.m ma mf
    refine t1 (Or.inr ⟨rfl, ?_⟩)
    exact r2 ⟨⟨0, rfl⟩, wV_self, i1.t⟩
theorem call_18 (h : Inv9 σ) (wf : WF σ) (ck : CK c) : PairT 164 327 "java/lang/IllegalStateException" [] (cv ρ c σ) (KQ ρ.2.1 ρ.2.2 c) := by
  refine pairT9 (D := 8) (D' := 6) (lo := [(0, vr 0)]) (lo' := [(0, vr 246)]) ?_ (by decide) (by decide) wf ck lo_1 lo_r rfl rfl
  rcases keep_b h.pr with ⟨t1, r1⟩ | ⟨v, σ1, t1, r1⟩
  · exact t1 _ (Or.inr ⟨rfl, r1 _ ⟨⟨0, rfl⟩, wV_self, h.t⟩⟩)
  · refine t1 _ (Or.inl ⟨v, rfl, r1 _ (fun σ2 hp hk f h0 => ⟨rfl, h0, ?_⟩)⟩)
    obtain ⟨⟨p1, p2, p3, p4⟩, ⟨m1, m2, m3, m4⟩, ⟨t9, c9, hP⟩, e1, e2, e3⟩ := h.mem
    obtain ⟨fx, fb, fv⟩ := f
    have v6 : ∀ k, k ∉ [0, 115, 135] → mV σ2 246 k = mV σ 246 k := fun k hk => fv 246 k (by decide) (Or.inr hk)
    have vz : ∀ y k, y ∉ [229, 329, 330, 331] → y ≠ 246 → mV σ2 y k = mV σ y k := fun y k h1 h2 => fv y k h1 (Or.inl h2)
    have x1 : mX σ2 1 = mX σ 1 := fx _ (by decide)
    have x3 : mX σ2 3 = mX σ 3 := fx _ (by decide)
    have x5 : mX σ2 5 = mX σ 5 := fx _ (by decide)
    refine h.w ⟨⟨?_, ?_, ?_, ?_⟩, ⟨?_, ?_, ?_, ?_⟩, ⟨t9, c9, hP.cg (fun j hj => fx _ (by
      simp only [List.mem_cons, List.not_mem_nil, or_false]
      omega)) (fun k => vz _ _ (by decide) (by decide)) (fun k => vz _ _ (by decide) (by decide)) (v6 _ (by decide)) (vz _ _ (by decide) (by decide)) (vz _ _ (by decide) (by decide))⟩, (vz _ _ (by decide) (by decide)).trans (e1.trans (v6 _ (by decide)).symm), by rw [vz _ _ (by decide) (by decide)]; exact e2, by rw [vz _ _ (by decide) (by decide)]; exact e3⟩ ⟨?_, ?_, ?_⟩ hk ⟨fun q hq => fx q (fun h9 => hq (by
      simp only [List.mem_cons, List.not_mem_nil, or_false] at h9 ⊢
      omega)), fb, fun y k h1 h2 h3 => fv y k (fun h9 => h1 (by
      unfold WZ9
      simp only [List.mem_cons, List.not_mem_nil, or_false] at h9 ⊢
      omega)) (by
      by_cases e6 : y = 246
      · exact Or.inr (fun h9 => h3 ⟨e6, by
          simp only [List.mem_cons, List.not_mem_nil, or_false] at h9 ⊢
          omega⟩)
      · exact Or.inl e6), Int.le_of_eq (vz _ _ (by decide) (by decide)).symm⟩
    · rw [x1]; exact (v6 _ (by decide)).trans p1
    · rw [x1]; exact fun i hi => (vz _ _ (by decide) (by decide)).trans (p2 i hi)
    · rw [x1]; exact p3
    · rw [x1]; exact p4
    · rw [x3]; exact (v6 _ (by decide)).trans m1
    · rw [x3]; exact fun i hi => (vz _ _ (by decide) (by decide)).trans (m2 i hi)
    · rw [x3]; exact m3
    · rw [x3]; exact m4
    · rw [x5]; exact (v6 _ (by decide)).trans h.an.1
    · rw [x5]; exact h.an.2.1
    · rw [x5]; exact fun i hi => (vz _ _ (by decide) (by decide)).trans (h.an.2.2 i hi)
theorem call_19 (h : Inv9 σ) (wf : WF σ) (ck : CK c) : PairU 165 332 "java/lang/IllegalStateException" "java/lang/IllegalArgumentException" [.int (w 1)] (cv ρ c σ) (KQ ρ.2.1 ρ.2.2 c) := by
  refine pairU9 (D := 9) (D' := 10) (E := exN 0) (E2 := exN 2) (lo := [(0, vr 0), (1, vi (w 1).toInt)]) (lo' := [(0, vr 246), (1, vi (w 1).toInt)]) ?_ (by decide) (by decide) wf ck lo_a lo_a ar_a ar_a
  rcases changed_b (Rg.of (w 1)) h.pr h.ke with ⟨e, t, het, t1, r1⟩ | ⟨v, t1, r1⟩
  · rcases het with ⟨rfl, rfl⟩ | ⟨rfl, rfl⟩
    · exact t1 _ (Or.inr (Or.inl ⟨rfl, r1 _ ⟨⟨0, rfl⟩, wV_self, h.t⟩⟩))
    · exact t1 _ (Or.inr (Or.inr ⟨rfl, r1 _ ⟨⟨0, rfl⟩, wV_self, h.t⟩⟩))
  · refine t1 _ (fun σ1 f1 => Or.inl ⟨v, rfl, r1 σ1 f1 _ (fun σ2 f2 => ⟨rfl, (f2.f List.not_mem_nil (by decide)).trans wV_self, ?_⟩)⟩)
    have hh := h.t (t := 0)
    obtain ⟨⟨p1, p2, p3, p4⟩, ⟨m1, m2, m3, m4⟩, ⟨t9, c9, hP⟩, e1, e2, e3⟩ := h.mem
    obtain ⟨gx, gb, gv⟩ := f1
    have fx : ∀ q, q ≠ 224 → mX σ2 q = mX σ q := fun q hq => by
      rw [f2.1]
      exact gx q (fun h9 => hq (List.mem_singleton.mp h9))
    have fb : mB σ2 = mB σ := f2.2.1.trans gb
    have g1 : ∀ y k, mV σ1 y k = mV σ y k := fun y k => gv y k List.not_mem_nil (Or.inr List.not_mem_nil)
    have fv : ∀ y k, y ∉ [332, 333, 334, 335] → ¬ (y = 246 ∧ k = 0) → mV σ2 y k = mV σ y k := fun y k h1 h2 => (f2.2.2 y k h1 (Or.inr List.not_mem_nil)).trans ((wV_ne (by omega)).trans (g1 y k))
    have x1 : mX σ2 1 = mX σ 1 := fx _ (by decide)
    have x3 : mX σ2 3 = mX σ 3 := fx _ (by decide)
    have x5 : mX σ2 5 = mX σ 5 := fx _ (by decide)
    refine h.w ⟨⟨?_, ?_, ?_, ?_⟩, ⟨?_, ?_, ?_, ?_⟩, ⟨t9, c9, hP.cg (fun j hj => fx _ (by omega)) (fun k => fv _ _ (by decide) (by omega)) (fun k => fv _ _ (by decide) (by omega)) (fv _ _ (by decide) (by omega)) (fv _ _ (by decide) (by omega)) (fv _ _ (by decide) (by omega))⟩, (fv _ _ (by decide) (by omega)).trans (e1.trans (fv _ _ (by decide) (by omega)).symm), by rw [fv _ _ (by decide) (by omega)]; exact e2, by rw [fv _ _ (by decide) (by omega)]; exact e3⟩ ⟨?_, ?_, ?_⟩ (h.ke.cg (fun q hq => fx q (fun h9 => by rw [h9] at hq; exact absurd hq (by decide))) (fun y hy k => fv y k (fun h9 => by
      simp only [List.mem_cons, List.not_mem_nil, or_false] at h9 hy
      omega) (fun h9 => by rw [h9.1] at hy; exact absurd hy (by decide))) (fun k hk => fv 246 k (by decide) (fun h9 => by rw [h9.2] at hk; exact absurd hk (by decide))) (fv _ _ (by decide) (by omega))) ⟨fun q hq => fx q (fun h9 => hq (by rw [h9]; decide)), fb, fun y k h1 h2 h3 => fv y k (fun h9 => h1 (by
      unfold WZ9
      simp only [List.mem_cons, List.not_mem_nil, or_false] at h9 ⊢
      omega)) (fun h9 => h3 ⟨h9.1, by rw [h9.2]; decide⟩), Int.le_of_eq (fv _ _ (by decide) (by omega)).symm⟩
    · rw [x1]; exact (fv _ _ (by decide) (by omega)).trans p1
    · rw [x1]; exact fun i hi => (fv _ _ (by decide) (by omega)).trans (p2 i hi)
    · rw [x1]; exact p3
    · rw [x1]; exact p4
    · rw [x3]; exact (fv _ _ (by decide) (by omega)).trans m1
    · rw [x3]; exact fun i hi => (fv _ _ (by decide) (by omega)).trans (m2 i hi)
    · rw [x3]; exact m3
    · rw [x3]; exact m4
    · rw [x5]; exact (fv _ _ (by decide) (by omega)).trans h.an.1
    · rw [x5]; exact h.an.2.1
    · rw [x5]; exact fun i hi => (fv _ _ (by decide) (by omega)).trans (h.an.2.2 i hi)
end
