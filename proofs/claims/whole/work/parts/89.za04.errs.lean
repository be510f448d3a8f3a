/-! FAULTS: their numbers and the work at them -/
def VE9 (e : Int × Int × Int) : Prop := 1 ≤ e.1 ∧ e.1 ≤ 11 ∧ e.2.2 ≤ 400000
section
variable {o hg sp : Int} {E : TE} {H : HY9} {S P T Lt : List Int} {item : Bool} {b b' : BK9} {g : HG9} {e : Int × Int × Int}
theorem ve_wk {D : Nat} {a : Bool} {f : List (List Int)} {s : TS} (h : s.1.2.1 ≤ 400000) (h1 : wkD D E a f T s = .inr e) : VE9 e := by
  have q1 := fk_wk e h1
  have q2 := (ek_wk h).2 e h1
  exact ⟨q1.1, q1.2, q2⟩
theorem gAll_ve {fw : Bool} : ∀ {X : List (List Int × Int)} {G : GS9}, G.1.2 ≤ 400000 → (∀ G', gAll o fw X G = .inl G' → G'.1.2 ≤ 400000) ∧ ∀ e, gAll o fw X G = .inr e → VE9 e
  | [], G, h => ⟨fun G' e => by
    rw [← Sum.inl.inj e]
    exact h, fun e h => by cases h⟩
  | x :: r, G, h => by
    unfold gAll
    cases h1 : gFin o x.1 x.2 fw G with
    | inl G1 =>
      have h2 : G1.1.2 ≤ 400000 := by
        unfold gFin at h1
        split at h1
        · cases h1
        · unfold gSp at h1
          split at h1
          · cases h1
          · rw [← Sum.inl.inj h1]
            show G.1.2 + (20 + (x.1.length : Int)) ≤ 400000
            omega
      exact gAll_ve (X := r) h2
    | inr e1 =>
      refine ⟨fun G' e => (by cases e), fun e he => ?_⟩
      have he : e1 = e := Sum.inr.inj he
      rw [← he]
      unfold gFin at h1
      split at h1
      · rw [← Sum.inr.inj h1]
        exact ⟨(by decide : (1 : Int) ≤ 9), (by decide : (9 : Int) ≤ 11), h⟩
      · unfold gSp at h1
        split at h1
        · rw [← Sum.inr.inj h1]
          exact ⟨(by decide : (1 : Int) ≤ 8), (by decide : (8 : Int) ≤ 11), h⟩
        · cases h1
theorem ntD_ve {W : Int} : ∀ {N : List (List Int)} {n : Int} {G : GS9} {e : Int × Int × Int}, G.1.2 ≤ 400000 → ntD o H W N n G = .inr e → VE9 e
  | [], n, G, e, _, h => by cases h
  | N :: r, n, G, e, hb, h => by
    unfold ntD at h
    cases h1 : gAll o false (prN (ntP n) ((ntP n).length : Int) 0 W (pkL N) 0 (ntX H W (pkL N) n)) G with
    | inr e1 =>
      simp only [h1] at h
      rw [← Sum.inr.inj h]
      exact (gAll_ve hb).2 e1 h1
    | inl G1 =>
      simp only [h1] at h
      cases h2 : ntD o H W r (n + 1) G1 with
      | inr e1 =>
        simp only [h2] at h
        rw [← Sum.inr.inj h]
        exact ntD_ve ((gAll_ve hb).1 G1 h1) h2
      | inl q =>
        simp only [h2] at h
        cases h
theorem txD_ve (hb : b.1.1.2.1 ≤ 400000) (h : txD o E H S P hg sp item T b = .inr e) : VE9 e := by
  unfold txD at h
  cases w1 : wkD 30 E false [] T (tx0 b.1) with
  | inr x =>
    simp only [w1] at h
    rw [← Sum.inr.inj h]
    exact ve_wk (s := tx0 b.1) hb w1
  | inl s1 =>
    simp only [w1] at h
    have b1 : s1.1.2.1 ≤ 400000 := (ek_wk (s := tx0 b.1) hb).1 s1 w1
    split at h
    · rw [← Sum.inr.inj h]
      exact ⟨(by decide : (1 : Int) ≤ 6), (by decide : (6 : Int) ≤ 11), b1⟩
    · split at h
      · cases h
      · unfold txF at h
        cases hG : gAll o true (prN P hg (S.getD 2 0) (S.getD 0 0) (pkL s1.2.1) (S.getD 7 0) (txX H S P hg (pkL s1.2.1))) ((s1.1.1, s1.1.2.1), b.2.1.1, flS b sp) with
        | inr x =>
          simp only [hG] at h
          rw [← Sum.inr.inj h]
          exact (gAll_ve (G := ((s1.1.1, s1.1.2.1), b.2.1.1, flS b sp)) b1).2 x hG
        | inl G1 =>
          simp only [hG] at h
          have b2 := (gAll_ve (G := ((s1.1.1, s1.1.2.1), b.2.1.1, flS b sp)) b1).1 G1 hG
          unfold txN at h
          cases hN : ntD o H (S.getD 0 0) s1.2.2.2.2.2.1.1 (b.1.2.2.2.2.2.1.2.2 + 1) G1 with
          | inr x =>
            simp only [hN] at h
            rw [← Sum.inr.inj h]
            exact ntD_ve b2 hN
          | inl q =>
            simp only [hN] at h
            cases h
theorem hgD_ve {l : Nat} (hb : b.1.1.2.1 ≤ 400000) (h : hgD o E H S Lt l T b g = .inr e) : VE9 e := by
  unfold hgD at h
  split at h
  · rw [← Sum.inr.inj h]
    exact ⟨(by decide : (1 : Int) ≤ 9), (by decide : (9 : Int) ≤ 11), hb⟩
  · cases w1 : wkD 30 (hgE E Lt) false [] T (hgS Lt b.1) with
    | inr x =>
      simp only [w1] at h
      rw [← Sum.inr.inj h]
      exact ve_wk (s := hgS Lt b.1) hb w1
    | inl s1 =>
      simp only [w1] at h
      have b1 : s1.1.2.1 ≤ 400000 := (ek_wk (s := hgS Lt b.1) hb).1 s1 w1
      unfold hgP at h
      split at h
      · rename_i x hG
        rw [← Sum.inr.inj h]
        exact (gAll_ve (G := ((s1.1.1, s1.1.2.1), b.2.1.1, flS b (max 1 (S.getD 8 0)))) b1).2 x hG
      · cases h
theorem rwD_ve {M : List Int} {at9 nx : Nat} (hb : b.1.1.2.1 ≤ 400000) (h : rwD o S M at9 nx b = .inr e) : VE9 e := by
  unfold rwD at h
  split at h
  · rename_i x hG
    rw [← Sum.inr.inj h]
    exact (gAll_ve (G := ((b.1.1.1, b.1.1.2.1), b.2.1.1, flS b (S.getD 8 0))) hb).2 x hG
  · cases h
theorem ctD_ve {f s : Int} {B : HG9} (hb : b.1.1.2.1 ≤ 400000) (h : ctD o S f s B b = .inr e) : VE9 e := by
  unfold ctD at h
  split at h
  · cases h
  · split at h
    · rename_i x hG
      rw [← Sum.inr.inj h]
      exact (gAll_ve (G := ((b.1.1.1, b.1.1.2.1), b.2.1.1, flS b (S.getD 8 0))) hb).2 x hG
    · cases h
theorem ixD_ve {f s : Int} {K : List (List Int)} {Pg : List Int} (hb : b.1.1.2.1 ≤ 400000) (h : ixD o H S K Pg f s b = .inr e) : VE9 e := by
  unfold ixD at h
  split at h
  · cases h
  · split at h
    · rename_i x hG
      rw [← Sum.inr.inj h]
      exact (gAll_ve (G := ((b.1.1.1, b.1.1.2.1), b.2.1.1, flS b (S.getD 8 0))) hb).2 x hG
    · cases h
theorem tcW_ve {M : List Int} : ∀ {L : List (Nat × Nat)} {s : TS}, s.1.2.1 ≤ 400000 → (∀ w, tcW E M L s = .inl w → w.2.1.2.1 ≤ 400000) ∧ ∀ e, tcW E M L s = .inr e → VE9 e
  | [], s, hb => ⟨fun w h => by
    rw [← Sum.inl.inj h]
    exact hb, fun e h => by cases h⟩
  | p :: r, s, hb => by
    unfold tcW
    cases h0 : tSp 15 s with
    | inr x =>
      refine ⟨fun w h => (by cases h), fun e h => ?_⟩
      rw [← Sum.inr.inj h]
      have q1 := fk_sp x h0
      exact ⟨by omega, by omega, (ek_sp hb).2 x h0⟩
    | inl s0 =>
      have b0 : s0.1.2.1 ≤ 400000 := (ek_sp hb).1 s0 h0
      cases h1 : wkD 30 (eZ E) false [] (sgT M p.1 p.2) (tx0 s0) with
      | inr x =>
        refine ⟨fun w h => ?_, fun e h => ?_⟩
        · simp only [h1] at h
          cases h
        · simp only [h1] at h
          rw [← Sum.inr.inj h]
          exact ve_wk (s := tx0 s0) b0 h1
      | inl s1 =>
        have b1 : s1.1.2.1 ≤ 400000 := (ek_wk (s := tx0 s0) b0).1 s1 h1
        have ih := tcW_ve (M := M) (L := r) (s := tx0 s1) b1
        cases h2 : tcW E M r (tx0 s1) with
        | inr x =>
          refine ⟨fun w h => ?_, fun e h => ?_⟩
          · simp only [h1, h2] at h
            cases h
          · simp only [h1, h2] at h
            rw [← Sum.inr.inj h]
            exact ih.2 x h2
        | inl v =>
          refine ⟨fun w h => ?_, fun e h => ?_⟩
          · simp only [h1, h2] at h
            rw [← Sum.inl.inj h]
            exact ih.1 v h2
          · simp only [h1, h2] at h
            cases h
theorem tbR_ve {M : List Int} : ∀ {L : List (Nat × Nat)} {s : TS}, s.1.2.1 ≤ 400000 → (∀ w, tbR E M L s = .inl w → w.2.1.2.1 ≤ 400000) ∧ ∀ e, tbR E M L s = .inr e → VE9 e
  | [], s, hb => ⟨fun w h => by
    rw [← Sum.inl.inj h]
    exact hb, fun e h => by cases h⟩
  | l :: r, s, hb => by
    unfold tbR
    split
    · refine ⟨fun w h => (by cases h), fun e h => ?_⟩
      rw [← Sum.inr.inj h]
      exact ⟨(by decide : (1 : Int) ≤ 9), (by decide : (9 : Int) ≤ 11), hb⟩
    · have t1 := tcW_ve (E := E) (M := M) (L := tcL M l.1 l.2) hb
      cases h1 : tcW E M (tcL M l.1 l.2) s with
      | inr x =>
        refine ⟨fun w h => (by cases h), fun e h => ?_⟩
        rw [← Sum.inr.inj h]
        exact t1.2 x h1
      | inl w1 =>
        have ih := tbR_ve (M := M) (L := r) (s := w1.2) (t1.1 w1 h1)
        cases h2 : tbR E M r w1.2 with
        | inr x =>
          refine ⟨fun w h => ?_, fun e h => ?_⟩
          · simp only [h2] at h
            cases h
          · simp only [h2] at h
            rw [← Sum.inr.inj h]
            exact ih.2 x h2
        | inl v =>
          refine ⟨fun w h => ?_, fun e h => ?_⟩
          · simp only [h2] at h
            rw [← Sum.inl.inj h]
            exact ih.1 v h2
          · simp only [h2] at h
            cases h
theorem tbA_ve {M : List Int} {L : List (Nat × Nat)} {s : TS} (hb : s.1.2.1 ≤ 400000) : (∀ w, tbA E M L s = .inl w → w.2.1.2.1 ≤ 400000) ∧ ∀ e, tbA E M L s = .inr e → VE9 e := by
  cases L with
  | nil => exact ⟨fun w h => by
      rw [← Sum.inl.inj h]
      exact hb, fun e h => by cases h⟩
  | cons l r =>
    rw [tbA_c]
    split
    · refine ⟨fun w h => (by cases h), fun e h => ?_⟩
      rw [← Sum.inr.inj h]
      exact ⟨(by decide : (1 : Int) ≤ 9), (by decide : (9 : Int) ≤ 11), hb⟩
    · split
      · have t1 := tbR_ve (E := E) (M := M) (L := r) hb
        split
        · rename_i x hx
          exact ⟨fun w h => (by cases h), fun e h => by
            rw [← Sum.inr.inj h]
            exact t1.2 x hx⟩
        · rename_i v hx
          exact ⟨fun w h => by
            rw [← Sum.inl.inj h]
            exact t1.1 v hx, fun e h => by cases h⟩
      · have t1 := tbR_ve (E := E) (M := M) (L := l :: r) hb
        split
        · rename_i x hx
          exact ⟨fun w h => (by cases h), fun e h => by
            rw [← Sum.inr.inj h]
            exact t1.2 x hx⟩
        · rename_i v hx
          exact ⟨fun w h => by
            rw [← Sum.inl.inj h]
            exact t1.1 v hx, fun e h => by cases h⟩
theorem tbF_ve {M : List Int} {at9 nx : Nat} (hb : b.1.1.2.1 ≤ 400000) (h : tbF o E H S M at9 nx b = .inr e) : VE9 e := by
  unfold tbF at h
  have t1 := tbA_ve (E := E) (M := M) (L := tbL M at9 nx) (s := b.1) hb
  split at h
  · rename_i x hx
    rw [← Sum.inr.inj h]
    exact t1.2 x hx
  · rename_i q hq
    split at h
    · cases h
    · split at h
      · rename_i x hG
        rw [← Sum.inr.inj h]
        exact (gAll_ve (G := ((q.2.1.1, q.2.1.2.1), b.2.1.1, flS b (S.getD 8 0))) (t1.1 q hq)).2 x hG
      · cases h
end
theorem tkD_ve {most : Nat} : ∀ {ws : List (List Int)} {s : TS} {P : List (List Int)}, s.1.2.1 ≤ 400000 → ∀ q, tkD most ws s P = .inr q → VE9 q.1
  | [], s, P, hb, q, h => by cases h
  | w :: ws, s, P, hb, q, h => by
    unfold tkD at h
    split at h
    · rw [← Sum.inr.inj h]
      exact ⟨(by decide : (1 : Int) ≤ 9), (by decide : (9 : Int) ≤ 11), hb⟩
    · cases h0 : tSp 10 s with
      | inr x =>
        simp only [h0] at h
        rw [← Sum.inr.inj h]
        have q1 := fk_sp x h0
        exact ⟨by show 1 ≤ x.1; omega, by show x.1 ≤ 11; omega, (ek_sp hb).2 x h0⟩
      | inl s1 =>
        simp only [h0] at h
        exact tkD_ve ((ek_sp hb).1 s1 h0) q h
theorem drD_ve {T : List Int} {R : RU} {s : TS} (hb : s.1.2.1 ≤ 400000) {q : RF9} (h : drD T R s = .inr q) : VE9 q.2 := by
  have one : VE9 (1, s.1.1, s.1.2.1) := ⟨(by decide : (1 : Int) ≤ 1), (by decide : (1 : Int) ≤ 11), hb⟩
  have nine : VE9 (9, s.1.1, s.1.2.1) := ⟨(by decide : (1 : Int) ≤ 9), (by decide : (9 : Int) ≤ 11), hb⟩
  have dl : ∀ pat P p, ∀ q, drL pat P T p s = .inr q → VE9 q.1 := fun pat P p q h => by
    unfold drL at h
    split at h
    · exact tkD_ve hb q h
    · rw [← Sum.inr.inj h]
      exact one
  unfold drD at h
  split at h
  · rw [← Sum.inr.inj h]
    exact one
  · split at h
    · split at h
      · rw [← Sum.inr.inj h]
        exact one
      · split at h
        · rw [← Sum.inr.inj h]
          exact nine
        · cases h
    · split at h
      · split at h
        · rw [← Sum.inr.inj h]
          exact one
        · cases h
      · split at h
        · cases h1 : drL true R.2.2.1 T (wbD T 0 + 1) s with
          | inl q1 =>
            simp only [h1] at h
            cases h
          | inr q1 =>
            simp only [h1] at h
            rw [← Sum.inr.inj h]
            exact dl true R.2.2.1 (wbD T 0 + 1) q1 h1
        · split at h
          · cases h1 : drL false R.2.2.2 T (wbD T 0 + 1) s with
            | inl q1 =>
              simp only [h1] at h
              cases h
            | inr q1 =>
              simp only [h1] at h
              rw [← Sum.inr.inj h]
              exact dl false R.2.2.2 (wbD T 0 + 1) q1 h1
          · cases h
section
variable {B : BF9} {M : List Int} {i : Nat} {jo : Bool} {d d' : RD9} {x : RF9}
theorem upB_ve {r : BK9 ⊕ (Int × Int × Int)} (hr : ∀ e, r = .inr e → VE9 e) (h : upB d r = .inr x) : VE9 x.2 := by
  cases r with
  | inl b => cases h
  | inr e =>
    rw [← Sum.inr.inj h]
    exact hr e rfl
theorem blD_ve (hb : d.1.1.1.2.1 ≤ 400000) (h : blD B M i jo d = .inr x) : VE9 x.2 := by
  unfold blD at h
  split at h
  · unfold dirD at h
    cases hx : drD (lnU M i) d.2.2.1 d.1.1 with
    | inr y =>
      simp only [hx] at h
      rw [← Sum.inr.inj h]
      exact drD_ve hb hx
    | inl y =>
      simp only [hx] at h
      have b1 : y.2.1.2.1 ≤ 400000 := (drD_u.1 y hx).2.2.2.2.2 hb
      unfold diD at h
      split at h
      · exact upB_ve (fun e he => ctD_ve (b := (y.2, d.1.2)) b1 he) h
      · split at h
        · exact upB_ve (fun e he => ixD_ve (b := (y.2, d.1.2)) b1 he) h
        · split at h <;> cases h
  · split at h
    · unfold heaD at h
      split at h
      · rename_i e he
        rw [← Sum.inr.inj h]
        exact hgD_ve hb he
      · cases h
    · split at h
      · exact upB_ve (fun e he => tbF_ve hb he) h
      · split at h
        · exact upB_ve (fun e he => rwD_ve hb he) h
        · split at h
          · unfold itmD at h
            split at h
            · rename_i e he
              rw [← Sum.inr.inj h]
              exact txD_ve hb he
            · cases h
          · exact upB_ve (fun e he => txD_ve hb he) h
theorem rnD_ve (hB : BfI B) (hMb : smB M) (hM4 : M.length ≤ 4000) : ∀ {n i : Nat} {jo : Bool} {ln : Int} {d : RD9} {x : Int × RF9}, i ≤ (mlL M).length → RDI d i → rnD B M n i jo ln d = .inr x → VE9 x.2.2
  | 0, i, jo, ln, d, x, hi, h, e => by cases e
  | n + 1, i, jo, ln, d, x, hi, h, e => by
    have hb : d.1.1.1.2.1 ≤ 400000 := h.1.1.1.2.1.2
    unfold rnD at e
    by_cases c1 : (mlL M).length ≤ i
    · rw [if_pos c1] at e
      cases e
    · rw [if_neg c1] at e
      by_cases c2 : kdL M i = 0
      · rw [if_pos c2] at e
        exact rnD_ve hB hMb hM4 (n := n) (i := i + 1) (jo := false) (ln := ln) (d := d) (x := x) (by omega) (h.mo (by omega)) e
      · rw [if_neg c2] at e
        by_cases c3 : 60000 < d.1.1.1.1 + 15 ∨ 400000 < d.1.1.1.2.1 + 15
        · rw [if_pos c3] at e
          rw [← Sum.inr.inj e]
          exact ⟨(by decide : (1 : Int) ≤ 8), (by decide : (8 : Int) ≤ 11), hb⟩
        · rw [if_neg c3] at e
          cases hx : blD B M i jo (b15 d.1, d.2) with
          | inr y =>
            simp only [hx] at e
            have v := blD_ve (d := (b15 d.1, d.2)) (x := y) (by show d.1.1.1.2.1 + 15 ≤ 400000; omega) hx
            rw [← Sum.inr.inj e]
            exact v
          | inl d' =>
            simp only [hx] at e
            have bn := bnE_l (M := M) (i := i) (by omega)
            exact rnD_ve hB hMb hM4 (n := n) (i := bnE M i) (jo := decide (kdL M i = 5)) (ln := (i : Int) + 1) (d := d') (x := x) bn.2 (blD_i hB hMb hM4 (by omega) h c3 hx) e
end
/-! A ROUND as a function: blocks, then pages -/
abbrev RZ9 : Type := RD9 × Int × List (Nat × Nat)
def pgR9 (d : RD9) : Option (List (Nat × Nat)) := pgD (rmP d.2.2.1.1) d.1.2.1.2 d.1.2.1.1 d.1.2.2.1.1 d.1.2.2.1.2 d.1.2.1.2.length 0 0
def roD (B : BF9) (M : List Int) (w : Int × Int) : RZ9 ⊕ (Int × RF9) := match rouD B M w with
  | .inr x => .inr x
  | .inl x => match pgR9 x.1 with
    | none => .inr (x.2, x.1.2.2.1, (9, x.1.1.1.1.1, x.1.1.1.1.2.1))
    | some P => .inl (x.1, x.2, P)
section
variable {B : BF9} {M : List Int} {w : Int × Int}
theorem roD_f {x : Int × RF9} (h : rouD B M w = .inr x) : roD B M w = .inr x := by
  unfold roD
  rw [h]
theorem roD_n {x : RD9 × Int} (h : rouD B M w = .inl x) (h' : pgR9 x.1 = none) : roD B M w = .inr (x.2, x.1.2.2.1, (9, x.1.1.1.1.1, x.1.1.1.1.2.1)) := by
  unfold roD
  rw [h]
  simp only [h']
theorem roD_y {x : RD9 × Int} {P : List (Nat × Nat)} (h : rouD B M w = .inl x) (h' : pgR9 x.1 = some P) : roD B M w = .inl (x.1, x.2, P) := by
  unfold roD
  rw [h]
  simp only [h']
/-- what is known where a round fails -/
theorem roD_e (hB : BfI B) (hMb : smB M) (hM4 : M.length ≤ 4000) (h1 : 0 ≤ w.1 ∧ w.1 ≤ 60000) (h2 : 0 ≤ w.2 ∧ w.2 ≤ 400000) {x : Int × RF9} (e : roD B M w = .inr x) : RuI x.2.1 ∧ (0 ≤ x.1 ∧ x.1 ≤ 4000) ∧ VE9 x.2.2 := by
  have ml4 : (mlL M).length ≤ 4000 := Nat.le_trans (mlF_l (T := M) M.length 0) hM4
  unfold roD at e
  cases h : rouD B M w with
  | inr y =>
    simp only [h] at e
    rw [← Sum.inr.inj e]
    unfold rouD at h
    by_cases c : 60000 < w.1 + ((mlL M).length : Int) ∨ 400000 < w.2 + ((mlL M).length : Int)
    · rw [if_pos c] at h
      rw [← Sum.inr.inj h]
      have r0 := (rd0_i (w := w) h1 h2).2.1
      exact ⟨r0, ⟨(by decide : (0 : Int) ≤ 0), (by decide : (0 : Int) ≤ 4000)⟩, ⟨(by decide : (1 : Int) ≤ 8), (by decide : (8 : Int) ≤ 11), h2.2⟩⟩
    · rw [if_neg c] at h
      have i0 := rd0_i (w := (w.1 + ((mlL M).length : Int), w.2 + ((mlL M).length : Int))) (by show 0 ≤ w.1 + _ ∧ w.1 + _ ≤ _; omega) (by show 0 ≤ w.2 + _ ∧ w.2 + _ ≤ _; omega)
      have q1 := rnD_e hB hMb hM4 (Nat.zero_le _) ⟨Int.le_refl _, Int.le_refl _⟩ i0 h
      have q2 := rnD_ve hB hMb hM4 (Nat.zero_le _) i0 h
      exact ⟨q1.1, by omega, q2⟩
  | inl y =>
    simp only [h] at e
    obtain ⟨q1, q2⟩ := rouD_i hB hMb hM4 h1.1 h2.1 h
    cases hp : pgR9 y.1 with
    | none =>
      simp only [hp] at e
      rw [← Sum.inr.inj e]
      exact ⟨q1.2.1, by show 0 ≤ y.2 ∧ y.2 ≤ 4000; omega, ⟨(by decide : (1 : Int) ≤ 9), (by decide : (9 : Int) ≤ 11), q1.1.1.1.2.1.2⟩⟩
    | some P =>
      simp only [hp] at e
      cases e
theorem roD_i (hB : BfI B) (hMb : smB M) (hM4 : M.length ≤ 4000) (h1 : 0 ≤ w.1 ∧ w.1 ≤ 60000) (h2 : 0 ≤ w.2 ∧ w.2 ≤ 400000) {x : RZ9} (e : roD B M w = .inl x) : rouD B M w = .inl (x.1, x.2.1) ∧ pgR9 x.1 = some x.2.2 ∧ RDI x.1 (mlL M).length ∧ WtI x.1.1 ∧ (0 ≤ x.2.1 ∧ x.2.1 ≤ 4000) := by
  have ml4 : (mlL M).length ≤ 4000 := Nat.le_trans (mlF_l (T := M) M.length 0) hM4
  unfold roD at e
  cases h : rouD B M w with
  | inr y =>
    simp only [h] at e
    cases e
  | inl y =>
    simp only [h] at e
    obtain ⟨q1, q2⟩ := rouD_i hB hMb hM4 h1.1 h2.1 h
    have q3 := rouD_w hB hMb hM4 (by omega) h1.1 h2.1 h
    cases hp : pgR9 y.1 with
    | none =>
      simp only [hp] at e
      cases e
    | some P =>
      simp only [hp] at e
      rw [← Sum.inl.inj e]
      exact ⟨rfl, hp, q1, q3, by show 0 ≤ y.2 ∧ y.2 ≤ 4000; omega⟩
end
