/-! A ROUND: the flow only grows; faults are not nought -/
def FxL (b b' : BK9) : Prop := ∃ Z, b'.2.1.2 = b.2.1.2 ++ Z
theorem FxL.rf {b : BK9} : FxL b b := ⟨[], (List.append_nil _).symm⟩
section
variable {o hg sp : Int} {E : TE} {H : HY9} {S P T Lt : List Int} {item : Bool} {b b' : BK9} {g : HG9} {e : Int × Int × Int}
theorem gAll_x {w : Int × Int} {X : List (List Int × Int)} {G1 : GS9} (h : gAll o true X (w, b.2.1.1, flS b sp) = .inl G1) : ∃ Z, G1.2.2 = b.2.1.2 ++ Z := by
  obtain ⟨m, hm, -⟩ := flS_x (b := b) (sp := sp)
  have gl := (gAll_l h).2.1
  rw [if_pos rfl] at gl
  refine ⟨List.replicate m (-2) ++ seqZ b.2.1.1.length X.length, ?_⟩
  rw [gl]
  show flS b sp ++ _ = _
  rw [hm, List.append_assoc]
theorem gAll_k9 {fw : Bool} : ∀ {X : List (List Int × Int)} {G : GS9}, gAll o fw X G = .inr e → ¬ e.1 = 0
  | [], G, h => by cases h
  | x :: r, G, h => by
    unfold gAll at h
    cases h1 : gFin o x.1 x.2 fw G with
    | inl G1 =>
      rw [h1] at h
      exact gAll_k9 (X := r) h
    | inr e1 =>
      rw [h1] at h
      have h := Sum.inr.inj h
      rw [← h]
      unfold gFin at h1
      split at h1
      · rw [← Sum.inr.inj h1]
        exact (by decide : ¬ (9 : Int) = 0)
      · unfold gSp at h1
        split at h1
        · rw [← Sum.inr.inj h1]
          exact (by decide : ¬ (8 : Int) = 0)
        · cases h1
theorem ntD_k9 {W : Int} : ∀ {N : List (List Int)} {n : Int} {G : GS9} {e : Int × Int × Int}, ntD o H W N n G = .inr e → ¬ e.1 = 0
  | [], n, G, e, h => by cases h
  | N :: r, n, G, e, h => by
    unfold ntD at h
    cases h1 : gAll o false (prN (ntP n) ((ntP n).length : Int) 0 W (pkL N) 0 (ntX H W (pkL N) n)) G with
    | inr e1 =>
      simp only [h1] at h
      rw [← Sum.inr.inj h]
      exact gAll_k9 h1
    | inl G1 =>
      simp only [h1] at h
      cases h2 : ntD o H W r (n + 1) G1 with
      | inr e1 =>
        simp only [h2] at h
        rw [← Sum.inr.inj h]
        exact ntD_k9 h2
      | inl q =>
        simp only [h2] at h
        cases h
theorem txD_x (h : txD o E H S P hg sp item T b = .inl b') : FxL b b' := by
  unfold txD at h
  cases w1 : wkD 30 E false [] T (tx0 b.1) with
  | inr x =>
    simp only [w1] at h
    cases h
  | inl s1 =>
    simp only [w1] at h
    split at h
    · cases h
    · split at h
      · rw [← Sum.inl.inj h]
        exact FxL.rf
      · unfold txF at h
        cases hG : gAll o true (prN P hg (S.getD 2 0) (S.getD 0 0) (pkL s1.2.1) (S.getD 7 0) (txX H S P hg (pkL s1.2.1))) ((s1.1.1, s1.1.2.1), b.2.1.1, flS b sp) with
        | inr x =>
          simp only [hG] at h
          cases h
        | inl G1 =>
          simp only [hG] at h
          unfold txN at h
          cases hN : ntD o H (S.getD 0 0) s1.2.2.2.2.2.1.1 (b.1.2.2.2.2.2.1.2.2 + 1) G1 with
          | inr x =>
            simp only [hN] at h
            cases h
          | inl q =>
            simp only [hN] at h
            rw [← Sum.inl.inj h]
            have nn := ((ntD_g (o := o) (H := H) (W := S.getD 0 0)).1 q hN).2.2.2.1
            obtain ⟨Z, hZ⟩ := gAll_x hG
            exact ⟨Z, nn.trans hZ⟩
theorem txD_k9 (h : txD o E H S P hg sp item T b = .inr e) : ¬ e.1 = 0 := by
  unfold txD at h
  cases w1 : wkD 30 E false [] T (tx0 b.1) with
  | inr x =>
    simp only [w1] at h
    rw [← Sum.inr.inj h]
    have := fk_wk x w1
    omega
  | inl s1 =>
    simp only [w1] at h
    split at h
    · rw [← Sum.inr.inj h]
      exact (by decide : ¬ (6 : Int) = 0)
    · split at h
      · cases h
      · unfold txF at h
        cases hG : gAll o true (prN P hg (S.getD 2 0) (S.getD 0 0) (pkL s1.2.1) (S.getD 7 0) (txX H S P hg (pkL s1.2.1))) ((s1.1.1, s1.1.2.1), b.2.1.1, flS b sp) with
        | inr x =>
          simp only [hG] at h
          rw [← Sum.inr.inj h]
          exact gAll_k9 hG
        | inl G1 =>
          simp only [hG] at h
          unfold txN at h
          cases hN : ntD o H (S.getD 0 0) s1.2.2.2.2.2.1.1 (b.1.2.2.2.2.2.1.2.2 + 1) G1 with
          | inr x =>
            simp only [hN] at h
            rw [← Sum.inr.inj h]
            exact ntD_k9 hN
          | inl q =>
            simp only [hN] at h
            cases h
theorem hgD_k9 {l : Nat} (h : hgD o E H S Lt l T b g = .inr e) : ¬ e.1 = 0 := by
  unfold hgD at h
  split at h
  · rw [← Sum.inr.inj h]
    exact (by decide : ¬ (9 : Int) = 0)
  · cases w1 : wkD 30 (hgE E Lt) false [] T (hgS Lt b.1) with
    | inr x =>
      simp only [w1] at h
      rw [← Sum.inr.inj h]
      have := fk_wk x w1
      omega
    | inl s1 =>
      simp only [w1] at h
      unfold hgP at h
      split at h
      · rename_i x hG
        rw [← Sum.inr.inj h]
        exact gAll_k9 hG
      · cases h
theorem rwD_x {M : List Int} {at9 nx : Nat} (h : rwD o S M at9 nx b = .inl b') : FxL b b' := by
  unfold rwD at h
  split at h
  · cases h
  · rename_i G1 hG
    rw [← Sum.inl.inj h]
    exact gAll_x hG
theorem rwD_k9 {M : List Int} {at9 nx : Nat} (h : rwD o S M at9 nx b = .inr e) : ¬ e.1 = 0 := by
  unfold rwD at h
  split at h
  · rename_i x hG
    rw [← Sum.inr.inj h]
    exact gAll_k9 hG
  · cases h
theorem ctD_x {f s : Int} {B : HG9} (h : ctD o S f s B b = .inl b') : FxL b b' := by
  unfold ctD at h
  split at h
  · rw [← Sum.inl.inj h]
    exact FxL.rf
  · split at h
    · cases h
    · rename_i G1 hG
      rw [← Sum.inl.inj h]
      exact gAll_x hG
theorem ctD_k9 {f s : Int} {B : HG9} (h : ctD o S f s B b = .inr e) : ¬ e.1 = 0 := by
  unfold ctD at h
  split at h
  · cases h
  · split at h
    · rename_i x hG
      rw [← Sum.inr.inj h]
      exact gAll_k9 hG
    · cases h
theorem ixD_x {f s : Int} {K : List (List Int)} {Pg : List Int} (h : ixD o H S K Pg f s b = .inl b') : FxL b b' := by
  unfold ixD at h
  split at h
  · rw [← Sum.inl.inj h]
    exact FxL.rf
  · split at h
    · cases h
    · rename_i G1 hG
      rw [← Sum.inl.inj h]
      exact gAll_x hG
theorem ixD_k9 {f s : Int} {K : List (List Int)} {Pg : List Int} (h : ixD o H S K Pg f s b = .inr e) : ¬ e.1 = 0 := by
  unfold ixD at h
  split at h
  · cases h
  · split at h
    · rename_i x hG
      rw [← Sum.inr.inj h]
      exact gAll_k9 hG
    · cases h
theorem tcW_k9 {M : List Int} : ∀ {L : List (Nat × Nat)} {s : TS} {e : Int × Int × Int}, tcW E M L s = .inr e → ¬ e.1 = 0
  | [], s, e, h => by cases h
  | p :: r, s, e, h => by
    unfold tcW at h
    cases h0 : tSp 15 s with
    | inr x =>
      simp only [h0] at h
      rw [← Sum.inr.inj h]
      have := fk_sp x h0
      omega
    | inl s0 =>
      simp only [h0] at h
      cases h1 : wkD 30 (eZ E) false [] (sgT M p.1 p.2) (tx0 s0) with
      | inr x =>
        simp only [h1] at h
        rw [← Sum.inr.inj h]
        have := fk_wk x h1
        omega
      | inl s1 =>
        simp only [h1] at h
        cases h2 : tcW E M r (tx0 s1) with
        | inr x =>
          simp only [h2] at h
          rw [← Sum.inr.inj h]
          exact tcW_k9 h2
        | inl w =>
          simp only [h2] at h
          cases h
theorem tbR_k9 {M : List Int} : ∀ {L : List (Nat × Nat)} {s : TS} {e : Int × Int × Int}, tbR E M L s = .inr e → ¬ e.1 = 0
  | [], s, e, h => by cases h
  | l :: r, s, e, h => by
    unfold tbR at h
    split at h
    · rw [← Sum.inr.inj h]
      exact (by decide : ¬ (9 : Int) = 0)
    · cases h1 : tcW E M (tcL M l.1 l.2) s with
      | inr x =>
        simp only [h1] at h
        rw [← Sum.inr.inj h]
        exact tcW_k9 h1
      | inl w =>
        simp only [h1] at h
        cases h2 : tbR E M r w.2 with
        | inr x =>
          simp only [h2] at h
          rw [← Sum.inr.inj h]
          exact tbR_k9 h2
        | inl v =>
          simp only [h2] at h
          cases h
theorem tbA_k9 {M : List Int} {L : List (Nat × Nat)} {s : TS} (h : tbA E M L s = .inr e) : ¬ e.1 = 0 := by
  cases L with
  | nil => cases h
  | cons l r =>
    rw [tbA_c] at h
    split at h
    · rw [← Sum.inr.inj h]
      exact (by decide : ¬ (9 : Int) = 0)
    · split at h
      · split at h
        · rename_i x hx
          rw [← Sum.inr.inj h]
          exact tbR_k9 hx
        · cases h
      · split at h
        · rename_i x hx
          rw [← Sum.inr.inj h]
          exact tbR_k9 hx
        · cases h
theorem tbF_x {M : List Int} {at9 nx : Nat} (h : tbF o E H S M at9 nx b = .inl b') : FxL b b' := by
  unfold tbF at h
  split at h
  · cases h
  · split at h
    · rw [← Sum.inl.inj h]
      exact FxL.rf
    · split at h
      · cases h
      · rename_i G1 hG
        rw [← Sum.inl.inj h]
        exact gAll_x hG
theorem tbF_k9 {M : List Int} {at9 nx : Nat} (h : tbF o E H S M at9 nx b = .inr e) : ¬ e.1 = 0 := by
  unfold tbF at h
  split at h
  · rename_i x hx
    rw [← Sum.inr.inj h]
    exact tbA_k9 hx
  · split at h
    · cases h
    · split at h
      · rename_i x hG
        rw [← Sum.inr.inj h]
        exact gAll_k9 hG
      · cases h
end
