/-! TABLES: the reference comes to its rows -/
section
variable {σ σ0 : MS} {Q : MQ9} {E : TE} {nw : Nat} {M : List Int} {at9 nx : Nat} {t0 : Int}
theorem TlS.pt {σ1 : MS} {s : TS} {R : List (List (List Int))} (h : TlS σ E nw s R) (f : FrZ [342, 343] [] σ σ1) (ho : ∀ z k, z = 342 ∨ z = 343 → k < R.flatten.length → mV σ1 z k = mV σ z k) : TlS σ1 E nw s R := by
  have z1 : ∀ y k, y ≠ 342 → y ≠ 343 → y ≠ 246 → mV σ1 y k = mV σ y k := fun y k a c d => f.z (by simp only [List.mem_cons, List.not_mem_nil, or_false]; omega) d
  refine ⟨h.1.k f (by decide) (by simp), fun j hj => ?_, fun k hk => (z1 _ _ (by decide) (by decide) (by decide)).trans (h.2.2.1 k hk), fun i hi => (z1 _ _ (by decide) (by decide) (by decide)).trans (h.2.2.2 i hi)⟩
  obtain ⟨a', b', q1, q2, q3, q4⟩ := h.2.1 j hj
  exact ⟨a', b', q1, (ho _ _ (Or.inl rfl) hj).trans q2, (ho _ _ (Or.inr rfl) hj).trans q3, fun i hi => ⟨(z1 _ _ (by decide) (by decide) (by decide)).trans (q4 i hi).1, (z1 _ _ (by decide) (by decide) (by decide)).trans (q4 i hi).2⟩⟩
theorem TlS.al {σ1 : MS} {s : TS} {R : List (List (List Int))} (h : TlS σ E nw s R) (f : FrZ [345] [] σ σ1) : TlS σ1 E nw s R := by
  have z1 : ∀ y k, y ≠ 345 → y ≠ 246 → mV σ1 y k = mV σ y k := fun y k a d => f.z (by rw [List.mem_singleton]; exact a) d
  refine ⟨h.1.k f (by decide) (by simp), fun j hj => ?_, fun k hk => (z1 _ _ (by decide) (by decide)).trans (h.2.2.1 k hk), fun i hi => (z1 _ _ (by decide) (by decide)).trans (h.2.2.2 i hi)⟩
  obtain ⟨a', b', q1, q2, q3, q4⟩ := h.2.1 j hj
  exact ⟨a', b', q1, (z1 _ _ (by decide) (by decide)).trans q2, (z1 _ _ (by decide) (by decide)).trans q3, fun i hi => ⟨(z1 _ _ (by decide) (by decide)).trans (q4 i hi).1, (z1 _ _ (by decide) (by decide)).trans (q4 i hi).2⟩⟩
/-- cells are few -/
theorem tb_few {s : TS} {R : List (List (List Int))} (h : TI (tbP R.flatten + t0) 0 (tx0 s)) (ht0 : 0 ≤ t0) : R.flatten.length ≤ 4010 := by
  have b0 : 0 ≤ s.1.1 ∧ s.1.1 ≤ 60000 := h.1.1
  have t7 : ((suM s.2.2.2.2.1.1 : Nat) : Int) + ((suM ([] : List (List Int)) : Nat) : Int) + (([] : List Int).length : Int) + (tbP R.flatten + t0) ≤ s.1.1 + 100 := h.2.2.2.2.2.2
  have eP : tbP R.flatten = ((suM R.flatten : Nat) : Int) + 15 * (R.flatten.length : Int) := rfl
  have z1 : suM ([] : List (List Int)) = 0 := rfl
  have z2 : ([] : List Int).length = 0 := rfl
  rw [z1, z2] at t7
  omega
theorem trr_44 (hE : EI E) (hE2 : E.2.2.2 = 2) (hMb : smB M) (hSc0 : ScR σ0 M) (ht0 : 0 ≤ t0) (hnx : nx ≤ (mlL M).length) (hsol : ∀ j, at9 ≤ j → j < nx → ((mlL M).getD j (0, 0)).1 + 1 ≤ ((mlL M).getD j (0, 0)).2) (hat : at9 ≤ nx) {ls : List (Nat × Nat)} (hls : ls = tbL M at9 nx) : ∀ (r q : List (Nat × Nat)) (R : List (List (List Int))) (s : TS) (σ : MS), ls = q ++ r → 1 ≤ q.length → R.length ≤ q.length → TlS σ E nw s R → TI (tbP R.flatten + t0) 0 (tx0 s) → FrTm nw σ0 σ → (∀ v σ', tbR E M r s = .inl v → TlS σ' E nw v.2 (R ++ v.1) → TI (tbP (R ++ v.1).flatten + t0) 0 (tx0 v.2) → FrTm nw σ0 σ' → R_table_44 (at9 : Int) ((nx : Int) - (at9 : Int)) ((R ++ v.1).flatten.length : Int) ((R ++ v.1).length : Int) (tbC (R ++ v.1) : Int) (nx : Int) σ' Q) → (∀ e σ', tbR E M r s = .inr e → TxR σ' e → UnB σ' → FrTm nw σ0 σ' → Q (.inl none) σ') → R_table_44 (at9 : Int) ((nx : Int) - (at9 : Int)) (R.flatten.length : Int) (R.length : Int) (tbC R : Int) ((at9 + q.length : Nat) : Int) σ Q := by
  have ll : ls.length = nx - at9 := by
    rw [hls]
    unfold tbL
    rw [List.length_take, List.length_drop]
    omega
  have ml4 : (mlL M).length ≤ 4000 := Nat.le_trans (mlF_l (T := M) M.length 0) hSc0.2.1
  intro r
  induction r with
  | nil =>
    intro q R s σ hq hq1 hRq hT hTI hf hy hn
    rw [List.append_nil] at hq
    have := hy ([], s) σ rfl (by rw [List.append_nil]; exact hT) (by rw [List.append_nil]; exact hTI) hf
    rw [List.append_nil] at this
    rw [show at9 + q.length = nx by rw [← hq, ll]; omega]
    exact this
  | cons l r ih =>
    intro q R s σ hq hq1 hRq hT hTI hf hy hn
    have hl2 : nx - at9 = q.length + (r.length + 1) := by rw [← ll, hq, List.length_append, List.length_cons]
    have hj : at9 + q.length < (mlL M).length := by omega
    have el : (mlL M).getD (at9 + q.length) (0, 0) = l := by
      have e1 : ls.getD q.length (0, 0) = l := by
        rw [hq]
        unfold List.getD
        rw [List.getElem?_append_right (Nat.le_refl _), Nat.sub_self]
        rfl
      rw [hls] at e1
      unfold tbL at e1
      unfold List.getD at e1 ⊢
      rw [List.getElem?_take_of_lt (by omega), List.getElem?_drop] at e1
      exact e1
    have hs := hsol (at9 + q.length) (by omega) (by omega)
    have few := tb_few hTI ht0
    have hSc := hSc0.te hf
    refine R_table_44.i ⟨by unfold Rg; omega, by unfold Rg; omega, fun h => absurd h (by omega), fun _ => ⟨fun h => absurd hT.1.1.1 h, fun _ => ?_⟩⟩
    refine R_parts.p hSc hj hs (by omega) hT.1.1.1 (fun X σ1 hX h8 f1 p1 o1 => ?_) (fun h8 σ1 x f1 e28 rx => ?_)
    · have t1 := hT.pt f1 o1
      have g1 : FrTm nw σ0 σ1 := hf.tr (FrTm.z f1 (by decide) (by simp))
      have e8 : ¬ 8 < (tcL M l.1 l.2).length := by
        rw [← el, ← hX]
        omega
      have eX : tcL M l.1 l.2 = X := by rw [hX, el]
      show (mV σ1 246 28 = 0 → _) ∧ (¬ mV σ1 246 28 = 0 → _)
      refine ⟨fun _ => ⟨by unfold Rg; omega, by unfold Rg; omega, fun _ => ?_, fun h => absurd h (by omega)⟩, fun h => absurd t1.1.1.1 h⟩
      refine trr_95 (k9 := at9 + q.length) hE hE2 hMb (hSc0.te g1) hj hs ht0 (by omega) hX h8 t1 p1 hTI (fun w σ2 w1 t2 i2 g2 => ?_) (fun e σ2 w1 q1 q2 g2 => hn e σ2 (by
        unfold tbR
        rw [if_neg e8, eX, w1]) q1 q2 (g1.tr g2))
      have := ih (q ++ [l]) (R ++ [w.1]) w.2 σ2 (by rw [List.append_assoc]; exact hq) (by rw [List.length_append]; omega) (by rw [List.length_append, List.length_append]; show _ + 1 ≤ _ + 1; omega) t2 i2 (g1.tr g2) (fun v σ3 v1 t3 i3 g3 => ?_) (fun e σ3 v1 q1 q2 g3 => hn e σ3 (by
        unfold tbR
        rw [if_neg e8, eX, w1]
        show (match tbR E M r w.2 with
          | .inr e => (.inr e : (List (List (List Int)) × TS) ⊕ (Int × Int × Int))
          | .inl v => .inl (w.1 :: v.1, v.2)) = _
        rw [v1]) q1 q2 g3)
      · have e6 : at9 + (q ++ [l]).length = at9 + q.length + 1 := by
          rw [List.length_append]
          rfl
        rw [e6] at this
        exact this
      · have e4 : tbR E M (l :: r) s = .inl (w.1 :: v.1, v.2) := by
          unfold tbR
          rw [if_neg e8, eX, w1]
          show (match tbR E M r w.2 with
            | .inr e => (.inr e : (List (List (List Int)) × TS) ⊕ (Int × Int × Int))
            | .inl v => .inl (w.1 :: v.1, v.2)) = _
          rw [v1]
        have e5 : R ++ [w.1] ++ v.1 = R ++ (w.1 :: v.1) := by rw [List.append_assoc]; rfl
        rw [e5] at t3 i3 ⊢
        exact hy (w.1 :: v.1, v.2) σ3 e4 t3 i3 g3
    · show (mV σ1 246 28 = 0 → _) ∧ (¬ mV σ1 246 28 = 0 → _)
      refine ⟨fun h => absurd (e28.symm.trans h) (by decide), fun _ => hn (9, s.1.1, s.1.2.1) σ1 ?_ ⟨e28, (f1.f (by decide) (by decide)).trans hT.1.1.2.1, (f1.f (by decide) (by decide)).trans hT.1.1.2.2⟩ (hT.1.2.2.2.1.z f1 (by decide) (by decide)) (hf.tr (FrTm.z f1 (by decide) (by decide)))⟩
      unfold tbR
      rw [if_pos (by rw [← el]; omega)]
end
