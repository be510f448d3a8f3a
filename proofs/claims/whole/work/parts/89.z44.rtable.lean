/-! TABLES: the reference narrows, and marks points -/
section
variable {σ σ0 : MS} {Q : MQ9} {H : HY9} {E : TE} {nw : Nat} {s : TS} {R : List (List (List Int))} {wide : Int}
theorem trr_281 (hT : TlS σ E nw s R) (hok : ∀ u ∈ R.flatten, okK u) (hsu : suM R.flatten ≤ 65000) (hCl : R.flatten.length ≤ 4100) (hRl : R.length ≤ 4000) (hc8 : tbC R ≤ 8) (hw : 12 ≤ wide ∧ wide ≤ 80) (hw0 : mV σ 275 0 = wide) (hb : HyB H.2.1 H.2.2.1 H.2.2.2.1 H.2.2.2.2) (hHy : HyR σ H.2.1 H.2.2.1 H.2.2.2.1 H.2.2.2.2) (h0 : tbC R = 0 → ∀ σ', FrZ [344] [] σ σ' → Q (.inl none) σ') (hq : 1 ≤ tbC R → ∀ σ', FrZ [256, 344, 346, 348] [] σ σ' → CpR σ' (false, H.2) R.flatten R.flatten.length → hol σ' 346 (nwD9 wide (tbC R) (tbQ R)) → (∀ i, i ≤ R.length → mV σ' 344 i = (((R.take i).flatten.length : Nat) : Int)) → CbR σ' E nw s (suM R.flatten) → R_table_351 (R.length : Int) (tbC R : Int) (mV σ' 246 99) 0 σ' Q) : R_table_281 (R.flatten.length : Int) (R.length : Int) (tbC R : Int) σ Q := by
  obtain ⟨hC, hCe, hW, hCf⟩ := hT
  have f1 : FrZ [344] [] σ (wV σ 344 R.length (R.flatten.length : Int)) := FrZ.wz (by decide)
  have v1 : ∀ y k, y ≠ 344 → mV (wV σ 344 R.length (R.flatten.length : Int)) y k = mV σ y k := fun y k h => wV_ne (Or.inl h)
  have c1 : ∀ i, i ≤ R.length → mV (wV σ 344 R.length (R.flatten.length : Int)) 344 i = (((R.take i).flatten.length : Nat) : Int) := fun i hi => by
    by_cases e : i = R.length
    · rw [e, wV_self, List.take_length]
    · rw [wV_ne (Or.inr e)]
      exact hCf i (by omega)
  refine R_table_281.i ⟨by omega, by omega, by unfold Rg; omega, ?_⟩
  rw [Int.toNat_natCast]
  refine ⟨fun h => absurd hC.1.1 h, fun _ => ⟨fun h => ?_, fun h => h0 (by omega) _ f1⟩⟩
  have hc1 : 1 ≤ tbC R := by omega
  generalize wV σ 344 R.length (R.flatten.length : Int) = σ1 at f1 v1 c1
  have wd : ∀ k, k < 8 → (tbQ R).getD k 0 = tbD k R := fun k hk => by
    unfold tbQ
    exact ofF_get hk
  refine R_narrows.p (c := tbC R) (W := tbQ R) (by omega) ((v1 _ _ (by decide)).trans hw0) ⟨hc1, hc8⟩ (fun k hk => ?_) ofF_len (fun k hk => ?_) (fun σ2 f2 n2 => ?_)
  · have hk : k < 8 := by
      unfold tbQ at hk
      rw [ofF_len] at hk
      exact hk
    rw [wd k hk, v1 _ _ (by decide)]
    exact hW k hk
  · rw [wd k hk]
    have h1 := tbD_1 (k := k) (R := R)
    have h2 := tbD_b (k := k) (R := R) (m := suM R.flatten) (fun row hr c hc => suM_mem (List.mem_flatten.mpr ⟨row, hr, hc⟩))
    omega
  · have z2 : ∀ y k, y ≠ 346 → y ≠ 246 → mV σ2 y k = mV σ1 y k := fun y k a d => f2.z (by rw [List.mem_singleton]; exact a) d
    have f02 : FrZ [344, 346] [] σ σ2 := (f1.mo (by decide) (by simp)).tr (f2.mo (by decide) (by simp))
    show R_table_311 (R.flatten.length : Int) (R.length : Int) (tbC R : Int) 0 σ2 Q
    refine trr_311 (σ0 := σ2) (H := H) hok hsu hCl hb (hHy.z f02 (by decide)) (fun σ3 f3 p3 => ?_) R.flatten.length 0 σ2 (by omega) FrZ.rf (fun j hj => ?_)
    · have z3 : ∀ y k, y ≠ 256 → y ≠ 348 → y ≠ 246 → mV σ3 y k = mV σ2 y k := fun y k a b d => f3.z (by simp only [List.mem_cons, List.not_mem_nil, or_false]; omega) d
      exact hq hc1 σ3 ((f02.mo (by decide) (by simp)).tr (f3.mo (by decide) (by simp))) p3 (fun k hk => (z3 _ _ (by decide) (by decide) (by decide)).trans (n2 k hk)) (fun i hi => (z3 _ _ (by decide) (by decide) (by decide)).trans ((z2 _ _ (by decide) (by decide)).trans (c1 i hi))) ((hC.k f02 (by decide) (by simp)).k f3 (by decide) (by simp))
    · obtain ⟨a, b, t1, t2, t3, t4⟩ := hCe j hj
      have u : ∀ y k, y ≠ 344 → y ≠ 346 → y ≠ 246 → mV σ2 y k = mV σ y k := fun y k a b d => (z2 y k b d).trans (v1 y k a)
      exact ⟨a, b, t1, (u _ _ (by decide) (by decide) (by decide)).trans t2, (u _ _ (by decide) (by decide) (by decide)).trans t3, fun k hk => ⟨(u _ _ (by decide) (by decide) (by decide)).trans (t4 k hk).1, (u _ _ (by decide) (by decide) (by decide)).trans (t4 k hk).2⟩, fun h => absurd h (Nat.not_lt_zero _)⟩
end
