/-! THE REFERENCE WORKS TEXTS: cases, numbers, keys -/
theorem sDi_rd {c : Int} (h : okC c) : sDi (rdG c) = sDi (c % 128) := by
  unfold rdG
  split
  · rename_i h5
    rw [h.2.2 h5]
    decide
  · rfl
theorem sLe_rd {c : Int} (h : okC c) : sLe (rdG c) = sLe (c % 128) := by
  unfold rdG
  split
  · rename_i h5
    rw [h.2.2 h5]
    decide
  · rfl
theorem sDi_rd2 {c : Int} (h : sDi (rdG c) = true) : rdG c = c % 128 := by
  unfold rdG at h ⊢
  split at h
  · exact absurd h (by decide)
  · rename_i h5
    rw [if_neg h5]
theorem rcX_160 {k t ah : Int} : rcX k t ah 160 = 160 := by
  have a : uppS 160 = 160 := by decide
  have b : lowS 160 = 160 := by decide
  have c : sSm 160 = false := by decide
  have d : sGr 160 = false := by decide
  unfold rcX
  rw [a, b, c, d]
  split
  · rfl
  · split
    · split <;> rfl
    · split
      · rfl
      · rfl
theorem rd_rc {k t ah c : Int} (h : okC c) : rdG (rcS k t ah c) = rcX k t ah (rdG c) ∧ cyB (rcS k t ah c) = cyB c := by
  have b := rcX_b (k := k) (t := t) (ah := ah) (x := c % 128) (by omega)
  unfold okC at h
  by_cases h5 : 512 ≤ c
  · have e := h.2.2 h5
    have e2 : rcS k t ah c = c := by
      unfold rcS
      rw [e, rcX_32]
      omega
    rw [e2]
    refine ⟨?_, rfl⟩
    unfold rdG
    rw [if_pos h5, rcX_160]
  · unfold rdG rcS cyB
    rw [if_neg (by omega), if_neg h5]
    refine ⟨by omega, by omega⟩
theorem rcL_len {k t : Int} : ∀ {A : List Int} {ah : Int}, (rcL k t ah A).length = A.length
  | [], ah => rfl
  | c :: r, ah => by
    show (rcL k t (c % 128) r).length + 1 = r.length + 1
    rw [rcL_len]
theorem rcL_at {k t : Int} : ∀ {A : List Int} {ah : Int} {i : Nat}, i < A.length → (rcL k t ah A).getD i 0 = rcS k t (if i = 0 then ah else A.getD (i - 1) 0 % 128) (A.getD i 0)
  | [], ah, i, h => absurd h (Nat.not_lt_zero _)
  | c :: r, ah, 0, h => rfl
  | c :: r, ah, i + 1, h => by
    show (rcL k t (c % 128) r).getD i 0 = rcS k t (if i + 1 = 0 then ah else (c :: r).getD (i + 1 - 1) 0 % 128) (r.getD i 0)
    rw [rcL_at (by rw [List.length_cons] at h; omega), if_neg (show ¬ i + 1 = 0 by omega)]
    cases i with
    | zero => rfl
    | succ j => rfl
theorem okK.gd {L : List Int} (h : okK L) {i : Nat} (hi : i < L.length) : okC (L.getD i 0) := by
  rw [List.getD_eq_getElem?_getD, List.getElem?_eq_getElem hi]
  exact h _ (List.getElem_mem hi)
section
variable {σ σ0 σ1 σ2 : MS} {Q : MQ9} {g kt u D : Nat} {s s1 s2 : TS} {A L : List Int} {x y : Int}
theorem R_put.mo {Q2 : MQ9} (h : R_put x y σ Q) (hq : ∀ o s, Q o s → Q2 o s) : R_put x y σ Q2 := by
  unfold R_put at h ⊢
  exact WP.mono h hq
theorem kV_mo {P1 P2 : MS → Prop} (h : ∀ σ, P1 σ → P2 σ) : ∀ o s, kV (thQ Q) P1 o s → kV (thQ Q) P2 o s := fun o s hh => by
  match o with
  | .inl none => exact h s hh
  | .inl (some v) => exact hh
  | .inr v => exact hh
theorem R_cases.r {k : Int} {j : Nat} (hk9 : k = 0 ∨ k = 1 ∨ k = 2) (hj : j < 400) (hA : hoG σ 257 258 u A) (hok : okK A) (hk : u + A.length ≤ 70000) (h1 : mV σ 261 j = (u : Int)) (h2 : mV σ 262 j = ((u + A.length : Nat) : Int)) (h : RxW σ s) (hO : RxO σ g s) (hB : BdR g kt s) (hq : POk Q g kt σ s (tPs (rcL k 0 (-1) A) s)) : R_cases k (j : Int) σ Q := by
  have hl : (rcL k 0 (-1) A).length = A.length := rcL_len
  have kR : Rg k := by unfold Rg; omega
  refine R_cases.i ⟨by omega, by omega, ?_⟩
  rw [Int.toNat_natCast, h1]
  refine loopP (P := fun i σ' => R_cases_10 k (j : Int) (if i = 0 then 0 else bZ (sLe (rdG (A.getD (i - 1) 0)))) ((u + i : Nat) : Int) σ' Q) (L := rcL k 0 (-1) A) (fun i σ' s' hi hp h0 kk => ?_) (fun i σ' hi hf h0 hn kk => ?_) (fun σ' s' hp h0 kk => ?_) h hO hB hq
  · rw [hl] at hi
    have t : mV σ' 262 (j : Int).toNat = ((u + A.length : Nat) : Int) := by rw [Int.toNat_natCast, h0.z (by decide) (by decide)]; exact h2
    rw [rcL_at hi, (rd_rc (hok.gd hi)).1, (rd_rc (hok.gd hi)).2] at kk
    have rr := rdG_r (c := A.getD i 0)
    have f68 : ∀ w, w = rcX k 0 (if i = 0 then -1 else A.getD (i - 1) 0 % 128) (rdG (A.getD i 0)) → R_cases_68 k (j : Int) ((u + i : Nat) : Int) (rdG (A.getD i 0)) w σ' Q := by
      intro w hw
      subst hw
      refine R_cases_68.i ⟨by omega, by omega, ?_⟩
      rw [Int.toNat_natCast, ((h0.h hA) i hi).2]
      have e : ∀ σ2, R_cases_10 k (j : Int) (if i + 1 = 0 then 0 else bZ (sLe (rdG (A.getD (i + 1 - 1) 0)))) ((u + (i + 1) : Nat) : Int) σ2 Q → R_isLetter (rdG (A.getD i 0)) σ2 (kI (thQ Q) fun r2 σ3 => R_cases_10 k (j : Int) r2 (((u + i : Nat) : Int) + 1) σ3 Q) := by
        intro σ2 hh
        rw [if_neg (by omega), Nat.add_sub_cancel] at hh
        refine R_isLetter.s rr ?_
        show R_cases_10 k (j : Int) _ (((u + i : Nat) : Int) + 1) σ2 Q
        rw [show ((u + i : Nat) : Int) + 1 = ((u + (i + 1) : Nat) : Int) by omega]
        exact hh
      exact kk.mo (kV_mo e)
    have up : ∀ w, w = rcX k 0 (if i = 0 then -1 else A.getD (i - 1) 0 % 128) (rdG (A.getD i 0)) → w = uppS (rdG (A.getD i 0)) → R_cases_58 k (j : Int) ((u + i : Nat) : Int) (rdG (A.getD i 0)) σ' Q := fun w hw hu => R_cases_58.i (R_great.s rr (f68 _ (by rw [← hw, ← hu])))
    refine R_cases_10.i ⟨by omega, by omega, by unfold Rg; omega, fun a => absurd a (by rw [t]; omega), fun _ => ⟨fun b => absurd hp.2.2.1.1 b, fun _ => R_arg.r (h0.h hA) hi hk rfl ⟨kR, fun c1 => ⟨kR, fun c2 => ?_, fun c2 => ⟨fun c3 => ?_, fun c3 => ?_⟩⟩, fun c1 => ?_⟩⟩⟩
    · subst c2
      exact up _ rfl (by unfold rcX; rw [if_pos rfl])
    · have k2 : k = 2 := by omega
      subst k2
      refine f68 _ ?_
      by_cases h00 : i = 0
      · rw [if_pos h00] at c3
        exact absurd rfl c3
      · rw [if_neg h00] at c3
        have := bZ_ne c3
        rw [sLe_rd (hok.gd (by omega))] at this
        unfold rcX
        rw [if_neg (by decide), if_pos rfl, if_neg h00, this, if_pos rfl]
    · have k2 : k = 2 := by omega
      subst k2
      refine up _ rfl ?_
      unfold rcX
      rw [if_neg (by decide), if_pos rfl]
      by_cases h00 : i = 0
      · rw [if_pos h00, if_neg (by decide)]
      · rw [if_neg h00] at c3 ⊢
        have := bZ_z c3
        rw [sLe_rd (hok.gd (by omega))] at this
        rw [this, if_neg (by decide)]
    · subst c1
      refine R_low.s rr (f68 _ ?_)
      unfold rcX
      rw [if_neg (by decide), if_neg (by decide), if_pos rfl]
  · exact R_cases_10.i ⟨by omega, by omega, by rw [hl] at hi; unfold Rg; omega, fun _ => kk, fun _ => ⟨fun _ => kk, fun b => absurd b hn⟩⟩
  · have t : mV σ' 262 (j : Int).toNat = ((u + A.length : Nat) : Int) := by rw [Int.toNat_natCast, h0.z (by decide) (by decide)]; exact h2
    show R_cases_10 k (j : Int) _ ((u + (rcL k 0 (-1) A).length : Nat) : Int) σ' Q
    rw [hl]
    exact R_cases_10.i ⟨by omega, by omega, by unfold Rg; omega, fun _ => kk, fun b => absurd b (by rw [t]; omega)⟩
theorem tmod_26 {n x : Int} (hx : 0 ≤ x ∧ x < 26) : Int.tmod (x + Int.tmod (Int.tmod n 26 + 26) 26) 26 = (x + n) % 26 := by
  have h1 := Int.mul_tdiv_add_tmod n 26
  have h2 := Int.tmod_lt_of_pos n (show (0 : Int) < 26 by decide)
  have h3 := Int.lt_tmod_of_pos n (show (0 : Int) < 26 by decide)
  rw [Int.tmod_eq_emod_of_nonneg (show (0 : Int) ≤ Int.tmod n 26 + 26 by omega), Int.tmod_eq_emod_of_nonneg (by omega)]
  omega
theorem R_rotated.r {n : Int} {j : Nat} (hn9 : -9999 ≤ n ∧ n ≤ 9999) (hj : j < 400) (hA : hoG σ 257 258 u A) (hok : okK A) (hk : u + A.length ≤ 70000) (h1 : mV σ 261 j = (u : Int)) (h2 : mV σ 262 j = ((u + A.length : Nat) : Int)) (h : RxW σ s) (hO : RxO σ g s) (hB : BdR g kt s) (hq : POk Q g kt σ s (tPs (rcL 3 n (-1) A) s)) : R_rotated n (j : Int) σ Q := by
  have hl : (rcL 3 n (-1) A).length = A.length := rcL_len
  have t2 := Int.tmod_lt_of_pos n (show (0 : Int) < 26 by decide)
  have t3 := Int.lt_tmod_of_pos n (show (0 : Int) < 26 by decide)
  have t4 := Int.tmod_eq_emod_of_nonneg (b := 26) (show (0 : Int) ≤ Int.tmod n 26 + 26 by omega)
  refine R_rotated.i ⟨by unfold Rg; omega, by decide, by unfold Rg; omega, by decide, by omega, by omega, ?_⟩
  rw [Int.toNat_natCast, h1]
  refine loopP (P := fun i σ' => R_rotated_19 (j : Int) (Int.tmod (Int.tmod n 26 + 26) 26) ((u + i : Nat) : Int) σ' Q) (L := rcL 3 n (-1) A) (fun i σ' s' hi hp h0 kk => ?_) (fun i σ' hi hf h0 hn kk => ?_) (fun σ' s' hp h0 kk => ?_) h hO hB hq
  · rw [hl] at hi
    have t : mV σ' 262 (j : Int).toNat = ((u + A.length : Nat) : Int) := by rw [Int.toNat_natCast, h0.z (by decide) (by decide)]; exact h2
    rw [rcL_at hi, (rd_rc (hok.gd hi)).1, (rd_rc (hok.gd hi)).2] at kk
    have rr := rdG_r (c := A.getD i 0)
    have ra := R_arg.r (Q := kI (thQ Q) fun r1 σ1 => R_isSmall r1 σ1 (kI (thQ Q) fun r2 σ2 => ((r2 = 0 → R_isGreat r1 σ2 (kI (thQ Q) fun r3 σ3 => ((r3 = 0 → R_rotated_96 (j : Int) (Int.tmod (Int.tmod n 26 + 26) 26) ((u + i : Nat) : Int) r1 σ3 Q) ∧ (¬ r3 = 0 → Rg ((r1 - 65) + (Int.tmod (Int.tmod n 26 + 26) 26)) ∧ (0 : Int) < 26 ∧ R_rotated_96 (j : Int) (Int.tmod (Int.tmod n 26 + 26) 26) ((u + i : Nat) : Int) (65 + (Int.tmod ((r1 - 65) + (Int.tmod (Int.tmod n 26 + 26) 26)) 26)) σ3 Q)))) ∧ (¬ r2 = 0 → Rg ((r1 - 97) + (Int.tmod (Int.tmod n 26 + 26) 26)) ∧ (0 : Int) < 26 ∧ R_rotated_96 (j : Int) (Int.tmod (Int.tmod n 26 + 26) 26) ((u + i : Nat) : Int) (97 + (Int.tmod ((r1 - 97) + (Int.tmod (Int.tmod n 26 + 26) 26)) 26)) σ2 Q)))) (h0.h hA) hi hk rfl
    have f96 : ∀ w, w = rcX 3 n (if i = 0 then -1 else A.getD (i - 1) 0 % 128) (rdG (A.getD i 0)) → R_rotated_96 (j : Int) (Int.tmod (Int.tmod n 26 + 26) 26) ((u + i : Nat) : Int) w σ' Q := by
      intro w hw
      subst hw
      refine R_rotated_96.i ⟨by omega, by omega, ?_⟩
      rw [Int.toNat_natCast, ((h0.h hA) i hi).2, show ((u + i : Nat) : Int) + 1 = ((u + (i + 1) : Nat) : Int) by omega]
      exact kk
    have eX : rcX 3 n (if i = 0 then -1 else A.getD (i - 1) 0 % 128) (rdG (A.getD i 0)) = (if sSm (rdG (A.getD i 0)) = true then 97 + (rdG (A.getD i 0) - 97 + n) % 26 else if sGr (rdG (A.getD i 0)) = true then 65 + (rdG (A.getD i 0) - 65 + n) % 26 else rdG (A.getD i 0)) := by
      unfold rcX
      rw [if_neg (by decide), if_neg (by decide), if_neg (by decide)]
    refine R_rotated_19.i ⟨by omega, by omega, by unfold Rg; omega, fun a => absurd a (by rw [t]; omega), fun _ => ⟨fun b => absurd hp.2.2.1.1 b, fun _ => ra ?_⟩⟩
    refine R_isSmall.s rr ⟨fun a => R_isGreat.s rr ⟨fun b => f96 _ ?_, fun b => ⟨?_, by decide, f96 _ ?_⟩⟩, fun a => ⟨?_, by decide, f96 _ ?_⟩⟩
    · rw [eX, bZ_z a, bZ_z b, if_neg (by decide), if_neg (by decide)]
    · have := sGr_i.mp (bZ_ne b)
      unfold Rg
      omega
    · have := sGr_i.mp (bZ_ne b)
      rw [eX, bZ_z a, if_neg (by decide), bZ_ne b, if_pos rfl, tmod_26 (by omega)]
    · have := sSm_i.mp (bZ_ne a)
      unfold Rg
      omega
    · have := sSm_i.mp (bZ_ne a)
      rw [eX, bZ_ne a, if_pos rfl, tmod_26 (by omega)]
  · exact R_rotated_19.i ⟨by omega, by omega, by rw [hl] at hi; unfold Rg; omega, fun _ => kk, fun _ => ⟨fun _ => kk, fun b => absurd b hn⟩⟩
  · have t : mV σ' 262 (j : Int).toNat = ((u + A.length : Nat) : Int) := by rw [Int.toNat_natCast, h0.z (by decide) (by decide)]; exact h2
    show R_rotated_19 (j : Int) _ ((u + (rcL 3 n (-1) A).length : Nat) : Int) σ' Q
    rw [hl]
    exact R_rotated_19.i ⟨by omega, by omega, by unfold Rg; omega, fun _ => kk, fun b => absurd b (by rw [t]; omega)⟩
end
