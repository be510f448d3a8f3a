theorem d0_23 : decode (mC 0) 23 = .ok (.iload 4, 2) := by decide +kernel
theorem d0_25 : decode (mC 0) 25 = .ok (.aload_n 0, 1) := by decide +kernel
theorem d0_26 : decode (mC 0) 26 = .ok (.arraylength, 1) := by decide +kernel
theorem d0_27 : decode (mC 0) 27 = .ok (.bipush 7, 2) := by decide +kernel
theorem d0_29 : decode (mC 0) 29 = .ok (.isub, 1) := by decide +kernel
theorem d0_30 : decode (mC 0) 30 = .ok (.if_icmp .gt 1006, 3) := by decide +kernel
theorem d0_33 : decode (mC 0) 33 = .ok (.aload_n 0, 1) := by decide +kernel
theorem d0_34 : decode (mC 0) 34 = .ok (.iload 4, 2) := by decide +kernel
theorem d0_36 : decode (mC 0) 36 = .ok (.iaload, 1) := by decide +kernel
theorem d0_37 : decode (mC 0) 37 = .ok (.bipush 31, 2) := by decide +kernel
theorem d0_39 : decode (mC 0) 39 = .ok (.iand, 1) := by decide +kernel
theorem d0_40 : decode (mC 0) 40 = .ok (.tableswitch 990 0 20 #[100, 247, 260, 273, 329, 342, 367, 392, 405, 449, 505, 573, 653, 733, 801, 814, 827, 840, 865, 909, 965], 100) := by decide +kernel
theorem d0_1030 : decode (mC 0) 1030 = .ok (.iinc 4 7, 3) := by decide +kernel
theorem d0_1033 : decode (mC 0) 1033 = .ok (.goto (-1010), 3) := by decide +kernel
theorem d0_1036 : decode (mC 0) 1036 = .ok (.iconst 1, 1) := by decide +kernel
theorem d0_1037 : decode (mC 0) 1037 = .ok (.ireturn, 1) := by decide +kernel
theorem mT_0 : mT 0 = some .boolean := by decide +kernel
theorem cb_7 : (Int8.ofInt (7)).toInt32 = 7 := by decide
theorem cb_31 : (Int8.ofInt (31)).toInt32 = 31 := by decide
theorem am_in_nI {c N : Nat} (h : c < N) (hN : N < 2 ^ 31) : am_in (nI c) N = true := by
  unfold am_in
  have h1 := nI_in h hN
  have h2 : ¬ nI c < 0 := fun z => h1 (Or.inl z)
  have h3 : ¬ N ≤ (nI c).toNatClampNeg := fun z => h1 (Or.inr z)
  simp [h2, h3]
theorem lw_n {L n : Nat} {σ : SS} {scr : Nat → Int32} (hL : L ≤ 3584) (hN : sN σ = L) (hS : sS σ = scr) (h : 7 * n + 7 ≤ L) : Wn σ (nI (7 * n)) (fun j => scr (7 * n + j)) := by
  have key : ∀ j : Nat, j < 7 → am_in (nI (7 * n + j)) (sN σ) = true ∧ sS σ (nI (7 * n + j)).toNatClampNeg = scr (7 * n + j) := fun j hj => by
    refine ⟨am_in_nI (by omega) (by omega), ?_⟩
    rw [nI_clamp (by omega), hS]
  have e : ∀ j : Nat, nI (7 * n) + nI j = nI (7 * n + j) := fun j => nI_add _ _
  refine ⟨key 0 (by omega), ?_, ?_, ?_, ?_, ?_, ?_⟩
  · exact e 1 ▸ key 1 (by omega)
  · exact e 2 ▸ key 2 (by omega)
  · exact e 3 ▸ key 3 (by omega)
  · exact e 4 ▸ key 4 (by omega)
  · exact e 5 ▸ key 5 (by omega)
  · exact e 6 ▸ key 6 (by omega)
theorem lenSub {L : Nat} (hL : L ≤ 3584) : (Int32.ofNat L - 7).toInt = (L : Int) - 7 := pk_sub_toInt (a := L) (b := 7) (by omega) (by omega)
theorem call_out {j : Nat} {w : Nat → Int32} {σ : SS} {K : KK} (h : 20 < j) : CallOK j w σ K = K σ 0 0 := by
  obtain ⟨m, rfl⟩ : ∃ m, j = m + 21 := ⟨j - 21, by omega⟩
  rfl
theorem law_loop {L : Nat} (hL : L ≤ 3584) {scr : Nat → Int32} {Inv : Nat → SS → Nat → Nat → Prop} (hNS : ∀ n σ ka sa, Inv n σ ka sa → sN σ = L ∧ sS σ = scr)
    (hstep : ∀ n σ ka sa, 7 * n + 7 ≤ L → Inv n σ ka sa → ∀ j, j < 32 → scr (7 * n) &&& 31 = nI j → CallOK j (fun j => scr (7 * n + j)) σ (fun σ2 k s => Inv (n + 1) σ2 (ka + k) (sa + s))) :
    ∀ m n σ ka sa, n + m = L / 7 → Inv n σ ka sa → Ev 1000 0 23 (lw (nI (7 * n))) [] σ (fun o s k t => o = .inl (some 1) ∧ Inv (L / 7) s (ka + k) (sa + t)) := by
  intro m
  induction m with
  | zero =>
    intro n σ ka sa hm hI
    obtain ⟨hN, hS⟩ := hNS _ _ _ _ hI
    refine ev_iload d0_23 rfl m0 rfl ?_
    refine ev_aload_n d0_25 rfl m4 rfl ?_
    refine ev_slen mK9_0 d0_26 rfl ?_
    refine ev_bipush d0_27 cb_7 rfl ?_
    refine ev_isub d0_29 rfl ?_
    refine ev_ic_gt d0_30 (t := 1036) (aj rfl) rfl (fun c1 => ?_) (fun c1 => ?_)
    · refine ev_iconst d0_1036 ci_1 rfl ?_
      refine ev_zret mT_0 d0_1037 (Or.inr rfl) ⟨rfl, ?_⟩
      have e : n = L / 7 := by omega
      subst e
      exact hI
    · exfalso
      apply c1
      rw [hN]
      rw [Int32.lt_iff_toInt_lt, lenSub hL, nI_toInt (by omega)]
      omega
  | succ m ih =>
    intro n σ ka sa hm hI
    obtain ⟨hN, hS⟩ := hNS _ _ _ _ hI
    have hn : 7 * n + 7 ≤ L := by omega
    have hw := lw_n hL hN hS hn
    refine ev_iload d0_23 rfl m0 rfl ?_
    refine ev_aload_n d0_25 rfl m4 rfl ?_
    refine ev_slen mK9_0 d0_26 rfl ?_
    refine ev_bipush d0_27 cb_7 rfl ?_
    refine ev_isub d0_29 rfl ?_
    refine ev_ic_gt d0_30 (t := 1036) (aj rfl) rfl (fun c1 => ?_) (fun c1 => ?_)
    · exfalso
      rw [hN, Int32.lt_iff_toInt_lt, lenSub hL, nI_toInt (by omega)] at c1
      omega
    refine ev_aload_n d0_33 rfl m4 rfl ?_
    refine ev_iload d0_34 rfl m0 rfl ?_
    refine ev_scrv (v := scr (7 * n)) mK9_0 d0_36 hw.1.1 hw.1.2 rfl ?_
    refine ev_bipush d0_37 cb_31 rfl ?_
    refine ev_iand d0_39 rfl ?_
    obtain ⟨j, hj, ej⟩ := pk_andE (scr (7 * n)) (m := 31) 5 rfl
    have hj : j < 32 := hj
    have H := hstep n σ ka sa hn hI j hj ej
    have kk : ∀ σ2 k s, Inv (n + 1) σ2 (ka + k) (sa + s) → Ev 1000 0 1030 (lw (nI (7 * n))) [] σ2 (fun o s9 k9 n9 => o = .inl (some 1) ∧ Inv (L / 7) s9 (ka + (k + k9)) (sa + (s + n9))) := by
      intro σ2 k s h2
      refine ev_iinc (lo2 := lw (nI (7 * (n + 1)))) (w := nI (7 * (n + 1))) mL_0 d0_1030 m0 (kn_of (ks := [4, 3, 2, 1, 0]) rfl (by decide)) (by decide) ?_ rfl rfl ?_
      · show nI (7 * n) + nI 7 = _
        rw [nI_add]
        rfl
      refine ev_goto d0_1033 (t := 23) (aj rfl) ?_
      refine Ev.mono (ih (n + 1) σ2 _ _ (by omega) h2) (fun o s9 k9 n9 hq => ?_)
      rw [Nat.add_assoc, Nat.add_assoc] at hq
      exact hq
    rw [ej]
    have ht : (nI j).toInt = (j : Int) := nI_toInt (by omega)
    by_cases h20 : 20 < j
    · have H : Inv (n + 1) σ (ka + 0) (sa + 0) := by
        rw [call_out h20] at H; exact H
      refine ev_tout d0_40 (t := 1030) (Or.inr (by rw [ht]; omega)) (aj rfl) ?_
      refine Ev.mono (kk σ 0 0 H) (fun o s9 k9 n9 hq => ?_)
      rw [Nat.zero_add, Nat.zero_add] at hq
      exact hq
    have hj2 : j ≤ 20 := by omega
    clear hj h20
    match j, hj2, H, ht with
    | 0, _, H, ht => exact ev_tin d0_40 (by rw [ht]; omega) (by rw [ht]; omega) (off := 100) (by rw [ht]; rfl) (t := 140) (aj rfl) (lc_0 (K := fun σ2 k s => Inv (n + 1) σ2 (ka + k) (sa + s)) hw H kk)
    | 1, _, H, ht => exact ev_tin d0_40 (by rw [ht]; omega) (by rw [ht]; omega) (off := 247) (by rw [ht]; rfl) (t := 287) (aj rfl) (lc_1 (K := fun σ2 k s => Inv (n + 1) σ2 (ka + k) (sa + s)) hw H kk)
    | 2, _, H, ht => exact ev_tin d0_40 (by rw [ht]; omega) (by rw [ht]; omega) (off := 260) (by rw [ht]; rfl) (t := 300) (aj rfl) (lc_2 (K := fun σ2 k s => Inv (n + 1) σ2 (ka + k) (sa + s)) hw H kk)
    | 3, _, H, ht => exact ev_tin d0_40 (by rw [ht]; omega) (by rw [ht]; omega) (off := 273) (by rw [ht]; rfl) (t := 313) (aj rfl) (lc_3 (K := fun σ2 k s => Inv (n + 1) σ2 (ka + k) (sa + s)) hw H kk)
    | 4, _, H, ht => exact ev_tin d0_40 (by rw [ht]; omega) (by rw [ht]; omega) (off := 329) (by rw [ht]; rfl) (t := 369) (aj rfl) (lc_4 (K := fun σ2 k s => Inv (n + 1) σ2 (ka + k) (sa + s)) hw H kk)
    | 5, _, H, ht => exact ev_tin d0_40 (by rw [ht]; omega) (by rw [ht]; omega) (off := 342) (by rw [ht]; rfl) (t := 382) (aj rfl) (lc_5 (K := fun σ2 k s => Inv (n + 1) σ2 (ka + k) (sa + s)) hw H kk)
    | 6, _, H, ht => exact ev_tin d0_40 (by rw [ht]; omega) (by rw [ht]; omega) (off := 367) (by rw [ht]; rfl) (t := 407) (aj rfl) (lc_6 (K := fun σ2 k s => Inv (n + 1) σ2 (ka + k) (sa + s)) hw H kk)
    | 7, _, H, ht => exact ev_tin d0_40 (by rw [ht]; omega) (by rw [ht]; omega) (off := 392) (by rw [ht]; rfl) (t := 432) (aj rfl) (lc_7 (K := fun σ2 k s => Inv (n + 1) σ2 (ka + k) (sa + s)) hw H kk)
    | 8, _, H, ht => exact ev_tin d0_40 (by rw [ht]; omega) (by rw [ht]; omega) (off := 405) (by rw [ht]; rfl) (t := 445) (aj rfl) (lc_8 (K := fun σ2 k s => Inv (n + 1) σ2 (ka + k) (sa + s)) hw H kk)
    | 9, _, H, ht => exact ev_tin d0_40 (by rw [ht]; omega) (by rw [ht]; omega) (off := 449) (by rw [ht]; rfl) (t := 489) (aj rfl) (lc_9 (K := fun σ2 k s => Inv (n + 1) σ2 (ka + k) (sa + s)) hw H kk)
    | 10, _, H, ht => exact ev_tin d0_40 (by rw [ht]; omega) (by rw [ht]; omega) (off := 505) (by rw [ht]; rfl) (t := 545) (aj rfl) (lc_10 (K := fun σ2 k s => Inv (n + 1) σ2 (ka + k) (sa + s)) hw H kk)
    | 11, _, H, ht => exact ev_tin d0_40 (by rw [ht]; omega) (by rw [ht]; omega) (off := 573) (by rw [ht]; rfl) (t := 613) (aj rfl) (lc_11 (K := fun σ2 k s => Inv (n + 1) σ2 (ka + k) (sa + s)) hw H kk)
    | 12, _, H, ht => exact ev_tin d0_40 (by rw [ht]; omega) (by rw [ht]; omega) (off := 653) (by rw [ht]; rfl) (t := 693) (aj rfl) (lc_12 (K := fun σ2 k s => Inv (n + 1) σ2 (ka + k) (sa + s)) hw H kk)
    | 13, _, H, ht => exact ev_tin d0_40 (by rw [ht]; omega) (by rw [ht]; omega) (off := 733) (by rw [ht]; rfl) (t := 773) (aj rfl) (lc_13 (K := fun σ2 k s => Inv (n + 1) σ2 (ka + k) (sa + s)) hw H kk)
    | 14, _, H, ht => exact ev_tin d0_40 (by rw [ht]; omega) (by rw [ht]; omega) (off := 801) (by rw [ht]; rfl) (t := 841) (aj rfl) (lc_14 (K := fun σ2 k s => Inv (n + 1) σ2 (ka + k) (sa + s)) hw H kk)
    | 15, _, H, ht => exact ev_tin d0_40 (by rw [ht]; omega) (by rw [ht]; omega) (off := 814) (by rw [ht]; rfl) (t := 854) (aj rfl) (lc_15 (K := fun σ2 k s => Inv (n + 1) σ2 (ka + k) (sa + s)) hw H kk)
    | 16, _, H, ht => exact ev_tin d0_40 (by rw [ht]; omega) (by rw [ht]; omega) (off := 827) (by rw [ht]; rfl) (t := 867) (aj rfl) (lc_16 (K := fun σ2 k s => Inv (n + 1) σ2 (ka + k) (sa + s)) hw H kk)
    | 17, _, H, ht => exact ev_tin d0_40 (by rw [ht]; omega) (by rw [ht]; omega) (off := 840) (by rw [ht]; rfl) (t := 880) (aj rfl) (lc_17 (K := fun σ2 k s => Inv (n + 1) σ2 (ka + k) (sa + s)) hw H kk)
    | 18, _, H, ht => exact ev_tin d0_40 (by rw [ht]; omega) (by rw [ht]; omega) (off := 865) (by rw [ht]; rfl) (t := 905) (aj rfl) (lc_18 (K := fun σ2 k s => Inv (n + 1) σ2 (ka + k) (sa + s)) hw H kk)
    | 19, _, H, ht => exact ev_tin d0_40 (by rw [ht]; omega) (by rw [ht]; omega) (off := 909) (by rw [ht]; rfl) (t := 949) (aj rfl) (lc_19 (K := fun σ2 k s => Inv (n + 1) σ2 (ka + k) (sa + s)) hw H kk)
    | 20, _, H, ht => exact ev_tin d0_40 (by rw [ht]; omega) (by rw [ht]; omega) (off := 965) (by rw [ht]; rfl) (t := 1005) (aj rfl) (lc_20 (K := fun σ2 k s => Inv (n + 1) σ2 (ka + k) (sa + s)) hw H kk)
    | j + 21, h, _, _ => exact absurd h (by omega)
theorem runs_of {L : Nat} (hL : L ≤ 3584) {scr : Nat → Int32} {Inv : Nat → SS → Nat → Nat → Prop} (hNS : ∀ n σ ka sa, Inv n σ ka sa → sN σ = L ∧ sS σ = scr)
    (hstep : ∀ n σ ka sa, 7 * n + 7 ≤ L → Inv n σ ka sa → ∀ j, j < 32 → scr (7 * n) &&& 31 = nI j → CallOK j (fun j => scr (7 * n + j)) σ (fun σ2 k s => Inv (n + 1) σ2 (ka + k) (sa + s)))
    (h0 : Inv 0 (σ0 L scr) 0 0) (hend : ∀ σ ka sa, Inv (L / 7) σ ka sa → ka ≤ 599650 ∧ sa ≤ 5698413) : Runs L scr := by
  obtain ⟨f, out, σ', kc, ks, ⟨rfl, hI⟩, h⟩ := law_loop hL hNS hstep (L / 7) 0 (σ0 L scr) 0 0 (by omega) h0
  rw [Nat.zero_add, Nat.zero_add] at hI
  obtain ⟨e1, e2⟩ := hend _ _ _ hI
  exact ⟨f, σ', kc, ks, h f lo0 (Nat.le_refl _) (fun _ h => h) (kn_of (ks := [4, 3, 2, 1, 0]) rfl (by decide)), by omega, by omega⟩
