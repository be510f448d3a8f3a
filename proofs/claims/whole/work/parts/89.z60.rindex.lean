/-! INDEX: the reference, the whole -/
def RxS9 : List Nat := 254 :: 255 :: 256 :: 337 :: 338 :: 339 :: 348 :: MkS
def RxK9 : List Nat := [16, 28, 32, 33, 98, 99, 143, 146, 147, 148, 160, 161]
def FrRr (n : Nat) (σ σ' : MS) : Prop := FrZ RxS9 RxK9 σ σ' ∧ ∀ z k, z = 315 ∨ z = 316 ∨ z = 317 ∨ z = 318 → k < n → mV σ' z k = mV σ z k
section
variable {σ σ0 : MS} {Q : MQ9} {n' nw : Nat} {K : List (List Int)} {P S : List Int} {f s o : Int} {H : HY9} {E : TE} {b : BK9}
theorem FrRr.rf {n : Nat} : FrRr n σ σ := ⟨FrZ.rf, fun _ _ _ _ => rfl⟩
theorem FrRr.tr {n m : Nat} {σ1 σ2 : MS} (h : FrRr n σ σ1) (hnm : n ≤ m) (h' : FrRr m σ1 σ2) : FrRr n σ σ2 := ⟨h.1.tr h'.1, fun z k a b => (h'.2 z k a (by omega)).trans (h.2 z k a b)⟩
theorem FrRr.fi {n : Nat} {σ1 : MS} (h : FrFi n σ σ1) : FrRr n σ σ1 := ⟨h.1.mo (by decide) (by decide), h.2⟩
theorem FrRr.z {n : Nat} {S9 K9 : List Nat} {σ1 : MS} (h : FrZ S9 K9 σ σ1) (hs : S9 ⊆ [254, 255, 256, 337, 348]) (hk : K9 ⊆ RxK9) : FrRr n σ σ1 := ⟨h.mo (fun x hx => by
  have := hs hx
  unfold RxS9
  simp only [List.mem_cons, List.not_mem_nil, or_false] at this ⊢
  omega) hk, fun z k hz _ => h.z (fun e => by
  have := hs e
  simp only [List.mem_cons, List.not_mem_nil, or_false] at this
  omega) (by omega)⟩
theorem rgi_43 {key : Nat} {l2 : Int} (hn : n' ≤ 1) (hK : KyR σ0 n' K) (hs : suM K ≤ 65536) (hb : ∀ w ∈ K, smB w) (hKl : K.length ≤ 100) (hk : key < K.length) (hq : ∀ σ', FrZ [254, 255] [16] σ0 σ' → RgS σ' (kyA K key) → R_register_81 (n' : Int) l2 ((100 * n' + key : Nat) : Int) 0 σ' Q) : ∀ (n k : Nat) (σ : MS), k + n = (kyA K key).length → FrZ [254, 255] [16] σ0 σ → RgS σ ((kyA K key).take k) → R_register_43 (n' : Int) l2 ((100 * n' + key : Nat) : Int) (k : Int) σ Q := by
  obtain ⟨a1, a2, a3⟩ := hK.2 key hk
  have a2 : mV σ0 295 (100 * n' + key) = ((kyA K key).length : Int) := a2
  have a3 : holA σ0 293 (70000 * n' + suM (K.take key)) (kyA K key) := a3
  have si : suM (K.take key) + (kyA K key).length ≤ suM K := suM_tk (W := K) (i := key) hk
  have bs := hb _ (kya_mem hk)
  intro n
  induction n with
  | zero =>
    intro k σ hkl hf hR
    have z : ∀ y j, y ≠ 254 → y ≠ 255 → y ≠ 246 → mV σ y j = mV σ0 y j := fun y j a c d => hf.z (by simp only [List.mem_cons, List.not_mem_nil, or_false]; omega) d
    refine R_register_43.i ⟨by omega, by omega, ?_⟩
    rw [Int.toNat_natCast, z 295 _ (by decide) (by decide) (by decide), a2]
    refine ⟨by unfold Rg; omega, fun _ => hq σ hf ?_, fun h => absurd h (by omega)⟩
    rw [List.take_of_length_le (by omega)] at hR
    exact hR
  | succ n ih =>
    intro k σ hkl hf hR
    have z : ∀ y j, y ≠ 254 → y ≠ 255 → y ≠ 246 → mV σ y j = mV σ0 y j := fun y j a c d => hf.z (by simp only [List.mem_cons, List.not_mem_nil, or_false]; omega) d
    refine R_register_43.i ⟨by omega, by omega, ?_⟩
    rw [Int.toNat_natCast, z 295 _ (by decide) (by decide) (by decide), a2, z 294 _ (by decide) (by decide) (by decide), a1, show ((70000 * n' + suM (K.take key) : Nat) : Int) + (k : Int) = ((70000 * n' + suM (K.take key) + k : Nat) : Int) by omega, Int.toNat_natCast, z 293 _ (by decide) (by decide) (by decide), a3 k (by omega)]
    refine ⟨by unfold Rg; omega, fun h => absurd h (by omega), fun _ => ⟨by omega, by omega, by omega, by omega, R_plain.p (bs _ (gd_mem (by omega))) hR (by rw [List.length_take]; omega) (fun σ1 f1 h1 => ?_)⟩⟩
    show R_register_43 (n' : Int) l2 ((100 * n' + key : Nat) : Int) ((k : Int) + 1) σ1 Q
    rw [show (k : Int) + 1 = ((k + 1 : Nat) : Int) by omega]
    refine ih (k + 1) σ1 (by omega) (hf.tr f1) ?_
    have e : (kyA K key).take (k + 1) = (kyA K key).take k ++ [(kyA K key).getD k 0] := by
      rw [List.take_add_one]
      unfold List.getD
      rw [List.getElem?_eq_getElem (by omega)]
      rfl
    rw [e]
    exact h1
def nxO (n' : Nat) : List Nat → Int
  | [] => -1
  | k :: _ => ((100 * n' + k : Nat) : Int)
theorem rgi_19 {l2 : Int} {O : List Nat} (hn : n' ≤ 1) (hS : StB S) (hB : IxB K P) (hf : 0 ≤ f ∧ f ≤ 999) (hs : 0 < K.length → 1 ≤ s ∧ s ≤ 5) (hb : HyB H.2.1 H.2.2.1 H.2.2.2.1 H.2.2.2.2) (hO : OrS K K.length O) (hOl : O.length ≤ 100) : ∀ (r p : List Nat) (σ : MS) (G : GS9), O = p ++ r → IxR σ n' H S K P f s o → RxG σ G → GB9 0 G → (∀ G' σ', gAll o false (ixA H (S.getD 0 0) K P f s r) G = .inl G' → RxG σ' G' → FrRr G.2.1.length σ σ' → (∀ j, G.2.1.length ≤ j → j < G'.2.1.length → mV σ' 317 j = 0 ∧ mV σ' 318 j = 0) → R_register_230 l2 σ' Q) → (∀ e σ', gAll o false (ixA H (S.getD 0 0) K P f s r) G = .inr e → TxR σ' e → FrRr G.2.1.length σ σ' → R_register_230 l2 σ' Q) → R_register_19 (n' : Int) l2 (nxO n' r) σ Q := by
  have hB0 := hB
  obtain ⟨b1, b2, b3, b4, b5, b6, b7⟩ := hB
  intro r
  induction r with
  | nil =>
    intro p σ G hp hI hG hGB hy hn
    exact R_register_19.i ⟨fun _ => hy G σ rfl hG FrRr.rf (fun j a c => by omega), fun h => absurd h (by show ¬ (0 : Int) ≤ -1; decide)⟩
  | cons k r ih =>
    intro p σ G hp hI hG hGB hy hn9
    have lO : O.length = p.length + (r.length + 1) := by rw [hp, List.length_append, List.length_cons]
    have hkO : k ∈ O := by rw [hp]; exact List.mem_append_right _ List.mem_cons_self
    have hk : k < K.length := (hO.2.1 k hkO).1
    have tl := enT_l (K := K) (P := P) (f := f) (s := s) hk b1
    have ts := enT_s (K := K) (P := P) (f := f) (s := s) b4 hk
    have tc := enT_c (K := K) (P := P) (f := f) (s := s) b7 hk
    have pl := pgC_l (K := K) (P := P) (key := k) K.length
    have ps := pgC_s (K := K) (P := P) (key := k) (n := K.length) b7 K.length (Nat.le_refl _)
    -- what comes next
    have nxt : ∀ (σ1 : MS) (Q' : MQ9), KyR σ1 n' K → Q' (.inl (some (nxO n' r))) σ1 → R_keyBehind (n' : Int) ((100 * n' + k : Nat) : Int) σ1 Q' := fun σ1 Q' hK1 h => by
      have ek : O.getD p.length 0 = k := by
        rw [hp]
        unfold List.getD
        rw [List.getElem?_append_right (Nat.le_refl _), Nat.sub_self]
        rfl
      have kb := kbN_o hO (one := (k : Int)) (i := p.length + 1) (by omega) (Or.inr ⟨by omega, by rw [Nat.add_sub_cancel, ek]⟩)
      have en : kbZ n' (kbN K (k : Int) K.length) = nxO n' r := by
        rw [kb]
        cases r with
        | nil =>
          rw [if_neg (by rw [lO]; show ¬ _ < p.length + (0 + 1); omega)]
          rfl
        | cons x t =>
          rw [if_pos (by rw [lO]; show _ < p.length + (t.length + 1 + 1); omega)]
          have ex : O.getD (p.length + 1) 0 = x := by
            rw [hp]
            unfold List.getD
            rw [List.getElem?_append_right (by omega), show p.length + 1 - p.length = 1 by omega]
            rfl
          rw [ex, kbZ_n]
          rfl
      have := R_keyBehind.p (Q := Q') (one := (k : Int)) hn hK1 (by omega) b4 b1 (Or.inr ⟨by omega, by omega⟩) (by rw [en]; exact h)
      rw [kbZ_n] at this
      exact this
    generalize hU : pkL (enT K P f s k) = U at tc
    have e0 : ∀ x, gAll o false (ixA H (S.getD 0 0) K P f s (k :: r)) G = x ↔ gBd (gAll o false (ixL H (S.getD 0 0) U) G) (gAll o false (ixA H (S.getD 0 0) K P f s r)) = x := fun x => by
      rw [← hU, ← gAll_a]
      exact Iff.rfl
    refine R_register_19.i ⟨fun h => absurd h (by show ¬ ((100 * n' + k : Nat) : Int) < 0; omega), fun _ => ⟨fun h => absurd hG.1 h, fun _ => ?_⟩⟩
    have f1 : FrZ [] [16, 161] σ (wV (wV σ 246 16 0) 246 161 0) := (FrZ.wf (by decide)).tr (FrZ.wf (by decide))
    have v161 : mV (wV (wV σ 246 16 0) 246 161 0) 246 161 = 0 := wV_self
    have v16 : mV (wV (wV σ 246 16 0) 246 161 0) 246 16 = 0 := (wV_ne (Or.inr (by decide))).trans wV_self
    generalize wV (wV σ 246 16 0) 246 161 0 = σ1 at f1 v161 v16
    have hI1 := hI.z f1 (by decide) (by decide)
    refine rgi_43 (σ0 := σ1) (l2 := l2) hn hI1.1 (by omega) b4 b1 hk (fun σ2 f2 h2 => ?_) (kyA K k).length 0 σ1 (by omega) FrZ.rf ⟨v16, hoG.nil⟩
    have hI2 := hI1.z f2 (by decide) (by decide)
    refine rgi_81 (σ0 := σ2) (l2 := l2) (T := enT K P f s k) (N := (pgC K P k K.length).length) (H := H) (S := S) (o := o) hn hB0 hk hf (hs (by omega)) hI2 (by omega) (by omega) (fun σ3 f3 h3 => ?_) 100 0 (pgC K P k K.length) (kyA K k) σ2 (by omega) (by omega) FrZ.rf h2 ps.1 (fun x hx => ?_) (fun q hq => (ps.2.1 q).symm) (Nat.le_refl _) rfl
    · have hI3 := hI2.z f3 (by decide) (by decide)
      have g13 : FrZ [254, 255, 337] [16, 143] σ1 σ3 := (f2.mo (by decide) (by decide)).tr f3
      have g03 : FrRr G.2.1.length σ σ3 := (FrRr.z f1 (by simp) (by decide)).tr (Nat.le_refl _) (FrRr.z g13 (by decide) (by decide))
      refine R_register_81.i ⟨by decide, fun _ => ?_, fun h => absurd h (by decide)⟩
      rw [h3.1]
      have rp := R_points.p (σ := σ3) (H := (false, H.2)) (u := 0) (L := enT K P f s k) (Q := kV (thQ Q) fun σ1 => R_filled 0 (mV σ1 246 16) 0 0 2 0 σ1 (kI (thQ Q) fun r2 σ2 => R_keyBehind (n' : Int) ((100 * n' + k : Nat) : Int) σ2 (kI (thQ Q) fun r3 σ3 => R_register_19 (n' : Int) l2 r3 σ3 Q))) (sm_ok ts) (by omega) hb hI3.2.2.2.1 h3.2 (fun σ4 p4 v4 => ?_)
      · rw [Nat.zero_add] at rp
        exact rp
      · have f4 := p4.1
        have hI4 := hI3.z f4 (by decide) (by simp)
        have g04 : FrRr G.2.1.length σ σ4 := g03.tr (Nat.le_refl _) (FrRr.z f4 (by decide) (by simp))
        have h4 := h3.z f4 (by decide) (by simp)
        have v4' : mV σ4 246 161 = 0 := (f4.f (by simp) (by decide)).trans ((g13.f (by decide) (by decide)).trans v161)
        have ah : AhR σ4 [] := ⟨[], v4', by decide, fun i hi => absurd hi (Nat.not_lt_zero _), Nat.le_refl _, rfl, fun x hx => absurd hx List.not_mem_nil⟩
        have hG4 : RxG σ4 G := (hG.z f1 (by decide) (by decide)).z (g13.mo (S' := [254, 255, 337]) (K' := [16, 143]) (fun x hx => hx) (fun x hx => hx)) (by decide) (by decide) |>.z f4 (by decide) (by simp)
        show R_filled 0 (mV σ4 246 16) 0 0 2 0 σ4 _
        rw [h4.1]
        have eL : ixL H (S.getD 0 0) U = prA [] 2 0 (S.getD 0 0) U 0 (hgX H (S.getD 0 0) 2 U) := by
          unfold ixL prN
          have hne : (hgX H (S.getD 0 0) 2 U).isEmpty = false := by
            unfold hgX
            obtain ⟨m, hm⟩ : ∃ m, U.length = m + 1 := ⟨U.length - 1, by omega⟩
            rw [hm, fiL_s (by omega)]
            rfl
          rw [hne, if_neg (by decide), prB0]
        have rf := R_filled.p (σ := σ4) (H := (false, H.2)) (way := 0) (G := G) (fw := false) (u := 0) (L := enT K P f s k) (P := []) (hg := 2) (J := 0) (W := S.getD 0 0) (o := o) (c := 0) (Q := kI (thQ Q) fun r2 σ2 => R_keyBehind (n' : Int) ((100 * n' + k : Nat) : Int) σ2 (kI (thQ Q) fun r3 σ3 => R_register_19 (n' : Int) l2 r3 σ3 Q)) (by decide) (sm_ok ts) (by omega) (by omega) h4.2 v4 ah (by decide) (by decide) (hI4.2.2.2.2.1 0 (by decide)) hS.1 (by decide) hI4.2.2.2.2.2 (Int.le_refl _) hG4 hGB (fun G1 σ5 q1 q2 q3 q4 => ?_) (fun e σ5 x hx q1 q2 q3 => ?_)
        · rw [Nat.zero_add] at rf
          exact rf
        · rw [hU] at q1 q4
          have q1 : gAll o false (prA [] 2 0 (S.getD 0 0) U 0 (hgX H (S.getD 0 0) 2 U)) G = .inl G1 := q1
          have g05 : FrRr G.2.1.length σ σ5 := g04.tr (Nat.le_refl _) (FrRr.fi q3)
          have hI5 := hI.z g05.1 (by decide) (by decide)
          have gl := gAll_l q1
          have l1 : G1.2.1.length = G.2.1.length + (hgX H (S.getD 0 0) 2 U).length := by
            rw [gl.1, List.length_append, List.length_map, prA_l]
          show R_keyBehind (n' : Int) ((100 * n' + k : Nat) : Int) σ5 _
          refine nxt σ5 _ hI5.1 ?_
          show R_register_19 (n' : Int) l2 (nxO n' r) σ5 Q
          refine ih (p ++ [k]) σ5 G1 (by rw [List.append_assoc]; exact hp) hI5 q2 (gAll_b2 _ hGB q1) (fun G2 σ6 w1 w2 w3 w4 => hy G2 σ6 ((e0 _).mpr (by rw [eL, q1]; exact w1)) w2 (g05.tr (by omega) w3) (fun j a c => ?_)) (fun e σ6 w1 w2 w3 => hn9 e σ6 ((e0 _).mpr (by rw [eL, q1]; exact w1)) w2 (g05.tr (by omega) w3))
          by_cases hj : j < G1.2.1.length
          · rw [w3.2 317 j (by decide) hj, w3.2 318 j (by decide) hj]
            have := (q4 (j - G.2.1.length) (by show _ < (hgX H (S.getD 0 0) 2 U).length; omega)).2
            rw [show G.2.1.length + (j - G.2.1.length) = j by omega] at this
            exact this
          · exact w4 j (by omega) c
        · rw [hU] at q1
          have q1 : gAll o false (prA [] 2 0 (S.getD 0 0) U 0 (hgX H (S.getD 0 0) 2 U)) G = .inr e := q1
          have g05 : FrRr G.2.1.length σ σ5 := g04.tr (Nat.le_refl _) (FrRr.fi q3)
          have hI5 := hI.z g05.1 (by decide) (by decide)
          have hk9 := gAll_k q1
          have fin := hn9 e σ5 ((e0 _).mpr (by rw [eL, q1]; rfl)) q2 g05
          show R_keyBehind (n' : Int) ((100 * n' + k : Nat) : Int) σ5 _
          refine nxt σ5 _ hI5.1 ?_
          show R_register_19 (n' : Int) l2 (nxO n' r) σ5 Q
          exact R_register_19.i ⟨fun _ => fin, fun _ => ⟨fun _ => fin, fun h => absurd (q2.1.symm.trans h) (by omega)⟩⟩
    · obtain ⟨i, hi, e⟩ := ps.2.2 x hx
      have := b6 _ (gd_mem (L := P) (i := i) (by omega))
      rw [← e] at this
      omega
theorem ixA_ne {O : List Nat} (h : O ≠ []) {W : Int} : ixA H W K P f s O ≠ [] := by
  cases O with
  | nil => exact absurd rfl h
  | cons k r =>
    intro e
    have e : ixL H W (pkL (enT K P f s k)) ++ ixA H W K P f s r = [] := e
    exact prN_ne (List.append_eq_nil_iff.mp e).1
def RsS9 : List Nat := 320 :: 321 :: RxS9
def RsK9 : List Nat := 112 :: 113 :: RxK9
/-- the index, the reference -/
theorem R_register.p (hS : StB S) (hB : IxB K P) (hf : 0 ≤ f ∧ f ≤ 999) (hs : 0 < K.length → 1 ≤ s ∧ s ≤ 5) (hb : HyB H.2.1 H.2.2.1 H.2.2.2.1 H.2.2.2.2) (hI : IxR σ (1 - nw) H S K P f s o) (hR : BkR σ E nw b) (hfl : FlB b) (hsl : b.2.2.1.2.length = b.2.2.1.1.length) (hGB : GB9 (-45) (bkG b)) (hy : ∀ b' σ', ixD o H S K P f s b = .inl b' → BkR σ' E nw b' → FrZ RsS9 RsK9 σ σ' → Q (.inl (some 1)) σ') (hn : ∀ e σ', ixD o H S K P f s b = .inr e → TxR σ' e → mV σ 246 33 ≤ mV σ' 246 33 → FrZ RsS9 RsK9 σ σ' → Q (.inl (some 1)) σ') : R_register σ Q := by
  have r1 := hR.1
  have e99 : mV σ 246 99 = (b.2.1.1.length : Int) := r1.2.2.2.1
  have nw1 := hR.2.1.1.1
  have bl1 := hB.1
  have b3 := hB.2.2.1
  have q3' : b.2.1.1.length ≤ 1500 := hGB.2.2.1
  have os := orD_s (K := K) K.length
  have ol := orD_l (K := K) K.length
  refine R_register.i ?_
  rw [e99, hR.2.1.1.2, show (1 : Int) - (nw : Int) = ((1 - nw : Nat) : Int) by omega]
  have kb := kbN_o os (one := -1) (i := 0) (Nat.zero_le _) (Or.inl ⟨rfl, rfl⟩)
  have en : kbZ (1 - nw) (kbN K (-1) K.length) = nxO (1 - nw) (orD K K.length) := by
    rw [kb]
    cases hO : orD K K.length with
    | nil =>
      rw [if_neg (by show ¬ 0 < 0; omega)]
      rfl
    | cons x t =>
      rw [if_pos (by show 0 < t.length + 1; omega)]
      show kbZ (1 - nw) ((x : Nat) : Int) = _
      rw [kbZ_n]
      rfl
  refine (R_keyBehind.p (one := -1) (by omega) hI.1 (by omega) hB.2.2.2.1 bl1 (Or.inl rfl) ?_ : R_keyBehind ((1 - nw : Nat) : Int) (kbZ (1 - nw) (-1)) σ _)
  rw [en]
  show R_register_19 ((1 - nw : Nat) : Int) (b.2.1.1.length : Int) (nxO (1 - nw) (orD K K.length)) σ Q
  by_cases k0 : K.length = 0
  · have o0 : orD K K.length = [] := List.eq_nil_of_length_eq_zero (orD_0.mpr k0)
    rw [o0]
    refine R_register_19.i ⟨fun _ => R_register_230.i ⟨fun h => absurd r1.1 h, fun _ => R_lies.i ⟨by unfold Rg; omega, fun h => absurd e99 h, fun _ => ?_⟩⟩, fun h => absurd h (by show ¬ (0 : Int) ≤ -1; decide)⟩
    exact hy b σ (by unfold ixD; rw [if_pos k0]) hR FrZ.rf
  refine rgi_19 (O := orD K K.length) (H := H) (S := S) (o := o) (by omega) hS hB hf hs hb os (by omega) (orD K K.length) [] σ ((b.1.1.1, b.1.1.2.1), b.2.1.1, []) rfl hI r1 (by
    obtain ⟨q1, q2, q3, q4, q5⟩ := hGB
    have q1 : 0 ≤ b.1.1.1 ∧ b.1.1.1 ≤ 60000 := q1
    exact ⟨q1, q2, q3, q4, by show 45 * ((0 : Nat) : Int) ≤ 3 * b.1.1.1 + 75 * b.2.1.1.length + 0; omega⟩) (fun G' σ1 w1 w2 w3 w4 => ?_) (fun e σ1 w1 w2 w3 => ?_)
  · have w3 : FrRr b.2.1.1.length σ σ1 := w3
    refine R_register_230.i ⟨fun h => absurd w2.1 h, fun _ => ?_⟩
    have hne : ixA H (S.getD 0 0) K P f s (orD K K.length) ≠ [] := ixA_ne (fun h => k0 (orD_0.mp (by rw [h]; rfl)))
    refine lies_p (o := o) (S := S) hS (hI.2.2.2.2.1 8 (by decide)) hR hfl hsl hGB hne w3.1 (by decide) (by decide) w1 w2 (fun z j hz hj => w3.2 z j (by omega) hj) w4 (fun G1 σ2 g1 rb f2 => ?_)
    exact hy (blG b G1) σ2 (by unfold ixD; rw [if_neg k0, g1]) rb (f2.mo (by decide) (by decide))
  · have gk := gAll_k w1
    have gg := (gAll_g (o := o) (fw := false)).2 e w1
    have w3 : FrRr b.2.1.1.length σ σ1 := w3
    have g1 := gAll_fl (F := flS b (S.getD 8 0)) w1
    refine R_register_230.i ⟨fun _ => hn e σ1 (by unfold ixD; rw [if_neg k0, g1]) w2 ?_ (w3.1.mo (by decide) (by decide)), fun h => absurd (w2.1.symm.trans h) (by omega)⟩
    rw [r1.2.2.1, w2.2.2]
    exact gg
end
