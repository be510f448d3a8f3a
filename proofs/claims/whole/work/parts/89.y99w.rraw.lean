/-! RAW LINES: the reference -/
section
variable {σ σ0 : MS} {Q : MQ9} {T : List Int} {W o c9 : Int}
theorem ScR.z {S K : List Nat} {σ1 : MS} (h : ScR σ T) (f : FrZ S K σ σ1) (hs : ∀ z ∈ [246, 252, 253], z ∉ S) (hk : ∀ k ∈ [10, 12], k ∉ K) : ScR σ1 T := ⟨(f.f (hk _ (by decide)) (hs _ (by decide))).trans h.1, h.2.1, fun i hi => (f.z (hs _ (by decide)) (by decide)).trans (h.2.2.1 i hi), (f.f (hk _ (by decide)) (hs _ (by decide))).trans h.2.2.2.1, fun i hi => (f.z (hs _ (by decide)) (by decide)).trans (h.2.2.2.2 i hi)⟩
theorem sgT_sn {a k : Nat} (hak : a ≤ k) (hk : k < T.length) : sgT T a k ++ [T.getD k 0] = sgT T a (k + 1) := by
  have h1 := sgT_ap (T := T) (a := a) (b := k) (c := k + 1) hak (by omega) (by omega)
  rw [h1, sgT_c (U := T) (k := k) (b := k + 1) (by omega) (by omega), sgT_n]
theorem rraw_51 {l1 l2 l3 : Int} {i : Nat} (hTb : smB T) (hW : 12 ≤ W ∧ W ≤ 80) (hS : ScR σ0 T) (hWv : mV σ0 275 0 = W) (hi : i < (mlL T).length) (hne : ((mlL T).getD i (0, 0)).1 + 1 ≤ ((mlL T).getD i (0, 0)).2) (hq : ∀ σ', FrZ [338, 339] [160] σ0 σ' → LbR σ' (rwC T W i) → R_raws_90 l1 l2 l3 (i : Int) σ' Q) : ∀ (n k : Nat) (σ : MS), k + n = min ((mlL T).getD i (0, 0)).2 (((mlL T).getD i (0, 0)).1 + 1 + W.toNat) → ((mlL T).getD i (0, 0)).1 + 1 ≤ k → FrZ [338, 339] [160] σ0 σ → LbR σ (sgT T (((mlL T).getD i (0, 0)).1 + 1) k) → R_raws_51 l1 l2 l3 (i : Int) ((((mlL T).getD i (0, 0)).1 + 1 : Nat) : Int) (((mlL T).getD i (0, 0)).2 : Int) (k : Int) σ Q := by
  have p := (ml_p (T := T) (i := i) hi).1
  have p2 := p.2.1
  have t4 := hS.2.1
  intro n
  induction n with
  | zero =>
    intro k σ hk hk1 hf hb
    have fin : R_raws_90 l1 l2 l3 (i : Int) σ Q := hq σ hf (by
      unfold rwC
      rw [show min ((mlL T).getD i (0, 0)).2 (((mlL T).getD i (0, 0)).1 + 1 + W.toNat) = k by omega]
      exact hb)
    have e0 : mV σ 275 0 = W := (hf.z (by decide) (by decide)).trans hWv
    refine R_raws_51.i ⟨by unfold Rg; omega, fun _ => fin, fun h9 => ⟨by decide, by decide, ?_⟩⟩
    rw [e0]
    exact ⟨by unfold Rg; omega, by unfold Rg; omega, fun _ => fin, fun h => absurd h (by omega)⟩
  | succ n ih =>
    intro k σ hk hk1 hf hb
    have e0 : mV σ 275 0 = W := (hf.z (by decide) (by decide)).trans hWv
    have hkl : k < T.length := by omega
    have hm : T.getD k 0 ∈ T := by
      unfold List.getD
      rw [List.getElem?_eq_getElem hkl, Option.getD_some]
      exact List.getElem_mem _
    have hx := hTb _ hm
    have v : mV σ 252 k = T.getD k 0 := (hf.z (by decide) (by decide)).trans (hS.2.2.1 k hkl)
    refine R_raws_51.i ⟨by unfold Rg; omega, fun h => absurd h (by omega), fun _ => ⟨by decide, by decide, ?_⟩⟩
    rw [e0]
    refine ⟨by unfold Rg; omega, by unfold Rg; omega, fun h => absurd h (by omega), fun _ => ⟨by omega, by omega, ?_⟩⟩
    rw [Int.toNat_natCast, v]
    have := R_adds.p (Q := kV (thQ Q) fun σ1 => R_raws_51 l1 l2 l3 (i : Int) ((((mlL T).getD i (0, 0)).1 + 1 : Nat) : Int) (((mlL T).getD i (0, 0)).2 : Int) ((k : Int) + 1) σ1 Q) (c := T.getD k 0) hb (by rw [sgT_l (by omega)]; omega) (fun σ2 f2 b2 => by
      show R_raws_51 l1 l2 l3 (i : Int) ((((mlL T).getD i (0, 0)).1 + 1 : Nat) : Int) (((mlL T).getD i (0, 0)).2 : Int) ((k : Int) + 1) σ2 Q
      rw [sgT_sn hk1 hkl] at b2
      rw [show (k : Int) + 1 = ((k + 1 : Nat) : Int) by omega]
      exact ih (k + 1) σ2 (by omega) (by omega) (hf.tr f2) b2)
    rw [show T.getD k 0 % 128 = T.getD k 0 by omega, show cyB (T.getD k 0) = 0 by unfold cyB; omega] at this
    exact this
theorem rraw_8 {at9 nx : Nat} {l3 : Int} (hTb : smB T) (hnx : nx ≤ (mlL T).length) (hW : 12 ≤ W ∧ W ≤ 80) (hne : ∀ i, i < nx → kdL T i = 4 → ((mlL T).getD i (0, 0)).1 + 1 ≤ ((mlL T).getD i (0, 0)).2) (hc : c9 ≤ 1000) : ∀ (n i : Nat) (σ : MS) (G : GS9), i + n = nx → (∀ j, i ≤ j → j < nx → kdL T j = 4) → at9 ≤ i → ScR σ T → mV σ 275 0 = W → mV σ 246 29 = o → RxG σ G → GB9 c9 G → (∀ G' σ', gAll o false (rwL T W n i) G = .inl G' → RxG σ' G' → FrLa G.2.1.length σ σ' → (∀ j, G.2.1.length ≤ j → j < G'.2.1.length → mV σ' 317 j = 0 ∧ mV σ' 318 j = 0) → R_raws_105 l3 σ' Q) → (∀ e σ', gAll o false (rwL T W n i) G = .inr e → TxR σ' e → FrLa G.2.1.length σ σ' → R_raws_105 l3 σ' Q) → R_raws_8 (at9 : Int) ((nx : Int) - (at9 : Int)) l3 (i : Int) σ Q := by
  have ml := mlF_l (T := T) T.length 0
  intro n
  induction n with
  | zero =>
    intro i σ G hi hk hai hS hWv hov hG hB hy hn
    have hl : (mlL T).length ≤ 4000 := Nat.le_trans ml hS.2.1
    exact R_raws_8.i ⟨by unfold Rg; omega, by unfold Rg; omega, fun _ => hy G σ rfl hG FrLa.rf (fun j a c => by omega), fun h => absurd h (by omega)⟩
  | succ n ih =>
    intro i σ G hi hk hai hS hWv hov hG hB hy hn
    have hl : (mlL T).length ≤ 4000 := Nat.le_trans ml hS.2.1
    have hil : i < (mlL T).length := by omega
    have hn1 := hne i (by omega) (hk i (Nat.le_refl _) (by omega))
    have rl := rwC_l (T := T) (W := W) hil hW
    have e253 := hS.2.2.2.2 i hil
    have e0 : ∀ r, gAll o false (rwL T W (n + 1) i) G = r ↔ gBd (gFin o (rwC T W i) 0 false G) (gAll o false (rwL T W n (i + 1))) = r := fun r => Iff.rfl
    refine R_raws_8.i ⟨by unfold Rg; omega, by unfold Rg; omega, fun h => absurd h (by omega), fun _ => ⟨fun h => absurd hG.1 h, fun _ => ⟨by omega, by omega, R_lineEnd.p hS.1 hS.2.1 hS.2.2.1 hS.2.2.2 hil ?_⟩⟩⟩
    show R_raws_51 (at9 : Int) ((nx : Int) - (at9 : Int)) l3 (i : Int) ((mV σ 253 ((i : Int).toNat)) + 1) (((mlL T).getD i (0, 0)).2 : Int) ((mV σ 253 ((i : Int).toNat)) + 1) (wV σ 246 160 0) Q
    rw [Int.toNat_natCast, e253, show (((mlL T).getD i (0, 0)).1 : Int) + 1 = ((((mlL T).getD i (0, 0)).1 + 1 : Nat) : Int) by omega]
    have f1 : FrZ [338, 339] [160] σ (wV σ 246 160 0) := FrZ.wf (by decide)
    refine rraw_51 hTb hW (hS.z f1 (by decide) (by decide)) ((f1.z (by decide) (by decide)).trans hWv) hil hn1 (fun σ2 f2 b2 => R_raws_90.i ?_) (min ((mlL T).getD i (0, 0)).2 (((mlL T).getD i (0, 0)).1 + 1 + W.toNat) - (((mlL T).getD i (0, 0)).1 + 1)) (((mlL T).getD i (0, 0)).1 + 1) _ (by omega) (Nat.le_refl _) FrZ.rf (by rw [sgT_n]; exact ⟨wV_self, fun j hj => absurd hj (Nat.not_lt_zero _)⟩)
    have f12 := f1.tr f2
    refine R_makes.p (pt := false) (fw := false) (by decide) (by decide) (hG.b f12) hB b2 (by omega) ((f12.f (by decide) (by decide)).trans hov) (fun G' σ3 q1 q2 q3 q4 => ?_) (fun e σ3 q1 q2 q9 q3 => ?_)
    · show R_raws_8 (at9 : Int) ((nx : Int) - (at9 : Int)) l3 ((i : Int) + 1) σ3 Q
      have gb := gFin_b hB q1
      have f3 : FrLa G.2.1.length σ σ3 := (FrLa.b f12).tr (Nat.le_refl _) (FrLa.k q3)
      have l1 : G'.2.1.length = G.2.1.length + 1 := by
        rw [gb.2.1]
        exact List.length_append ..
      rw [show (i : Int) + 1 = ((i + 1 : Nat) : Int) by omega]
      refine ih (i + 1) σ3 G' (by omega) (fun j a c => hk j (by omega) c) (by omega) (hS.z f3.1 (by decide) (by decide)) ((f3.1.z (by decide) (by decide)).trans hWv) ((f3.1.f (by decide) (by decide)).trans hov) q2 (gb.1.mo (by omega)) (fun G2 σ4 w1 w2 w3 w4 => hy G2 σ4 ((e0 _).mpr (by rw [show gFin o (rwC T W i) 0 false G = .inl G' from q1]; exact w1)) w2 (f3.tr (by omega) w3) (fun j a c => ?_)) (fun e σ4 w1 w2 w3 => hn e σ4 ((e0 _).mpr (by rw [show gFin o (rwC T W i) 0 false G = .inl G' from q1]; exact w1)) w2 (f3.tr (by omega) w3))
      by_cases hj : j = G.2.1.length
      · rw [hj, w3.2 317 _ (by decide) (by omega), w3.2 318 _ (by decide) (by omega)]
        exact ⟨q4.2.2.1, q4.2.2.2⟩
      · exact w4 j (by omega) c
    · show R_raws_8 (at9 : Int) ((nx : Int) - (at9 : Int)) l3 ((i : Int) + 1) σ3 Q
      have f3 : FrLa G.2.1.length σ σ3 := (FrLa.b f12).tr (Nat.le_refl _) (FrLa.k q3)
      have ga : gAll o false (rwL T W (n + 1) i) G = .inr e := (e0 _).mpr (by rw [show gFin o (rwC T W i) 0 false G = .inr e from q1]; rfl)
      have hk9 := gAll_k ga
      have fin := hn e σ3 ga q2 f3
      exact R_raws_8.i ⟨by unfold Rg; omega, by unfold Rg; omega, fun _ => fin, fun _ => ⟨fun _ => fin, fun h => absurd (q2.1.symm.trans h) (by omega)⟩⟩
end
