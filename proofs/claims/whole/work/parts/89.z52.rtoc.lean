/-! CONTENTS: the reference -/
def CtR9 (σ : MS) (n : Nat) (B : HG9) : Prop := mV σ 292 n = (B.1.length : Int) ∧ ∀ i, i < B.1.length → mV σ 287 (60 * n + i) = ((70000 * n + suM (B.1.take i) : Nat) : Int) ∧ mV σ 288 (60 * n + i) = ((B.1.getD i []).length : Int) ∧ holA σ 286 (70000 * n + suM (B.1.take i)) (B.1.getD i []) ∧ mV σ 289 (60 * n + i) = B.2.1.getD i 0 ∧ mV σ 290 (60 * n + i) = B.2.2.getD i 0
section
variable {σ σ0 : MS} {Q : MQ9} {W o c9 : Int}
theorem CtR9.z {S K : List Nat} {σ1 : MS} {n : Nat} {B : HG9} (h : CtR9 σ n B) (f : FrZ S K σ σ1) (hs : ∀ z ∈ [286, 287, 288, 289, 290, 292], z ∉ S) : CtR9 σ1 n B := ⟨(f.z (hs _ (by decide)) (by decide)).trans h.1, fun i hi => by
  obtain ⟨a1, a2, a3, a4, a5⟩ := h.2 i hi
  exact ⟨(f.z (hs _ (by decide)) (by decide)).trans a1, (f.z (hs _ (by decide)) (by decide)).trans a2, a3.cg (fun k _ _ => f.z (hs _ (by decide)) (by decide)), (f.z (hs _ (by decide)) (by decide)).trans a4, (f.z (hs _ (by decide)) (by decide)).trans a5⟩⟩
theorem add_p {D : List Int} {c : Int} (hc : 0 ≤ c ∧ c ≤ 127) (hD : LbR σ D) (hl : D.length < 400) (hq : ∀ σ', FrZ [338, 339] [160] σ σ' → LbR σ' (D ++ [c]) → Q (.inl none) σ') : R_adds c 0 σ Q := by
  have := R_adds.p (Q := Q) (c := c) hD hl hq
  rw [show c % 128 = c by omega, show cyB c = 0 by unfold cyB; omega] at this
  exact this
/-- the title, as far as it may go -/
theorem rct_91 {l1 l2 l3 : Int} {h9 t0 m : Nat} {t : List Int} {lv : Int} (hh : h9 < 120) (hl3 : 1 ≤ lv ∧ lv ≤ 3) (h289 : mV σ0 289 h9 = lv) (h288 : mV σ0 288 h9 = (t.length : Int)) (h287 : mV σ0 287 h9 = (t0 : Int)) (h286 : holA σ0 286 t0 t) (htl : t0 + t.length ≤ 139999) (hts : smB t) (hm : m ≤ 80) (hq : ∀ σ', FrZ [338, 339] [160] σ0 σ' → LbR σ' ((List.replicate (2 * (lv - 1)).toNat 32 ++ t).take m) → R_contents_181 l1 l2 l3 σ' Q) : ∀ (n k : Nat) (σ : MS), k + n = m → k ≤ (List.replicate (2 * (lv - 1)).toNat (32 : Int) ++ t).length → FrZ [338, 339] [160] σ0 σ → LbR σ ((List.replicate (2 * (lv - 1)).toNat 32 ++ t).take k) → R_contents_91 l1 l2 l3 (h9 : Int) (m : Int) (k : Int) σ Q := by
  have lM : (List.replicate (2 * (lv - 1)).toNat (32 : Int) ++ t).length = (2 * (lv - 1)).toNat + t.length := by rw [List.length_append, List.length_replicate]
  intro n
  induction n with
  | zero =>
    intro k σ hk hkl hf hb
    have z : ∀ y j, y ≠ 338 → y ≠ 339 → y ≠ 246 → mV σ y j = mV σ0 y j := fun y j a c d => hf.z (by simp only [List.mem_cons, List.not_mem_nil, or_false]; omega) d
    have e : k = m := by omega
    subst e
    have fin := hq σ hf hb
    refine R_contents_91.i ⟨by omega, by omega, by omega, by omega, ?_⟩
    rw [Int.toNat_natCast, z 289 _ (by decide) (by decide) (by decide), z 288 _ (by decide) (by decide) (by decide), h289, h288]
    exact ⟨by unfold Rg; omega, by unfold Rg; omega, fun _ => fin, fun _ => ⟨by unfold Rg; omega, by unfold Rg; omega, fun _ => fin, fun h => absurd h (by omega)⟩⟩
  | succ n ih =>
    intro k σ hk hkl hf hb
    have z : ∀ y j, y ≠ 338 → y ≠ 339 → y ≠ 246 → mV σ y j = mV σ0 y j := fun y j a c d => hf.z (by simp only [List.mem_cons, List.not_mem_nil, or_false]; omega) d
    refine R_contents_91.i ⟨by omega, by omega, by omega, by omega, ?_⟩
    rw [Int.toNat_natCast, z 289 _ (by decide) (by decide) (by decide), z 288 _ (by decide) (by decide) (by decide), z 287 _ (by decide) (by decide) (by decide), h289, h288, h287]
    refine ⟨by unfold Rg; omega, by unfold Rg; omega, fun h => ?_, fun h => ⟨by unfold Rg; omega, by unfold Rg; omega, fun h2 => absurd h2 (by omega), fun _ => ⟨by omega, by omega, by unfold Rg; omega, by unfold Rg; omega, fun h3 => ?_, fun h3 => ?_⟩⟩⟩
    · refine hq σ hf ?_
      have e : k = (List.replicate (2 * (lv - 1)).toNat (32 : Int) ++ t).length := by omega
      rw [List.take_of_length_le (by omega)]
      rw [e, List.take_length] at hb
      exact hb
    · have hi : k - (2 * (lv - 1)).toNat < t.length := by omega
      refine ⟨by omega, by omega, by omega, by omega, by omega, by omega, ?_⟩
      rw [show ((t0 : Int) + (k : Int) - 2 * (lv - 1)).toNat = t0 + (k - (2 * (lv - 1)).toNat) by omega, z 286 _ (by decide) (by decide) (by decide), h286 _ hi]
      refine R_contents_171.i (add_p (hts _ (gd_mem hi)) hb (by rw [List.length_take]; omega) (fun σ1 f1 b1 => ?_))
      show R_contents_91 l1 l2 l3 (h9 : Int) (m : Int) ((k : Int) + 1) σ1 Q
      rw [show (k : Int) + 1 = ((k + 1 : Nat) : Int) by omega]
      refine ih (k + 1) σ1 (by omega) (by omega) (hf.tr f1) ?_
      have e : (List.replicate (2 * (lv - 1)).toNat (32 : Int) ++ t).take (k + 1) = (List.replicate (2 * (lv - 1)).toNat (32 : Int) ++ t).take k ++ [t.getD (k - (2 * (lv - 1)).toNat) 0] := by
        rw [List.take_add_one, List.getElem?_append_right (by rw [List.length_replicate]; omega), List.length_replicate, List.getElem?_eq_getElem hi]
        unfold List.getD
        rw [List.getElem?_eq_getElem hi]
        rfl
      rw [e]
      exact b1
    · refine R_contents_171.i (add_p (by decide) hb (by rw [List.length_take]; omega) (fun σ1 f1 b1 => ?_))
      show R_contents_91 l1 l2 l3 (h9 : Int) (m : Int) ((k : Int) + 1) σ1 Q
      rw [show (k : Int) + 1 = ((k + 1 : Nat) : Int) by omega]
      refine ih (k + 1) σ1 (by omega) (by omega) (hf.tr f1) ?_
      have e : (List.replicate (2 * (lv - 1)).toNat (32 : Int) ++ t).take (k + 1) = (List.replicate (2 * (lv - 1)).toNat (32 : Int) ++ t).take k ++ [32] := by
        rw [List.take_add_one, List.getElem?_append_left (by rw [List.length_replicate]; omega), List.getElem?_replicate, if_pos (by omega)]
        rfl
      rw [e]
      exact b1
theorem rct_220 {l1 l2 l3 : Int} {m : Nat} {D : List Int} (hl : D.length + m ≤ 390) (hq : ∀ σ', FrZ [338, 339] [160] σ0 σ' → LbR σ' (D ++ List.replicate m 46 ++ [32]) → R_contents_250 l1 l2 l3 0 σ' Q) : ∀ (n k : Nat) (σ : MS), k + n = m → FrZ [338, 339] [160] σ0 σ → LbR σ (D ++ List.replicate k 46) → R_contents_220 l1 l2 l3 (m : Int) (k : Int) σ Q := by
  intro n
  induction n with
  | zero =>
    intro k σ hk hf hb
    have e : k = m := by omega
    subst e
    refine R_contents_220.i ⟨by unfold Rg; omega, by unfold Rg; omega, fun _ => add_p (by decide) hb (by rw [List.length_append, List.length_replicate]; omega) (fun σ1 f1 b1 => hq σ1 (hf.tr f1) b1), fun h => absurd h (by omega)⟩
  | succ n ih =>
    intro k σ hk hf hb
    refine R_contents_220.i ⟨by unfold Rg; omega, by unfold Rg; omega, fun h => absurd h (by omega), fun _ => add_p (by decide) hb (by rw [List.length_append, List.length_replicate]; omega) (fun σ1 f1 b1 => ?_)⟩
    show R_contents_220 l1 l2 l3 (m : Int) ((k : Int) + 1) σ1 Q
    rw [show (k : Int) + 1 = ((k + 1 : Nat) : Int) by omega]
    refine ih (k + 1) σ1 (by omega) (hf.tr f1) ?_
    rw [List.append_assoc, show List.replicate k (46 : Int) ++ [46] = List.replicate (k + 1) 46 from List.replicate_succ'.symm] at b1
    exact b1
theorem rct_250 {l1 l2 l3 : Int} {lab D : List Int} (hl : D.length + lab.length ≤ 390) (hl6 : lab.length ≤ 60) (hls : smB lab) (h143 : mV σ0 246 143 = (lab.length : Int)) (h337 : hol σ0 337 lab) (hq : ∀ σ', FrZ [338, 339] [160] σ0 σ' → LbR σ' (D ++ lab) → R_makes 0 0 0 σ' (kI (thQ Q) fun r1 σ1 => R_contents_14 l1 l2 (l3 + 1) σ1 Q)) : ∀ (n k : Nat) (σ : MS), k + n = lab.length → FrZ [338, 339] [160] σ0 σ → LbR σ (D ++ lab.take k) → R_contents_250 l1 l2 l3 (k : Int) σ Q := by
  intro n
  induction n with
  | zero =>
    intro k σ hk hf hb
    refine R_contents_250.i ?_
    rw [hf.f (k := 143) (by decide) (by decide), h143]
    refine ⟨by unfold Rg; omega, fun _ => hq σ hf ?_, fun h => absurd h (by omega)⟩
    rw [List.take_of_length_le (by omega)] at hb
    exact hb
  | succ n ih =>
    intro k σ hk hf hb
    refine R_contents_250.i ?_
    rw [hf.f (k := 143) (by decide) (by decide), h143, Int.toNat_natCast, hf.z (z := 337) (by decide) (by decide), h337 k (by omega)]
    refine ⟨by unfold Rg; omega, fun h => absurd h (by omega), fun _ => ⟨by omega, by omega, add_p (hls _ (gd_mem (by omega))) hb (by rw [List.length_append, List.length_take]; omega) (fun σ1 f1 b1 => ?_)⟩⟩
    show R_contents_250 l1 l2 l3 ((k : Int) + 1) σ1 Q
    rw [show (k : Int) + 1 = ((k + 1 : Nat) : Int) by omega]
    refine ih (k + 1) σ1 (by omega) (hf.tr f1) ?_
    have e : lab.take (k + 1) = lab.take k ++ [lab.getD k 0] := by
      rw [List.take_add_one]
      unfold List.getD
      rw [List.getElem?_eq_getElem (by omega)]
      rfl
    rw [e, ← List.append_assoc]
    exact b1
def FrCr (n : Nat) (σ σ' : MS) : Prop := FrZ (337 :: 338 :: 339 :: MkS) [28, 32, 33, 98, 99, 160, 143] σ σ' ∧ ∀ z k, z = 315 ∨ z = 316 ∨ z = 317 ∨ z = 318 → k < n → mV σ' z k = mV σ z k
theorem FrCr.rf {n : Nat} : FrCr n σ σ := ⟨FrZ.rf, fun _ _ _ _ => rfl⟩
theorem FrCr.tr {n m : Nat} {σ1 σ2 : MS} (h : FrCr n σ σ1) (hnm : n ≤ m) (h' : FrCr m σ1 σ2) : FrCr n σ σ2 := ⟨h.1.tr h'.1, fun z k a b => (h'.2 z k a (by omega)).trans (h.2 z k a b)⟩
theorem FrCr.l {n : Nat} {σ1 : MS} (h : FrLa n σ σ1) : FrCr n σ σ1 := ⟨h.1.mo (by decide) (by decide), h.2⟩
theorem FrCr.s {n : Nat} {σ1 : MS} (h : FrZ [337] [143] σ σ1) : FrCr n σ σ1 := ⟨h.mo (by decide) (by decide), fun z k hz _ => h.z (by simp only [List.mem_cons, List.not_mem_nil, or_false]; omega) (by omega)⟩
theorem rct_14 {n' : Nat} {f s l2 : Int} {B : HG9} (hn' : n' ≤ 1) (hW : 12 ≤ W ∧ W ≤ 80) (hB : CtB B) (hf : 0 ≤ f ∧ f ≤ 999) (hs : 0 < B.1.length → 1 ≤ s ∧ s ≤ 5) (hc : c9 ≤ 1000) : ∀ (n k : Nat) (σ : MS) (G : GS9), k + n = B.1.length → CtR9 σ n' B → (0 < B.1.length → mV σ 246 52 = f ∧ mV σ 246 53 = s) → mV σ 275 0 = W → mV σ 246 29 = o → RxG σ G → GB9 c9 G → (∀ G' σ', gAll o false (ctL W f s B n k) G = .inl G' → RxG σ' G' → FrCr G.2.1.length σ σ' → (∀ j, G.2.1.length ≤ j → j < G'.2.1.length → mV σ' 317 j = 0 ∧ mV σ' 318 j = 0) → R_contents_292 l2 σ' Q) → (∀ e σ', gAll o false (ctL W f s B n k) G = .inr e → TxR σ' e → FrCr G.2.1.length σ σ' → R_contents_292 l2 σ' Q) → R_contents_14 (n' : Int) l2 (k : Int) σ Q := by
  obtain ⟨b1, b2, b3, b4, b5, b6⟩ := hB
  intro n
  induction n with
  | zero =>
    intro k σ G hk hC hfs hWv hov hG hGB hy hn
    refine R_contents_14.i ⟨by omega, by omega, ?_⟩
    rw [Int.toNat_natCast, hC.1]
    exact ⟨by unfold Rg; omega, fun _ => hy G σ rfl hG FrCr.rf (fun j a c => by omega), fun h => absurd h (by omega)⟩
  | succ n ih =>
    intro k σ G hk hC hfs hWv hov hG hGB hy hn
    have hkl : k < B.1.length := by omega
    obtain ⟨e52, e53⟩ := hfs (by omega)
    obtain ⟨a1, a2, a3, a4, a5⟩ := hC.2 k hkl
    have bk := b6 k hkl
    have sm := suM_tk (W := B.1) (i := k) hkl
    have lab20 := wrN_len (n := f + B.2.2.getD k 0) (sys := s)
    have labs := wrN_s (n := f + B.2.2.getD k 0) (sys := s)
    have e0 : ∀ r, gAll o false (ctL W f s B (n + 1) k) G = r ↔ gBd (gFin o (ctC W (wrN (f + B.2.2.getD k 0) s) (B.2.1.getD k 0) (B.1.getD k [])) 0 false G) (gAll o false (ctL W f s B n (k + 1))) = r := fun r => Iff.rfl
    refine R_contents_14.i ⟨by omega, by omega, ?_⟩
    rw [Int.toNat_natCast, hC.1]
    refine ⟨by unfold Rg; omega, fun h => absurd h (by omega), fun _ => ⟨fun h => absurd hG.1 h, fun _ => ⟨by omega, by omega, ?_⟩⟩⟩
    rw [show 60 * (n' : Int) + (k : Int) = ((60 * n' + k : Nat) : Int) by omega, Int.toNat_natCast, a5, e52, e53]
    refine ⟨by unfold Rg; omega, R_writes.s (by omega) (hs (by omega)) (fun _ => by omega) (fun σ1 s1 => ?_)⟩
    obtain ⟨f1, l1, o1⟩ := s1
    generalize hlab : wrN (f + B.2.2.getD k 0) s = lab at lab20 labs l1 o1
    rw [hlab] at e0
    show (0 : Int) ≤ 0 ∧ (0 : Int) < 13 ∧ _
    rw [f1.z (z := 275) (by decide) (by decide), hWv, l1]
    have tl := b5 (B.1.getD k []) (by
      unfold List.getD
      rw [List.getElem?_eq_getElem hkl, Option.getD_some]
      exact List.getElem_mem _)
    have c1 := hC.z f1 (by decide)
    obtain ⟨d1, d2, d3, d4, d5⟩ := c1.2 k hkl
    have aL := ctA_l (lab := lab) (lv := B.2.1.getD k 0) (t := B.1.getD k []) hW
    have cL := ctC_l (lab := lab) (lv := B.2.1.getD k 0) (t := B.1.getD k []) hW lab20
    have main : ∀ m : Nat, m = (max 0 (W - 3 - (lab.length : Int))).toNat → R_contents_83 (n' : Int) l2 (k : Int) ((60 * n' + k : Nat) : Int) (m : Int) σ1 Q := fun m hm => by
      refine R_contents_83.i ?_
      have f2 : FrZ [338, 339] [160] σ1 (wV σ1 246 160 0) := FrZ.wf (by decide)
      refine rct_91 (σ0 := wV σ1 246 160 0) (t := B.1.getD k []) (t0 := 70000 * n' + suM (B.1.take k)) (lv := B.2.1.getD k 0) (m := m) (by omega) bk.1 ((f2.z (by decide) (by decide)).trans d4) ((f2.z (by decide) (by decide)).trans d2) ((f2.z (by decide) (by decide)).trans d1) (d3.cg (fun j _ _ => f2.z (by decide) (by decide))) (by omega) tl (by omega) (fun σ3 f3 b3 => ?_) m 0 _ (by omega) (Nat.zero_le _) FrZ.rf ⟨wV_self, fun j hj => absurd hj (Nat.not_lt_zero _)⟩
      have f13 := f2.tr f3
      have b3 : LbR σ3 (ctA W lab (B.2.1.getD k 0) (B.1.getD k [])) := by
        rw [hm] at b3
        exact b3
      refine R_contents_181.i (add_p (by decide) b3 (by omega) (fun σ4 f4 b4 => ?_))
      have f14 := f13.tr f4
      have l4 : (ctA W lab (B.2.1.getD k 0) (B.1.getD k []) ++ [32]).length = (ctA W lab (B.2.1.getD k 0) (B.1.getD k [])).length + 1 := List.length_append ..
      show (0 : Int) ≤ 0 ∧ (0 : Int) < 13 ∧ _
      rw [f14.z (z := 275) (by decide) (by decide), f1.z (z := 275) (by decide) (by decide), hWv, f14.f (k := 143) (by decide) (by decide), l1, b4.1, l4]
      have dots : ∀ x : Nat, x = (max 1 (W - ((ctA W lab (B.2.1.getD k 0) (B.1.getD k [])).length + 1 : Int) - 1 - (lab.length : Int))).toNat → R_contents_217 (n' : Int) l2 (k : Int) (x : Int) σ4 Q := fun x hx => by
        refine R_contents_217.i ?_
        refine rct_220 (σ0 := σ4) (D := ctA W lab (B.2.1.getD k 0) (B.1.getD k []) ++ [32]) (m := x) (by omega) (fun σ5 f5 b5 => ?_) x 0 σ4 (by omega) FrZ.rf (by
          show LbR σ4 (ctA W lab (B.2.1.getD k 0) (B.1.getD k []) ++ [32] ++ [])
          rw [List.append_nil]
          exact b4)
        have f15 := f14.tr f5
        refine rct_250 (σ0 := σ5) (lab := lab) (D := ctA W lab (B.2.1.getD k 0) (B.1.getD k []) ++ [32] ++ List.replicate x 46 ++ [32]) (by rw [List.length_append, List.length_append, l4, List.length_replicate]; show _ + _ + 1 + _ ≤ _; omega) (by omega) labs ((f15.f (by decide) (by decide)).trans l1) (f15.hol (by decide) (by decide) o1) (fun σ6 f6 b6 => ?_) lab.length 0 σ5 (by omega) FrZ.rf (by
          show LbR σ5 (ctA W lab (B.2.1.getD k 0) (B.1.getD k []) ++ [32] ++ List.replicate x 46 ++ [32] ++ [])
          rw [List.append_nil]
          exact b5)
        have f16 := f15.tr f6
        have b6 : LbR σ6 (ctC W lab (B.2.1.getD k 0) (B.1.getD k [])) := by
          unfold ctC
          rw [← hx]
          exact b6
        have g6 : FrCr G.2.1.length σ σ6 := (FrCr.s f1).tr (Nat.le_refl _) (FrCr.l (FrLa.b f16))
        refine (R_makes.p (pt := false) (fw := false) (by decide) (by decide) ((hG.z f1 (by decide) (by decide)).z f16 (by decide) (by decide)) hGB b6 (by omega) ((g6.1.f (by decide) (by decide)).trans hov) (fun G' σ7 q1 q2 q3 q4 => ?_) (fun e σ7 q1 q2 q9 q3 => ?_) : R_makes 0 0 (bZ false) σ6 _)
        · show R_contents_14 (n' : Int) l2 ((k : Int) + 1) σ7 Q
          have gb := gFin_b hGB q1
          have f7 : FrCr G.2.1.length σ σ7 := g6.tr (Nat.le_refl _) (FrCr.l (FrLa.k q3))
          have lG : G'.2.1.length = G.2.1.length + 1 := by
            rw [gb.2.1]
            exact List.length_append ..
          rw [show (k : Int) + 1 = ((k + 1 : Nat) : Int) by omega]
          refine ih (k + 1) σ7 G' (by omega) (hC.z f7.1 (by decide)) (fun _ => ⟨(f7.1.f (by decide) (by decide)).trans e52, (f7.1.f (by decide) (by decide)).trans e53⟩) ((f7.1.z (by decide) (by decide)).trans hWv) ((f7.1.f (by decide) (by decide)).trans hov) q2 (gb.1.mo (by omega)) (fun G2 σ8 w1 w2 w3 w4 => hy G2 σ8 ((e0 _).mpr (by rw [show gFin o (ctC W lab (B.2.1.getD k 0) (B.1.getD k [])) 0 false G = .inl G' from q1]; exact w1)) w2 (f7.tr (by omega) w3) (fun j a c => ?_)) (fun e σ8 w1 w2 w3 => hn e σ8 ((e0 _).mpr (by rw [show gFin o (ctC W lab (B.2.1.getD k 0) (B.1.getD k [])) 0 false G = .inl G' from q1]; exact w1)) w2 (f7.tr (by omega) w3))
          by_cases hj : j = G.2.1.length
          · rw [hj, w3.2 317 _ (by decide) (by omega), w3.2 318 _ (by decide) (by omega)]
            exact ⟨q4.2.2.1, q4.2.2.2⟩
          · exact w4 j (by omega) c
        · show R_contents_14 (n' : Int) l2 ((k : Int) + 1) σ7 Q
          have f7 : FrCr G.2.1.length σ σ7 := g6.tr (Nat.le_refl _) (FrCr.l (FrLa.k q3))
          have ga : gAll o false (ctL W f s B (n + 1) k) G = .inr e := (e0 _).mpr (by rw [show gFin o (ctC W lab (B.2.1.getD k 0) (B.1.getD k [])) 0 false G = .inr e from q1]; rfl)
          have hk9 := gAll_k ga
          have fin := hn e σ7 ga q2 f7
          refine R_contents_14.i ⟨by omega, by omega, ?_⟩
          rw [Int.toNat_natCast, f7.1.z (z := 292) (by decide) (by decide), hC.1]
          exact ⟨by unfold Rg; omega, fun _ => fin, fun _ => ⟨fun _ => fin, fun h => absurd (q2.1.symm.trans h) (by omega)⟩⟩
      refine ⟨by decide, by decide, by unfold Rg; omega, fun h => ?_, fun h => ?_⟩
      · have := dots (W - ((ctA W lab (B.2.1.getD k 0) (B.1.getD k [])).length + 1 : Int) - 1 - (lab.length : Int)).toNat (by omega)
        rw [show (((W - ((ctA W lab (B.2.1.getD k 0) (B.1.getD k [])).length + 1 : Int) - 1 - (lab.length : Int)).toNat : Nat) : Int) = W - (((ctA W lab (B.2.1.getD k 0) (B.1.getD k [])).length + 1 : Nat) : Int) - 1 - (lab.length : Int) by omega] at this
        exact this
      · exact dots 1 (by omega)
    refine ⟨by decide, by decide, by unfold Rg; omega, fun h => ?_, fun h => ?_⟩
    · have := main (W - 3 - (lab.length : Int)).toNat (by omega)
      rw [show (((W - 3 - (lab.length : Int)).toNat : Nat) : Int) = W - 3 - (lab.length : Int) by omega] at this
      exact this
    · exact main 0 (by omega)
end
/-! blocks without a text: the reference, any frame (contents, index) -/
theorem gAll_fl {o : Int} {X : List (List Int × Int)} {w : Int × Int} {L : List GL9} {F F' : List Int} {e : Int × Int × Int} (h : gAll o false X (w, L, F') = .inr e) : gAll o true X (w, L, F) = .inr e := by
  rw [gAll_w] at h ⊢
  have h : gAw o false X (w, L, F') (gWk (X.map (·.1)) w L.length) = .inr e := h
  show gAw o true X (w, L, F) (gWk (X.map (·.1)) w L.length) = .inr e
  cases hw : gWk (X.map (·.1)) w L.length with
  | inl v =>
    rw [hw] at h
    cases h
  | inr e2 =>
    rw [hw] at h
    exact congrArg Sum.inr (Sum.inr.inj h)
theorem gAll_fi {o : Int} {X : List (List Int × Int)} {w : Int × Int} {L : List GL9} {F F' : List Int} {G : GS9} (h : gAll o false X (w, L, F') = .inl G) : gAll o true X (w, L, F) = .inl (G.1, G.2.1, F ++ seqZ L.length X.length) := by
  have gl := gAll_l h
  rw [gAll_w]
  have := gl.2.2
  show gAw o true X (w, L, F) (gWk (X.map (·.1)) w L.length) = _
  rw [this, gl.1]
  rfl
def BlZ8 : List Nat := [246, 252, 264, 265, 266, 267, 268, 276, 277, 278, 279, 280, 281, 282, 283, 284, 285, 293, 294, 295, 297, 298, 300, 303, 304]
def BlQ8 : List Nat := [46, 52, 53, 58, 59, 81, 84, 85, 86]
section
variable {σ σ0 : MS} {Q : MQ9} {o : Int} {E : TE} {nw : Nat} {b : BK9} {S : List Int}
theorem BkR.bl8 {S9 K9 : List Nat} {σ1 : MS} {G1 : GS9} {Z : List Int} {k : Nat} (h : BkR σ E nw b) (hfl : FlB b) (hsl : b.2.2.1.2.length = b.2.2.1.1.length) (f : FrZ S9 K9 σ σ1) (hs : ∀ z ∈ BlZ8, z ∉ S9) (hk : ∀ k ∈ BlQ8, k ∉ K9) (hG : RxG σ1 G1) (hev : mV σ 246 33 ≤ mV σ1 246 33) (hE : ElR σ1 (b.2.1.2 ++ Z ++ seqZ b.2.1.1.length k)) (hF : G1.2.2 = b.2.1.2 ++ Z ++ seqZ b.2.1.1.length k) (hZ : ∀ x ∈ Z, x < 0) (hb : mV σ1 246 113 = 1) (h7 : ∀ z j, z = 317 ∨ z = 318 → j < b.2.1.1.length → mV σ1 z j = mV σ z j) (hnew : ∀ i, i < k → mV σ1 317 (b.2.1.1.length + i) = 0 ∧ mV σ1 318 (b.2.1.1.length + i) = 0) : BkR σ1 E nw (blG b G1) := by
  obtain ⟨r1, r2, ⟨m1, m2, m3, m4, m5⟩, r4, ⟨r5, r6⟩, ⟨r7, r8⟩, r9⟩ := h
  have s : ∀ L : List Nat, (∀ x ∈ L, x ∈ BlZ8) → ∀ x ∈ L, x ∉ S9 := fun L h x hx => hs x (h x hx)
  have q : ∀ L : List Nat, (∀ x ∈ L, x ∈ BlQ8) → ∀ x ∈ L, x ∉ K9 := fun L h x hx => hk x (h x hx)
  have ff : ∀ j, j ∈ BlQ8 → mV σ1 246 j = mV σ 246 j := fun j h => f.f (hk j h) (hs 246 (by decide))
  have z : ∀ y j, y = 284 ∨ y = 297 ∨ y = 303 ∨ y = 304 → mV σ1 y j = mV σ y j := fun y j a => f.z (hs y (by rcases a with rfl | rfl | rfl | rfl <;> decide)) (by omega)
  refine ⟨hG, r2.k f (s _ (by decide)) (q _ (by decide)), ⟨m1.z f (s _ (by decide)) (q _ (by decide)), m2.z f (s _ (by decide)), m3.z f (s _ (by decide)) (q _ (by decide)), (ff _ (by decide)).trans m4, (ff _ (by decide)).trans m5⟩, ?_, ⟨by show ElR σ1 G1.2.2; rw [hF]; exact hE, hb⟩, ⟨?_, ?_⟩, ?_⟩
  · unfold UnB at r4 ⊢
    rw [ff 85 (by decide)]
    omega
  · show MkL σ1 284 G1.2.2 b.1.2.2.2.1.2.2
    rw [hF]
    intro j hj
    rw [z 284 j (by omega)]
    exact ((r7 j hj).app (Z := Z)).app
  · show MkL σ1 297 G1.2.2 b.1.2.2.2.2.1.2
    rw [hF]
    intro j hj
    rw [z 297 j (by omega)]
    exact ((r8 j hj).app (Z := Z)).app
  · show NnR σ1 G1.2.2 b.2.2.1.1 b.2.2.1.2
    rw [hF]
    have := r9.new (σ1 := σ1) (Z := Z) (n0 := b.2.1.1.length) (k := k) (m0 := b.2.2.1.1.length) (qs := []) (sps := []) hfl hZ rfl hsl rfl (fun x hx => absurd hx List.not_mem_nil) (fun y j a _ => z y j (by omega)) h7 (fun i hi => absurd hi (Nat.not_lt_zero _)) (fun i hi => ⟨fun _ => hnew i hi, fun h => absurd rfl h⟩)
    rw [List.map_nil, List.append_nil, List.append_nil] at this
    exact this
/-- a block's lines come into the flow -/
theorem lies_p {S9 K9 : List Nat} {σ1 : MS} {X : List (List Int × Int)} {G' : GS9} (hS : StB S) (hSv : mV σ 275 8 = S.getD 8 0) (hR : BkR σ E nw b) (hfl : FlB b) (hsl : b.2.2.1.2.length = b.2.2.1.1.length) (hGB : GB9 (-45) (bkG b)) (hX : X ≠ []) (f : FrZ S9 K9 σ σ1) (hs : ∀ z ∈ 275 :: 320 :: 321 :: BlZ8, z ∉ S9) (hk : ∀ k ∈ 112 :: 113 :: BlQ8, k ∉ K9) (w1 : gAll o false X ((b.1.1.1, b.1.1.2.1), b.2.1.1, []) = .inl G') (w2 : RxG σ1 G') (w3 : ∀ z j, z = 317 ∨ z = 318 → j < b.2.1.1.length → mV σ1 z j = mV σ z j) (w4 : ∀ j, b.2.1.1.length ≤ j → j < G'.2.1.length → mV σ1 317 j = 0 ∧ mV σ1 318 j = 0) (hq : ∀ G1 σ2, gAll o true X ((b.1.1.1, b.1.1.2.1), b.2.1.1, flS b (S.getD 8 0)) = .inl G1 → BkR σ2 E nw (blG b G1) → FrZ (320 :: 321 :: S9) (112 :: 113 :: K9) σ σ2 → Q (.inl none) σ2) : R_lies (b.2.1.1.length : Int) 0 0 σ1 Q := by
  have s8 := hS.2.2.2.2.2.2
  have hR0 := hR
  obtain ⟨r1, r2, r3, r4, ⟨r5, r6⟩, r7, r9⟩ := hR
  obtain ⟨q1, q2, q3, q4, q5⟩ := hGB
  have q1 : 0 ≤ b.1.1.1 ∧ b.1.1.1 ≤ 60000 := q1
  have q3' : b.2.1.1.length ≤ 1500 := q3
  have q5 : 45 * (b.2.1.2.length : Int) ≤ 3 * b.1.1.1 + 75 * b.2.1.1.length + (-45) := q5
  have eFl := flS_e (b := b) (S := S) (sp := S.getD 8 0) (cl := false) rfl s8.1
  have lf : 45 * ((flS b (S.getD 8 0)).length : Int) ≤ 3 * b.1.1.1 + 75 * b.2.1.1.length + 90 := by
    unfold flS
    rw [List.length_append]
    split
    · rw [List.length_replicate]
      omega
    · rw [List.length_nil]
      omega
  have gb9 : GB9 90 ((b.1.1.1, b.1.1.2.1), b.2.1.1, flS b (S.getD 8 0)) := ⟨q1, q2, q3, q4, lf⟩
  have gl := gAll_l w1
  have gg := (gAll_g (o := o) (fw := false)).1 G' w1
  have g1 := gAll_fi (F := flS b (S.getD 8 0)) w1
  have lG : G'.2.1.length = b.2.1.1.length + X.length := by
    rw [gl.1, List.length_append, List.length_map]
  have xl : 1 ≤ X.length := by
    cases X with
    | nil => exact absurd rfl hX
    | cons a t => show 1 ≤ t.length + 1; omega
  have gb1 := txG_b hX gb9 g1
  have l15 : G'.2.1.length ≤ 1500 := gb1.2.2.1
  have lF1 : 45 * ((flS b (S.getD 8 0) ++ seqZ b.2.1.1.length X.length).length : Int) ≤ 3 * G'.1.1 + 75 * (G'.2.1.length : Int) + 0 := gb1.2.2.2.2
  have w60 : G'.1.1 ≤ 60000 := gb1.1.2
  rw [eFl, List.length_append, List.length_append, seqZ_l] at lF1
  have n6 : 246 ∉ S9 := hs 246 (by decide)
  refine (R_lies.p (n0 := b.2.1.1.length) (k := X.length) (F := b.2.1.2) (bg := b.2.2.2) (cl := false) (g := S.getD 8 0) (least := 0) (by rw [w2.2.2.2.1, lG]) (by omega) (by omega) (by omega) ((f.z (hs _ (by decide)) (by decide)).trans hSv) s8 (by decide) ((f.f (hk _ (by decide)) n6).trans r6) ⟨(f.f (hk _ (by decide)) n6).trans r5.1, fun i hi => ?_⟩ (fun σ2 f2 v2 el2 => ?_) : R_lies (b.2.1.1.length : Int) (bZ false) 0 σ1 Q)
  · rw [f.z (z := 320) (hs _ (by decide)) (by decide), f.z (z := 321) (hs _ (by decide)) (by decide)]
    exact r5.2 i hi
  · have f02 : FrZ (320 :: 321 :: S9) (112 :: 113 :: K9) σ σ2 := (f.mo (fun x hx => List.mem_cons_of_mem _ (List.mem_cons_of_mem _ hx)) (fun x hx => List.mem_cons_of_mem _ (List.mem_cons_of_mem _ hx))).tr (f2.mo (fun x hx => by
      simp only [List.mem_cons, List.not_mem_nil, or_false] at hx ⊢
      omega) (fun x hx => by
      simp only [List.mem_cons, List.not_mem_nil, or_false] at hx ⊢
      omega))
    have rx2 : RxG σ2 (G'.1, G'.2.1, flS b (S.getD 8 0) ++ seqZ b.2.1.1.length X.length) := RxG.z (G := (G'.1, G'.2.1, flS b (S.getD 8 0) ++ seqZ b.2.1.1.length X.length)) ⟨w2.1, w2.2.1, w2.2.2.1, w2.2.2.2⟩ f2 (by decide) (by decide)
    refine hq _ σ2 g1 (hR0.bl8 hfl hsl f02 (fun z hz => ?_) (fun k hk' => ?_) rx2 ?_ el2 (by show flS b (S.getD 8 0) ++ _ = _; rw [eFl]) (fun x hx => by rw [(List.mem_replicate.mp hx).2]; decide) v2 (fun z j hz hj => ?_) (fun i hi => ?_)) f02
    · have n1 : z ∉ S9 := hs z (List.mem_cons_of_mem _ (List.mem_cons_of_mem _ (List.mem_cons_of_mem _ hz)))
      have n2 : ∀ y ∈ BlZ8, y ≠ 320 ∧ y ≠ 321 := by decide
      have n3 := n2 z hz
      rintro h
      rcases List.mem_cons.mp h with h | h
      · exact n3.1 h
      · rcases List.mem_cons.mp h with h | h
        · exact n3.2 h
        · exact n1 h
    · have n1 : k ∉ K9 := hk k (List.mem_cons_of_mem _ (List.mem_cons_of_mem _ hk'))
      have n2 : ∀ y ∈ BlQ8, y ≠ 112 ∧ y ≠ 113 := by decide
      have n3 := n2 k hk'
      rintro h
      rcases List.mem_cons.mp h with h | h
      · exact n3.1 h
      · rcases List.mem_cons.mp h with h | h
        · exact n3.2 h
        · exact n1 h
    · rw [r1.2.2.1, rx2.2.2.1]
      exact gg.1
    · rw [f2.z (by simp only [List.mem_cons, List.not_mem_nil, or_false]; omega) (by omega)]
      exact w3 z j hz hj
    · have := w4 (b.2.1.1.length + i) (by omega) (by omega)
      rw [f2.z (z := 317) (by decide) (by decide), f2.z (z := 318) (by decide) (by decide)]
      exact this
/-- contents, the reference -/
def ClS : List Nat := 320 :: 321 :: 337 :: 338 :: 339 :: MkS
def ClK : List Nat := [112, 113, 28, 32, 33, 98, 99, 160, 143]
theorem R_contents.p {f s : Int} {B : HG9} (hS : StB S) (hB : CtB B) (hf : 0 ≤ f ∧ f ≤ 999) (hs : 0 < B.1.length → 1 ≤ s ∧ s ≤ 5) (hSv : ∀ k, k < 13 → mV σ 275 k = S.getD k 0) (ho : mV σ 246 29 = o) (hC : CtR9 σ (1 - nw) B) (hfs : 0 < B.1.length → mV σ 246 52 = f ∧ mV σ 246 53 = s) (hR : BkR σ E nw b) (hfl : FlB b) (hsl : b.2.2.1.2.length = b.2.2.1.1.length) (hGB : GB9 (-45) (bkG b)) (hy : ∀ b' σ', ctD o S f s B b = .inl b' → BkR σ' E nw b' → FrZ ClS ClK σ σ' → Q (.inl (some 1)) σ') (hn : ∀ e σ', ctD o S f s B b = .inr e → TxR σ' e → mV σ 246 33 ≤ mV σ' 246 33 → FrZ ClS ClK σ σ' → Q (.inl (some 1)) σ') : R_contents σ Q := by
  have r1 := hR.1
  have e99 : mV σ 246 99 = (b.2.1.1.length : Int) := r1.2.2.2.1
  have nw1 := hR.2.1.1.1
  have bl1 := hB.1
  have q3' : b.2.1.1.length ≤ 1500 := hGB.2.2.1
  refine R_contents.i ?_
  rw [e99, hR.2.1.1.2, show (1 : Int) - (nw : Int) = ((1 - nw : Nat) : Int) by omega]
  by_cases h0 : B.1.length = 0
  · refine R_contents_14.i ⟨by omega, by omega, ?_⟩
    rw [Int.toNat_natCast, hC.1]
    refine ⟨by decide, fun _ => R_contents_292.i ⟨fun h => absurd r1.1 h, fun _ => R_lies.i ⟨by unfold Rg; omega, fun h => absurd e99 h, fun _ => ?_⟩⟩, fun h => absurd h (by omega)⟩
    exact hy b σ (by unfold ctD; rw [if_pos h0]) hR FrZ.rf
  · generalize hX : ctL (S.getD 0 0) f s B B.1.length 0 = X
    have lX : X.length = B.1.length := by
      rw [← hX]
      exact ctL_l _ _
    have hXn : X ≠ [] := fun h => by
      have := congrArg List.length h
      rw [lX] at this
      exact h0 this
    have key := rct_14 (Q := Q) (l2 := (b.2.1.1.length : Int)) (n' := 1 - nw) (W := S.getD 0 0) (o := o) (c9 := 0) (f := f) (s := s) (B := B) (by omega) hS.1 hB hf hs (by decide) B.1.length 0 σ ((b.1.1.1, b.1.1.2.1), b.2.1.1, []) (by omega) hC hfs (hSv 0 (by decide)) ho r1 (by
      obtain ⟨q1, q2, q3, q4, q5⟩ := hGB
      have q1 : 0 ≤ b.1.1.1 ∧ b.1.1.1 ≤ 60000 := q1
      exact ⟨q1, q2, q3, q4, by show 45 * ((0 : Nat) : Int) ≤ 3 * b.1.1.1 + 75 * b.2.1.1.length + 0; omega⟩)
    rw [hX] at key
    refine key (fun G' σ1 w1 w2 w3 w4 => ?_) (fun e σ1 w1 w2 w3 => ?_)
    · refine R_contents_292.i ⟨fun h => absurd w2.1 h, fun _ => ?_⟩
      refine lies_p (o := o) (S := S) hS (hSv 8 (by decide)) hR hfl hsl hGB hXn w3.1 (by decide) (by decide) w1 w2 (fun z j hz hj => w3.2 z j (by omega) hj) w4 (fun G1 σ2 g1 rb f2 => ?_)
      exact hy (blG b G1) σ2 (by unfold ctD; rw [if_neg h0, hX, g1]) rb (f2.mo (by decide) (by decide))
    · have gk := gAll_k w1
      have gg := (gAll_g (o := o) (fw := false)).2 e w1
      have g1 := gAll_fl (F := flS b (S.getD 8 0)) w1
      refine R_contents_292.i ⟨fun _ => hn e σ1 (by unfold ctD; rw [if_neg h0, hX, g1]) w2 ?_ (w3.1.mo (by decide) (by decide)), fun h => absurd (w2.1.symm.trans h) (by omega)⟩
      rw [r1.2.2.1, w2.2.2]
      exact gg
end
