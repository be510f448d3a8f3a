/-! THE REFERENCE WORKS TEXTS: labels are looked up, references and counters told -/
section
variable {σ σ0 σ1 σ2 : MS} {Q : MQ9} {g kt u D : Nat} {s s1 s2 : TS} {A L : List Int} {x y : Int}
theorem key_cg (hK : keyD A = true) (hok : okK A) {i : Nat} (hi : i < A.length) : cgB (A.getD i 0) = (ms7 A).getD i 0 := by
  have h1 := hok.gd hi
  have h2 : sWo (A.getD i 0 % 128) = true := by
    unfold keyD at hK
    rw [Bool.and_eq_true, List.all_eq_true] at hK
    refine hK.2 (A.getD i 0) ?_
    rw [List.getD_eq_getElem?_getD, List.getElem?_eq_getElem hi]
    exact List.getElem_mem hi
  rw [ms7_at hi]
  unfold cgB
  rw [if_neg]
  intro h5
  rw [h1.2.2 h5] at h2
  exact absurd h2 (by decide)
theorem hoG.key (hA : hoG σ 257 258 u A) (hK : keyD A = true) (hok : okK A) {i : Nat} (hi : i < A.length) : mV σ 257 (u + i) = (ms7 A).getD i 0 := by
  rw [(hA i hi).1, key_cg hK hok hi]
theorem R_labelOf_3.r {b : Nat} {N : List (List Int)} (hb : b ≤ 1) (h5 : mV σ 285 b = (N.length : Int)) (hN : nmS σ 279 280 12 (60 * b) N) (hN60 : N.length ≤ 60) (hsm : smW 12 N) (hA : hoG σ 257 258 u A) (hu : u + A.length ≤ 60100) (hK : keyD A = true) (hok : okK A) : ∀ (r p : List (List Int)), N = p ++ r → Q (.inl (some (if ixW r (p.length : Int) (ms7 A) = -1 then -1 else 60 * (b : Int) + ixW r (p.length : Int) (ms7 A)))) σ → R_labelOf_3 (b : Int) (u : Int) (A.length : Int) (p.length : Int) σ Q
  | [], p, he, hq => by
    have hl : N.length = p.length := by rw [he, List.append_nil]
    refine R_labelOf_3.i ⟨by omega, by omega, by unfold Rg; omega, fun _ => hq, fun h9 => absurd h9 (by rw [Int.toNat_natCast, h5]; omega)⟩
  | w :: r, p, he, hq => by
    have hl : N.length = p.length + 1 + r.length := by rw [he, List.length_append, List.length_cons]; omega
    obtain ⟨w1, w3⟩ := hN p.length (by omega)
    have ew : N.getD p.length [] = w := by rw [he]; exact getD_at
    have w2 := (hsm.at p.length).1
    rw [ew] at w1 w2 w3
    have k12 := (keyD_i hK).2
    unfold ixW at hq
    have lA := ms7_len (L := A)
    have e60 : (60 * (b : Int) + (p.length : Int)).toNat = 60 * b + p.length := by omega
    have h93 : ∀ t : Bool, t = decide (w = ms7 A) → R_labelOf_93 (b : Int) (u : Int) (A.length : Int) (p.length : Int) (60 * (b : Int) + (p.length : Int)) (bZ t) σ Q := by
      intro t ht
      subst ht
      refine R_labelOf_93.i ⟨fun a => ?_, fun a => ⟨by unfold Rg; omega, ?_⟩⟩
      · rw [if_neg (of_decide_eq_false (bZ_z a))] at hq
        have := R_labelOf_3.r hb h5 hN hN60 hsm hA hu hK hok r (p ++ [w]) (by rw [he, List.append_assoc]; rfl) (by rw [List.length_append, List.length_singleton]; exact hq)
        rw [List.length_append, List.length_singleton] at this
        exact this
      · rw [if_pos (of_decide_eq_true (bZ_ne a)), if_neg (show ¬ (p.length : Int) = -1 by omega)] at hq
        exact hq
    have m0 : ¬ w = ms7 A → R_labelOf_93 (b : Int) (u : Int) (A.length : Int) (p.length : Int) (60 * (b : Int) + (p.length : Int)) 0 σ Q := fun h => h93 false (decide_eq_false h).symm
    have m1 : w = ms7 A → R_labelOf_93 (b : Int) (u : Int) (A.length : Int) (p.length : Int) (60 * (b : Int) + (p.length : Int)) 1 σ Q := fun h => h93 true (decide_eq_true h).symm
    refine R_labelOf_3.i ⟨by omega, by omega, by unfold Rg; omega, fun h9 => absurd h9 (by rw [Int.toNat_natCast, h5]; omega), fun _ => ⟨by omega, by omega, by unfold Rg; omega, ?_⟩⟩
    rw [e60, w1]
    refine ⟨fun a => R_labelOf_39.i ?_, fun a => R_labelOf_39.i ?_⟩
    · have hn : ¬ w = ms7 A := fun e => a (by rw [e, lA])
      exact R_labelOf_44.i ⟨by decide, by unfold Rg; omega, fun _ => m0 hn, fun _ => ⟨fun _ => m0 hn, fun h9 => absurd rfl h9⟩⟩
    · have hwl : w.length = A.length := by omega
      refine loopIs (P := fun is i => R_labelOf_44 (b : Int) (u : Int) (A.length : Int) (p.length : Int) (60 * (b : Int) + (p.length : Int)) is i σ Q) (f := fun i => decide (w.getD i 0 = (ms7 A).getD i 0)) (n := A.length) (fun i hi h => ?_) (fun e => ?_) (fun e i hi => ?_)
      · obtain ⟨k1, k0⟩ := bZ_q (P := fun r => R_labelOf_44 (b : Int) (u : Int) (A.length : Int) (p.length : Int) (60 * (b : Int) + (p.length : Int)) r ((i : Int) + 1) σ Q) h
        refine R_labelOf_44.i ⟨by unfold Rg; omega, by unfold Rg; omega, fun h9 => absurd h9 (by omega), fun _ => ⟨fun h9 => absurd h9 (by decide), fun _ => ⟨by omega, by omega, by omega, by omega, ?_⟩⟩⟩
        rw [show (12 * (60 * (b : Int) + (p.length : Int)) + (i : Int)).toNat = 12 * (60 * b + p.length) + i by omega, show ((u : Int) + (i : Int)).toNat = u + i by omega, w3 i (by omega), hA.key hK hok hi]
        exact ⟨fun a => R_labelOf_85.i (k0 (decide_eq_false a)), fun a => R_labelOf_85.i (k1 (decide_eq_true a))⟩
      · have hwU : w = ms7 A := list_ext (by omega) (fun i hi => of_decide_eq_true (allR_i.mp e i (by omega)))
        exact R_labelOf_44.i ⟨by unfold Rg; omega, by unfold Rg; omega, fun _ => m1 hwU, fun h9 => absurd h9 (by omega)⟩
      · have hn : ¬ w = ms7 A := fun e2 => by
          have : allR (fun i => decide (w.getD i 0 = (ms7 A).getD i 0)) A.length = true := allR_i.mpr (fun i _ => decide_eq_true (by rw [e2]))
          rw [this] at e
          exact Bool.noConfusion e
        exact R_labelOf_44.i ⟨by unfold Rg; omega, by unfold Rg; omega, fun _ => m0 hn, fun _ => ⟨fun _ => m0 hn, fun h9 => absurd rfl h9⟩⟩
theorem R_labelOf.r {b : Nat} {N : List (List Int)} {bi n : Int} (hbi : bi = (b : Int)) (hn : n = (A.length : Int)) (hb : b ≤ 1) (h5 : mV σ 285 b = (N.length : Int)) (hN : nmS σ 279 280 12 (60 * b) N) (hN60 : N.length ≤ 60) (hsm : smW 12 N) (hA : hoG σ 257 258 u A) (hu : u + A.length ≤ 60100) (hK : keyD A = true) (hok : okK A) (hq : Q (.inl (some (if ixW N 0 (ms7 A) = -1 then -1 else 60 * (b : Int) + ixW N 0 (ms7 A)))) σ) : R_labelOf bi (u : Int) n σ Q := by
  subst hbi
  subst hn
  exact R_labelOf.i (R_labelOf_3.r hb h5 hN hN60 hsm hA hu hK hok N [] rfl hq)
theorem R_refers_98.r {l : Nat} (hl : l < 120) (hL : smB L) (hl32 : L.length ≤ 32) (h1 : mV σ 282 l = (L.length : Int)) (h2 : holA σ 281 (32 * l) L) (h : RxW σ s) (hO : RxO σ g s) (hB : BdR g kt s) (hy : 0 ≤ s.1.2.2 ∧ s.1.2.2 ≤ 3) (hq : POk Q g kt σ s (tPn L s)) : R_refers_98 (l : Int) 0 σ Q := by
  have hm : (L.map (cdS s.1.2.2)).length = L.length := List.length_map ..
  refine loopP (P := fun i σ' => R_refers_98 (l : Int) (i : Int) σ' Q) (L := L.map (cdS s.1.2.2)) (fun i σ' s' hi hp h0 k => ?_) (fun i σ' hi hf h0 hn k => ?_) (fun σ' s' hp h0 k => ?_) h hO hB hq
  · have t : mV σ' 282 (l : Int).toNat = (L.length : Int) := by rw [Int.toNat_natCast, h0.z (by decide) (by decide)]; exact h1
    rw [hm] at hi
    refine R_refers_98.i ⟨by omega, by omega, by unfold Rg; omega, fun a => absurd a (by rw [t]; omega), fun _ => ⟨fun b => absurd hp.2.2.1.1 b, fun _ => ⟨by omega, by omega, ?_⟩⟩⟩
    have t8 : mV σ' 246 18 = s.1.2.2 := by rw [h0.f (by decide) (by decide)]; exact h.2.2.2
    have e : (L.map (cdS s.1.2.2)).getD i 0 = cdS s.1.2.2 (L.getD i 0) := by
      rw [List.getD_eq_getElem?_getD, List.getD_eq_getElem?_getD, List.getElem?_map, List.getElem?_eq_getElem hi]
      rfl
    have hb : 0 ≤ L.getD i 0 ∧ L.getD i 0 ≤ 127 := by
      rw [List.getD_eq_getElem?_getD, List.getElem?_eq_getElem hi]
      exact hL _ (List.getElem_mem hi)
    rw [e, (rd_cd hy hb).1, (rd_cd hy hb).2] at k
    rw [show (32 * (l : Int) + (i : Int)).toNat = 32 * l + i by omega, h0.z (by decide) (by decide), h2 i hi, t8]
    exact k
  · exact R_refers_98.i ⟨by omega, by omega, by rw [hm] at hi; unfold Rg; omega, fun _ => k, fun _ => ⟨fun _ => k, fun b => absurd b hn⟩⟩
  · have t : mV σ' 282 (l : Int).toNat = (L.length : Int) := by rw [Int.toNat_natCast, h0.z (by decide) (by decide)]; exact h1
    show R_refers_98 (l : Int) ((L.map (cdS s.1.2.2)).length : Int) σ' Q
    rw [hm]
    exact R_refers_98.i ⟨by omega, by omega, by unfold Rg; omega, fun _ => k, fun b => absurd b (by rw [t]; omega)⟩
end
