/-! TABLES: the reference's line of dashes -/
theorem gFin_fl {o fl fl' : Int} {C : List Int} {fw : Bool} {G G1 : GS9} (h : gFin o C fl fw G = .inl G1) : gFin o C fl' fw G = .inl (G1.1, G.2.1 ++ [(C, o, fl')], G1.2.2) ∧ G1.2.1 = G.2.1 ++ [(C, o, fl)] := by
  unfold gFin at h ⊢
  by_cases h1 : 1500 ≤ G.2.1.length
  · rw [if_pos h1] at h
    cases h
  · rw [if_neg h1] at h ⊢
    unfold gSp at h ⊢
    by_cases h2 : 60000 < G.1.1 + (20 + (C.length : Int)) ∨ 400000 < G.1.2 + (20 + (C.length : Int))
    · rw [if_pos h2] at h
      cases h
    · rw [if_neg h2] at h ⊢
      cases h
      exact ⟨rfl, rfl⟩
theorem gFin_fe {o fl fl' : Int} {C : List Int} {fw : Bool} {G : GS9} {e : Int × Int × Int} (h : gFin o C fl fw G = .inr e) : gFin o C fl' fw G = .inr e := by
  unfold gFin at h ⊢
  by_cases h1 : 1500 ≤ G.2.1.length
  · rw [if_pos h1] at h ⊢
    exact h
  · rw [if_neg h1] at h ⊢
    unfold gSp at h ⊢
    by_cases h2 : 60000 < G.1.1 + (20 + (C.length : Int)) ∨ 400000 < G.1.2 + (20 + (C.length : Int))
    · rw [if_pos h2] at h ⊢
      exact h
    · rw [if_neg h2] at h
      cases h
section
variable {σ σ0 : MS} {Q : MQ9} {W : List Int} {c : Nat} {o c9 : Int} {G : GS9}
theorem rul_39 {l1 : Int} {k m : Nat} {D : List Int} (hk : k < 8) (hm : mV σ0 346 k = (m : Int)) (hl : D.length + m < 400) (hq : ∀ σ', FrZ [338, 339] [160] σ0 σ' → LbR σ' (D ++ List.replicate m 45) → R_ruled_7 l1 ((k : Int) + 1) σ' Q) : ∀ (n j : Nat) (σ : MS), j + n = m → FrZ [338, 339] [160] σ0 σ → LbR σ (D ++ List.replicate j 45) → R_ruled_39 l1 (k : Int) (j : Int) σ Q := by
  intro n
  induction n with
  | zero =>
    intro j σ hj hf hb
    have e := (hf.z (z := 346) (k := k) (by decide) (by decide)).trans hm
    rw [show j = m by omega] at hb ⊢
    refine R_ruled_39.i ⟨by omega, by omega, ?_⟩
    rw [Int.toNat_natCast, e]
    exact ⟨by unfold Rg; omega, fun _ => hq σ hf hb, fun h => absurd h (by omega)⟩
  | succ n ih =>
    intro j σ hj hf hb
    have e := (hf.z (z := 346) (k := k) (by decide) (by decide)).trans hm
    refine R_ruled_39.i ⟨by omega, by omega, ?_⟩
    rw [Int.toNat_natCast, e]
    refine ⟨by unfold Rg; omega, fun h => absurd h (by omega), fun _ => ?_⟩
    refine (R_adds.p (c := 45) hb (by rw [List.length_append, List.length_replicate]; omega) (fun σ2 f2 b2 => ?_) : R_adds ((45 : Int) % 128) (cyB 45) σ _)
    show R_ruled_39 l1 (k : Int) ((j : Int) + 1) σ2 Q
    rw [show (j : Int) + 1 = ((j + 1 : Nat) : Int) by omega]
    refine ih (j + 1) σ2 (by omega) (hf.tr f2) ?_
    rw [List.append_assoc, show List.replicate j (45 : Int) ++ [45] = List.replicate (j + 1) 45 from List.replicate_succ'.symm] at b2
    exact b2
theorem rul_7 (hc : c ≤ 8) (hW : ∀ k, k < c → mV σ0 346 k = W.getD k 0 ∧ 1 ≤ W.getD k 0 ∧ W.getD k 0 ≤ 80) (hl : ∀ k, k ≤ c → (tpJ [45, 43, 45] (fun k => List.replicate (W.getD k 0).toNat (45 : Int)) k).length ≤ 300) (hq : ∀ σ', FrZ [338, 339] [160] σ0 σ' → LbR σ' (tdR W c) → R_ruled_7 (c : Int) (c : Int) σ' Q) : ∀ (n k : Nat) (σ : MS), k + n = c → FrZ [338, 339] [160] σ0 σ → LbR σ (tpJ [45, 43, 45] (fun k => List.replicate (W.getD k 0).toNat 45) k) → R_ruled_7 (c : Int) (k : Int) σ Q := by
  intro n
  induction n with
  | zero =>
    intro k σ hk hf hb
    rw [show k = c by omega] at hb ⊢
    exact hq σ hf hb
  | succ n ih =>
    intro k σ hk hf hb
    have wk := hW k (by omega)
    have lk := hl k (by omega)
    have em : mV σ 346 k = (((W.getD k 0).toNat : Nat) : Int) := by
      rw [hf.z (by decide) (by decide), wk.1]
      omega
    have s37 : ∀ (D : List Int) (σ1 : MS), D = tpJ [45, 43, 45] (fun k => List.replicate (W.getD k 0).toNat 45) k ++ (if 1 ≤ k then [45, 43, 45] else []) → FrZ [338, 339] [160] σ σ1 → LbR σ1 D → R_ruled_37 (c : Int) (k : Int) σ1 Q := fun D σ1 hD f1 b1 => by
      have lD : D.length ≤ 303 := by
        rw [hD, List.length_append]
        split
        · show _ + 3 ≤ 303
          omega
        · show _ + 0 ≤ 303
          omega
      refine R_ruled_37.i ?_
      have := rul_39 (Q := Q) (σ0 := σ1) (l1 := (c : Int)) (k := k) (m := (W.getD k 0).toNat) (D := D) (by omega) ((f1.z (by decide) (by decide)).trans em) (by omega) (fun σ2 f2 b2 => ?_) (W.getD k 0).toNat 0 σ1 (by omega) FrZ.rf (by
        show LbR σ1 (D ++ [])
        rw [List.append_nil]
        exact b1)
      · exact this
      · rw [show (k : Int) + 1 = ((k + 1 : Nat) : Int) by omega]
        refine ih (k + 1) σ2 (by omega) ((hf.tr f1).tr f2) ?_
        rw [hD] at b2
        exact b2
    refine R_ruled_7.i ⟨by unfold Rg; omega, by unfold Rg; omega, fun h => absurd h (by omega), fun _ => ⟨by unfold Rg; omega, fun h => ?_, fun h => ?_⟩⟩
    · exact s37 _ σ (by rw [if_neg (by omega), List.append_nil]) FrZ.rf hb
    · refine (R_adds.p (c := 45) hb (by omega) (fun σ2 f2 b2 => ?_) : R_adds ((45 : Int) % 128) (cyB 45) σ _)
      refine (R_adds.p (c := 43) b2 (by rw [List.length_append]; show _ + 1 < 400; omega) (fun σ3 f3 b3 => ?_) : R_adds ((43 : Int) % 128) (cyB 43) σ2 _)
      refine (R_adds.p (c := 45) b3 (by rw [List.length_append, List.length_append]; show _ + 1 + 1 < 400; omega) (fun σ4 f4 b4 => ?_) : R_adds ((45 : Int) % 128) (cyB 45) σ3 _)
      refine s37 _ σ4 ?_ ((f2.tr f3).tr f4) b4
      rw [if_pos (by omega), List.append_assoc, List.append_assoc]
      rfl
end
