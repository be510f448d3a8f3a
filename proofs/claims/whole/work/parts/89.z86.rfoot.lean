/-! PAGES: the foot's rule; a page's end, the reference -/
def lfP (room : Int) (e last : Nat) : Int := room - (((last : Int) - (e : Int)) + 1) - 1
def shP (room : Int) (A : List Int) (sp : List (Int × Int)) (e last : Nat) : Int := min (lfP room e last) (ftP A sp e last)
/-- what stands at a page's foot -/
def ftG (room : Int) (Ls : List GL9) (A : List Int) (sp : List (Int × Int)) (e last : Nat) : List GL9 := if 0 < ftP A sp e last then List.replicate (lfP room e last - shP room A sp e last).toNat ([], 0, 0) ++ [(List.replicate 10 45, 0, 0)] ++ ((ntN sp (nB A (e : Int)) (nB A ((last : Int) + 1) - nB A (e : Int))).take (shP room A sp e last).toNat).map (lnG Ls) else []
section
variable {σ σ0 : MS} {Q : MQ9} {room : Int} {F : List Int} {Ls : List GL9} {A : List Int} {sp : List (Int × Int)} {e : Nat} {L1 : List GL9}
theorem rep_s {α : Type} {n : Nat} {x : α} : List.replicate (n + 1) x = List.replicate n x ++ [x] := List.replicate_succ'
theorem suM_r0 : ∀ {n : Nat}, suM ((List.replicate n (([], 0, 0) : GL9)).map (·.1)) = 0
  | 0 => rfl
  | n + 1 => by
    have := suM_r0 (n := n)
    show 0 + suM ((List.replicate n (([], 0, 0) : GL9)).map (·.1)) = 0
    omega
/-- dashes -/
theorem rpg_179 {last s : Nat} (hl : L1.length < 6100) (hs : suM (L1.map (·.1)) + 10 ≤ 80000) (hq : ∀ σ', PfR σ' (L1 ++ [(List.replicate 10 45, 0, 0)]) → FrPf σ0 σ' → R_page_202 (last : Int) (s : Int) (e : Int) σ' Q) : ∀ (n k : Nat) (σ : MS), k + n = 10 → PfR σ (L1 ++ [(List.replicate k 45, 0, 0)]) → FrPf σ0 σ → R_page_179 (e : Int) (last : Int) (s : Int) (k : Int) σ Q := by
  intro n
  induction n with
  | zero =>
    intro k σ hk hp hf
    have ek : k = 10 := by omega
    rw [ek] at hp
    exact R_page_179.i ⟨by unfold Rg; omega, fun _ => hq σ hp hf, fun h => absurd h (by omega)⟩
  | succ n ih =>
    intro k σ hk hp hf
    refine R_page_179.i ⟨by unfold Rg; omega, fun h => absurd h (by omega), fun _ => ?_⟩
    refine R_proofSign.p (x := 45) (C := List.replicate k 45) ⟨by decide, by decide⟩ (by decide) (by decide) hp hl (by rw [List.length_replicate]; omega) (fun σ2 p2 f2 => ?_)
    rw [show (k : Int) + 1 = ((k + 1 : Nat) : Int) by omega]
    exact ih (k + 1) σ2 (by omega) (by rw [rep_s]; exact p2) (hf.tr f2)
/-- empty lines ahead of the rule -/
theorem rpg_139 {last s l4 : Nat} {hi : Int} (hhi : 0 ≤ hi ∧ hi ≤ 60) (h9 : mV σ0 275 9 = hi) (hs6 : s ≤ 60) (hl4 : l4 ≤ L1.length) (hl : L1.length + (hi - (s : Int) - 1 - ((L1.length : Int) - (l4 : Int))).toNat < 6100) (hs : suM (L1.map (·.1)) + 10 ≤ 80000) (hq : ∀ σ', PfR σ' (L1 ++ List.replicate (hi - (s : Int) - 1 - ((L1.length : Int) - (l4 : Int))).toNat ([], 0, 0) ++ [(List.replicate 10 45, 0, 0)]) → FrPf σ0 σ' → R_page_202 (last : Int) (s : Int) (e : Int) σ' Q) : ∀ (n j : Nat) (σ : MS), j + n = (hi - (s : Int) - 1 - ((L1.length : Int) - (l4 : Int))).toNat → PfR σ (L1 ++ List.replicate j ([], 0, 0)) → FrPf σ0 σ → R_page_139 (e : Int) (last : Int) (l4 : Int) (s : Int) σ Q := by
  intro n
  induction n with
  | zero =>
    intro j σ hj hp hf
    have e9 : mV σ 275 9 = hi := (hf.z (by decide) (by decide)).trans h9
    have e124 : mV σ 246 124 = ((L1.length + j : Nat) : Int) := by
      rw [hp.1, List.length_append, List.length_replicate]
    have ej : j = (hi - (s : Int) - 1 - ((L1.length : Int) - (l4 : Int))).toNat := by omega
    refine R_page_139.i ⟨by decide, by decide, by rw [e124]; unfold Rg; omega, by rw [e9]; unfold Rg; omega, fun _ => ?_, fun h => by rw [e9, e124] at h; omega⟩
    have := R_proofLine.p (Q := kV (thQ Q) fun σ1 => R_page_179 (e : Int) (last : Int) (s : Int) 0 σ1 Q) (o := 0) (pt := false) (fl := 0) (by decide) hp (by rw [List.length_append, List.length_replicate]; omega) (by rw [List.map_append, suM_app, suM_r0]; omega) (by decide) (fun σ2 p2 f2 => ?_)
    · exact this
    · rw [ej] at p2
      exact rpg_179 (σ0 := σ0) (L1 := L1 ++ List.replicate (hi - (s : Int) - 1 - ((L1.length : Int) - (l4 : Int))).toNat ([], 0, 0)) (by rw [List.length_append, List.length_replicate]; omega) (by rw [List.map_append, suM_app, suM_r0]; omega) hq 10 0 σ2 (by decide) p2 (hf.tr f2)
  | succ n ih =>
    intro j σ hj hp hf
    have e9 : mV σ 275 9 = hi := (hf.z (by decide) (by decide)).trans h9
    have e124 : mV σ 246 124 = ((L1.length + j : Nat) : Int) := by
      rw [hp.1, List.length_append, List.length_replicate]
    refine R_page_139.i ⟨by decide, by decide, by rw [e124]; unfold Rg; omega, by rw [e9]; unfold Rg; omega, fun h => by rw [e9, e124] at h; omega, fun _ => ?_⟩
    have := R_proofLine.p (Q := kV (thQ Q) fun σ2 => R_page_139 (e : Int) (last : Int) (l4 : Int) (s : Int) σ2 Q) (o := 0) (pt := false) (fl := 0) (by decide) hp (by rw [List.length_append, List.length_replicate]; omega) (by rw [List.map_append, suM_app, suM_r0]; omega) (by decide) (fun σ2 p2 f2 => ?_)
    · exact this
    · exact ih (j + 1) σ2 (by omega) (by rw [rep_s, ← List.append_assoc]; exact p2) (hf.tr f2)
end
