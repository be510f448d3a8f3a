/-! THE REFERENCE WORKS TEXTS: rows that are put -/
/-- the argument at i -/
def ArG (σ : MS) (i kt : Nat) (L : List Int) : Prop := ∃ u : Nat, mV σ 261 i = (u : Int) ∧ mV σ 262 i = ((u + L.length : Nat) : Int) ∧ u + L.length ≤ kt ∧ hoG σ 257 258 u L
section
variable {σ σ0 σ1 σ2 : MS} {Q : MQ9} {g kt u D : Nat} {s s1 s2 : TS} {A L : List Int} {x y : Int}
theorem Fr0.h (h : Fr0 σ σ1) (hA : hoG σ 257 258 u A) : hoG σ1 257 258 u A := hA.cg (fun k _ _ => ⟨h.z (by decide) (by decide), h.z (by decide) (by decide)⟩)
theorem FrP.h (h : FrP g σ σ1) (hA : hoG σ 257 258 u A) : hoG σ1 257 258 u A := hA.cg (fun k _ _ => ⟨h.1.z (by decide) (by decide), h.1.z (by decide) (by decide)⟩)
theorem R_arg.r {i : Nat} (hA : hoG σ 257 258 u A) (hi : i < A.length) (hk : u + A.length ≤ 70000) (hx : x = ((u + i : Nat) : Int)) (hq : Q (.inl (some (rdG (A.getD i 0)))) σ) : R_arg x σ Q := by
  subst hx
  refine R_arg.i ⟨by omega, by omega, ?_⟩
  rw [Int.toNat_natCast, hA.at hi]
  exact hq
theorem R_puts.r {to : Int} (hA : hoG σ 257 258 u A) (hk : u + A.length ≤ 70000) (ht : to = ((u + A.length : Nat) : Int)) (h : RxW σ s) (hO : RxO σ g s) (hB : BdR g kt s) (hq : POk Q g kt σ s (tPs A s)) : R_puts (u : Int) to σ Q := by
  subst ht
  refine R_puts.i ?_
  refine loopP (P := fun i σ' => R_puts_2 ((u + A.length : Nat) : Int) ((u + i : Nat) : Int) σ' Q) (L := A) (fun i σ' s' hi hp h0 k => ?_) (fun i σ' hi hf h0 hn k => ?_) (fun σ' s' hp h0 k => ?_) h hO hB hq
  · refine R_puts_2.i ⟨by unfold Rg; omega, by unfold Rg; omega, fun a => absurd a (by omega), fun _ => ⟨fun b => absurd hp.2.2.1.1 b, fun _ => R_arg.r (h0.h hA) hi hk rfl ⟨by omega, by omega, ?_⟩⟩⟩
    rw [Int.toNat_natCast, ((h0.h hA) i hi).2, show ((u + i : Nat) : Int) + 1 = ((u + (i + 1) : Nat) : Int) by omega]
    exact k
  · exact R_puts_2.i ⟨by unfold Rg; omega, by unfold Rg; omega, fun _ => k, fun _ => ⟨fun _ => k, fun b => absurd b hn⟩⟩
  · exact R_puts_2.i ⟨by unfold Rg; omega, by unfold Rg; omega, fun _ => k, fun b => absurd b (by omega)⟩
theorem R_argument_81.r {j : Nat} (hj : j < 400) (hA : hoG σ 257 258 u A) (hk : u + A.length ≤ 70000) (ht : mV σ 262 j = ((u + A.length : Nat) : Int)) (h : RxW σ s) (hO : RxO σ g s) (hB : BdR g kt s) (hq : POk Q g kt σ s (tPs A s)) : R_argument_81 (j : Int) (u : Int) σ Q := by
  refine loopP (P := fun i σ' => R_argument_81 (j : Int) ((u + i : Nat) : Int) σ' Q) (L := A) (fun i σ' s' hi hp h0 k => ?_) (fun i σ' hi hf h0 hn k => ?_) (fun σ' s' hp h0 k => ?_) h hO hB hq
  · have t : mV σ' 262 (j : Int).toNat = ((u + A.length : Nat) : Int) := by rw [Int.toNat_natCast, h0.z (by decide) (by decide)]; exact ht
    refine R_argument_81.i ⟨by omega, by omega, by unfold Rg; omega, fun a => absurd a (by rw [t]; omega), fun _ => ⟨fun b => absurd hp.2.2.1.1 b, fun _ => ⟨by omega, by omega, by omega, by omega, ?_⟩⟩⟩
    rw [Int.toNat_natCast, ((h0.h hA) i hi).2, (h0.h hA).at hi, show ((u + i : Nat) : Int) + 1 = ((u + (i + 1) : Nat) : Int) by omega]
    exact k
  · exact R_argument_81.i ⟨by omega, by omega, by unfold Rg; omega, fun _ => k, fun _ => ⟨fun _ => k, fun b => absurd b hn⟩⟩
  · have t : mV σ' 262 (j : Int).toNat = ((u + A.length : Nat) : Int) := by rw [Int.toNat_natCast, h0.z (by decide) (by decide)]; exact ht
    exact R_argument_81.i ⟨by omega, by omega, by unfold Rg; omega, fun _ => k, fun b => absurd b (by rw [t]; omega)⟩
theorem rev_get {i : Nat} (hi : i < A.length) : A.reverse.getD i 0 = A.getD (A.length - 1 - i) 0 := by
  rw [List.getD_eq_getElem?_getD, List.getD_eq_getElem?_getD, List.getElem?_reverse hi]
theorem R_gives_154.r {j : Nat} (hj : j < 400) (hA : hoG σ 257 258 u A) (hk : u + A.length ≤ 70000) (h1 : mV σ 261 j = (u : Int)) (h : RxW σ s) (hO : RxO σ g s) (hB : BdR g kt s) (hq : POk Q g kt σ s (tPs A.reverse s)) : R_gives_154 (D + 1) (j : Int) (((u + A.length : Nat) : Int) - 1) σ Q := by
  have hl : A.reverse.length = A.length := List.length_reverse
  rw [show ((u + A.length : Nat) : Int) - 1 = ((u + A.length : Nat) : Int) - 1 - ((0 : Nat) : Int) by omega]
  refine loopP (P := fun i σ' => R_gives_154 (D + 1) (j : Int) (((u + A.length : Nat) : Int) - 1 - (i : Int)) σ' Q) (L := A.reverse) (fun i σ' s' hi hp h0 k => ?_) (fun i σ' hi hf h0 hn k => ?_) (fun σ' s' hp h0 k => ?_) h hO hB hq
  · have t : mV σ' 261 (j : Int).toNat = (u : Int) := by rw [Int.toNat_natCast, h0.z (by decide) (by decide)]; exact h1
    rw [hl] at hi
    have e1 : ((u + A.length : Nat) : Int) - 1 - (i : Int) = ((u + (A.length - 1 - i) : Nat) : Int) := by omega
    refine R_gives_154.i ⟨by omega, by omega, by unfold Rg; omega, fun a => absurd a (by rw [t]; omega), fun _ => ⟨fun b => absurd hp.2.2.1.1 b, fun _ => ?_⟩⟩
    refine R_arg.r (i := A.length - 1 - i) (h0.h hA) (by omega) hk e1 ⟨by omega, by omega, ?_⟩
    rw [e1, Int.toNat_natCast, ((h0.h hA) (A.length - 1 - i) (by omega)).2, ← rev_get hi, ← e1]
    show R_put _ _ σ' (kV (thQ Q) fun σ2 => R_gives_154 (D + 1) (j : Int) (((u + A.length : Nat) : Int) - 1 - (i : Int) + -1) σ2 Q)
    rw [show ((u + A.length : Nat) : Int) - 1 - (i : Int) + -1 = ((u + A.length : Nat) : Int) - 1 - ((i + 1 : Nat) : Int) by omega]
    exact k
  · exact R_gives_154.i ⟨by omega, by omega, by unfold Rg; omega, fun _ => k, fun _ => ⟨fun _ => k, fun b => absurd b hn⟩⟩
  · have t : mV σ' 261 (j : Int).toNat = (u : Int) := by rw [Int.toNat_natCast, h0.z (by decide) (by decide)]; exact h1
    rw [hl] at *
    exact R_gives_154.i ⟨by omega, by omega, by unfold Rg; omega, fun _ => k, fun b => absurd b (by rw [t]; omega)⟩
theorem BdR.ps : ∀ {L : List Int} {s s1 : TS}, BdR g kt s → tPs L s = .inl s1 → BdR g kt s1
  | [], s, s1, h, e => by cases e; exact h
  | c :: r, s, s1, h, e => by
    obtain ⟨s2, h1, h2⟩ := bd_i e
    exact BdR.ps (h.put h1) h2
theorem R_gives_221.r {j : Nat} (hj : j < 400) (hk : u + A.length ≤ 70000) : ∀ (n : Nat) (σ : MS) (s : TS), n ≤ 50 → hoG σ 257 258 u A → mV σ 261 j = (u : Int) → mV σ 262 j = ((u + A.length : Nat) : Int) → RxW σ s → RxO σ g s → BdR g kt s → POk Q g kt σ s (tPs (List.replicate n A).flatten s) → R_gives_221 (D + 1) (j : Int) (n : Int) σ Q
  | 0, σ, s, _, hA, h1, h2, h, hO, hB, hq => R_gives_221.i ⟨by decide, fun _ => hq.1 _ _ rfl (PoR.rf h hO), fun a => absurd a (by decide)⟩
  | n + 1, σ, s, hn, hA, h1, h2, h, hO, hB, hq => by
    have e : (List.replicate (n + 1) A).flatten = A ++ (List.replicate n A).flatten := rfl
    rw [e, ps_app] at hq
    refine R_gives_221.i ⟨by unfold Rg; omega, fun a => absurd a (by omega), fun _ => ⟨fun b => absurd h.1 b, fun _ => ⟨by omega, by omega, by omega, by omega, ?_⟩⟩⟩
    rw [Int.toNat_natCast, h1, h2]
    refine R_puts.r hA hk rfl h hO hB ⟨fun s1 σ1 e1 p1 => ?_, fun e σ1 he p1 q1 => ?_⟩
    · show R_gives_221 (D + 1) (j : Int) (((n + 1 : Nat) : Int) + -1) σ1 Q
      rw [show ((n + 1 : Nat) : Int) + -1 = (n : Int) by omega]
      exact R_gives_221.r hj hk n σ1 s1 (by omega) (p1.1.h hA) (by rw [p1.1.1.z (by decide) (by decide)]; exact h1) (by rw [p1.1.1.z (by decide) (by decide)]; exact h2) p1.2.2.1 p1.2.2.2 (hB.ps e1) (hq.bd e1 p1)
    · refine R_gives_221.i ⟨by unfold Rg; omega, fun _ => hq.no he p1 q1, fun _ => ⟨fun _ => hq.no he p1 q1, fun b => absurd b (by rw [p1.1]; exact p1.2.1)⟩⟩
theorem R_putSmall.r (hL : smB L) (h3 : mV σ 246 143 = (L.length : Int)) (h7 : hol σ 337 L) (hl : L.length ≤ 64) (h : RxW σ s) (hO : RxO σ g s) (hB : BdR g kt s) (hy : 0 ≤ s.1.2.2 ∧ s.1.2.2 ≤ 3) (hq : POk Q g kt σ s (tPn L s)) : R_putSmall σ Q := by
  have hm : (L.map (cdS s.1.2.2)).length = L.length := List.length_map ..
  refine R_putSmall.i ?_
  refine loopP (P := fun i σ' => R_putSmall_2 (i : Int) σ' Q) (L := L.map (cdS s.1.2.2)) (fun i σ' s' hi hp h0 k => ?_) (fun i σ' hi hf h0 hn k => ?_) (fun σ' s' hp h0 k => ?_) h hO hB hq
  · have t : mV σ' 246 143 = (L.length : Int) := by rw [h0.f (by decide) (by decide)]; exact h3
    rw [hm] at hi
    refine R_putSmall_2.i ⟨by unfold Rg; omega, fun a => absurd a (by rw [t]; omega), fun _ => ⟨fun b => absurd hp.2.2.1.1 b, fun _ => ⟨by omega, by omega, ?_⟩⟩⟩
    have t8 : mV σ' 246 18 = s.1.2.2 := by rw [h0.f (by decide) (by decide)]; exact h.2.2.2
    have e : (L.map (cdS s.1.2.2)).getD i 0 = cdS s.1.2.2 (L.getD i 0) := by
      rw [List.getD_eq_getElem?_getD, List.getD_eq_getElem?_getD, List.getElem?_map, List.getElem?_eq_getElem hi]
      rfl
    have hb : 0 ≤ L.getD i 0 ∧ L.getD i 0 ≤ 127 := by
      rw [List.getD_eq_getElem?_getD, List.getElem?_eq_getElem hi]
      exact hL _ (List.getElem_mem hi)
    rw [e, (rd_cd hy hb).1, (rd_cd hy hb).2] at k
    rw [Int.toNat_natCast, h0.z (by decide) (by decide), h7 i hi, t8]
    exact k
  · exact R_putSmall_2.i ⟨by rw [hm] at hi; unfold Rg; omega, fun _ => k, fun _ => ⟨fun _ => k, fun b => absurd b hn⟩⟩
  · have t : mV σ' 246 143 = (L.length : Int) := by rw [h0.f (by decide) (by decide)]; exact h3
    show R_putSmall_2 ((L.map (cdS s.1.2.2)).length : Int) σ' Q
    rw [hm]
    exact R_putSmall_2.i ⟨by unfold Rg; omega, fun _ => k, fun b => absurd b (by rw [t]; omega)⟩
theorem RxW.sm (h : RxW σ s) (hS : SmR σ σ1 L) : RxW σ1 s := h.r (hS.1.f (by decide) (by decide)) (hS.1.f (by decide) (by decide)) (hS.1.f (by decide) (by decide)) (hS.1.f (by decide) (by decide))
theorem RxO.sm (h : RxO σ g s) (hS : SmR σ σ1 L) : RxO σ1 g s := ⟨(hS.1.f (by decide) (by decide)).trans h.1, h.2.cg (fun k _ _ => ⟨hS.1.z (by decide) (by decide), hS.1.z (by decide) (by decide)⟩)⟩
theorem POk.fr {r : TR} (h : POk Q g kt σ s r) (h1 : PoR g σ s σ1 s1) : POk Q g kt σ1 s1 r := ⟨fun s' σ' e' p => h.1 s' σ' e' (h1.tr p), fun e' σ' he p q => h.2 e' σ' he p (h1.1.tr q)⟩
theorem R_told.r {n sys : Int} (hn : -999999999 ≤ n ∧ n ≤ 999999999) (hs : 1 ≤ sys ∧ sys ≤ 5) (h4 : sys = 4 → n ≤ 99999) (h : RxW σ s) (hO : RxO σ g s) (hB : BdR g kt s) (hy : 0 ≤ s.1.2.2 ∧ s.1.2.2 ≤ 3) (hq : POk Q g kt σ s (tPn (wrN n sys) s)) : R_told n sys σ Q := by
  refine R_told.i (R_writes.s hn hs h4 (fun σ1 hS => ?_))
  have hp : PoR g σ s σ1 s := ⟨FrP.sm hS, PuR.rf, h.sm hS, hO.sm hS⟩
  exact R_putSmall.r wrN_s hS.2.1 hS.2.2 (by have := wrN_len (n := n) (sys := sys); omega) (h.sm hS) (hO.sm hS) hB hy (hq.fr hp)
end
