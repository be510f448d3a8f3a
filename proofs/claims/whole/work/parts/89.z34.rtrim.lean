/-! TABLES: the reference trims a cell -/
def TmP (L : List Int) (a b : Nat) : Prop := a ≤ b ∧ b ≤ L.length ∧ (∀ t, t < a → sbl (L.getD t 0) = true) ∧ (∀ t, b ≤ t → t < L.length → sbl (L.getD t 0) = true) ∧ (a < b → sbl (L.getD a 0) = false ∧ sbl (L.getD (b - 1) 0) = false)
theorem pkF_0 : ∀ {X : List Int} {g : Bool}, (X.foldl pkF ([], g)).1 = (X.foldl pkF ([], false)).1
  | [], g => rfl
  | c :: r, g => by
    show (r.foldl pkF (pkF ([], g) c)).1 = (r.foldl pkF (pkF ([], false) c)).1
    have e : pkF ([], g) c = pkF ([], false) c := by
      unfold pkF
      by_cases h : sbl c = true
      · rw [if_pos h, if_pos h]
      · rw [if_neg h, if_neg h, if_neg (fun h9 => absurd h9.2 (Nat.lt_irrefl 0)), if_neg (fun h9 => absurd h9.2 (Nat.lt_irrefl 0))]
    rw [e]
theorem TmP.pk {L : List Int} {a b : Nat} (h : TmP L a b) : pkL (sgT L a b) = pkL L := by
  obtain ⟨h1, h2, h3, h4, h5⟩ := h
  have e1 : pkL L = pkL (L.take b) := gP_end h2 (fun j x y => h4 j x y)
  have e2 : L.take b = L.take a ++ sgT L a b := by
    have := sgT_ap (T := L) (a := 0) (b := a) (c := b) (Nat.zero_le _) h1 h2
    have t : ∀ k, sgT L 0 k = L.take k := fun k => by
      unfold sgT
      rw [List.drop_zero, Nat.sub_zero]
    rw [t, t] at this
    exact this
  have e3 : pkL (L.take a) = [] := (gP_z (L := L) (n := a) (by omega) (fun j hj => h3 j hj)).2
  rw [e1, e2]
  show (pkS (sgT L a b)).1 = (pkS (L.take a ++ sgT L a b)).1
  unfold pkS
  rw [List.foldl_append]
  have e4 : (L.take a).foldl pkF ([], false) = ([], (pkS (L.take a)).2) := Prod.ext e3 rfl
  rw [e4, pkF_0 (g := (pkS (L.take a)).2)]
section
variable {σ σ0 : MS} {Q : MQ9} {L : List Int} {g : Nat}
theorem R_behindBlanks.tm (hok : okK L) (hg : g + L.length ≤ 139000) (hG : hoG σ 254 255 g L) (hq : ∀ a, a ≤ L.length → (∀ t, t < a → sbl (L.getD t 0) = true) → (a < L.length → sbl (L.getD a 0) = false) → Q (.inl (some ((g + a : Nat) : Int))) σ) : R_behindBlanks (g : Int) ((g + L.length : Nat) : Int) σ Q := by
  have key : ∀ (n a : Nat), a + n = L.length → (∀ t, t < a → sbl (L.getD t 0) = true) → R_behindBlanks_2 ((g + L.length : Nat) : Int) ((g + a : Nat) : Int) σ Q := by
    intro n
    induction n with
    | zero =>
      intro a ha hs
      refine R_behindBlanks_2.i ⟨by unfold Rg; omega, by unfold Rg; omega, fun _ => ⟨by unfold Rg; omega, hq a (by omega) hs (fun h => absurd h (by omega))⟩, fun h => absurd h (by omega)⟩
    | succ n ih =>
      intro a ha hs
      have hc := hok _ (gd_mem (L := L) (i := a) (by omega))
      refine R_behindBlanks_2.i ⟨by unfold Rg; omega, by unfold Rg; omega, fun h => absurd h (by omega), fun _ => R_at.g hG hg (by omega) ?_⟩
      refine ⟨fun h => ⟨by unfold Rg; omega, hq a (by omega) hs (fun _ => ?_)⟩, fun h => ?_⟩
      · cases e : sbl (L.getD a 0)
        · rfl
        · exact absurd ((rdG_32 hc).mpr e) h
      · rw [show ((g + a : Nat) : Int) + 1 = ((g + (a + 1) : Nat) : Int) by omega]
        refine ih (a + 1) (by omega) (fun t ht => ?_)
        by_cases e : t = a
        · rw [e]
          exact (rdG_32 hc).mp h
        · exact hs t (by omega)
  exact R_behindBlanks.i (key L.length 0 (by omega) (fun t ht => absurd ht (Nat.not_lt_zero _)))
/-- the cell j is told by its trimmed signs -/
theorem R_trims.p {j : Nat} (hok : okK L) (hg : g + L.length ≤ 139000) (hG : hoG σ 254 255 g L) (h16 : mV σ 246 16 = ((g + L.length : Nat) : Int)) (hj : j < 4200) (hq : ∀ a b, TmP L a b → Q (.inl none) (wV (wV σ 342 j ((g + a : Nat) : Int)) 343 j ((g + b : Nat) : Int))) : R_trims (g : Int) (j : Int) σ Q := by
  refine R_trims.i ?_
  rw [h16]
  refine R_behindBlanks.tm hok hg hG (fun a ha hs hn => ?_)
  show R_trims_16 (j : Int) ((g + a : Nat) : Int) (mV σ 246 16) σ Q
  rw [h16]
  have fin : ∀ b, TmP L a b → R_trims_41 (j : Int) ((g + a : Nat) : Int) ((g + b : Nat) : Int) σ Q := fun b hT => by
    have := hT.2.1
    refine R_trims_41.i ⟨by omega, by omega, by omega, by omega, by unfold Rg; omega, ?_⟩
    rw [Int.toNat_natCast]
    exact hq a b hT
  have key : ∀ (n b : Nat), a + n = b → b ≤ L.length → (∀ t, b ≤ t → t < L.length → sbl (L.getD t 0) = true) → R_trims_16 (j : Int) ((g + a : Nat) : Int) ((g + b : Nat) : Int) σ Q := by
    intro n
    induction n with
    | zero =>
      intro b hb hbl ht
      exact R_trims_16.i ⟨by unfold Rg; omega, fun _ => fin b ⟨by omega, hbl, hs, ht, fun h => absurd h (by omega)⟩, fun h => absurd h (by omega)⟩
    | succ n ih =>
      intro b hb hbl ht
      have hc := hok _ (gd_mem (L := L) (i := b - 1) (by omega))
      refine R_trims_16.i ⟨by unfold Rg; omega, fun h => absurd h (by omega), fun _ => ?_⟩
      rw [show ((g + b : Nat) : Int) - 1 = ((g + (b - 1) : Nat) : Int) by omega]
      refine R_at.g hG hg (by omega) ?_
      refine ⟨fun h => fin b ⟨by omega, hbl, hs, ht, fun h9 => ⟨hn (by omega), ?_⟩⟩, fun h => ?_⟩
      · cases e : sbl (L.getD (b - 1) 0)
        · rfl
        · exact absurd ((rdG_32 hc).mpr e) h
      · rw [show ((g + b : Nat) : Int) + (-1) = ((g + (b - 1) : Nat) : Int) by omega]
        refine ih (b - 1) (by omega) (by omega) (fun t h1 h2 => ?_)
        by_cases e : t = b - 1
        · rw [e]
          exact (rdG_32 hc).mp h
        · exact ht t (by omega) h2
  exact key (L.length - a) L.length (by omega) (Nat.le_refl _) (fun t h1 h2 => absurd h2 (by omega))
/-- how wide a trimmed cell is -/
theorem tm_w {a b : Nat} (h : TmP L a b) (hab : a < b) : (rsC (sgT L a b)).length = (pkL L).length := by
  obtain ⟨h1, h2, h3, h4, h5⟩ := h
  have s := h5 hab
  have r := (rs_pk (L := L) (a := a) (b := b) h2 s.2 (b - a) a (by omega) (Nat.le_refl _)).1 (Or.inr s.1)
  have z : gP L a = 0 := (gP_z (L := L) (n := a) (by omega) (fun j hj => h3 j hj)).1
  have gb := (gP_fn (L := L) (k := b) (by omega) h2 s.2).1
  have e1 : pkL L = pkL (L.take b) := gP_end h2 (fun j x y => h4 j x y)
  rw [r, sgT_l (gP_bl (by omega) h2 s.2), z, gb, ← e1]
  rfl
end
