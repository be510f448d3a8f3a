/-! WHERE BLOCKS END: the reference -/
section
variable {σ : MS} {Q : MQ9} {T : List Int}
/-- the source and its lines -/
def ScR (σ : MS) (T : List Int) : Prop := mV σ 246 10 = (T.length : Int) ∧ T.length ≤ 4000 ∧ hol σ 252 T ∧ LaS σ (mlL T)
theorem R_kindOf.l {j : Nat} (h : ScR σ T) (hj : j < (mlL T).length) (hq : Q (.inl (some (kdL T j))) σ) : R_kindOf (j : Int) σ Q := by
  obtain ⟨h10, hT4, hT, hL⟩ := h
  have ml := mlF_l (T := T) T.length 0
  have hl : (mlL T).length ≤ 4000 := Nat.le_trans ml hT4
  have p := (ml_p (T := T) (i := j) hj).1
  have l := sgT_l (U := T) (a := ((mlL T).getD j (0, 0)).1) p.2.1
  have p1 := p.1
  have p2 := p.2.1
  have e : ((mlL T).getD j (0, 0)).1 + (sgT T ((mlL T).getD j (0, 0)).1 ((mlL T).getD j (0, 0)).2).length = ((mlL T).getD j (0, 0)).2 := by omega
  refine R_kindOf.p (x0 := ((mlL T).getD j (0, 0)).1) (U := sgT T ((mlL T).getD j (0, 0)).1 ((mlL T).getD j (0, 0)).2) (by omega) ⟨hL.2 j hj, by omega, fun t ht => ?_⟩ (fun Q' h9 => R_lineEnd.p h10 hT4 hT hL hj (by rw [e] at h9; exact h9)) hq
  rw [hT _ (by omega)]
  unfold sgT
  exact (sgT_at (by omega)).symm
theorem rnd_256 {i : Nat} {l2 : Int} (h : ScR σ T) (hi : i < (mlL T).length) (h5 : kdL T i = 5) (hq : R_round_305 (i : Int) l2 5 ((bnE T i : Int) - (i : Int)) σ Q) : ∀ (n j : Nat), (mlL T).length ≤ j + n → j ≤ (mlL T).length → i < j → bnN T (kdL T i) n j = bnE T i → R_round_256 (i : Int) l2 5 ((j : Int) - (i : Int)) σ Q := by
  have ml := mlF_l (T := T) T.length 0
  have hl : (mlL T).length ≤ 4000 := Nat.le_trans ml h.2.1
  have e12 := h.2.2.2.1
  intro n
  induction n with
  | zero =>
    intro j hn hj hij he
    have he : j = bnE T i := he
    refine R_round_256.i ⟨by unfold Rg; omega, fun _ => by rw [he]; exact hq, fun h9 => absurd h9 (by omega)⟩
  | succ n ih =>
    intro j hn hj hij he
    have stop : ¬ (j < (mlL T).length ∧ bnC T (kdL T i) j = true) → R_round_305 (i : Int) l2 5 ((j : Int) - (i : Int)) σ Q := fun h9 => by
      have e : j = bnE T i := by
        rw [← he]
        exact (bnN_e h9).symm
      rw [e]
      exact hq
    rw [show R_round_256 (i : Int) l2 5 ((j : Int) - (i : Int)) σ Q = R_round_256 (i : Int) l2 5 ((j : Int) - (i : Int)) σ Q from rfl]
    refine R_round_256.i ⟨by unfold Rg; omega, fun h9 => stop (by omega), fun h9 => ?_⟩
    have hjl : j < (mlL T).length := by omega
    rw [show (i : Int) + ((j : Int) - (i : Int)) = (j : Int) by omega]
    have ps := (ml_p (T := T) (i := j) hjl).1.2.2.1
    refine R_kindOf.l h hjl ⟨fun h8 => stop (fun h7 => ?_), fun h8 => ⟨by omega, by omega, ?_⟩⟩
    · rcases of_decide_eq_true h7.2 with h6 | h6
      · omega
      · exact h8 h6.2.1
    · rw [Int.toNat_natCast, h.2.2.2.2 j hjl, Int.toNat_natCast, h.2.2.1 _ ps]
      refine ⟨by omega, by have := h.2.1; omega, fun h7 => stop (fun h6 => ?_), fun h7 => ?_⟩
      · rcases of_decide_eq_true h6.2 with h4 | h4
        · omega
        · exact h7 h4.2.2
      · have := ih (j + 1) (by omega) (by omega) (by omega) (by rw [← he, bnN_s ⟨hjl, decide_eq_true (Or.inr ⟨h5, h8, h7⟩)⟩])
        rw [show ((j + 1 : Nat) : Int) - (i : Int) = (j : Int) - (i : Int) + 1 by omega] at this
        exact this
theorem rnd_222 {i : Nat} {l2 : Int} (h : ScR σ T) (hi : i < (mlL T).length) (hm : kdL T i = 3 ∨ kdL T i = 4 ∨ kdL T i = 6) (hq : R_round_305 (i : Int) l2 (kdL T i) ((bnE T i : Int) - (i : Int)) σ Q) : ∀ (n j : Nat), (mlL T).length ≤ j + n → j ≤ (mlL T).length → i < j → bnN T (kdL T i) n j = bnE T i → R_round_222 (i : Int) l2 (kdL T i) ((j : Int) - (i : Int)) σ Q := by
  have ml := mlF_l (T := T) T.length 0
  have hl : (mlL T).length ≤ 4000 := Nat.le_trans ml h.2.1
  have e12 := h.2.2.2.1
  have out : ∀ j, j = bnE T i → R_round_251 (i : Int) l2 (kdL T i) ((j : Int) - (i : Int)) σ Q := fun j e => by
    rw [e]
    exact R_round_251.i ⟨fun _ => hq, fun h9 => by omega⟩
  intro n
  induction n with
  | zero =>
    intro j hn hj hij he
    exact R_round_222.i ⟨by unfold Rg; omega, fun _ => out j he, fun h9 => absurd h9 (by omega)⟩
  | succ n ih =>
    intro j hn hj hij he
    have stop : ¬ (j < (mlL T).length ∧ bnC T (kdL T i) j = true) → R_round_251 (i : Int) l2 (kdL T i) ((j : Int) - (i : Int)) σ Q := fun h9 => out j (by
      rw [← he]
      exact (bnN_e h9).symm)
    refine R_round_222.i ⟨by unfold Rg; omega, fun h9 => stop (by omega), fun h9 => ?_⟩
    have hjl : j < (mlL T).length := by omega
    rw [show (i : Int) + ((j : Int) - (i : Int)) = (j : Int) by omega]
    refine R_kindOf.l h hjl ⟨fun h8 => stop (fun h7 => ?_), fun h8 => ?_⟩
    · rcases of_decide_eq_true h7.2 with h6 | h6
      · exact h8 h6.2
      · omega
    · have := ih (j + 1) (by omega) (by omega) (by omega) (by rw [← he, bnN_s ⟨hjl, decide_eq_true (Or.inl ⟨hm, h8⟩)⟩])
      rw [show ((j + 1 : Nat) : Int) - (i : Int) = (j : Int) - (i : Int) + 1 by omega] at this
      exact this
/-- a block begins at line i: it ends where the document says -/
theorem rnd_blk {i : Nat} {l2 : Int} (h : ScR σ T) (hi : i < (mlL T).length) (hq : R_round_305 (i : Int) l2 (kdL T i) ((bnE T i : Int) - (i : Int)) σ Q) : ((kdL T i = 3 ∨ kdL T i = 4 ∨ kdL T i = 6) → R_round_222 (i : Int) l2 (kdL T i) 1 σ Q) ∧ (¬ (kdL T i = 3 ∨ kdL T i = 4 ∨ kdL T i = 6) → R_round_251 (i : Int) l2 (kdL T i) 1 σ Q) := by
  refine ⟨fun hm => ?_, fun hm => R_round_251.i ⟨fun h5 => ?_, fun h5 => ?_⟩⟩
  · have := rnd_222 h hi hm hq (mlL T).length (i + 1) (by omega) (by omega) (by omega) rfl
    rw [show ((i + 1 : Nat) : Int) - (i : Int) = 1 by omega] at this
    exact this
  · have e : bnE T i = i + 1 := bnN_e (fun h9 => by
      rcases of_decide_eq_true h9.2 with h6 | h6
      · exact hm h6.1
      · exact h5 h6.1)
    rw [e, show ((i + 1 : Nat) : Int) - (i : Int) = 1 by omega] at hq
    exact hq
  · rw [h5] at hq ⊢
    have := rnd_256 h hi h5 hq (mlL T).length (i + 1) (by omega) (by omega) (by omega) rfl
    rw [show ((i + 1 : Nat) : Int) - (i : Int) = 1 by omega] at this
    exact this
end
