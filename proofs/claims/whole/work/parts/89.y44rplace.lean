/-! THE REFERENCE WORKS TEXTS: places, words, parts -/
theorem shS_rd {c : Int} (h : okC c) : shS (rdG c) = c % 128 := by
  unfold rdG
  split
  · rename_i h5
    rw [h.2.2 h5]
    decide
  · unfold shS
    rw [if_neg (by omega)]
theorem ms7_eq {L M : List Int} (hl : L.length = M.length) : allR (fun i => decide (L.getD i 0 % 128 = M.getD i 0 % 128)) L.length = decide (ms7 L = ms7 M) := by
  rw [Bool.eq_iff_iff, allR_i, decide_eq_true_iff]
  constructor
  · intro h
    refine list_ext (by rw [ms7_len, ms7_len, hl]) (fun i hi => ?_)
    rw [ms7_len] at hi
    rw [ms7_at hi, ms7_at (by omega)]
    exact of_decide_eq_true (h i hi)
  · intro h i hi
    have : (ms7 L).getD i 0 = (ms7 M).getD i 0 := by rw [h]
    rw [ms7_at hi, ms7_at (by omega)] at this
    exact decide_eq_true this
theorem sgT_at {B : List Int} {p n i : Nat} (hi : i < n) : ((B.drop p).take n).getD i 0 = B.getD (p + i) 0 := by
  rw [List.getD_eq_getElem?_getD, List.getD_eq_getElem?_getD, List.getElem?_take_of_lt hi, List.getElem?_drop]
theorem sbl_rd {c : Int} (h : okC c) : sbl c = decide (rdG c = 32) := by
  unfold sbl rdG
  unfold okC at h
  split
  · rename_i h5
    have := h.2.2 h5
    rw [decide_eq_false (by omega), decide_eq_false (by decide)]
  · have : c % 1024 - c % 512 + c % 128 = c % 128 := by omega
    rw [this]
theorem nuOk_b {a : List Int} {l m : Int} (h : nuOk a l m = true) : l ≤ nuX a ∧ nuX a ≤ m := by
  unfold nuOk at h
  rw [Bool.and_eq_true] at h
  exact of_decide_eq_true h.2
theorem nwD_ge {w : Int} : ∀ (r : List Int) (m : Int) (i : Bool), (w < m ∨ (w = m ∧ i = false)) → nwD w m i r = []
  | [], m, i, _ => rfl
  | c :: r, m, i, h => by
    unfold nwD
    split
    · exact nwD_ge r m false (by rcases h with h | h; exact Or.inl h; exact Or.inr ⟨h.1, rfl⟩)
    · split
      · rename_i hi
        have h2 : w < m := by
          rcases h with h | h
          · exact h
          · rw [hi] at h
            exact absurd h.2 (by decide)
        rw [if_neg (by omega)]
        exact nwD_ge r m true (Or.inl h2)
      · have h2 : w < m + 1 := by
          rcases h with h | h <;> omega
        rw [if_neg (by omega)]
        exact nwD_ge r (m + 1) true (Or.inl h2)
theorem nwD_wd {w m : Int} {rest : List Int} : ∀ (W : List Int), (∀ c ∈ W, sbl c = false) → nwD w m true (W ++ rest) = (if m = w then W else []) ++ nwD w m true rest
  | [], _ => by split <;> rfl
  | c :: r, h => by
    show nwD w m true (c :: (r ++ rest)) = _
    rw [nwD, h c List.mem_cons_self, if_neg (by decide), if_pos rfl, nwD_wd r (fun x hx => h x (List.mem_cons_of_mem _ hx))]
    split
    · rfl
    · rfl
theorem nwD_bl {w m : Int} : ∀ {rest : List Int}, (∀ c r, rest = c :: r → sbl c = true) → nwD w m true rest = nwD w m false rest
  | [], _ => rfl
  | c :: r, h => by
    have := h c r rfl
    rw [nwD, nwD, this, if_pos rfl, if_pos rfl]
section
variable {σ σ0 σ1 σ2 : MS} {Q : MQ9} {g kt u D : Nat} {s s1 s2 : TS} {A B L : List Int} {x y : Int}
theorem R_areAlike.r {j j' : Nat} (hj : j < 400) (hj' : j' < 400) (hA : ArG σ j kt A) (hB : ArG σ j' kt B) (hkt : kt ≤ 60100) (okA : okK A) (okB : okK B) (hq : Q (.inl (some (bZ (decide (ms7 A = ms7 B))))) σ) : R_areAlike (j : Int) (j' : Int) σ Q := by
  obtain ⟨u, e1, e2, e3, hG⟩ := hA
  obtain ⟨v, f1, f2, f3, hH⟩ := hB
  obtain ⟨q1, q0⟩ := bZ_q (P := fun x => Q (.inl (some x)) σ) hq
  have ej1 : mV σ 261 (j : Int).toNat = (u : Int) := by rw [Int.toNat_natCast]; exact e1
  have ej2 : mV σ 262 (j : Int).toNat = ((u + A.length : Nat) : Int) := by rw [Int.toNat_natCast]; exact e2
  have fj1 : mV σ 261 (j' : Int).toNat = (v : Int) := by rw [Int.toNat_natCast]; exact f1
  have fj2 : mV σ 262 (j' : Int).toNat = ((v + B.length : Nat) : Int) := by rw [Int.toNat_natCast]; exact f2
  refine R_areAlike.i ⟨by omega, by omega, by omega, by omega, by omega, by omega, by omega, by omega, ?_⟩
  rw [ej1, ej2, fj1, fj2]
  have en : ((u + A.length : Nat) : Int) - (u : Int) = (A.length : Int) := by omega
  have en2 : ((v + B.length : Nat) : Int) - (v : Int) = (B.length : Int) := by omega
  rw [en, en2]
  refine ⟨by unfold Rg; omega, by unfold Rg; omega, fun a => R_areAlike_36.i ?_, fun a => R_areAlike_36.i ?_⟩
  · have hno : decide (ms7 A = ms7 B) = false := decide_eq_false (fun h => a (by have := congrArg List.length h; rw [ms7_len, ms7_len] at this; omega))
    exact R_areAlike_41.i ⟨by decide, by unfold Rg; omega, fun _ => b01.i (Or.inl rfl) (q0 hno), fun _ => ⟨fun _ => b01.i (Or.inl rfl) (q0 hno), fun e => absurd rfl e⟩⟩
  · have hl : A.length = B.length := by omega
    have hE := ms7_eq hl
    refine loopIs (P := fun z i => R_areAlike_41 (j : Int) (j' : Int) (A.length : Int) z i σ Q) (f := fun i => decide (A.getD i 0 % 128 = B.getD i 0 % 128)) (n := A.length) (fun i hi k => ?_) (fun e => ?_) (fun e i hi => ?_)
    · refine R_areAlike_41.i ⟨by unfold Rg; omega, by unfold Rg; omega, fun a => absurd a (by omega), fun _ => ⟨fun e => absurd e (by decide), fun _ => ⟨by omega, by omega, ?_⟩⟩⟩
      rw [ej1]
      refine R_arg.r (i := i) hG hi (by omega) (by omega) (R_shown.s rdG_r ⟨by omega, by omega, ?_⟩)
      rw [fj1]
      refine R_arg.r (i := i) hH (by omega) (by omega) (by omega) (R_shown.s rdG_r ?_)
      show (¬ shS (rdG (A.getD i 0)) = shS (rdG (B.getD i 0)) → _) ∧ _
      rw [shS_rd (okA.gd hi), shS_rd (okB.gd (by omega))]
      exact ⟨fun a => R_areAlike_92.i (by rw [decide_eq_false a] at k; exact k), fun a => R_areAlike_92.i (by rw [decide_eq_true a] at k; exact k)⟩
    · rw [hE] at e
      exact R_areAlike_41.i ⟨by unfold Rg; omega, by unfold Rg; omega, fun _ => b01.i (Or.inr rfl) (q1 e), fun a => absurd a (by omega)⟩
    · rw [hE] at e
      exact R_areAlike_41.i ⟨by unfold Rg; omega, by unfold Rg; omega, fun _ => b01.i (Or.inl rfl) (q0 e), fun _ => ⟨fun _ => b01.i (Or.inl rfl) (q0 e), fun e => absurd rfl e⟩⟩
theorem R_placeOf.r {j j' : Nat} (hj : j < 400) (hj' : j' < 400) (hA : ArG σ j kt A) (hB : ArG σ j' kt B) (hkt : kt ≤ 60100) (okA : okK A) (okB : okK B) (hq : Q (.inl (some (plD A B))) σ) : R_placeOf (j : Int) (j' : Int) σ Q := by
  obtain ⟨u, e1, e2, e3, hG⟩ := hA
  obtain ⟨v, f1, f2, f3, hH⟩ := hB
  have ej1 : mV σ 261 (j : Int).toNat = (u : Int) := by rw [Int.toNat_natCast]; exact e1
  have ej2 : mV σ 262 (j : Int).toNat = ((u + A.length : Nat) : Int) := by rw [Int.toNat_natCast]; exact e2
  have fj1 : mV σ 261 (j' : Int).toNat = (v : Int) := by rw [Int.toNat_natCast]; exact f1
  have fj2 : mV σ 262 (j' : Int).toNat = ((v + B.length : Nat) : Int) := by rw [Int.toNat_natCast]; exact f2
  have en : ((u + A.length : Nat) : Int) - (u : Int) = (A.length : Int) := by omega
  have en2 : ((v + B.length : Nat) : Int) - (v : Int) = (B.length : Int) := by omega
  refine R_placeOf.i ⟨by omega, by omega, by omega, by omega, ?_⟩
  rw [ej1, ej2, en]
  have key : ∀ (m p : Nat), m = B.length + 1 - A.length - p → p ≤ B.length + 1 → Q (.inl (some (plN A B m p))) σ → R_placeOf_17 (j : Int) (j' : Int) (A.length : Int) (p : Int) σ Q := by
    intro m
    induction m with
    | zero =>
      intro p hp hpl hq
      refine R_placeOf_17.i ⟨by omega, by omega, by omega, by omega, ?_⟩
      rw [fj1, fj2, en2]
      exact ⟨by unfold Rg; omega, by unfold Rg; omega, fun _ => hq, fun a => absurd a (by omega)⟩
    | succ m ih =>
      intro p hp hpl hq
      refine R_placeOf_17.i ⟨by omega, by omega, by omega, by omega, ?_⟩
      rw [fj1, fj2, en2]
      refine ⟨by unfold Rg; omega, by unfold Rg; omega, fun a => absurd a (by omega), fun _ => ?_⟩
      have hlt : ((B.drop p).take A.length).length = A.length := by rw [List.length_take, List.length_drop]; omega
      have hE := ms7_eq hlt
      rw [hlt] at hE
      unfold plN at hq
      refine loopIs (P := fun z i => R_placeOf_43 (j : Int) (j' : Int) (A.length : Int) (p : Int) z i σ Q) (f := fun i => decide (((B.drop p).take A.length).getD i 0 % 128 = A.getD i 0 % 128)) (n := A.length) (fun i hi k => ?_) (fun e => ?_) (fun e i hi => ?_)
      · refine R_placeOf_43.i ⟨by unfold Rg; omega, by unfold Rg; omega, fun a => absurd a (by omega), fun _ => ⟨fun e => absurd e (by decide), fun _ => ⟨by omega, by omega, ?_⟩⟩⟩
        rw [ej1]
        refine R_arg.r (i := i) hG hi (by omega) (by omega) (R_shown.s rdG_r ⟨by omega, by omega, ?_⟩)
        rw [fj1]
        refine R_arg.r (i := p + i) hH (by omega) (by omega) (by omega) (R_shown.s rdG_r ?_)
        show (¬ shS (rdG (A.getD i 0)) = shS (rdG (B.getD (p + i) 0)) → _) ∧ _
        rw [shS_rd (okA.gd hi), shS_rd (okB.gd (by omega))]
        rw [sgT_at hi] at k
        exact ⟨fun a => R_placeOf_97.i (by rw [decide_eq_false (fun h => a h.symm)] at k; exact k), fun a => R_placeOf_97.i (by rw [decide_eq_true a.symm] at k; exact k)⟩
      · rw [hE] at e
        rw [if_pos (of_decide_eq_true e)] at hq
        exact R_placeOf_43.i ⟨by unfold Rg; omega, by unfold Rg; omega, fun _ => R_placeOf_105.i ⟨fun e => absurd e (by decide), fun _ => ⟨by unfold Rg; omega, hq⟩⟩, fun a => absurd a (by omega)⟩
      · rw [hE] at e
        rw [if_neg (of_decide_eq_false e)] at hq
        have nx : R_placeOf_105 (j : Int) (j' : Int) (A.length : Int) (p : Int) 0 σ Q := R_placeOf_105.i ⟨fun _ => by
          rw [show (p : Int) + 1 = ((p + 1 : Nat) : Int) by omega]
          exact ih (p + 1) (by omega) (by omega) hq, fun e => absurd rfl e⟩
        exact R_placeOf_43.i ⟨by unfold Rg; omega, by unfold Rg; omega, fun _ => nx, fun _ => ⟨fun _ => nx, fun e => absurd rfl e⟩⟩
  exact key _ 0 (by omega) (by omega) hq
theorem hoG.tk {σ : MS} {zg zy a : Nat} (h : hoG σ zg zy a A) (n : Nat) : hoG σ zg zy a (A.take n) := fun i hi => by
  rw [List.length_take] at hi
  have := h i (by omega)
  rw [List.getD_eq_getElem?_getD, List.getElem?_take_of_lt (by omega), ← List.getD_eq_getElem?_getD]
  exact this
theorem RxW.wu {v : Int} (h : RxW σ s) : RxW (wU σ v) s := h
theorem RxO.wu {v : Int} (h : RxO σ g s) : RxO (wU σ v) g s := h
theorem ArG.wu {v : Int} {j : Nat} (h : ArG σ j kt A) : ArG (wU σ v) j kt A := h
theorem PoR.wu {v : Int} (h : PoR g (wU σ v) s σ1 s1) : PoR g σ s σ1 s1 := h
theorem POk.wu {v : Int} {r : TR} (h : POk Q g kt σ s r) : POk Q g kt (wU σ v) s r := ⟨fun s' σ' e p => h.1 s' σ' e p, fun e σ' he p q => h.2 e σ' he p q⟩
/-- an argument that isn't so -/
theorem POk.ns {v k : Int} (hk : k ≠ 0) (h : RxW σ s) (hO : RxO σ g s) (hB : BdR g kt s) (hq : POk Q g kt σ s (tFl k s)) : Q (.inl none) (wV (wU σ v) 246 28 k) := hq.wu.2 _ _ rfl (FaR.fl hk h.wu hO.wu hB) (FrP.w (by decide))
theorem R_part.r {j : Nat} (hj : j + 2 < 400) {w : List (List Int)} (h0 : ArG σ j kt (w.getD 0 [])) (h1 : ArG σ (j + 1) kt (w.getD 1 [])) (h2 : ArG σ (j + 2) kt (w.getD 2 [])) (hkt : kt ≤ 60100) (hok : okM9 w) (h : RxW σ s) (hO : RxO σ g s) (hB : BdR g kt s) (hq : POk Q g kt σ s (if nuOk (w.getD 0 []) 0 9999 = true then (if nuOk (w.getD 1 []) 0 9999 = true then tPs (((w.getD 2 []).drop (nuX (w.getD 0 [])).toNat).take (nuX (w.getD 1 [])).toNat) s else tFl 5 s) else tFl 5 s)) : R_part (j : Int) σ Q := by
  refine R_part.i (R_isNumber.r (by omega) h0 hkt (hok.at 0) (by decide) (by decide) h (fun a => ⟨fun _ => ?_, fun e => absurd e (by decide)⟩) (fun a v => ⟨fun e => absurd rfl e, fun _ => ?_⟩))
  · rw [if_pos a] at hq
    show R_isNumber ((j : Int) + 1) 0 9999 _ _
    rw [show (j : Int) + 1 = ((j + 1 : Nat) : Int) by omega]
    refine R_isNumber.r (by omega) h1.wu hkt (hok.at 1) (by decide) (by decide) h.wu (fun b => ⟨fun _ => ?_, fun e => absurd e (by decide)⟩) (fun b v => ⟨fun e => absurd rfl e, fun _ => ?_⟩)
    · rw [if_pos b] at hq
      obtain ⟨u, e1, e2, e3, hG⟩ := h2
      have b1 := nuOk_b a
      have b2 := nuOk_b b
      rw [show (j : Int) + 2 = ((j + 2 : Nat) : Int) by omega]
      obtain ⟨n, hn⟩ : ∃ n : Nat, nuX (w.getD 0 []) = (n : Int) := ⟨(nuX (w.getD 0 [])).toNat, by omega⟩
      obtain ⟨m, hm⟩ : ∃ m : Nat, nuX (w.getD 1 []) = (m : Int) := ⟨(nuX (w.getD 1 [])).toNat, by omega⟩
      rw [hn] at b1
      rw [hm] at b2
      rw [hn, hm, Int.toNat_natCast, Int.toNat_natCast] at hq
      rw [hn, hm]
      show 0 ≤ ((j + 2 : Nat) : Int) ∧ ((j + 2 : Nat) : Int) < 400 ∧ 0 ≤ ((j + 2 : Nat) : Int) ∧ ((j + 2 : Nat) : Int) < 400 ∧ (Rg (mV σ 261 ((j + 2 : Nat) : Int).toNat + (n : Int) + (m : Int)) ∧ (mV σ 262 ((j + 2 : Nat) : Int).toNat ≤ mV σ 261 ((j + 2 : Nat) : Int).toNat + (n : Int) + (m : Int) → 0 ≤ ((j + 2 : Nat) : Int) ∧ ((j + 2 : Nat) : Int) < 400 ∧ R_part_82 (mV σ 261 ((j + 2 : Nat) : Int).toNat + (n : Int)) (mV σ 262 ((j + 2 : Nat) : Int).toNat) _ Q) ∧ (mV σ 261 ((j + 2 : Nat) : Int).toNat + (n : Int) + (m : Int) < mV σ 262 ((j + 2 : Nat) : Int).toNat → R_part_82 (mV σ 261 ((j + 2 : Nat) : Int).toNat + (n : Int)) (mV σ 261 ((j + 2 : Nat) : Int).toNat + (n : Int) + (m : Int)) _ Q))
      rw [Int.toNat_natCast, e1, e2]
      have lt : (((w.getD 2 []).drop n).take m).length = min m ((w.getD 2 []).length - n) := by rw [List.length_take, List.length_drop]
      have fin : n ≤ (w.getD 2 []).length → ∀ to : Int, to = ((u + n + (((w.getD 2 []).drop n).take m).length : Nat) : Int) → R_part_82 ((u : Int) + (n : Int)) to (wU (wU σ (n : Int)) (m : Int)) Q := by
        intro hn2 to ht
        refine R_part_82.i ?_
        rw [show (u : Int) + (n : Int) = ((u + n : Nat) : Int) by omega]
        exact R_puts.r (A := ((w.getD 2 []).drop n).take m) ((hG.dr n).tk m) (by omega) ht h.wu.wu hO.wu.wu hB hq.wu.wu
      refine ⟨by omega, by omega, by omega, by omega, by unfold Rg; omega, fun c => ⟨by omega, by omega, ?_⟩, fun c => fin (by omega) _ (by omega)⟩
      by_cases hn2 : n ≤ (w.getD 2 []).length
      · exact fin hn2 _ (by omega)
      · refine R_part_82.i ?_
        have hz : ((w.getD 2 []).drop n).take m = [] := by
          rw [List.drop_eq_nil_of_le (by omega), List.take_nil]
        rw [hz] at hq
        refine R_puts.i (R_puts_2.i ⟨by unfold Rg; omega, by unfold Rg; omega, fun _ => hq.1 _ _ rfl (PoR.rf h hO), fun c => absurd c (by omega)⟩)
    · rw [if_neg (by rw [b]; decide)] at hq
      exact POk.ns (by decide) h.wu hO.wu hB hq.wu
  · rw [if_neg (by rw [a]; decide)] at hq
    exact POk.ns (by decide) h hO hB hq
theorem R_word.r {j : Nat} {w : Int} (hw : -9999 ≤ w ∧ w ≤ 9999) (hj : j < 400) (hA : ArG σ j kt A) (hkt : kt ≤ 60100) (hok : okK A) (h : RxW σ s) (hO : RxO σ g s) (hB : BdR g kt s) (hq : POk Q g kt σ s (tPs (nwD w (-1) false A) s)) : R_word w (j : Int) σ Q := by
  obtain ⟨u, e1, e2, e3, hG⟩ := hA
  have ej1 : mV σ 261 (j : Int).toNat = (u : Int) := by rw [Int.toNat_natCast]; exact e1
  have ej2 : mV σ 262 (j : Int).toNat = ((u + A.length : Nat) : Int) := by rw [Int.toNat_natCast]; exact e2
  have done : POk Q g kt σ s (tPs [] s) → Q (.inl none) σ := fun hq => hq.1 _ _ rfl (PoR.rf h hO)
  have key : ∀ (n i m : Nat), i + n = A.length → m ≤ i → POk Q g kt σ s (tPs (nwD w ((m : Int) - 1) false (A.drop i)) s) → R_word_10 w (j : Int) ((u + i : Nat) : Int) (m : Int) σ Q := by
    intro n
    induction n using Nat.strongRecOn with
    | ind n ih =>
      intro i m hi hm hq
      refine R_word_10.i ⟨by omega, by omega, by unfold Rg; omega, fun a => ?_, fun a => ⟨by unfold Rg; omega, fun b => ?_, fun b => ?_⟩⟩
      · rw [ej2] at a
        rw [List.drop_eq_nil_of_le (by omega)] at hq
        exact done hq
      · rw [nwD_ge _ _ _ (by by_cases hh : w < (m : Int) - 1; exact Or.inl hh; exact Or.inr ⟨by omega, rfl⟩)] at hq
        exact done hq
      · rw [ej2] at a
        have skip : ∀ (k i' : Nat), i' + k = A.length → i ≤ i' → POk Q g kt σ s (tPs (nwD w ((m : Int) - 1) false (A.drop i')) s) → R_word_24 w (j : Int) ((u + i' : Nat) : Int) (m : Int) σ Q := by
          intro k
          induction k with
          | zero =>
            intro i' hi' hle hq
            have e0 : A.drop i' = [] := List.drop_eq_nil_of_le (by omega)
            rw [e0] at hq
            refine R_word_24.i ⟨by omega, by omega, by unfold Rg; omega, fun _ => R_word_50.i ?_, fun c => absurd c (by rw [ej2]; omega)⟩
            refine R_word_53.i ⟨by omega, by omega, by unfold Rg; omega, fun _ => R_word_79.i ⟨by unfold Rg; omega, by unfold Rg; omega, fun _ => R_word_99.i ?_, fun c => absurd c (by omega)⟩, fun c => absurd c (by rw [ej2]; omega)⟩
            refine R_word_10.i ⟨by omega, by omega, by unfold Rg; omega, fun _ => done hq, fun c => absurd c (by rw [ej2]; omega)⟩
          | succ k ihk =>
            intro i' hi' hle hq
            have hlt : i' < A.length := by omega
            have okx := hok.gd hlt
            refine R_word_24.i ⟨by omega, by omega, by unfold Rg; omega, fun c => absurd c (by rw [ej2]; omega), fun _ => R_arg.r hG hlt (by omega) rfl ⟨fun c => R_word_50.i ?_, fun c => ?_⟩⟩
            · have run : ∀ (k2 i2 : Nat), i2 + k2 = A.length → i' < i2 → (∀ t, i' ≤ t → t < i2 → sbl (A.getD t 0) = false) → R_word_53 w (j : Int) ((u + i2 : Nat) : Int) (m : Int) ((u + i' : Nat) : Int) σ Q := by
                have fin : ∀ i2 : Nat, i2 ≤ A.length → i' < i2 → (∀ t, i' ≤ t → t < i2 → sbl (A.getD t 0) = false) → (∀ c r, A.drop i2 = c :: r → sbl c = true) → R_word_79 w (j : Int) ((u + i2 : Nat) : Int) (m : Int) ((u + i' : Nat) : Int) σ Q := by
                  intro i2 hl2 hgt hbl hrest
                  have split : A.drop i' = (A.drop i').take (i2 - i') ++ A.drop i2 := by
                    have := List.take_append_drop (i2 - i') (A.drop i')
                    rw [List.drop_drop, show i' + (i2 - i') = i2 by omega] at this
                    exact this.symm
                  have lW : ((A.drop i').take (i2 - i')).length = i2 - i' := by rw [List.length_take, List.length_drop]; omega
                  have hW : ∀ c ∈ (A.drop i').take (i2 - i'), sbl c = false := by
                    intro c hc
                    obtain ⟨t, ht, rfl⟩ := List.getElem_of_mem hc
                    have := hbl (i' + t) (by omega) (by omega)
                    have e := sgT_at (B := A) (p := i') (n := i2 - i') (i := t) (by omega)
                    rw [List.getD_eq_getElem?_getD, List.getElem?_eq_getElem ht] at e
                    rw [← e] at this
                    exact this
                  have ew : nwD w ((m : Int) - 1) false (A.drop i') = (if (m : Int) = w then (A.drop i').take (i2 - i') else []) ++ nwD w (m : Int) false (A.drop i2) := by
                    have e1 : nwD w ((m : Int) - 1) false (A.drop i') = nwD w (m : Int) true (A.drop i') := by
                      rw [drop_c hlt]
                      simp only [nwD, hbl i' (by omega) hgt, Bool.false_eq_true, if_false, if_true, show (m : Int) - 1 + 1 = (m : Int) by omega]
                    rw [e1]
                    conv => lhs; rw [split]
                    rw [nwD_wd _ hW, nwD_bl hrest]
                  rw [ew] at hq
                  refine R_word_79.i ⟨by unfold Rg; omega, by unfold Rg; omega, fun c => absurd c (by omega), fun _ => ⟨by unfold Rg; omega, by unfold Rg; omega, fun c => R_word_99.i ?_, fun c => ?_⟩⟩
                  · rw [if_neg c, List.nil_append] at hq
                    rw [show (m : Int) + 1 = ((m + 1 : Nat) : Int) by omega]
                    refine ih (A.length - i2) (by omega) i2 (m + 1) (by omega) (by omega) ?_
                    rw [show ((m + 1 : Nat) : Int) - 1 = (m : Int) by omega]
                    exact hq
                  · rw [if_pos c, nwD_ge _ _ _ (Or.inr ⟨c.symm, rfl⟩), List.append_nil] at hq
                    exact R_puts.r ((hG.dr i').tk (i2 - i')) (by omega) (by rw [lW]; omega) h hO hB hq
                intro k2
                induction k2 with
                | zero =>
                  intro i2 h2 hgt hbl
                  refine R_word_53.i ⟨by omega, by omega, by unfold Rg; omega, fun _ => fin i2 (by omega) hgt hbl (fun c r e => ?_), fun c => absurd c (by rw [ej2]; omega)⟩
                  rw [List.drop_eq_nil_of_le (by omega)] at e
                  exact absurd e (by simp)
                | succ k2 ih2 =>
                  intro i2 h2 hgt hbl
                  have hlt2 : i2 < A.length := by omega
                  refine R_word_53.i ⟨by omega, by omega, by unfold Rg; omega, fun c => absurd c (by rw [ej2]; omega), fun _ => R_arg.r hG hlt2 (by omega) rfl ⟨fun c => ?_, fun c => ?_⟩⟩
                  · refine fin i2 (by omega) hgt hbl (fun c9 r e => ?_)
                    rw [drop_c hlt2] at e
                    injection e with e1 e2
                    rw [← e1, sbl_rd (hok.gd hlt2), decide_eq_true c]
                  · show R_word_53 w (j : Int) (((u + i2 : Nat) : Int) + 1) (m : Int) ((u + i' : Nat) : Int) σ Q
                    rw [show ((u + i2 : Nat) : Int) + 1 = ((u + (i2 + 1) : Nat) : Int) by omega]
                    refine ih2 (i2 + 1) (by omega) (by omega) (fun t t1 t2 => ?_)
                    by_cases e : t = i2
                    · rw [e, sbl_rd (hok.gd hlt2), decide_eq_false c]
                    · exact hbl t t1 (by omega)
              refine R_word_53.i ⟨by omega, by omega, by unfold Rg; omega, fun c9 => absurd c9 (by rw [ej2]; omega), fun _ => R_arg.r hG hlt (by omega) rfl ⟨fun c9 => absurd c9 c, fun _ => ?_⟩⟩
              show R_word_53 w (j : Int) (((u + i' : Nat) : Int) + 1) (m : Int) ((u + i' : Nat) : Int) σ Q
              rw [show ((u + i' : Nat) : Int) + 1 = ((u + (i' + 1) : Nat) : Int) by omega]
              refine run (A.length - (i' + 1)) (i' + 1) (by omega) (by omega) (fun t t1 t2 => ?_)
              have e : t = i' := by omega
              rw [e, sbl_rd okx, decide_eq_false c]
            · show R_word_24 w (j : Int) (((u + i' : Nat) : Int) + 1) (m : Int) σ Q
              rw [show ((u + i' : Nat) : Int) + 1 = ((u + (i' + 1) : Nat) : Int) by omega]
              refine ihk (i' + 1) (by omega) (by omega) ?_
              rw [drop_c hlt, nwD, sbl_rd okx, decide_eq_true c, if_pos rfl] at hq
              exact hq
        exact skip n i hi (Nat.le_refl _) hq
  refine R_word.i ⟨by omega, by omega, ?_⟩
  rw [ej1]
  exact key A.length 0 0 (by omega) (by omega) (by rw [List.drop_zero]; exact hq)
end
