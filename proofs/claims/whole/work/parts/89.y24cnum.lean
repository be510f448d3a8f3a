/-! TEXTS, THE CLASS: numbers and keys in arguments; signs reshaped -/
/-- an argument, as held tells it -/
def arA (H A : List Int) (x : Int) (L : List Int) : Prop := ∃ u : Nat, rgt H x = (u : Int) ∧ rgt H (x + 1) = ((u + L.length : Nat) : Int) ∧ seA A u L
def bdN : Nat → Int
  | 0 => 9999
  | 1 => 999
  | 2 => 99
  | 3 => 9
  | _ => 0
theorem bdN_s {n : Nat} (hn : n < 4) {v d : Int} (h : v ≤ bdN (n + 1)) (hd : d ≤ 9) : v * 10 + d ≤ bdN n := by
  rcases (show n = 0 ∨ n = 1 ∨ n = 2 ∨ n = 3 by omega) with rfl | rfl | rfl | rfl
  · have : bdN (0 + 1) = 999 := rfl
    show _ ≤ 9999
    omega
  · have : bdN (1 + 1) = 99 := rfl
    show _ ≤ 999
    omega
  · have : bdN (2 + 1) = 9 := rfl
    show _ ≤ 99
    omega
  · have : bdN (3 + 1) = 0 := rfl
    show _ ≤ 9
    omega
theorem bdN_b {n : Nat} : 0 ≤ bdN n ∧ bdN n ≤ 9999 := by
  unfold bdN
  split <;> decide
theorem nuV_b : ∀ (r : List Int) (v : Int), r.length ≤ 4 → 0 ≤ v → v ≤ bdN r.length → (r.all (fun x => sDi (x % 128))) = true → 0 ≤ nuV r v ∧ nuV r v ≤ 9999
  | [], v, _, h0, h1, _ => ⟨h0, h1⟩
  | x :: r, v, hl, h0, h1, ha => by
    rw [List.all_cons, Bool.and_eq_true] at ha
    have hd := sDi_i.mp ha.1
    rw [List.length_cons] at hl h1
    exact nuV_b r _ (by omega) (by omega) (by
      have := bdN_s (n := r.length) (by omega) (v := v) (d := x % 128 - 48) h1 (by omega)
      omega) ha.2
section
variable {σ0 σ : MS} {Q : MQ9} {a : Bool} {A : List Int} {k : Nat} {R : List Int × Bool} {s : TS} {H : List Int}
theorem TxQ.fail (h : TxQ σ0 a A k R s σ) {n : Int} (hn : 0 ≤ n ∧ n ≤ 20) (hq : ∀ σ', TxF σ' (n, s.1.1, s.1.2.1) → K2 σ0 σ' → Q (.inr (exN 0)) σ') : Purse_fail n σ Q := Purse_fail.s (s := s) hn h.1.1 h.1.2.1 (fun σ' h1 h2 => hq σ' h1 (h.2.1.tr h2))
theorem num_153 {l m : Int} (hl : -9999 ≤ l ∧ l ≤ 9999) (hm : -9999 ≤ m ∧ m ≤ 9999) (h : TxQ σ0 a A k R s σ) {b g : Bool} {v : Int} (hv : -2000000 ≤ v ∧ v ≤ 2000000) (hy : g = true → l ≤ (if b = true then -v else v) → (if b = true then -v else v) ≤ m → Q (.inl (some (if b = true then -v else v))) σ) (hno : (g = true → l ≤ (if b = true then -v else v) → (if b = true then -v else v) ≤ m → False) → ∀ σ', TxF σ' (5, s.1.1, s.1.2.1) → K2 σ0 σ' → Q (.inr (exN 0)) σ') : Texts_number_153 l m (bZ b) (bZ g) v σ Q := by
  have f185 : ∀ w : Int, (g = true → l ≤ (if b = true then -v else v) → (if b = true then -v else v) ≤ m → False) → Texts_number_185 w σ Q := fun w hf => Texts_number_185.i (h.fail (by decide) (hno hf))
  have h166 : ∀ w : Int, w = (if b = true then -v else v) → Texts_number_166 l m (bZ g) w σ Q := by
    intro w hw
    have hwb : -2000000 ≤ w ∧ w ≤ 2000000 := by rw [hw]; split <;> omega
    refine Texts_number_166.i ⟨fun e => f185 w (fun e2 => by rw [bZ_z e] at e2; exact Bool.noConfusion e2), fun e => ⟨by unfold Rg; omega, by unfold Rg; omega, fun c => f185 w (fun _ h1 => by rw [← hw] at h1; omega), fun c => ⟨by unfold Rg; omega, by unfold Rg; omega, fun d => ⟨by unfold Rg; omega, ?_⟩, fun d => f185 w (fun _ _ h2 => by rw [← hw] at h2; omega)⟩⟩⟩
    rw [hw] at c d ⊢
    exact hy (bZ_ne e) c d
  refine Texts_number_153.i ⟨fun e => h166 _ ?_, fun e => h166 _ ?_⟩
  · rw [bZ_z e, if_neg (by decide)]
  · rw [bZ_ne e, if_pos rfl]
theorem num_101 {l m : Int} (hl : -9999 ≤ l ∧ l ≤ 9999) (hm : -9999 ≤ m ∧ m ≤ 9999) (h : TxQ σ0 a A k R s σ) (hi : TI 0 0 s) {b : Bool} : ∀ (r : List Int) (i : Nat) (v : Int), seA A i r → r.length ≤ 4 → 0 ≤ v ∧ v ≤ bdN r.length → (r.all (fun x => sDi (x % 128)) = true → l ≤ (if b = true then -(nuV r v) else nuV r v) → (if b = true then -(nuV r v) else nuV r v) ≤ m → Q (.inl (some (if b = true then -(nuV r v) else nuV r v))) σ) → ((r.all (fun x => sDi (x % 128)) = true → l ≤ (if b = true then -(nuV r v) else nuV r v) → (if b = true then -(nuV r v) else nuV r v) ≤ m → False) → ∀ σ', TxF σ' (5, s.1.1, s.1.2.1) → K2 σ0 σ' → Q (.inr (exN 0)) σ') → Texts_number_101 l m ((i + r.length : Nat) : Int) (bZ b) 1 v (i : Int) σ Q
  | [], i, v, hs, hl4, hv, hy, hno => by
    have l1 := h.len hi
    have l2 := hs.1
    have b9 := bdN_b (n := ([] : List Int).length)
    rw [List.length_nil] at l2 ⊢
    refine Texts_number_101.i ⟨by unfold Rg; omega, fun _ => num_153 (g := true) hl hm h (by omega) (fun _ => hy rfl) (fun hf => hno (fun _ => hf rfl)), fun h9 => absurd h9 (by omega)⟩
  | x :: r, i, v, hs, hl4, hv, hy, hno => by
    have l1 := h.len hi
    have l2 := hs.1
    obtain ⟨h1, h2⟩ := hs.hd
    rw [List.length_cons] at l2 hl4
    have e1 : rgt (mX σ 89) (i : Int) = x := by rw [h.rd h1, h2]
    rw [List.length_cons] at hv ⊢
    have b9 := bdN_b (n := r.length + 1)
    refine Texts_number_101.i ⟨by unfold Rg; omega, fun h9 => absurd h9 (by omega), fun _ => ⟨fun h9 => absurd h9 (by decide), fun _ => ⟨by unfold Rg; omega, ?_⟩⟩⟩
    rw [e1]
    refine T_isDigit.s (by unfold Rg; omega) ?_
    show Texts_number_101 l m _ (bZ b) (bZ (sDi (x % 128))) (v * 10 + x % 128 - 48) ((i : Int) + 1) σ Q
    have eV : nuV (x :: r) v = nuV r (v * 10 + x % 128 - 48) := rfl
    rw [eV, List.all_cons] at hy hno
    cases hd : sDi (x % 128) with
    | true =>
      have hd2 := sDi_i.mp hd
      rw [hd, Bool.true_and] at hy hno
      have := num_101 hl hm h hi r (i + 1) (v * 10 + x % 128 - 48) hs.tl (by omega) ⟨by omega, by
        have := bdN_s (n := r.length) (by omega) (v := v) (d := x % 128 - 48) hv.2 (by omega)
        omega⟩ hy hno
      rw [show i + 1 + r.length = i + (r.length + 1) by omega] at this
      exact this
    | false =>
      have f := num_153 (σ0 := σ0) (Q := Q) (b := b) (g := false) (v := v * 10 + x % 128 - 48) hl hm h (by omega) (fun h9 => Bool.noConfusion h9) (fun _ => hno (fun h9 => by rw [hd, Bool.false_and] at h9; exact Bool.noConfusion h9))
      exact Texts_number_101.i ⟨by unfold Rg; omega, fun _ => f, fun _ => ⟨fun _ => f, fun h9 => absurd rfl h9⟩⟩
theorem Texts_number.c {l m x : Int} {L : List Int} (hl : -9999 ≤ l ∧ l ≤ 9999) (hm : -9999 ≤ m ∧ m ≤ 9999) (h : TxQ σ0 a A k R s σ) (hi : TI 0 0 s) (hH : mX σ0 93 = H) (hx : 0 ≤ x ∧ x ≤ 2000) (ha : arA H A x L) (hy : nuOk L l m = true → Q (.inl (some (nuX L))) σ) (hno : nuOk L l m = false → ∀ σ', TxF σ' (5, s.1.1, s.1.2.1) → K2 σ0 σ' → Q (.inr (exN 0)) σ') : Texts_number x l m σ Q := by
  obtain ⟨u, u1, u2, u3⟩ := ha
  have x93 : mX σ 93 = H := by rw [h.2.1.1 93 (by decide) (by decide)]; exact hH
  have l1 := h.len hi
  have l2 := u3.1
  have h67 : ∀ (b : Bool) (i : Nat) (r : List Int), b = nuM L → r = nuR L → seA A i r → i + r.length = u + L.length → Texts_number_67 l m ((u + L.length : Nat) : Int) (bZ b) (i : Int) σ Q := by
    intro b i r hb hr hs hir
    have e9 : nuOk L l m = ((decide (1 ≤ r.length ∧ r.length ≤ 4) && r.all (fun x => sDi (x % 128))) && decide (l ≤ nuX L ∧ nuX L ≤ m)) := by unfold nuOk nuG; rw [hr]
    have eX : nuX L = (if b = true then -(nuV r 0) else nuV r 0) := by unfold nuX; rw [hb, hr]
    have bad : ¬ (1 ≤ r.length ∧ r.length ≤ 4) → Texts_number_91 l m ((u + L.length : Nat) : Int) (bZ b) (i : Int) σ Q := by
      intro hn
      have hf : nuOk L l m = false := by rw [e9, decide_eq_false hn]; rfl
      have f := num_153 (σ0 := σ0) (Q := Q) (b := b) (g := false) (v := 0) hl hm h (by decide) (fun h9 => Bool.noConfusion h9) (fun _ => hno hf)
      exact Texts_number_91.i (Texts_number_92.i (Texts_number_101.i ⟨by unfold Rg; omega, fun _ => f, fun _ => ⟨fun _ => f, fun h9 => absurd rfl h9⟩⟩))
    refine Texts_number_67.i ⟨by unfold Rg; omega, fun c => bad (by omega), fun c => ⟨by unfold Rg; omega, fun d => bad (by omega), fun d => Texts_number_92.i ?_⟩⟩
    have hg : 1 ≤ r.length ∧ r.length ≤ 4 := by omega
    rw [decide_eq_true hg, Bool.true_and] at e9
    have := num_101 hl hm h hi (b := b) r i 0 hs hg.2 ⟨Int.le_refl _, bdN_b.1⟩ (fun p1 p2 p3 => by
      rw [← eX] at p2 p3 ⊢
      exact hy (by rw [e9, p1, decide_eq_true ⟨p2, p3⟩]; rfl)) (fun hf => hno (by
      rw [e9]
      cases hp : r.all (fun x => sDi (x % 128)) with
      | false => rfl
      | true =>
        rw [Bool.true_and]
        refine decide_eq_false (fun hc => hf hp ?_ ?_)
        · rw [← eX]; exact hc.1
        · rw [← eX]; exact hc.2))
    rw [hir] at this
    exact this
  have h50 : nuM L = false → Texts_number_50 l m (u : Int) ((u + L.length : Nat) : Int) σ Q := by
    intro hm0
    refine Texts_number_50.i (Texts_number_51.i ⟨fun _ => ?_, fun h9 => absurd rfl h9⟩)
    exact h67 false u L hm0.symm (by unfold nuR; rw [hm0, if_neg (by decide)]) u3 rfl
  refine Texts_number.i ⟨by unfold Rg; omega, by unfold Rg; omega, ?_⟩
  rw [x93, u1, u2]
  refine ⟨fun c => h50 (decide_eq_false (by omega)), fun c => ?_⟩
  cases L with
  | nil => exact absurd c (by rw [List.length_nil]; omega)
  | cons y r =>
    obtain ⟨g1, g2⟩ := u3.hd
    have e1 : rgt (mX σ 89) (u : Int) = y := by rw [h.rd g1, g2]
    rw [e1]
    refine ⟨fun d => h50 (decide_eq_false (fun hc => d hc.2)), fun d => Texts_number_51.i ⟨fun h9 => absurd h9 (by decide), fun _ => ?_⟩⟩
    have hm1 : nuM (y :: r) = true := decide_eq_true ⟨by rw [List.length_cons]; omega, d⟩
    exact h67 true (u + 1) r hm1.symm (by unfold nuR; rw [hm1, if_pos rfl]; rfl) u3.tl (by rw [List.length_cons]; omega)
theorem key_45 (h : TxQ σ0 a A k R s σ) (hi : TI 0 0 s) : ∀ (r : List Int) (i : Nat), seA A i r → (r.all (fun x => sWo (x % 128)) = true → Q (.inl none) σ) → (r.all (fun x => sWo (x % 128)) = false → ∀ σ', TxF σ' (5, s.1.1, s.1.2.1) → K2 σ0 σ' → Q (.inr (exN 0)) σ') → Texts_needKey_45 ((i + r.length : Nat) : Int) 1 (i : Int) σ Q
  | [], i, hs, hy, hno => by
    have l1 := h.len hi
    have l2 := hs.1
    rw [List.length_nil] at l2 ⊢
    exact Texts_needKey_45.i ⟨by unfold Rg; omega, fun _ => Texts_needKey_79.i ⟨fun _ => hy rfl, fun h9 => absurd h9 (by decide)⟩, fun h9 => absurd h9 (by omega)⟩
  | x :: r, i, hs, hy, hno => by
    have l1 := h.len hi
    have l2 := hs.1
    obtain ⟨h1, h2⟩ := hs.hd
    rw [List.length_cons] at l2 ⊢
    have e1 : rgt (mX σ 89) (i : Int) = x := by rw [h.rd h1, h2]
    refine Texts_needKey_45.i ⟨by unfold Rg; omega, fun h9 => absurd h9 (by omega), fun _ => ⟨fun h9 => absurd h9 (by decide), fun _ => ⟨by unfold Rg; omega, ?_⟩⟩⟩
    rw [e1]
    refine T_isWordSign.s (by unfold Rg; omega) ?_
    show Texts_needKey_45 _ (bZ (sWo (x % 128))) ((i : Int) + 1) σ Q
    rw [List.all_cons] at hy hno
    cases hd : sWo (x % 128) with
    | true =>
      rw [hd, Bool.true_and] at hy hno
      have := key_45 h hi r (i + 1) hs.tl hy hno
      rw [show i + 1 + r.length = i + (r.length + 1) by omega] at this
      exact this
    | false =>
      have f : Texts_needKey_79 0 σ Q := Texts_needKey_79.i ⟨fun h9 => absurd rfl h9, fun _ => h.fail (by decide) (hno (by rw [hd]; rfl))⟩
      exact Texts_needKey_45.i ⟨by unfold Rg; omega, fun _ => f, fun _ => ⟨fun _ => f, fun h9 => absurd rfl h9⟩⟩
theorem Texts_needKey.c {x : Int} {L : List Int} (h : TxQ σ0 a A k R s σ) (hi : TI 0 0 s) (hH : mX σ0 93 = H) (hx : 0 ≤ x ∧ x ≤ 2000) (ha : arA H A x L) (hy : keyD L = true → Q (.inl none) σ) (hno : keyD L = false → ∀ σ', TxF σ' (5, s.1.1, s.1.2.1) → K2 σ0 σ' → Q (.inr (exN 0)) σ') : Texts_needKey x σ Q := by
  obtain ⟨u, u1, u2, u3⟩ := ha
  have x93 : mX σ 93 = H := by rw [h.2.1.1 93 (by decide) (by decide)]; exact hH
  have l1 := h.len hi
  have l2 := u3.1
  have bad : ¬ (1 ≤ L.length ∧ L.length ≤ 12) → Texts_needKey_39 (u : Int) ((u + L.length : Nat) : Int) σ Q := by
    intro hn
    have hf : keyD L = false := by unfold keyD; rw [decide_eq_false hn]; rfl
    have f : Texts_needKey_79 0 σ Q := Texts_needKey_79.i ⟨fun h9 => absurd rfl h9, fun _ => h.fail (by decide) (hno hf)⟩
    exact Texts_needKey_39.i (Texts_needKey_40.i (Texts_needKey_45.i ⟨by unfold Rg; omega, fun _ => f, fun _ => ⟨fun _ => f, fun h9 => absurd rfl h9⟩⟩))
  refine Texts_needKey.i ⟨by unfold Rg; omega, by unfold Rg; omega, ?_⟩
  rw [x93, u1, u2]
  refine ⟨by unfold Rg; omega, fun c => bad (by omega), fun c => ⟨by unfold Rg; omega, fun d => bad (by omega), fun d => Texts_needKey_40.i ?_⟩⟩
  have e9 : keyD L = L.all (fun x => sWo (x % 128)) := by unfold keyD; rw [decide_eq_true (by omega), Bool.true_and]
  rw [e9] at hy hno
  exact key_45 h hi L u u3 hy hno
/-! signs recast -/
theorem Texts_recast.c {kd c t ah : Int} (hk : kd = 0 ∨ kd = 1 ∨ kd = 2 ∨ kd = 3) (hc : okC c) (ht : -9999 ≤ t ∧ t ≤ 9999) (hah : -1 ≤ ah ∧ ah ≤ 127) (hq : Q (.inl (some (rcS kd t ah c))) σ) : Texts_recast kd c t ah σ Q := by
  have hb : 0 ≤ c % 128 ∧ c % 128 ≤ 127 := by omega
  have hr : Rg (c % 128) := by unfold Rg; omega
  have fin : ∀ o : Int, o = rcX kd t ah (c % 128) → Texts_recast_98 c (c % 128) o σ Q := by
    intro o ho
    have b := rcX_b (k := kd) (t := t) (ah := ah) hb
    refine Texts_recast_98.i ⟨by unfold okC at hc; unfold Rg; omega, ?_⟩
    rw [ho]
    exact hq
  have h26 : rcX kd t ah (c % 128) = uppS (c % 128) → Texts_recast_26 c (c % 128) σ Q := fun e => Texts_recast_26.i (T_great.s hr (fin _ e.symm))
  have h36 : ¬ kd = 0 → (kd = 2 → sLe ah = true) → Texts_recast_36 kd c t (c % 128) (c % 128) σ Q := by
    intro h0 h2
    refine Texts_recast_36.i ⟨by unfold Rg; omega, fun h1 => ⟨by unfold Rg; omega, fun h3 => fin _ ?_, fun h3 => T_isLetter.s hr ⟨fun b => fin _ ?_, fun b => T_isSmall.s hr ⟨fun d => Texts_recast_79.i ⟨by unfold Rg; omega, by decide, fin _ ?_⟩, fun d => Texts_recast_79.i ⟨by unfold Rg; omega, by decide, fin _ ?_⟩⟩⟩⟩, fun h1 => T_small.s hr (fin _ ?_)⟩
    · have e2 : kd = 2 := by omega
      unfold rcX
      rw [if_neg h0, if_pos e2, if_pos (h2 e2)]
    · have hl := bZ_z b
      unfold sLe at hl
      rw [Bool.or_eq_false_iff] at hl
      unfold rcX
      rw [if_neg h0, if_neg (by omega), if_neg h1, hl.1, hl.2, if_neg (by decide), if_neg (by decide)]
    · have hl := bZ_ne b
      unfold sLe at hl
      rw [bZ_z d, Bool.false_or] at hl
      unfold rcX
      rw [if_neg h0, if_neg (by omega), if_neg h1, bZ_z d, if_neg (by decide), if_pos hl]
    · unfold rcX
      rw [if_neg h0, if_neg (by omega), if_neg h1, if_pos (bZ_ne d)]
    · unfold rcX
      rw [if_neg h0, if_neg (by omega), if_pos h1]
  refine Texts_recast.i ⟨by unfold Rg; omega, fun h0 => h26 ?_, fun h0 => ⟨by unfold Rg; omega, fun h2 => h36 h0 (fun h9 => absurd h9 h2), fun h2 => T_isLetter.s (by unfold Rg; omega) ⟨fun b => h36 h0 (fun _ => bZ_ne b), fun b => h26 ?_⟩⟩⟩
  · unfold rcX
    rw [if_pos h0]
  · unfold rcX
    rw [if_neg h0, if_pos h2, bZ_z b, if_neg (by decide)]
theorem rs_257 {kd t : Int} {u0 e9 : Nat} (hk : kd = 0 ∨ kd = 1 ∨ kd = 2 ∨ kd = 3) (ht : -9999 ≤ t ∧ t ≤ 9999) (hn : inOk σ0 a) : ∀ (r : List Int) (i : Nat) (ah : Int) (s : TS) (σ : MS), seA A i r → e9 = i + r.length → u0 ≤ i → (i = u0 → ah = -1) → (u0 < i → A.getD (i - 1) 0 % 128 = ah) → -1 ≤ ah ∧ ah ≤ 127 → TxQ σ0 a A k R s σ → TI 0 0 s → TOk Q (tPs (rcL kd t ah r) s) (fun s' σ' => TxQ σ0 a A k R s' σ') (K2 σ0) → Texts_reshape_257 kd (u0 : Int) (e9 : Int) t (i : Int) σ Q
  | [], i, ah, s, σ, hs, he, hu, h1, h2, h3, h, hi, hq => by
    have l1 := h.len hi
    have l2 := hs.1
    rw [List.length_nil] at l2 he
    exact Texts_reshape_257.i ⟨by unfold Rg; omega, fun _ => hq.1 s σ rfl h, fun h9 => absurd h9 (by omega)⟩
  | c :: r, i, ah, s, σ, hs, he, hu, h1, h2, h3, h, hi, hq => by
    have l1 := h.len hi
    have l2 := hs.1
    obtain ⟨g1, g2⟩ := hs.hd
    rw [List.length_cons] at l2 he
    have hc : okC c := by rw [← g2]; exact h.ok.getD g1
    have e1 : rgt (mX σ 89) (i : Int) = c := by rw [h.rd g1, g2]
    have hq2 : TOk Q (tBd (tPt (rcS kd t ah c) s) (tPs (rcL kd t (c % 128) r))) (fun s' σ' => TxQ σ0 a A k R s' σ') (K2 σ0) := hq
    have h289 : Texts_reshape_289 kd (u0 : Int) (e9 : Int) t (i : Int) ah σ Q := by
      refine Texts_reshape_289.i ⟨by unfold Rg; omega, ?_⟩
      rw [e1]
      refine Texts_recast.c hk hc ht h3 ?_
      refine Texts_put.c h hn hi (rcS_ok hc) ⟨fun s1 σ1 f1 h4 => ?_, fun e σ1 he h4 h5 => hq2.no he h4 h5⟩
      exact rs_257 hk ht hn r (i + 1) (c % 128) s1 σ1 hs.tl (by omega) (by omega) (fun h9 => absurd h9 (by omega)) (fun _ => by rw [show i + 1 - 1 = i by omega, g2]) (by omega) h4 (hi.pt (rcS_ok hc) f1) (hq2.bd f1)
    refine Texts_reshape_257.i ⟨by unfold Rg; omega, fun h9 => absurd h9 (by omega), fun _ => ⟨by unfold Rg; omega, fun c1 => ?_, fun c1 => ⟨by unfold Rg; omega, ?_⟩⟩⟩
    · rw [h1 (by omega)] at h289; exact h289
    · rw [show (i : Int) - 1 = ((i - 1 : Nat) : Int) by omega, h.rd (by omega), h2 (by omega)]
      exact h289
theorem rs_94 (hn : inOk σ0 a) {u0 : Nat} : ∀ (r p : List Int) (s : TS) (σ : MS), seA A u0 (r.reverse ++ p) → TxQ σ0 a A k R s σ → TI 0 0 s → TOk Q (tPs r s) (fun s' σ' => TxQ σ0 a A k R s' σ') (K2 σ0) → Texts_reshape_94 (u0 : Int) ((u0 : Int) + (r.length : Int) - 1) σ Q
  | [], p, s, σ, hs, h, hi, hq => by
    have l1 := h.len hi
    have l2 := hs.1
    rw [List.length_nil]
    exact Texts_reshape_94.i ⟨by unfold Rg; omega, fun _ => hq.1 s σ rfl h, fun h9 => absurd h9 (by omega)⟩
  | c :: r, p, s, σ, hs, h, hi, hq => by
    have l1 := h.len hi
    have l2 := hs.1
    have hrl : ((c :: r).reverse ++ p).length = r.length + 1 + p.length := by rw [List.length_append, List.length_reverse, List.length_cons]
    rw [hrl] at l2
    have e2 : (c :: r).reverse ++ p = r.reverse ++ (c :: p) := by rw [List.reverse_cons, List.append_assoc]; rfl
    have g2 : A.getD (u0 + r.length) 0 = c := by
      rw [hs.2 r.length (by omega), e2]
      have := getD_r (L := r.reverse) (M := c :: p) (n := 0)
      rw [List.length_reverse, Nat.add_zero] at this
      exact this
    have g1 : u0 + r.length < A.length := by omega
    have hc : okC c := by rw [← g2]; exact h.ok.getD g1
    rw [List.length_cons, show (u0 : Int) + ((r.length + 1 : Nat) : Int) - 1 = ((u0 + r.length : Nat) : Int) by omega]
    have hq2 : TOk Q (tBd (tPt c s) (tPs r)) (fun s' σ' => TxQ σ0 a A k R s' σ') (K2 σ0) := hq
    refine Texts_reshape_94.i ⟨by unfold Rg; omega, fun h9 => absurd h9 (by omega), fun _ => ⟨by unfold Rg; omega, ?_⟩⟩
    rw [h.rd g1, g2]
    refine Texts_put.c h hn hi hc ⟨fun s1 σ1 f1 h4 => ?_, fun e σ1 he h4 h5 => hq2.no he h4 h5⟩
    have := rs_94 hn (u0 := u0) r (c :: p) s1 σ1 (by rw [← e2]; exact hs) h4 (hi.pt hc f1) (hq2.bd f1)
    rw [show ((u0 + r.length : Nat) : Int) + -1 = (u0 : Int) + (r.length : Int) - 1 by omega]
    exact this
theorem ps_app : ∀ {L M : List Int} {s : TS}, tPs (L ++ M) s = tBd (tPs L s) (tPs M)
  | [], M, s => rfl
  | c :: r, M, s => by
    show tBd (tPt c s) (tPs (r ++ M)) = tBd (tBd (tPt c s) (tPs r)) (tPs M)
    cases tPt c s with
    | inl s1 => exact ps_app
    | inr e => rfl
theorem rs_136 (hn : inOk σ0 a) {u : Nat} {L : List Int} (hL : seA A u L) {n : Nat} (hn5 : n ≤ 50) : ∀ (m j : Nat) (s : TS) (σ : MS), j + m = n → TxQ σ0 a A k R s σ → TI 0 0 s → TOk Q (tPs (List.replicate m L).flatten s) (fun s' σ' => TxQ σ0 a A k R s' σ') (K2 σ0) → Texts_reshape_136 (u : Int) ((u + L.length : Nat) : Int) (n : Int) (j : Int) σ Q
  | 0, j, s, σ, hj, h, hi, hq => Texts_reshape_136.i ⟨by unfold Rg; omega, fun _ => hq.1 s σ rfl h, fun h9 => absurd h9 (by omega)⟩
  | m + 1, j, s, σ, hj, h, hi, hq => by
    rw [List.replicate_succ, List.flatten_cons, ps_app] at hq
    have hc : okK L := fun x hx => by
      obtain ⟨t, ht, rfl⟩ := List.getElem_of_mem hx
      have := hL.2 t ht
      rw [List.getD_eq_getElem?_getD (l := L), List.getElem?_eq_getElem ht] at this
      rw [show L[t] = A.getD (u + t) 0 from this.symm]
      exact h.ok.getD (by have := hL.1; omega)
    refine Texts_reshape_136.i ⟨by unfold Rg; omega, fun h9 => absurd h9 (by omega), fun _ => Texts_putPart.c rfl rfl hn hL h hi ⟨fun s1 σ1 f1 h4 => ?_, fun e σ1 he h4 h5 => hq.no he h4 h5⟩⟩
    exact rs_136 hn hL hn5 m (j + 1) s1 σ1 (by omega) h4 (hi.ps hc f1) (hq.bd f1)
theorem sbl_i {c : Int} : sbl c = true ↔ c % 1024 - c % 512 + c % 128 = 32 := decide_eq_true_iff
theorem nw_9 (hn : inOk σ0 a) {w : Int} (hw : -9999 ≤ w ∧ w ≤ 9999) {e9 : Nat} : ∀ (r : List Int) (i : Nat) (n : Int) (b : Bool) (s : TS) (σ : MS), seA A i r → e9 = i + r.length → -1 ≤ n ∧ n ≤ i → TxQ σ0 a A k R s σ → TI 0 0 s → TOk Q (tPs (nwD w n b r) s) (fun s' σ' => TxQ σ0 a A k R s' σ') (K2 σ0) → Texts_putNthWord_9 w (e9 : Int) n (bZ b) (i : Int) σ Q
  | [], i, n, b, s, σ, hs, he, hnn, h, hi, hq => by
    have l1 := h.len hi
    have l2 := hs.1
    rw [List.length_nil] at l2 he
    exact Texts_putNthWord_9.i ⟨by unfold Rg; omega, by unfold Rg; omega, fun _ => hq.1 s σ rfl h, fun h9 => absurd h9 (by omega)⟩
  | c :: r, i, n, b, s, σ, hs, he, hnn, h, hi, hq => by
    have l1 := h.len hi
    have l2 := hs.1
    obtain ⟨g1, g2⟩ := hs.hd
    rw [List.length_cons] at l2 he
    have hc : okC c := by rw [← g2]; exact h.ok.getD g1
    have e1 : rgt (mX σ 89) (i : Int) = c := by rw [h.rd g1, g2]
    have nx : ∀ (n' : Int) (b' : Bool) (s1 : TS) (σ1 : MS), -1 ≤ n' ∧ n' ≤ (i : Int) + 1 → TxQ σ0 a A k R s1 σ1 → TI 0 0 s1 → TOk Q (tPs (nwD w n' b' r) s1) (fun s' σ' => TxQ σ0 a A k R s' σ') (K2 σ0) → Texts_putNthWord_89 w (e9 : Int) n' (bZ b') (i : Int) σ1 Q := fun n' b' s1 σ1 hb h4 hi4 hq4 => Texts_putNthWord_89.i (nw_9 hn hw r (i + 1) n' b' s1 σ1 hs.tl (by omega) (by omega) h4 hi4 hq4)
    have one : ∀ n' : Int, -1 ≤ n' ∧ n' ≤ (i : Int) + 1 → TOk Q (tPs (if n' = w then c :: nwD w n' true r else nwD w n' true r) s) (fun s' σ' => TxQ σ0 a A k R s' σ') (K2 σ0) → Texts_putNthWord_53 w (e9 : Int) n' (i : Int) 0 σ Q := by
      intro n' hb hq4
      refine Texts_putNthWord_53.i ⟨fun h9 => absurd rfl h9, fun _ => Texts_putNthWord_63.i ⟨fun h9 => absurd h9 (by decide), fun _ => ⟨by unfold Rg; omega, by unfold Rg; omega, fun d => ?_, fun d => ⟨by unfold Rg; omega, ?_⟩⟩⟩⟩
      · rw [if_neg d] at hq4
        exact nx n' true s σ hb h hi hq4
      · rw [if_pos d] at hq4
        have hq5 : TOk Q (tBd (tPt c s) (tPs (nwD w n' true r))) (fun s' σ' => TxQ σ0 a A k R s' σ') (K2 σ0) := hq4
        rw [e1]
        exact Texts_put.c h hn hi hc ⟨fun s1 σ1 f1 h4 => nx n' true s1 σ1 hb h4 (hi.pt hc f1) (hq5.bd f1), fun e σ1 he h4 h5 => hq5.no he h4 h5⟩
    unfold nwD at hq
    refine Texts_putNthWord_9.i ⟨by unfold Rg; omega, by unfold Rg; omega, fun h9 => absurd h9 (by omega), fun _ => ⟨by unfold Rg; omega, ?_⟩⟩
    rw [e1]
    refine ⟨fun d => ?_, fun d => ?_⟩
    · rw [if_neg (fun h9 => d (sbl_i.mp h9))] at hq
      refine Texts_putNthWord_38.i ⟨fun h9 => absurd rfl h9, fun _ => ⟨fun hb => ?_, fun hb => ?_⟩⟩
      · rw [if_pos (bZ_ne hb)] at hq
        exact one n (by omega) hq
      · rw [bZ_z hb, if_neg (by decide)] at hq
        exact one (n + 1) (by omega) hq
    · rw [if_pos (sbl_i.mpr d)] at hq
      exact Texts_putNthWord_38.i ⟨fun _ => Texts_putNthWord_53.i ⟨fun _ => Texts_putNthWord_63.i ⟨fun _ => nx n false s σ (by omega) h hi hq, fun h9 => absurd rfl h9⟩, fun h9 => absurd h9 (by decide)⟩, fun h9 => absurd h9 (by decide)⟩
end
