/-! THE REFERENCE WORKS TEXTS: numbers and keys -/
section
variable {σ σ0 σ1 σ2 : MS} {Q : MQ9} {g kt u D : Nat} {s s1 s2 : TS} {A L : List Int} {x y : Int}
theorem isN_144 {l m w : Int} {b : Bool} (hl : -9999 ≤ l ∧ l ≤ 9999) (hm : -9999 ≤ m ∧ m ≤ 9999) (hw : -2000000 ≤ w ∧ w ≤ 2000000) (h : RxW σ s) (h1 : b = true → l ≤ w → w ≤ m → Q (.inl (some 1)) (wU σ w)) (h0 : ¬ (b = true ∧ l ≤ w ∧ w ≤ m) → Q (.inl (some 0)) (wV (wU σ w) 246 28 5)) : R_isNumber_144 l m (bZ b) w σ Q := by
  have hw' : RxW (wU σ w) s := h
  have no : ¬ (b = true ∧ l ≤ w ∧ w ≤ m) → R_isNumber_176 (wU σ w) Q := fun hh => R_isNumber_176.i (R_isNumber_177.i ⟨fun c => absurd rfl c, fun _ => R_fail.r (by decide) hw' (b01.i (Or.inl rfl) (h0 hh))⟩)
  refine R_isNumber_144.i ⟨by unfold Rl; omega, fun e => no (fun hh => by rw [bZ_z e] at hh; exact absurd hh.1 (by decide)), fun e => ⟨by unfold Rg; omega, by unfold Rl; omega, by unfold Rl; omega, fun c => no (fun hh => by have := lcm_lt.mp c; omega), fun c => ⟨by unfold Rg; omega, by unfold Rl; omega, by unfold Rl; omega, fun d => no (fun hh => by have := lcm_gt.mp d; omega), fun d => ?_⟩⟩⟩
  exact R_isNumber_177.i ⟨fun _ => b01.i (Or.inr rfl) (h1 (bZ_ne e) (lcm_ge.mp c) (lcm_le.mp d)), fun c => absurd c (by decide)⟩
theorem isN_128 {l m v : Int} {b mi : Bool} (hl : -9999 ≤ l ∧ l ≤ 9999) (hm : -9999 ≤ m ∧ m ≤ 9999) (hv : -2000000 ≤ v ∧ v ≤ 2000000) (h : RxW σ s) (h1 : b = true → l ≤ (if mi = true then -v else v) → (if mi = true then -v else v) ≤ m → Q (.inl (some 1)) (wU σ (if mi = true then -v else v))) (h0 : ¬ (b = true ∧ l ≤ (if mi = true then -v else v) ∧ (if mi = true then -v else v) ≤ m) → ∀ w, Q (.inl (some 0)) (wV (wU σ w) 246 28 5)) : R_isNumber_128 l m (bZ mi) v (bZ b) σ Q := by
  refine R_isNumber_128.i ⟨fun e => ⟨by unfold Rg; omega, ?_⟩, fun e => ⟨by unfold Rg; omega, ?_⟩⟩
  · have e1 : (if mi = true then -v else v) = v := by rw [bZ_z e, if_neg (by decide)]
    rw [e1] at h1 h0
    exact isN_144 hl hm (by omega) h h1 (fun hh => h0 hh _)
  · have e1 : (if mi = true then -v else v) = -v := by rw [bZ_ne e, if_pos rfl]
    rw [e1] at h1 h0
    exact isN_144 hl hm (by omega) h h1 (fun hh => h0 hh _)
theorem isN_78 {l m : Int} {mi : Bool} {j : Nat} (hj : j < 400) (hl : -9999 ≤ l ∧ l ≤ 9999) (hm : -9999 ≤ m ∧ m ≤ 9999) (h : RxW σ s) : ∀ (r : List Int) (i : Nat) (v : Int), hoG σ 257 258 i r → okK r → i + r.length ≤ 70000 → mV σ 262 j = ((i + r.length : Nat) : Int) → r.length ≤ 4 → 0 ≤ v ∧ v ≤ bdN r.length → (r.all (fun x => sDi (x % 128)) = true → l ≤ (if mi = true then -(nuV r v) else nuV r v) → (if mi = true then -(nuV r v) else nuV r v) ≤ m → Q (.inl (some 1)) (wU σ (if mi = true then -(nuV r v) else nuV r v))) → (¬ (r.all (fun x => sDi (x % 128)) = true ∧ l ≤ (if mi = true then -(nuV r v) else nuV r v) ∧ (if mi = true then -(nuV r v) else nuV r v) ≤ m) → ∀ w, Q (.inl (some 0)) (wV (wU σ w) 246 28 5)) → R_isNumber_78 (j : Int) l m (i : Int) (bZ mi) v 1 σ Q
  | [], i, v, hA, hok, hk, h2, hl4, hv, h1, h0 => by
    have b9 := bdN_b (n := ([] : List Int).length)
    rw [List.length_nil] at h2 hk hv b9
    refine R_isNumber_78.i ⟨fun e => absurd e (by decide), fun _ => ⟨by omega, by omega, by unfold Rg; omega, fun _ => ?_, fun a => absurd a (by rw [Int.toNat_natCast, h2]; omega)⟩⟩
    exact isN_128 (b := true) hl hm (by omega) h (fun _ => h1 rfl) (fun hh => h0 (fun h9 => hh h9))
  | x :: r, i, v, hA, hok, hk, h2, hl4, hv, h1, h0 => by
    have hi : 0 < (x :: r).length := by rw [List.length_cons]; omega
    have rr := rdG_n (c := x)
    have rr2 := rdG_r (c := x)
    have okx := hok x List.mem_cons_self
    have b9 := bdN_b (n := (x :: r).length)
    rw [List.length_cons] at hl4
    refine R_isNumber_78.i ⟨fun e => absurd e (by decide), fun _ => ⟨by omega, by omega, by unfold Rg; omega, fun a => absurd a (by rw [Int.toNat_natCast, h2]; omega), fun _ => ?_⟩⟩
    refine R_arg.r (i := 0) hA hi hk (by omega) ?_
    refine R_isDigit.s rr2 (R_arg.r (i := 0) hA hi hk (by omega) ?_)
    show R_isNumber_78 (j : Int) l m ((i : Int) + 1) (bZ mi) (10 * v + rdG x - 48) (bZ (sDi (rdG x))) σ Q
    have eV : nuV (x :: r) v = nuV r (v * 10 + x % 128 - 48) := rfl
    rw [eV, List.all_cons] at h1 h0
    cases hd : sDi (rdG x) with
    | true =>
      have hd2 := sDi_rd2 hd
      have hd3 := hd
      rw [sDi_rd okx] at hd3
      have hd4 := sDi_i.mp hd3
      rw [hd3, Bool.true_and] at h1 h0
      rw [hd2, show 10 * v + x % 128 - 48 = v * 10 + x % 128 - 48 by omega, show (i : Int) + 1 = ((i + 1 : Nat) : Int) by omega]
      rw [List.length_cons] at hv hk h2
      exact isN_78 hj hl hm h r (i + 1) _ (fun t ht => by
        have := hA (t + 1) (by rw [List.length_cons]; omega)
        rw [show i + 1 + t = i + (t + 1) by omega]
        exact this) (fun c hc => hok c (List.mem_cons_of_mem _ hc)) (by omega) (by rw [h2, show i + (r.length + 1) = i + 1 + r.length by omega]) (by omega) ⟨by omega, by
        have := bdN_s (n := r.length) (by omega) (v := v) (d := x % 128 - 48) hv.2 (by omega)
        omega⟩ h1 h0
    | false =>
      have hd3 := hd
      rw [sDi_rd okx] at hd3
      rw [hd3, Bool.false_and] at h1 h0
      have hz : bZ false = 0 := rfl
      rw [hz]
      refine R_isNumber_78.i ⟨fun _ => ?_, fun e => absurd rfl e⟩
      exact isN_128 (b := false) hl hm (by omega) h (fun e => absurd e (by decide)) (fun hh => h0 (fun h9 => absurd h9.1 (by decide)))
theorem hoG.dr {σ : MS} {zg zy a : Nat} (h : hoG σ zg zy a A) (n : Nat) : hoG σ zg zy (a + n) (A.drop n) := fun i hi => by
  rw [List.length_drop] at hi
  have := h (n + i) (by omega)
  rw [show a + n + i = a + (n + i) by omega, List.getD_eq_getElem?_getD, List.getElem?_drop, ← List.getD_eq_getElem?_getD]
  exact this
theorem okK.dr (h : okK A) (n : Nat) : okK (A.drop n) := fun c hc => h c (List.mem_of_mem_drop hc)
theorem R_isNumber.r {l m : Int} {j : Nat} (hj : j < 400) (hA : ArG σ j kt A) (hkt : kt ≤ 60100) (hok : okK A) (hl : -9999 ≤ l ∧ l ≤ 9999) (hm : -9999 ≤ m ∧ m ≤ 9999) (h : RxW σ s) (h1 : nuOk A l m = true → Q (.inl (some 1)) (wU σ (nuX A))) (h0 : nuOk A l m = false → ∀ v, Q (.inl (some 0)) (wV (wU σ v) 246 28 5)) : R_isNumber (j : Int) l m σ Q := by
  obtain ⟨u, e1, e2, e3, hG⟩ := hA
  have key : ∀ (mi : Bool) (n : Nat), n ≤ A.length → nuM A = mi → nuR A = A.drop n → R_isNumber_45 (j : Int) l m ((u + n : Nat) : Int) (bZ mi) σ Q := by
    intro mi n hn hmi hr
    have hlen : (A.drop n).length = A.length - n := List.length_drop
    have ej : mV σ 262 (j : Int).toNat = ((u + A.length : Nat) : Int) := by rw [Int.toNat_natCast]; exact e2
    have bad : ¬ (1 ≤ (A.drop n).length ∧ (A.drop n).length ≤ 4) → R_isNumber_75 (j : Int) l m ((u + n : Nat) : Int) (bZ mi) 0 σ Q := by
      intro hb
      have hz : bZ false = 0 := rfl
      refine R_isNumber_75.i (R_isNumber_76.i (R_isNumber_78.i ⟨fun _ => ?_, fun e => absurd rfl e⟩))
      have := isN_128 (σ := σ) (Q := Q) (s := s) (l := l) (m := m) (v := 0) (b := false) (mi := mi) hl hm (by decide) h (fun e => absurd e (by decide)) (fun _ => h0 (by
        unfold nuOk nuG
        rw [hr, decide_eq_false hb, Bool.false_and, Bool.false_and]))
      exact this
    refine R_isNumber_45.i ⟨by omega, by omega, ?_⟩
    rw [ej]
    refine ⟨by unfold Rg; omega, fun a => bad (by omega), fun a => ⟨by unfold Rg; omega, fun b => bad (by omega), fun b => R_isNumber_76.i ?_⟩⟩
    have eX : nuX A = (if mi = true then -(nuV (A.drop n) 0) else nuV (A.drop n) 0) := by
      unfold nuX
      rw [hmi, hr]
    have eO : nuOk A l m = ((A.drop n).all (fun x => sDi (x % 128)) && decide (l ≤ nuX A ∧ nuX A ≤ m)) := by
      unfold nuOk nuG
      rw [hr, decide_eq_true (show 1 ≤ (A.drop n).length ∧ (A.drop n).length ≤ 4 by omega), Bool.true_and]
    refine isN_78 (mi := mi) hj hl hm h (A.drop n) (u + n) 0 (hG.dr n) (hok.dr n) (by omega) (by rw [e2]; congr 1; omega) (by omega) ⟨Int.le_refl _, bdN_b.1⟩ (fun a1 a2 a3 => ?_) (fun hh => ?_)
    · rw [← eX] at a2 a3 ⊢
      exact h1 (by rw [eO, a1, decide_eq_true ⟨a2, a3⟩]; rfl)
    · rw [← eX] at hh
      refine h0 ?_
      rw [eO]
      cases hall : (A.drop n).all (fun x => sDi (x % 128)) with
      | false => rfl
      | true =>
        rw [Bool.true_and]
        exact decide_eq_false (fun h9 => hh ⟨hall, h9⟩)
  have ej1 : mV σ 261 (j : Int).toNat = (u : Int) := by rw [Int.toNat_natCast]; exact e1
  have ej2 : mV σ 262 (j : Int).toNat = ((u + A.length : Nat) : Int) := by rw [Int.toNat_natCast]; exact e2
  have plain : nuM A = false → R_isNumber_34 (j : Int) l m (u : Int) σ Q := by
    intro hh
    refine R_isNumber_34.i (R_isNumber_35.i ⟨fun _ => ?_, fun e => absurd rfl e⟩)
    exact key false 0 (by omega) hh (by unfold nuR; rw [hh, if_neg (by decide), List.drop_zero])
  refine R_isNumber.i ⟨by omega, by omega, by omega, by omega, ?_⟩
  rw [ej1, ej2]
  have hM : nuM A = decide (0 < A.length ∧ A.getD 0 0 % 128 = 45) := rfl
  refine ⟨fun a => plain (by rw [hM]; exact decide_eq_false (by omega)), fun a => R_arg.r (i := 0) hG (by omega) (by omega) (by omega) ⟨fun b => plain ?_, fun b => ?_⟩⟩
  · rw [hM]
    refine decide_eq_false (fun hh => b ?_)
    unfold rdG
    rw [if_neg (fun h5 => by have := (hok.gd (i := 0) (by omega)).2.2 h5; omega)]
    exact hh.2
  · have hm1 : nuM A = true := by
      rw [hM]
      refine decide_eq_true ⟨by omega, ?_⟩
      unfold rdG at b
      split at b
      · omega
      · exact b
    refine R_isNumber_35.i ⟨fun e => absurd e (by decide), fun _ => ?_⟩
    rw [show (u : Int) + 1 = ((u + 1 : Nat) : Int) by omega]
    exact key true 1 (by omega) hm1 (by unfold nuR; rw [hm1, if_pos rfl])
theorem sWo_e {x : Int} : sWo x = (sLe x || sDi x) := rfl
theorem R_isKey.r {j : Nat} (hj : j < 400) (hA : ArG σ j kt A) (hkt : kt ≤ 60100) (hok : okK A) (h : RxW σ s) (h1 : keyD A = true → Q (.inl (some 1)) σ) (h0 : keyD A = false → Q (.inl (some 0)) (wV σ 246 28 5)) : R_isKey (j : Int) σ Q := by
  obtain ⟨u, e1, e2, e3, hG⟩ := hA
  have ej1 : mV σ 261 (j : Int).toNat = (u : Int) := by rw [Int.toNat_natCast]; exact e1
  have ej2 : mV σ 262 (j : Int).toNat = ((u + A.length : Nat) : Int) := by rw [Int.toNat_natCast]; exact e2
  have no : keyD A = false → R_isKey_90 0 σ Q := fun hh => R_isKey_90.i ⟨fun e => absurd rfl e, fun _ => R_fail.r (by decide) h (b01.i (Or.inl rfl) (h0 hh))⟩
  have no39 : keyD A = false → ∀ i : Nat, i ≤ A.length → R_isKey_39 (j : Int) 0 ((u + i : Nat) : Int) σ Q := fun hh i hi => R_isKey_39.i ⟨by omega, by omega, by unfold Rg; omega, fun _ => no hh, fun _ => ⟨fun _ => no hh, fun e => absurd rfl e⟩⟩
  have bad : ¬ (1 ≤ A.length ∧ A.length ≤ 12) → R_isKey_29 (j : Int) σ Q := by
    intro hb
    refine R_isKey_29.i (R_isKey_30.i ⟨by omega, by omega, ?_⟩)
    rw [ej1]
    exact no39 (by unfold keyD; rw [decide_eq_false hb, Bool.false_and]) 0 (by omega)
  refine R_isKey.i ⟨by omega, by omega, by omega, by omega, ?_⟩
  rw [ej1, ej2]
  refine ⟨by unfold Rg; omega, fun a => bad (by omega), fun a => ⟨by unfold Rg; omega, fun b => bad (by omega), fun b => R_isKey_30.i ⟨by omega, by omega, ?_⟩⟩⟩
  rw [ej1]
  have hK : keyD A = A.all (fun x => sWo (x % 128)) := by
    unfold keyD
    rw [decide_eq_true (show 1 ≤ A.length ∧ A.length ≤ 12 by omega), Bool.true_and]
  have key : ∀ (n i : Nat), i + n = A.length → keyD A = (A.drop i).all (fun x => sWo (x % 128)) → R_isKey_39 (j : Int) 1 ((u + i : Nat) : Int) σ Q := by
    intro n
    induction n with
    | zero =>
      intro i hi hk
      have e : i = A.length := by omega
      subst e
      rw [List.drop_length] at hk
      refine R_isKey_39.i ⟨by omega, by omega, by unfold Rg; omega, fun _ => R_isKey_90.i ⟨fun _ => b01.i (Or.inr rfl) (h1 hk), fun e => absurd e (by decide)⟩, fun a => absurd a (by rw [ej2]; omega)⟩
    | succ n ih =>
      intro i hi hk
      have hi2 : i < A.length := by omega
      have rr := rdG_r (c := A.getD i 0)
      have okx := hok.gd hi2
      rw [drop_c hi2, List.all_cons] at hk
      have f78 : sWo (A.getD i 0 % 128) = true → R_isKey_78 (j : Int) ((u + i : Nat) : Int) σ Q := by
        intro hw
        refine R_isKey_78.i (R_isKey_83.i ?_)
        rw [show ((u + i : Nat) : Int) + 1 = ((u + (i + 1) : Nat) : Int) by omega]
        exact ih (i + 1) (by omega) (by rw [hk, hw, Bool.true_and])
      refine R_isKey_39.i ⟨by omega, by omega, by unfold Rg; omega, fun a => absurd a (by rw [ej2]; omega), fun _ => ⟨fun e => absurd e (by decide), fun _ => ?_⟩⟩
      refine R_arg.r hG hi2 (by omega) rfl (R_isLetter.s rr ⟨fun a => f78 ?_, fun a => R_arg.r hG hi2 (by omega) rfl (R_isDigit.s rr ⟨fun b => R_isKey_83.i ?_, fun b => f78 ?_⟩)⟩)
      · have := bZ_ne a
        rw [sLe_rd okx] at this
        rw [sWo_e, this, Bool.true_or]
      · rw [show ((u + i : Nat) : Int) + 1 = ((u + (i + 1) : Nat) : Int) by omega]
        refine no39 ?_ (i + 1) (by omega)
        have a1 := bZ_z a
        have b1 := bZ_z b
        rw [sLe_rd okx] at a1
        rw [sDi_rd okx] at b1
        rw [hk, sWo_e, a1, b1]
        rfl
      · have := bZ_ne b
        rw [sDi_rd okx] at this
        rw [sWo_e, this, Bool.or_true]
  exact key A.length 0 (by omega) (by rw [List.drop_zero]; exact hK)
end
