/-! TEXTS, THE CLASS: calls -/
def TOkI (Q : MQ9) (r : TR) (v : Int) (Rel : TS → MS → Prop) (Fl : MS → Prop) : Prop := (∀ s' σ', r = .inl s' → Rel s' σ' → Q (.inl (some v)) σ') ∧ (∀ e σ', r = .inr e → TxF σ' e → Fl σ' → Q (.inr (exN 0)) σ')
/-- all that must hold ahead of a text at depth d -/
def CxC (σ : MS) (E : TE) (a : Bool) (f : List (List Int)) (fr : Int) (A : List Int) (k : Nat) (R : List Int × Bool) (S H : List Int) (z z' : Nat) (n : Int) (s : TS) (d : Int) : Prop := TxC σ E a f fr A k R S H z z' n s ∧ okM9 f ∧ f.length ≤ 9 ∧ (∀ i : Nat, i < f.length → arA H A (fr + 2 * (i : Int)) (f.getD i [])) ∧ (0 ≤ fr ∧ fr ≤ 700) ∧ (S.length : Int) ≤ 18 * d ∧ (H.length : Int) ≤ 18 * d ∧ (0 ≤ n ∧ n ≤ d + 1)
def SubC (E : TE) (sub : Sub9) (dep : Int) (Dm : Nat) : Prop := ∀ (Dd q x0 : Nat) (T : List Int) (a : Bool) (f : List (List Int)) (fr : Int) (A : List Int) (k : Nat) (R : List Int × Bool) (S H : List Int) (z z' : Nat) (n : Int) (s : TS) (σ : MS) (Q : MQ9), Dm ≤ Dd → SgT σ q x0 T → smB T → CxC σ E a f fr A k R S H z z' n s (dep + 1) → TI 0 0 s → TOk Q (sub a f T s) (fun s' σ' => TxD σ E a f fr A k R S H z z' n s' σ') (FrT σ) → Texts_inside Dd q (x0 : Int) ((x0 + T.length : Nat) : Int) dep σ Q
/-- held, as the class writes it -/
def hdL : Nat → List (List Int) → List Int
  | _, [] => []
  | b, w :: ws => (b : Int) :: ((b + w.length : Nat) : Int) :: hdL (b + w.length) ws
theorem hdL_len : ∀ {W : List (List Int)} {b : Nat}, (hdL b W).length = 2 * W.length
  | [], _ => rfl
  | w :: W, b => by
    show (hdL (b + w.length) W).length + 1 + 1 = 2 * (W.length + 1)
    rw [hdL_len]
    omega
theorem hdL_sn : ∀ {W : List (List Int)} {w : List Int} {b : Nat}, hdL b (W ++ [w]) = hdL b W ++ [((b + suM W : Nat) : Int), ((b + suM W + w.length : Nat) : Int)]
  | [], w, b => rfl
  | v :: W, w, b => by
    show _ :: _ :: hdL (b + v.length) (W ++ [w]) = _ :: _ :: (hdL (b + v.length) W ++ _)
    rw [hdL_sn, show b + suM (v :: W) = b + v.length + suM W by show b + (v.length + suM W) = _; omega]
theorem hdL_at : ∀ {W : List (List Int)} {b i : Nat}, i < W.length → (hdL b W).getD (2 * i) 0 = ((b + suM (W.take i) : Nat) : Int) ∧ (hdL b W).getD (2 * i + 1) 0 = ((b + suM (W.take i) + (W.getD i []).length : Nat) : Int)
  | [], b, i, h => absurd h (Nat.not_lt_zero i)
  | w :: W, b, 0, h => ⟨rfl, rfl⟩
  | w :: W, b, i + 1, h => by
    obtain ⟨a, c⟩ := hdL_at (W := W) (b := b + w.length) (i := i) (by rw [List.length_cons] at h; omega)
    constructor
    · show (hdL (b + w.length) W).getD (2 * i) 0 = ((b + (w.length + suM (W.take i)) : Nat) : Int)
      rw [a]
      congr 1
      omega
    · show (hdL (b + w.length) W).getD (2 * i + 1) 0 = ((b + (w.length + suM (W.take i)) + (W.getD i []).length : Nat) : Int)
      rw [c]
      congr 1
      omega
theorem rgt_ap {L M : List Int} {i : Nat} (h : i < M.length) : rgt (L ++ M) ((L.length : Int) + (i : Int)) = M.getD i 0 := by
  rw [rgt_a (i := L.length + i) (by omega) (by rw [List.length_append]; omega), getD_r]
/-- arguments lie where held tells -/
theorem args_at {H Ar : List Int} {W : List (List Int)} {i : Nat} (h : i < W.length) : arA (H ++ hdL Ar.length W) (Ar ++ W.flatten) ((H.length : Int) + 2 * (i : Int)) (W.getD i []) := by
  obtain ⟨a, c⟩ := hdL_at (W := W) (b := Ar.length) h
  have hl := hdL_len (W := W) (b := Ar.length)
  have e1 : rgt (H ++ hdL Ar.length W) ((H.length : Int) + 2 * (i : Int)) = ((Ar.length + suM (W.take i) : Nat) : Int) := by
    have := rgt_ap (L := H) (M := hdL Ar.length W) (i := 2 * i) (by omega)
    rw [a, show ((2 * i : Nat) : Int) = 2 * (i : Int) by omega] at this
    exact this
  have e2 : rgt (H ++ hdL Ar.length W) ((H.length : Int) + 2 * (i : Int) + 1) = ((Ar.length + suM (W.take i) + (W.getD i []).length : Nat) : Int) := by
    have := rgt_ap (L := H) (M := hdL Ar.length W) (i := 2 * i + 1) (by omega)
    rw [c, show (H.length : Int) + ((2 * i + 1 : Nat) : Int) = (H.length : Int) + 2 * (i : Int) + 1 by omega] at this
    exact this
  obtain ⟨-, -, q3⟩ := sh_at (L := W) h
  refine ⟨Ar.length + suM (W.take i), e1, e2, ?_, fun t ht => ?_⟩
  · rw [List.length_append, flat_len]; omega
  · rw [Nat.add_assoc, getD_r, fl_at h ht]
theorem seA.ext {A B L : List Int} {u : Nat} (h : seA A u L) : seA (A ++ B) u L := ⟨by have := h.1; rw [List.length_append]; omega, fun t ht => by rw [getD_l (by have := h.1; omega)]; exact h.2 t ht⟩
theorem arA.ext {H H' A B L : List Int} {x : Int} (h : arA H A x L) (hx : 0 ≤ x ∧ x + 1 < H.length) : arA (H ++ H') (A ++ B) x L := by
  obtain ⟨u, u1, u2, u3⟩ := h
  have r : ∀ y : Int, 0 ≤ y → y < H.length → rgt (H ++ H') y = rgt H y := fun y h1 h2 => by
    rw [rgt_a (i := y.toNat) (by omega) (by rw [List.length_append]; omega), rgt_a (L := H) (i := y.toNat) (by omega) (by omega), getD_l (by omega)]
  exact ⟨u, by rw [r _ hx.1 (by omega)]; exact u1, by rw [r _ (by omega) hx.2]; exact u2, u3.ext⟩
theorem arA.in {H A L : List Int} {x : Int} (h : arA H A x L) (hx : 0 ≤ x) : x + 1 < H.length := by
  obtain ⟨u, u1, u2, u3⟩ := h
  by_cases hc : x + 1 < H.length
  · exact hc
  · rw [rgt_o (Or.inr (by omega))] at u2
    omega
theorem spL_at {x0 : Nat} : ∀ {r : List (Nat × Nat)} {i : Nat}, i < r.length → (spL x0 r).getD (2 * i) 0 = ((x0 + (r.getD i (0, 0)).1 : Nat) : Int) ∧ (spL x0 r).getD (2 * i + 1) 0 = ((x0 + (r.getD i (0, 0)).2 : Nat) : Int)
  | [], i, h => absurd h (Nat.not_lt_zero i)
  | q :: r, 0, h => ⟨rfl, rfl⟩
  | q :: r, i + 1, h => by
    have := spL_at (x0 := x0) (r := r) (i := i) (by rw [List.length_cons] at h; omega)
    exact this
theorem sp_at {x0 : Nat} {S : List Int} {r : List (Nat × Nat)} {i : Nat} (h : i < r.length) {y : Int} (hy : y = (S.length : Int) + 2 * (i : Int)) : rgt (S ++ spL x0 r) y = ((x0 + (r.getD i (0, 0)).1 : Nat) : Int) ∧ rgt (S ++ spL x0 r) (y + 1) = ((x0 + (r.getD i (0, 0)).2 : Nat) : Int) := by
  obtain ⟨a, c⟩ := spL_at (x0 := x0) h
  have hl := spL_len (x0 := x0) (r := r)
  subst hy
  constructor
  · have := rgt_ap (L := S) (M := spL x0 r) (i := 2 * i) (by omega)
    rw [a, show ((2 * i : Nat) : Int) = 2 * (i : Int) by omega] at this
    exact this
  · have := rgt_ap (L := S) (M := spL x0 r) (i := 2 * i + 1) (by omega)
    rw [c, show (S.length : Int) + ((2 * i + 1 : Nat) : Int) = (S.length : Int) + 2 * (i : Int) + 1 by omega] at this
    exact this
section
variable {σ0 σ σ' : MS} {Q : MQ9} {E : TE} {a : Bool} {f : List (List Int)} {fr : Int} {A : List Int} {k : Nat} {R : List Int × Bool} {S H : List Int} {z z' : Nat} {n : Int} {s s' : TS} {q x0 : Nat} {T : List Int}
/-- work is spent -/
theorem TxC.sp {m : Int} (h : TxC σ E a f fr A k R S H z z' n s) (hm : 0 ≤ m) (e : tSp m s = .inl s') : TxC (wV (wV σ 22 0 (s.1.1 + m)) 22 1 (s.1.2.1 + m)) E a f fr A k R S H z z' n s' := by
  obtain ⟨e1, -, -⟩ := sp_i e
  subst e1
  obtain ⟨⟨w1, w2, w3⟩, ⟨⟨r1, r2, r3⟩, g1, g2, g3, g4⟩, hk, hn⟩ := h
  have k2 : K2 σ (wV (wV σ 22 0 (s.1.1 + m)) 22 1 (s.1.2.1 + m)) := (K2.w22 (Or.inl (by decide))).tr (K2.w22 (Or.inr (by rw [wV_ne (Or.inr (by decide))]; omega)))
  have hk2 := hk.k2 k2
  refine ⟨⟨?_, ?_, ?_⟩, ⟨⟨r1, ?_, r3⟩, ?_, g2, g3, g4⟩, hk2, ⟨fun y => by rw [k2.2.2.1 86 15 (by decide) (by decide)]; exact hn.1 y, fun y => by rw [k2.2.2.1 86 15 (by decide) (by decide)]; exact hn.2 y⟩⟩
  · exact (wV_ne (Or.inr (by decide))).trans wV_self
  · exact wV_self
  · rw [wV_ne (Or.inl (by decide)), wV_ne (Or.inl (by decide))]; exact w3
  · rw [wV_ne (Or.inl (by decide)), wV_ne (Or.inl (by decide))]; exact r2
  · show ((mX σ 89).length : Int) ≤ s.1.1 + m
    omega
/-- the arena as it stands becomes the ground -/
theorem TxC.rb (h : TxC σ E a f fr A k R S H z z' n s) : TxC σ E a f fr (mX σ 89) s.2.1.length R S H z z' n s := by
  obtain ⟨w, ⟨⟨r1, r2, r3⟩, g1, g2, g3, g4⟩, hk, hn⟩ := h
  exact ⟨w, ⟨⟨r1, r2, r3⟩, g1, g2, fun _ => ⟨by rw [List.drop_length, List.append_nil], Nat.le_refl _⟩, fun y => ⟨(g4 y).1, rfl⟩⟩, hk, hn⟩
theorem KM.v86 {i : Nat} {x : Int} (hz : z = 49 ∨ z = 163) (h : KM σ z E s) : KM (wV σ 86 i x) z E s := h.cg hz (fun _ _ => rfl) (wV_ne (by omega)) (wV_ne (by omega))
theorem KB.v86 {i : Nat} {x : Int} (hz : z = 49 ∨ z = 163) (h : KB σ z E) : KB (wV σ 86 i x) z E := h.cg hz (fun _ _ _ => rfl) (wV_ne (by omega)) (wV_ne (by omega))
/-- an argument begins -/
theorem TxC.arg (h : TxC σ E a f fr A k R S H z z' n s) (hk : A = mX σ 89) (hn : 0 ≤ n) : TxC (wV σ 86 15 (n + 1)) E true f fr A 0 R S H z z' (n + 1) (sOu s []) := by
  obtain ⟨⟨w1, w2, w3⟩, ⟨⟨r1, r2, r3⟩, g1, g2, g3, g4⟩, ⟨⟨a1, a2, a3, a4, a5, a6⟩, b, c, d, e, g⟩, hn9⟩ := h
  have hz := b.2.2.1
  have hz' := b.2.2.2.1
  refine ⟨⟨by rw [wV_ne (Or.inl (by decide))]; exact w1, by rw [wV_ne (Or.inl (by decide))]; exact w2, by rw [wV_ne (Or.inr (by decide))]; exact w3⟩, ⟨⟨r1, by rw [wV_ne (Or.inr (by decide))]; exact r2, r3⟩, g1, g2, fun _ => ⟨by rw [hk]; exact (List.append_nil _).symm, Nat.zero_le _⟩, fun h9 => Bool.noConfusion h9⟩, ⟨⟨wV_self, by rw [wV_ne (Or.inr (by decide))]; exact a2, by rw [wV_ne (Or.inr (by decide))]; exact a3, by rw [wV_ne (Or.inr (by decide))]; exact a4, a5, a6⟩, b, c, d.v86 hz, e.v86 hz', g⟩, ⟨fun _ => by rw [wV_self]; omega, fun h9 => Bool.noConfusion h9⟩⟩
/-- an argument ends -/
theorem TxC.ret {s1 : TS} {L : List Int} {R1 : List Int × Bool} (h : TxC σ E true f fr A 0 R1 S H z z' (n + 1) s1) (hR : R1 = R) (hRa : a = false → R = pkS L) (hno : (a = true → 0 < n) ∧ (a = false → n = 0)) : TxC (wX (wX (wV σ 86 15 ((mV σ 86 15) - 1)) 93 (H ++ [(A.length : Int)])) 93 (H ++ [(A.length : Int)] ++ [((mX σ 89).length : Int)])) E a f fr (A ++ s1.2.1) L.length R S (H ++ [(A.length : Int), ((A.length + s1.2.1.length : Nat) : Int)]) z z' n (sOu s1 L) := by
  subst hR
  obtain ⟨⟨w1, w2, w3⟩, ⟨⟨r1, r2, r3⟩, g1, g2, g3, g4⟩, ⟨⟨a1, a2, a3, a4, a5, a6⟩, b, c, d, e, g⟩, hn9⟩ := h
  have hz := b.2.2.1
  have hz' := b.2.2.2.1
  have e89 : mX σ 89 = A ++ s1.2.1 := (g3 rfl).1
  have m15 : mV σ 86 15 - 1 = n := by rw [a1]; omega
  rw [m15, wX_wX]
  have eH : H ++ [(A.length : Int)] ++ [((mX σ 89).length : Int)] = H ++ [(A.length : Int), ((A.length + s1.2.1.length : Nat) : Int)] := by
    rw [e89, List.length_append, List.append_assoc]
    rfl
  rw [eH]
  generalize eσ : wX (wV σ 86 15 n) 93 (H ++ [(A.length : Int), ((A.length + s1.2.1.length : Nat) : Int)]) = σ2
  have o : ∀ x, x ≠ 93 → mX σ2 x = mX σ x := fun x hx => by rw [← eσ]; exact wX_ne hx
  have v : ∀ y i, y ≠ 86 ∨ i ≠ 15 → mV σ2 y i = mV σ y i := fun y i hy => by rw [← eσ]; exact wV_ne hy
  have v15 : mV σ2 86 15 = n := by rw [← eσ]; exact wV_self
  have B2 : σ2.2.2 = σ.2.2 := by rw [← eσ]; rfl
  refine ⟨⟨by rw [v _ _ (by omega)]; exact w1, by rw [v _ _ (by omega)]; exact w2, by rw [v _ _ (by omega)]; exact w3⟩, ⟨⟨by rw [o 87 (by decide)]; exact r1, by rw [v _ _ (by omega)]; exact r2, r3⟩, by rw [o 89 (by decide)]; exact g1, by rw [o 89 (by decide)]; exact g2, fun _ => ⟨?_, Nat.le_refl _⟩, fun y => ⟨hRa y, by rw [o 89 (by decide)]; exact e89⟩⟩, ⟨⟨v15, by rw [v _ _ (by omega)]; exact a2, by rw [v _ _ (by omega)]; exact a3, by rw [v _ _ (by omega)]; exact a4, by rw [o 91 (by decide)]; exact a5, by rw [← eσ]; exact wX_self⟩, b.b B2, ?_, ?_, ?_, g.cg (fun x h1 h2 => o x (by omega))⟩, ⟨fun y => by rw [v15]; exact hno.1 y, fun y => by rw [v15]; exact hno.2 y⟩⟩
  · rw [o 89 (by decide), e89]
    show _ = A ++ s1.2.1 ++ L.drop L.length
    rw [List.drop_length, List.append_nil]
  · exact KC.cg (s := s1) c (o _ (by decide)) (o _ (by decide)) (o _ (by decide))
  · exact KM.cg (s := s1) hz d (fun x hx => o x (by omega)) (v _ _ (by omega)) (v _ _ (by omega))
  · exact e.cg hz' (fun x h1 h2 => o x (by omega)) (v _ _ (by omega)) (v _ _ (by omega))
/-- the arguments are worked -/
theorem ca_140 {sub : Sub9} {dep : Int} {Dm D : Nat} (hE : EI E) (hs : SubC E sub dep Dm) (hok : SubOk sub) (hD : Dm ≤ D) (hdep : 0 ≤ dep ∧ dep ≤ 30) {Ar : List Int} {m kd nx : Int} {sp : List (Nat × Nat)} {wk : Nat} (hwk : wk ≤ sp.length) (hsp9 : sp.length ≤ 9) (hspb : ∀ q ∈ sp, q.1 ≤ q.2 ∧ q.2 ≤ T.length) (hTb : smB T) (hf : okM9 f) (hf9 : f.length ≤ 9) (hfa : ∀ i : Nat, i < f.length → arA H Ar (fr + 2 * (i : Int)) (f.getD i [])) (hfr : 0 ≤ fr ∧ fr ≤ 700) (hS : (S.length : Int) ≤ 18 * dep) (hH : (H.length : Int) ≤ 18 * dep) (hnb : 0 ≤ n ∧ n ≤ dep + 1) (hno : (a = true → 0 < n) ∧ (a = false → n = 0)) {L : List Int} (hRa : a = false → R = pkS L) : ∀ (r p : List (Nat × Nat)) (w : List (List Int)) (s : TS) (σ : MS), sp.take wk = p ++ r → w.length = p.length → SgT σ q x0 T → TxC σ E a f fr (Ar ++ w.flatten) L.length R (S ++ spL x0 sp) (H ++ hdL Ar.length w) z z' n s → s.2.1 = L → TI 0 0 s → okM9 w → (∀ w' s' σ', eaD sub f T r s = .inl (w', s') → TxC σ' E a f fr (Ar ++ (w ++ w').flatten) L.length R (S ++ spL x0 sp) (H ++ hdL Ar.length (w ++ w')) z z' n s' → FrT σ σ' → Texts_call_140 (D + 1) q dep m kd (S.length : Int) (H.length : Int) (Ar.length : Int) nx (wk : Int) (wk : Int) σ' Q) → (∀ e σ', eaD sub f T r s = .inr e → TxF σ' e → FrT σ σ' → Q (.inr (exN 0)) σ') → Texts_call_140 (D + 1) q dep m kd (S.length : Int) (H.length : Int) (Ar.length : Int) nx (wk : Int) (p.length : Int) σ Q
  | [], p, w, s, σ, hp, hw, hT, h, ho, hi, hokw, hy, hn2 => by
    have hl : p.length = wk := by
      have := congrArg List.length hp
      rw [List.append_nil, List.length_take] at this
      omega
    have := hy [] s σ rfl (by rw [List.append_nil]; exact h) FrT.rf
    rw [hl]
    exact this
  | c :: r, p, w, s, σ, hp, hw, hT, h, ho, hi, hokw, hy, hn2 => by
    have hl : p.length + 1 + r.length = wk := by
      have := congrArg List.length hp
      rw [List.length_append, List.length_cons, List.length_take] at this
      omega
    have hcm : c ∈ sp := List.mem_of_mem_take (by rw [hp]; exact List.mem_append_right _ List.mem_cons_self)
    obtain ⟨c1, c2⟩ := hspb c hcm
    have hget : sp.getD p.length (0, 0) = c := by
      have e1 : (sp.take wk).getD p.length (0, 0) = c := by
        rw [hp, List.getD_eq_getElem?_getD, List.getElem?_append_right (Nat.le_refl _), Nat.sub_self]
        rfl
      rw [← e1, List.getD_eq_getElem?_getD, List.getD_eq_getElem?_getD, List.getElem?_take, if_pos (by omega)]
    obtain ⟨sp1, sp2⟩ := sp_at (x0 := x0) (S := S) (r := sp) (i := p.length) (by omega) (y := (S.length : Int) + 2 * (p.length : Int)) rfl
    rw [hget] at sp1 sp2
    have x91 : mX σ 91 = S ++ spL x0 sp := h.2.2.1.1.2.2.2.2.1
    have x93 : mX σ 93 = H ++ hdL Ar.length w := h.2.2.1.1.2.2.2.2.2
    have x15 : mV σ 86 15 = n := h.2.2.1.1.1
    have x89 : mX σ 89 = Ar ++ w.flatten := by
      cases ha : a with
      | true =>
        have := (h.2.1.2.2.2.1 ha).1
        rw [ho, List.drop_length, List.append_nil] at this
        exact this
      | false => exact (h.2.1.2.2.2.2 ha).2
    have ls := spL_len (x0 := x0) (r := sp)
    have lh := hdL_len (W := w) (b := Ar.length)
    have lA := h.q.len hi
    have hw9 : w.length ≤ 9 := by omega
    refine Texts_call_140.i ⟨by unfold Rg; omega, fun h9 => absurd h9 (by omega), fun _ => ⟨by rw [x15]; unfold Rg; omega, by unfold Rg; omega, by unfold Rg; omega, ?_⟩⟩
    rw [x91, sp1, sp2, x15]
    have hA := h.arg x89.symm hnb.1
    have hseg := (hT.fr (σ' := wV σ 86 15 (n + 1)) FrT.v86).sg (a := c.1) (b := c.2) c1 c2
    have hlen := sg_len (T := T) c1 c2
    have e2 : ((x0 + c.2 : Nat) : Int) = ((x0 + c.1 + (sgT T c.1 c.2).length : Nat) : Int) := by rw [hlen]; omega
    rw [e2]
    have tiA : TI 0 0 (sOu s []) := (hi.ou (L := []) okK.nil).mo (by rw [List.length_nil]; omega) (Int.le_refl _)
    refine hs D q (x0 + c.1) (sgT T c.1 c.2) true f fr (Ar ++ w.flatten) 0 R (S ++ spL x0 sp) (H ++ hdL Ar.length w) z z' (n + 1) (sOu s []) _ _ hD hseg hTb.sg ⟨hA, hf, hf9, fun i hi2 => (hfa i hi2).ext ⟨by omega, (hfa i hi2).in (by omega)⟩, hfr, by rw [List.length_append, ls]; omega, by rw [List.length_append, lh]; omega, by omega⟩ tiA ⟨fun s1 σ1 e1 hD1 => ?_, fun e σ1 he q1 q2 => hn2 e σ1 (by unfold eaD; rw [he]) q1 (FrT.tr FrT.v86 q2)⟩
    obtain ⟨f1, R1, hC1, hR1⟩ := hD1
    have hR1 := hR1 rfl
    have y89 : mX σ1 89 = Ar ++ w.flatten ++ s1.2.1 := (hC1.2.1.2.2.2.1 rfl).1
    have y93 : mX σ1 93 = H ++ hdL Ar.length w := hC1.2.2.1.1.2.2.2.2.2
    have y15 : mV σ1 86 15 = n + 1 := hC1.2.2.1.1.1
    have hret := hC1.ret (a := a) (R := R) (L := L) hR1 hRa hno
    obtain ⟨ti1, st1⟩ := hok true f (sgT T c.1 c.2) (sOu s []) s1 0 0 (Int.le_refl _) (Int.le_refl _) tiA hf hTb.sg e1
    have tiB := hok true f (sgT T c.1 c.2) (sOu s []) s1 (s.2.1.length) 0 (by omega) (Int.le_refl _) ((hi.ou (L := []) okK.nil).mo (by rw [List.length_nil]; omega) (Int.le_refl _)) hf hTb.sg e1
    have tiC : TI 0 0 (sOu s1 L) := (tiB.1.ou (L := L) (by rw [← ho]; exact hi.1.2.2.2)).mo (by rw [← ho]; omega) (Int.le_refl _)
    show Rg (mV σ1 86 15 - 1) ∧ (mX σ1 93).length < 1024 ∧ (mX σ1 93 ++ [((mX σ 89).length : Int)]).length < 1024 ∧ Texts_call_140 (D + 1) q dep m kd (S.length : Int) (H.length : Int) (Ar.length : Int) nx (wk : Int) ((p.length : Int) + 1) (wX (wX (wV σ1 86 15 (mV σ1 86 15 - 1)) 93 (mX σ1 93 ++ [((mX σ 89).length : Int)])) 93 (mX σ1 93 ++ [((mX σ 89).length : Int)] ++ [((mX σ1 89).length : Int)])) Q
    rw [y93, x89]
    refine ⟨by rw [y15]; unfold Rg; omega, by rw [List.length_append, lh]; omega, by rw [List.length_append, List.length_append, lh, List.length_singleton]; omega, ?_⟩
    generalize eσ2 : wX (wX (wV σ1 86 15 (mV σ1 86 15 - 1)) 93 (H ++ hdL Ar.length w ++ [((Ar ++ w.flatten).length : Int)])) 93 (H ++ hdL Ar.length w ++ [((Ar ++ w.flatten).length : Int)] ++ [((mX σ1 89).length : Int)]) = σ2 at hret ⊢
    have f2 : FrT σ1 σ2 := by rw [← eσ2]; exact FrT.tr FrT.v86 ((FrT.x (by decide)).tr (FrT.x (by decide)))
    have fA : FrT σ σ2 := (FrT.tr FrT.v86 f1).tr f2
    have eW : Ar ++ w.flatten ++ s1.2.1 = Ar ++ (w ++ [s1.2.1]).flatten := by rw [flat_sn, List.append_assoc]
    have eH : H ++ hdL Ar.length w ++ [((Ar ++ w.flatten).length : Int), (((Ar ++ w.flatten).length + s1.2.1.length : Nat) : Int)] = H ++ hdL Ar.length (w ++ [s1.2.1]) := by
      rw [hdL_sn, List.append_assoc, List.length_append, flat_len]
    rw [eW, eH] at hret
    have := ca_140 hE hs hok hD hdep hwk hsp9 hspb hTb hf hf9 hfa hfr hS hH hnb hno hRa (nx := nx) (m := m) (kd := kd) r (p ++ [c]) (w ++ [s1.2.1]) (sOu s1 L) σ2 (by rw [hp, List.append_assoc]; rfl) (by rw [List.length_append, List.length_append, hw]; rfl) (hT.fr fA) hret rfl tiC (fun x hx => by
      rcases List.mem_append.mp hx with hx | hx
      · exact hokw x hx
      · rw [List.mem_singleton.mp hx]; exact ti1.1.2.2.2) (fun w' s' σ' he hc9 hf9' => hy (s1.2.1 :: w') s' σ' (by unfold eaD; rw [e1]; show (match eaD sub f T r (sOu s1 s.2.1) with | .inr e => _ | .inl w => _) = _; rw [ho, he]) (by
        rw [List.append_assoc] at hc9
        exact hc9) (fA.tr hf9')) (fun e σ' he q1 q2 => hn2 e σ' (by unfold eaD; rw [e1]; show (match eaD sub f T r (sOu s1 s.2.1) with | .inr e => _ | .inl w => _) = _; rw [ho, he]) q1 (fA.tr q2))
    rw [List.length_append, List.length_singleton] at this
    exact this
end
