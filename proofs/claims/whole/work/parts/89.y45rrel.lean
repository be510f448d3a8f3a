/-! THE REFERENCE WORKS TEXTS: all that a state holds -/
/-- counters, labels, keys, notes, unknown -/
abbrev TM : Type := (List (List Int) × List Int) × (List (List Int) × List (List Int) × List Int) × (List (List Int) × List Int) × (List (List Int) × List Int × Int) × Int
/-- what may change -/
def FrA (A : Nat → Nat → Prop) (σ σ' : MS) : Prop := mX σ' = mX σ ∧ mB σ' = mB σ ∧ ∀ z k, ¬ A z k → mV σ' z k = mV σ z k
theorem FrA.rf {A : Nat → Nat → Prop} {σ : MS} : FrA A σ σ := ⟨rfl, rfl, fun _ _ _ => rfl⟩
theorem FrA.tr {A : Nat → Nat → Prop} {σ σ1 σ2 : MS} (h : FrA A σ σ1) (h' : FrA A σ1 σ2) : FrA A σ σ2 := ⟨h'.1.trans h.1, h'.2.1.trans h.2.1, fun z k a => (h'.2.2 z k a).trans (h.2.2 z k a)⟩
theorem FrA.mo {A B : Nat → Nat → Prop} {σ σ1 : MS} (h : FrA A σ σ1) (hs : ∀ z k, A z k → B z k) : FrA B σ σ1 := ⟨h.1, h.2.1, fun z k b => h.2.2 z k (fun a => b (hs z k a))⟩
theorem FrA.w {A : Nat → Nat → Prop} {σ : MS} {z k : Nat} {x : Int} (h : A z k) : FrA A σ (wV σ z k x) := ⟨rfl, rfl, fun z' k' n => wV_ne (by
  by_cases e : z' = z
  · refine Or.inr (fun e2 => n ?_)
    rw [e, e2]
    exact h
  · exact Or.inl e)⟩
theorem FrA.wF {A : Nat → Nat → Prop} {σ : MS} {z a : Nat} {L : List Int} (h : ∀ k, a ≤ k → k < a + L.length → A z k) : FrA A σ (wF σ z a L) := ⟨rfl, rfl, fun z' k' n => wF_ne (by
  by_cases e : z' = z
  · refine Or.inr ?_
    by_cases e2 : k' < a
    · exact Or.inl e2
    · refine Or.inr (Nat.le_of_not_lt (fun e3 => n ?_))
      rw [e]
      exact h k' (by omega) e3
  · exact Or.inl e)⟩
def TRS : List Nat := [254, 255, 257, 258, 259, 260, 261, 262, 263, 276, 277, 278, 279, 280, 281, 282, 285, 293, 294, 295, 298, 301, 302, 305, 306, 307, 337]
def TRK : List Nat := [16, 17, 18, 21, 22, 28, 31, 32, 33, 58, 81, 85, 86, 94, 95, 143]
def loB (g kt c z : Nat) : Nat := if z = 254 ∨ z = 255 then g else if z = 257 ∨ z = 258 then kt else if 259 ≤ z ∧ z ≤ 262 then 10 * c else if z = 263 then c else 0
def bkW (z : Nat) : Nat := if z = 279 then 720 else if z = 280 ∨ z = 282 then 60 else if z = 281 then 1920 else if z = 285 ∨ z = 298 then 1 else if z = 293 then 70000 else if z = 294 ∨ z = 295 then 100 else 0
/-- where texts may change the reference -/
def AlU (g kt c nw z k : Nat) : Prop := (z = 246 ∧ k ∈ TRK) ∨ (z ∈ TRS ∧ loB g kt c z ≤ k ∧ (bkW z = 0 ∨ k / bkW z = nw))
def FrU (g kt c nw : Nat) (σ σ' : MS) : Prop := FrA (AlU g kt c nw) σ σ'
/-- where puts and calls may, but not marks -/
def AlQ (z k : Nat) : Prop := (z = 246 ∧ k ∈ [16, 18, 21, 22, 28, 31, 32, 33, 95, 143]) ∨ ((z = 254 ∨ z = 255) ∧ k < 70000) ∨ z ∈ [257, 258, 259, 260, 261, 262, 263, 337]
def FrQ (σ σ' : MS) : Prop := FrA AlQ σ σ'
section
variable {σ σ1 σ2 : MS} {g g' kt kt' c c' nw zz k : Nat} {x : Int}
theorem trs_n : 246 ∉ TRS := by decide
theorem FrU.z (h : FrU g kt c nw σ σ1) (hz : zz ∉ TRS) (h6 : zz ≠ 246) : mV σ1 zz k = mV σ zz k := h.2.2 zz k (fun a => a.elim (fun a => h6 a.1) (fun a => hz a.1))
theorem FrU.f (h : FrU g kt c nw σ σ1) (hk : k ∉ TRK) : mV σ1 246 k = mV σ 246 k := h.2.2 246 k (fun a => a.elim (fun a => hk a.2) (fun a => trs_n a.1))
theorem FrU.lo (h : FrU g kt c nw σ σ1) (hk : k < loB g kt c zz) (h6 : zz ≠ 246) : mV σ1 zz k = mV σ zz k := h.2.2 zz k (fun a => a.elim (fun a => h6 a.1) (fun a => absurd a.2.1 (by omega)))
theorem FrU.bk (h : FrU g kt c nw σ σ1) (hw : bkW zz ≠ 0) (hk : ¬ k / bkW zz = nw) (h6 : zz ≠ 246) : mV σ1 zz k = mV σ zz k := h.2.2 zz k (fun a => a.elim (fun a => h6 a.1) (fun a => a.2.2.elim (fun e => hw e) (fun e => hk e)))
theorem FrU.wf (hk : k ∈ TRK) : FrU g kt c nw σ (wV σ 246 k x) := FrA.w (Or.inl ⟨rfl, hk⟩)
theorem FrU.wz (hz : zz ∈ TRS) (hk : loB g kt c zz ≤ k) (hb : bkW zz = 0 ∨ k / bkW zz = nw) : FrU g kt c nw σ (wV σ zz k x) := FrA.w (Or.inr ⟨hz, hk, hb⟩)
theorem FrU.mo (h : FrU g' kt' c' nw σ σ1) (hg : g ≤ g') (hkt : kt ≤ kt') (hc : c ≤ c') : FrU g kt c nw σ σ1 := FrA.mo h (fun z k a => a.imp id (fun a => ⟨a.1, by
  have a2 := a.2.1
  unfold loB at a2 ⊢
  split
  · rename_i h1; rw [if_pos h1] at a2; omega
  · rename_i h1
    rw [if_neg h1] at a2
    split
    · rename_i h2; rw [if_pos h2] at a2; omega
    · rename_i h2
      rw [if_neg h2] at a2
      split
      · rename_i h3; rw [if_pos h3] at a2; omega
      · rename_i h3
        rw [if_neg h3] at a2
        split
        · rename_i h4; rw [if_pos h4] at a2; omega
        · omega, a.2.2⟩))
theorem loB_4 : loB g kt c 254 = g ∧ loB g kt c 255 = g := ⟨rfl, rfl⟩
theorem FrP.u (h : FrP g σ σ1) : FrU g kt c nw σ σ1 := ⟨h.1.1, h.1.2.1, fun z k a => by
  by_cases e4 : z = 254 ∨ z = 255
  · by_cases hk : k < g ∨ 70000 ≤ k
    · rcases e4 with rfl | rfl
      · exact (h.2.1 k hk).1
      · exact (h.2.1 k hk).2
    · exact absurd (Or.inr ⟨by rcases e4 with rfl | rfl <;> decide, by unfold loB; rw [if_pos e4]; omega, Or.inl (by rcases e4 with rfl | rfl <;> decide)⟩) a
  · by_cases e7 : z = 337
    · subst e7
      exact absurd (Or.inr ⟨by decide, Nat.zero_le _, Or.inl (by decide)⟩) a
    · by_cases e6 : z = 246
      · subst e6
        refine h.1.f (fun hk => a (Or.inl ⟨rfl, ?_⟩)) (by decide)
        revert hk
        simp only [TRK, List.mem_cons, List.not_mem_nil, or_false]
        omega
      · refine h.1.z (fun hz => ?_) e6
        simp only [List.mem_cons, List.not_mem_nil, or_false] at hz
        omega⟩
theorem FrP.v (h : FrP g σ σ1) : FrQ σ σ1 := ⟨h.1.1, h.1.2.1, fun z k a => by
  by_cases e4 : z = 254 ∨ z = 255
  · by_cases hk : k < g ∨ 70000 ≤ k
    · rcases e4 with rfl | rfl
      · exact (h.2.1 k hk).1
      · exact (h.2.1 k hk).2
    · exact absurd (Or.inr (Or.inl ⟨e4, by omega⟩)) a
  · by_cases e7 : z = 337
    · subst e7
      exact absurd (Or.inr (Or.inr (by decide))) a
    · by_cases e6 : z = 246
      · subst e6
        refine h.1.f (fun hk => a (Or.inl ⟨rfl, ?_⟩)) (by decide)
        revert hk
        simp only [List.mem_cons, List.not_mem_nil, or_false]
        omega
      · refine h.1.z (fun hz => ?_) e6
        simp only [List.mem_cons, List.not_mem_nil, or_false] at hz
        omega⟩
theorem FrQ.z (h : FrQ σ σ1) (hz : zz ∉ [246, 254, 255, 257, 258, 259, 260, 261, 262, 263, 337]) : mV σ1 zz k = mV σ zz k := h.2.2 zz k (fun a => hz (by
  unfold AlQ at a
  simp only [List.mem_cons, List.not_mem_nil, or_false] at a ⊢
  omega))
theorem FrQ.f (h : FrQ σ σ1) (hk : k ∉ [16, 18, 21, 22, 28, 31, 32, 33, 95, 143]) : mV σ1 246 k = mV σ 246 k := h.2.2 246 k (fun a => hk (by
  unfold AlQ at a
  simp only [List.mem_cons, List.not_mem_nil, or_false] at a ⊢
  omega))
theorem FrQ.up (h : FrQ σ σ1) (hk : 70000 ≤ k) : mV σ1 254 k = mV σ 254 k ∧ mV σ1 255 k = mV σ 255 k := ⟨h.2.2 254 k (fun a => by
  unfold AlQ at a
  simp only [List.mem_cons, List.not_mem_nil, or_false] at a
  omega), h.2.2 255 k (fun a => by
  unfold AlQ at a
  simp only [List.mem_cons, List.not_mem_nil, or_false] at a
  omega)⟩
end
/-- names and their sizes, from b on -/
def nmS (σ : MS) (z zs st b : Nat) (N : List (List Int)) : Prop := ∀ m, m < N.length → mV σ zs (b + m) = ((N.getD m []).length : Int) ∧ holA σ z (st * (b + m)) (N.getD m [])
def RxC (σ : MS) (m : TM) : Prop := mV σ 246 58 = (m.1.1.length : Int) ∧ nmS σ 276 277 12 0 m.1.1 ∧ hol σ 278 m.1.2
def RxL (σ : MS) (nw : Nat) (m : TM) : Prop := mV σ 285 nw = (m.2.1.1.length : Int) ∧ nmS σ 279 280 12 (60 * nw) m.2.1.1 ∧ nmS σ 281 282 32 (60 * nw) m.2.1.2.1
def RxK (σ : MS) (nw : Nat) (m : TM) : Prop := mV σ 298 nw = (m.2.2.1.1.length : Int) ∧ mV σ 246 81 = ((70000 * nw + suM m.2.2.1.1 : Nat) : Int) ∧ ∀ i, i < m.2.2.1.1.length → mV σ 294 (100 * nw + i) = ((70000 * nw + suM (m.2.2.1.1.take i) : Nat) : Int) ∧ mV σ 295 (100 * nw + i) = ((m.2.2.1.1.getD i []).length : Int) ∧ holA σ 293 (70000 * nw + suM (m.2.2.1.1.take i)) (m.2.2.1.1.getD i [])
def RxN (σ : MS) (n0 : Nat) (m : TM) : Prop := mV σ 246 86 = m.2.2.2.1.2.2 ∧ m.2.2.2.1.2.2 = ((n0 + m.2.2.2.1.1.length : Nat) : Int) ∧ mV σ 246 17 = ((70000 + suM m.2.2.2.1.1 : Nat) : Int) ∧ ∀ i, i < m.2.2.2.1.1.length → mV σ 301 (n0 + i) = ((70000 + suM (m.2.2.2.1.1.take i) : Nat) : Int) ∧ mV σ 302 (n0 + i) = ((70000 + suM (m.2.2.2.1.1.take i) + (m.2.2.2.1.1.getD i []).length : Nat) : Int) ∧ hoG σ 254 255 (70000 + suM (m.2.2.2.1.1.take i)) (m.2.2.2.1.1.getD i [])
/-- a place of the row as it is, and where it comes to lie -/
def pkW (P : List Int) (w : Int) : Int := ((pkL (P.take (w + 1).toNat)).length : Int) - 1
def upF (b n : Nat) : List Int := (List.range n).map (fun i => ((b + i : Nat) : Int))
def wtF (k : Int) (W : List (Int × Int × Int)) : List (Int × Int) := (W.filter (fun x => decide (x.1 = k))).map (fun x => x.2)
def wtQ (P : List Int) (b : Nat) (L : List (Int × Int)) (V : List Int) : Prop := L.map (fun x => x.1) = upF b V.length ∧ L.map (fun x => pkW P x.2) = V
def WtP (n0 l0 k0 : Nat) (P : List Int) (m : TM) (W : List (Int × Int × Int)) : Prop := wtQ P n0 (wtF 0 W) m.2.2.2.1.2.1 ∧ (l0 ≤ m.2.1.2.2.length ∧ wtQ P l0 (wtF 1 W) (m.2.1.2.2.drop l0)) ∧ (k0 ≤ m.2.2.1.2.length ∧ wtQ P k0 (wtF 2 W) (m.2.2.1.2.drop k0)) ∧ W.length = m.2.2.2.1.2.1.length + (m.2.1.2.2.length - l0) + (m.2.2.1.2.length - k0) ∧ ∀ x ∈ W, (x.1 = 0 ∨ x.1 = 1 ∨ x.1 = 2) ∧ (-1 ≤ x.2.2 ∧ x.2.2 < P.length) ∧ (0 ≤ x.2.2 → ¬ P.getD x.2.2.toNat 0 % 128 = 32)
def WtR (σ : MS) (n0 l0 k0 : Nat) (P : List Int) (m : TM) : Prop := ∃ W : List (Int × Int × Int), mV σ 246 94 = (W.length : Int) ∧ (∀ i, i < W.length → mV σ 305 i = (W.getD i (0, 0, 0)).1 ∧ mV σ 306 i = (W.getD i (0, 0, 0)).2.1 ∧ mV σ 307 i = (W.getD i (0, 0, 0)).2.2) ∧ WtP n0 l0 k0 P m W
def RxM (b : Prop) (σ : MS) (nw n0 l0 k0 : Nat) (d : Int) (P : List Int) (m : TM) : Prop := RxC σ m ∧ (b → RxL σ nw m) ∧ (b → RxK σ nw m) ∧ (b → RxN σ n0 m) ∧ (mV σ 246 85 = m.2.2.2.2 + d ∧ d = 0) ∧ (b → WtR σ n0 l0 k0 P m)
/-- a text in the source, ends of lines as blanks -/
def SgR (σ : MS) (x0 : Nat) (T : List Int) : Prop := x0 + T.length ≤ 8100 ∧ ∀ t, t < T.length → (if mV σ 252 (x0 + t) = 10 then 32 else mV σ 252 (x0 + t)) = T.getD t 0
/-- what stands fast while a text is worked -/
def RxE (σ : MS) (E : TE) (nw : Nat) : Prop := (nw ≤ 1 ∧ mV σ 246 59 = (nw : Int)) ∧ (mnR σ E.1.1 ∧ (∀ w ∈ E.1.1, ixW (wdT 1) 0 w = -1) ∧ ∀ m, m < E.1.1.length → mV σ 266 m = E.1.2.1.getD m 0 ∧ ∃ x : Nat, mV σ 267 m = (x : Int) ∧ mV σ 268 m = ((x + (E.1.2.2.getD m []).length : Nat) : Int) ∧ SgR σ x (E.1.2.2.getD m [])) ∧ (mV σ 285 (1 - nw) = (E.2.1.1.length : Int) ∧ nmS σ 279 280 12 (60 * (1 - nw)) E.2.1.1 ∧ nmS σ 281 282 32 (60 * (1 - nw)) E.2.1.2.1 ∧ (∀ q, q < E.2.1.1.length → mV σ 283 (60 * (1 - nw) + q) = E.2.1.2.2.1.getD q 0)) ∧ (0 < E.2.1.1.length → mV σ 246 52 = E.2.1.2.2.2.1 ∧ mV σ 246 53 = E.2.1.2.2.2.2) ∧ (0 < E.2.2.2 → mV σ 246 84 = (E.2.2.1.length : Int) ∧ hol σ 300 E.2.2.1)
/-- unknown labels are fewer than the work -/
def UnB (σ : MS) : Prop := 0 ≤ mV σ 246 85 ∧ mV σ 246 85 ≤ mV σ 246 33
theorem UnB.z {S K : List Nat} {σ σ1 : MS} (h : UnB σ) (q : FrZ S K σ σ1) (h1 : 246 ∉ S) (h2 : ∀ k ∈ [33, 85], k ∉ K) : UnB σ1 := by
  unfold UnB
  rw [q.f (h2 85 (by decide)) h1, q.f (h2 33 (by decide)) h1]
  exact h
/-- how deep, and how many calls -/
def RxP (σ : MS) (kt c D : Nat) (a : Bool) (E : TE) : Prop := mV σ 246 21 = (kt : Int) ∧ mV σ 246 22 = (c : Int) ∧ mV σ 246 31 = 30 - (D : Int) ∧ mV σ 246 95 = (if a = true then 0 else E.2.2.2) ∧ UnB σ
def FmR (σ : MS) (kt c : Nat) (call : Int) (f : List (List Int)) : Prop := (call = -1 ∧ f = []) ∨ (∃ j : Nat, call = (j : Int) ∧ j < c ∧ f.length ≤ 9 ∧ mV σ 263 j = (f.length : Int) ∧ ∀ i, i < f.length → ArG σ (10 * j + i) kt (f.getD i []))
section
variable {σ σ1 σ2 : MS} {g g' kt kt' c c' nw n0 l0 k0 D : Nat} {x : Int} {m m' : TM} {P : List Int} {E : TE} {a : Bool} {f : List (List Int)} {call : Int}
theorem holA.cg {z b : Nat} {L : List Int} (h : holA σ z b L) (e : ∀ k, b ≤ k → k < b + L.length → mV σ1 z k = mV σ z k) : holA σ1 z b L := fun i hi => by rw [e (b + i) (by omega) (by omega)]; exact h i hi
theorem nmS.cg {z zs st b : Nat} {N : List (List Int)} (h : nmS σ z zs st b N) (e1 : ∀ k, mV σ1 z k = mV σ z k) (e2 : ∀ k, mV σ1 zs k = mV σ zs k) : nmS σ1 z zs st b N := fun m hm => ⟨by rw [e2]; exact (h m hm).1, (h m hm).2.cg (fun k _ _ => e1 k)⟩
theorem RxC.v (h : RxC σ m) (q : FrQ σ σ1) : RxC σ1 m := ⟨(q.f (by decide)).trans h.1, h.2.1.cg (fun k => q.z (by decide)) (fun k => q.z (by decide)), fun i hi => by rw [q.z (by decide)]; exact h.2.2 i hi⟩
theorem RxL.v (h : RxL σ nw m) (q : FrQ σ σ1) : RxL σ1 nw m := ⟨(q.z (by decide)).trans h.1, h.2.1.cg (fun k => q.z (by decide)) (fun k => q.z (by decide)), h.2.2.cg (fun k => q.z (by decide)) (fun k => q.z (by decide))⟩
theorem RxK.v (h : RxK σ nw m) (q : FrQ σ σ1) : RxK σ1 nw m := ⟨(q.z (by decide)).trans h.1, (q.f (by decide)).trans h.2.1, fun i hi => ⟨(q.z (by decide)).trans (h.2.2 i hi).1, (q.z (by decide)).trans (h.2.2 i hi).2.1, (h.2.2 i hi).2.2.cg (fun k _ _ => q.z (by decide))⟩⟩
theorem RxN.v (h : RxN σ n0 m) (q : FrQ σ σ1) : RxN σ1 n0 m := ⟨(q.f (by decide)).trans h.1, h.2.1, (q.f (by decide)).trans h.2.2.1, fun i hi => ⟨(q.z (by decide)).trans (h.2.2.2 i hi).1, (q.z (by decide)).trans (h.2.2.2 i hi).2.1, (h.2.2.2 i hi).2.2.cg (fun k _ _ => q.up (by omega))⟩⟩
theorem WtR.v (h : WtR σ n0 l0 k0 P m) (q : FrQ σ σ1) : WtR σ1 n0 l0 k0 P m := by
  obtain ⟨W, h1, h2, h3⟩ := h
  exact ⟨W, (q.f (by decide)).trans h1, fun i hi => ⟨(q.z (by decide)).trans (h2 i hi).1, (q.z (by decide)).trans (h2 i hi).2.1, (q.z (by decide)).trans (h2 i hi).2.2⟩, h3⟩
theorem RxM.v {b : Prop} {d : Int} (h : RxM b σ nw n0 l0 k0 d P m) (q : FrQ σ σ1) : RxM b σ1 nw n0 l0 k0 d P m := ⟨h.1.v q, fun b9 => (h.2.1 b9).v q, fun b9 => (h.2.2.1 b9).v q, fun b9 => (h.2.2.2.1 b9).v q, ⟨(q.f (by decide)).trans h.2.2.2.2.1.1, h.2.2.2.2.1.2⟩, fun b9 => (h.2.2.2.2.2 b9).v q⟩
theorem pkW_app {L : List Int} {w : Int} (hw : w < P.length) : pkW (P ++ L) w = pkW P w := by
  unfold pkW
  rw [List.take_append_of_le_length (by omega)]
theorem wtQ.app {L : List Int} {b : Nat} {M : List (Int × Int)} {V : List Int} (h : wtQ P b M V) (hM : ∀ x ∈ M, x.2 < P.length) : wtQ (P ++ L) b M V := by
  refine ⟨h.1, ?_⟩
  rw [← h.2]
  exact List.map_congr_left (fun x hx => pkW_app (hM x hx))
theorem wtF_m {k : Int} {W : List (Int × Int × Int)} {x : Int × Int} (h : x ∈ wtF k W) : (k, x) ∈ W := by
  unfold wtF at h
  obtain ⟨y, hy, rfl⟩ := List.mem_map.mp h
  obtain ⟨h1, h2⟩ := List.mem_filter.mp hy
  have := of_decide_eq_true h2
  rw [← this]
  exact h1
theorem RxM.px {b : Prop} {d : Int} {L : List Int} (h : RxM b σ nw n0 l0 k0 d P m) : RxM b σ nw n0 l0 k0 d (P ++ L) m := by
  obtain ⟨h1, h2, h3, h4, h5, h6⟩ := h
  refine ⟨h1, h2, h3, h4, h5, fun b9 => ?_⟩
  obtain ⟨W, w1, w2, q1, q2, q3, q4, q5⟩ := h6 b9
  refine ⟨W, w1, w2, q1.app (fun x hx => (q5 _ (wtF_m hx)).2.1.2), ⟨q2.1, q2.2.app (fun x hx => (q5 _ (wtF_m hx)).2.1.2)⟩, ⟨q3.1, q3.2.app (fun x hx => (q5 _ (wtF_m hx)).2.1.2)⟩, q4, fun x hx => ?_⟩
  obtain ⟨a1, a2, a3⟩ := q5 x hx
  refine ⟨a1, ⟨a2.1, by rw [List.length_append]; omega⟩, fun h0 => ?_⟩
  rw [getD_l (by omega)]
  exact a3 h0
theorem SgR.cg {x0 : Nat} {T : List Int} (h : SgR σ x0 T) (e : ∀ k, mV σ1 252 k = mV σ 252 k) : SgR σ1 x0 T := ⟨h.1, fun t ht => by rw [e]; exact h.2 t ht⟩
theorem SgR.u {x0 : Nat} {T : List Int} (h : SgR σ x0 T) (q : FrU g kt c nw σ σ1) : SgR σ1 x0 T := h.cg (fun k => q.z (by decide) (by decide))
theorem nmS.b {z zs st b w : Nat} {N : List (List Int)} (h : nmS σ z zs st b N) (hN : ∀ i, i < N.length → (N.getD i []).length ≤ w) (e1 : ∀ i k, i < N.length → st * (b + i) ≤ k → k < st * (b + i) + w → mV σ1 z k = mV σ z k) (e2 : ∀ i, i < N.length → mV σ1 zs (b + i) = mV σ zs (b + i)) : nmS σ1 z zs st b N := fun i hi => ⟨by rw [e2 i hi]; exact (h i hi).1, (h i hi).2.cg (fun k k1 k2 => e1 i k hi k1 (by have := hN i hi; omega))⟩
theorem RxE.u (h : RxE σ E nw) (hE : EI E) (q : FrU g kt c nw σ σ1) : RxE σ1 E nw := by
  obtain ⟨⟨a1, a2⟩, ⟨⟨b1, b2, b3⟩, b4, b5⟩, ⟨c1, c2, c3, c4⟩, d1, e1⟩ := h
  obtain ⟨E0, E1, E2, E3⟩ := hE
  refine ⟨⟨a1, (q.f (by decide)).trans a2⟩, ⟨⟨(q.f (by decide)).trans b1, b2, fun i hi => ⟨(q.z (by decide) (by decide)).trans (b3 i hi).1, (b3 i hi).2.1, (b3 i hi).2.2.cg (fun k _ _ => q.z (by decide) (by decide))⟩⟩, b4, fun i hi => ?_⟩, ⟨?_, ?_, ?_, fun i hi => (q.z (by decide) (by decide)).trans (c4 i hi)⟩, fun b9 => ⟨(q.f (by decide)).trans (d1 b9).1, (q.f (by decide)).trans (d1 b9).2⟩, fun b9 => ⟨(q.f (by decide)).trans (e1 b9).1, fun i hi => by rw [q.z (by decide) (by decide)]; exact (e1 b9).2 i hi⟩⟩
  · obtain ⟨f1, x, f2, f3, f4⟩ := b5 i hi
    exact ⟨(q.z (by decide) (by decide)).trans f1, x, (q.z (by decide) (by decide)).trans f2, (q.z (by decide) (by decide)).trans f3, f4.u q⟩
  · rw [q.bk (by decide) (by show ¬ (1 - nw) / 1 = nw; omega) (by decide)]
    exact c1
  · refine c2.b (w := 12) (fun i _ => (E1.2.2.2.1.at i).1) (fun i k hi k1 k2 => q.bk (by decide) (by show ¬ k / 720 = nw; omega) (by decide)) (fun i hi => q.bk (by decide) (by show ¬ (60 * (1 - nw) + i) / 60 = nw; omega) (by decide))
  · refine c3.b (w := 32) (fun i _ => (E1.2.2.2.2.1.at i).1) (fun i k hi k1 k2 => q.bk (by decide) (by show ¬ k / 1920 = nw; omega) (by decide)) (fun i hi => q.bk (by decide) (by show ¬ (60 * (1 - nw) + i) / 60 = nw; omega) (by decide))
theorem ArG.u {i : Nat} {L : List Int} (h : ArG σ i kt L) (hi : i < 10 * c) (q : FrU g kt c nw σ σ1) : ArG σ1 i kt L := by
  obtain ⟨u, h1, h2, h3, h4⟩ := h
  refine ⟨u, (q.lo (by show i < 10 * c; exact hi) (by decide)).trans h1, (q.lo (by show i < 10 * c; exact hi) (by decide)).trans h2, h3, h4.cg (fun k k1 k2 => ⟨q.lo (by show k < kt; omega) (by decide), q.lo (by show k < kt; omega) (by decide)⟩)⟩
theorem FmR.u (h : FmR σ kt c call f) (q : FrU g kt c nw σ σ1) : FmR σ1 kt c call f := by
  rcases h with h | ⟨j, h1, h2, h3, h4, h5⟩
  · exact Or.inl h
  · exact Or.inr ⟨j, h1, h2, h3, (q.lo (by show j < c; exact h2) (by decide)).trans h4, fun i hi => (h5 i hi).u (by omega) q⟩
theorem ArG.up {i : Nat} {L : List Int} (h : ArG σ i kt L) (hk : kt ≤ kt') : ArG σ i kt' L := by
  obtain ⟨u, h1, h2, h3, h4⟩ := h
  exact ⟨u, h1, h2, by omega, h4⟩
theorem FmR.mo (h : FmR σ kt c call f) (hk : kt ≤ kt') (hc : c ≤ c') : FmR σ kt' c' call f := by
  rcases h with h | ⟨j, h1, h2, h3, h4, h5⟩
  · exact Or.inl h
  · exact Or.inr ⟨j, h1, by omega, h3, h4, fun i hi => (h5 i hi).up hk⟩
theorem RxP.p (h : RxP σ kt c D a E) (q : FrP g σ σ1) : RxP σ1 kt c D a E := ⟨(q.1.f (by decide) (by decide)).trans h.1, (q.1.f (by decide) (by decide)).trans h.2.1, (q.1.f (by decide) (by decide)).trans h.2.2.1, (q.1.f (by decide) (by decide)).trans h.2.2.2.1, by
  have e5 : mV σ1 246 85 = mV σ 246 85 := q.1.f (by decide) (by decide)
  have h5 := h.2.2.2.2
  have h6 := q.2.2
  unfold UnB at h5 ⊢
  omega⟩
end
