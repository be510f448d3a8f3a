/-! LETTERS ARE PARTED: the class lays patterns -/
section
variable {σ σ0 σ1 : MS} {Q : MQ9} {P X : List (List Int)} {l r : Int} {U : List Int} {q fr : Nat} {L : Nat → Int}
def LvC (σ : MS) (L : Nat → Int) : Prop := ∀ k, k < 44 → mV σ 126 k = L k
/-- a pattern's digits -/
theorem layP_145 (hb : HyB P X l r) {k s : Nat} (hk : k < P.length) (hs : s + (paL (P.getD k [])).length ≤ 43) (hq : ∀ σ', FrD σ0 σ' → LvC σ' (fun x => if s ≤ x then max (L x) (paG (P.getD k []) (x - s) 0) else L x) → Q (.inl none) σ') : ∀ (rs p : List Int) (σ : MS), HyC σ P X l r → P.getD k [] = p ++ rs → FrD σ0 σ → LvC σ (fun x => if s ≤ x then max (L x) (paG p (x - s) 0) else L x) → Filler_layPattern_145 (k : Int) ((s + (paL p).length : Nat) : Int) ((suM (P.take k) + p.length : Nat) : Int) σ Q
  | [], p, σ, hR, he, hf, hd => by
    obtain ⟨a1, a2, a3⟩ := sh_at (L := P) hk
    have s9 := hb.sP
    have k60 := hb.1
    have e42 : mX σ 42 = enS 0 P := hR.1.2
    rw [List.append_nil] at he
    rw [he] at a1 a3 hq
    refine Filler_layPattern_145.i ⟨by unfold Rg; omega, ?_⟩
    rw [e42, a1]
    exact ⟨by unfold Rg; omega, fun _ => hq σ hf hd, fun h9 => absurd h9 (by omega)⟩
  | c :: rs, p, σ, hR, he, hf, hd => by
    obtain ⟨a1, a2, a3⟩ := sh_at (L := P) hk
    have s9 := hb.sP
    have k60 := hb.1
    have e42 : mX σ 42 = enS 0 P := hR.1.2
    have e40 : mX σ 40 = P.flatten := hR.1.1
    have hlen : (P.getD k []).length = p.length + 1 + rs.length := by rw [he, List.length_append, List.length_cons]; omega
    have hf9 := fl_at (L := P) hk (i := p.length) (by omega)
    have hx : rgt (mX σ 40) ((suM (P.take k) + p.length : Nat) : Int) = c := by
      rw [e40, rgt_n (by rw [flat_len]; omega), hf9, he, List.getD_eq_getElem?_getD, List.getElem?_append_right (Nat.le_refl _), Nat.sub_self]
      rfl
    have he2 : P.getD k [] = (p ++ [c]) ++ rs := by rw [he, List.append_assoc]; rfl
    have l1 : (p ++ [c]).length = p.length + 1 := by rw [List.length_append, List.length_singleton]
    have hpl : (paL p).length ≤ (paL (P.getD k [])).length := by rw [he, paL_app, List.length_append]; omega
    have hcb : 0 ≤ c ∧ c ≤ 127 := (hb.2.1.at k).2 c (by rw [he]; simp)
    refine Filler_layPattern_145.i ⟨by unfold Rg; omega, ?_⟩
    rw [e42, a1, hx]
    refine ⟨by unfold Rg; omega, fun h9 => absurd h9 (by omega), fun _ => ⟨by unfold Rg; omega, T_isDigit.s (by unfold Rg; omega) ⟨fun h9 => ⟨by unfold Rg; omega, fun h8 => absurd h8 (by omega), fun _ => ⟨by omega, by omega, by unfold Rg; omega, by omega, by omega, Filler_layPattern_216.i ?_⟩⟩, fun h9 => Filler_layPattern_216.i ?_⟩⟩⟩
    · have hd9 := bZ_ne h9
      rw [show ((suM (P.take k) + p.length : Nat) : Int) + 1 = ((suM (P.take k) + (p ++ [c]).length : Nat) : Int) by rw [l1]; omega, Int.toNat_natCast]
      have e : (paL (p ++ [c])).length = (paL p).length := by rw [paL_app, paL_d hd9, List.append_nil]
      have h0 := hd (s + (paL p).length) (by omega)
      have h0 : mV σ 126 (s + (paL p).length) = if s ≤ s + (paL p).length then max (L (s + (paL p).length)) (paG p (s + (paL p).length - s) 0) else L (s + (paL p).length) := h0
      rw [if_pos (by omega), show s + (paL p).length - s = (paL p).length by omega] at h0
      have := layP_145 hb hk hs hq rs (p ++ [c]) (wV σ 126 (s + (paL p).length) (max (mV σ 126 (s + (paL p).length)) (c - 48))) (hR.d FrD.w) he2 (hf.tr FrD.w) (fun x hx9 => ?_)
      · rw [e] at this
        exact this
      · show _ = if s ≤ x then max (L x) (paG (p ++ [c]) (x - s) 0) else L x
        have e9 : paG [c] (x - s) (0 + (paL p).length) = if (paL p).length = x - s then max (c - 48) 0 else 0 := by
          rw [paG_c, if_pos hd9, Nat.zero_add]
          rfl
        rw [paG_app, e9]
        by_cases h8 : x = s + (paL p).length
        · subst h8
          rw [wV_self, h0, if_pos (by omega), if_pos (by omega), show s + (paL p).length - s = (paL p).length by omega]
          have := sDi_i.mp hd9
          omega
        · rw [wV_ne (Or.inr h8)]
          have h7 := hd x hx9
          have h7 : mV σ 126 x = if s ≤ x then max (L x) (paG p (x - s) 0) else L x := h7
          rw [h7]
          by_cases h6 : s ≤ x
          · rw [if_pos h6, if_pos h6, if_neg (by omega)]
            have := paG_n (p := p) (k := x - s) (m := 0)
            omega
          · rw [if_neg h6, if_neg h6]
    · have hd9 := bZ_z h9
      rw [show ((suM (P.take k) + p.length : Nat) : Int) + 1 = ((suM (P.take k) + (p ++ [c]).length : Nat) : Int) by rw [l1]; omega]
      have e : (paL (p ++ [c])).length = (paL p).length + 1 := by rw [paL_app, paL_c hd9, List.length_append, List.length_singleton]
      have := layP_145 hb hk hs hq rs (p ++ [c]) σ hR he2 hf (fun x hx9 => ?_)
      · rw [e] at this
        rw [show ((s + (paL p).length : Nat) : Int) + 1 = ((s + ((paL p).length + 1) : Nat) : Int) by omega]
        exact this
      · show _ = if s ≤ x then max (L x) (paG (p ++ [c]) (x - s) 0) else L x
        have e9 : paG [c] (x - s) (0 + (paL p).length) = 0 := by
          rw [paG_c, if_neg (by rw [hd9]; decide)]
          rfl
        rw [paG_app, e9]
        have h7 := hd x hx9
        have h7 : mV σ 126 x = if s ≤ x then max (L x) (paG p (x - s) 0) else L x := h7
        rw [h7]
        have := paG_n (p := p) (k := x - s) (m := 0)
        split <;> omega
theorem mt_len {p : List Int} {s : Nat} (h : mtP p U s = true) (hp : 0 < (paL p).length) : s + (paL p).length ≤ U.length + 2 := by
  have := congrArg List.length (of_decide_eq_true h)
  rw [List.length_take, List.length_drop, doT_len] at this
  omega
/-- a pattern is tried at a place -/
theorem layP_28 (hb : HyB P X l r) (hR : HyC σ P X l r) (hU : U.length ≤ 40) (hLt : LtC σ q fr U) {k s : Nat} (hk : k < P.length) (hs : s < U.length + 2) (hn : ∀ x, 0 ≤ L x) (hv : LvC σ L) (hq : ∀ σ', FrD σ σ' → LvC σ' (lv1 (P.getD k []) U s L) → Q (.inl none) σ') : ∀ (rs p : List Int), P.getD k [] = p ++ rs → ((doT U).drop s).take (paL p).length = paL p → Filler_layPattern_28 (k : Int) (s : Int) q (fr : Int) ((fr + U.length : Nat) : Int) ((s + (paL p).length : Nat) : Int) ((suM (P.take k) + p.length : Nat) : Int) σ Q
  | [], p, he, hm => by
    obtain ⟨a1, a2, a3⟩ := sh_at (L := P) hk
    have s9 := hb.sP
    have k60 := hb.1
    have e42 : mX σ 42 = enS 0 P := hR.1.2
    rw [List.append_nil] at he
    have hp0 := hb.2.2.1 (P.getD k []) (by rw [List.getD_eq_getElem?_getD, List.getElem?_eq_getElem hk]; exact List.getElem_mem hk)
    have h16 := (hb.2.1.at k).1
    have mt : mtP (P.getD k []) U s = true := by
      unfold mtP
      rw [he]
      exact decide_eq_true hm
    have ml := mt_len mt hp0
    have hpl : (paL (P.getD k [])).length ≤ (P.getD k []).length := List.length_filter_le _ _
    rw [he] at hpl ml
    have ee := congrArg List.length he
    refine Filler_layPattern_28.i ⟨by unfold Rg; omega, ?_⟩
    rw [e42, a1, a2, he]
    refine ⟨by unfold Rg; omega, fun _ => ⟨by unfold Rg; omega, ?_⟩, fun h9 => absurd h9 (by omega)⟩
    have := layP_145 (Q := Q) (σ0 := σ) (L := L) hb hk (s := s) (by rw [he]; omega) (fun σ' f' h' => hq σ' f' (by unfold lv1; rw [if_pos mt]; exact h')) (P.getD k []) [] σ hR rfl FrD.rf (fun x hx => by
      show mV σ 126 x = if s ≤ x then max (L x) 0 else L x
      have := hn x
      rw [hv x hx]
      split <;> omega)
    exact this
  | c :: rs, p, he, hm => by
    obtain ⟨a1, a2, a3⟩ := sh_at (L := P) hk
    have s9 := hb.sP
    have k60 := hb.1
    have l70 := hLt.2.1
    have e42 : mX σ 42 = enS 0 P := hR.1.2
    have e40 : mX σ 40 = P.flatten := hR.1.1
    have hlen : (P.getD k []).length = p.length + 1 + rs.length := by rw [he, List.length_append, List.length_cons]; omega
    have h16 := (hb.2.1.at k).1
    have hf9 := fl_at (L := P) hk (i := p.length) (by omega)
    have hx : rgt (mX σ 40) ((suM (P.take k) + p.length : Nat) : Int) = c := by
      rw [e40, rgt_n (by rw [flat_len]; omega), hf9, he, List.getD_eq_getElem?_getD, List.getElem?_append_right (Nat.le_refl _), Nat.sub_self]
      rfl
    have he2 : P.getD k [] = (p ++ [c]) ++ rs := by rw [he, List.append_assoc]; rfl
    have l1 : (p ++ [c]).length = p.length + 1 := by rw [List.length_append, List.length_singleton]
    have hpl : (paL p).length ≤ p.length := List.length_filter_le _ _
    have hcb : 0 ≤ c ∧ c ≤ 127 := (hb.2.1.at k).2 c (by rw [he]; simp)
    have nx : ∀ p' : List Int, p' = p ++ [c] → ((doT U).drop s).take (paL p').length = paL p' → Filler_layPattern_123 (k : Int) (s : Int) q (fr : Int) ((fr + U.length : Nat) : Int) ((s + (paL p').length : Nat) : Int) ((suM (P.take k) + p.length : Nat) : Int) σ Q := by
      intro p' hp' hm'
      subst hp'
      refine Filler_layPattern_123.i ?_
      rw [show ((suM (P.take k) + p.length : Nat) : Int) + 1 = ((suM (P.take k) + (p ++ [c]).length : Nat) : Int) by rw [l1]; omega]
      exact layP_28 hb hR hU hLt hk hs hn hv hq rs (p ++ [c]) he2 hm'
    refine Filler_layPattern_28.i ⟨by unfold Rg; omega, ?_⟩
    rw [e42, a1, hx]
    refine ⟨by unfold Rg; omega, fun h9 => absurd h9 (by omega), fun _ => ⟨by unfold Rg; omega, T_isDigit.s (by unfold Rg; omega) ⟨fun h9 => ?_, fun h9 => ?_⟩⟩⟩
    · have hd9 := bZ_ne h9
      have e : paL (p ++ [c]) = paL p := by rw [paL_app, paL_d hd9, List.append_nil]
      have := nx (p ++ [c]) rfl (by rw [e]; exact hm)
      rw [e] at this
      exact this
    · have hd9 := bZ_z h9
      have e : paL (p ++ [c]) = paL p ++ [c] := by rw [paL_app, paL_c hd9]
      have le : (paL (p ++ [c])).length = (paL p).length + 1 := by rw [e, List.length_append, List.length_singleton]
      have no : ¬ ((doT U).drop s).take ((paL p).length + 1) = paL p ++ [c] → Q (.inl none) σ := fun h8 => by
        have mf : mtP (P.getD k []) U s = false := by
          unfold mtP
          refine decide_eq_false (fun h7 => h8 ?_)
          have h6 := congrArg (List.take ((paL p).length + 1)) h7
          rw [List.take_take, he2, paL_app, e] at h6
          rw [List.length_append, List.length_append, List.length_singleton, show min ((paL p).length + 1) ((paL p).length + 1 + (paL rs).length) = (paL p).length + 1 by omega] at h6
          rw [h6, List.take_append_of_le_length (by rw [List.length_append, List.length_singleton]; omega)]
          rw [show (paL p).length + 1 = (paL p ++ [c]).length by rw [List.length_append, List.length_singleton], List.take_length]
        refine hq σ FrD.rf ?_
        unfold lv1
        rw [mf, if_neg (by decide)]
        exact hv
      have dl := doT_len (U := U)
      have tk : s + (paL p).length < U.length + 2 → ((doT U).drop s).take ((paL p).length + 1) = paL p ++ [(doT U).getD (s + (paL p).length) 0] := fun h8 => by
        rw [take_sn (by rw [List.length_drop]; omega), hm]
        congr 2
        rw [List.getD_eq_getElem?_getD, List.getElem?_drop, ← List.getD_eq_getElem?_getD]
      have go : ∀ v : Int, s + (paL p).length < U.length + 2 → v = (doT U).getD (s + (paL p).length) 0 → Filler_layPattern_103 (k : Int) (s : Int) q (fr : Int) ((fr + U.length : Nat) : Int) ((s + (paL p).length : Nat) : Int) ((suM (P.take k) + p.length : Nat) : Int) c ((fr : Int) + ((s + (paL p).length : Nat) : Int) - 1) v σ Q := by
        intro v h8 hv9
        refine Filler_layPattern_103.i ⟨by unfold Rg; omega, by unfold Rg; omega, fun h7 => absurd h7 (by omega), fun _ => ⟨fun h7 => ?_, fun h7 => no ?_⟩⟩
        · have := nx (p ++ [c]) rfl (by rw [le, tk h8, ← hv9, h7, e])
          rw [le] at this
          rw [show ((s + (paL p).length : Nat) : Int) + 1 = ((s + ((paL p).length + 1) : Nat) : Int) by omega]
          exact this
        · rw [tk h8, ← hv9]
          intro h6
          have h5 := List.append_cancel_left h6
          injection h5 with h5 _
          exact h7 h5
      refine ⟨by unfold Rg; omega, by unfold Rg; omega, fun h8 => Filler_layPattern_86.i (go 46 (by omega) ?_), fun h8 => ⟨by unfold Rg; omega, by unfold Rg; omega, fun h7 => tB.i hLt.1 (tB.i hLt.1 ⟨by unfold Rg; omega, T_small.s (by unfold Rg; omega) ?_⟩), fun h7 => Filler_layPattern_86.i (go 46 (by omega) ?_)⟩⟩
      · rw [show s + (paL p).length = 0 by omega]
        rfl
      · by_cases h6 : s + (paL p).length < U.length + 2
        · refine go _ h6 ?_
          obtain ⟨i, hi⟩ : ∃ i, s + (paL p).length = i + 1 := ⟨s + (paL p).length - 1, by omega⟩
          have hi2 : i < U.length := by omega
          rw [hi, doT_m hi2, show (fr : Int) + ((i + 1 : Nat) : Int) - 1 = ((fr + i : Nat) : Int) by omega]
          exact hLt.2.2 i hi2
        · refine Filler_layPattern_103.i ⟨by unfold Rg; omega, by unfold Rg; omega, fun _ => no (fun h5 => ?_), fun h5 => absurd h5 (by omega)⟩
          have := congrArg List.length h5
          rw [List.length_take, List.length_drop, List.length_append, List.length_singleton, dl] at this
          omega
      · rw [show s + (paL p).length = U.length + 1 by omega]
        exact doT_e.symm
theorem Filler_layPattern.c (hb : HyB P X l r) (hR : HyC σ P X l r) (hU : U.length ≤ 40) (hLt : LtC σ q fr U) {k s : Nat} (hk : k < P.length) (hs : s < U.length + 2) (hn : ∀ x, 0 ≤ L x) (hv : LvC σ L) (hq : ∀ σ', FrD σ σ' → LvC σ' (lv1 (P.getD k []) U s L) → Q (.inl none) σ') : Filler_layPattern (k : Int) (s : Int) q (fr : Int) ((fr + U.length : Nat) : Int) σ Q := by
  obtain ⟨a1, a2, a3⟩ := sh_at (L := P) hk
  have k60 := hb.1
  have e42 : mX σ 42 = enS 0 P := hR.1.2
  refine Filler_layPattern.i ⟨by unfold Rg; omega, ?_⟩
  rw [e42, a2]
  exact layP_28 hb hR hU hLt hk hs hn hv hq (P.getD k []) [] rfl rfl
theorem part_110 (hb : HyB P X l r) (hU : U.length ≤ 40) {k : Nat} (hk : k < P.length) (hq : ∀ σ', FrD σ0 σ' → LvC σ' (lvR (P.getD k []) U (U.length + 2) 0 L) → Filler_partLetters_92 q (fr : Int) ((fr + U.length : Nat) : Int) (U.length : Int) ((k + 1 : Nat) : Int) σ' Q) : ∀ (m s : Nat) (L' : Nat → Int) (σ : MS), s + m = U.length + 2 → HyC σ P X l r → LtC σ q fr U → (∀ x, 0 ≤ L' x) → LvC σ L' → FrD σ0 σ → lvR (P.getD k []) U m s L' = lvR (P.getD k []) U (U.length + 2) 0 L → Filler_partLetters_110 q (fr : Int) ((fr + U.length : Nat) : Int) (U.length : Int) (k : Int) (s : Int) σ Q := by
  intro m
  induction m with
  | zero =>
    intro s L' σ hs hR hLt hn hv hf he
    have k60 := hb.1
    refine Filler_partLetters_110.i ⟨by unfold Rg; omega, by unfold Rg; omega, fun _ => ?_, fun h9 => absurd h9 (by omega)⟩
    rw [show (k : Int) + 1 = ((k + 1 : Nat) : Int) by omega]
    exact hq σ hf (by rw [← he]; exact hv)
  | succ m ih =>
    intro s L' σ hs hR hLt hn hv hf he
    have k60 := hb.1
    refine Filler_partLetters_110.i ⟨by unfold Rg; omega, by unfold Rg; omega, fun h9 => absurd h9 (by omega), fun _ => ?_⟩
    refine Filler_layPattern.c hb hR hU hLt hk (by omega) hn hv (fun σ' f' v' => ?_)
    show Filler_partLetters_110 q (fr : Int) ((fr + U.length : Nat) : Int) (U.length : Int) (k : Int) ((s : Int) + 1) σ' Q
    rw [show (s : Int) + 1 = ((s + 1 : Nat) : Int) by omega]
    exact ih (s + 1) _ σ' (by omega) (hR.d f') (hLt.d f') (lv1_n hn) v' (hf.tr f') he
theorem part_92 (hb : HyB P X l r) (hU : U.length ≤ 40) (hR0 : HyC σ0 P X l r) (hL0 : LtC σ0 q fr U) (hq : ∀ σ', FrD σ0 σ' → HyC σ' P X l r → LvC σ' (lvA U P (fun _ => 0)) → Filler_partLetters_165 (U.length : Int) l r 0 σ' Q) : ∀ (rs p : List (List Int)) (L' : Nat → Int) (σ : MS), P = p ++ rs → HyC σ P X l r → LtC σ q fr U → (∀ x, 0 ≤ L' x) → LvC σ L' → FrD σ0 σ → lvA U rs L' = lvA U P (fun _ => 0) → Filler_partLetters_92 q (fr : Int) ((fr + U.length : Nat) : Int) (U.length : Int) (p.length : Int) σ Q
  | [], p, L', σ, he, hR, hLt, hn, hv, hf, hl => by
    have k60 := hb.1
    rw [List.append_nil] at he
    have hl9 := congrArg List.length he
    refine Filler_partLetters_92.i (rows_s (n := P.length) (by decide +kernel) (by decide +kernel) (by rw [hR.1.2, enS_len]) ⟨by unfold Rg; omega, fun _ => ?_, fun h9 => absurd h9 (by omega)⟩)
    refine Rules_told.i ⟨by decide, fun h9 => absurd h9 (by decide), fun _ => ⟨by decide, fun h9 => absurd h9 (by decide), fun _ => ⟨by decide, by decide, Rules_told.i ⟨by decide, fun h9 => absurd h9 (by decide), fun _ => ⟨by decide, fun h9 => absurd h9 (by decide), fun _ => ⟨by decide, by decide, ?_⟩⟩⟩⟩⟩⟩
    show Filler_partLetters_165 (U.length : Int) (mV σ 24 4) (mV σ 24 5) 0 σ Q
    rw [hR.2.2.1, hR.2.2.2]
    exact hq σ hf hR (by rw [← hl]; exact hv)
  | x :: rs, p, L', σ, he, hR, hLt, hn, hv, hf, hl => by
    have k60 := hb.1
    have hl9 : P.length = p.length + 1 + rs.length := by rw [he, List.length_append, List.length_cons]; omega
    have ex : P.getD p.length [] = x := by rw [he]; exact getD_at
    refine Filler_partLetters_92.i (rows_s (n := P.length) (by decide +kernel) (by decide +kernel) (by rw [hR.1.2, enS_len]) ⟨by unfold Rg; omega, fun h9 => absurd h9 (by omega), fun _ => ?_⟩)
    refine part_110 (L := L') hb hU (k := p.length) (by omega) (fun σ' f' v' => ?_) (U.length + 2) 0 L' σ (by omega) hR hLt hn hv hf rfl
    rw [ex] at v'
    have := part_92 hb hU hR0 hL0 hq rs (p ++ [x]) (lvR x U (U.length + 2) 0 L') σ' (by rw [he, List.append_assoc]; rfl) (hR0.d f') (hL0.d f') (lvR_n hn) v' f' hl
    rw [List.length_append, List.length_singleton] at this
    exact this
/-- letters at the ends stay together -/
def DgC (σ : MS) (P X : List (List Int)) (l r : Int) (U : List Int) : Prop := ∀ k, 1 ≤ k → k < U.length → (Int.tmod (mV σ 126 (k + 1)) 2 = 1 ↔ hyK P X l r U k = true)
theorem exF_sn {X : List (List Int)} {x : List Int} : exF (X ++ [x]) U = if exL x = U then some x else exF X U := by
  unfold exF
  rw [List.reverse_append, List.reverse_singleton, List.singleton_append, List.find?_cons]
  by_cases h : exL x = U
  · rw [if_pos h, decide_eq_true h]
  · rw [if_neg h, decide_eq_false h]
theorem part_165 (hb : HyB P X l r) (hU : U.length ≤ 40) (hx : exF X U = none) (hq : ∀ σ', FrD σ0 σ' → DgC σ' P X l r U → Q (.inl none) σ') : ∀ (m k : Nat) (σ : MS), k + m = U.length + 1 → FrD σ0 σ → (∀ j, j < k → j ≤ U.length → mV σ 126 (j + 1) = if (j : Int) < l ∨ (U.length : Int) - j < r then 0 else lvA U P (fun _ => 0) (j + 1)) → (∀ j, k ≤ j → j ≤ U.length → mV σ 126 (j + 1) = lvA U P (fun _ => 0) (j + 1)) → Filler_partLetters_165 (U.length : Int) l r (k : Int) σ Q := by
  have hl := hb.2.2.2.2.2.1
  have hr := hb.2.2.2.2.2.2
  intro m
  induction m with
  | zero =>
    intro k σ hk hf h1 h2
    refine Filler_partLetters_165.i ⟨by unfold Rg; omega, by unfold Rg; omega, fun _ => hq σ hf (fun j j1 j2 => ?_), fun h9 => absurd h9 (by omega)⟩
    have n0 := lvA_n (U := U) (P := P) (L := fun _ => 0) (fun _ => Int.le_refl _) (j + 1)
    rw [h1 j (by omega) (by omega)]
    unfold hyK
    rw [hx]
    show _ ↔ (decide (l ≤ (j : Int) ∧ (j : Int) + r ≤ U.length) && decide (lvA U P (fun _ => 0) (j + 1) % 2 = 1)) = true
    rw [Bool.and_eq_true, decide_eq_true_iff, decide_eq_true_iff]
    by_cases h9 : (j : Int) < l ∨ (U.length : Int) - j < r
    · rw [if_pos h9]
      constructor
      · intro h8
        exact absurd h8 (by decide)
      · intro h8
        omega
    · rw [if_neg h9, Int.tmod_eq_emod_of_nonneg n0]
      constructor
      · intro h8
        exact ⟨by omega, h8⟩
      · exact fun h8 => h8.2
  | succ m ih =>
    intro k σ hk hf h1 h2
    have n199 : ∀ σ2 : MS, FrD σ0 σ2 → (∀ j, j < k → j ≤ U.length → mV σ2 126 (j + 1) = mV σ 126 (j + 1)) → (∀ j, k < j → mV σ2 126 (j + 1) = mV σ 126 (j + 1)) → (mV σ2 126 (k + 1) = if (k : Int) < l ∨ (U.length : Int) - k < r then 0 else lvA U P (fun _ => 0) (k + 1)) → Filler_partLetters_199 (U.length : Int) l r (k : Int) σ2 Q := by
      intro σ2 f2 g1 g2 g3
      refine Filler_partLetters_199.i ?_
      rw [show (k : Int) + 1 = ((k + 1 : Nat) : Int) by omega]
      refine ih (k + 1) σ2 (by omega) f2 (fun j j1 j2 => ?_) (fun j j1 j2 => by rw [g2 j (by omega)]; exact h2 j (by omega) j2)
      by_cases e : j = k
      · subst e
        exact g3
      · rw [g1 j (by omega) j2]
        exact h1 j (by omega) j2
    have zero : ((k : Int) < l ∨ (U.length : Int) - k < r) → Filler_partLetters_189 (U.length : Int) l r (k : Int) σ Q := fun h9 => by
      refine Filler_partLetters_189.i ⟨by omega, by omega, ?_⟩
      rw [show ((k : Int) + 1).toNat = k + 1 by omega]
      exact n199 _ (hf.tr FrD.w) (fun j j1 _ => wV_ne (Or.inr (by omega))) (fun j j1 => wV_ne (Or.inr (by omega))) (by rw [wV_self, if_pos h9])
    refine Filler_partLetters_165.i ⟨by unfold Rg; omega, by unfold Rg; omega, fun h9 => absurd h9 (by omega), fun _ => ⟨by unfold Rg; omega, fun h9 => zero (Or.inl h9), fun h9 => ⟨by unfold Rg; omega, fun h8 => ?_, fun h8 => zero (Or.inr h8)⟩⟩⟩
    exact n199 σ hf (fun _ _ _ => rfl) (fun _ _ => rfl) (by rw [if_neg (by omega)]; exact h2 k (Nat.le_refl _) (by omega))
theorem part_59 (hb : HyB P X l r) (hU : U.length ≤ 40) (hR : HyC σ P X l r) (hLt : LtC σ q fr U) (hv : LvC σ (fun _ => 0)) (hq : ∀ σ', FrD σ σ' → DgC σ' P X l r U → Q (.inl none) σ') : ∀ (m : Nat), m ≤ X.length → exF (X.take m) U = exF X U → Filler_partLetters_59 q (fr : Int) ((fr + U.length : Nat) : Int) (U.length : Int) ((m : Int) - 1) σ Q := by
  have k60 := hb.2.2.2.1
  intro m
  induction m with
  | zero =>
    intro hm he
    refine Filler_partLetters_59.i ⟨by decide, fun _ => ?_, fun h9 => absurd h9 (by decide)⟩
    refine part_92 (σ0 := σ) hb hU hR hLt (fun σ' f' R' v' => ?_) P [] (fun _ => 0) σ rfl hR hLt (fun _ => Int.le_refl _) hv FrD.rf rfl
    exact part_165 hb hU (by rw [← he]; rfl) hq (U.length + 1) 0 σ' (by omega) f' (fun j j1 => absurd j1 (Nat.not_lt_zero _)) (fun j _ j2 => v' (j + 1) (by omega))
  | succ m ih =>
    intro hm he
    have hk : m < X.length := by omega
    have et : X.take (m + 1) = X.take m ++ [X.getD m []] := by
      rw [List.take_add_one, List.getElem?_eq_getElem hk, List.getD_eq_getElem?_getD, List.getElem?_eq_getElem hk]
      rfl
    rw [et, exF_sn] at he
    rw [show ((m + 1 : Nat) : Int) - 1 = (m : Int) by omega]
    refine Filler_partLetters_59.i ⟨by unfold Rg; omega, fun h9 => absurd h9 (by omega), fun _ => Filler_isExceptionOf.c hR hb hLt hk ⟨fun h9 => ?_, fun h9 => ?_⟩⟩
    · rw [if_neg (of_decide_eq_false (bZ_z h9))] at he
      show Filler_partLetters_59 q (fr : Int) ((fr + U.length : Nat) : Int) (U.length : Int) ((m : Int) + -1) σ Q
      rw [show (m : Int) + -1 = (m : Int) - 1 by omega]
      exact ih (by omega) he
    · rw [if_pos (of_decide_eq_true (bZ_ne h9))] at he
      obtain ⟨a1, a2, a3⟩ := sh_at (L := X) hk
      have e47 : mX σ 47 = enS 0 X := hR.2.1.2
      refine Filler_layException.i ⟨by unfold Rg; omega, ?_⟩
      rw [e47, a2]
      refine layEx_14 (σ0 := σ) (Q := kV (thQ Q) fun σ2 => Q (.inl none) σ2) hb hk (fun σ' f' v' => hq σ' f' (fun k k1 k2 => ?_)) (X.getD m []) [] σ hR rfl FrD.rf (fun j hj => by rw [hv (j + 1) (by omega)]; rfl)
      rw [v' k (by omega)]
      unfold hyK
      rw [← he]
      show _ ↔ exH (X.getD m []) k 0 = true
      by_cases h8 : exH (X.getD m []) k 0 = true
      · rw [if_pos h8]
        exact ⟨fun _ => h8, fun _ => by decide⟩
      · rw [if_neg h8]
        exact ⟨fun h7 => absurd h7 (by decide), fun h7 => absurd h7 h8⟩
theorem Filler_partLetters.c (hb : HyB P X l r) (hU : U.length ≤ 40) (hR : HyC σ P X l r) (hLt : LtC σ q fr U) (hq : ∀ σ', FrE σ σ' → mV σ' 111 12 = (fr : Int) → DgC σ' P X l r U → Q (.inl none) σ') : Filler_partLetters q (fr : Int) ((fr + U.length : Nat) : Int) σ Q := by
  have l70 := hLt.2.1
  have k60 := hb.2.2.2.1
  refine Filler_partLetters.i ⟨by unfold Rg; omega, ?_⟩
  generalize hσ1 : wV σ 111 12 (fr : Int) = σ1
  have f1 : FrE σ σ1 := by rw [← hσ1]; exact ⟨rfl, rfl, fun z k _ b => wV_ne (by omega)⟩
  refine loopF (P := fun i σ' => Filler_partLetters_8 q (fr : Int) ((fr + U.length : Nat) : Int) i σ' Q) (z := 126) (a := 0) (n := 44) (f := fun _ => 0) (fun i hi k9 => ?_) ?_
  · refine Filler_partLetters_8.i ⟨by unfold Rg; omega, fun h9 => absurd h9 (by omega), fun _ => ⟨by omega, by omega, ?_⟩⟩
    rw [Int.toNat_natCast]
    rw [Nat.zero_add] at k9
    exact k9
  · generalize hσ2 : wF σ1 126 0 (ofF (fun _ => 0) 44) = σ2
    have f2 : FrE σ σ2 := by
      rw [← hσ2]
      exact ⟨f1.1, f1.2.1, fun z k a b => (wF_ne (Or.inl a)).trans (f1.2.2 z k a b)⟩
    have v2 : LvC σ2 (fun _ => 0) := fun k hk => by
      rw [← hσ2]
      have := wF_at (σ := σ1) (z := 126) (a := 0) (L := ofF (fun _ => 0) 44) (j := k) (by rw [ofF_len]; exact hk)
      rw [Nat.zero_add] at this
      rw [this, ofF_get hk]
    have v12 : mV σ2 111 12 = (fr : Int) := by rw [← hσ2, wF_ne (Or.inl (by decide)), ← hσ1, wV_self]
    show Filler_partLetters_8 q (fr : Int) ((fr + U.length : Nat) : Int) ((44 : Nat) : Int) σ2 Q
    refine Filler_partLetters_8.i ⟨by decide, fun _ => ⟨by unfold Rg; omega, fun _ => ?_, fun h9 => absurd h9 (by omega)⟩, fun h9 => absurd h9 (by decide)⟩
    refine rows_s (n := X.length) (by decide +kernel) (by decide +kernel) (by rw [(hR.e f2).2.1.2, enS_len]) ?_
    show Filler_partLetters_59 q (fr : Int) ((fr + U.length : Nat) : Int) (((fr + U.length : Nat) : Int) - (fr : Int)) ((X.length : Int) - 1) σ2 Q
    rw [show ((fr + U.length : Nat) : Int) - (fr : Int) = (U.length : Int) by omega]
    refine part_59 hb hU (hR.e f2) (hLt.e f2) v2 (fun σ' f' d' => hq σ' ⟨f'.1.trans f2.1, f'.2.1.trans f2.2.1, fun z k a b => (f'.2.2 z k a).trans (f2.2.2 z k a b)⟩ (by rw [f'.2.2 _ _ (by decide)]; exact v12) d') X.length (Nat.le_refl _) (by rw [List.take_length])
theorem Filler_parts.c {k : Nat} (hU : U.length ≤ 40) (hk : k < U.length) (hd : DgC σ P X l r U) (hq : Q (.inl (some (bZ (decide (1 ≤ k) && hyK P X l r U k)))) σ) : Filler_parts (k : Int) σ Q := by
  refine Filler_parts.i ⟨by unfold Rg; omega, fun h9 => ?_, fun h9 => ⟨by unfold Rg; omega, fun h8 => absurd h8 (by omega), fun _ => ⟨by omega, by omega, by decide, ?_⟩⟩⟩
  · rw [decide_eq_false (by omega), Bool.false_and] at hq
    exact hq
  · rw [decide_eq_true (by omega), Bool.true_and] at hq
    have h7 := hd k (by omega) hk
    rw [show ((k : Int) + 1).toNat = k + 1 by omega]
    refine ⟨fun h6 => ?_, fun h6 => ?_⟩
    · cases h5 : hyK P X l r U k with
      | true => exact absurd (h7.mpr h5) h6
      | false =>
        rw [h5] at hq
        exact hq
    · rw [h7.mp h6] at hq
      exact hq
end
