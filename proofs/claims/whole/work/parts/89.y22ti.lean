/-! TEXTS: the bounds hold behind every text -/
def EI (E : TE) : Prop :=
  (E.1.2.1.length = E.1.1.length ∧ E.1.2.2.length = E.1.1.length ∧ E.1.1.length ≤ 40 ∧ smW 12 E.1.1 ∧ (∀ x ∈ E.1.2.1, 0 ≤ x ∧ x ≤ 9) ∧ smW 4000 E.1.2.2) ∧
  (E.2.1.2.1.length = E.2.1.1.length ∧ E.2.1.2.2.1.length = E.2.1.1.length ∧ E.2.1.1.length ≤ 60 ∧ smW 12 E.2.1.1 ∧ smW 32 E.2.1.2.1 ∧ (∀ x ∈ E.2.1.2.2.1, 0 ≤ x ∧ x ≤ 100) ∧ (0 ≤ E.2.1.2.2.2.1 ∧ E.2.1.2.2.2.1 ≤ 999) ∧ (0 < E.2.1.1.length → 1 ≤ E.2.1.2.2.2.2 ∧ E.2.1.2.2.2.2 ≤ 5)) ∧
  (E.2.2.1.length ≤ 32 ∧ smB E.2.2.1) ∧ (0 ≤ E.2.2.2 ∧ E.2.2.2 ≤ 2)
theorem smW.app {n : Nat} {W : List (List Int)} {w : List Int} (h : smW n W) (hw : w.length ≤ n ∧ smB w) : smW n (W ++ [w]) := fun x hx => by
  rcases List.mem_append.mp hx with hx | hx
  · exact h x hx
  · rw [List.mem_singleton.mp hx]; exact hw
theorem smW.at {n : Nat} {W : List (List Int)} (h : smW n W) (i : Nat) : (W.getD i []).length ≤ n ∧ smB (W.getD i []) := by
  rw [List.getD_eq_getElem?_getD]
  cases e : W[i]? with
  | none => exact ⟨Nat.zero_le _, smB.nil⟩
  | some w => exact h w (List.mem_of_getElem? e)
theorem suM_sn {W : List (List Int)} {w : List Int} : suM (W ++ [w]) = suM W + w.length := by
  rw [suM_app]
  rfl
theorem suM_le {W : List (List Int)} : ∀ (i : Nat), (W.getD i []).length ≤ suM W := by
  induction W with
  | nil => intro i; exact Nat.zero_le _
  | cons w W ih =>
    intro i
    cases i with
    | zero => show w.length ≤ w.length + suM W; omega
    | succ i =>
      have := ih i
      show (W.getD i []).length ≤ w.length + suM W
      omega
theorem keyD_i {a : List Int} (h : keyD a = true) : 1 ≤ a.length ∧ a.length ≤ 12 := by
  unfold keyD at h
  rw [Bool.and_eq_true] at h
  exact of_decide_eq_true h.1
section
variable {p v : Int} {s s' : TS} {W : List (List Int)} {E : TE}
theorem gv1_ti {k : Int} (h : TI p v s) (hW : okM9 W) (e : gv1 k W s = .inl s') : TI p v s' := by
  unfold gv1 at e
  split at e
  · exact h.ps ((hW.at 0).sub (fun x hx => List.mem_reverse.mp hx)) e
  · split at e
    · split at e
      · exact h.ps (rep_ok (hW.at 1) _) e
      · cases e
    · split at e
      · split at e
        · split at e
          · exact h.ps ((hW.at 2).sub (fun x hx => List.mem_of_mem_drop (List.mem_of_mem_take hx))) e
          · cases e
        · cases e
      · split at e
        · split at e
          · exact h.ps (nwD_ok (hW.at 1)) e
          · cases e
        · split at e
          · split at e
            · exact h.ps (rcL_ok (hW.at 1)) e
            · cases e
          · exact h.ps (rcL_ok (hW.at 0)) e
theorem gv2_ti {k : Int} (h : TI p v s) (e : gv2 k W s = .inl s') : TI p v s' := by
  unfold gv2 at e
  split at e
  · exact h.pn wrN_s e
  · split at e
    · exact h.pn wrN_s e
    · split at e
      · split at e
        · exact h.pn wrN_s e
        · cases e
      · split at e
        · exact h.pn wrN_s e
        · cases e
theorem mem_set {L : List Int} {i : Nat} {x y : Int} (h : y ∈ L.set i x) : y = x ∨ y ∈ L := by
  rcases List.mem_or_eq_of_mem_set h with h | h
  · exact Or.inr h
  · exact Or.inl h
theorem gv3_ti {k : Int} (h : TI p v s) (hv : 1 ≤ v) (e : gv3 k W s = .inl s') : TI p (v - 1) s' := by
  obtain ⟨a, ⟨b1, b2, b3, b4⟩, c, d, e9, ⟨f1, f2, f3⟩, g⟩ := id h
  unfold gv3 at e
  split at e
  · rename_i hk
    have k1 := keyD_i hk.1
    split at e
    · split at e
      · split at e
        · cases e
        · rename_i hl
          refine TI.pn (s := sCn s (s.2.2.1.1 ++ [ms7 (W.getD 0 [])]) (s.2.2.1.2 ++ [1])) ?_ wrN_s e
          refine ⟨a, ⟨?_, ?_, b3.app ⟨by rw [ms7_len]; exact k1.2, ms7_sm⟩, fun x hx => ?_⟩, c, d, e9, ⟨f1, by show s.2.2.2.2.2.2 + (v - 1) ≤ s.1.2.1; omega, by show v - 1 ≤ s.1.1; omega⟩, g⟩
          · show (s.2.2.1.2 ++ [1]).length = (s.2.2.1.1 ++ [ms7 (W.getD 0 [])]).length
            rw [List.length_append, List.length_append, b1]
            rfl
          · show (s.2.2.1.1 ++ [ms7 (W.getD 0 [])]).length ≤ 20
            rw [List.length_append, List.length_singleton]
            omega
          · show 0 ≤ x ∧ x + (v - 1) ≤ s.1.1
            rcases List.mem_append.mp hx with hx | hx
            · have := b4 x hx; omega
            · rw [List.mem_singleton.mp hx]; omega
      · exact (h.mo (Int.le_refl _) (by omega)).pn wrN_s e
    · split at e
      · refine TI.pn (s := sCn s s.2.2.1.1 (s.2.2.1.2.set (ixW s.2.2.1.1 0 (ms7 (W.getD 0 []))).toNat (s.2.2.1.2.getD (ixW s.2.2.1.1 0 (ms7 (W.getD 0 []))).toNat 0 + 1))) ?_ wrN_s e
        refine ⟨a, ⟨?_, b2, b3, fun x hx => ?_⟩, c, d, e9, ⟨f1, by show s.2.2.2.2.2.2 + (v - 1) ≤ s.1.2.1; omega, by show v - 1 ≤ s.1.1; omega⟩, g⟩
        · show (s.2.2.1.2.set _ _).length = s.2.2.1.1.length
          rw [List.length_set, b1]
        · show 0 ≤ x ∧ x + (v - 1) ≤ s.1.1
          rcases mem_set hx with rfl | hx
          · rw [List.getD_eq_getElem?_getD]
            cases hg : s.2.2.1.2[(ixW s.2.2.1.1 0 (ms7 (W.getD 0 []))).toNat]? with
            | none =>
              show 0 ≤ (0 : Int) + 1 ∧ (0 : Int) + 1 + (v - 1) ≤ s.1.1
              omega
            | some y =>
              have := b4 y (List.mem_of_getElem? hg)
              show 0 ≤ y + 1 ∧ y + 1 + (v - 1) ≤ s.1.1
              omega
          · have := b4 x hx; omega
      · exact (h.mo (Int.le_refl _) (by omega)).pn wrN_s e
  · cases e
theorem ps_b : ∀ {L : List Int} {s s' : TS}, tPs L s = .inl s' → s.1.1 ≤ 60000 → s.1.2.1 ≤ 400000 → s.1.1 + L.length ≤ 60000 ∧ s.1.2.1 + L.length ≤ 400000
  | [], s, s', _, h1, h2 => ⟨by rw [List.length_nil]; omega, by rw [List.length_nil]; omega⟩
  | c :: r, s, s', e, h1, h2 => by
    obtain ⟨s1, h3, h4⟩ := bd_i e
    obtain ⟨e1, e2, e3⟩ := pt_i h3
    subst e1
    have := ps_b h4 e2 e3
    rw [List.length_cons]
    have a : (sOu (sWk s (s.1.1 + 1) (s.1.2.1 + 1)) (s.2.1 ++ [c])).1.1 = s.1.1 + 1 := rfl
    have b : (sOu (sWk s (s.1.1 + 1) (s.1.2.1 + 1)) (s.2.1 ++ [c])).1.2.1 = s.1.2.1 + 1 := rfl
    rw [a, b] at this
    omega
theorem TI.add {L : List Int} (h : TI p v s) (hL : okK L) (h1 : s.1.1 + L.length ≤ 60000) (h2 : s.1.2.1 + L.length ≤ 400000) : TI p v (sOu (sWk s (s.1.1 + L.length) (s.1.2.1 + L.length)) (s.2.1 ++ L)) := by
  obtain ⟨⟨a1, a2, a3, a4⟩, ⟨b1, b2, b3, b4⟩, c, d, e, ⟨f1, f2, f3⟩, g⟩ := h
  refine ⟨⟨⟨by show 0 ≤ s.1.1 + (L.length : Int); omega, h1⟩, ⟨by show 0 ≤ s.1.2.1 + (L.length : Int); omega, h2⟩, a3, a4.app hL⟩, ⟨b1, b2, b3, fun x hx => ?_⟩, c, d, e, ⟨f1, ?_, ?_⟩, ?_⟩
  · have := b4 x hx
    show 0 ≤ x ∧ x + v ≤ s.1.1 + L.length
    omega
  · show s.2.2.2.2.2.2 + v ≤ s.1.2.1 + L.length
    omega
  · show v ≤ s.1.1 + L.length
    omega
  · show (suM s.2.2.2.2.1.1 : Int) + suM s.2.2.2.2.2.1.1 + ((s.2.1 ++ L).length : Nat) + p ≤ s.1.1 + L.length + 100
    rw [List.length_append]
    omega
theorem gvN_ti (h : TI p v s) (hW : okM9 W) (e : gvN W s = .inl s') : TI (p - suM W) v s' := by
  unfold gvN at e
  split at e
  · cases e
  · rename_i hn
    obtain ⟨s1, h1, h2⟩ := bd_i e
    cases h2
    obtain ⟨a, b, c, d, ⟨e1, e2, e3, e4⟩, f, g⟩ := h
    have hb := ps_b h1 a.1.2 a.2.1.2
    have hi := ps_i h1
    have hle := suM_le (W := W) 0
    have t2 : TI (p - suM W) v (sNo s (s.2.2.2.2.2.1.1 ++ [W.getD 0 []]) (s.2.2.2.2.2.1.2.1 ++ [((pkL s1.2.1).length : Int) - 1]) (s.2.2.2.2.2.1.2.2 + 1)) := by
      refine ⟨a, b, c, d, ⟨?_, ?_, ?_, ?_⟩, f, ?_⟩
      · show (s.2.2.2.2.2.1.2.1 ++ [((pkL s1.2.1).length : Int) - 1]).length = (s.2.2.2.2.2.1.1 ++ [W.getD 0 []]).length
        rw [List.length_append, List.length_append, e1]
        rfl
      · show ((s.2.2.2.2.2.1.1 ++ [W.getD 0 []]).length : Int) ≤ s.2.2.2.2.2.1.2.2 + 1
        rw [List.length_append, List.length_singleton]
        omega
      · show s.2.2.2.2.2.1.2.2 + 1 ≤ 60
        omega
      · intro w hw
        rcases List.mem_append.mp hw with hw | hw
        · exact e4 w hw
        · rw [List.mem_singleton.mp hw]; exact hW.at 0
      · show (suM s.2.2.2.2.1.1 : Int) + suM (s.2.2.2.2.2.1.1 ++ [W.getD 0 []]) + s.2.1.length + (p - suM W) ≤ s.1.1 + 100
        rw [suM_sn]
        omega
    have t3 := t2.add (L := (91 :: (wrN (s.2.2.2.2.2.1.2.2 + 1) 1 ++ [93])).map (cdS s.1.2.2)) (cdL_ok a.2.2.1 ((smB.one (x := 91) (by decide)).app (wrN_s.app (smB.one (by decide))))) hb.1 hb.2
    rw [hi] at t3 ⊢
    exact t3
theorem gvL_ti (hE : EI E) (h : TI p v s) (e : gvL E W s = .inl s') : TI p v s' := by
  unfold gvL at e
  split at e
  · rename_i hk
    have k1 := keyD_i hk
    split at e
    · split at e
      · cases e
      · rename_i hl
        cases e
        obtain ⟨a, b, ⟨c1, c2, c3, c4, c5⟩, d, e9, f, g⟩ := h
        refine ⟨a, b, ⟨?_, ?_, ?_, c4.app ⟨by rw [ms7_len]; exact k1.2, ms7_sm⟩, c5.app ⟨hE.2.2.1.1, hE.2.2.1.2⟩⟩, d, e9, f, g⟩
        · show (s.2.2.2.1.2.1 ++ [E.2.2.1]).length = (s.2.2.2.1.1 ++ [ms7 (W.getD 0 [])]).length
          rw [List.length_append, List.length_append, c1]
          rfl
        · show (s.2.2.2.1.2.2 ++ [lsP (pkL s.2.1)]).length = (s.2.2.2.1.1 ++ [ms7 (W.getD 0 [])]).length
          rw [List.length_append, List.length_append, c2]
          rfl
        · show (s.2.2.2.1.1 ++ [ms7 (W.getD 0 [])]).length ≤ 60
          rw [List.length_append, List.length_singleton]
          omega
    · cases e
  · cases e
theorem gvI_ti (h : TI p v s) (e : gvI W s = .inl s') : TI (p - suM W) v s' := by
  unfold gvI at e
  split at e
  · cases e
  · split at e
    · cases e
    · rename_i hl
      cases e
      obtain ⟨a, b, c, ⟨d1, d2, d3⟩, e9, f, g⟩ := h
      have hle := suM_le (W := W) 0
      have hpk := pkL_len (L := W.getD 0 [])
      refine ⟨a, b, c, ⟨?_, ?_, fun w hw => ?_⟩, e9, f, ?_⟩
      · show (s.2.2.2.2.1.2 ++ [lsP (pkL s.2.1)]).length = (s.2.2.2.2.1.1 ++ [ms7 (pkL (W.getD 0 []))]).length
        rw [List.length_append, List.length_append, d1]
        rfl
      · show (s.2.2.2.2.1.1 ++ [ms7 (pkL (W.getD 0 []))]).length ≤ 100
        rw [List.length_append, List.length_singleton]
        omega
      · rcases List.mem_append.mp hw with hw | hw
        · exact d3 w hw
        · rw [List.mem_singleton.mp hw]; exact ms7_sm
      · show (suM (s.2.2.2.2.1.1 ++ [ms7 (pkL (W.getD 0 []))]) : Int) + suM s.2.2.2.2.2.1.1 + s.2.1.length + (p - suM W) ≤ s.1.1 + 100
        rw [suM_sn, ms7_len]
        omega
theorem gvR_ti {k : Int} (hE : EI E) (h : TI p v s) (hv : 1 ≤ v) (e : gvR E k W s = .inl s') : TI p (v - 1) s' := by
  unfold gvR at e
  split at e
  · split at e
    · obtain ⟨a, ⟨b1, b2, b3, b4⟩, c, d, e9, ⟨f1, f2, f3⟩, g⟩ := h
      refine TI.pn (s := sUn s (s.2.2.2.2.2.2 + 1)) ⟨a, ⟨b1, b2, b3, fun x hx => ?_⟩, c, d, e9, ⟨?_, ?_, ?_⟩, g⟩ ((smB.one (x := 63) (by decide)).app (smB.one (by decide))) e
      · have := b4 x hx
        show 0 ≤ x ∧ x + (v - 1) ≤ s.1.1
        omega
      · show 0 ≤ s.2.2.2.2.2.2 + 1
        omega
      · show s.2.2.2.2.2.2 + 1 + (v - 1) ≤ s.1.2.1
        omega
      · show v - 1 ≤ s.1.1
        omega
    · split at e
      · exact (h.mo (Int.le_refl _) (by omega)).pn (hE.2.1.2.2.2.2.1.at _).2 e
      · exact (h.mo (Int.le_refl _) (by omega)).pn wrN_s e
  · cases e
theorem gvD_ti {k : Int} (hE : EI E) (h : TI p v s) (hv : 1 ≤ v) (hW : okM9 W) (e : gvD E k W s = .inl s') : TI (p - suM W) (v - 1) s' := by
  have m1 : ∀ {s' : TS}, TI p v s' → TI (p - suM W) (v - 1) s' := fun t => t.mo (by omega) (by omega)
  unfold gvD at e
  split at e
  · exact m1 (gv1_ti h hW e)
  · split at e
    · exact m1 (gv2_ti h e)
    · split at e
      · exact (gv3_ti h hv e).mo (by omega) (Int.le_refl _)
      · split at e
        · exact (gvN_ti h hW e).mo (Int.le_refl _) (by omega)
        · split at e
          · exact m1 (gvL_ti hE h e)
          · split at e
            · exact (gvI_ti h e).mo (Int.le_refl _) (by omega)
            · exact (gvR_ti hE h hv e).mo (by omega) (Int.le_refl _)
/-- what is within keeps the bounds and the style -/
def SubOk (sub : Sub9) : Prop := ∀ (a : Bool) (f : List (List Int)) (T : List Int) (s s' : TS) (p v : Int), 0 ≤ p → 0 ≤ v → TI p v s → okM9 f → smB T → sub a f T s = .inl s' → TI p v s' ∧ s'.1.2.2 = s.1.2.2
theorem smB.sg {T : List Int} (h : smB T) {a b : Nat} : smB (sgT T a b) := fun x hx => h x (List.mem_of_mem_drop (List.mem_of_mem_take hx))
theorem ea_ti {sub : Sub9} (hs : SubOk sub) {f : List (List Int)} (hf : okM9 f) {T : List Int} (hT : smB T) : ∀ {sp : List (Nat × Nat)} {s : TS} {p v : Int} {w : List (List Int) × TS}, 0 ≤ p → 0 ≤ v → TI p v s → eaD sub f T sp s = .inl w → TI (p + suM w.1) v w.2 ∧ okM9 w.1 ∧ w.1.length = sp.length ∧ w.2.1.2.2 = s.1.2.2 ∧ w.2.2.1 = s.2.1
  | [], s, p, v, w, hp, hv, h, e => by
    cases e
    refine ⟨?_, fun x hx => absurd hx List.not_mem_nil, rfl, rfl, rfl⟩
    show TI (p + ((0 : Nat) : Int)) v s
    rw [show p + ((0 : Nat) : Int) = p by omega]
    exact h
  | q :: r, s, p, v, w, hp, hv, h, e => by
    unfold eaD at e
    split at e
    · cases e
    · rename_i s1 h1
      split at e
      · cases e
      · rename_i w1 h2
        cases e
        have t1 := h.ou (L := []) okK.nil
        rw [List.length_nil] at t1
        obtain ⟨t2, y2⟩ := hs true f (sgT T q.1 q.2) (sOu s []) s1 (p + s.2.1.length - ((0 : Nat) : Int)) v (by omega) hv t1 hf hT.sg h1
        have t3 := t2.ou (L := s.2.1) h.1.2.2.2
        have t4 : TI (p + s1.2.1.length) v (sOu s1 s.2.1) := t3.mo (by omega) (Int.le_refl _)
        obtain ⟨u1, u2, u3, u4, u5⟩ := ea_ti hs hf hT (sp := r) (p := p + s1.2.1.length) (by omega) hv t4 h2
        refine ⟨?_, fun x hx => ?_, ?_, ?_, u5⟩
        · show TI (p + ((s1.2.1.length + suM w1.1 : Nat) : Int)) v w1.2
          exact u1.mo (by omega) (Int.le_refl _)
        · rcases List.mem_cons.mp hx with rfl | hx
          · exact t2.1.2.2.2
          · exact u2 x hx
        · show w1.1.length + 1 = r.length + 1
          rw [u3]
        · rw [u4]
          exact y2
theorem ca_ti {sub : Sub9} (hs : SubOk sub) (hE : EI E) {a : Bool} {f : List (List Int)} (hf : okM9 f) {T : List Int} (hT : smB T) {q : Nat} (hp : 0 ≤ p) (hv : 0 ≤ v) (h : TI p v s) (e : caW sub E a f T q s = .inl s') : TI p v s' := by
  unfold caW at e
  obtain ⟨s1, h1, h2⟩ := bd_i e
  have t1 := h.sp (by decide) h1
  split at h2
  · cases h2
  · split at h2
    · cases h2
    · split at h2
      · cases h2
      · split at h2
        · cases h2
        · rename_i w hw
          obtain ⟨u1, u2, u3, u4, u5⟩ := ea_ti hs hf hT (by omega) (by omega) t1 hw
          unfold caG at h2
          split at h2
          · exact (hs a w.1 _ w.2 s' p v hp hv (u1.mo (by omega) (by omega)) u2 (hE.1.2.2.2.2.2.at _).2 h2).1
          · split at h2
            · split at h2
              · exact (hs a f _ w.2 s' p v hp hv (u1.mo (by omega) (by omega)) hf hT.sg h2).1
              · exact (hs a f _ w.2 s' p v hp hv (u1.mo (by omega) (by omega)) hf hT.sg h2).1
            · exact (gvD_ti hE u1 (by omega) u2 h2).mo (by omega) (by omega)
theorem st_x1 {y : Int} (h : 0 ≤ y ∧ y ≤ 3) : 0 ≤ (if y % 2 = 0 then y + 1 else y - 1) ∧ (if y % 2 = 0 then y + 1 else y - 1) ≤ 3 := by
  split <;> omega
theorem st_x2 {y : Int} (h : 0 ≤ y ∧ y ≤ 3) : 0 ≤ (if y < 2 then y + 2 else y - 2) ∧ (if y < 2 then y + 2 else y - 2) ≤ 3 := by
  split <;> omega
theorem wk_ti {sub : Sub9} (hs : SubOk sub) (hE : EI E) {a : Bool} {f : List (List Int)} (hf : okM9 f) {T : List Int} (hT : smB T) (hp : 0 ≤ p) (hv : 0 ≤ v) : ∀ (n q : Nat) (s s' : TS), TI p v s → wkP sub E a f T n q s = .inl s' → TI p v s'
  | 0, q, s, s', h, e => by cases e; exact h
  | n + 1, q, s, s', h, e => by
    have y3 := h.1.2.2.1
    unfold wkP at e
    split at e
    · cases e; exact h
    · rename_i hq
      split at e
      · split at e
        · cases e
        · rename_i hq1
          split at e
          · obtain ⟨s1, h1, h2⟩ := bd_i e
            exact wk_ti hs hE hf hT hp hv n _ s1 s' (ca_ti hs hE hf hT hp hv h h1) h2
          · obtain ⟨s1, h1, h2⟩ := bd_i e
            refine wk_ti hs hE hf hT hp hv n _ s1 s' (h.pt ?_ h1) h2
            split
            · exact cd_hard y3
            · exact cd_ok y3 (hT.b (by omega))
      · split at e
        · split at e
          · cases e
          · obtain ⟨s1, h1, h2⟩ := bd_i e
            exact wk_ti hs hE hf hT hp hv n _ s1 s' (hs a f _ s s1 p v hp hv h hf hT.sg h1).1 h2
        · split at e
          · cases e
          · split at e
            · split at e
              · obtain ⟨s1, h1, h2⟩ := bd_i e
                exact wk_ti hs hE hf hT hp hv n _ s1 s' (h.ps (hf.at _) h1) h2
              · cases e
            · split at e
              · exact wk_ti hs hE hf hT hp hv n _ _ s' (h.st (st_x1 y3)) e
              · split at e
                · exact wk_ti hs hE hf hT hp hv n _ _ s' (h.st (st_x2 y3)) e
                · obtain ⟨s1, h1, h2⟩ := bd_i e
                  exact wk_ti hs hE hf hT hp hv n _ s1 s' (h.pt (cd_ok y3 (hT.b (by omega))) h1) h2
theorem is_ti (hE : EI E) : ∀ D : Nat, SubOk (isD D E)
  | 0, a, f, T, s, s', p, v, hp, hv, h, hf, hT, e => by cases e
  | D + 1, a, f, T, s, s', p, v, hp, hv, h, hf, hT, e => by
    obtain ⟨s1, h1, h2⟩ := bd_i e
    obtain ⟨s2, h3, h4⟩ := bd_i h2
    cases h4
    have t1 := h.sp (by decide) h1
    obtain ⟨e1, -, -⟩ := sp_i h1
    rw [wkD_i] at h3
    have t2 := wk_ti (is_ti hE D) hE hf hT hp hv _ _ s1 s2 (t1.mo (by omega) (by omega)) h3
    have y1 : s1.1.2.2 = s.1.2.2 := by rw [e1]; rfl
    exact ⟨t2.st (by rw [y1]; exact h.1.2.2.1), y1⟩
theorem wkD_ti (hE : EI E) {D : Nat} {a : Bool} {f : List (List Int)} {T : List Int} (hp : 0 ≤ p) (hv : 0 ≤ v) (h : TI p v s) (hf : okM9 f) (hT : smB T) (e : wkD D E a f T s = .inl s') : TI p v s' := by
  rw [wkD_i] at e
  exact wk_ti (is_ti hE D) hE hf hT hp hv _ _ s s' h e
end
