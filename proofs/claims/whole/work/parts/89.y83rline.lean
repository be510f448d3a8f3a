/-! ONE LINE IS LAID: the reference -/
def hoL (σ : MS) (zg zy a : Nat) (L : List Int) : Prop := ∀ i, i < L.length → mV σ zg (a + i) = L.getD i 0 % 128 ∧ mV σ zy (a + i) = cyB (L.getD i 0)
/-- the line under way -/
def LbR (σ : MS) (D : List Int) : Prop := mV σ 246 160 = (D.length : Int) ∧ hoL σ 338 339 0 D
theorem hoL.cg {σ σ' : MS} {zg zy a : Nat} {L : List Int} (h : hoL σ zg zy a L) (e : ∀ k, a ≤ k → k < a + L.length → mV σ' zg k = mV σ zg k ∧ mV σ' zy k = mV σ zy k) : hoL σ' zg zy a L := fun i hi => by
  have := e (a + i) (by omega) (by omega)
  rw [this.1, this.2]
  exact h i hi
theorem snoc_at {L : List Int} {c : Int} {i : Nat} : (L ++ [c]).getD i 0 = if i < L.length then L.getD i 0 else if i = L.length then c else 0 := by
  unfold List.getD
  by_cases h : i < L.length
  · rw [if_pos h, List.getElem?_append_left h]
  · rw [if_neg h, List.getElem?_append_right (by omega)]
    by_cases h2 : i = L.length
    · rw [if_pos h2, h2, Nat.sub_self]
      rfl
    · rw [if_neg h2, List.getElem?_eq_none (by show 1 ≤ _; omega)]
      rfl
/-- the words of a raw row, from a sign on -/
def rsC : List Int → List Int
  | [] => []
  | c :: r => if sbl c = true then (if sbl (r.headD 32) = true then rsC r else 32 :: rsC r) else c :: rsC r
theorem rsC_s {c : Int} {r : List Int} (h : sbl c = false) : rsC (c :: r) = c :: rsC r := by
  show (if sbl c = true then _ else _) = _
  rw [h]
  rfl
theorem rsC_b {c : Int} {r : List Int} (h : sbl c = true) (h2 : sbl (r.headD 32) = true) : rsC (c :: r) = rsC r := by
  show (if sbl c = true then (if sbl (r.headD 32) = true then _ else _) else _) = _
  rw [if_pos h, if_pos h2]
theorem rsC_g {c : Int} {r : List Int} (h : sbl c = true) (h2 : sbl (r.headD 32) = false) : rsC (c :: r) = 32 :: rsC r := by
  show (if sbl c = true then (if sbl (r.headD 32) = true then _ else _) else _) = _
  rw [if_pos h, h2]
  rfl
theorem sgT_h {L : List Int} {k b : Nat} (hk : k < b) (hb : b ≤ L.length) : (sgT L k b).headD 32 = L.getD k 0 := by
  rw [sgT_c hk hb]
  rfl
theorem n32 {c : Int} (h : sbl c = false) : ¬ c = 32 := fun e => by
  rw [e] at h
  exact absurd h (by decide)
theorem gP_bl {L : List Int} {b : Nat} (h1 : 1 ≤ b) (hb : b ≤ L.length) (hs : sbl (L.getD (b - 1) 0) = false) : gP L b ≤ (pkL L).length := by
  rw [(gP_fn h1 hb hs).1]
  obtain ⟨t, ht⟩ := pkL_pre (L := L) b
  rw [ht, List.length_append]
  omega
/-- what the reference goes through is what is packed -/
theorem rs_pk {L : List Int} {a b : Nat} (hb : b ≤ L.length) (hb1 : sbl (L.getD (b - 1) 0) = false) : ∀ (n k : Nat), k + n = b → a ≤ k → (k = b ∨ sbl (L.getD k 0) = false → rsC (sgT L k b) = sgT (pkL L) (gP L k) (gP L b)) ∧ (a < k → k < b → sbl (L.getD k 0) = true → rsC (sgT L k b) = 32 :: sgT (pkL L) (gP L (k + 1)) (gP L b)) := by
  intro n
  induction n with
  | zero =>
    intro k hk ha
    have e : k = b := by omega
    refine ⟨fun _ => ?_, fun _ h => by omega⟩
    rw [e, sgT_n, sgT_n]
    rfl
  | succ n ih =>
    intro k hk ha
    have h := ih (k + 1) (by omega) (by omega)
    have hbl := gP_bl (L := L) (b := b) (by omega) hb hb1
    refine ⟨fun h9 => ?_, fun hak hkb h9 => ?_⟩
    · have hs : sbl (L.getD k 0) = false := h9.resolve_left (by omega)
      have hn := gP_n (L := L) (k := k) (by omega) hs
      have hat := gP_at (L := L) (k := k) (by omega) hs
      have hm := gP_mono (L := L) (j := k + 1) (k := b) (by omega) hb
      rw [sgT_c (by omega) hb, rsC_s hs, sgT_c (U := pkL L) (k := gP L k) (by omega) hbl, hat.1, ← hn.1]
      congr 1
      by_cases h8 : k + 1 = b ∨ sbl (L.getD (k + 1) 0) = false
      · exact h.1 h8
      · have hb8 : sbl (L.getD (k + 1) 0) = true := by
          cases e : sbl (L.getD (k + 1) 0)
          · exact absurd (Or.inr e) h8
          · rfl
        have hkb : k + 1 < b := by omega
        have he := gP_e (L := L) (k := k + 1) (by omega) (by omega) hs hb8
        have hm2 := gP_mono (L := L) (j := k + 1 + 1) (k := b) (by omega) hb
        have hw := gP_w (L := L) (e := k + 1) (by omega) (by omega) hs (Or.inr hb8)
        rw [h.2 (by omega) hkb hb8, sgT_c (U := pkL L) (k := gP L (k + 1)) (by omega) hbl, ← he]
        congr 1
        rcases hw with hw | hw
        · omega
        · exact hw.symm
    · have hkb2 : k + 1 < b := by
        by_cases h7 : k + 1 = b
        · rw [show b - 1 = k by omega, h9] at hb1
          exact absurd hb1 (by decide)
        · omega
      rw [sgT_c (by omega) hb]
      by_cases h8 : sbl (L.getD (k + 1) 0) = false
      · rw [rsC_g h9 (by rw [sgT_h hkb2 hb]; exact h8), h.1 (Or.inr h8)]
      · have hb8 : sbl (L.getD (k + 1) 0) = true := by
          cases e : sbl (L.getD (k + 1) 0)
          · exact absurd e h8
          · rfl
        have he := gP_bb (L := L) (k := k + 1) (by omega) (by omega) h9 hb8
        rw [rsC_b h9 (by rw [sgT_h hkb2 hb]; exact hb8), h.2 (by omega) hkb2 hb8, he]
theorem rs_all {L : List Int} {a b : Nat} (hab : a < b) (hb : b ≤ L.length) (ha1 : sbl (L.getD a 0) = false) (hb1 : sbl (L.getD (b - 1) 0) = false) : rsC (sgT L a b) = sgT (pkL L) (gP L a) (gP L b) := (rs_pk (a := a) hb hb1 (b - a) a (by omega) (Nat.le_refl _)).1 (Or.inr ha1)
section
variable {σ σ0 : MS} {Q : MQ9} {u : Nat} {L D : List Int}
theorem R_adds.p {c : Int} (hD : LbR σ D) (hl : D.length < 400) (hq : ∀ σ', FrZ [338, 339] [160] σ σ' → LbR σ' (D ++ [c]) → Q (.inl none) σ') : R_adds (c % 128) (cyB c) σ Q := by
  have e0 := hD.1
  refine R_adds.i ⟨by omega, by omega, by omega, by omega, by unfold Rg; omega, ?_⟩
  rw [e0, Int.toNat_natCast, b8_id (x := c % 128) (by omega), b8_id (x := c % 128) (by omega), cyB_b]
  refine hq _ (((FrZ.wz (by decide)).tr (FrZ.wz (by decide))).tr (FrZ.wf (by decide))) ⟨?_, fun i hi => ?_⟩
  · rw [wV_self, List.length_append]
    rfl
  · rw [List.length_append] at hi
    have hi : i < D.length + 1 := hi
    rw [Nat.zero_add, snoc_at]
    by_cases h : i < D.length
    · have := hD.2 i h
      rw [Nat.zero_add] at this
      rw [if_pos h, wV_ne (Or.inl (by decide)), wV_ne (Or.inl (by decide)), wV_ne (Or.inr (by omega)), wV_ne (Or.inl (by decide)), wV_ne (Or.inr (by omega)), wV_ne (Or.inl (by decide))]
      exact this
    · have e : i = D.length := by omega
      rw [if_neg h, if_pos e, e, wV_ne (Or.inl (by decide)), wV_ne (Or.inl (by decide)), wV_self, wV_ne (Or.inl (by decide)), wV_self]
      exact ⟨rfl, rfl⟩
theorem R_blanks.p {n : Int} (hn : n ≤ 400) (hn2 : -100000 ≤ n) (hD : LbR σ D) (hl : D.length + n.toNat ≤ 400) (hq : ∀ σ', FrZ [338, 339] [160] σ σ' → LbR σ' (D ++ List.replicate n.toNat 32) → Q (.inl none) σ') : R_blanks n σ Q := by
  have key : ∀ (m k : Nat) (σ1 : MS), k + m = n.toNat → FrZ [338, 339] [160] σ σ1 → LbR σ1 (D ++ List.replicate k 32) → R_blanks_2 n (k : Int) σ1 Q := by
    intro m
    induction m with
    | zero =>
      intro k σ1 hk hf hb
      rw [show k = n.toNat by omega] at hb
      exact R_blanks_2.i ⟨by unfold Rg; omega, by unfold Rg; omega, fun _ => hq σ1 hf hb, fun h9 => absurd h9 (by omega)⟩
    | succ m ih =>
      intro k σ1 hk hf hb
      refine R_blanks_2.i ⟨by unfold Rg; omega, by unfold Rg; omega, fun h9 => absurd h9 (by omega), fun _ => R_adds.p (c := 32) hb (by rw [List.length_append, List.length_replicate]; omega) (fun σ2 f2 b2 => ?_)⟩
      show R_blanks_2 n ((k : Int) + 1) σ2 Q
      rw [List.append_assoc, show List.replicate k (32 : Int) ++ [32] = List.replicate (k + 1) 32 from List.replicate_succ'.symm] at b2
      exact ih (k + 1) σ2 (by omega) (hf.tr f2) b2
  refine R_blanks.i (key n.toNat 0 σ (by omega) FrZ.rf ?_)
  rw [List.replicate_zero, List.append_nil]
  exact hD
theorem R_taken.p (hok : okK L) (hu : u + L.length ≤ 139000) (hG : hoG σ 254 255 u L) {a b : Nat} (hb : b ≤ L.length) (hb1 : sbl (L.getD (b - 1) 0) = false) (hab : a < b) (hq : Q (.inl (some ((rsC (sgT L a b)).length : Int))) σ) : R_taken ((u + a : Nat) : Int) ((u + b : Nat) : Int) σ Q := by
  have key : ∀ (n k g : Nat), k + n = b → a ≤ k → g ≤ k → g + (rsC (sgT L k b)).length = (rsC (sgT L a b)).length → R_taken_5 ((u + b : Nat) : Int) (g : Int) ((u + k : Nat) : Int) σ Q := by
    intro n
    induction n with
    | zero =>
      intro k g hk ha hgk hg
      have e : k = b := by omega
      rw [e, sgT_n] at hg
      refine R_taken_5.i ⟨by unfold Rg; omega, by unfold Rg; omega, fun _ => ⟨by unfold Rg; omega, ?_⟩, fun h9 => absurd h9 (by omega)⟩
      rw [← hg] at hq
      exact hq
    | succ n ih =>
      intro k g hk ha hgk hg
      have hkl : k < L.length := by omega
      rw [sgT_c (by omega) hb] at hg
      have okc := hok.gd hkl
      refine R_taken_5.i ⟨by unfold Rg; omega, by unfold Rg; omega, fun h9 => absurd h9 (by omega), fun _ => R_at.g hG hu hkl ⟨fun h9 => R_taken_36.i (R_taken_41.i ?_), fun h9 => ?_⟩⟩
      · have hs : sbl (L.getD k 0) = false := by
          rw [← Bool.not_eq_true]
          exact fun h => h9 ((rd_32 okc).mpr h)
        rw [rsC_s hs, List.length_cons] at hg
        rw [show ((u + k : Nat) : Int) + 1 = ((u + (k + 1) : Nat) : Int) by omega]
        exact ih (k + 1) (g + 1) (by omega) (by omega) (by omega) (by omega)
      · have hs := (rd_32 okc).mp h9
        have hk2 : k + 1 < b := by
          by_cases h7 : k + 1 = b
          · rw [show b - 1 = k by omega, hs] at hb1
            exact absurd hb1 (by decide)
          · omega
        have okd := hok.gd (i := k + 1) (by omega)
        rw [show ((u + k : Nat) : Int) + 1 = ((u + (k + 1) : Nat) : Int) by omega]
        refine R_at.g hG hu (by omega) ⟨fun h8 => R_taken_41.i ?_, fun h8 => R_taken_36.i (R_taken_41.i ?_)⟩
        · rw [rsC_b hs (by rw [sgT_h hk2 hb]; exact (rd_32 okd).mp h8)] at hg
          rw [show ((u + k : Nat) : Int) + 1 = ((u + (k + 1) : Nat) : Int) by omega]
          exact ih (k + 1) g (by omega) (by omega) (by omega) hg
        · rw [rsC_g hs (by
            rw [sgT_h hk2 hb, ← Bool.not_eq_true]
            exact fun h => h8 ((rd_32 okd).mpr h)), List.length_cons] at hg
          rw [show ((u + k : Nat) : Int) + 1 = ((u + (k + 1) : Nat) : Int) by omega]
          exact ih (k + 1) (g + 1) (by omega) (by omega) (by omega) (by omega)
  exact R_taken.i (key (b - a) a 0 (by omega) (Nat.le_refl _) (by omega) (by omega))
theorem R_gaps.p (hok : okK L) (hu : u + L.length ≤ 139000) (hG : hoG σ 254 255 u L) {a b : Nat} (hb : b ≤ L.length) (hb1 : sbl (L.getD (b - 1) 0) = false) (hab : a < b) (hq : Q (.inl (some (nGp (rsC (sgT L a b))))) σ) : R_gaps ((u + a : Nat) : Int) ((u + b : Nat) : Int) σ Q := by
  have key : ∀ (n k : Nat) (g : Int), k + n = b → a ≤ k → 0 ≤ g ∧ g ≤ k → g + nGp (rsC (sgT L k b)) = nGp (rsC (sgT L a b)) → R_gaps_5 ((u + b : Nat) : Int) g ((u + k : Nat) : Int) σ Q := by
    intro n
    induction n with
    | zero =>
      intro k g hk ha hgk hg
      have e : k = b := by omega
      rw [e, sgT_n] at hg
      have hg : g = nGp (rsC (sgT L a b)) := by
        rw [← hg]
        show g = g + 0
        omega
      refine R_gaps_5.i ⟨by unfold Rg; omega, by unfold Rg; omega, fun _ => ⟨by unfold Rg; omega, ?_⟩, fun h9 => absurd h9 (by omega)⟩
      rw [hg]
      exact hq
    | succ n ih =>
      intro k g hk ha hgk hg
      have hkl : k < L.length := by omega
      rw [sgT_c (by omega) hb] at hg
      have okc := hok.gd hkl
      refine R_gaps_5.i ⟨by unfold Rg; omega, by unfold Rg; omega, fun h9 => absurd h9 (by omega), fun _ => R_at.g hG hu hkl ⟨fun h9 => R_gaps_40.i (R_gaps_41.i ?_), fun h9 => ?_⟩⟩
      · have hs : sbl (L.getD k 0) = false := by
          rw [← Bool.not_eq_true]
          exact fun h => h9 ((rd_32 okc).mpr h)
        rw [rsC_s hs] at hg
        have hg : g + ((if L.getD k 0 = 32 then 1 else 0) + nGp (rsC (sgT L (k + 1) b))) = nGp (rsC (sgT L a b)) := hg
        rw [if_neg (n32 hs)] at hg
        rw [show ((u + k : Nat) : Int) + 1 = ((u + (k + 1) : Nat) : Int) by omega]
        exact ih (k + 1) (g + 0) (by omega) (by omega) (by omega) (by omega)
      · have hs := (rd_32 okc).mp h9
        have hk2 : k + 1 < b := by
          by_cases h7 : k + 1 = b
          · rw [show b - 1 = k by omega, hs] at hb1
            exact absurd hb1 (by decide)
          · omega
        have okd := hok.gd (i := k + 1) (by omega)
        rw [show ((u + k : Nat) : Int) + 1 = ((u + (k + 1) : Nat) : Int) by omega]
        refine R_at.g hG hu (by omega) ⟨fun h8 => R_gaps_40.i (R_gaps_41.i ?_), fun h8 => R_gaps_41.i ?_⟩
        · rw [rsC_b hs (by rw [sgT_h hk2 hb]; exact (rd_32 okd).mp h8)] at hg
          rw [show ((u + k : Nat) : Int) + 1 = ((u + (k + 1) : Nat) : Int) by omega]
          exact ih (k + 1) (g + 0) (by omega) (by omega) (by omega) (by omega)
        · rw [rsC_g hs (by
            rw [sgT_h hk2 hb, ← Bool.not_eq_true]
            exact fun h => h8 ((rd_32 okd).mpr h))] at hg
          have hg : g + ((if (32 : Int) = 32 then 1 else 0) + nGp (rsC (sgT L (k + 1) b))) = nGp (rsC (sgT L a b)) := hg
          rw [if_pos rfl] at hg
          rw [show ((u + k : Nat) : Int) + 1 = ((u + (k + 1) : Nat) : Int) by omega]
          exact ih (k + 1) (g + 1) (by omega) (by omega) (by omega) (by omega)
  exact R_gaps.i (key (b - a) a 0 (by omega) (Nat.le_refl _) (by omega) (by omega))
theorem sh_rd {c : Int} (h : okC c) (hq : Q (.inl (some (c % 128))) σ) : R_shown (rdG c) σ Q := by
  unfold rdG
  split
  · rename_i h9
    refine R_shown.i ⟨by decide, fun h8 => absurd rfl h8, fun _ => ?_⟩
    rw [h.2.2 h9] at hq
    exact hq
  · exact R_shown.i ⟨by unfold Rg; omega, fun _ => ⟨by unfold Rg; omega, hq⟩, fun h8 => absurd h8 (by omega)⟩
/-- words with blanks between them -/
theorem R_content.p (hok : okK L) (hu : u + L.length ≤ 139000) (hG0 : hoG σ0 254 255 u L) {a b : Nat} (hb : b ≤ L.length) (hb1 : sbl (L.getD (b - 1) 0) = false) (hab : a < b) {pt ev : Bool} {each more : Int} (he : 0 ≤ each ∧ each ≤ 400) (hm : 0 ≤ more ∧ more ≤ 400) (hD : LbR σ0 D) (hl : (D ++ prG ev (nGp (rsC (sgT L a b))) each more 0 (rsC (sgT L a b)) ++ prT pt (L.getD (b - 1) 0)).length ≤ 400) (hq : ∀ σ', FrZ [338, 339] [160] σ0 σ' → LbR σ' (D ++ prG ev (nGp (rsC (sgT L a b))) each more 0 (rsC (sgT L a b)) ++ prT pt (L.getD (b - 1) 0)) → Q (.inl none) σ') : R_content ((u + a : Nat) : Int) ((u + b : Nat) : Int) (bZ pt) each more (bZ ev) σ0 Q := by
  have ab := nGp_b (rsC (sgT L a b))
  have hpz : Rg (bZ pt) := by cases pt <;> decide
  have hez : Rg (bZ ev) := by cases ev <;> decide
  generalize hall : nGp (rsC (sgT L a b)) = all at hl hq ab
  have abl : (rsC (sgT L a b)).length ≤ L.length := by
    have hh : ∀ M : List Int, (rsC M).length ≤ M.length := by
      intro M
      induction M with
      | nil => exact Nat.le_refl _
      | cons c r ih =>
        show (if sbl c = true then (if sbl (r.headD 32) = true then _ else _) else _ : List Int).length ≤ r.length + 1
        split
        · split
          · omega
          · exact Nat.succ_le_succ ih
        · exact Nat.succ_le_succ ih
    have := hh (sgT L a b)
    rw [sgT_l hb] at this
    omega
  have key : ∀ (n k : Nat) (g : Int) (σ : MS) (D1 : List Int), k + n = b → a ≤ k → 0 ≤ g ∧ g ≤ k → FrZ [338, 339] [160] σ0 σ → LbR σ D1 → D1 ++ prG ev all each more g (rsC (sgT L k b)) = D ++ prG ev all each more 0 (rsC (sgT L a b)) → R_content_14 ((u + b : Nat) : Int) (bZ pt) each more (bZ ev) all g ((u + k : Nat) : Int) σ Q := by
    intro n
    induction n with
    | zero =>
      intro k g σ D1 hk ha hgk hf hD1 hg
      have e : k = b := by omega
      rw [e, sgT_n] at hg
      have hg : D1 = D ++ prG ev all each more 0 (rsC (sgT L a b)) := by
        rw [← hg]
        exact (List.append_nil _).symm
      refine R_content_14.i ⟨by unfold Rg; omega, by unfold Rg; omega, fun _ => ⟨hpz, fun h9 => ?_, fun h9 => ⟨by omega, by omega, ?_⟩⟩, fun h9 => absurd h9 (by omega)⟩
      · have hw := bZ_z h9
        rw [hw] at hq
        refine hq σ hf ?_
        rw [← hg]
        show LbR σ (D1 ++ [])
        rw [List.append_nil]
        exact hD1
      · have hw := bZ_ne h9
        rw [hw] at hq hl
        rw [← hg] at hq hl
        have hc : (45 + (L.getD (b - 1) 0 % 512 - L.getD (b - 1) 0 % 128)) % 128 = 45 := by omega
        have hc2 : cyB (45 + (L.getD (b - 1) 0 % 512 - L.getD (b - 1) 0 % 128)) = cyB (L.getD (b - 1) 0) := by
          unfold cyB
          omega
        have hG : hoG σ 254 255 u L := hG0.cg (fun k _ _ => ⟨hf.z (by decide) (by decide), hf.z (by decide) (by decide)⟩)
        have hst : mV σ 255 ((((u + b : Nat) : Int) - 1).toNat) = cyB (L.getD (b - 1) 0) := by
          rw [show (((u + b : Nat) : Int) - 1).toNat = u + (b - 1) by omega]
          exact (hG (b - 1) (by omega)).2
        have hl2 : (D1 ++ [45 + (L.getD (b - 1) 0 % 512 - L.getD (b - 1) 0 % 128)]).length ≤ 400 := hl
        rw [List.length_append] at hl2
        have hl3 : D1.length + 1 ≤ 400 := hl2
        have := R_adds.p (Q := kV (thQ Q) fun σ1 => Q (.inl none) σ1) (c := 45 + (L.getD (b - 1) 0 % 512 - L.getD (b - 1) 0 % 128)) hD1 (by omega) (fun σ2 f2 b2 => hq σ2 (hf.tr f2) b2)
        rw [hc, hc2] at this
        rw [hst]
        exact this
    | succ n ih =>
      intro k g σ D1 hk ha hgk hf hD1 hg
      have hkl : k < L.length := by omega
      have hG : hoG σ 254 255 u L := hG0.cg (fun k _ _ => ⟨hf.z (by decide) (by decide), hf.z (by decide) (by decide)⟩)
      rw [sgT_c (by omega) hb] at hg
      have okc := hok.gd hkl
      rw [List.length_append, ← hg, List.length_append] at hl
      refine R_content_14.i ⟨by unfold Rg; omega, by unfold Rg; omega, fun h9 => absurd h9 (by omega), fun _ => R_at.g hG hu hkl ⟨fun h9 => ?_, fun h9 => ?_⟩⟩
      · have hs := (rd_32 okc).mp h9
        have hk2 : k + 1 < b := by
          by_cases h7 : k + 1 = b
          · rw [show b - 1 = k by omega, hs] at hb1
            exact absurd hb1 (by decide)
          · omega
        have okd := hok.gd (i := k + 1) (by omega)
        rw [show ((u + k : Nat) : Int) + 1 = ((u + (k + 1) : Nat) : Int) by omega]
        refine R_at.g hG hu (by omega) ⟨fun h8 => R_content_126.i ?_, fun h8 => ?_⟩
        · rw [rsC_b hs (by rw [sgT_h hk2 hb]; exact (rd_32 okd).mp h8)] at hg
          rw [show ((u + k : Nat) : Int) + 1 = ((u + (k + 1) : Nat) : Int) by omega]
          exact ih (k + 1) g σ D1 (by omega) (by omega) (by omega) hf hD1 hg
        · rw [rsC_g hs (by
            rw [sgT_h hk2 hb, ← Bool.not_eq_true]
            exact fun h => h8 ((rd_32 okd).mpr h))] at hg hl
          have e0 : prG ev all each more g (32 :: rsC (sgT L (k + 1) b)) = List.replicate (1 + each + prO ev all more g).toNat 32 ++ prG ev all each more (g + 1) (rsC (sgT L (k + 1) b)) := by
            show (if (32 : Int) = 32 then _ else _) = _
            have : (0 : Int) ≤ prO ev all more g := by
              unfold prO
              split <;> split <;> decide
            rw [if_pos rfl, show (1 + each + prO ev all more g).toNat = (each + prO ev all more g).toNat + 1 by omega, List.replicate_succ]
            rfl
          rw [e0] at hg hl
          rw [← List.append_assoc] at hg
          rw [List.length_append, List.length_replicate] at hl
          have fin : ∀ s0 : Int, (s0 = 0 ∨ s0 = 1) → s0 = prO ev all more g → R_content_102 ((u + b : Nat) : Int) (bZ pt) each more (bZ ev) all g ((u + k : Nat) : Int) s0 σ Q := fun s0 h01 hs0 => by
            rw [← hs0] at hg hl
            have go : ∀ s2 : Int, s2 = s0 → R_content_119 ((u + b : Nat) : Int) (bZ pt) each more (bZ ev) all g ((u + k : Nat) : Int) (1 + each) s2 σ Q := fun s2 h7 => by
              rw [h7]
              refine R_content_119.i (R_blanks.p (by omega) (by omega) hD1 (by omega) (fun σ2 f2 b2 => R_content_126.i ?_))
              rw [show ((u + k : Nat) : Int) + 1 = ((u + (k + 1) : Nat) : Int) by omega]
              exact ih (k + 1) (g + 1) σ2 _ (by omega) (by omega) (by omega) (hf.tr f2) b2 hg
            exact R_content_102.i ⟨fun h7 => go 0 (by omega), fun h7 => go 1 (by omega)⟩
          refine ⟨hez, fun h7 => ⟨by unfold Rg; omega, by unfold Rg; omega, fun h6 => fin 0 (Or.inl rfl) ?_, fun h6 => fin 1 (Or.inr rfl) ?_⟩, fun h7 => ⟨by unfold Rg; omega, by unfold Rg; omega, fun h6 => fin 0 (Or.inl rfl) ?_, fun h6 => fin 1 (Or.inr rfl) ?_⟩⟩
          · unfold prO
            rw [bZ_z h7, if_neg (by decide), if_neg (by omega)]
          · unfold prO
            rw [bZ_z h7, if_neg (by decide), if_pos h6]
          · unfold prO
            rw [bZ_ne h7, if_pos rfl, if_neg (by omega)]
          · unfold prO
            rw [bZ_ne h7, if_pos rfl, if_pos h6]
      · have hs : sbl (L.getD k 0) = false := by
          rw [← Bool.not_eq_true]
          exact fun h => h9 ((rd_32 okc).mpr h)
        rw [rsC_s hs] at hg hl
        have e0 : prG ev all each more g (L.getD k 0 :: rsC (sgT L (k + 1) b)) = [L.getD k 0] ++ prG ev all each more g (rsC (sgT L (k + 1) b)) := by
          show (if L.getD k 0 = 32 then _ else _) = _
          rw [if_neg (n32 hs)]
          rfl
        rw [e0] at hg hl
        rw [← List.append_assoc] at hg
        rw [List.length_append] at hl
        have hl : D1.length + (1 + _) + _ ≤ 400 := hl
        refine R_at.g hG hu hkl (sh_rd okc ⟨by omega, by omega, ?_⟩)
        rw [Int.toNat_natCast, (hG k hkl).2]
        refine R_adds.p hD1 (by omega) (fun σ2 f2 b2 => R_content_126.i ?_)
        rw [show ((u + k : Nat) : Int) + 1 = ((u + (k + 1) : Nat) : Int) by omega]
        exact ih (k + 1) g σ2 _ (by omega) (by omega) (by omega) (hf.tr f2) b2 hg
  refine R_content.i (R_gaps.p hok hu hG0 hb hb1 hab ?_)
  rw [hall]
  exact key (b - a) a 0 σ0 D (by omega) (Nat.le_refl _) (by omega) FrZ.rf hD rfl
end
