/-! TABLES: lines stay narrow -/
theorem suF_1 {W : List Int} : ∀ c, (∀ k, k < c → W.getD k 0 ≤ 1) → suF W c ≤ (c : Int)
  | 0, _ => Int.le_refl _
  | c + 1, h => by
    have h1 := suF_1 c (fun k hk => h k (by omega))
    have h2 := h c (by omega)
    show suF W c + W.getD c 0 ≤ ((c + 1 : Nat) : Int)
    omega
theorem nwS_80 {wide : Int} {c : Nat} {W : List Int} (hw : 12 ≤ wide ∧ wide ≤ 80) (hc : 1 ≤ c ∧ c ≤ 8) (hl : W.length = 8) (hb : ∀ k, k < 8 → 1 ≤ W.getD k 0) : nwS (nwD9 wide c W) c ≤ 80 := by
  have b := nwF_b (wide := wide) hc.2 (nwS W c).toNat W hl hb
  rcases b.2.2 with h | h | h | h
  · have h : nwS (nwD9 wide c W) c ≤ wide := h
    omega
  · have h : (nwD9 wide c W).getD (nwX (nwD9 wide c W) c) 0 ≤ 1 := h
    have := suF_1 (W := nwD9 wide c W) c (fun k hk => by
      have := nwX_mx (W := nwD9 wide c W) hk
      omega)
    unfold nwS
    omega
  · have h2 : nwS (nwD9 wide c W) c = nwS W c - ((nwS W c).toNat : Int) := h.2
    omega
  · omega
theorem suF_mo {W : List Int} {c : Nat} (h : ∀ k, k < c → 1 ≤ W.getD k 0) : ∀ k, k ≤ c → 0 ≤ suF W k ∧ suF W k ≤ suF W c := by
  have pos : ∀ k, k ≤ c → 0 ≤ suF W k := by
    intro k
    induction k with
    | zero => intro _; exact Int.le_refl _
    | succ k ih =>
      intro hk
      have h1 := ih (by omega)
      have h2 := h k (by omega)
      show 0 ≤ suF W k + W.getD k 0
      omega
  have up : ∀ n k, k + n = c → suF W k ≤ suF W c := by
    intro n
    induction n with
    | zero =>
      intro k hk
      rw [show k = c by omega]
      exact Int.le_refl _
    | succ n ih =>
      intro k hk
      have h1 := ih (k + 1) (by omega)
      have h2 := h k (by omega)
      have h3 : suF W (k + 1) = suF W k + W.getD k 0 := rfl
      omega
  exact fun k hk => ⟨pos k hk, up (c - k) k (by omega)⟩
theorem tpJ_w {W m : List Int} {f : Nat → List Int} {c : Nat} (h3 : m.length = 3) (hf : ∀ k, k < c → ((f k).length : Int) ≤ W.getD k 0) : ∀ k, k ≤ c → ((tpJ m f k).length : Int) ≤ 3 * (k : Int) + suF W k
  | 0, _ => Int.le_refl _
  | k + 1, hk => by
    have h1 := tpJ_w h3 hf k (by omega)
    have h2 := hf k (by omega)
    show ((tpJ m f k ++ (if 1 ≤ k then m else []) ++ f k).length : Int) ≤ 3 * ((k + 1 : Nat) : Int) + (suF W k + W.getD k 0)
    rw [List.length_append, List.length_append]
    split
    · omega
    · show (((tpJ m f k).length + 0 + (f k).length : Nat) : Int) ≤ _
      omega
/-- a table's lines are shorter than 110 signs -/
theorem tpJ_110 {wide : Int} {c : Nat} {W m : List Int} {f : Nat → List Int} (hw : 12 ≤ wide ∧ wide ≤ 80) (hc : 1 ≤ c ∧ c ≤ 8) (hl : W.length = 8) (hb : ∀ k, k < 8 → 1 ≤ W.getD k 0) (h3 : m.length = 3) (hf : ∀ k, k < c → ((f k).length : Int) ≤ (nwD9 wide c W).getD k 0) : ∀ k, k ≤ c → (tpJ m f k).length ≤ 110 := fun k hk => by
  have h1 := tpJ_w (W := nwD9 wide c W) h3 hf k hk
  have b := nwD_b hw hc.2 hl hb
  have h2 := (suF_mo (W := nwD9 wide c W) (c := c) (fun k hk => (b.2 k hk).1) k hk).2
  have h4 := nwS_80 hw hc hl hb
  unfold nwS at h4
  omega
