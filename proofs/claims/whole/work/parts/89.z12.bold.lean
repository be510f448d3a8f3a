/-! HEADINGS: what the reference's row is, when bold -/
def rbC (c : Int) : Int := if c / 128 % 2 = 0 then c + 128 else c
theorem rbC_s {c : Int} (h : okC c) : sbl (rbC c) = sbl c := by
  unfold sbl rbC
  unfold okC at h
  split
  · refine decide_eq_decide.mpr ?_
    omega
  · rfl
theorem rbC_b {c : Int} (h : sbl c = false) : rbC c = boC c := by
  have h := of_decide_eq_false h
  unfold rbC boC
  by_cases e : c = 32
  · rw [e] at h
    exact absurd (by decide) h
  · rw [if_neg e]
theorem rbC_7 {c : Int} : rbC c % 128 = c % 128 := by
  unfold rbC
  split <;> omega
theorem rbC_ok {c : Int} (h : okC c) : okC (rbC c) := by
  unfold rbC
  unfold okC at h ⊢
  split <;> omega
theorem rbC_g {c : Int} (h : okC c) : cgB (rbC c) = cgB c ∧ cyB (rbC c) = bor (cyB c) 1 := by
  unfold okC at h
  have key : ∀ y, y < 4 → bor ((y : Nat) : Int) 1 = if ((y : Nat) : Int) % 2 = 0 then ((y : Nat) : Int) + 1 else ((y : Nat) : Int) := by decide
  have e := key (c / 128 % 4).toNat (by omega)
  rw [show (((c / 128 % 4).toNat : Nat) : Int) = c / 128 % 4 by omega] at e
  by_cases hp : c / 128 % 2 = 0
  · have e2 : rbC c = c + 128 := if_pos hp
    have e3 : c / 128 % 4 % 2 = 0 := by omega
    rw [if_pos e3] at e
    unfold cgB cyB
    rw [e2, e]
    refine ⟨?_, by omega⟩
    by_cases h5 : 512 ≤ c
    · rw [if_pos (by omega), if_pos h5]
    · rw [if_neg (by omega), if_neg h5]
      omega
  · have e2 : rbC c = c := if_neg hp
    have e3 : ¬ c / 128 % 4 % 2 = 0 := by omega
    rw [if_neg e3] at e
    unfold cgB cyB
    rw [e2, e]
    exact ⟨rfl, rfl⟩
theorem pkF_mp {f g : Int → Int} {q : List Int × Bool} {c : Int} (hs : sbl (g c) = sbl c) (hg : sbl c = false → g c = f c) (h32 : f 32 = 32) : pkF (q.1.map f, q.2) (g c) = ((pkF q c).1.map f, (pkF q c).2) := by
  unfold pkF
  rw [hs]
  by_cases h : sbl c = true
  · rw [if_pos h, if_pos h]
  · rw [if_neg h, if_neg h, List.length_map, hg (by
      cases e : sbl c
      · rfl
      · exact absurd e h)]
    split
    · show (q.1.map f ++ [32] ++ [f c], false) = ((q.1 ++ [32] ++ [c]).map f, false)
      rw [List.map_append, List.map_append, List.map_cons, List.map_cons, h32]
      rfl
    · show (q.1.map f ++ [f c], false) = ((q.1 ++ [c]).map f, false)
      rw [List.map_append]
      rfl
theorem pkS_mp {f g : Int → Int} (h32 : f 32 = 32) : ∀ (L : List Int) (q : List Int × Bool), (∀ c ∈ L, sbl (g c) = sbl c ∧ (sbl c = false → g c = f c)) → (L.map g).foldl pkF (q.1.map f, q.2) = ((L.foldl pkF q).1.map f, (L.foldl pkF q).2)
  | [], q, _ => rfl
  | c :: r, q, h => by
    show (r.map g).foldl pkF (pkF (q.1.map f, q.2) (g c)) = _
    rw [pkF_mp (h c List.mem_cons_self).1 (h c List.mem_cons_self).2 h32, pkS_mp h32 r (pkF q c) (fun x hx => h x (List.mem_cons_of_mem _ hx))]
    rfl
theorem pkL_bo {L : List Int} (h : okK L) : pkL (L.map rbC) = (pkL L).map boC := by
  have := pkS_mp (f := boC) (g := rbC) rfl L ([], false) (fun c hc => ⟨rbC_s (h c hc), fun hs => rbC_b hs⟩)
  exact congrArg Prod.fst this
/-- packing goes on behind what is packed -/
theorem pkS_ap : ∀ (X R R' : List Int) (g : Bool), (R.length = 0 ↔ R'.length = 0) → ∃ Y g', X.foldl pkF (R, g) = (R ++ Y, g') ∧ X.foldl pkF (R', g) = (R' ++ Y, g')
  | [], R, R', g, _ => ⟨[], g, by rw [List.append_nil]; rfl, by rw [List.append_nil]; rfl⟩
  | c :: r, R, R', g, h => by
    by_cases hs : sbl c = true
    · obtain ⟨Y, g', e1, e2⟩ := pkS_ap r R R' true h
      refine ⟨Y, g', ?_, ?_⟩
      · show r.foldl pkF (pkF (R, g) c) = _
        rw [show pkF (R, g) c = (R, true) from if_pos hs]
        exact e1
      · show r.foldl pkF (pkF (R', g) c) = _
        rw [show pkF (R', g) c = (R', true) from if_pos hs]
        exact e2
    · by_cases hg : g = true ∧ 0 < R.length
      · obtain ⟨Y, g', e1, e2⟩ := pkS_ap r (R ++ [32] ++ [c]) (R' ++ [32] ++ [c]) false (by
          rw [List.length_append, List.length_append (bs := [c])]
          show (_ + 1 = 0 ↔ _ + 1 = 0)
          omega)
        refine ⟨32 :: c :: Y, g', ?_, ?_⟩
        · show r.foldl pkF (pkF (R, g) c) = _
          rw [show pkF (R, g) c = (R ++ [32] ++ [c], false) from (if_neg hs).trans (by rw [if_pos hg]), e1, List.append_assoc, List.append_assoc]
          rfl
        · show r.foldl pkF (pkF (R', g) c) = _
          rw [show pkF (R', g) c = (R' ++ [32] ++ [c], false) from (if_neg hs).trans (by rw [if_pos ⟨hg.1, by have := hg.2; show 0 < R'.length; omega⟩]), e2, List.append_assoc, List.append_assoc]
          rfl
      · obtain ⟨Y, g', e1, e2⟩ := pkS_ap r (R ++ [c]) (R' ++ [c]) false (by
          rw [List.length_append, List.length_append (bs := [c])]
          show (_ + 1 = 0 ↔ _ + 1 = 0)
          omega)
        refine ⟨c :: Y, g', ?_, ?_⟩
        · show r.foldl pkF (pkF (R, g) c) = _
          rw [show pkF (R, g) c = (R ++ [c], false) from (if_neg hs).trans (by rw [if_neg hg]), e1, List.append_assoc]
          rfl
        · show r.foldl pkF (pkF (R', g) c) = _
          rw [show pkF (R', g) c = (R' ++ [c], false) from (if_neg hs).trans (by rw [if_neg (fun h9 => hg ⟨h9.1, by have h2 : 0 < R'.length := h9.2; omega⟩)]), e2, List.append_assoc]
          rfl
theorem lsP_7 : ∀ {L M : List Int}, L.map (fun c => c % 128) = M.map (fun c => c % 128) → lsP L = lsP M
  | [], [], _ => rfl
  | [], c :: r, h => by cases h
  | c :: r, [], h => by cases h
  | c :: r, d :: t, h => by
    rw [List.map_cons, List.map_cons] at h
    have h1 : c % 128 = d % 128 := (List.cons.inj h).1
    have h2 := lsP_7 (List.cons.inj h).2
    show (if lsP r = -1 then (if c % 128 = 32 then -1 else 0) else lsP r + 1) = (if lsP t = -1 then (if d % 128 = 32 then -1 else 0) else lsP t + 1)
    rw [h1, h2]
def hgA (Lt : List Int) : List Int := Lt.map (fun c => c + 128) ++ [32]
theorem hgA_s {Lt : List Int} (hs : smB Lt) (h : ∀ c ∈ Lt, ¬ c = 32) : pkS (hgA Lt) = (Lt.map (fun c => c + 128), true) := by
  unfold hgA
  refine pkS_hg (fun c hc => ?_)
  obtain ⟨x, hx, e⟩ := List.mem_map.mp hc
  have := hs x hx
  have := h x hx
  rw [← e]
  exact decide_eq_false (by omega)
theorem hg_pf {Lt : List Int} (hs : smB Lt) (h : ∀ c ∈ Lt, ¬ c = 32) (X : List Int) : ∃ Y g, pkS ((Lt ++ [32]) ++ X) = (Lt ++ Y, g) ∧ pkS (hgA Lt ++ X) = (Lt.map (fun c => c + 128) ++ Y, g) := by
  have e1 : pkS (Lt ++ [32]) = (Lt, true) := pkS_hg (fun c hc => sbl_sm (hs c hc) (h c hc))
  have e2 := hgA_s hs h
  obtain ⟨Y, g, a, b⟩ := pkS_ap X Lt (Lt.map (fun c => c + 128)) true (by rw [List.length_map])
  refine ⟨Y, g, ?_, ?_⟩
  · unfold pkS at e1 ⊢
    rw [List.foldl_append, e1]
    exact a
  · unfold pkS at e2 ⊢
    rw [List.foldl_append, e2]
    exact b
theorem hg_PfL {Lt : List Int} (hs : smB Lt) (h : ∀ c ∈ Lt, ¬ c = 32) : PfL (Lt ++ [32]) (hgA Lt) := fun X => by
  obtain ⟨Y, g, a, b⟩ := hg_pf hs h X
  have a : pkL ((Lt ++ [32]) ++ X) = Lt ++ Y := congrArg Prod.fst a
  have b : pkL (hgA Lt ++ X) = Lt.map (fun c => c + 128) ++ Y := congrArg Prod.fst b
  rw [a, b]
  refine ⟨by rw [List.length_append, List.length_append, List.length_map], lsP_7 ?_⟩
  rw [List.map_append, List.map_append, List.map_map]
  congr 1
  refine List.map_congr_left (fun c _ => ?_)
  show c % 128 = (c + 128) % 128
  omega
theorem hg_bo {Lt : List Int} (hs : smB Lt) (h : ∀ c ∈ Lt, ¬ c = 32) (X : List Int) : (pkL (hgA Lt ++ X)).map boC = (pkL ((Lt ++ [32]) ++ X)).map boC := by
  obtain ⟨Y, g, a, b⟩ := hg_pf hs h X
  have a : pkL ((Lt ++ [32]) ++ X) = Lt ++ Y := congrArg Prod.fst a
  have b : pkL (hgA Lt ++ X) = Lt.map (fun c => c + 128) ++ Y := congrArg Prod.fst b
  rw [a, b, List.map_append, List.map_append, List.map_map]
  congr 1
  refine List.map_congr_left (fun c hc => ?_)
  have h1 := hs c hc
  have h2 := h c hc
  show boC (c + 128) = boC c
  unfold boC
  rw [if_neg (by omega), if_neg h2, if_neg (by omega), if_pos (by omega)]
theorem hg_ms {Lt : List Int} (hs : smB Lt) (h : ∀ c ∈ Lt, ¬ c = 32) (X : List Int) : ms7 (pkL (hgA Lt ++ X)) = ms7 (pkL ((Lt ++ [32]) ++ X)) := by
  obtain ⟨Y, g, a, b⟩ := hg_pf hs h X
  have a : pkL ((Lt ++ [32]) ++ X) = Lt ++ Y := congrArg Prod.fst a
  have b : pkL (hgA Lt ++ X) = Lt.map (fun c => c + 128) ++ Y := congrArg Prod.fst b
  rw [a, b]
  unfold ms7
  rw [List.map_append, List.map_append, List.map_map]
  congr 1
  refine List.map_congr_left (fun c _ => ?_)
  show (c + 128) % 128 = c % 128
  omega
theorem WtP.bo {n0 l0 k0 : Nat} {P : List Int} {m : TM} {W : List (Int × Int × Int)} (hP : okK P) (h : WtP n0 l0 k0 P m W) : WtP n0 l0 k0 (P.map rbC) m W := by
  have e : ∀ w, pkW (P.map rbC) w = pkW P w := fun w => by
    unfold pkW
    rw [← List.map_take, pkL_bo (fun c hc => hP c (List.mem_of_mem_take hc)), List.length_map]
  have q : ∀ {b : Nat} {Z : List (Int × Int)} {V : List Int}, wtQ P b Z V → wtQ (P.map rbC) b Z V := fun h => ⟨h.1, by
    rw [← h.2]
    exact List.map_congr_left (fun x _ => e x.2)⟩
  obtain ⟨h1, ⟨h2, h3⟩, ⟨h4, h5⟩, h6, h7⟩ := h
  refine ⟨q h1, ⟨h2, q h3⟩, ⟨h4, q h5⟩, h6, fun x hx => ?_⟩
  obtain ⟨a, ⟨b1, b2⟩, c⟩ := h7 x hx
  refine ⟨a, ⟨b1, by rw [List.length_map]; exact b2⟩, fun h0 => ?_⟩
  rw [mp_gd (by omega), rbC_7]
  exact c h0
