/-! THE LAW AS A RUN OF THE ABSTRACT MACHINE -/
def I0 : Nat → Nat → Int32 := fun z => if z < 246 then (if z = 24 then g0X 24 else v0X z) else if z = 246 then vM1 else aM1 (z - 247)
def σ0 (L : Nat) (scr : Nat → Int32) : SS := (I0, xs0, c16, nb0, 0, (fun _ => 0), L, scr)
def lo0 : ALo := [(4, .int 0), (3, .ref 351), (2, .ref 246), (1, .ref 0), (0, .ref 352)]
theorem objs_24 : ∀ q ∈ xObjs, q.1 ≠ 24 := by decide +kernel
theorem arrs_111 : ∀ q ∈ xArrs, q.1 ≠ 111 := by decide +kernel
theorem pic0 {G : Nat → ClassId} {ad : Nat → Nat} {cl : Nat → va_E} {L : Nat} {scr : Nat → Int32} (h1 : XW G 352 ad cl c16 xs0 v0X g0X nb0) (h2 : MW G 352 ad cl 246 vM1 0 aM1) (h3 : cl 351 = .inl (G 3, 1, .inr (.inl (fun _ => 0)))) : PIC G ad cl (σ0 L scr) := by
  refine ⟨h1.cg (fun q hq => ?_) (fun q hq => ?_), ?_, h3⟩
  · show I0 q.1 = v0X q.1
    unfold I0
    rw [if_pos (objs_lt q hq), if_neg (objs_24 q hq)]
  · show I0 q.1 = g0X q.1
    unfold I0
    rw [if_pos (arrs_lt q hq)]
    by_cases e : q.1 = 24
    · rw [if_pos e, e]
    · rw [if_neg e]
      unfold g0X v0X
      rw [if_neg e]
      funext k
      have : q.1 ≠ 111 := arrs_111 q hq
      rw [if_neg (fun x => this x.1)]
  · have e1 : sI (σ0 L scr) 246 = vM1 := rfl
    have e2 : (fun j => sI (σ0 L scr) (247 + j)) = aM1 := by
      funext j
      show I0 (247 + j) = aM1 j
      unfold I0
      rw [if_neg (by omega), if_neg (by omega), Nat.add_sub_cancel_left]
    rw [e1, e2]
    exact h2
theorem ok0 : okL lo0 := by
  intro q hq
  simp only [lo0, List.mem_cons, List.not_mem_nil, or_false] at hq
  rcases hq with rfl | rfl | rfl | rfl | rfl
  · exact trivial
  all_goals (show rowArr _ = false; decide +kernel)
def Runs (L : Nat) (scr : Nat → Int32) : Prop := ∃ f σ' kc ks, am_x f 1000 0 23 lo0 [] (σ0 L scr) = some (.inl (some 1), σ', kc, ks) ∧ 352 + kc ≤ 600002 ∧ 1603819 + ks ≤ 7302232
theorem whole_run {p : Program} {e : Env} {s : State} {m : MethodId} {below : List Frame} {meth : Method} {c : Code} (l : Launch) (hst : l.stackTraces = false) (htb : c.exceptionTable.toList = []) {b L : Nat} {xs : Nat → Int32} (hR : Runs L xs) (C0 : lw_At p s m meth c b L xs) : W p l e room_1 s m #[Value.ref b] below meth c s.heap [] 0 0 (lw_Z below #[Value.ref b] s) (entryFrame m ([Value.ref b] : List Value).toArray 7) := by
  obtain ⟨D, G, t, X⟩ := st_cx C0
  obtain ⟨hx, hb, hr, hml, hown, hts, hX, hbl, hlocks, hgv⟩ := C0
  obtain ⟨f, σ', kc, ks, hrun, r1, r2⟩ := hR
  refine law_pro X (fun ad cl H locs ls w h1 h2 h3 hl => ?_)
  have hl' : lv_has ls 7 (am_lo (adx b t ad) lo0) := by
    have e : am_lo (adx b t ad) lo0 = [(4, .int 0), (3, .ref (ad 351)), (2, .ref (ad 246)), (1, .ref (ad 0)), (0, .ref b)] := by
      simp only [am_lo, lo0, List.map_cons, List.map_nil, am_v]
      rw [adx_lt (by decide), adx_lt (by decide), adx_lt (by decide), adx_scr]
    rw [e]; exact hl
  refine FL_all (b := b) hst f 1000 0 23 lo0 [] (σ0 L xs) σ' (.inl (some 1)) kc ks hrun p e room_1 s m #[Value.ref b] below meth c H locs 352 1603819 _ _ ls ad cl X htb w (pic0 h1 h2 h3) (fun _ => ⟨hX, hbl, fun h => absurd hbl (Nat.not_lt.mpr h)⟩) hl' ok0 (fun _ h => absurd h List.not_mem_nil) (by decide) (by decide) (by show 352 + kc ≤ 600002; exact r1) (by show 1603819 + ks ≤ 7302232; exact r2) (fun r hr0 pc' ls' H' locs' ad' cl' w' P' R' ok => ?_) (fun E hE => nomatch hE)
  cases hr0
  refine va_forget (fun q hq => w'.2.2.2.2 q hq) ?_
  refine W.widen (k := 600002) (n := 7302232) r1 r2 ?_
  exact lw_ret hx hb hr hlocks ok.1
