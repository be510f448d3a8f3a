/-! THE TEXT OF A PARAGRAPH OR AN ITEM: the reference comes to what the document says -/
section
variable {σ σ0 : MS} {Q : MQ9} {nw x0 : Nat} {E : TE} {H : HY9} {S P T : List Int} {hg o sp : Int} {b : BK9} {cl item : Bool}
theorem FrB.u2 {σ1 σ2 : MS} (h : FrU 0 0 0 nw σ σ1) (h' : FrZ TcS TcK σ1 σ2) : FrB nw σ σ2 := FrA.tr (FrB.u h) (FrB.z h' (by decide) (by decide))
theorem TmR.z {σ1 : MS} {m : TM} (h : TmR σ nw m) (q : FrZ TcS TcK σ σ1) : TmR σ1 nw m := ⟨h.1.z q (by decide) (by decide), h.2.1.z q (by decide), h.2.2.1.z q (by decide) (by decide), (q.f (by decide) (by decide)).trans h.2.2.2.1, (q.f (by decide) (by decide)).trans h.2.2.2.2⟩
theorem R_text.p (hT : SgR σ x0 T) (hTb : smB T) (hB : TbB E H S P hg o b) (hR : BkR σ E nw b) (hfl : FlB b) (hsl : b.2.2.1.2.length = b.2.2.1.1.length) (hbe : mV σ 246 16 = 0 ∧ mV σ 246 17 = 70000 ∧ mV σ 246 18 = 0 ∧ mV σ 246 21 = 0 ∧ mV σ 246 22 = 0 ∧ mV σ 246 31 = 0 ∧ mV σ 246 94 = 0 ∧ mV σ 246 95 = 2) (hSv : ∀ k, k < 13 → mV σ 275 k = S.getD k 0) (hH1 : H.1 = decide (S.getD 3 0 = 1)) (hHy : HyR σ H.2.1 H.2.2.1 H.2.2.2.1 H.2.2.2.2) (hP : AhR σ P) (ho : mV σ 246 29 = o) (hit : (item = false → mV σ 246 161 = 0) ∧ (item = true → 0 < mV σ 246 161)) (hsp : sp = if cl = true then 0 else S.getD 8 0) (hy : ∀ b' σ', txD o E H S P hg sp item T b = .inl b' → BkR σ' E nw b' → FrB nw σ σ' → Q (.inl none) σ') (hn : ∀ e σ', txD o E H S P hg sp item T b = .inr e → TxR σ' e → UnB σ' → FrB nw σ σ' → Q (.inl none) σ') : R_text (x0 : Int) ((x0 + T.length : Nat) : Int) (P.length : Int) hg (bZ cl) σ Q := by
  obtain ⟨hE, hE2, hS, hb, hP6, hh, hor, hTI, hPl, hGB, hAl⟩ := hB
  obtain ⟨r1, r2, ⟨m1, m2, m3, m4, m5⟩, r4, ⟨r5, r6⟩, ⟨r7, r8⟩, r9⟩ := hR
  obtain ⟨b1, b2, b3, b4, b5, b6, b7, b8⟩ := hbe
  have n0 : 0 ≤ b.1.2.2.2.2.2.1.2.2 := by
    rw [← hAl]
    omega
  have m0e : (((b.1.2.2.2.2.2.1.2.2).toNat : Nat) : Int) = b.1.2.2.2.2.2.1.2.2 := by omega
  have tlp : b.1.2.2.2.1.2.2.length = b.1.2.2.2.1.1.length := hTI.2.2.1.2.1
  have tkp : b.1.2.2.2.2.1.2.length = b.1.2.2.2.2.1.1.length := hTI.2.2.2.1.1
  have rxs : RxS (nw, (b.1.2.2.2.2.2.1.2.2).toNat, b.1.2.2.2.1.1.length, b.1.2.2.2.2.1.1.length, 0) 0 0 0 30 false E [] σ (tx0 b.1) := by
    refine ⟨⟨r1.1, r1.2.1, r1.2.2.1, b3⟩, ⟨b1, fun i hi => absurd hi (Nat.not_lt_zero _)⟩, ⟨m1, fun _ => m2, fun _ => m3, fun _ => ⟨m4, ?_, b2, fun i hi => absurd hi (Nat.not_lt_zero _)⟩, ⟨by rw [m5]; exact (Int.add_zero _).symm, rfl⟩, fun _ => ⟨[], b7, fun i hi => absurd hi (Nat.not_lt_zero _), ⟨rfl, rfl⟩, ⟨?_, ?_⟩, ⟨?_, ?_⟩, ?_, fun x hx => absurd hx List.not_mem_nil⟩⟩, ⟨b4, b5, b6, by rw [b8, hE2]; rfl, r4⟩⟩
    · show b.1.2.2.2.2.2.1.2.2 = (((b.1.2.2.2.2.2.1.2.2).toNat + 0 : Nat) : Int)
      omega
    · show b.1.2.2.2.1.1.length ≤ b.1.2.2.2.1.2.2.length
      omega
    · show wtQ _ _ [] (b.1.2.2.2.1.2.2.drop b.1.2.2.2.1.1.length)
      rw [List.drop_of_length_le (by omega)]
      exact ⟨rfl, rfl⟩
    · show b.1.2.2.2.2.1.1.length ≤ b.1.2.2.2.2.1.2.length
      omega
    · show wtQ _ _ [] (b.1.2.2.2.2.1.2.drop b.1.2.2.2.2.1.1.length)
      rw [List.drop_of_length_le (by omega)]
      exact ⟨rfl, rfl⟩
    · show 0 = 0 + (b.1.2.2.2.1.2.2.length - b.1.2.2.2.1.1.length) + (b.1.2.2.2.2.1.2.length - b.1.2.2.2.2.1.1.length)
      omega
  have e86 : mV σ 246 86 = (((b.1.2.2.2.2.2.1.2.2).toNat : Nat) : Int) := m4.trans m0e.symm
  refine R_text.i (is_r hE 30 240 x0 T false [] (-1) (nw, (b.1.2.2.2.2.2.1.2.2).toNat, b.1.2.2.2.1.1.length, b.1.2.2.2.2.1.1.length, 0) 0 0 0 [] (tx0 b.1) σ _ 0 (by decide) hT hTb r2 (Or.inl ⟨rfl, rfl⟩) (fun w hw => absurd hw List.not_mem_nil) rxs hTI (by decide) (by decide) (fun _ _ => rfl) ⟨fun s1 σ1 w1 rx1 f1 => ?_, fun e σ1 w1 q1 q2 f1 => ?_⟩)
  · sorry
  · have tx : TxR σ1 e := ⟨q1.1, q1.2.2.1, q1.2.2.2.1⟩
    show (¬ mV σ1 246 28 = 0 → _) ∧ (mV σ1 246 28 = 0 → _)
    refine ⟨fun _ => R_text_40.i ⟨fun h => absurd (q1.1.symm.trans h) q1.2.1, fun _ => hn e σ1 (by unfold txD; rw [w1]) tx q2.2.2.2.2 (FrB.u f1)⟩, fun h => absurd (q1.1.symm.trans h) q1.2.1⟩
end
