/-! PAGES: how much they show -/
section
variable {room : Int} {F : List Int} {Ls : List GL9} {A : List Int} {sp : List (Int × Int)} {S : List Int} {g : HG9} {c e fr : Nat}
theorem peE_t {may fits : Int} (h : ¬ fits = -1) : (peE fr may fits).2 = true := decide_eq_true h
theorem peD_t : ∀ (n i : Nat) (may fits : Int), ¬ fits = -1 → (peD room F Ls A sp fr n i may fits).2 = true
  | 0, i, may, fits, h => peE_t h
  | n + 1, i, may, fits, h => by
    unfold peD
    split
    · exact peE_t h
    · split
      · exact peD_t n _ _ _ h
      · split
        · split
          · rfl
          · exact peD_t n _ _ _ (by omega)
        · exact peE_t h
theorem peD_f (hfr : fr < F.length) (h0 : 0 ≤ F.getD fr 0) (hf : fitP room A sp fr fr = true) : (peD room F Ls A sp fr F.length fr (-1) (-1)).2 = true := by
  obtain ⟨m, hm⟩ : ∃ m, F.length = m + 1 := ⟨F.length - 1, by omega⟩
  rw [hm]
  unfold peD
  rw [if_neg (by omega), if_neg (by omega), if_pos hf]
  split
  · rfl
  · exact peD_t m _ _ _ (by omega)
theorem bdS_a : ∀ {n m e : Nat}, bdS F Ls e (n + m) = bdS F Ls e n ++ bdS F Ls (e + n) m
  | n, 0, e => (List.append_nil _).symm
  | n, m + 1, e => by
    rw [show n + (m + 1) = (n + m) + 1 by omega, bdS_s, bdS_s, bdS_a (n := n) (m := m), List.append_assoc, show e + (n + m) = e + n + m by omega]
theorem ntN_a {k : Nat} : ∀ {n m : Nat}, ntN sp k (n + m) = ntN sp k n ++ ntN sp (k + n) m
  | n, 0 => (List.append_nil _).symm
  | n, m + 1 => by
    show ntN sp k (n + m) ++ seqN _ _ = ntN sp k n ++ (ntN sp (k + n) m ++ seqN _ _)
    rw [ntN_a (n := n) (m := m), List.append_assoc, show k + n + m = k + (n + m) by omega]
    rfl
/-- signs of the lines of text ahead of a place -/
def wtF9 (F : List Int) (Ls : List GL9) (i : Nat) : Nat := suM ((bdS F Ls 0 i).map (·.1))
theorem wtF9_a {i j : Nat} (h : i ≤ j) : wtF9 F Ls j = wtF9 F Ls i + suM ((bdS F Ls i (j - i)).map (·.1)) := by
  unfold wtF9
  have : bdS F Ls 0 j = bdS F Ls 0 i ++ bdS F Ls i (j - i) := by
    have := bdS_a (F := F) (Ls := Ls) (n := i) (m := j - i) (e := 0)
    rw [show i + (j - i) = j by omega, Nat.zero_add] at this
    exact this
  rw [this, List.map_append, suM_app]
theorem wtF9_sk {i : Nat} (h : F.getD i 0 < 0) : wtF9 F Ls (i + 1) = wtF9 F Ls i := by
  rw [wtF9_a (i := i) (j := i + 1) (by omega), show i + 1 - i = 1 by omega]
  show _ + ((bdL F Ls i).1.length + 0) = _
  rw [show bdL F Ls i = ([], 0, 0) from if_neg (by omega)]
  rfl
theorem wtN_d {k n : Nat} (h : k ≤ n) : wtN Ls (ntN sp 0 n) = wtN Ls (ntN sp 0 k) + wtN Ls (ntN sp k (n - k)) := by
  have := ntN_a (sp := sp) (k := 0) (n := k) (m := n - k)
  rw [show k + (n - k) = n by omega, Nat.zero_add] at this
  rw [this, wtN_a]
theorem wtN_t {T : List Nat} {s : Nat} : wtN Ls (T.take s) ≤ wtN Ls T := by
  have h : T = T.take s ++ T.drop s := (List.take_append_drop s T).symm
  have : wtN Ls T = wtN Ls (T.take s) + wtN Ls (T.drop s) := by
    conv => lhs; rw [h]
    exact wtN_a
  omega
theorem pgG_s {last : Nat} (hS : StB S) : suM ((pgG S F Ls A sp g room c e last).map (·.1)) ≤ 90 + suM ((bdS F Ls e (last + 1 - e)).map (·.1)) + wtN Ls (ntN sp (nB A (e : Int)) (nB A ((last : Int) + 1) - nB A (e : Int))) := by
  have h1 := hdG_s (g := g) (c := c) (e := e) hS
  unfold pgG
  rw [List.map_append, List.map_append, suM_app, suM_app]
  have h2 : suM ((ftG room Ls A sp e last).map (·.1)) ≤ 10 + wtN Ls (ntN sp (nB A (e : Int)) (nB A ((last : Int) + 1) - nB A (e : Int))) := by
    unfold ftG
    split
    · rw [List.map_append, List.map_append, suM_app, suM_app, suM_r0]
      have := wtN_t (Ls := Ls) (T := ntN sp (nB A (e : Int)) (nB A ((last : Int) + 1) - nB A (e : Int))) (s := (shP room A sp e last).toNat)
      have e1 : suM (([((List.replicate 10 45, 0, 0) : GL9)]).map (·.1)) = 10 := rfl
      rw [e1]
      show 0 + 10 + wtN Ls _ ≤ _
      omega
    · exact Nat.zero_le _
  omega
/-- what is known of a page -/
def PgO (room : Int) (A : List Int) (sp : List (Int × Int)) (e last : Nat) : Prop := e ≤ last ∧ ((fitP room A sp e last = true) ∨ (last = e ∧ 0 < ftP A sp e last))
theorem pgE_o (hB : PgB room F Ls A sp) (hr : 3 ≤ room) (hfr : fr < F.length) (h0 : 0 ≤ F.getD fr 0) : PgO room A sp fr (pgE room F Ls A sp fr) := by
  obtain ⟨h1, h2, h3, h4, h5⟩ := pgE_p (room := room) (Ls := Ls) (A := A) (sp := sp) hfr h0
  refine ⟨h1, ?_⟩
  rcases h5 with ⟨-, h⟩ | ⟨hb, he⟩
  · exact Or.inl h
  · refine Or.inr ⟨he, ?_⟩
    rw [he]
    by_cases c : 0 < ftP A sp fr fr
    · exact c
    · exfalso
      have hf : fitP room A sp fr fr = true := by
        unfold fitP
        rw [if_neg c]
        exact decide_eq_true (by omega)
      have := peD_f (Ls := Ls) hfr h0 hf
      rw [hb] at this
      cases this
theorem pgG_l {last : Nat} (hB : PgB room F Ls A sp) (hr : 3 ≤ room) (hroom : room = S.getD 9 0 - (if S.getD 10 0 = 1 then 2 else 0)) (hS9 : S.getD 9 0 ≤ 60) (ho : PgO room A sp e last) : (pgG S F Ls A sp g room c e last).length ≤ 60 := by
  have hgl := hdG_l (S := S) (g := g) (c := c) (e := e)
  unfold pgG
  rw [List.length_append, List.length_append, bdS_l, hgl]
  have hle := ho.1
  have elf : lfP room e last = room - (((last : Int) - (e : Int)) + 1) - 1 := rfl
  by_cases hft : 0 < ftP A sp e last
  · have lfl : shP room A sp e last ≤ lfP room e last := Int.min_le_left _ _
    have l9 : (ftG room Ls A sp e last).length ≤ (lfP room e last - shP room A sp e last).toNat + 1 + (shP room A sp e last).toNat := by
      unfold ftG
      rw [if_pos hft, List.length_append, List.length_append, List.length_replicate, List.length_map, List.length_take]
      show _ + 1 + min _ _ ≤ _
      omega
    have sh0 : 0 ≤ shP room A sp e last := by
      have : shP room A sp e last = min (lfP room e last) (ftP A sp e last) := rfl
      rcases ho.2 with h | ⟨h, -⟩
      · have h := of_decide_eq_true h
        rw [if_pos hft] at h
        omega
      · omega
    split at hgl <;> split at hroom <;> split <;> omega
  · have h := ho.2.resolve_right (fun h => hft h.2)
    have h := of_decide_eq_true h
    rw [if_neg hft] at h
    have l0 : (ftG room Ls A sp e last).length = 0 := by
      unfold ftG
      rw [if_neg hft]
      rfl
    rw [l0]
    split at hroom <;> split <;> omega
end
