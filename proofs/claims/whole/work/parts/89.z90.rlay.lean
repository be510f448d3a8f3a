/-! PAGES: all pages, the reference -/
/-- all lines of a proof -/
def prG9 (S : List Int) (F : List Int) (Ls : List GL9) (A : List Int) (sp : List (Int × Int)) (g : HG9) (room : Int) : Nat → List (Nat × Nat) → List GL9
  | _, [] => []
  | c, p :: P => pgG S F Ls A sp g room c p.1 p.2 ++ prG9 S F Ls A sp g room (c + 1) P
/-- where pages begin -/
def psG (S : List Int) (F : List Int) (Ls : List GL9) (A : List Int) (sp : List (Int × Int)) (g : HG9) (room : Int) : Nat → Nat → List (Nat × Nat) → List Nat
  | _, _, [] => []
  | n, c, p :: P => n :: psG S F Ls A sp g room (n + (pgG S F Ls A sp g room c p.1 p.2).length) (c + 1) P
/-- the page on which a place lies -/
def pgN : List (Nat × Nat) → Int → Nat
  | [], _ => 0
  | p :: P, x => if x ≤ (p.2 : Int) then 0 else pgN P x + 1
/-- lines know their pages -/
def LpN (σ : MS) (F : List Int) (P : List (Nat × Nat)) (i : Nat) : Prop := ∀ j, j < i → 0 ≤ F.getD j 0 → mV σ 319 (F.getD j 0).toNat = (pgN P (j : Int) : Int)
/-- page starts of the reference -/
def StR (σ : MS) (Z : List Nat) (n : Nat) : Prop := ∀ k, k < Z.length → mV σ 328 k = ((Z.getD k 0 : Nat) : Int)
section
variable {σ σ0 : MS} {Q : MQ9} {room : Int} {F : List Int} {Ls : List GL9} {A : List Int} {sp : List (Int × Int)} {nw : Nat} {S : List Int} {g : HG9}
theorem prG9_a : ∀ {P P' : List (Nat × Nat)} {c : Nat}, prG9 S F Ls A sp g room c (P ++ P') = prG9 S F Ls A sp g room c P ++ prG9 S F Ls A sp g room (c + P.length) P'
  | [], P', c => by
    show prG9 S F Ls A sp g room c P' = [] ++ prG9 S F Ls A sp g room (c + 0) P'
    rfl
  | p :: P, P', c => by
    have ih := prG9_a (P := P) (P' := P') (c := c + 1)
    show pgG S F Ls A sp g room c p.1 p.2 ++ prG9 S F Ls A sp g room (c + 1) (P ++ P') = (pgG S F Ls A sp g room c p.1 p.2 ++ prG9 S F Ls A sp g room (c + 1) P) ++ prG9 S F Ls A sp g room (c + (P.length + 1)) P'
    rw [ih, List.append_assoc, show c + 1 + P.length = c + (P.length + 1) by omega]
theorem psG_a : ∀ {P P' : List (Nat × Nat)} {c n : Nat}, psG S F Ls A sp g room n c (P ++ P') = psG S F Ls A sp g room n c P ++ psG S F Ls A sp g room (n + (prG9 S F Ls A sp g room c P).length) (c + P.length) P'
  | [], P', c, n => rfl
  | p :: P, P', c, n => by
    have ih := psG_a (P := P) (P' := P') (c := c + 1) (n := n + (pgG S F Ls A sp g room c p.1 p.2).length)
    show n :: psG S F Ls A sp g room _ (c + 1) (P ++ P') = (n :: psG S F Ls A sp g room _ (c + 1) P) ++ psG S F Ls A sp g room (n + (pgG S F Ls A sp g room c p.1 p.2 ++ prG9 S F Ls A sp g room (c + 1) P).length) (c + (P.length + 1)) P'
    rw [ih, List.length_append, show c + 1 + P.length = c + (P.length + 1) by omega, Nat.add_assoc]
    rfl
theorem psG_l : ∀ {P : List (Nat × Nat)} {c n : Nat}, (psG S F Ls A sp g room n c P).length = P.length
  | [], c, n => rfl
  | p :: P, c, n => by
    show (psG S F Ls A sp g room _ (c + 1) P).length + 1 = P.length + 1
    rw [psG_l]
theorem pgN_sn : ∀ {P : List (Nat × Nat)} {p : Nat × Nat} {x : Int}, (∀ q ∈ P, ¬ x ≤ (q.2 : Int)) → x ≤ (p.2 : Int) → pgN (P ++ [p]) x = P.length
  | [], p, x, _, h => if_pos h
  | q :: P, p, x, h1, h => by
    have ih := pgN_sn (P := P) (p := p) (x := x) (fun r hr => h1 r (List.mem_cons_of_mem _ hr)) h
    show (if x ≤ (q.2 : Int) then 0 else pgN (P ++ [p]) x + 1) = P.length + 1
    rw [if_neg (h1 q List.mem_cons_self), ih]
theorem pgN_in : ∀ {P P' : List (Nat × Nat)} {x : Int}, (∃ q ∈ P, x ≤ (q.2 : Int)) → pgN (P ++ P') x = pgN P x
  | [], P', x, h => by
    obtain ⟨q, hq, -⟩ := h
    exact absurd hq List.not_mem_nil
  | q :: P, P', x, h => by
    show (if x ≤ (q.2 : Int) then 0 else pgN (P ++ P') x + 1) = (if x ≤ (q.2 : Int) then 0 else pgN P x + 1)
    by_cases c : x ≤ (q.2 : Int)
    · rw [if_pos c, if_pos c]
    · rw [if_neg c, if_neg c, pgN_in (P := P)]
      obtain ⟨r, hr, h9⟩ := h
      rcases List.mem_cons.mp hr with e | e
      · rw [e] at h9
        exact absurd h9 c
      · exact ⟨r, e, h9⟩
/-- places without lines are skipped -/
theorem rly_49 (hB : PgB room F Ls A sp) (hE : ElR σ F) : ∀ (n i : Nat), F.length ≤ i + n → i ≤ F.length → (∀ e : Nat, i ≤ e → e ≤ F.length → (∀ j, i ≤ j → j < e → F.getD j 0 < 0) → (e < F.length → 0 ≤ F.getD e 0) → R_lay_72 (e : Int) room σ Q) → R_lay_49 (i : Int) room σ Q := by
  have lf := hB.2.1
  have e112 : mV σ 246 112 = (F.length : Int) := hE.1
  intro n
  induction n with
  | zero =>
    intro i hn hi hq
    exact R_lay_49.i ⟨by unfold Rg; omega, fun _ => hq i (Nat.le_refl _) hi (fun j h1 h2 => absurd h2 (by omega)) (fun h => absurd h (by omega)), fun h => by rw [e112] at h; omega⟩
  | succ n ih =>
    intro i hn hi hq
    by_cases hil : i < F.length
    · refine R_lay_49.i ⟨by unfold Rg; omega, fun h => by rw [e112] at h; omega, fun _ => ⟨by omega, by omega, ?_⟩⟩
      rw [Int.toNat_natCast, (hE.2 i hil).1]
      by_cases f0 : 0 ≤ F.getD i 0
      · refine ⟨fun _ => hq i (Nat.le_refl _) hi (fun j h1 h2 => absurd h2 (by omega)) (fun _ => f0), fun h => absurd (show elK (F.getD i 0) = 0 from if_pos f0) h⟩
      · have ek : ¬ elK (F.getD i 0) = 0 := by
          unfold elK
          rw [if_neg f0]
          split <;> decide
        refine ⟨fun h => absurd h ek, fun _ => ?_⟩
        rw [show (i : Int) + 1 = ((i + 1 : Nat) : Int) by omega]
        refine ih (i + 1) (by omega) (by omega) (fun e h1 h2 h3 h4 => hq e (by omega) h2 (fun j g1 g2 => ?_) h4)
        by_cases ej : j = i
        · rw [ej]
          omega
        · exact h3 j (by omega) g2
    · exact R_lay_49.i ⟨by unfold Rg; omega, fun _ => hq i (Nat.le_refl _) hi (fun j h1 h2 => absurd h2 (by omega)) (fun h => absurd h (by omega)), fun h => by rw [e112] at h; omega⟩
theorem pgD_sk : ∀ {m i c : Nat}, (∀ j, i ≤ j → j < i + m → F.getD j 0 < 0) → i + m ≤ F.length → ∀ n, pgD room F Ls A sp (n + m) i c = pgD room F Ls A sp n (i + m) c
  | 0, i, c, _, _, n => rfl
  | m + 1, i, c, h, hl, n => by
    have ih := pgD_sk (m := m) (i := i + 1) (c := c) (fun j h1 h2 => h j (by omega) (by omega)) (by omega) n
    rw [show n + (m + 1) = (n + m) + 1 by omega]
    conv => lhs; unfold pgD
    rw [if_neg (by omega), if_pos (h i (Nat.le_refl _) (by omega)), ih, show i + 1 + m = i + (m + 1) by omega]
end
