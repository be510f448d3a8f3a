/-! x as it is made -/
theorem rowl_new {G : Nat → ClassId} {N : Nat} {ad : Nat → Nat} {cl : Nat → va_E} {q : Nat} (hN : q + 1 < N) (h1 : cl q = .inr (5, [.ref (ad (q + 1)), .int 0])) (h2 : cl (q + 1) = .inl (G 0, 16, .inl (fun _ => 0))) : RowL G N ad cl q 16 [] := ⟨hN, h1, ⟨_, h2, fun j hj => absurd hj (Nat.not_lt_zero j)⟩, Nat.zero_le _, Nat.le_refl _, by decide⟩
def c16 : Nat → Nat := fun _ => 16
def xs0 : Nat → List Int32 := fun _ => []
def v0X : Nat → Nat → Int32 := fun z k => if z = 111 ∧ k = 12 then -1 else 0
def g0X : Nat → Nat → Int32 := fun z => if z = 24 then va_cpy (tOf [40, 2, 3, 1, 2, 2, 0, 2, 1, 24, 0, 1, 1]) (fun _ => 0) 0 0 13 else fun _ => 0
def nb0 : Nat → Nat := fun j => if j = 1 then 163 else 49
theorem fq_new {ad : Nat → Nat} : va_up (va_up (va_up (va_up (va_up (va_up (fun _ => none) (0 : Int32).toNatClampNeg (some (ad (0 + 10)))) (1 : Int32).toNatClampNeg (some (ad (0 + 12)))) (2 : Int32).toNatClampNeg (some (ad (0 + 14)))) (3 : Int32).toNatClampNeg (some (ad (0 + 16)))) (4 : Int32).toNatClampNeg (some (ad (0 + 18)))) (5 : Int32).toNatClampNeg (some (ad (0 + 20))) = fq ad := by
  funext k
  by_cases hk : k < 6
  · rcases (show k = 0 ∨ k = 1 ∨ k = 2 ∨ k = 3 ∨ k = 4 ∨ k = 5 by omega) with rfl | rfl | rfl | rfl | rfl | rfl <;> rfl
  · have e : ∀ (f : Nat → Option Nat) (i : Nat) (w : Option Nat), i < 6 → va_up f i w k = f k := fun f i w hi => va_up_ne _ _ (by omega)
    rw [e _ _ _ (by decide), e _ _ _ (by decide), e _ _ _ (by decide), e _ _ _ (by decide), e _ _ _ (by decide), e _ _ _ (by decide), fq, if_neg hk]
set_option maxHeartbeats 8000000 in
set_option maxRecDepth 100000 in
theorem xw_rows {G : Nat → ClassId} {N : Nat} {ad : Nat → Nat} {cl : Nat → va_E} (hN : 246 ≤ N) (h : Blk cl 0 (bX11 G ad 0)) : ∀ q ∈ xRows, RowL G N ad cl q (c16 q) (xs0 q) := by
  have r1 : RowL G N ad cl 1 16 [] := rowl_new (by omega) (h 1 _ rfl) (h 2 _ rfl)
  have r3 : RowL G N ad cl 3 16 [] := rowl_new (by omega) (h 3 _ rfl) (h 4 _ rfl)
  have r5 : RowL G N ad cl 5 16 [] := rowl_new (by omega) (h 5 _ rfl) (h 6 _ rfl)
  have r7 : RowL G N ad cl 7 16 [] := rowl_new (by omega) (h 7 _ rfl) (h 8 _ rfl)
  have r10 : RowL G N ad cl 10 16 [] := rowl_new (by omega) (h 10 _ rfl) (h 11 _ rfl)
  have r12 : RowL G N ad cl 12 16 [] := rowl_new (by omega) (h 12 _ rfl) (h 13 _ rfl)
  have r14 : RowL G N ad cl 14 16 [] := rowl_new (by omega) (h 14 _ rfl) (h 15 _ rfl)
  have r16 : RowL G N ad cl 16 16 [] := rowl_new (by omega) (h 16 _ rfl) (h 17 _ rfl)
  have r18 : RowL G N ad cl 18 16 [] := rowl_new (by omega) (h 18 _ rfl) (h 19 _ rfl)
  have r20 : RowL G N ad cl 20 16 [] := rowl_new (by omega) (h 20 _ rfl) (h 21 _ rfl)
  have r26 : RowL G N ad cl 26 16 [] := rowl_new (by omega) (h 26 _ rfl) (h 27 _ rfl)
  have r28 : RowL G N ad cl 28 16 [] := rowl_new (by omega) (h 28 _ rfl) (h 29 _ rfl)
  have r30 : RowL G N ad cl 30 16 [] := rowl_new (by omega) (h 30 _ rfl) (h 31 _ rfl)
  have r32 : RowL G N ad cl 32 16 [] := rowl_new (by omega) (h 32 _ rfl) (h 33 _ rfl)
  have r35 : RowL G N ad cl 35 16 [] := rowl_new (by omega) (h 35 _ rfl) (h 36 _ rfl)
  have r37 : RowL G N ad cl 37 16 [] := rowl_new (by omega) (h 37 _ rfl) (h 38 _ rfl)
  have r40 : RowL G N ad cl 40 16 [] := rowl_new (by omega) (h 40 _ rfl) (h 41 _ rfl)
  have r42 : RowL G N ad cl 42 16 [] := rowl_new (by omega) (h 42 _ rfl) (h 43 _ rfl)
  have r45 : RowL G N ad cl 45 16 [] := rowl_new (by omega) (h 45 _ rfl) (h 46 _ rfl)
  have r47 : RowL G N ad cl 47 16 [] := rowl_new (by omega) (h 47 _ rfl) (h 48 _ rfl)
  have r51 : RowL G N ad cl 51 16 [] := rowl_new (by omega) (h 51 _ rfl) (h 52 _ rfl)
  have r53 : RowL G N ad cl 53 16 [] := rowl_new (by omega) (h 53 _ rfl) (h 54 _ rfl)
  have r56 : RowL G N ad cl 56 16 [] := rowl_new (by omega) (h 56 _ rfl) (h 57 _ rfl)
  have r58 : RowL G N ad cl 58 16 [] := rowl_new (by omega) (h 58 _ rfl) (h 59 _ rfl)
  have r60 : RowL G N ad cl 60 16 [] := rowl_new (by omega) (h 60 _ rfl) (h 61 _ rfl)
  have r63 : RowL G N ad cl 63 16 [] := rowl_new (by omega) (h 63 _ rfl) (h 64 _ rfl)
  have r65 : RowL G N ad cl 65 16 [] := rowl_new (by omega) (h 65 _ rfl) (h 66 _ rfl)
  have r67 : RowL G N ad cl 67 16 [] := rowl_new (by omega) (h 67 _ rfl) (h 68 _ rfl)
  have r69 : RowL G N ad cl 69 16 [] := rowl_new (by omega) (h 69 _ rfl) (h 70 _ rfl)
  have r71 : RowL G N ad cl 71 16 [] := rowl_new (by omega) (h 71 _ rfl) (h 72 _ rfl)
  have r74 : RowL G N ad cl 74 16 [] := rowl_new (by omega) (h 74 _ rfl) (h 75 _ rfl)
  have r76 : RowL G N ad cl 76 16 [] := rowl_new (by omega) (h 76 _ rfl) (h 77 _ rfl)
  have r78 : RowL G N ad cl 78 16 [] := rowl_new (by omega) (h 78 _ rfl) (h 79 _ rfl)
  have r80 : RowL G N ad cl 80 16 [] := rowl_new (by omega) (h 80 _ rfl) (h 81 _ rfl)
  have r82 : RowL G N ad cl 82 16 [] := rowl_new (by omega) (h 82 _ rfl) (h 83 _ rfl)
  have r84 : RowL G N ad cl 84 16 [] := rowl_new (by omega) (h 84 _ rfl) (h 85 _ rfl)
  have r87 : RowL G N ad cl 87 16 [] := rowl_new (by omega) (h 87 _ rfl) (h 88 _ rfl)
  have r89 : RowL G N ad cl 89 16 [] := rowl_new (by omega) (h 89 _ rfl) (h 90 _ rfl)
  have r91 : RowL G N ad cl 91 16 [] := rowl_new (by omega) (h 91 _ rfl) (h 92 _ rfl)
  have r93 : RowL G N ad cl 93 16 [] := rowl_new (by omega) (h 93 _ rfl) (h 94 _ rfl)
  have r95 : RowL G N ad cl 95 16 [] := rowl_new (by omega) (h 95 _ rfl) (h 96 _ rfl)
  have r98 : RowL G N ad cl 98 16 [] := rowl_new (by omega) (h 98 _ rfl) (h 99 _ rfl)
  have r100 : RowL G N ad cl 100 16 [] := rowl_new (by omega) (h 100 _ rfl) (h 101 _ rfl)
  have r102 : RowL G N ad cl 102 16 [] := rowl_new (by omega) (h 102 _ rfl) (h 103 _ rfl)
  have r105 : RowL G N ad cl 105 16 [] := rowl_new (by omega) (h 105 _ rfl) (h 106 _ rfl)
  have r107 : RowL G N ad cl 107 16 [] := rowl_new (by omega) (h 107 _ rfl) (h 108 _ rfl)
  have r109 : RowL G N ad cl 109 16 [] := rowl_new (by omega) (h 109 _ rfl) (h 110 _ rfl)
  have r112 : RowL G N ad cl 112 16 [] := rowl_new (by omega) (h 112 _ rfl) (h 113 _ rfl)
  have r114 : RowL G N ad cl 114 16 [] := rowl_new (by omega) (h 114 _ rfl) (h 115 _ rfl)
  have r116 : RowL G N ad cl 116 16 [] := rowl_new (by omega) (h 116 _ rfl) (h 117 _ rfl)
  have r118 : RowL G N ad cl 118 16 [] := rowl_new (by omega) (h 118 _ rfl) (h 119 _ rfl)
  have r120 : RowL G N ad cl 120 16 [] := rowl_new (by omega) (h 120 _ rfl) (h 121 _ rfl)
  have r122 : RowL G N ad cl 122 16 [] := rowl_new (by omega) (h 122 _ rfl) (h 123 _ rfl)
  have r124 : RowL G N ad cl 124 16 [] := rowl_new (by omega) (h 124 _ rfl) (h 125 _ rfl)
  have r130 : RowL G N ad cl 130 16 [] := rowl_new (by omega) (h 130 _ rfl) (h 131 _ rfl)
  have r132 : RowL G N ad cl 132 16 [] := rowl_new (by omega) (h 132 _ rfl) (h 133 _ rfl)
  have r134 : RowL G N ad cl 134 16 [] := rowl_new (by omega) (h 134 _ rfl) (h 135 _ rfl)
  have r136 : RowL G N ad cl 136 16 [] := rowl_new (by omega) (h 136 _ rfl) (h 137 _ rfl)
  have r138 : RowL G N ad cl 138 16 [] := rowl_new (by omega) (h 138 _ rfl) (h 139 _ rfl)
  have r140 : RowL G N ad cl 140 16 [] := rowl_new (by omega) (h 140 _ rfl) (h 141 _ rfl)
  have r142 : RowL G N ad cl 142 16 [] := rowl_new (by omega) (h 142 _ rfl) (h 143 _ rfl)
  have r144 : RowL G N ad cl 144 16 [] := rowl_new (by omega) (h 144 _ rfl) (h 145 _ rfl)
  have r146 : RowL G N ad cl 146 16 [] := rowl_new (by omega) (h 146 _ rfl) (h 147 _ rfl)
  have r148 : RowL G N ad cl 148 16 [] := rowl_new (by omega) (h 148 _ rfl) (h 149 _ rfl)
  have r152 : RowL G N ad cl 152 16 [] := rowl_new (by omega) (h 152 _ rfl) (h 153 _ rfl)
  have r154 : RowL G N ad cl 154 16 [] := rowl_new (by omega) (h 154 _ rfl) (h 155 _ rfl)
  have r156 : RowL G N ad cl 156 16 [] := rowl_new (by omega) (h 156 _ rfl) (h 157 _ rfl)
  have r158 : RowL G N ad cl 158 16 [] := rowl_new (by omega) (h 158 _ rfl) (h 159 _ rfl)
  have r165 : RowL G N ad cl 165 16 [] := rowl_new (by omega) (h 165 _ rfl) (h 166 _ rfl)
  have r167 : RowL G N ad cl 167 16 [] := rowl_new (by omega) (h 167 _ rfl) (h 168 _ rfl)
  have r170 : RowL G N ad cl 170 16 [] := rowl_new (by omega) (h 170 _ rfl) (h 171 _ rfl)
  have r172 : RowL G N ad cl 172 16 [] := rowl_new (by omega) (h 172 _ rfl) (h 173 _ rfl)
  have r174 : RowL G N ad cl 174 16 [] := rowl_new (by omega) (h 174 _ rfl) (h 175 _ rfl)
  have r177 : RowL G N ad cl 177 16 [] := rowl_new (by omega) (h 177 _ rfl) (h 178 _ rfl)
  have r179 : RowL G N ad cl 179 16 [] := rowl_new (by omega) (h 179 _ rfl) (h 180 _ rfl)
  have r181 : RowL G N ad cl 181 16 [] := rowl_new (by omega) (h 181 _ rfl) (h 182 _ rfl)
  have r183 : RowL G N ad cl 183 16 [] := rowl_new (by omega) (h 183 _ rfl) (h 184 _ rfl)
  have r185 : RowL G N ad cl 185 16 [] := rowl_new (by omega) (h 185 _ rfl) (h 186 _ rfl)
  have r188 : RowL G N ad cl 188 16 [] := rowl_new (by omega) (h 188 _ rfl) (h 189 _ rfl)
  have r190 : RowL G N ad cl 190 16 [] := rowl_new (by omega) (h 190 _ rfl) (h 191 _ rfl)
  have r192 : RowL G N ad cl 192 16 [] := rowl_new (by omega) (h 192 _ rfl) (h 193 _ rfl)
  have r194 : RowL G N ad cl 194 16 [] := rowl_new (by omega) (h 194 _ rfl) (h 195 _ rfl)
  have r196 : RowL G N ad cl 196 16 [] := rowl_new (by omega) (h 196 _ rfl) (h 197 _ rfl)
  have r198 : RowL G N ad cl 198 16 [] := rowl_new (by omega) (h 198 _ rfl) (h 199 _ rfl)
  have r200 : RowL G N ad cl 200 16 [] := rowl_new (by omega) (h 200 _ rfl) (h 201 _ rfl)
  have r202 : RowL G N ad cl 202 16 [] := rowl_new (by omega) (h 202 _ rfl) (h 203 _ rfl)
  have r204 : RowL G N ad cl 204 16 [] := rowl_new (by omega) (h 204 _ rfl) (h 205 _ rfl)
  have r206 : RowL G N ad cl 206 16 [] := rowl_new (by omega) (h 206 _ rfl) (h 207 _ rfl)
  have r208 : RowL G N ad cl 208 16 [] := rowl_new (by omega) (h 208 _ rfl) (h 209 _ rfl)
  have r214 : RowL G N ad cl 214 16 [] := rowl_new (by omega) (h 214 _ rfl) (h 215 _ rfl)
  have r216 : RowL G N ad cl 216 16 [] := rowl_new (by omega) (h 216 _ rfl) (h 217 _ rfl)
  have r218 : RowL G N ad cl 218 16 [] := rowl_new (by omega) (h 218 _ rfl) (h 219 _ rfl)
  have r220 : RowL G N ad cl 220 16 [] := rowl_new (by omega) (h 220 _ rfl) (h 221 _ rfl)
  have r222 : RowL G N ad cl 222 16 [] := rowl_new (by omega) (h 222 _ rfl) (h 223 _ rfl)
  have r224 : RowL G N ad cl 224 16 [] := rowl_new (by omega) (h 224 _ rfl) (h 225 _ rfl)
  have r226 : RowL G N ad cl 226 16 [] := rowl_new (by omega) (h 226 _ rfl) (h 227 _ rfl)
  have r231 : RowL G N ad cl 231 16 [] := rowl_new (by omega) (h 231 _ rfl) (h 232 _ rfl)
  have r233 : RowL G N ad cl 233 16 [] := rowl_new (by omega) (h 233 _ rfl) (h 234 _ rfl)
  have r235 : RowL G N ad cl 235 16 [] := rowl_new (by omega) (h 235 _ rfl) (h 236 _ rfl)
  have r237 : RowL G N ad cl 237 16 [] := rowl_new (by omega) (h 237 _ rfl) (h 238 _ rfl)
  have r239 : RowL G N ad cl 239 16 [] := rowl_new (by omega) (h 239 _ rfl) (h 240 _ rfl)
  have r241 : RowL G N ad cl 241 16 [] := rowl_new (by omega) (h 241 _ rfl) (h 242 _ rfl)
  have r243 : RowL G N ad cl 243 16 [] := rowl_new (by omega) (h 243 _ rfl) (h 244 _ rfl)
  exact List.forall_mem_cons.mpr ⟨r1, List.forall_mem_cons.mpr ⟨r3, List.forall_mem_cons.mpr ⟨r5, List.forall_mem_cons.mpr ⟨r7, List.forall_mem_cons.mpr ⟨r10, List.forall_mem_cons.mpr ⟨r12, List.forall_mem_cons.mpr ⟨r14, List.forall_mem_cons.mpr ⟨r16, List.forall_mem_cons.mpr ⟨r18, List.forall_mem_cons.mpr ⟨r20, List.forall_mem_cons.mpr ⟨r26, List.forall_mem_cons.mpr ⟨r28, List.forall_mem_cons.mpr ⟨r30, List.forall_mem_cons.mpr ⟨r32, List.forall_mem_cons.mpr ⟨r35, List.forall_mem_cons.mpr ⟨r37, List.forall_mem_cons.mpr ⟨r40, List.forall_mem_cons.mpr ⟨r42, List.forall_mem_cons.mpr ⟨r45, List.forall_mem_cons.mpr ⟨r47, List.forall_mem_cons.mpr ⟨r51, List.forall_mem_cons.mpr ⟨r53, List.forall_mem_cons.mpr ⟨r56, List.forall_mem_cons.mpr ⟨r58, List.forall_mem_cons.mpr ⟨r60, List.forall_mem_cons.mpr ⟨r63, List.forall_mem_cons.mpr ⟨r65, List.forall_mem_cons.mpr ⟨r67, List.forall_mem_cons.mpr ⟨r69, List.forall_mem_cons.mpr ⟨r71, List.forall_mem_cons.mpr ⟨r74, List.forall_mem_cons.mpr ⟨r76, List.forall_mem_cons.mpr ⟨r78, List.forall_mem_cons.mpr ⟨r80, List.forall_mem_cons.mpr ⟨r82, List.forall_mem_cons.mpr ⟨r84, List.forall_mem_cons.mpr ⟨r87, List.forall_mem_cons.mpr ⟨r89, List.forall_mem_cons.mpr ⟨r91, List.forall_mem_cons.mpr ⟨r93, List.forall_mem_cons.mpr ⟨r95, List.forall_mem_cons.mpr ⟨r98, List.forall_mem_cons.mpr ⟨r100, List.forall_mem_cons.mpr ⟨r102, List.forall_mem_cons.mpr ⟨r105, List.forall_mem_cons.mpr ⟨r107, List.forall_mem_cons.mpr ⟨r109, List.forall_mem_cons.mpr ⟨r112, List.forall_mem_cons.mpr ⟨r114, List.forall_mem_cons.mpr ⟨r116, List.forall_mem_cons.mpr ⟨r118, List.forall_mem_cons.mpr ⟨r120, List.forall_mem_cons.mpr ⟨r122, List.forall_mem_cons.mpr ⟨r124, List.forall_mem_cons.mpr ⟨r130, List.forall_mem_cons.mpr ⟨r132, List.forall_mem_cons.mpr ⟨r134, List.forall_mem_cons.mpr ⟨r136, List.forall_mem_cons.mpr ⟨r138, List.forall_mem_cons.mpr ⟨r140, List.forall_mem_cons.mpr ⟨r142, List.forall_mem_cons.mpr ⟨r144, List.forall_mem_cons.mpr ⟨r146, List.forall_mem_cons.mpr ⟨r148, List.forall_mem_cons.mpr ⟨r152, List.forall_mem_cons.mpr ⟨r154, List.forall_mem_cons.mpr ⟨r156, List.forall_mem_cons.mpr ⟨r158, List.forall_mem_cons.mpr ⟨r165, List.forall_mem_cons.mpr ⟨r167, List.forall_mem_cons.mpr ⟨r170, List.forall_mem_cons.mpr ⟨r172, List.forall_mem_cons.mpr ⟨r174, List.forall_mem_cons.mpr ⟨r177, List.forall_mem_cons.mpr ⟨r179, List.forall_mem_cons.mpr ⟨r181, List.forall_mem_cons.mpr ⟨r183, List.forall_mem_cons.mpr ⟨r185, List.forall_mem_cons.mpr ⟨r188, List.forall_mem_cons.mpr ⟨r190, List.forall_mem_cons.mpr ⟨r192, List.forall_mem_cons.mpr ⟨r194, List.forall_mem_cons.mpr ⟨r196, List.forall_mem_cons.mpr ⟨r198, List.forall_mem_cons.mpr ⟨r200, List.forall_mem_cons.mpr ⟨r202, List.forall_mem_cons.mpr ⟨r204, List.forall_mem_cons.mpr ⟨r206, List.forall_mem_cons.mpr ⟨r208, List.forall_mem_cons.mpr ⟨r214, List.forall_mem_cons.mpr ⟨r216, List.forall_mem_cons.mpr ⟨r218, List.forall_mem_cons.mpr ⟨r220, List.forall_mem_cons.mpr ⟨r222, List.forall_mem_cons.mpr ⟨r224, List.forall_mem_cons.mpr ⟨r226, List.forall_mem_cons.mpr ⟨r231, List.forall_mem_cons.mpr ⟨r233, List.forall_mem_cons.mpr ⟨r235, List.forall_mem_cons.mpr ⟨r237, List.forall_mem_cons.mpr ⟨r239, List.forall_mem_cons.mpr ⟨r241, List.forall_mem_cons.mpr ⟨r243, fun _ hq => absurd hq List.not_mem_nil⟩⟩⟩⟩⟩⟩⟩⟩⟩⟩⟩⟩⟩⟩⟩⟩⟩⟩⟩⟩⟩⟩⟩⟩⟩⟩⟩⟩⟩⟩⟩⟩⟩⟩⟩⟩⟩⟩⟩⟩⟩⟩⟩⟩⟩⟩⟩⟩⟩⟩⟩⟩⟩⟩⟩⟩⟩⟩⟩⟩⟩⟩⟩⟩⟩⟩⟩⟩⟩⟩⟩⟩⟩⟩⟩⟩⟩⟩⟩⟩⟩⟩⟩⟩⟩⟩⟩⟩⟩⟩⟩⟩⟩⟩⟩⟩⟩⟩⟩⟩⟩⟩⟩
set_option maxHeartbeats 8000000 in
set_option maxRecDepth 100000 in
theorem xw_objs {G : Nat → ClassId} {ad : Nat → Nat} {cl : Nat → va_E} (h : Blk cl 0 (bX11 G ad 0)) : ∀ q ∈ xObjs, cl q.1 = .inr (q.2.1, fmap (fval ad v0X nb0 q.1) 0 q.2.2) := by
  have o0 : cl 0 = .inr (11, [.ref (ad 1), .ref (ad 3), .ref (ad 5), .ref (ad 7), .ref (ad 9), .int 0, .int 0, .ref (ad 22), .ref (ad 23), .ref (ad 86), .ref (ad 111), .ref (ad 127), .ref (ad 212), .ref (ad 229), .int 0]) := h 0 _ rfl
  have o22 : cl 22 = .inr (4, [.int 0, .int 0, .int 0]) := h 22 _ rfl
  have o23 : cl 23 = .inr (6, [.ref (ad 22), .ref (ad 24), .ref (ad 25), .ref (ad 30), .ref (ad 32), .ref (ad 34), .ref (ad 39), .ref (ad 44)]) := h 23 _ rfl
  have o25 : cl 25 = .inr (8, [.ref (ad 26), .ref (ad 28)]) := h 25 _ rfl
  have o34 : cl 34 = .inr (8, [.ref (ad 35), .ref (ad 37)]) := h 34 _ rfl
  have o39 : cl 39 = .inr (8, [.ref (ad 40), .ref (ad 42)]) := h 39 _ rfl
  have o44 : cl 44 = .inr (8, [.ref (ad 45), .ref (ad 47)]) := h 44 _ rfl
  have o49 : cl 49 = .inr (2, [.ref (ad 50), .ref (ad 55), .ref (ad 60), .ref (ad 62), .ref (ad 67), .ref (ad 69), .ref (ad 71), .ref (ad 73), .ref (ad 78), .ref (ad 80), .ref (ad 82), .ref (ad 84), .int 0, .int 0, .int 0, .int 0]) := h 49 _ rfl
  have o50 : cl 50 = .inr (8, [.ref (ad 51), .ref (ad 53)]) := h 50 _ rfl
  have o55 : cl 55 = .inr (8, [.ref (ad 56), .ref (ad 58)]) := h 55 _ rfl
  have o62 : cl 62 = .inr (8, [.ref (ad 63), .ref (ad 65)]) := h 62 _ rfl
  have o73 : cl 73 = .inr (8, [.ref (ad 74), .ref (ad 76)]) := h 73 _ rfl
  have o86 : cl 86 = .inr (10, [.ref (ad 22), .ref (ad 23), .ref (ad 49), .ref (ad 49), .ref (ad 87), .ref (ad 89), .ref (ad 91), .ref (ad 93), .ref (ad 95), .ref (ad 97), .ref (ad 102), .ref (ad 104), .ref (ad 109), .int 0, .int 0, .int 0, .int 0, .int 0, .int 0]) := h 86 _ rfl
  have o97 : cl 97 = .inr (8, [.ref (ad 98), .ref (ad 100)]) := h 97 _ rfl
  have o104 : cl 104 = .inr (8, [.ref (ad 105), .ref (ad 107)]) := h 104 _ rfl
  have o111 : cl 111 = .inr (0, [.ref (ad 23), .ref (ad 112), .ref (ad 114), .ref (ad 116), .ref (ad 118), .ref (ad 120), .ref (ad 122), .ref (ad 124), .ref (ad 126), .int 0, .int 0, .int 0, .int (-1)]) := h 111 _ rfl
  have o127 : cl 127 = .inr (7, [.ref (ad 3), .ref (ad 22), .ref (ad 23), .ref (ad 86), .ref (ad 111), .ref (ad 128), .ref (ad 150), .ref (ad 49), .ref (ad 163), .ref (ad 200), .ref (ad 202), .ref (ad 204), .ref (ad 206), .ref (ad 208), .ref (ad 210), .ref (ad 211), .int 0, .int 0, .int 0]) := h 127 _ rfl
  have o128 : cl 128 = .inr (1, [.ref (ad 22), .ref (ad 129), .ref (ad 134), .ref (ad 136), .ref (ad 138), .ref (ad 140), .ref (ad 142), .ref (ad 144), .ref (ad 146), .ref (ad 148), .int 0]) := h 128 _ rfl
  have o129 : cl 129 = .inr (8, [.ref (ad 130), .ref (ad 132)]) := h 129 _ rfl
  have o150 : cl 150 = .inr (9, [.ref (ad 22), .ref (ad 111), .ref (ad 128), .ref (ad 151), .ref (ad 156), .ref (ad 158), .ref (ad 160), .ref (ad 161), .ref (ad 162), .int 0]) := h 150 _ rfl
  have o151 : cl 151 = .inr (8, [.ref (ad 152), .ref (ad 154)]) := h 151 _ rfl
  have o163 : cl 163 = .inr (2, [.ref (ad 164), .ref (ad 169), .ref (ad 174), .ref (ad 176), .ref (ad 181), .ref (ad 183), .ref (ad 185), .ref (ad 187), .ref (ad 192), .ref (ad 194), .ref (ad 196), .ref (ad 198), .int 0, .int 0, .int 0, .int 0]) := h 163 _ rfl
  have o164 : cl 164 = .inr (8, [.ref (ad 165), .ref (ad 167)]) := h 164 _ rfl
  have o169 : cl 169 = .inr (8, [.ref (ad 170), .ref (ad 172)]) := h 169 _ rfl
  have o176 : cl 176 = .inr (8, [.ref (ad 177), .ref (ad 179)]) := h 176 _ rfl
  have o187 : cl 187 = .inr (8, [.ref (ad 188), .ref (ad 190)]) := h 187 _ rfl
  have o212 : cl 212 = .inr (3, [.int 0, .ref (ad 213), .ref (ad 218), .ref (ad 220), .ref (ad 222), .ref (ad 224), .ref (ad 226), .ref (ad 228)]) := h 212 _ rfl
  have o213 : cl 213 = .inr (8, [.ref (ad 214), .ref (ad 216)]) := h 213 _ rfl
  have o229 : cl 229 = .inr (3, [.int 0, .ref (ad 230), .ref (ad 235), .ref (ad 237), .ref (ad 239), .ref (ad 241), .ref (ad 243), .ref (ad 245)]) := h 229 _ rfl
  have o230 : cl 230 = .inr (8, [.ref (ad 231), .ref (ad 233)]) := h 230 _ rfl
  exact List.forall_mem_cons.mpr ⟨o0, List.forall_mem_cons.mpr ⟨o22, List.forall_mem_cons.mpr ⟨o23, List.forall_mem_cons.mpr ⟨o25, List.forall_mem_cons.mpr ⟨o34, List.forall_mem_cons.mpr ⟨o39, List.forall_mem_cons.mpr ⟨o44, List.forall_mem_cons.mpr ⟨o49, List.forall_mem_cons.mpr ⟨o50, List.forall_mem_cons.mpr ⟨o55, List.forall_mem_cons.mpr ⟨o62, List.forall_mem_cons.mpr ⟨o73, List.forall_mem_cons.mpr ⟨o86, List.forall_mem_cons.mpr ⟨o97, List.forall_mem_cons.mpr ⟨o104, List.forall_mem_cons.mpr ⟨o111, List.forall_mem_cons.mpr ⟨o127, List.forall_mem_cons.mpr ⟨o128, List.forall_mem_cons.mpr ⟨o129, List.forall_mem_cons.mpr ⟨o150, List.forall_mem_cons.mpr ⟨o151, List.forall_mem_cons.mpr ⟨o163, List.forall_mem_cons.mpr ⟨o164, List.forall_mem_cons.mpr ⟨o169, List.forall_mem_cons.mpr ⟨o176, List.forall_mem_cons.mpr ⟨o187, List.forall_mem_cons.mpr ⟨o212, List.forall_mem_cons.mpr ⟨o213, List.forall_mem_cons.mpr ⟨o229, List.forall_mem_cons.mpr ⟨o230, fun _ hq => absurd hq List.not_mem_nil⟩⟩⟩⟩⟩⟩⟩⟩⟩⟩⟩⟩⟩⟩⟩⟩⟩⟩⟩⟩⟩⟩⟩⟩⟩⟩⟩⟩⟩⟩
set_option maxHeartbeats 8000000 in
set_option maxRecDepth 100000 in
theorem xw_new {G : Nat → ClassId} {N : Nat} {ad : Nat → Nat} {cl : Nat → va_E} (hN : 246 ≤ N) (h : Blk cl 0 (bX11 G ad 0)) : XW G N ad cl c16 xs0 v0X g0X nb0 := by
  have a24 : cl 24 = .inl (G 0, 13, .inl (g0X 24)) := h 24 _ rfl
  have a126 : cl 126 = .inl (G 0, 44, .inl (g0X 126)) := h 126 _ rfl
  have a160 : cl 160 = .inl (G 0, 8, .inl (g0X 160)) := h 160 _ rfl
  have a161 : cl 161 = .inl (G 0, 8, .inl (g0X 161)) := h 161 _ rfl
  have a162 : cl 162 = .inl (G 0, 9, .inl (g0X 162)) := h 162 _ rfl
  have a210 : cl 210 = .inl (G 0, 4, .inl (g0X 210)) := h 210 _ rfl
  have a211 : cl 211 = .inl (G 0, 3, .inl (g0X 211)) := h 211 _ rfl
  have a228 : cl 228 = .inl (G 0, 13, .inl (g0X 228)) := h 228 _ rfl
  have a245 : cl 245 = .inl (G 0, 13, .inl (g0X 245)) := h 245 _ rfl
  have hq : cl 9 = _ := h 9 _ rfl
  rw [fq_new] at hq
  refine ⟨hN, xw_rows hN h, xw_objs h, List.forall_mem_cons.mpr ⟨a24, List.forall_mem_cons.mpr ⟨a126, List.forall_mem_cons.mpr ⟨a160, List.forall_mem_cons.mpr ⟨a161, List.forall_mem_cons.mpr ⟨a162, List.forall_mem_cons.mpr ⟨a210, List.forall_mem_cons.mpr ⟨a211, List.forall_mem_cons.mpr ⟨a228, List.forall_mem_cons.mpr ⟨a245, fun _ hq => absurd hq List.not_mem_nil⟩⟩⟩⟩⟩⟩⟩⟩⟩, hq, fun j => ?_⟩
  by_cases hj : j = 1
  · exact Or.inr (if_pos hj)
  · exact Or.inl (if_neg hj)
