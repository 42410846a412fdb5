/-! WHAT THE TWO HAVE IN COMMON: the class's cells of sx, the reference's cells of sm -/
/-- faults of the latest text -/
def hr_flt (sx sm : hq_S) : Prop := hq_gi sx 48 7 = hq_gi sm 174 30 ∧ hq_gi sx 48 8 = hq_gi sm 174 31
/-- an int of both, a natural number of at most b -/
def hr_nat (b : Nat) (x m : Int32) : Prop := ∃ n : Nat, n ≤ b ∧ x = Int32.ofNat n ∧ m = Int32.ofNat n
def hr_lt (b : Nat) (x m : Int32) : Prop := ∃ n : Nat, n < b ∧ x = Int32.ofNat n ∧ m = Int32.ofNat n
/-- a knot of the class and its two numbers in the reference -/
def hr_knot (x a b : Int32) : Prop := (a = 0 ∧ ∃ v : Nat, v ≤ 9999 ∧ b = Int32.ofNat v ∧ x = Int32.ofNat v) ∨ (a = 1 ∧ ∃ v : Nat, v < 7 ∧ b = Int32.ofNat v ∧ x = Int32.ofNat (10000 + v)) ∨ (a = 2 ∧ ((b = 260 ∧ x = 20021) ∨ (b = 261 ∧ x = 20019) ∨ (b = 262 ∧ x = 20020) ∨ ∃ v : Nat, (v = 42 ∨ v = 43 ∨ v = 45 ∨ v = 47 ∨ v = 60 ∨ v = 61 ∨ v = 62 ∨ v = 256 ∨ v = 257 ∨ v = 258) ∧ b = Int32.ofNat v ∧ x = Int32.ofNat (20000 + v)))
/-- how many values lie on the stack behind a knot -/
def hr_dep (a b : Int32) (d d' : Nat) : Prop := (¬ a = 2 ∧ d' = d + 1) ∨ (a = 2 ∧ b = 260 ∧ 1 ≤ d ∧ d' = d) ∨ (a = 2 ∧ ¬ b = 260 ∧ 2 ≤ d ∧ d' + 1 = d)
/-- one of the three laws: from f to e; not told: both 0 -/
def hr_rule (t r : Nat) (sx sm : hq_S) : Prop := ∃ f e : Nat, f ≤ e ∧ e ≤ 64 ∧ hq_gi sx (t + 11) r = Int32.ofNat f ∧ hq_gi sm 190 r = Int32.ofNat f ∧ hq_gi sx (t + 12) r = Int32.ofNat e ∧ hq_gi sm 191 r = Int32.ofNat e ∧ (f = e → e = 0) ∧ (∀ j, f ≤ j → j < e → hr_knot (hq_gi sx (t + 10) j) (hq_gi sm 192 j) (hq_gi sm 193 j)) ∧ (f < e → ∃ D : Nat → Nat, D f = 0 ∧ D e = 1 ∧ ∀ j, f ≤ j → j < e → hr_dep (hq_gi sm 192 j) (hq_gi sm 193 j) (D j) (D (j + 1)))
/-- the text told: nc corners, nl lanes, ng guards, nt thieves; t: the class's town -/
def hr_told (nc nl ng nt t : Nat) (sx sm : hq_S) : Prop :=
  (nc ≤ 10 ∧ nl ≤ 20 ∧ ng ≤ 3 ∧ nt ≤ 4) ∧
  (hq_gi sx t 0 = Int32.ofNat nc ∧ hq_gi sm 176 0 = Int32.ofNat nc ∧ hq_gi sx t 3 = Int32.ofNat nl ∧ hq_gi sm 176 1 = Int32.ofNat nl ∧ hq_gi sx t 7 = Int32.ofNat ng ∧ hq_gi sm 176 2 = Int32.ofNat ng ∧ hq_gi sx t 11 = Int32.ofNat nt ∧ hq_gi sm 176 3 = Int32.ofNat nt) ∧
  (∀ i, i < nc → hq_gi sx (t + 1) i = hq_gi sm 177 i ∧ hr_nat 9 (hq_gi sx (t + 2) i) (hq_gi sm 178 i) ∧ hr_nat 999 (hq_gi sx (t + 15) i) (hq_gi sm 179 i)) ∧
  (∀ i, nc ≤ i → i < 10 → hq_gi sx (t + 15) i = 0) ∧
  (∀ i, i < nl → hr_lt nc (hq_gi sx (t + 3) i) (hq_gi sm 180 i) ∧ hr_lt nc (hq_gi sx (t + 4) i) (hq_gi sm 181 i) ∧ ¬ hq_gi sm 180 i = hq_gi sm 181 i ∧ ((hq_gi sx t 6 >>> Int32.ofNat i) &&& 1) = hq_gi sm 182 i ∧ (hq_gi sm 182 i = 0 ∨ hq_gi sm 182 i = 1)) ∧
  (∀ i, i < ng → hq_gi sx (t + 5) i = hq_gi sm 183 i ∧ hr_lt nc (hq_gi sx (t + 16) i) (hq_gi sm 184 i) ∧ ∃ b : Nat, b ≤ 8 ∧ hq_gi sx (t + 7) i = Int32.ofNat b ∧ hq_gi sm 185 i = Int32.ofNat b ∧ ∀ j, j < b → hr_lt nc (hq_gi sx (t + 6) (8 * i + j)) (hq_gi sm 186 (8 * i + j))) ∧
  (∀ i, i < nt → hq_gi sx (t + 8) i = hq_gi sm 187 i ∧ hr_lt nc (hq_gi sx (t + 19) i) (hq_gi sm 188 i) ∧ hr_nat 9 (hq_gi sx (t + 20) i) (hq_gi sm 189 i)) ∧
  hr_nat 100 (hq_gi sx t 13) (hq_gi sm 176 4) ∧
  (∃ d : Nat, d ≤ 99999 ∧ hq_gj sx (t + 14) 1 = Int64.ofNat d ∧ hq_gi sm 176 5 = Int32.ofNat d) ∧
  (hq_gi sx (t + 14) 0 = 0 ∧ hq_gi sx (t + 14) 2 = 0 ∧ (∀ i, i < 3 → hq_gi sx (t + 17) i = 0 ∧ hq_gi sx (t + 18) i = 0) ∧ ∀ i, i < 4 → hq_gi sx (t + 21) i = 0 ∧ hq_gi sx (t + 22) i = -2) ∧
  hr_nat 64 (hq_gi sx (t + 9) 0) (hq_gi sm 176 6) ∧
  (hr_rule t 0 sx sm ∧ hr_rule t 1 sx sm ∧ hr_rule t 2 sx sm)
/-- a night of the class (cell k) and a town of the reference (number l) -/
def hr_night (nc ng nt k l : Nat) (sx sm : hq_S) : Prop :=
  hq_gi sx k 0 = hq_gi sm 196 l ∧
  (∃ d : Nat, d < 2147483648 ∧ hq_gj sx k 1 = Int64.ofNat d ∧ hq_gi sm 197 l = Int32.ofNat d) ∧
  (∃ d : Nat, d < 1048576 ∧ hq_gi sx k 2 = Int32.ofNat d ∧ hq_gi sm 198 l = Int32.ofNat d) ∧
  (∀ i, i < nc → hr_nat 9999 (hq_gi sx (k + 1) i) (hq_gi sm 199 (10 * l + i))) ∧
  (∀ i, nc ≤ i → i < 10 → hq_gi sm 199 (10 * l + i) = 0) ∧
  (∀ i, i < ng → hr_lt nc (hq_gi sx (k + 2) i) (hq_gi sm 200 (3 * l + i)) ∧ (∃ a : Nat, a < 8 ∧ (a = 0 ∨ ∃ b : Nat, hq_gi sm 185 i = Int32.ofNat b ∧ a < b ∧ b ≤ 8) ∧ hq_gi sx (k + 3) i = Int32.ofNat a ∧ hq_gi sm 201 (3 * l + i) = Int32.ofNat a) ∧ hq_gi sx (k + 4) i = hq_gi sm 202 (3 * l + i)) ∧
  (∀ i, i < nt → hr_lt nc (hq_gi sx (k + 5) i) (hq_gi sm 203 (4 * l + i)) ∧ hq_gi sx (k + 6) i = hq_gi sm 189 i ∧ hq_gi sx (k + 7) i = hq_gi sm 204 (4 * l + i) ∧ ((hq_gi sx (k + 8) i = -2 ∧ hq_gi sm 205 (4 * l + i) = -1) ∨ hr_lt ng (hq_gi sx (k + 8) i) (hq_gi sm 205 (4 * l + i)))) ∧
  (∀ i, nt ≤ i → i < 4 → hq_gi sm 204 (4 * l + i) = 0)
/-- what was seen and struck -/
def hr_facts (nc nt : Nat) (sx sm : hq_S) : Prop := ∃ k : Nat, k ≤ 24 ∧ hq_gi sx 163 0 = Int32.ofNat k ∧ hq_gi sm 174 74 = Int32.ofNat k ∧ ((hq_gi sx 163 1 = -1 ∧ hq_gi sm 174 75 = -1) ∨ hr_nat k (hq_gi sx 163 1) (hq_gi sm 174 75)) ∧ ∀ i, i < k → (hr_lt i (hq_gi sx 168 i) (hq_gi sm 228 i) ∨ (hq_gi sx 168 i = -1 ∧ hq_gi sm 228 i = -1 ∧ (∃ a : Nat, 1 ≤ a ∧ a ≤ 60 ∧ hq_gi sx 164 i = Int32.ofNat a ∧ hq_gi sm 224 i = Int32.ofNat a) ∧ hr_lt nt (hq_gi sx 165 i) (hq_gi sm 225 i) ∧ hr_lt nc (hq_gi sx 166 i) (hq_gi sm 226 i) ∧ hr_nat 1 (hq_gi sx 167 i) (hq_gi sm 227 i)))
/-- what the reference holds between calls -/
def hr_idle (sm : hq_S) : Prop := hq_gi sm 174 49 = 0 ∧ hq_gi sm 174 50 = -1 ∧ hq_gi sm 174 53 = -1 ∧ hq_gi sm 212 0 = 1 ∧ hq_gi sm 212 1 = 10 ∧ hq_gi sm 212 2 = 100 ∧ hq_gi sm 212 3 = 1000 ∧ hq_gi sm 212 4 = 10000
/-! they hang on these cells alone -/
section
variable {sx sx' sm sm' : hq_S} {nc nl ng nt t k l : Nat}
theorem hr_flt_loc (hx : hq_fm sx sx') (hm : hq_fx sm sm') (h : hr_flt sx sm) : hr_flt sx' sm' := by
  have ex : ∀ k i, k < 174 → hq_gi sx' k i = hq_gi sx k i := fun k i hk => (hx k hk i).1
  have em : ∀ k i, 174 ≤ k → hq_gi sm' k i = hq_gi sm k i := fun k i hk => (hm k hk i).1
  unfold hr_flt at h ⊢
  simp (disch := omega) only [ex, em]
  exact h
theorem hr_tape_loc (hx : hq_fm sx sx') (hm : hq_fx sm sm') (h : hr_tape sx sm) : hr_tape sx' sm' := by
  have ex : ∀ k i, k < 174 → hq_gi sx' k i = hq_gi sx k i := fun k i hk => (hx k hk i).1
  have em : ∀ k i, 174 ≤ k → hq_gi sm' k i = hq_gi sm k i := fun k i hk => (hm k hk i).1
  unfold hr_tape at h ⊢
  simp (disch := omega) only [ex, em]
  exact h
theorem hr_rule_loc {r : Nat} (ht : t ≤ 25) (hx : hq_fm sx sx') (hm : hq_fx sm sm') (h : hr_rule t r sx sm) : hr_rule t r sx' sm' := by
  have ex : ∀ k i, k < 174 → hq_gi sx' k i = hq_gi sx k i := fun k i hk => (hx k hk i).1
  have em : ∀ k i, 174 ≤ k → hq_gi sm' k i = hq_gi sm k i := fun k i hk => (hm k hk i).1
  unfold hr_rule at h ⊢
  simp (disch := omega) only [ex, em]
  exact h
theorem hr_told_loc (ht : t ≤ 25) (hx : hq_fm sx sx') (hm : hq_fx sm sm') (h : hr_told nc nl ng nt t sx sm) : hr_told nc nl ng nt t sx' sm' := by
  have ex : ∀ k i, k < 174 → hq_gi sx' k i = hq_gi sx k i := fun k i hk => (hx k hk i).1
  have ej : ∀ k i, k < 174 → hq_gj sx' k i = hq_gj sx k i := fun k i hk => (hx k hk i).2.1
  have em : ∀ k i, 174 ≤ k → hq_gi sm' k i = hq_gi sm k i := fun k i hk => (hm k hk i).1
  unfold hr_told at h ⊢
  obtain ⟨h1, h2, h3, h4, h5, h6, h7, h8, h9, h10, h11, r0, r1, r2⟩ := h
  refine ⟨h1, ?_, ?_, ?_, ?_, ?_, ?_, ?_, ?_, ?_, ?_, hr_rule_loc ht hx hm r0, hr_rule_loc ht hx hm r1, hr_rule_loc ht hx hm r2⟩
  all_goals simp (disch := omega) only [ex, ej, em]
  all_goals assumption
theorem hr_night_loc (hk : k ≤ 94) (hx : hq_fm sx sx') (hm : hq_fx sm sm') (h : hr_night nc ng nt k l sx sm) : hr_night nc ng nt k l sx' sm' := by
  have ex : ∀ k i, k < 174 → hq_gi sx' k i = hq_gi sx k i := fun k i hk => (hx k hk i).1
  have ej : ∀ k i, k < 174 → hq_gj sx' k i = hq_gj sx k i := fun k i hk => (hx k hk i).2.1
  have em : ∀ k i, 174 ≤ k → hq_gi sm' k i = hq_gi sm k i := fun k i hk => (hm k hk i).1
  unfold hr_night at h ⊢
  simp (disch := omega) only [ex, ej, em]
  exact h
theorem hr_facts_loc (hx : hq_fm sx sx') (hm : hq_fx sm sm') (h : hr_facts nc nt sx sm) : hr_facts nc nt sx' sm' := by
  have ex : ∀ k i, k < 174 → hq_gi sx' k i = hq_gi sx k i := fun k i hk => (hx k hk i).1
  have em : ∀ k i, 174 ≤ k → hq_gi sm' k i = hq_gi sm k i := fun k i hk => (hm k hk i).1
  unfold hr_facts at h ⊢
  simp (disch := omega) only [ex, em]
  exact h
theorem hr_idle_loc (hm : hq_fx sm sm') (h : hr_idle sm) : hr_idle sm' := by
  have em : ∀ k i, 174 ≤ k → hq_gi sm' k i = hq_gi sm k i := fun k i hk => (hm k hk i).1
  unfold hr_idle at h ⊢
  simp (disch := omega) only [em]
  exact h
end
