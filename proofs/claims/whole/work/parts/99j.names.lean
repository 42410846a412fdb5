/-! NAMES OF A LAW -/
def nb_pop (a : Nat) : Nat → Nat
  | 0 => 0
  | i + 1 => nb_pop a i + (if a.testBit i = true then 1 else 0)
theorem nb_pop_le (a n : Nat) : nb_pop a n ≤ n := by
  induction n with
  | zero => exact Nat.le_refl 0
  | succ n ih => rw [nb_pop]; split <;> omega
theorem nb_pop_or {a n : Nat} (ha : a < 2 ^ n) (k : Nat) : nb_pop (a ||| 2 ^ n) k = nb_pop a k + (if n < k then 1 else 0) := by
  induction k with
  | zero => rfl
  | succ k ih =>
    rw [nb_pop, nb_pop, ih, Nat.testBit_or, nb_2p]
    by_cases q : n = k
    · subst q
      rw [Nat.testBit_lt_two_pow ha, Bool.false_or, decide_eq_true rfl, if_neg (by omega), if_pos rfl, if_neg (by decide), if_pos (by omega)]
    · rw [decide_eq_false q, Bool.or_false]
      by_cases q2 : n < k
      · rw [if_pos q2, if_pos (show n < k + 1 by omega)]; omega
      · rw [if_neg q2, if_neg (show ¬ n < k + 1 by omega)]; omega
theorem hb_bitsL {N a : Nat} {s : hq_S} (ha : a < 2147483648) : ∀ (r j m : Nat), j + r = 20 → r < m → f_X12_bitsOf_L4 N m (Int32.ofNat a) (Int32.ofNat (nb_pop a j)) (Int32.ofNat j) s = some (Int32.ofNat (nb_pop a 20), s) := by
  intro r
  induction r with
  | zero =>
    intro j m hj hm
    obtain ⟨m, rfl⟩ : ∃ k, m = k + 1 := ⟨m - 1, by omega⟩
    have hj : j = 20 := by omega
    subst hj
    have c : ¬ Int32.ofNat 20 < (20 : Int32) := by decide
    simp only [f_X12_bitsOf_L4_s, f_X12_bitsOf_L4_B, if_neg c]
  | succ r ih =>
    intro j m hj hm
    obtain ⟨m, rfl⟩ : ∃ k, m = k + 1 := ⟨m - 1, by omega⟩
    have c : Int32.ofNat j < (20 : Int32) := by rw [nb_lit 20, nn_lt (by omega) (by omega)]; omega
    have ih := ih (j + 1) m (by omega) (by omega)
    simp only [f_X12_bitsOf_L4_s, f_X12_bitsOf_L4_B, if_pos c, nb_bit ha (show j < 32 by omega), nn_succ]
    by_cases q : a.testBit j = true
    · rw [nb_pop, if_pos q] at ih
      rw [if_pos q, nn_succ]
      exact ih
    · rw [nb_pop, if_neg q] at ih
      rw [if_neg q, Int32.add_zero]
      exact ih
theorem hb_bits {N a : Nat} {s : hq_S} (hN : 20 < N) (ha : a < 2147483648) : f_X12_bitsOf N (Int32.ofNat a) s = some (Int32.ofNat (nb_pop a 20), s) := hb_bitsL ha 20 0 N (by omega) hN
/-- guards at a corner: a set, and how many -/
def gd_m (ga : Nat → Nat) (c : Nat) : Nat → Nat
  | 0 => 0
  | g + 1 => gd_m ga c g ||| (if ga g = c then 2 ^ g else 0)
def gd_n (ga : Nat → Nat) (c : Nat) : Nat → Nat
  | 0 => 0
  | g + 1 => gd_n ga c g + (if ga g = c then 1 else 0)
theorem gd_m_lt (ga : Nat → Nat) (c n : Nat) : gd_m ga c n < 2 ^ n := by
  induction n with
  | zero => exact Nat.one_pos
  | succ n ih =>
    rw [gd_m]
    refine nb_lt_or (Nat.lt_trans ih (nb_2lt (by omega))) ?_
    split
    · exact nb_2lt (by omega)
    · exact Nat.two_pow_pos _
theorem gd_pop (ga : Nat → Nat) (c : Nat) : ∀ n, n ≤ 20 → nb_pop (gd_m ga c n) 20 = gd_n ga c n := by
  intro n
  induction n with
  | zero => intro _; show nb_pop 0 20 = 0; decide
  | succ n ih =>
    intro hn
    rw [gd_m, gd_n]
    by_cases q : ga n = c
    · rw [if_pos q, if_pos q, nb_pop_or (gd_m_lt ga c n), ih (by omega), if_pos (by omega)]
    · rw [if_neg q, if_neg q, Nat.or_zero, ih (by omega), Nat.add_zero]
theorem gd_n_le (ga : Nat → Nat) (c n : Nat) : gd_n ga c n ≤ n := by
  induction n with
  | zero => exact Nat.le_refl 0
  | succ n ih => rw [gd_n]; split <;> omega
theorem nb_ldsj {s : hq_S} {k i k' L : Nat} {x : Int64} {j : Int32} : hq_ld (hq_sj s k i x) k' L j = hq_ld s k' L j := rfl
theorem hh_bold {N i : Nat} {s : hq_S} (hi : i < 8) : f_X12_boldOf N (Int32.ofNat i) s = some (hn_bold s i, s) := by
  unfold f_X12_boldOf hn_bold
  by_cases q : Int32.ofNat i = hq_gi s 174 53
  · rw [if_pos q, if_pos q]
  · rw [if_neg q, if_neg q, nn_ld hi (by omega)]
    rfl
section
variable {N nc nl ng nt t u k l : Nat} {nx : Nat → Nat} {fa : Nat → Nat → Nat} {sx sm : hq_S}
/-- where a guard is -/
def ga_of (l : Nat) (sm : hq_S) (g : Nat) : Nat := (hq_gi sm 200 (3 * l + g)).toNatClampNeg
theorem ga_spec (W : hn_N nc ng nt k l sx sm) (hnc : nc ≤ 10) {g : Nat} (hg : g < ng) : ga_of l sm g < nc ∧ hq_gi sx (k + 2) g = Int32.ofNat (ga_of l sm g) ∧ hq_gi sm 200 (3 * l + g) = Int32.ofNat (ga_of l sm g) := by
  obtain ⟨a, ha, a1, a2⟩ := (W.2.2.2.2.2.1 g hg).1
  unfold ga_of
  rw [a1, a2, nn_clamp (by omega)]
  exact ⟨ha, rfl, rfl⟩
theorem hh_gat (hN : 10 < N) (hl : l < 23) (T : hr_told nc nl ng nt t sx sm) (W : hn_N nc ng nt k l sx sm) {c : Nat} (hc : c < nc) : f_X12_guardsAt N (Int32.ofNat l) (Int32.ofNat c) sm = some (Int32.ofNat (gd_m (ga_of l sm) c ng), sm) := by
  obtain ⟨⟨hnc, -, hng, -⟩, ⟨-, -, -, -, g1, g2, -⟩, -⟩ := T
  have l2 : hq_ld sm 176 14 2 = some (Int32.ofNat ng) := by rw [nb_lit 2, nn_ld (by omega) (by omega), g2]
  have key : ∀ (r j m : Nat), j + r = ng → r < m → f_X12_guardsAt_L5 N m (Int32.ofNat l) (Int32.ofNat c) (Int32.ofNat (gd_m (ga_of l sm) c j)) (Int32.ofNat j) sm = some (Int32.ofNat (gd_m (ga_of l sm) c ng), sm) := by
    intro r
    induction r with
    | zero =>
      intro j m hj hm
      obtain ⟨m, rfl⟩ : ∃ k, m = k + 1 := ⟨m - 1, by omega⟩
      have hj : j = ng := by omega
      subst hj
      have cc : ¬ Int32.ofNat j < Int32.ofNat j := by rw [nn_lt (by omega) (by omega)]; omega
      simp only [f_X12_guardsAt_L5_s, f_X12_guardsAt_L5_B, l2, Option.bind_some, if_neg cc]
    | succ r ih =>
      intro j m hj hm
      obtain ⟨m, rfl⟩ : ∃ k, m = k + 1 := ⟨m - 1, by omega⟩
      have cc : Int32.ofNat j < Int32.ofNat ng := (nn_lt (by omega) (by omega)).mpr (by omega)
      obtain ⟨ha, -, a2⟩ := ga_spec W hnc (show j < ng by omega)
      have m1 : hq_ld sm 200 69 (Int32.ofNat (3 * l + j)) = some (Int32.ofNat (ga_of l sm j)) := by rw [nn_ld (by omega) (by omega), a2]
      have ih := ih (j + 1) m (by omega) (by omega)
      have eq := nb_eq (show ga_of l sm j < 2147483648 by omega) (show c < 2147483648 by omega)
      simp only [f_X12_guardsAt_L5_s, f_X12_guardsAt_L5_B, l2, Option.bind_some, if_pos cc, nb_m3, nb_add, m1, eq, nb_one (show j < 32 by omega), nn_succ]
      by_cases q : ga_of l sm j = c
      · rw [gd_m, if_pos q] at ih
        rw [if_pos q, Option.bind_some, nb_or]
        exact ih
      · rw [gd_m, if_neg q] at ih
        rw [if_neg q, Option.bind_some, nb_0, nb_or]
        exact ih
  exact key ng 0 N (by omega) (by omega)
theorem hh_cnt {r i : Int32} (S : hh_S nc nl ng nt t u k nx fa sx sm) (W : hn_N nc ng nt k l sx sm) {c : Nat} (hc : c < nc) : ∀ (q j m : Nat), j + q = ng → q < m → ∃ m2, f_X3_lawValue_L24 N m r i (Int32.ofNat c) (Int32.ofNat (gd_n (ga_of l sm) c j)) (Int32.ofNat j) sx = f_X3_lawValue_L24_B N (f_X3_lawValue_L24 N m2) r i (Int32.ofNat c) (Int32.ofNat (gd_n (ga_of l sm) c ng)) (Int32.ofNat ng) sx := by
  obtain ⟨T, ⟨dt, du, dk⟩, ⟨r0, r1, r2⟩, -⟩ := S
  obtain ⟨⟨hnc, -, hng, -⟩, ⟨-, -, -, -, g1, g2, -⟩, -⟩ := T
  have iT : hq_isT t := dt
  have iN : hq_isN k := by rcases dk with rfl | rfl <;> decide
  intro q
  induction q with
  | zero =>
    intro j m hj hm
    obtain ⟨m, rfl⟩ : ∃ k, m = k + 1 := ⟨m - 1, by omega⟩
    have hj : j = ng := by omega
    subst hj
    exact ⟨m, rfl⟩
  | succ q ih =>
    intro j m hj hm
    obtain ⟨m, rfl⟩ : ∃ k, m = k + 1 := ⟨m - 1, by omega⟩
    have cc : Int32.ofNat j < Int32.ofNat ng := (nn_lt (by omega) (by omega)).mpr (by omega)
    obtain ⟨ha, a1, -⟩ := ga_spec W hnc (show j < ng by omega)
    have x1 : hq_ld sx (k + 2) 3 (Int32.ofNat j) = some (Int32.ofNat (ga_of l sm j)) := by rw [nn_ld (by omega) (by omega), a1]
    obtain ⟨m2, ih⟩ := ih (j + 1) m (by omega) (by omega)
    refine ⟨m2, ?_⟩
    rw [← ih]
    have eq := nb_eq (show ga_of l sm j < 2147483648 by omega) (show c < 2147483648 by omega)
    rw [f_X3_lawValue_L24_s]
    unfold f_X3_lawValue_L24_B
    simp only [r0, r2, if_pos iT, if_pos iN, g1, if_pos cc, x1, Option.bind_some, eq, nn_succ]
    by_cases q2 : ga_of l sm j = c
    · rw [if_pos q2, Option.bind_some, gd_n, if_pos q2, nn_succ]
    · rw [if_neg q2, Option.bind_some, gd_n, if_neg q2, Int32.add_zero]
      rfl
end
