/-! DRUNK: the reference's -/
section
variable {N nc : Nat} {nx : Nat → Nat} {a1 a2 a3 a4 a7 a8 a9 : Int32} {j5 j10 : Int64}
theorem dr_56 {a : Nat} (ha : a < 10) : ∀ (q j n : Nat) (s : hq_S), j + q = 10 → q < n → (∀ b, b < j → hq_gj s 221 b = Int64.ofNat (if b = a then 1 else 0)) → ∃ s', f_X12_drunk_L56 N n (Int32.ofNat a) a2 a3 a4 j5 (Int32.ofNat j) s = f_X12_drunk_L90 N N (Int32.ofNat a) a2 a3 a4 j5 0 s' ∧ (∀ b, b < 10 → hq_gj s' 221 b = Int64.ofNat (if b = a then 1 else 0)) ∧ ∀ k i, hq_gi s' k i = hq_gi s k i := by
  intro q
  induction q with
  | zero =>
    intro j n s hj hn h
    obtain ⟨n, rfl⟩ : ∃ k, n = k + 1 := ⟨n - 1, by omega⟩
    have c : ¬ Int32.ofNat j < (10 : Int32) := by rw [nb_lit 10, nn_lt (by omega) (by omega)]; omega
    exact ⟨s, by simp only [f_X12_drunk_L56_s, f_X12_drunk_L56_B, if_neg c], fun b hb => h b (by omega), fun _ _ => rfl⟩
  | succ q ih =>
    intro j n s hj hn h
    obtain ⟨n, rfl⟩ : ∃ k, n = k + 1 := ⟨n - 1, by omega⟩
    have c : Int32.ofNat j < (10 : Int32) := by rw [nb_lit 10, nn_lt (by omega) (by omega)]; omega
    have ej := nb_eq (show j < 2147483648 by omega) (show a < 2147483648 by omega)
    have sj : ∀ v, hq_stj s 221 20 (Int32.ofNat j) v = some (hq_sj s 221 j v) := fun v => nb_stj (by omega) (by omega)
    obtain ⟨s', e1, e2, e3⟩ := ih (j + 1) n (hq_sj s 221 j (Int64.ofNat (if j = a then 1 else 0))) (by omega) (by omega) (fun b hb => by
      rw [nb_jj]
      by_cases q1 : b = j
      · subst q1; rw [if_pos ⟨rfl, rfl⟩]
      · rw [if_neg (fun z => q1 z.2)]; exact h b (by omega))
    refine ⟨s', ?_, e2, fun k i => by rw [e3, nb_ji]⟩
    rw [← e1]
    by_cases q1 : j = a
    · simp only [f_X12_drunk_L56_s, f_X12_drunk_L56_B, if_pos c, ej, if_pos q1, Option.bind_some, sj, nn_succ]
      rfl
    · simp only [f_X12_drunk_L56_s, f_X12_drunk_L56_B, if_pos c, ej, if_neg q1, Option.bind_some, sj, nn_succ]
      rfl
theorem dr_107 {q90 : Int32 → Int32 → Int32 → Int32 → Int64 → Int32 → hq_S → Option (Int64 × hq_S)} : ∀ (q j n : Nat) (s : hq_S), j + q = 10 → q < n → (∀ b, b < j → hq_gj s 221 (10 + b) = 0) → ∃ s', f_X12_drunk_L107 N q90 n a1 a2 a3 a4 j5 a7 (Int32.ofNat j) s = f_X12_drunk_L134 N q90 N a1 a2 a3 a4 j5 a7 0 s' ∧ (∀ b, b < 10 → hq_gj s' 221 (10 + b) = 0) ∧ (∀ b, b < 10 → hq_gj s' 221 b = hq_gj s 221 b) ∧ ∀ k i, hq_gi s' k i = hq_gi s k i := by
  intro q
  induction q with
  | zero =>
    intro j n s hj hn h
    obtain ⟨n, rfl⟩ : ∃ k, n = k + 1 := ⟨n - 1, by omega⟩
    have c : ¬ Int32.ofNat j < (10 : Int32) := by rw [nb_lit 10, nn_lt (by omega) (by omega)]; omega
    exact ⟨s, by simp only [f_X12_drunk_L107_s, f_X12_drunk_L107_B, if_neg c], fun b hb => h b (by omega), fun _ _ => rfl, fun _ _ => rfl⟩
  | succ q ih =>
    intro j n s hj hn h
    obtain ⟨n, rfl⟩ : ∃ k, n = k + 1 := ⟨n - 1, by omega⟩
    have c : Int32.ofNat j < (10 : Int32) := by rw [nb_lit 10, nn_lt (by omega) (by omega)]; omega
    have ad : (10 : Int32) + Int32.ofNat j = Int32.ofNat (10 + j) := nb_add 10 j
    have sj : ∀ v, hq_stj s 221 20 (Int32.ofNat (10 + j)) v = some (hq_sj s 221 (10 + j) v) := fun v => nb_stj (by omega) (by omega)
    obtain ⟨s', e1, e2, e3, e4⟩ := ih (j + 1) n (hq_sj s 221 (10 + j) 0) (by omega) (by omega) (fun b hb => by
      rw [nb_jj]
      by_cases q1 : b = j
      · subst q1; rw [if_pos ⟨rfl, rfl⟩]
      · rw [if_neg (fun z => by omega)]; exact h b (by omega))
    refine ⟨s', ?_, e2, fun b hb => by rw [e3 b hb, nb_jj, if_neg (fun z => by omega)], fun k i => by rw [e4, nb_ji]⟩
    rw [← e1]
    simp only [f_X12_drunk_L107_s, f_X12_drunk_L107_B, if_pos c, ad, sj, Option.bind_some, nn_succ]
theorem dr_232 {q90 : Int32 → Int32 → Int32 → Int32 → Int64 → Int32 → hq_S → Option (Int64 × hq_S)} : ∀ (q j n : Nat) (s : hq_S), j + q = 10 → q < n → (∀ b, b < j → hq_gj s 221 b = hq_gj s 221 (10 + b)) → ∃ s', f_X12_drunk_L232 N q90 n a1 a2 a3 a4 j5 a7 (Int32.ofNat j) s = q90 a1 a2 a3 a4 j5 (a7 + 1) s' ∧ (∀ b, b < 10 → hq_gj s' 221 b = hq_gj s 221 (10 + b)) ∧ ∀ k i, hq_gi s' k i = hq_gi s k i := by
  intro q
  induction q with
  | zero =>
    intro j n s hj hn h
    obtain ⟨n, rfl⟩ : ∃ k, n = k + 1 := ⟨n - 1, by omega⟩
    have c : ¬ Int32.ofNat j < (10 : Int32) := by rw [nb_lit 10, nn_lt (by omega) (by omega)]; omega
    exact ⟨s, by simp only [f_X12_drunk_L232_s, f_X12_drunk_L232_B, if_neg c], fun b hb => h b (by omega), fun _ _ => rfl⟩
  | succ q ih =>
    intro j n s hj hn h
    obtain ⟨n, rfl⟩ : ∃ k, n = k + 1 := ⟨n - 1, by omega⟩
    have c : Int32.ofNat j < (10 : Int32) := by rw [nb_lit 10, nn_lt (by omega) (by omega)]; omega
    have ad : (10 : Int32) + Int32.ofNat j = Int32.ofNat (10 + j) := nb_add 10 j
    have lj : hq_ldj s 221 20 (Int32.ofNat (10 + j)) = some (hq_gj s 221 (10 + j)) := nb_ldj (by omega) (by omega)
    have sj : ∀ v, hq_stj s 221 20 (Int32.ofNat j) v = some (hq_sj s 221 j v) := fun v => nb_stj (by omega) (by omega)
    have up : ∀ b, hq_gj (hq_sj s 221 j (hq_gj s 221 (10 + j))) 221 (10 + b) = hq_gj s 221 (10 + b) := fun b => by rw [nb_jj, if_neg (fun z => by omega)]
    obtain ⟨s', e1, e2, e4⟩ := ih (j + 1) n (hq_sj s 221 j (hq_gj s 221 (10 + j))) (by omega) (by omega) (fun b hb => by
      rw [up, nb_jj]
      by_cases q1 : b = j
      · subst q1; rw [if_pos ⟨rfl, rfl⟩]
      · rw [if_neg (fun z => by omega)]; exact h b (by omega))
    refine ⟨s', ?_, fun b hb => by rw [e2 b hb, up], fun k i => by rw [e4, nb_ji]⟩
    rw [← e1]
    simp only [f_X12_drunk_L232_s, f_X12_drunk_L232_B, if_pos c, ad, lj, sj, Option.bind_some, nn_succ]
theorem dr_176 {q90 : Int32 → Int32 → Int32 → Int32 → Int64 → Int32 → hq_S → Option (Int64 × hq_S)} {q134 : Int32 → Int32 → Int32 → Int32 → Int64 → Int32 → Int32 → hq_S → Option (Int64 × hq_S)} {m x : Nat} (hnc : nc ≤ 10) (hm : m < 1024) (f : Nat → Nat) : ∀ (q j n : Nat) (s : hq_S), j + q = nc → q < n → hq_gi s 176 0 = Int32.ofNat nc → (∀ b, b < nc → hq_gj s 221 (10 + b) = Int64.ofNat (f b + (if b < j ∧ m.testBit b = true then x else 0))) → ∃ s', f_X12_drunk_L176 N q90 q134 n a1 a2 a3 a4 j5 a7 a8 (Int32.ofNat m) (Int64.ofNat x) (Int32.ofNat j) s = q134 a1 a2 a3 a4 j5 a7 (a8 + 1) s' ∧ (∀ b, b < nc → hq_gj s' 221 (10 + b) = Int64.ofNat (f b + (if m.testBit b = true then x else 0))) ∧ (∀ b, b < 10 → hq_gj s' 221 b = hq_gj s 221 b) ∧ ∀ k i, hq_gi s' k i = hq_gi s k i := by
  intro q
  induction q with
  | zero =>
    intro j n s hj hn h0 h
    obtain ⟨n, rfl⟩ : ∃ k, n = k + 1 := ⟨n - 1, by omega⟩
    have hj : j = nc := by omega
    subst hj
    have c : ¬ Int32.ofNat j < Int32.ofNat j := by rw [nn_lt (by omega) (by omega)]; omega
    have l0 : hq_ld s 176 14 0 = some (Int32.ofNat j) := by rw [nb_0, nn_ld (by omega) (by omega), h0]
    refine ⟨s, by simp only [f_X12_drunk_L176_s, f_X12_drunk_L176_B, l0, Option.bind_some, if_neg c], fun b hb => ?_, fun _ _ => rfl, fun _ _ => rfl⟩
    rw [h b hb]
    by_cases q1 : m.testBit b = true
    · rw [if_pos ⟨hb, q1⟩, if_pos q1]
    · rw [if_neg (fun z => q1 z.2), if_neg q1]
  | succ q ih =>
    intro j n s hj hn h0 h
    obtain ⟨n, rfl⟩ : ∃ k, n = k + 1 := ⟨n - 1, by omega⟩
    have c : Int32.ofNat j < Int32.ofNat nc := (nn_lt (by omega) (by omega)).mpr (by omega)
    have l0 : hq_ld s 176 14 0 = some (Int32.ofNat nc) := by rw [nb_0, nn_ld (by omega) (by omega), h0]
    have b1 := nb_bit1 (show m < 2147483648 by omega) (show j < 32 by omega)
    have ad : (10 : Int32) + Int32.ofNat j = Int32.ofNat (10 + j) := nb_add 10 j
    have lj : hq_ldj s 221 20 (Int32.ofNat (10 + j)) = some (Int64.ofNat (f j)) := by rw [nb_ldj (by omega) (by omega), h j (by omega), if_neg (fun z => Nat.lt_irrefl _ z.1), Nat.add_zero]
    have sj : ∀ v, hq_stj s 221 20 (Int32.ofNat (10 + j)) v = some (hq_sj s 221 (10 + j) v) := fun v => nb_stj (by omega) (by omega)
    obtain ⟨s', e1, e2, e3, e4⟩ := ih (j + 1) n (hq_sj s 221 (10 + j) (Int64.ofNat (f j + (if m.testBit j = true then x else 0)))) (by omega) (by omega) (by rw [nb_ji]; exact h0) (fun b hb => by
      rw [nb_jj]
      by_cases q1 : b = j
      · subst q1
        rw [if_pos ⟨rfl, rfl⟩]
        by_cases q2 : m.testBit b = true
        · rw [if_pos q2, if_pos ⟨by omega, q2⟩]
        · rw [if_neg q2, if_neg (fun z => q2 z.2)]
      · rw [if_neg (fun z => by omega), h b hb]
        by_cases q2 : b < j ∧ m.testBit b = true
        · rw [if_pos q2, if_pos ⟨by omega, q2.2⟩]
        · rw [if_neg q2, if_neg (fun z => q2 ⟨by omega, z.2⟩)])
    refine ⟨s', ?_, e2, fun b hb => by rw [e3 b hb, nb_jj, if_neg (fun z => by omega)], fun k i => by rw [e4, nb_ji]⟩
    rw [← e1]
    by_cases q2 : m.testBit j = true
    · simp only [f_X12_drunk_L176_s, f_X12_drunk_L176_B, l0, if_pos c, ad, lj, Option.bind_some, b1, if_pos q2, nl_ad, sj, nn_succ]
    · simp only [f_X12_drunk_L176_s, f_X12_drunk_L176_B, l0, if_pos c, ad, lj, Option.bind_some, b1, if_neg q2, nl_ad0, Nat.add_zero, sj, nn_succ]
theorem dr_134 {q90 : Int32 → Int32 → Int32 → Int32 → Int64 → Int32 → hq_S → Option (Int64 × hq_S)} {w : Nat → Nat} (hN : 20 < N) (hnc : nc ≤ 10) (hx : ∀ c, nx c < 2 ^ nc) : ∀ (q j n : Nat) (s : hq_S), j + q = nc → q < n → hl_R nc nx s → (∀ b, b < nc → hq_gj s 221 b = Int64.ofNat (w b)) → (∀ b, b < nc → hq_gj s 221 (10 + b) = Int64.ofNat (dr_a nx 27720 w j b)) → ∃ s', f_X12_drunk_L134 N q90 n a1 a2 a3 a4 j5 a7 (Int32.ofNat j) s = f_X12_drunk_L232 N q90 N a1 a2 a3 a4 j5 a7 0 s' ∧ (∀ b, b < nc → hq_gj s' 221 (10 + b) = Int64.ofNat (dr_a nx 27720 w nc b)) ∧ ∀ k i, hq_gi s' k i = hq_gi s k i := by
  intro q
  induction q with
  | zero =>
    intro j n s hj hn S W A
    obtain ⟨n, rfl⟩ : ∃ k, n = k + 1 := ⟨n - 1, by omega⟩
    have hj : j = nc := by omega
    subst hj
    have c : ¬ Int32.ofNat j < Int32.ofNat j := by rw [nn_lt (by omega) (by omega)]; omega
    have l0 : hq_ld s 176 14 0 = some (Int32.ofNat j) := by rw [nb_0, nn_ld (by omega) (by omega), S.1]
    exact ⟨s, by simp only [f_X12_drunk_L134_s, f_X12_drunk_L134_B, l0, Option.bind_some, if_neg c], A, fun _ _ => rfl⟩
  | succ q ih =>
    intro j n s hj hn S W A
    obtain ⟨n, rfl⟩ : ∃ k, n = k + 1 := ⟨n - 1, by omega⟩
    have c : Int32.ofNat j < Int32.ofNat nc := (nn_lt (by omega) (by omega)).mpr (by omega)
    have l0 : hq_ld s 176 14 0 = some (Int32.ofNat nc) := by rw [nb_0, nn_ld (by omega) (by omega), S.1]
    obtain ⟨hm, p1, p2⟩ := dr_pop hnc hx (show j < nc by omega)
    have ld : hq_ld s 206 10 (Int32.ofNat j) = some (Int32.ofNat (nx j)) := by rw [nn_ld (by omega) (by omega), S.2 j (by omega)]
    have om : Int32.ofNat (nx j) ||| Int32.ofNat (2 ^ j) = Int32.ofNat (dr_m nx j) := nb_or _ _
    have sg : f_X12_stayOrGo N (Int32.ofNat j) s = some (Int32.ofNat (dr_m nx j), s) := by simp only [f_X12_stayOrGo, ld, Option.bind_some, nb_one (show j < 32 by omega), om]
    have bc : f_X12_bitsOf N (Int32.ofNat (dr_m nx j)) s = some (Int32.ofNat (nb_pop (dr_m nx j) 20), s) := hb_bits (by omega) (by omega)
    have lj : hq_ldj s 221 20 (Int32.ofNat j) = some (Int64.ofNat (w j)) := by rw [nb_ldj (by omega) (by omega), W j (by omega)]
    have dv : hq_ldiv (27720 : Int64) (Int64.ofNat (nb_pop (dr_m nx j) 20)) = some (Int64.ofNat (27720 / nb_pop (dr_m nx j) 20)) := nl_div (a := 27720) (by omega) (by omega) (by omega)
    obtain ⟨s1, e1, e2, e3, e4⟩ := dr_176 (N := N) (q90 := q90) (q134 := f_X12_drunk_L134 N q90 n) (a1 := a1) (a2 := a2) (a3 := a3) (a4 := a4) (j5 := j5) (a7 := a7) (a8 := Int32.ofNat j) (x := w j * (27720 / nb_pop (dr_m nx j) 20)) hnc hm (dr_a nx 27720 w j) nc 0 N s (by omega) (by omega) S.1 (fun b hb => by rw [A b hb, if_neg (fun z => by omega), Nat.add_zero])
    obtain ⟨s', f1, f2, f3⟩ := ih (j + 1) n s1 (by omega) (by omega) ⟨by rw [e4]; exact S.1, fun c hc => by rw [e4]; exact S.2 c hc⟩ (fun b hb => by rw [e3 b (by omega)]; exact W b hb) e2
    refine ⟨s', ?_, f2, fun k i => by rw [f3, e4]⟩
    rw [← f1, ← nn_succ, ← e1]
    simp only [f_X12_drunk_L134_s, f_X12_drunk_L134_B, l0, if_pos c, Option.bind_some, sg, lj, bc, nb_i64 (show nb_pop (dr_m nx j) 20 < 2147483648 by omega), dv, nl_ml]
    rfl
/-- as the class's, in least terms -/
theorem dr_90 {a b k : Nat} {a4 : Int32} (hN : 300 < N) (hnc : nc ≤ 10) (hx : ∀ c, nx c < 2 ^ nc) (hb : b < nc) (hk : k ≤ 4) : ∀ (q j n : Nat) (s : hq_S), j + q = k → q < n → hl_R nc nx s → (∀ b, b < nc → hq_gj s 221 b = Int64.ofNat (dr_w nx 27720 nc a j b)) → ∃ s', f_X12_drunk_L90 N n a1 (Int32.ofNat b) (Int32.ofNat k) a4 (Int64.ofNat (27720 ^ j)) (Int32.ofNat j) s = some (if a4 = 0 then Int64.ofNat (dr_w nx 2520 nc a k b / Nat.gcd (dr_w nx 2520 nc a k b) (2520 ^ k)) else Int64.ofNat (2520 ^ k / Nat.gcd (dr_w nx 2520 nc a k b) (2520 ^ k)), s') := by
  intro q
  induction q with
  | zero =>
    intro j n s hj hn S A
    obtain ⟨n, rfl⟩ : ∃ k, n = k + 1 := ⟨n - 1, by omega⟩
    have hj : j = k := by omega
    subst hj
    have c : ¬ Int32.ofNat j < Int32.ofNat j := by rw [nn_lt (by omega) (by omega)]; omega
    have lj : hq_ldj s 221 20 (Int32.ofNat b) = some (Int64.ofNat (dr_w nx 27720 nc a j b)) := by rw [nb_ldj (by omega) (by omega), A b hb]
    have w1 := dr_w_le (nx := nx) (K := 27720) (a := a) hnc hb j
    have w2 : 27720 ^ j ≤ 27720 ^ 4 := Nat.pow_le_pow_right (by omega) hk
    have w3 : (27720 : Nat) ^ 4 < 9223372036854775808 := by decide
    have w4 : 0 < 27720 ^ j := Nat.pow_pos (by omega)
    have w5 : dr_w nx 27720 nc a j b < 9223372036854775808 := Nat.lt_of_le_of_lt (Nat.le_trans w1 w2) w3
    have w6 : 27720 ^ j < 9223372036854775808 := Nat.lt_of_le_of_lt w2 w3
    have g1 : 0 < Nat.gcd (dr_w nx 27720 nc a j b) (27720 ^ j) := Nat.gcd_pos_of_pos_right _ w4
    have g2 : Nat.gcd (dr_w nx 27720 nc a j b) (27720 ^ j) < 9223372036854775808 := Nat.lt_of_le_of_lt (Nat.gcd_le_right _ w4) w6
    have cm := nm_common (N := N) (s := s) hN w5 w6
    have d1 := nm_div w5 g1 g2
    have d2 := nm_div w6 g1 g2
    have e27 : 27720 ^ j = 11 ^ j * 2520 ^ j := by rw [← Nat.mul_pow]
    have p11 : 0 < 11 ^ j := Nat.pow_pos (by omega)
    have eg : Nat.gcd (dr_w nx 27720 nc a j b) (27720 ^ j) = 11 ^ j * Nat.gcd (dr_w nx 2520 nc a j b) (2520 ^ j) := by rw [dr_w11 hnc hx, e27, Nat.gcd_mul_left]
    have q1 : dr_w nx 27720 nc a j b / Nat.gcd (dr_w nx 27720 nc a j b) (27720 ^ j) = dr_w nx 2520 nc a j b / Nat.gcd (dr_w nx 2520 nc a j b) (2520 ^ j) := by rw [eg, dr_w11 hnc hx, Nat.mul_div_mul_left _ _ p11]
    have q2 : 27720 ^ j / Nat.gcd (dr_w nx 27720 nc a j b) (27720 ^ j) = 2520 ^ j / Nat.gcd (dr_w nx 2520 nc a j b) (2520 ^ j) := by rw [eg, e27, Nat.mul_div_mul_left _ _ p11]
    rw [q1] at d1
    rw [q2] at d2
    refine ⟨s, ?_⟩
    by_cases q4 : a4 = 0
    · simp only [f_X12_drunk_L90_s, f_X12_drunk_L90_B, if_neg c, lj, Option.bind_some, cm, if_pos q4, d1]
    · simp only [f_X12_drunk_L90_s, f_X12_drunk_L90_B, if_neg c, lj, Option.bind_some, cm, if_neg q4, d2]
  | succ q ih =>
    intro j n s hj hn S A
    obtain ⟨n, rfl⟩ : ∃ k, n = k + 1 := ⟨n - 1, by omega⟩
    have c : Int32.ofNat j < Int32.ofNat k := (nn_lt (by omega) (by omega)).mpr (by omega)
    have ml : Int64.ofNat (27720 ^ j) * (27720 : Int64) = Int64.ofNat (27720 ^ (j + 1)) := nl_ml (27720 ^ j) 27720
    obtain ⟨s1, e1, e2, e3, e4⟩ := dr_107 (N := N) (q90 := f_X12_drunk_L90 N n) (a1 := a1) (a2 := Int32.ofNat b) (a3 := Int32.ofNat k) (a4 := a4) (j5 := Int64.ofNat (27720 ^ (j + 1))) (a7 := Int32.ofNat j) 10 0 N s (by omega) (by omega) (fun b hb => by omega)
    have S1 : hl_R nc nx s1 := ⟨by rw [e4]; exact S.1, fun c hc => by rw [e4]; exact S.2 c hc⟩
    obtain ⟨s2, f1, f2, f3⟩ := dr_134 (N := N) (q90 := f_X12_drunk_L90 N n) (a1 := a1) (a2 := Int32.ofNat b) (a3 := Int32.ofNat k) (a4 := a4) (j5 := Int64.ofNat (27720 ^ (j + 1))) (a7 := Int32.ofNat j) (w := dr_w nx 27720 nc a j) (by omega) hnc hx nc 0 N s1 (by omega) (by omega) S1 (fun b hb => by rw [e3 b (by omega), A b hb]) (fun b hb => by rw [e2 b (by omega)]; rfl)
    obtain ⟨s3, g1, g2, g3⟩ := dr_232 (N := N) (q90 := f_X12_drunk_L90 N n) (a1 := a1) (a2 := Int32.ofNat b) (a3 := Int32.ofNat k) (a4 := a4) (j5 := Int64.ofNat (27720 ^ (j + 1))) (a7 := Int32.ofNat j) 10 0 N s2 (by omega) (by omega) (fun b hb => by omega)
    obtain ⟨s', h⟩ := ih (j + 1) n s3 (by omega) (by omega) ⟨by rw [g3, f3]; exact S1.1, fun c hc => by rw [g3, f3]; exact S1.2 c hc⟩ (fun b hb => by rw [g2 b (by omega), f2 b hb]; rfl)
    refine ⟨s', ?_⟩
    rw [← h, ← nn_succ, ← g1]
    refine Eq.trans ?_ f1
    refine Eq.trans ?_ e1
    simp only [f_X12_drunk_L90_s, f_X12_drunk_L90_B, if_pos c, ml]
    rfl
end
section
variable {HC : hq_S → Prop} {N : Nat}
theorem hs_op_31 (hc : hc_loc HC) (hN : 300 < N) (a1 a2 a3 a4 : Int32) : hq_Sim (hR HC) (f_X11_drunk N a1 a2 a3 a4) (f_X12_drunk N a1 a2 a3 a4) := hs_mk hc (WX := w_X11_drunk) (WM := w_X12_drunk) (by decide) (by decide) (by decide) (fun _ _ => f_X11_drunk_fw) (fun _ _ => f_X12_drunk_fw) fun sx sm R => by
  obtain ⟨nc, nl, ng, nt, t, bar, fr, to, on, TT⟩ := R.2.2.2.2.2
  obtain ⟨I, T⟩ := hT_th 0 R.2.2.1 TT
  obtain ⟨sl, l1, lR, lF, lo⟩ := hp_lays (N := N) (by omega) I T
  obtain ⟨⟨t1, t2, t3⟩, Te, ⟨X, M, S, F, B, Bl⟩, -⟩ := T
  obtain ⟨⟨b1, b2, b3, b4⟩, ⟨c1, c2, -⟩, -⟩ := Te
  have d10 : ¬ (1 : Int32) = 0 := by decide
  have hx := ly_nx_lt (fr := fr) (to := to) (on := on) (bar := bar) (both := false) (nc := nc) (n := nl) fun k hk => ⟨(M.2.2.2.2 k hk).1, (M.2.2.2.2 k hk).2.1⟩
  rcases hs_isCorner (N := N) (a := a1) (by omega) t1 t2 c1 c2 with ⟨a, ha, rfl, e1, e2⟩ | ⟨e1, e2⟩
  · rcases hs_isCorner (N := N) (a := a2) (by omega) t1 t2 c1 c2 with ⟨b, hb, rfl, f1, f2⟩ | ⟨f1, f2⟩
    · by_cases h0 : a3 < 0
      · exact ⟨-1, sx, hq_si sm 174 0 0, by simp only [f_X11_drunk, f_X11_drunk_J36, e1, f1, Option.bind_some, if_neg d10, if_pos h0], by simp only [f_X12_drunk, f_X12_drunk_J41, nn_pi, e2, f2, Option.bind_some, if_neg d10, if_pos h0]⟩
      · by_cases h1 : (4 : Int32) < a3
        · exact ⟨-1, sx, hq_si sm 174 0 0, by simp only [f_X11_drunk, f_X11_drunk_J36, e1, f1, Option.bind_some, if_neg d10, if_neg h0, if_pos h1], by simp only [f_X12_drunk, f_X12_drunk_J41, nn_pi, e2, f2, Option.bind_some, if_neg d10, if_neg h0, if_pos h1]⟩
        · by_cases h2 : a4 < 0
          · exact ⟨-1, sx, hq_si sm 174 0 0, by simp only [f_X11_drunk, f_X11_drunk_J36, e1, f1, Option.bind_some, if_neg d10, if_neg h0, if_neg h1, if_pos h2], by simp only [f_X12_drunk, f_X12_drunk_J41, nn_pi, e2, f2, Option.bind_some, if_neg d10, if_neg h0, if_neg h1, if_pos h2]⟩
          · by_cases h3 : (1 : Int32) < a4
            · exact ⟨-1, sx, hq_si sm 174 0 0, by simp only [f_X11_drunk, f_X11_drunk_J36, e1, f1, Option.bind_some, if_neg d10, if_neg h0, if_neg h1, if_neg h2, if_pos h3], by simp only [f_X12_drunk, f_X12_drunk_J41, nn_pi, e2, f2, Option.bind_some, if_neg d10, if_neg h0, if_neg h1, if_neg h2, if_pos h3]⟩
            · obtain ⟨k, hk, rfl⟩ : ∃ k : Nat, k ≤ 4 ∧ a3 = Int32.ofNat k := by
                rcases nn_le (a := a3) (n := 4) (by omega) with ⟨j, hj, e, -, -⟩ | h | ⟨-, h⟩
                · exact ⟨j, hj, e⟩
                · exact absurd h h0
                · exact absurd h h1
              obtain ⟨s1, g1⟩ := dr_X (N := N) (nx := ly_nx fr to on bar false nl) (by omega) b1 hx ha hb hk S
              have g2 : f_X11_power N (2520 : Int64) (Int32.ofNat k) s1 = some (Int64.ofNat (2520 ^ k), s1) := nm_power (b := 2520) (by omega) (by omega)
              have w1 := dr_w_le (nx := ly_nx fr to on bar false nl) (K := 2520) (a := a) b1 hb k
              have w2 : 2520 ^ k ≤ 2520 ^ 4 := Nat.pow_le_pow_right (by omega) hk
              have w3 : (2520 : Nat) ^ 4 < 9223372036854775808 := by decide
              have g3 := nm_least (N := N) (s := s1) (a4 := a4) (above := dr_w (ly_nx fr to on bar false nl) 2520 nc a k b) (below := 2520 ^ k) hN (Nat.lt_of_le_of_lt (Nat.le_trans w1 w2) w3) (Nat.lt_of_le_of_lt w2 w3) (Nat.pow_pos (by omega)) rfl rfl
              obtain ⟨s2, k1, k2, k3⟩ := dr_56 (N := N) (a2 := Int32.ofNat b) (a3 := Int32.ofNat k) (a4 := a4) (j5 := 1) (show a < 10 by omega) 10 0 N sl (by omega) (by omega) (fun b hb => by omega)
              obtain ⟨s3, k4⟩ := dr_90 (N := N) (a1 := Int32.ofNat a) (a := a) (b := b) (k := k) (a4 := a4) hN b1 hx hb hk k 0 N s2 (by omega) (by omega) ⟨by rw [k3]; exact lR.1, fun c hc => by rw [k3]; exact lR.2 c hc⟩ (fun b hb => by rw [k2 b (by omega)]; rfl)
              refine ⟨(if a4 = 0 then Int64.ofNat (dr_w (ly_nx fr to on bar false nl) 2520 nc a k b / Nat.gcd (dr_w (ly_nx fr to on bar false nl) 2520 nc a k b) (2520 ^ k)) else Int64.ofNat (2520 ^ k / Nat.gcd (dr_w (ly_nx fr to on bar false nl) 2520 nc a k b) (2520 ^ k))), s1, s3, ?_, ?_⟩
              rotate_left
              · simp only [f_X12_drunk, nn_pi, e2, f2, Option.bind_some, if_neg d10, if_neg h0, if_neg h1, if_neg h2, if_neg h3, l1]
                exact k1.trans k4
              · simp only [f_X11_drunk, e1, f1, Option.bind_some, if_neg d10, if_neg h0, if_neg h1, if_neg h2, if_neg h3, g1, g2, g3]
    · exact ⟨-1, sx, hq_si sm 174 0 0, by simp only [f_X11_drunk, f_X11_drunk_J36, e1, f1, Option.bind_some, if_neg d10, if_true], by simp only [f_X12_drunk, f_X12_drunk_J41, nn_pi, e2, f2, Option.bind_some, if_neg d10, if_true]⟩
  · exact ⟨-1, sx, hq_si sm 174 0 0, by simp only [f_X11_drunk, f_X11_drunk_J36, e1, Option.bind_some, if_true], by simp only [f_X12_drunk, f_X12_drunk_J41, nn_pi, e2, Option.bind_some, if_true]⟩
end
