/-! DRUNK: the class's weights, and the reference's, eleven times as great a step -/
theorem nl_ad (a b : Nat) : Int64.ofNat a + Int64.ofNat b = Int64.ofNat (a + b) := (Int64.ofNat_add a b).symm
theorem nl_ml (a b : Nat) : Int64.ofNat a * Int64.ofNat b = Int64.ofNat (a * b) := (Int64.ofNat_mul a b).symm
theorem nl_ad0 (a : Nat) : Int64.ofNat a + (0 : Int64) = Int64.ofNat a := nl_ad a 0
def dr_m (nx : Nat → Nat) (c : Nat) : Nat := nx c ||| 2 ^ c
def dr_a (nx : Nat → Nat) (K : Nat) (w : Nat → Nat) : Nat → Nat → Nat
  | 0, _ => 0
  | c + 1, b => dr_a nx K w c b + (if (dr_m nx c).testBit b = true then w c * (K / nb_pop (dr_m nx c) 20) else 0)
def dr_w (nx : Nat → Nat) (K nc a : Nat) : Nat → Nat → Nat
  | 0, b => if b = a then 1 else 0
  | k + 1, b => dr_a nx K (dr_w nx K nc a k) nc b
theorem dr_pop0 : ∀ h : Nat, h < 32 → ∀ l : Nat, l < 32 → nb_pop (32 * h + l) 20 ≤ 10 ∧ (¬ 32 * h + l = 0 → 1 ≤ nb_pop (32 * h + l) 20) := by decide +kernel
theorem dr_pop {nx : Nat → Nat} {nc c : Nat} (hnc : nc ≤ 10) (hx : ∀ c, nx c < 2 ^ nc) (hc : c < nc) : dr_m nx c < 1024 ∧ 1 ≤ nb_pop (dr_m nx c) 20 ∧ nb_pop (dr_m nx c) 20 ≤ 10 := by
  have h1 : dr_m nx c < 1024 := nb_1024 hnc (nb_lt_or (hx c) (nb_2lt hc))
  have h2 := dr_pop0 (dr_m nx c / 32) (by omega) (dr_m nx c % 32) (by omega)
  rw [Nat.div_add_mod] at h2
  have h3 : ¬ dr_m nx c = 0 := fun z => by
    have h4 : (dr_m nx c).testBit c = true := by unfold dr_m; rw [Nat.testBit_or, nb_2p, decide_eq_true rfl, Bool.or_true]
    rw [z, Nat.zero_testBit] at h4
    cases h4
  exact ⟨h1, h2.2 h3, h2.1⟩
theorem dr_11 : ∀ p : Nat, p < 11 → 1 ≤ p → 27720 / p = 11 * (2520 / p) := by decide +kernel
theorem dr_w11 {nx : Nat → Nat} {nc a : Nat} (hnc : nc ≤ 10) (hx : ∀ c, nx c < 2 ^ nc) : ∀ k b, dr_w nx 27720 nc a k b = 11 ^ k * dr_w nx 2520 nc a k b := by
  intro k
  induction k with
  | zero => intro b; rw [dr_w, dr_w, Nat.pow_zero, Nat.one_mul]
  | succ k ih =>
    intro b
    have key : ∀ c, c ≤ nc → dr_a nx 27720 (dr_w nx 27720 nc a k) c b = 11 ^ (k + 1) * dr_a nx 2520 (dr_w nx 2520 nc a k) c b := by
      intro c
      induction c with
      | zero => intro _; rfl
      | succ c ih2 =>
        intro hc
        rw [dr_a, dr_a, ih2 (by omega), Nat.mul_add]
        obtain ⟨-, p1, p2⟩ := dr_pop hnc hx (show c < nc by omega)
        by_cases q : (dr_m nx c).testBit b = true
        · rw [if_pos q, if_pos q, ih c, dr_11 _ (by omega) p1, Nat.pow_succ]
          congr 1
          ac_rfl
        · rw [if_neg q, if_neg q, Nat.mul_zero]
    exact key nc (Nat.le_refl _)
def dr_S (f : Nat → Nat) : Nat → Nat
  | 0 => 0
  | n + 1 => dr_S f n + f n
theorem dr_S_add (f : Nat → Nat) (m x : Nat) : ∀ n, dr_S (fun b => f b + (if m.testBit b = true then x else 0)) n = dr_S f n + x * nb_pop m n := by
  intro n
  induction n with
  | zero => rfl
  | succ n ih =>
    rw [dr_S, dr_S, nb_pop, ih, Nat.mul_add]
    by_cases q : m.testBit n = true
    · rw [if_pos q, if_pos q]; omega
    · rw [if_neg q, if_neg q]; omega
theorem dr_S_le (f : Nat → Nat) {b : Nat} : ∀ n, b < n → f b ≤ dr_S f n := by
  intro n
  induction n with
  | zero => intro h; omega
  | succ n ih =>
    intro h
    rw [dr_S]
    by_cases q : b = n
    · subst q; omega
    · have := ih (by omega); omega
theorem dr_S_0 : ∀ n, dr_S (fun _ => 0) n = 0 := by
  intro n
  induction n with
  | zero => rfl
  | succ n ih => rw [dr_S, ih]
theorem dr_S_1 (a : Nat) : ∀ n, dr_S (fun b => if b = a then 1 else 0) n = if a < n then 1 else 0 := by
  intro n
  induction n with
  | zero => rfl
  | succ n ih =>
    rw [dr_S, ih]
    by_cases q : n = a
    · rw [if_pos q, if_neg (show ¬ a < n by omega), if_pos (show a < n + 1 by omega)]
    · by_cases q2 : a < n
      · rw [if_neg q, if_pos q2, if_pos (show a < n + 1 by omega)]
      · rw [if_neg q, if_neg q2, if_neg (show ¬ a < n + 1 by omega)]
theorem dr_mono (m n : Nat) : ∀ k, nb_pop m n ≤ nb_pop m (n + k) := by
  intro k
  induction k with
  | zero => exact Nat.le_refl _
  | succ k ih =>
    show _ ≤ nb_pop m (n + k) + _
    omega
theorem dr_S_a {nx : Nat → Nat} {K nc : Nat} (hnc : nc ≤ 10) (w : Nat → Nat) : ∀ c, dr_S (dr_a nx K w c) nc ≤ dr_S w c * K := by
  intro c
  induction c with
  | zero =>
    have e : dr_a nx K w 0 = fun _ => 0 := rfl
    rw [e, dr_S_0]; omega
  | succ c ih =>
    have e : dr_a nx K w (c + 1) = fun b => dr_a nx K w c b + (if (dr_m nx c).testBit b = true then w c * (K / nb_pop (dr_m nx c) 20) else 0) := rfl
    rw [e, dr_S_add, dr_S, Nat.add_mul]
    have h1 : nb_pop (dr_m nx c) nc ≤ nb_pop (dr_m nx c) 20 := by
      have := dr_mono (dr_m nx c) nc (20 - nc)
      rw [show nc + (20 - nc) = 20 by omega] at this
      exact this
    have h2 : w c * (K / nb_pop (dr_m nx c) 20) * nb_pop (dr_m nx c) nc ≤ w c * K := by
      rw [Nat.mul_assoc]
      exact Nat.mul_le_mul_left _ (Nat.le_trans (Nat.mul_le_mul_left _ h1) (Nat.div_mul_le_self _ _))
    omega
theorem dr_w_S {nx : Nat → Nat} {K nc a : Nat} (hnc : nc ≤ 10) : ∀ k, dr_S (dr_w nx K nc a k) nc ≤ K ^ k := by
  intro k
  induction k with
  | zero =>
    have e : dr_w nx K nc a 0 = fun b => if b = a then 1 else 0 := rfl
    rw [e, dr_S_1, Nat.pow_zero]
    split <;> omega
  | succ k ih =>
    have e : dr_w nx K nc a (k + 1) = dr_a nx K (dr_w nx K nc a k) nc := rfl
    rw [e, Nat.pow_succ]
    exact Nat.le_trans (dr_S_a hnc _ nc) (Nat.mul_le_mul_right _ ih)
theorem dr_w_le {nx : Nat → Nat} {K nc a b : Nat} (hnc : nc ≤ 10) (hb : b < nc) (k : Nat) : dr_w nx K nc a k b ≤ K ^ k := Nat.le_trans (dr_S_le _ nc hb) (dr_w_S hnc k)
/-! the class -/
section
variable {N nc : Nat} {nx : Nat → Nat}
theorem dr_fill {s : hq_S} (hN : 10 < N) : ∃ s', f_J7_fill_d0a16 N 106 0 s = some s' ∧ (∀ b, b < 10 → hq_gj s' 106 b = 0) ∧ (∀ k i, ¬ k = 106 → hq_gj s' k i = hq_gj s k i) ∧ ∀ k i, hq_gi s' k i = hq_gi s k i := by
  have al : hq_alJ 106 = some 10 := rfl
  have al2 : hq_alA 106 = some (Int32.ofNat 10) := rfl
  have key : ∀ (q j m : Nat) (s : hq_S), j + q = 10 → q < m → (∀ b, b < j → hq_gj s 106 b = 0) → ∃ s', f_J7_fill_d0a16_L6 N m 106 0 (Int32.ofNat j) (Int32.ofNat 10) s = some s' ∧ (∀ b, b < 10 → hq_gj s' 106 b = 0) ∧ (∀ k i, ¬ k = 106 → hq_gj s' k i = hq_gj s k i) ∧ ∀ k i, hq_gi s' k i = hq_gi s k i := by
    intro q
    induction q with
    | zero =>
      intro j m s hj hm h
      obtain ⟨m, rfl⟩ : ∃ k, m = k + 1 := ⟨m - 1, by omega⟩
      have c : ¬ Int32.ofNat j < Int32.ofNat 10 := by rw [nn_lt (by omega) (by omega)]; omega
      exact ⟨s, by simp only [f_J7_fill_d0a16_L6_s, f_J7_fill_d0a16_L6_B, if_neg c], fun b hb => h b (by omega), fun _ _ _ => rfl, fun _ _ => rfl⟩
    | succ q ih =>
      intro j m s hj hm h
      obtain ⟨m, rfl⟩ : ∃ k, m = k + 1 := ⟨m - 1, by omega⟩
      have c : Int32.ofNat j < Int32.ofNat 10 := (nn_lt (by omega) (by omega)).mpr (by omega)
      have st : hq_stjA s 106 (Int32.ofNat j) 0 = some (hq_sj s 106 j 0) := by
        unfold hq_stjA
        rw [al, Option.bind_some]
        exact nb_stj (by omega) (by omega)
      obtain ⟨s', e1, e2, e3, e4⟩ := ih (j + 1) m (hq_sj s 106 j 0) (by omega) (by omega) (fun b hb => by
        rw [nb_jj]
        by_cases q1 : b = j
        · rw [if_pos ⟨rfl, q1⟩]
        · rw [if_neg (fun z => q1 z.2)]; exact h b (by omega))
      refine ⟨s', ?_, e2, fun k i hk => by rw [e3 k i hk, nb_jj, if_neg (fun z => hk z.1)], fun k i => by rw [e4, nb_ji]⟩
      simp only [f_J7_fill_d0a16_L6_s, f_J7_fill_d0a16_L6_B, if_pos c, st, Option.bind_some, nn_succ]
      exact e1
  obtain ⟨s', e⟩ := key 10 0 N s (by omega) (by omega) (fun b hb => by omega)
  refine ⟨s', ?_, e.2⟩
  unfold f_J7_fill_d0a16
  rw [al2, Option.bind_some]
  exact e.1
theorem dr_39 {m x : Nat} {a1 a3 : Int32} (hnc : nc ≤ 10) (hm : m < 1024) (f : Nat → Nat) : ∀ (q j n : Nat) (s : hq_S), j + q = nc → q < n → hq_gi s 103 0 = Int32.ofNat nc → (∀ b, b < nc → hq_gj s 106 b = Int64.ofNat (f b + (if b < j ∧ m.testBit b = true then x else 0))) → ∃ s', f_X8_shareOut_L39 N n 103 a1 (Int32.ofNat m) a3 (Int64.ofNat x) (Int32.ofNat j) s = some s' ∧ (∀ b, b < nc → hq_gj s' 106 b = Int64.ofNat (f b + (if m.testBit b = true then x else 0))) ∧ (∀ k i, ¬ k = 106 → hq_gj s' k i = hq_gj s k i) ∧ ∀ k i, hq_gi s' k i = hq_gi s k i := by
  intro q
  induction q with
  | zero =>
    intro j n s hj hn h0 h
    obtain ⟨n, rfl⟩ : ∃ k, n = k + 1 := ⟨n - 1, by omega⟩
    have hj : j = nc := by omega
    subst hj
    have c : ¬ Int32.ofNat j < Int32.ofNat j := by rw [nn_lt (by omega) (by omega)]; omega
    refine ⟨s, by simp only [f_X8_shareOut_L39_s, f_X8_shareOut_L39_B, h0, if_neg c], fun b hb => ?_, fun _ _ _ => rfl, fun _ _ => rfl⟩
    rw [h b hb]
    by_cases q1 : m.testBit b = true
    · rw [if_pos ⟨hb, q1⟩, if_pos q1]
    · rw [if_neg (fun z => q1 z.2), if_neg q1]
  | succ q ih =>
    intro j n s hj hn h0 h
    obtain ⟨n, rfl⟩ : ∃ k, n = k + 1 := ⟨n - 1, by omega⟩
    have c : Int32.ofNat j < Int32.ofNat nc := (nn_lt (by omega) (by omega)).mpr (by omega)
    have b1 := nb_bit1 (show m < 2147483648 by omega) (show j < 32 by omega)
    have lj : hq_ldj s 106 10 (Int32.ofNat j) = some (Int64.ofNat (f j)) := by rw [nb_ldj (by omega) (by omega), h j (by omega), if_neg (fun z => Nat.lt_irrefl _ z.1), Nat.add_zero]
    have sj : ∀ v, hq_stj s 106 10 (Int32.ofNat j) v = some (hq_sj s 106 j v) := fun v => nb_stj (by omega) (by omega)
    obtain ⟨s', e1, e2, e3, e4⟩ := ih (j + 1) n (hq_sj s 106 j (Int64.ofNat (f j + (if m.testBit j = true then x else 0)))) (by omega) (by omega) (by rw [nb_ji]; exact h0) (fun b hb => by
      rw [nb_jj]
      by_cases q1 : b = j
      · subst q1
        rw [if_pos ⟨rfl, rfl⟩]
        by_cases q2 : m.testBit b = true
        · rw [if_pos q2, if_pos ⟨by omega, q2⟩]
        · rw [if_neg q2, if_neg (fun z => q2 z.2)]
      · rw [if_neg (fun z => q1 z.2), h b hb]
        by_cases q2 : b < j ∧ m.testBit b = true
        · rw [if_pos q2, if_pos ⟨by omega, q2.2⟩]
        · rw [if_neg q2, if_neg (fun z => q2 ⟨by omega, z.2⟩)])
    refine ⟨s', ?_, e2, fun k i hk => by rw [e3 k i hk, nb_jj, if_neg (fun z => hk z.1)], fun k i => by rw [e4, nb_ji]⟩
    rw [← e1]
    by_cases q2 : m.testBit j = true
    · simp only [f_X8_shareOut_L39_s, f_X8_shareOut_L39_B, h0, if_pos c, Nat.reduceAdd, lj, Option.bind_some, b1, if_pos q2, nl_ad, sj, nn_succ]
    · simp only [f_X8_shareOut_L39_s, f_X8_shareOut_L39_B, h0, if_pos c, Nat.reduceAdd, lj, Option.bind_some, b1, if_neg q2, nl_ad0, Nat.add_zero, sj, nn_succ]
theorem dr_share {c : Nat} {w f : Nat → Nat} {s : hq_S} (hN : 20 < N) (hnc : nc ≤ 10) (hx : ∀ c, nx c < 2 ^ nc) (hc : c < nc) (S : hl_S 103 nc nx s) (W : ∀ b, b < nc → hq_gj s 107 b = Int64.ofNat (w b)) (A : ∀ b, b < nc → hq_gj s 106 b = Int64.ofNat (f b)) : ∃ s', f_X8_shareOut N 103 (Int32.ofNat c) s = some s' ∧ (∀ b, b < nc → hq_gj s' 106 b = Int64.ofNat (f b + (if (dr_m nx c).testBit b = true then w c * (2520 / nb_pop (dr_m nx c) 20) else 0))) ∧ (∀ k i, ¬ k = 106 → hq_gj s' k i = hq_gj s k i) ∧ ∀ k i, hq_gi s' k i = hq_gi s k i := by
  obtain ⟨hm, p1, p2⟩ := dr_pop hnc hx hc
  obtain ⟨s', e⟩ := dr_39 (N := N) (m := dr_m nx c) (x := w c * (2520 / nb_pop (dr_m nx c) 20)) (a1 := Int32.ofNat c) (a3 := Int32.ofNat (nb_pop (dr_m nx c) 20)) hnc hm f nc 0 N s (by omega) (by omega) S.1 (fun b hb => by rw [A b hb, if_neg (fun z => by omega), Nat.add_zero])
  refine ⟨s', ?_, e.2⟩
  rw [← e.1]
  have ld : hq_ld s 104 10 (Int32.ofNat c) = some (Int32.ofNat (nx c)) := by rw [nn_ld (by omega) (by omega)]; exact congrArg some (S.2 c (by omega))
  have om : Int32.ofNat (nx c) ||| Int32.ofNat (2 ^ c) = Int32.ofNat (dr_m nx c) := nb_or _ _
  have bc : f_J6_bitCount_0f7a4 N (Int32.ofNat (dr_m nx c)) s = some (Int32.ofNat (nb_pop (dr_m nx c) 20), s) := hb_bc (by omega)
  have n0 : ¬ Int32.ofNat (nb_pop (dr_m nx c) 20) = 0 := by rw [nb_eq0 (by omega)]; omega
  have lj : hq_ldj s 107 10 (Int32.ofNat c) = some (Int64.ofNat (w c)) := by rw [nb_ldj (by omega) (by omega), W c hc]
  have dv : hq_ldiv (2520 : Int64) (Int64.ofNat (nb_pop (dr_m nx c) 20)) = some (Int64.ofNat (2520 / nb_pop (dr_m nx c) 20)) := nl_div (a := 2520) (by omega) (by omega) (by omega)
  simp only [f_X8_shareOut, Nat.reduceAdd, ld, Option.bind_some, nb_one (show c < 32 by omega), om, bc, if_neg n0, lj, nb_i64 (show nb_pop (dr_m nx c) 20 < 2147483648 by omega), dv, nl_ml]
  rfl
theorem dr_50 {q18 : Nat → Int32 → Int32 → Int32 → Int32 → hq_S → Option (Int64 × hq_S)} {a1 a2 a3 a4 : Int32} {w : Nat → Nat} (hN : 20 < N) (hnc : nc ≤ 10) (hx : ∀ c, nx c < 2 ^ nc) : ∀ (q j n : Nat) (s : hq_S), j + q = nc → q < n → hl_S 103 nc nx s → (∀ b, b < nc → hq_gj s 107 b = Int64.ofNat (w b)) → (∀ b, b < nc → hq_gj s 106 b = Int64.ofNat (dr_a nx 2520 w j b)) → ∃ s', f_X8_drunkWeight_L50 N q18 n 103 a1 a2 a3 a4 (Int32.ofNat j) s = q18 103 a1 a2 a3 (a4 + 1) s' ∧ (∀ b, b < nc → hq_gj s' 106 b = Int64.ofNat (dr_a nx 2520 w nc b)) ∧ ∀ k i, hq_gi s' k i = hq_gi s k i := by
  intro q
  induction q with
  | zero =>
    intro j n s hj hn S W A
    obtain ⟨n, rfl⟩ : ∃ k, n = k + 1 := ⟨n - 1, by omega⟩
    have hj : j = nc := by omega
    subst hj
    have c : ¬ Int32.ofNat j < Int32.ofNat j := by rw [nn_lt (by omega) (by omega)]; omega
    exact ⟨s, by simp only [f_X8_drunkWeight_L50_s, f_X8_drunkWeight_L50_B, S.1, if_neg c], A, fun _ _ => rfl⟩
  | succ q ih =>
    intro j n s hj hn S W A
    obtain ⟨n, rfl⟩ : ∃ k, n = k + 1 := ⟨n - 1, by omega⟩
    have c : Int32.ofNat j < Int32.ofNat nc := (nn_lt (by omega) (by omega)).mpr (by omega)
    obtain ⟨s1, e1, e2, e3, e4⟩ := dr_share hN hnc hx (show j < nc by omega) S W A
    obtain ⟨s', f1, f2, f3⟩ := ih (j + 1) n s1 (by omega) (by omega) ⟨by rw [e4]; exact S.1, fun c hc => by rw [e4]; exact S.2 c hc⟩ (fun b hb => by rw [e3 _ _ (by omega)]; exact W b hb) e2
    refine ⟨s', ?_, f2, fun k i => by rw [f3, e4]⟩
    simp only [f_X8_drunkWeight_L50_s, f_X8_drunkWeight_L50_B, S.1, if_pos c, e1, Option.bind_some, nn_succ]
    exact f1
theorem dr_18 {a b k : Nat} {a1 : Int32} (hN : 20 < N) (hnc : nc ≤ 10) (hx : ∀ c, nx c < 2 ^ nc) (hb : b < nc) (hk : k ≤ 4) : ∀ (q j n : Nat) (s : hq_S), j + q = k → q < n → hl_S 103 nc nx s → (∀ b, b < nc → hq_gj s 106 b = Int64.ofNat (dr_w nx 2520 nc a j b)) → ∃ s', f_X8_drunkWeight_L18 N n 103 a1 (Int32.ofNat b) (Int32.ofNat k) (Int32.ofNat j) s = some (Int64.ofNat (dr_w nx 2520 nc a k b), s') := by
  intro q
  induction q with
  | zero =>
    intro j n s hj hn S A
    obtain ⟨n, rfl⟩ : ∃ k, n = k + 1 := ⟨n - 1, by omega⟩
    have hj : j = k := by omega
    subst hj
    have c : ¬ Int32.ofNat j < Int32.ofNat j := by rw [nn_lt (by omega) (by omega)]; omega
    have lj : hq_ldj s 106 10 (Int32.ofNat b) = some (Int64.ofNat (dr_w nx 2520 nc a j b)) := by rw [nb_ldj (by omega) (by omega), A b hb]
    exact ⟨s, by simp only [f_X8_drunkWeight_L18_s, f_X8_drunkWeight_L18_B, if_neg c, Nat.reduceAdd, lj, Option.bind_some]⟩
  | succ q ih =>
    intro j n s hj hn S A
    obtain ⟨n, rfl⟩ : ∃ k, n = k + 1 := ⟨n - 1, by omega⟩
    have c : Int32.ofNat j < Int32.ofNat k := (nn_lt (by omega) (by omega)).mpr (by omega)
    have cp : hq_cpj s 106 10 107 10 0 0 10 = some (hq_cpjS s 106 107 0 0 10) := rfl
    have g7 : ∀ b, b < 10 → hq_gj (hq_cpjS s 106 107 0 0 10) 107 b = hq_gj s 106 b := fun b hb => by
      show (if 107 = 107 ∧ (0 ≤ b ∧ b < 0 + 10) then s.2.1 106 (0 + (b - 0)) else s.2.1 107 b) = s.2.1 106 b
      rw [if_pos ⟨rfl, by omega, by omega⟩, Nat.sub_zero, Nat.zero_add]
    obtain ⟨s2, e1, e2, e3, e4⟩ := dr_fill (N := N) (s := hq_cpjS s 106 107 0 0 10) (by omega)
    have i2 : ∀ k i, hq_gi s2 k i = hq_gi s k i := fun k i => by rw [e4]; rfl
    have S2 : hl_S 103 nc nx s2 := ⟨by rw [i2]; exact S.1, fun c hc => by rw [i2]; exact S.2 c hc⟩
    obtain ⟨s3, f1, f2, f3⟩ := dr_50 (N := N) (q18 := f_X8_drunkWeight_L18 N n) (a1 := a1) (a2 := Int32.ofNat b) (a3 := Int32.ofNat k) (a4 := Int32.ofNat j) (w := dr_w nx 2520 nc a j) hN hnc hx nc 0 N s2 (by omega) (by omega) S2 (fun b hb => by rw [e3 _ _ (by omega), g7 b (by omega), A b hb]) (fun b hb => by rw [e2 b (by omega)]; rfl)
    obtain ⟨s', h⟩ := ih (j + 1) n s3 (by omega) (by omega) ⟨by rw [f3]; exact S2.1, fun c hc => by rw [f3]; exact S2.2 c hc⟩ f2
    refine ⟨s', ?_⟩
    rw [← h, ← nn_succ, ← f1]
    simp only [f_X8_drunkWeight_L18_s, f_X8_drunkWeight_L18_B, if_pos c, Nat.reduceAdd, cp, e1, Option.bind_some]
    rfl
theorem dr_X {a b k : Nat} {s : hq_S} (hN : 20 < N) (hnc : nc ≤ 10) (hx : ∀ c, nx c < 2 ^ nc) (ha : a < nc) (hb : b < nc) (hk : k ≤ 4) (S : hl_S 103 nc nx s) : ∃ s', f_X8_drunkWeight N 103 (Int32.ofNat a) (Int32.ofNat b) (Int32.ofNat k) s = some (Int64.ofNat (dr_w nx 2520 nc a k b), s') := by
  obtain ⟨s1, e1, e2, e3, e4⟩ := dr_fill (N := N) (s := s) (by omega)
  have st : hq_stj s1 106 10 (Int32.ofNat a) 1 = some (hq_sj s1 106 a 1) := nb_stj (by omega) (by omega)
  obtain ⟨s', h⟩ := dr_18 (N := N) (a := a) (b := b) (k := k) (a1 := Int32.ofNat a) hN hnc hx hb hk k 0 N (hq_sj s1 106 a 1) (by omega) (by omega) ⟨by rw [nb_ji, e4]; exact S.1, fun c hc => by rw [nb_ji, e4]; exact S.2 c hc⟩ (fun b hb => by
    rw [nb_jj, dr_w]
    by_cases q : b = a
    · rw [if_pos ⟨rfl, q⟩, if_pos q]; rfl
    · rw [if_neg (fun z => q z.2), if_neg q, e2 b (by omega)]; rfl)
  refine ⟨s', ?_⟩
  rw [← h]
  simp only [f_X8_drunkWeight, Nat.reduceAdd, e1, Option.bind_some, st]
  rfl
end
