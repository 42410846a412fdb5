/-! COPIES: a town of the reference, a night of the class -/
/-- behind 'copies': town a is town b, all else stays -/
def hk_M (a b : Nat) (s s' : hq_S) : Prop := (∀ c i, ¬ hm_sl a c i → hq_gi s' c i = hq_gi s c i) ∧ (∀ c i, hq_gj s' c i = hq_gj s c i) ∧ (∀ c i, hq_gr s' c i = hq_gr s c i) ∧ (∀ c, 196 ≤ c → c ≤ 198 → hq_gi s' c a = hq_gi s c b) ∧ (∀ i, i < 10 → hq_gi s' 199 (10 * a + i) = hq_gi s 199 (10 * b + i)) ∧ (∀ c i, 200 ≤ c → c ≤ 202 → i < 3 → hq_gi s' c (3 * a + i) = hq_gi s c (3 * b + i)) ∧ (∀ c i, 203 ≤ c → c ≤ 205 → i < 4 → hq_gi s' c (4 * a + i) = hq_gi s c (4 * b + i))
section
variable {N a b : Nat}
theorem hk_147 (ha : a < 23) (hb : b < 23) (hab : ¬ a = b) : ∀ (q j m : Nat) (s : hq_S), j + q = 4 → q < m → ∃ s', f_X12_copies_L147 N m (Int32.ofNat a) (Int32.ofNat b) (Int32.ofNat j) s = some s' ∧ (∀ c i, ¬ (203 ≤ c ∧ c ≤ 205 ∧ 4 * a + j ≤ i ∧ i < 4 * a + 4) → hq_gi s' c i = hq_gi s c i) ∧ (∀ c i, 203 ≤ c → c ≤ 205 → j ≤ i → i < 4 → hq_gi s' c (4 * a + i) = hq_gi s c (4 * b + i)) ∧ (∀ c i, hq_gj s' c i = hq_gj s c i) ∧ ∀ c i, hq_gr s' c i = hq_gr s c i := by
  intro q
  induction q with
  | zero =>
    intro j m s hj hm
    obtain ⟨m, rfl⟩ : ∃ k, m = k + 1 := ⟨m - 1, by omega⟩
    have cc : ¬ Int32.ofNat j < (4 : Int32) := by rw [nb_lit 4, nn_lt (by omega) (by omega)]; omega
    exact ⟨s, by simp only [f_X12_copies_L147_s, f_X12_copies_L147_B, if_neg cc], fun _ _ _ => rfl, fun c i _ _ h1 h2 => by omega, fun _ _ => rfl, fun _ _ => rfl⟩
  | succ q ih =>
    intro j m s hj hm
    obtain ⟨m, rfl⟩ : ∃ k, m = k + 1 := ⟨m - 1, by omega⟩
    have cc : Int32.ofNat j < (4 : Int32) := by rw [nb_lit 4, nn_lt (by omega) (by omega)]; omega
    have ld : ∀ (s : hq_S) (k : Nat), hq_ld s k 92 (Int32.ofNat (4 * b + j)) = some (hq_gi s k (4 * b + j)) := fun s k => nn_ld (by omega) (by omega)
    have st : ∀ (s : hq_S) (k : Nat) (x : Int32), hq_st s k 92 (Int32.ofNat (4 * a + j)) x = some (hq_si s k (4 * a + j) x) := fun s k x => nn_st (by omega) (by omega)
    obtain ⟨s', e1, e2, e3, e4, e5⟩ := ih (j + 1) m (hq_si (hq_si (hq_si s 203 (4 * a + j) (hq_gi s 203 (4 * b + j))) 204 (4 * a + j) (hq_gi s 204 (4 * b + j))) 205 (4 * a + j) (hq_gi s 205 (4 * b + j))) (by omega) (by omega)
    refine ⟨s', ?_, fun c i h => ?_, fun c i h1 h2 h3 h4 => ?_, fun c i => ?_, fun c i => ?_⟩
    · simp only [f_X12_copies_L147_s, f_X12_copies_L147_B, if_pos cc, nb_m4, nb_add, ld, st, Option.bind_some, nn_succ, nn_gk (show ¬ 204 = 203 by decide), nn_gk (show ¬ 205 = 204 by decide), nn_gk (show ¬ 205 = 203 by decide)]
      exact e1
    · rw [e2 c i (by omega), nb_ii, nb_ii, nb_ii, if_neg (by omega), if_neg (by omega), if_neg (by omega)]
    · by_cases q1 : i = j
      · subst q1
        rw [e2 c _ (by omega), nb_ii, nb_ii, nb_ii]
        rcases (show c = 203 ∨ c = 204 ∨ c = 205 by omega) with rfl | rfl | rfl
        · rw [if_neg (by omega), if_neg (by omega), if_pos ⟨rfl, rfl⟩]
        · rw [if_neg (by omega), if_pos ⟨rfl, rfl⟩]
        · rw [if_pos ⟨rfl, rfl⟩]
      · rw [e3 c i h1 h2 (by omega) h4, nb_ii, nb_ii, nb_ii, if_neg (by omega), if_neg (by omega), if_neg (by omega)]
    · rw [e4]; rfl
    · rw [e5]; rfl
theorem hk_74 (hN : 100 < N) (ha : a < 23) (hb : b < 23) (hab : ¬ a = b) : ∀ (q j m : Nat) (s : hq_S), j + q = 3 → q < m → ∃ s', f_X12_copies_L74 N m (Int32.ofNat a) (Int32.ofNat b) (Int32.ofNat j) s = f_X12_copies_L147 N N (Int32.ofNat a) (Int32.ofNat b) (Int32.ofNat 0) s' ∧ (∀ c i, ¬ (200 ≤ c ∧ c ≤ 202 ∧ 3 * a + j ≤ i ∧ i < 3 * a + 3) → hq_gi s' c i = hq_gi s c i) ∧ (∀ c i, 200 ≤ c → c ≤ 202 → j ≤ i → i < 3 → hq_gi s' c (3 * a + i) = hq_gi s c (3 * b + i)) ∧ (∀ c i, hq_gj s' c i = hq_gj s c i) ∧ ∀ c i, hq_gr s' c i = hq_gr s c i := by
  intro q
  induction q with
  | zero =>
    intro j m s hj hm
    obtain ⟨m, rfl⟩ : ∃ k, m = k + 1 := ⟨m - 1, by omega⟩
    have cc : ¬ Int32.ofNat j < (3 : Int32) := by rw [nb_lit 3, nn_lt (by omega) (by omega)]; omega
    exact ⟨s, by simp only [f_X12_copies_L74_s, f_X12_copies_L74_B, if_neg cc]; rfl, fun _ _ _ => rfl, fun c i _ _ h1 h2 => by omega, fun _ _ => rfl, fun _ _ => rfl⟩
  | succ q ih =>
    intro j m s hj hm
    obtain ⟨m, rfl⟩ : ∃ k, m = k + 1 := ⟨m - 1, by omega⟩
    have cc : Int32.ofNat j < (3 : Int32) := by rw [nb_lit 3, nn_lt (by omega) (by omega)]; omega
    have ld : ∀ (s : hq_S) (k : Nat), hq_ld s k 69 (Int32.ofNat (3 * b + j)) = some (hq_gi s k (3 * b + j)) := fun s k => nn_ld (by omega) (by omega)
    have st : ∀ (s : hq_S) (k : Nat) (x : Int32), hq_st s k 69 (Int32.ofNat (3 * a + j)) x = some (hq_si s k (3 * a + j) x) := fun s k x => nn_st (by omega) (by omega)
    obtain ⟨s', e1, e2, e3, e4, e5⟩ := ih (j + 1) m (hq_si (hq_si (hq_si s 200 (3 * a + j) (hq_gi s 200 (3 * b + j))) 201 (3 * a + j) (hq_gi s 201 (3 * b + j))) 202 (3 * a + j) (hq_gi s 202 (3 * b + j))) (by omega) (by omega)
    refine ⟨s', ?_, fun c i h => ?_, fun c i h1 h2 h3 h4 => ?_, fun c i => ?_, fun c i => ?_⟩
    · simp only [f_X12_copies_L74_s, f_X12_copies_L74_B, if_pos cc, nb_m3, nb_add, ld, st, Option.bind_some, nn_succ, nn_gk (show ¬ 201 = 200 by decide), nn_gk (show ¬ 202 = 201 by decide), nn_gk (show ¬ 202 = 200 by decide)]
      exact e1
    · rw [e2 c i (by omega), nb_ii, nb_ii, nb_ii, if_neg (by omega), if_neg (by omega), if_neg (by omega)]
    · by_cases q1 : i = j
      · subst q1
        rw [e2 c _ (by omega), nb_ii, nb_ii, nb_ii]
        rcases (show c = 200 ∨ c = 201 ∨ c = 202 by omega) with rfl | rfl | rfl
        · rw [if_neg (by omega), if_neg (by omega), if_pos ⟨rfl, rfl⟩]
        · rw [if_neg (by omega), if_pos ⟨rfl, rfl⟩]
        · rw [if_pos ⟨rfl, rfl⟩]
      · rw [e3 c i h1 h2 (by omega) h4, nb_ii, nb_ii, nb_ii, if_neg (by omega), if_neg (by omega), if_neg (by omega)]
    · rw [e4]; rfl
    · rw [e5]; rfl
theorem hk_38 (ha : a < 23) (hb : b < 23) (hab : ¬ a = b) : ∀ (q j m : Nat) (s : hq_S), j + q = 10 → q < m → ∃ s', f_X12_copies_L38 N m (Int32.ofNat a) (Int32.ofNat b) (Int32.ofNat j) s = f_X12_copies_L74 N N (Int32.ofNat a) (Int32.ofNat b) (Int32.ofNat 0) s' ∧ (∀ c i, ¬ (c = 199 ∧ 10 * a + j ≤ i ∧ i < 10 * a + 10) → hq_gi s' c i = hq_gi s c i) ∧ (∀ i, j ≤ i → i < 10 → hq_gi s' 199 (10 * a + i) = hq_gi s 199 (10 * b + i)) ∧ (∀ c i, hq_gj s' c i = hq_gj s c i) ∧ ∀ c i, hq_gr s' c i = hq_gr s c i := by
  intro q
  induction q with
  | zero =>
    intro j m s hj hm
    obtain ⟨m, rfl⟩ : ∃ k, m = k + 1 := ⟨m - 1, by omega⟩
    have cc : ¬ Int32.ofNat j < (10 : Int32) := by rw [nb_lit 10, nn_lt (by omega) (by omega)]; omega
    exact ⟨s, by simp only [f_X12_copies_L38_s, f_X12_copies_L38_B, if_neg cc]; rfl, fun _ _ _ => rfl, fun i h1 h2 => by omega, fun _ _ => rfl, fun _ _ => rfl⟩
  | succ q ih =>
    intro j m s hj hm
    obtain ⟨m, rfl⟩ : ∃ k, m = k + 1 := ⟨m - 1, by omega⟩
    have cc : Int32.ofNat j < (10 : Int32) := by rw [nb_lit 10, nn_lt (by omega) (by omega)]; omega
    have ld : hq_ld s 199 230 (Int32.ofNat (10 * b + j)) = some (hq_gi s 199 (10 * b + j)) := nn_ld (by omega) (by omega)
    have st : ∀ x, hq_st s 199 230 (Int32.ofNat (10 * a + j)) x = some (hq_si s 199 (10 * a + j) x) := fun x => nn_st (by omega) (by omega)
    obtain ⟨s', e1, e2, e3, e4, e5⟩ := ih (j + 1) m (hq_si s 199 (10 * a + j) (hq_gi s 199 (10 * b + j))) (by omega) (by omega)
    refine ⟨s', ?_, fun c i h => ?_, fun i h3 h4 => ?_, fun c i => ?_, fun c i => ?_⟩
    · simp only [f_X12_copies_L38_s, f_X12_copies_L38_B, if_pos cc, nb_m10, nb_add, ld, st, Option.bind_some, nn_succ]
      exact e1
    · rw [e2 c i (by omega), nb_ii, if_neg (by omega)]
    · by_cases q1 : i = j
      · subst q1
        rw [e2 _ _ (by omega), nb_ii, if_pos ⟨rfl, rfl⟩]
      · rw [e3 i (by omega) h4, nb_ii, if_neg (by omega)]
    · rw [e4]; rfl
    · rw [e5]; rfl
theorem hk_copies (hN : 100 < N) (ha : a < 23) (hb : b < 23) (hab : ¬ a = b) (s : hq_S) : ∃ s', f_X12_copies N (Int32.ofNat a) (Int32.ofNat b) s = some s' ∧ hk_M a b s s' := by
  have ld : ∀ (s : hq_S) (k : Nat), hq_ld s k 23 (Int32.ofNat b) = some (hq_gi s k b) := fun s k => nn_ld (by omega) (by omega)
  have st : ∀ (s : hq_S) (k : Nat) (x : Int32), hq_st s k 23 (Int32.ofNat a) x = some (hq_si s k a x) := fun s k x => nn_st (by omega) (by omega)
  obtain ⟨s1, a1, a2, a3, a4, a5⟩ := hk_38 (N := N) ha hb hab 10 0 N (hq_si (hq_si (hq_si s 196 a (hq_gi s 196 b)) 197 a (hq_gi s 197 b)) 198 a (hq_gi s 198 b)) (by omega) (by omega)
  obtain ⟨s2, b1, b2, b3, b4, b5⟩ := hk_74 (N := N) hN ha hb hab 3 0 N s1 (by omega) (by omega)
  obtain ⟨s3, c1, c2, c3, c4, c5⟩ := hk_147 (N := N) ha hb hab 4 0 N s2 (by omega) (by omega)
  refine ⟨s3, ?_, fun c i h => ?_, fun c i => ?_, fun c i => ?_, fun c h1 h2 => ?_, fun i hi => ?_, fun c i h1 h2 h3 => ?_, fun c i h1 h2 h3 => ?_⟩
  · simp only [f_X12_copies, ld, st, Option.bind_some, nn_gk (show ¬ 197 = 196 by decide), nn_gk (show ¬ 198 = 197 by decide), nn_gk (show ¬ 198 = 196 by decide)]
    rw [nb_0, a1, b1]
    exact c1
  · unfold hm_sl at h
    rw [c2 c i (by omega), b2 c i (by omega), a2 c i (by omega), nb_ii, nb_ii, nb_ii, if_neg (by omega), if_neg (by omega), if_neg (by omega)]
  · rw [c4, b4, a4]; rfl
  · rw [c5, b5, a5]; rfl
  · rw [c2 c _ (by omega), b2 c _ (by omega), a2 c _ (by omega), nb_ii, nb_ii, nb_ii]
    rcases (show c = 196 ∨ c = 197 ∨ c = 198 by omega) with rfl | rfl | rfl
    · rw [if_neg (by omega), if_neg (by omega), if_pos ⟨rfl, rfl⟩]
    · rw [if_neg (by omega), if_pos ⟨rfl, rfl⟩]
    · rw [if_pos ⟨rfl, rfl⟩]
  · rw [c2 _ _ (by omega), b2 _ _ (by omega), a3 i (by omega) hi, nb_ii, nb_ii, nb_ii, if_neg (by omega), if_neg (by omega), if_neg (by omega)]
  · rw [c2 _ _ (by omega), b3 c i h1 h2 (by omega) h3, a2 _ _ (by omega), nb_ii, nb_ii, nb_ii, if_neg (by omega), if_neg (by omega), if_neg (by omega)]
  · rw [c3 c i h1 h2 (by omega) h3, b2 _ _ (by omega), a2 _ _ (by omega), nb_ii, nb_ii, nb_ii, if_neg (by omega), if_neg (by omega), if_neg (by omega)]
end
/-- behind 'copyFrom': night a is night b, all else stays -/
def hk_X (a b : Nat) (s s' : hq_S) : Prop := (∀ c i, (c < a ∨ a + 8 < c ∨ (c = a ∧ ¬ i = 0 ∧ ¬ i = 2)) → hq_gi s' c i = hq_gi s c i) ∧ (∀ c i, ¬ (c = a ∧ i = 1) → hq_gj s' c i = hq_gj s c i) ∧ (∀ c i, hq_gr s' c i = hq_gr s c i) ∧ hq_gi s' a 0 = hq_gi s b 0 ∧ hq_gi s' a 2 = hq_gi s b 2 ∧ hq_gj s' a 1 = hq_gj s b 1 ∧ (∀ i, i < 10 → hq_gi s' (a + 1) i = hq_gi s (b + 1) i) ∧ (∀ i, i < 3 → hq_gi s' (a + 2) i = hq_gi s (b + 2) i ∧ hq_gi s' (a + 3) i = hq_gi s (b + 3) i ∧ hq_gi s' (a + 4) i = hq_gi s (b + 4) i) ∧ (∀ i, i < 4 → hq_gi s' (a + 5) i = hq_gi s (b + 5) i ∧ hq_gi s' (a + 6) i = hq_gi s (b + 6) i ∧ hq_gi s' (a + 7) i = hq_gi s (b + 7) i ∧ hq_gi s' (a + 8) i = hq_gi s (b + 8) i)
theorem hk_cp {s : hq_S} {k j : Nat} : hq_cp s k 10 j 10 0 0 10 = some (hq_cpS s k j 0 0 10) ∧ hq_cp s k 3 j 3 0 0 3 = some (hq_cpS s k j 0 0 3) ∧ hq_cp s k 4 j 4 0 0 4 = some (hq_cpS s k j 0 0 4) := ⟨rfl, rfl, rfl⟩
theorem hk_cpi {s : hq_S} {k j n k' i : Nat} : hq_gi (hq_cpS s k j 0 0 n) k' i = if k' = j ∧ i < n then hq_gi s k i else hq_gi s k' i := by
  show (if k' = j ∧ (0 ≤ i ∧ i < 0 + n) then s.1 k (0 + (i - 0)) else s.1 k' i) = _
  by_cases q : k' = j ∧ i < n
  · rw [if_pos q, if_pos (by omega), Nat.zero_add, Nat.sub_zero]; rfl
  · rw [if_neg q, if_neg (by omega)]; rfl
theorem hk_copyFrom {N a b : Nat} (hab : a + 8 < b ∨ b + 8 < a) (s : hq_S) : ∃ s', f_X5_copyFrom N a b s = some s' ∧ hk_X a b s s' := by
  have pj : ∀ (s : hq_S) (k b : Nat) (x : Int64), hq_pj s k b x = some (hq_sj s k b x) := fun _ _ _ _ => rfl
  have cj : ∀ (s : hq_S) (k j n k' i : Nat), hq_gj (hq_cpS s k j 0 0 n) k' i = hq_gj s k' i := fun _ _ _ _ _ _ => rfl
  have cr : ∀ (s : hq_S) (k j n k' i : Nat), hq_gr (hq_cpS s k j 0 0 n) k' i = hq_gr s k' i := fun _ _ _ _ _ _ => rfl
  refine ⟨hq_cpS (hq_cpS (hq_cpS (hq_cpS (hq_cpS (hq_cpS (hq_cpS (hq_cpS (hq_si (hq_sj (hq_si s a 0 (hq_gi s b 0)) a 1 (hq_gj s b 1)) a 2 (hq_gi s b 2)) (b + 1) (a + 1) 0 0 10) (b + 2) (a + 2) 0 0 3) (b + 3) (a + 3) 0 0 3) (b + 4) (a + 4) 0 0 3) (b + 5) (a + 5) 0 0 4) (b + 6) (a + 6) 0 0 4) (b + 7) (a + 7) 0 0 4) (b + 8) (a + 8) 0 0 4, ?_, fun c i h => ?_, fun c i h => ?_, fun c i => ?_, ?_, ?_, ?_, fun i hi => ?_, fun i hi => ⟨?_, ?_, ?_⟩, fun i hi => ⟨?_, ?_, ?_, ?_⟩⟩
  · unfold f_X5_copyFrom
    rw [nn_pi, Option.bind_some, pj, Option.bind_some, nn_pi, Option.bind_some, hk_cp.1, Option.bind_some, hk_cp.2.1, Option.bind_some, hk_cp.2.1, Option.bind_some, hk_cp.2.1, Option.bind_some, hk_cp.2.2, Option.bind_some, hk_cp.2.2, Option.bind_some, hk_cp.2.2, Option.bind_some, hk_cp.2.2, Option.bind_some]
    rw [nb_ij, nb_ji, nn_gk (show ¬ b = a by omega)]
  · rw [hk_cpi, if_neg (by omega), hk_cpi, if_neg (by omega), hk_cpi, if_neg (by omega), hk_cpi, if_neg (by omega), hk_cpi, if_neg (by omega), hk_cpi, if_neg (by omega), hk_cpi, if_neg (by omega), hk_cpi, if_neg (by omega), nb_ii, if_neg (by omega), nb_ji, nb_ii, if_neg (by omega)]
  · simp only [cj]
    rw [nb_ij, nb_jget h, nb_ij]
  · simp only [cr]
    rfl
  · rw [hk_cpi, if_neg (by omega), hk_cpi, if_neg (by omega), hk_cpi, if_neg (by omega), hk_cpi, if_neg (by omega), hk_cpi, if_neg (by omega), hk_cpi, if_neg (by omega), hk_cpi, if_neg (by omega), hk_cpi, if_neg (by omega), nb_ii, if_neg (by omega), nb_ji, nb_ii, if_pos ⟨rfl, rfl⟩]
  · rw [hk_cpi, if_neg (by omega), hk_cpi, if_neg (by omega), hk_cpi, if_neg (by omega), hk_cpi, if_neg (by omega), hk_cpi, if_neg (by omega), hk_cpi, if_neg (by omega), hk_cpi, if_neg (by omega), hk_cpi, if_neg (by omega), nb_ii, if_pos ⟨rfl, rfl⟩]
  · simp only [cj]
    rw [nb_ij, nb_jsame]
  · rw [hk_cpi, if_neg (by omega), hk_cpi, if_neg (by omega), hk_cpi, if_neg (by omega), hk_cpi, if_neg (by omega), hk_cpi, if_neg (by omega), hk_cpi, if_neg (by omega), hk_cpi, if_neg (by omega), hk_cpi, if_pos ⟨rfl, hi⟩, nb_ii, if_neg (by omega), nb_ji, nb_ii, if_neg (by omega)]
  · rw [hk_cpi, if_neg (by omega), hk_cpi, if_neg (by omega), hk_cpi, if_neg (by omega), hk_cpi, if_neg (by omega), hk_cpi, if_neg (by omega), hk_cpi, if_neg (by omega), hk_cpi, if_pos ⟨rfl, hi⟩, hk_cpi, if_neg (by omega), nb_ii, if_neg (by omega), nb_ji, nb_ii, if_neg (by omega)]
  · rw [hk_cpi, if_neg (by omega), hk_cpi, if_neg (by omega), hk_cpi, if_neg (by omega), hk_cpi, if_neg (by omega), hk_cpi, if_neg (by omega), hk_cpi, if_pos ⟨rfl, hi⟩, hk_cpi, if_neg (by omega), hk_cpi, if_neg (by omega), nb_ii, if_neg (by omega), nb_ji, nb_ii, if_neg (by omega)]
  · rw [hk_cpi, if_neg (by omega), hk_cpi, if_neg (by omega), hk_cpi, if_neg (by omega), hk_cpi, if_neg (by omega), hk_cpi, if_pos ⟨rfl, hi⟩, hk_cpi, if_neg (by omega), hk_cpi, if_neg (by omega), hk_cpi, if_neg (by omega), nb_ii, if_neg (by omega), nb_ji, nb_ii, if_neg (by omega)]
  · rw [hk_cpi, if_neg (by omega), hk_cpi, if_neg (by omega), hk_cpi, if_neg (by omega), hk_cpi, if_pos ⟨rfl, hi⟩, hk_cpi, if_neg (by omega), hk_cpi, if_neg (by omega), hk_cpi, if_neg (by omega), hk_cpi, if_neg (by omega), nb_ii, if_neg (by omega), nb_ji, nb_ii, if_neg (by omega)]
  · rw [hk_cpi, if_neg (by omega), hk_cpi, if_neg (by omega), hk_cpi, if_pos ⟨rfl, hi⟩, hk_cpi, if_neg (by omega), hk_cpi, if_neg (by omega), hk_cpi, if_neg (by omega), hk_cpi, if_neg (by omega), hk_cpi, if_neg (by omega), nb_ii, if_neg (by omega), nb_ji, nb_ii, if_neg (by omega)]
  · rw [hk_cpi, if_neg (by omega), hk_cpi, if_pos ⟨rfl, hi⟩, hk_cpi, if_neg (by omega), hk_cpi, if_neg (by omega), hk_cpi, if_neg (by omega), hk_cpi, if_neg (by omega), hk_cpi, if_neg (by omega), hk_cpi, if_neg (by omega), nb_ii, if_neg (by omega), nb_ji, nb_ii, if_neg (by omega)]
  · rw [hk_cpi, if_pos ⟨rfl, hi⟩, hk_cpi, if_neg (by omega), hk_cpi, if_neg (by omega), hk_cpi, if_neg (by omega), hk_cpi, if_neg (by omega), hk_cpi, if_neg (by omega), hk_cpi, if_neg (by omega), hk_cpi, if_neg (by omega), nb_ii, if_neg (by omega), nb_ji, nb_ii, if_neg (by omega)]
