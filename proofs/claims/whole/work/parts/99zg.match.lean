/-! MATCH: rows of thieves, one for each guard, as numbers of base five; the class -/
def mt_ev (nt ng : Nat) (fe : Nat → Bool) (L : Nat → Nat → Nat) (row : Nat) : Nat → Nat → Nat → Nat → Option (Nat × Nat)
  | 0, _, c, d => some (c, d)
  | r + 1, us, c, d => if row / 5 ^ r % 5 = 4 then mt_ev nt ng fe L row r us c d else if row / 5 ^ r % 5 < nt ∧ fe (row / 5 ^ r % 5) = true ∧ us.testBit (row / 5 ^ r % 5) = false then mt_ev nt ng fe L row r (us ||| 2 ^ (row / 5 ^ r % 5)) (c + 1) (d + L (ng - 1 - r) (row / 5 ^ r % 5)) else none
def mt_sc : Option (Nat × Nat) → Int32
  | none => -1
  | some (c, d) => Int32.ofNat (1000 * c + 999 - d)
/-- the first best of the first rows -/
def mt_b (f : Nat → Int32) (z : Nat) : Nat → Nat × Int32
  | 0 => (z, -1)
  | n + 1 => if (mt_b f z n).2 < f n then (n, f n) else mt_b f z n
theorem mt_p5 {n : Nat} (h : n ≤ 3) : 5 ^ n ≤ 125 := Nat.le_trans (Nat.pow_le_pow_right (by omega) h) (by decide)
theorem mt_b_lt {f : Nat → Int32} {z n : Nat} (hz : z < n) : ∀ k, k ≤ n → (mt_b f z k).1 < n := by
  intro k
  induction k with
  | zero => intro _; exact hz
  | succ k ih =>
    intro hk
    rw [mt_b]
    split
    · exact (show k < n by omega)
    · exact ih (by omega)
section
variable {N nc ng nt t : Nat} {fe : Nat → Bool} {gc tc : Nat → Nat} {fa : Nat → Nat → Nat} {sx : hq_S}
/-- what the class's match looks at -/
def mt_X (N nc ng nt t : Nat) (fe : Nat → Bool) (gc tc : Nat → Nat) (fa : Nat → Nat → Nat) (sx : hq_S) : Prop := (nc ≤ 10 ∧ ng ≤ 3 ∧ nt ≤ 4) ∧ (hq_gr sx 0 2 = t ∧ hq_isT t ∧ hq_gi sx t 7 = Int32.ofNat ng ∧ hq_gi sx t 11 = Int32.ofNat nt) ∧ (∀ i, i < nt → f_X5_isFree N 76 (Int32.ofNat i) sx = some (if fe i = true then 1 else 0, sx)) ∧ (∀ g, g < ng → gc g < nc ∧ hq_gi sx 78 g = Int32.ofNat (gc g)) ∧ (∀ i, i < nt → tc i < nc ∧ hq_gi sx 81 i = Int32.ofNat (tc i)) ∧ (∀ a b, a < nc → b < nc → hq_gi sx 105 (10 * a + b) = Int32.ofNat (fa a b)) ∧ ∀ a b, fa a b ≤ 99
theorem mt_row {row r : Nat} (hN : 100 < N) (X : mt_X N nc ng nt t fe gc tc fa sx) (hr : r < ng) (hw : row < 125) : f_X11_thiefInRow N (Int32.ofNat row) (Int32.ofNat (ng - 1 - r)) sx = some (Int32.ofNat (row / 5 ^ r % 5), sx) := by
  obtain ⟨⟨x1, x2, x3⟩, ⟨x4, x5, x6, x7⟩, -⟩ := X
  have p := mt_p5 (show r ≤ 3 by omega)
  have p0 : 0 < 5 ^ r := Nat.pow_pos (by omega)
  have sb : (Int32.ofNat ng - (1 : Int32)) - Int32.ofNat (ng - 1 - r) = Int32.ofNat r := by
    have h1 : Int32.ofNat ng - (1 : Int32) = Int32.ofNat (ng - 1) := nb_sub (b := 1) (by omega)
    rw [h1, nb_sub (by omega)]
    congr 1
    omega
  have pw : f_X11_power N (5 : Int64) (Int32.ofNat r) sx = some (Int64.ofNat (5 ^ r), sx) := nm_power (b := 5) hN (by omega)
  have n0 : ¬ Int32.ofNat (5 ^ r) = 0 := by rw [nb_eq0 (by omega)]; omega
  have dv := nb_div (show row < 2147483648 by omega) p0 (by omega)
  have hd : row / 5 ^ r ≤ row := Nat.div_le_self _ _
  have rm : hq_irem (Int32.ofNat (row / 5 ^ r)) (5 : Int32) = some (Int32.ofNat (row / 5 ^ r % 5)) := nb_rem (d := 5) (by omega) (by omega) (by omega)
  simp only [f_X11_thiefInRow, x4, if_pos x5, x6, sb, pw, Option.bind_some, nl_i, if_neg n0, dv, rm]
theorem mt_score {row : Nat} (hN : 100 < N) (X : mt_X N nc ng nt t fe gc tc fa sx) (hw : row < 125) : ∀ (r m us c d : Nat), r ≤ ng → r < m → us < 16 → c + r ≤ 3 → d + 99 * r ≤ 297 → f_X11_matchScore_L10 N m (Int32.ofNat row) (Int32.ofNat us) (Int32.ofNat c) (Int32.ofNat d) (Int32.ofNat (ng - r)) sx = some (mt_sc (mt_ev nt ng fe (fun g i => fa (gc g) (tc i)) row r us c d), sx) := by
  have X0 := X
  obtain ⟨⟨x1, x2, x3⟩, ⟨x4, x5, x6, x7⟩, x8, x9, x10, x11, x12⟩ := X
  intro r
  induction r with
  | zero =>
    intro m us c d _ hm hus hc hd
    obtain ⟨m, rfl⟩ : ∃ k, m = k + 1 := ⟨m - 1, by omega⟩
    have cc : ¬ Int32.ofNat ng < Int32.ofNat ng := by rw [nn_lt (by omega) (by omega)]; omega
    have e1 : Int32.ofNat c * (1000 : Int32) = Int32.ofNat (c * 1000) := nb_mul c 1000
    have e2 : Int32.ofNat (c * 1000) + (999 : Int32) = Int32.ofNat (c * 1000 + 999) := nb_add (c * 1000) 999
    have e3 : Int32.ofNat (c * 1000 + 999) - Int32.ofNat d = Int32.ofNat (c * 1000 + 999 - d) := nb_sub (by omega)
    simp only [f_X11_matchScore_L10_s, f_X11_matchScore_L10_B, Nat.sub_zero, x4, if_pos x5, x6, if_neg cc, e1, e2, e3, mt_ev, mt_sc, Nat.mul_comm]
  | succ r ih =>
    intro m us c d hr hm hus hc hd
    obtain ⟨m, rfl⟩ : ∃ k, m = k + 1 := ⟨m - 1, by omega⟩
    have eg : ng - (r + 1) = ng - 1 - r := by omega
    have eg2 : ng - 1 - r + 1 = ng - r := by omega
    have cc : Int32.ofNat (ng - 1 - r) < Int32.ofNat ng := (nn_lt (by omega) (by omega)).mpr (by omega)
    have tr := mt_row (row := row) hN X0 (show r < ng by omega) hw
    have h5 : row / 5 ^ r % 5 < 5 := Nat.mod_lt _ (by omega)
    rw [eg, mt_ev]
    generalize row / 5 ^ r % 5 = z at tr h5 ⊢
    have e4 : (Int32.ofNat z = (4 : Int32)) = (z = 4) := nb_eq (b := 4) (by omega) (by omega)
    have lt := nb_ltp (show z < 2147483648 by omega) (show nt < 2147483648 by omega)
    by_cases q4 : z = 4
    · rw [if_pos q4, ← ih m us c d (by omega) (by omega) hus (by omega) (by omega)]
      simp only [f_X11_matchScore_L10_s, f_X11_matchScore_L10_B, f_X11_matchScore_J118, x4, if_pos x5, x6, if_pos cc, tr, Option.bind_some, e4, if_pos q4, nn_succ, eg2]
    · rw [if_neg q4]
      by_cases q5 : z < nt
      · have hf := x8 z q5
        by_cases q6 : fe z = true
        · rw [if_pos q6] at hf
          have b1 := nb_bit1 (show us < 2147483648 by omega) (show z < 32 by omega)
          have d10 : ¬ (1 : Int32) = 0 := by decide
          by_cases q7 : us.testBit z = true
          · rw [if_neg (fun h => by rw [q7] at h; cases h.2.2)]
            simp only [f_X11_matchScore_L10_s, f_X11_matchScore_L10_B, x4, if_pos x5, x6, x7, if_pos cc, tr, Option.bind_some, e4, if_neg q4, lt, if_pos q5, hf, if_neg d10, b1, if_pos q7, mt_sc]
          · have l1 : hq_ld sx 78 3 (Int32.ofNat (ng - 1 - r)) = some (Int32.ofNat (gc (ng - 1 - r))) := by rw [nn_ld (by omega) (by omega), (x9 _ (by omega)).2]
            have l2 : hq_ld sx 81 4 (Int32.ofNat z) = some (Int32.ofNat (tc z)) := by rw [nn_ld (by omega) (by omega), (x10 z q5).2]
            have g1 := (x9 (ng - 1 - r) (by omega)).1
            have g2 := (x10 z q5).1
            have l3 : hq_ld sx 105 100 (Int32.ofNat (10 * gc (ng - 1 - r) + tc z)) = some (Int32.ofNat (fa (gc (ng - 1 - r)) (tc z))) := by rw [nn_ld (by omega) (by omega), x11 _ _ g1 g2]
            have hfa := x12 (gc (ng - 1 - r)) (tc z)
            have h2 : us ||| 2 ^ z < 16 := nb_lt_or (k := 4) hus (nb_2lt (k := 4) (by omega))
            rw [if_pos ⟨q5, q6, by cases h : us.testBit z with | true => exact absurd h q7 | false => rfl⟩, ← ih m (us ||| 2 ^ z) (c + 1) (d + fa (gc (ng - 1 - r)) (tc z)) (by omega) (by omega) h2 (by omega) (by omega)]
            simp only [f_X11_matchScore_L10_s, f_X11_matchScore_L10_B, f_X11_matchScore_J118, f_X8_lanesBetween, x4, if_pos x5, x6, x7, if_pos cc, tr, Option.bind_some, e4, if_neg q4, lt, if_pos q5, hf, if_neg d10, b1, if_neg q7, l1, l2, nb_10m, nb_add, Nat.reduceAdd, l3, nb_one (show z < 32 by omega), nb_or, nn_succ, eg2]
        · rw [if_neg q6] at hf
          rw [if_neg (fun h => q6 h.2.1)]
          simp only [f_X11_matchScore_L10_s, f_X11_matchScore_L10_B, x4, if_pos x5, x6, x7, if_pos cc, tr, Option.bind_some, e4, if_neg q4, lt, if_pos q5, hf, if_true, mt_sc]
      · rw [if_neg (fun h => q5 h.1)]
        simp only [f_X11_matchScore_L10_s, f_X11_matchScore_L10_B, x4, if_pos x5, x6, x7, if_pos cc, tr, Option.bind_some, e4, if_neg q4, lt, if_neg q5, mt_sc]
/-- a row's worth -/
def mt_f (ng nt : Nat) (fe : Nat → Bool) (gc tc : Nat → Nat) (fa : Nat → Nat → Nat) (row : Nat) : Int32 := mt_sc (mt_ev nt ng fe (fun g i => fa (gc g) (tc i)) row ng 0 0 0)
theorem mt_sco {row : Nat} (hN : 100 < N) (X : mt_X N nc ng nt t fe gc tc fa sx) (hw : row < 125) : f_X11_matchScore N (Int32.ofNat row) sx = some (mt_f ng nt fe gc tc fa row, sx) := by
  have hng := X.1.2.1
  have h := mt_score hN X hw ng N 0 0 0 (by omega) (by omega) (by omega) (by omega) (by omega)
  rw [Nat.sub_self] at h
  exact h
theorem mt_best (hN : 300 < N) (X : mt_X N nc ng nt t fe gc tc fa sx) : f_X11_bestMatch N sx = some (Int32.ofNat (mt_b (mt_f ng nt fe gc tc fa) (5 ^ ng - 1) (5 ^ ng)).1, sx) := by
  have hng := X.1.2.1
  have p := mt_p5 hng
  have p0 : 0 < 5 ^ ng := Nat.pow_pos (by omega)
  have key : ∀ (q j m : Nat), j + q = 5 ^ ng → q < m → f_X11_bestMatch_L24 N m (Int32.ofNat (5 ^ ng)) (Int32.ofNat (mt_b (mt_f ng nt fe gc tc fa) (5 ^ ng - 1) j).1) (mt_b (mt_f ng nt fe gc tc fa) (5 ^ ng - 1) j).2 (Int32.ofNat j) sx = some (Int32.ofNat (mt_b (mt_f ng nt fe gc tc fa) (5 ^ ng - 1) (5 ^ ng)).1, sx) := by
    intro q
    induction q with
    | zero =>
      intro j m hj hm
      obtain ⟨m, rfl⟩ : ∃ k, m = k + 1 := ⟨m - 1, by omega⟩
      have hj : j = 5 ^ ng := by omega
      rw [hj]
      have c : ¬ Int32.ofNat (5 ^ ng) < Int32.ofNat (5 ^ ng) := by rw [nn_lt (by omega) (by omega)]; omega
      simp only [f_X11_bestMatch_L24_s, f_X11_bestMatch_L24_B, if_neg c]
    | succ q ih =>
      intro j m hj hm
      obtain ⟨m, rfl⟩ : ∃ k, m = k + 1 := ⟨m - 1, by omega⟩
      have c : Int32.ofNat j < Int32.ofNat (5 ^ ng) := (nn_lt (by omega) (by omega)).mpr (by omega)
      have sc := mt_sco (row := j) (by omega) X (by omega)
      have h := ih (j + 1) m (by omega) (by omega)
      rw [← h, mt_b]
      by_cases q1 : (mt_b (mt_f ng nt fe gc tc fa) (5 ^ ng - 1) j).2 < mt_f ng nt fe gc tc fa j
      · simp only [f_X11_bestMatch_L24_s, f_X11_bestMatch_L24_B, if_pos c, sc, Option.bind_some, if_pos q1, nn_succ]
      · simp only [f_X11_bestMatch_L24_s, f_X11_bestMatch_L24_B, if_pos c, sc, Option.bind_some, if_neg q1, nn_succ]
  have pw : f_X11_power N (5 : Int64) (Int32.ofNat ng) sx = some (Int64.ofNat (5 ^ ng), sx) := nm_power (b := 5) (by omega) (by omega)
  have sb : Int32.ofNat (5 ^ ng) - (1 : Int32) = Int32.ofNat (5 ^ ng - 1) := nb_sub (b := 1) (by omega)
  have h := key (5 ^ ng) 0 N (by omega) (by omega)
  simp only [f_X11_bestMatch, X.2.1.1, if_pos X.2.1.2.1, X.2.1.2.2.1, pw, Option.bind_some, nl_i, sb]
  exact h
end
