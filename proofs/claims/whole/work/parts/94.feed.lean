/-! FEED -/
def hr_byte (a sh : Int32) : Int32 := hq_nar .byte (a >>> (sh &&& 31)).toInt8.toInt32
/-- an int that is a byte -/
def hr_isb (x : Int32) : Prop := x.toInt8.toInt32 = x
theorem hr_isb_byte (a sh : Int32) : hr_isb (hr_byte a sh) := by
  show (((a >>> (sh &&& 31)).toInt8.toInt32).toInt8.toInt32).toInt8.toInt32 = ((a >>> (sh &&& 31)).toInt8.toInt32).toInt8.toInt32
  simp
def hr_tape (sx sm : hq_S) : Prop := ∃ p : Nat, p ≤ 700 ∧ hq_gi sx 0 1 = Int32.ofNat p ∧ hq_gi sm 174 2 = Int32.ofNat p ∧ ∀ i, i < p → hq_gi sm 175 i = hq_gi sx 1 i &&& 255 ∧ hr_isb (hq_gi sx 1 i)
theorem hr_pf_step {n m p : Nat} {a sh : Int32} {s : hq_S} (hp : p < 700) (h : hq_gi s 0 1 = Int32.ofNat p) (hsh : ¬ sh < 0) : f_X11_putFour_L3 n (m + 1) a sh s = f_X11_putFour_L3 n m a (sh + Int32.ofInt (-8)) (hq_si (hq_si s 1 p (hr_byte a sh)) 0 1 (Int32.ofNat (p + 1))) := by
  show f_X11_putFour_L3_B n (f_X11_putFour_L3 n m) a sh s = _
  unfold f_X11_putFour_L3_B
  rw [if_neg hsh, h, if_pos (show Int32.ofNat p < 700 from (nn_lt (by omega) (by omega : 700 < 2147483648)).mpr hp), nn_st hp (by omega)]
  simp only [Option.bind_some]
  rw [nn_pi]
  simp only [Option.bind_some]
  rw [nn_gk (by omega), h, nn_succ]
  rfl
theorem hr_pf {n p : Nat} {a : Int32} {s : hq_S} (hn : 5 ≤ n) (hp : p + 4 ≤ 700) (h : hq_gi s 0 1 = Int32.ofNat p) : ∃ s', f_X11_putFour n a s = some s' ∧ hq_gi s' 0 1 = Int32.ofNat (p + 4) ∧ hq_gi s' 1 p = hr_byte a 24 ∧ hq_gi s' 1 (p + 1) = hr_byte a 16 ∧ hq_gi s' 1 (p + 2) = hr_byte a 8 ∧ hq_gi s' 1 (p + 3) = hr_byte a 0 ∧ ∀ i, (i < p ∨ p + 4 ≤ i) → hq_gi s' 1 i = hq_gi s 1 i := by
  obtain ⟨m, rfl⟩ : ∃ m, n = m + 1 + 1 + 1 + 1 + 1 := ⟨n - 5, by omega⟩
  unfold f_X11_putFour
  rw [hr_pf_step (p := p) (by omega) h (by decide), hr_pf_step (p := p + 1) (by omega) nn_g1 (by decide), hr_pf_step (p := p + 2) (by omega) nn_g1 (by decide), hr_pf_step (p := p + 3) (by omega) nn_g1 (by decide)]
  refine ⟨_, rfl, nn_g1, ?_, ?_, ?_, ?_, fun i hi => ?_⟩
  · simp [hq_gi, hq_si]
  · simp [hq_gi, hq_si]
  · simp [hq_gi, hq_si]
  · simp [hq_gi, hq_si]
  · have e0 : ¬ i = p := by omega
    have e1 : ¬ i = p + 1 := by omega
    have e2 : ¬ i = p + 2 := by omega
    have e3 : ¬ i = p + 3 := by omega
    simp [hq_gi, hq_si, e0, e1, e2, e3]
theorem hr_feedX {n p : Nat} {a1 a2 a3 a4 a5 : Int32} {s : hq_S} (hn : 5 ≤ n) (hp : p + 20 ≤ 700) (h : hq_gi s 0 1 = Int32.ofNat p) : ∃ s', f_X11_feed n a1 a2 a3 a4 a5 s = some (Int32.ofNat (p + 20), s') ∧ hq_gi s' 0 1 = Int32.ofNat (p + 20) ∧ (∀ i, i < 20 → hq_gi s' 1 (p + i) = hr_byte (if i < 4 then a1 else if i < 8 then a2 else if i < 12 then a3 else if i < 16 then a4 else a5) (Int32.ofNat (24 - 8 * (i % 4)))) ∧ ∀ i, (i < p ∨ p + 20 ≤ i) → hq_gi s' 1 i = hq_gi s 1 i := by
  obtain ⟨s1, f1, g1, b10, b11, b12, b13, k1⟩ := hr_pf (n := n) (a := a1) hn (by omega) h
  obtain ⟨s2, f2, g2, b20, b21, b22, b23, k2⟩ := hr_pf (n := n) (a := a2) hn (by omega) g1
  obtain ⟨s3, f3, g3, b30, b31, b32, b33, k3⟩ := hr_pf (n := n) (a := a3) hn (by omega) g2
  obtain ⟨s4, f4, g4, b40, b41, b42, b43, k4⟩ := hr_pf (n := n) (a := a4) hn (by omega) g3
  obtain ⟨s5, f5, g5, b50, b51, b52, b53, k5⟩ := hr_pf (n := n) (a := a5) hn (by omega) g4
  refine ⟨s5, ?_, g5, fun i hi => ?_, fun i hi => ?_⟩
  · unfold f_X11_feed
    rw [if_neg (show ¬ (700 : Int32) < hq_gi s 0 1 + 20 from by
      rw [h, show Int32.ofNat p + 20 = Int32.ofNat (p + 20) from (Int32.ofNat_add p 20).symm, show (700 : Int32) = Int32.ofNat 700 from rfl, nn_lt (by omega) (by omega)]
      omega), f1]
    simp only [Option.bind_some]
    rw [f2]
    simp only [Option.bind_some]
    rw [f3]
    simp only [Option.bind_some]
    rw [f4]
    simp only [Option.bind_some]
    rw [f5]
    simp only [Option.bind_some]
    rw [g5]
  · match i, hi with
    | 0, _ => rw [k5 _ (by omega), k4 _ (by omega), k3 _ (by omega), k2 _ (by omega)]; exact b10
    | 1, _ => rw [k5 _ (by omega), k4 _ (by omega), k3 _ (by omega), k2 _ (by omega)]; exact b11
    | 2, _ => rw [k5 _ (by omega), k4 _ (by omega), k3 _ (by omega), k2 _ (by omega)]; exact b12
    | 3, _ => rw [k5 _ (by omega), k4 _ (by omega), k3 _ (by omega), k2 _ (by omega)]; exact b13
    | 4, _ => rw [k5 _ (by omega), k4 _ (by omega), k3 _ (by omega)]; exact b20
    | 5, _ => rw [k5 _ (by omega), k4 _ (by omega), k3 _ (by omega)]; exact b21
    | 6, _ => rw [k5 _ (by omega), k4 _ (by omega), k3 _ (by omega)]; exact b22
    | 7, _ => rw [k5 _ (by omega), k4 _ (by omega), k3 _ (by omega)]; exact b23
    | 8, _ => rw [k5 _ (by omega), k4 _ (by omega)]; exact b30
    | 9, _ => rw [k5 _ (by omega), k4 _ (by omega)]; exact b31
    | 10, _ => rw [k5 _ (by omega), k4 _ (by omega)]; exact b32
    | 11, _ => rw [k5 _ (by omega), k4 _ (by omega)]; exact b33
    | 12, _ => rw [k5 _ (by omega)]; exact b40
    | 13, _ => rw [k5 _ (by omega)]; exact b41
    | 14, _ => rw [k5 _ (by omega)]; exact b42
    | 15, _ => rw [k5 _ (by omega)]; exact b43
    | 16, _ => exact b50
    | 17, _ => exact b51
    | 18, _ => exact b52
    | 19, _ => exact b53
    | i + 20, hi => omega
  · rw [k5 _ (by omega), k4 _ (by omega), k3 _ (by omega), k2 _ (by omega), k1 _ (by omega)]
theorem hr_rem4 {j : Nat} (h : j < 20) : hq_irem (Int32.ofNat j) 4 = some (Int32.ofNat (j % 4)) := by
  have : ∀ j, j < 20 → hq_irem (Int32.ofNat j) 4 = some (Int32.ofNat (j % 4)) := by decide
  exact this j h
def hr_arg (a1 a2 a3 a4 a5 : Int32) (i : Nat) : Int32 := if i < 4 then a1 else if i < 8 then a2 else if i < 12 then a3 else if i < 16 then a4 else a5
theorem hr_feedM_loop {n q : Nat} {a1 a2 a3 a4 a5 : Int32} (hq : q + 20 ≤ 700) : ∀ (r j m : Nat) (s : hq_S), j + r = 20 → r < m → hq_gi s 174 2 = Int32.ofNat q → ∃ s', f_X12_feed_L20 n m a1 a2 a3 a4 a5 (Int32.ofNat j) s = some (Int32.ofNat (q + 20), s') ∧ hq_gi s' 174 2 = Int32.ofNat (q + 20) ∧ (∀ i, j ≤ i → i < 20 → hq_gi s' 175 (q + i) = (hr_arg a1 a2 a3 a4 a5 i >>> ((24 - 8 * Int32.ofNat (i % 4)) &&& 31)) &&& 255) ∧ ∀ i, (i < q + j ∨ q + 20 ≤ i) → hq_gi s' 175 i = hq_gi s 175 i := by
  intro r
  induction r with
  | zero =>
    intro j m s hj hm hs
    obtain ⟨m, rfl⟩ : ∃ k, m = k + 1 := ⟨m - 1, by omega⟩
    have hj : j = 20 := by omega
    subst hj
    refine ⟨hq_si s 174 2 (Int32.ofNat (q + 20)), ?_, nn_g1, fun i i1 i2 => by omega, fun i hi => nn_gk (by omega)⟩
    show f_X12_feed_L20_B n (f_X12_feed_L20 n m) a1 a2 a3 a4 a5 (Int32.ofNat 20) s = _
    unfold f_X12_feed_L20_B
    rw [if_neg (show ¬ Int32.ofNat 20 < 20 by decide), nn_pi]
    simp only [Option.bind_some]
    rw [hs, show Int32.ofNat q + 20 = Int32.ofNat (q + 20) from (Int32.ofNat_add q 20).symm, nn_g1]
  | succ r ih =>
    intro j m s hj hm hs
    obtain ⟨m, rfl⟩ : ∃ k, m = k + 1 := ⟨m - 1, by omega⟩
    obtain ⟨s', h1, h2, h3, h4⟩ := ih (j + 1) m (hq_si s 175 (q + j) ((hr_arg a1 a2 a3 a4 a5 j >>> ((24 - 8 * Int32.ofNat (j % 4)) &&& 31)) &&& 255)) (by omega) (by omega) ((nn_gk (by omega)).trans hs)
    refine ⟨s', ?_, h2, fun i i1 i2 => ?_, fun i hi => ?_⟩
    · rw [← h1]
      show f_X12_feed_L20_B n (f_X12_feed_L20 n m) a1 a2 a3 a4 a5 (Int32.ofNat j) s = _
      unfold f_X12_feed_L20_B
      have c : ∀ b : Nat, b < 100 → (Int32.ofNat j < Int32.ofNat b ↔ j < b) := fun b hb => nn_lt (by omega) (by omega)
      rw [if_pos (show Int32.ofNat j < 20 from (c 20 (by omega)).mpr (by omega))]
      have e : (if Int32.ofNat j < 4 then some a1 else if Int32.ofNat j < 8 then some a2 else if Int32.ofNat j < 12 then some a3 else if Int32.ofNat j < 16 then some a4 else some a5) = some (hr_arg a1 a2 a3 a4 a5 j) := by
        unfold hr_arg
        have c4 : Int32.ofNat j < 4 ↔ j < 4 := c 4 (by omega)
        have c8 : Int32.ofNat j < 8 ↔ j < 8 := c 8 (by omega)
        have c12 : Int32.ofNat j < 12 ↔ j < 12 := c 12 (by omega)
        have c16 : Int32.ofNat j < 16 ↔ j < 16 := c 16 (by omega)
        simp only [c4, c8, c12, c16]
        by_cases q1 : j < 4
        · simp [q1]
        · by_cases q2 : j < 8
          · simp [q1, q2]
          · by_cases q3 : j < 12
            · simp [q1, q2, q3]
            · by_cases q4 : j < 16
              · simp [q1, q2, q3, q4]
              · simp [q1, q2, q3, q4]
      rw [e]
      simp only [Option.bind_some]
      rw [hr_rem4 (by omega)]
      simp only [Option.bind_some]
      rw [hs, ← Int32.ofNat_add, nn_st (by omega) (by omega)]
      simp only [Option.bind_some]
      rw [nn_succ]
    · by_cases hij : i = j
      · subst hij
        rw [h4 _ (by omega), nn_g1]
      · exact h3 i (by omega) i2
    · rw [h4 i (by omega), nn_gn (by omega)]
theorem hr_b255 (x : Int32) : x.toInt8.toInt32.toInt8.toInt32 &&& 255 = x &&& 255 := by
  apply Int32.toBitVec_inj.mp
  apply BitVec.eq_of_getLsbD_eq
  intro i hi
  have h255 : (255 : Int32).toBitVec = 255#32 := rfl
  simp only [Int32.toBitVec_and, BitVec.getLsbD_and, h255]
  by_cases h8 : i < 8
  · congr 1
    simp [BitVec.getLsbD_signExtend, BitVec.getLsbD_setWidth, BitVec.getElem_signExtend, h8, hi]
  · have : (255#32).getLsbD i = false := by
      simp only [BitVec.getLsbD_ofNat]
      have : Nat.testBit 255 i = false := Nat.testBit_lt_two_pow (Nat.lt_of_lt_of_le (by decide : 255 < 2 ^ 8) (Nat.pow_le_pow_right (by decide) (by omega)))
      simp [this]
    rw [this, Bool.and_false, Bool.and_false]
theorem hr_byte255 (a sh : Int32) : hr_byte a sh &&& 255 = (a >>> (sh &&& 31)) &&& 255 := hr_b255 _
theorem hr_sh {i : Nat} : Int32.ofNat (24 - 8 * (i % 4)) = 24 - 8 * Int32.ofNat (i % 4) := by
  have : ∀ r, r < 4 → Int32.ofNat (24 - 8 * r) = 24 - 8 * Int32.ofNat r := by decide
  exact this _ (Nat.mod_lt _ (by decide))
/-- feed, both, on tapes alike -/
theorem hr_feed {N : Nat} (hN : 30 ≤ N) {sx sm : hq_S} (h : hr_tape sx sm) (a1 a2 a3 a4 a5 : Int32) : ∃ v sx' sm', f_X11_feed N a1 a2 a3 a4 a5 sx = some (v, sx') ∧ f_X12_feed N a1 a2 a3 a4 a5 sm = some (v, sm') ∧ hr_tape sx' sm' := by
  obtain ⟨p, hp, h1, h2, h3⟩ := h
  by_cases c : p + 20 ≤ 700
  · obtain ⟨sx', x1, x2, x3, x4⟩ := hr_feedX (n := N) (a1 := a1) (a2 := a2) (a3 := a3) (a4 := a4) (a5 := a5) (by omega) c h1
    obtain ⟨sm', m1, m2, m3, m4⟩ := hr_feedM_loop (n := N) (a1 := a1) (a2 := a2) (a3 := a3) (a4 := a4) (a5 := a5) c 20 0 N (hq_si sm 174 0 0) (by omega) (by omega) ((nn_gn (by omega)).trans h2)
    refine ⟨Int32.ofNat (p + 20), sx', sm', x1, ?_, p + 20, c, x2, m2, fun i hi => ?_⟩
    · unfold f_X12_feed
      rw [nn_pi]
      simp only [Option.bind_some]
      rw [nn_gn (by omega), h2, if_neg (show ¬ (680 : Int32) < Int32.ofNat p from by
        rw [show (680 : Int32) = Int32.ofNat 680 from rfl, nn_lt (by omega) (by omega)]
        omega)]
      exact m1
    · by_cases hip : i < p
      · rw [m4 i (by omega), x4 i (by omega), nn_gk (by omega)]
        exact h3 i hip
      · obtain ⟨j, rfl⟩ : ∃ j, i = p + j := ⟨i - p, by omega⟩
        refine ⟨?_, by rw [x3 j (by omega)]; exact hr_isb_byte _ _⟩
        rw [m3 j (by omega) (by omega), x3 j (by omega), hr_byte255, hr_sh]
        rfl
  · refine ⟨-1, sx, hq_si sm 174 0 0, ?_, ?_, p, hp, h1, (nn_gn (by omega)).trans h2, fun i hi => ?_⟩
    · unfold f_X11_feed
      rw [h1, if_pos]
      rw [show Int32.ofNat p + 20 = Int32.ofNat (p + 20) from (Int32.ofNat_add p 20).symm, show (700 : Int32) = Int32.ofNat 700 from rfl, nn_lt (by omega) (by omega)]
      omega
    · unfold f_X12_feed
      rw [nn_pi]
      simp only [Option.bind_some]
      rw [nn_gn (by omega), h2, if_pos]
      rw [show (680 : Int32) = Int32.ofNat 680 from rfl, nn_lt (by omega) (by omega)]
      omega
    · rw [nn_gk (by omega)]
      exact h3 i hi
