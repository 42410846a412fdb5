/-! SIGNS OF A LAW: both work alike -/
def lb_ok (x : Int64) : Prop := -1000000000000 ≤ x.toInt ∧ x.toInt ≤ 1000000000000
theorem lb_L : (1000000000000 : Int64).toInt = 1000000000000 := by decide
theorem lb_mL : (-1000000000000 : Int64).toInt = -1000000000000 := by decide
theorem lb_iff (x : Int64) : lb_ok x ↔ ¬ (1000000000000 : Int64) < x ∧ ¬ x < (-1000000000000 : Int64) := by
  unfold lb_ok
  rw [Int64.lt_iff_toInt_lt, Int64.lt_iff_toInt_lt, lb_L, lb_mL]
  omega
theorem lb_err {x : Int64} (h : lb_ok x) : ¬ x = (-9223372036854775808 : Int64) := by
  intro q
  rw [q] at h
  have := h.1
  rw [show (-9223372036854775808 : Int64).toInt = -9223372036854775808 from by decide] at this
  omega
theorem lb_0 : lb_ok 0 := by unfold lb_ok; decide
theorem lb_1 : lb_ok 1 := by unfold lb_ok; decide
theorem lb_i (x : Int32) : lb_ok x.toInt64 := by
  unfold lb_ok
  rw [Int32.toInt_toInt64]
  have a := x.le_toInt
  have b := x.toInt_lt
  omega
theorem lb_zero {x : Int64} : x = 0 ↔ x.toInt = 0 := by rw [← Int64.toInt_inj]; rfl
theorem lb_neg {x : Int64} (h : lb_ok x) : (-x).toInt = -x.toInt := by
  rw [Int64.toInt_neg]
  obtain ⟨h1, h2⟩ := h
  rw [Int.bmod_eq_of_le] <;> omega
theorem lb_absx {x : Int64} (h : lb_ok x) : (if x < 0 then -x else x).toInt = x.toInt.natAbs := by
  have h0 : (0 : Int64).toInt = 0 := rfl
  by_cases q : x < 0
  · rw [if_pos q, lb_neg h]
    rw [Int64.lt_iff_toInt_lt, h0] at q
    omega
  · rw [if_neg q]
    rw [Int64.lt_iff_toInt_lt, h0] at q
    omega
theorem lb_absm {x : Int64} (h : lb_ok x) : (hq_absj x).toInt = x.toInt.natAbs := by
  have h0 : (0 : Int64).toInt = 0 := rfl
  unfold hq_absj
  by_cases q : 0 < x
  · rw [if_pos q]
    rw [Int64.lt_iff_toInt_lt, h0] at q
    omega
  · rw [if_neg q, lb_neg h]
    rw [Int64.lt_iff_toInt_lt, h0] at q
    omega
/-- a product is beyond, as the class and as the reference try it -/
theorem lb_mul {x y p q : Int64} (hx : lb_ok x) (hy : lb_ok y) (x0 : ¬ x = 0) (y0 : ¬ y = 0) (hp : p.toInt = (y.toInt.natAbs : Int)) (hq : q.toInt = (x.toInt.natAbs : Int)) : ((1000000000000 : Int64) / p < q ↔ (1000000000000 : Int64) / q < p) ∧ (¬ (1000000000000 : Int64) / p < q → lb_ok (x * y)) := by
  rw [lb_zero] at x0 y0
  have p0 : 0 < p.toInt := by omega
  have q0 : 0 < q.toInt := by omega
  have z : 0 ≤ (1000000000000 : Int64).toInt := by rw [lb_L]; omega
  rw [Int64.lt_iff_toInt_lt, Int64.lt_iff_toInt_lt, lg_ldiv_nonneg z p0, lg_ldiv_nonneg z q0, hp, hq, lb_L]
  generalize hX : x.toInt.natAbs = X
  generalize hY : y.toInt.natAbs = Y
  have hX0 : 0 < X := by omega
  have hY0 : 0 < Y := by omega
  have e1 : ((1000000000000 : Int) / (Y : Int) < (X : Int)) ↔ 1000000000000 < X * Y := by
    rw [show (1000000000000 : Int) = ((1000000000000 : Nat) : Int) from rfl, ← Int.natCast_ediv, Int.ofNat_lt, Nat.div_lt_iff_lt_mul hY0]
  have e2 : ((1000000000000 : Int) / (X : Int) < (Y : Int)) ↔ 1000000000000 < X * Y := by
    rw [show (1000000000000 : Int) = ((1000000000000 : Nat) : Int) from rfl, ← Int.natCast_ediv, Int.ofNat_lt, Nat.div_lt_iff_lt_mul hX0, Nat.mul_comm]
  refine ⟨e1.trans e2.symm, fun h => ?_⟩
  rw [e1] at h
  have e3 : (x.toInt * y.toInt).natAbs = X * Y := by rw [Int.natAbs_mul, hX, hY]
  unfold lb_ok
  have e4 : (x * y).toInt = x.toInt * y.toInt := by
    rw [Int64.toInt_mul, Int.bmod_eq_of_le] <;> omega
  rw [e4]
  omega
theorem lb_div {x y : Int64} (hx : lb_ok x) : lb_ok (x / y) := by
  have e : (x / y).toInt = x.toInt.tdiv y.toInt := Int64.toInt_div_of_ne_left x y (fun q => lb_err hx (by rw [q]))
  have := Int.natAbs_tdiv_le_natAbs x.toInt y.toInt
  obtain ⟨h1, h2⟩ := hx
  unfold lb_ok
  rw [e]
  omega
section
variable {N d : Nat} {sm : hq_S} {x y : Int64}
theorem hj_407 {b : Int32} {j2 j4 j6 : Int64} (hd : d < 64) : f_X12_works_J407 N b j2 j4 j6 (hq_si sm 174 36 (Int32.ofNat (d + 1))) = if ¬ (1000000000000 : Int64) < j6 ∧ ¬ j6 < (-1000000000000 : Int64) then some (1, hq_sj (hq_si sm 174 36 (Int32.ofNat (d + 1))) 195 d j6) else some (0, hq_sj (hq_si sm 174 36 (Int32.ofNat (d + 1))) 195 d j6) := by
  have e1 : hq_gi (hq_si sm 174 36 (Int32.ofNat (d + 1))) 174 36 = Int32.ofNat (d + 1) := nn_g1
  unfold f_X12_works_J407
  rw [e1, nn_pred, nb_stj hd (by omega)]
  simp only [Option.bind_some, lg_cmp_gt, lg_cmp_lt]
  by_cases q1 : (1000000000000 : Int64) < j6
  · rw [if_pos q1, if_neg (fun h => h.1 q1)]
  · rw [if_neg q1]
    by_cases q2 : j6 < (-1000000000000 : Int64)
    · rw [if_pos q2, if_neg (fun h => h.2 q2)]
    · rw [if_neg q2, if_pos ⟨q1, q2⟩]
theorem hj_ok {b : Int32} {j2 j4 j6 : Int64} (hd : d < 64) (h : lb_ok j6) : f_X12_works_J407 N b j2 j4 j6 (hq_si sm 174 36 (Int32.ofNat (d + 1))) = some (1, hq_sj (hq_si sm 174 36 (Int32.ofNat (d + 1))) 195 d j6) := by
  rw [hj_407 hd, if_pos ((lb_iff j6).mp h)]
theorem hj_no {b : Int32} {j2 j4 j6 : Int64} (hd : d < 64) (h : ¬ lb_ok j6) : f_X12_works_J407 N b j2 j4 j6 (hq_si sm 174 36 (Int32.ofNat (d + 1))) = some (0, hq_sj (hq_si sm 174 36 (Int32.ofNat (d + 1))) 195 d j6) := by
  rw [hj_407 hd, if_neg fun q => h ((lb_iff j6).mpr q)]
theorem hj_e {z : Int64} : hm_e sm (hq_sj (hq_si sm 174 36 (Int32.ofNat (d + 1))) 195 d z) := fun k i h => by
  rw [nb_ji, nb_ii, if_neg h]
theorem hj_e0 : hm_e sm (hq_si sm 174 36 (Int32.ofNat (d + 1))) := fun k i h => by rw [nb_ii, if_neg h]
/-- a sign with two sides: the class's number g, the reference's b -/
def hj_sg (g b : Int32) : Prop := (g = 19 ∧ b = 261) ∨ (g = 20 ∧ b = 262) ∨ (g = 42 ∧ b = 42) ∨ (g = 43 ∧ b = 43) ∨ (g = 45 ∧ b = 45) ∨ (g = 47 ∧ b = 47) ∨ (g = 60 ∧ b = 60) ∨ (g = 61 ∧ b = 61) ∨ (g = 62 ∧ b = 62) ∨ (g = 256 ∧ b = 256) ∨ (g = 257 ∧ b = 257) ∨ (g = 258 ∧ b = 258)
theorem hj_join {g b : Int32} {s : hq_S} (hs : hj_sg g b) (hd : d + 1 < 64) (hw : hq_gi sm 174 36 = Int32.ofNat (d + 2)) (h1 : hq_gj sm 195 d = x) (h2 : hq_gj sm 195 (d + 1) = y) (hx : lb_ok x) (hy : lb_ok y) : ∃ v, f_X4_joined N g x y s = some (v, s) ∧ ((v = (-9223372036854775808 : Int64) ∧ ∃ sm', f_X12_works N b sm = some (0, sm') ∧ hm_e sm sm') ∨ (lb_ok v ∧ f_X12_works N b sm = some (1, hq_sj (hq_si sm 174 36 (Int32.ofNat (d + 1))) 195 d v))) := by
  have l1 : hq_ldj sm 195 64 (hq_gi sm 174 36 - (1 : Int32)) = some y := by rw [hw, nn_pred, nb_ldj (by omega) (by omega), h2]
  have l2 : hq_ldj sm 195 64 (hq_gi sm 174 36 - (2 : Int32)) = some x := by
    rw [hw, nb_lit 2, nb_sub (by omega), show d + 2 - 2 = d from rfl, nb_ldj (by omega) (by omega), h1]
  have s4 : hq_pi sm 174 36 0 (hq_gi sm 174 36 - (1 : Int32)) = some (hq_si sm 174 36 (Int32.ofNat (d + 1))) := by rw [hw, nn_pred, nn_pi]
  have hd' : d < 64 := by omega
  have b1 : ∀ z : Int64, (if z = 0 then some ((0 : Int64)) else some 1) = some (if z = 0 then 0 else 1) := fun z => by split <;> rfl
  rcases hs with ⟨rfl, rfl⟩ | ⟨rfl, rfl⟩ | ⟨rfl, rfl⟩ | ⟨rfl, rfl⟩ | ⟨rfl, rfl⟩ | ⟨rfl, rfl⟩ | ⟨rfl, rfl⟩ | ⟨rfl, rfl⟩ | ⟨rfl, rfl⟩ | ⟨rfl, rfl⟩ | ⟨rfl, rfl⟩ | ⟨rfl, rfl⟩
  · by_cases q1 : x = 0
    · exact ⟨0, by simp [f_X4_joined, lg_cmp_eq, q1], Or.inr ⟨lb_0, by simp [-Int32.ofNat_add, f_X12_works, f_X12_is, l1, l2, s4, lg_cmp_eq, q1, hj_ok hd' lb_0]⟩⟩
    · by_cases q2 : y = 0
      · exact ⟨0, by simp [f_X4_joined, lg_cmp_eq, q1, q2], Or.inr ⟨lb_0, by simp [-Int32.ofNat_add, f_X12_works, f_X12_is, l1, l2, s4, lg_cmp_eq, q1, q2, hj_ok hd' lb_0]⟩⟩
      · exact ⟨1, by simp [f_X4_joined, lg_cmp_eq, q1, q2], Or.inr ⟨lb_1, by simp [-Int32.ofNat_add, f_X12_works, f_X12_is, l1, l2, s4, lg_cmp_eq, q1, q2, hj_ok hd' lb_1]⟩⟩
  · by_cases q1 : x = 0
    · by_cases q2 : y = 0
      · exact ⟨0, by simp [f_X4_joined, lg_cmp_eq, q1, q2], Or.inr ⟨lb_0, by simp [-Int32.ofNat_add, f_X12_works, f_X12_is, l1, l2, s4, lg_cmp_eq, q1, q2, hj_ok hd' lb_0]⟩⟩
      · exact ⟨1, by simp [f_X4_joined, f_X4_joined_J332, lg_cmp_eq, q1, q2], Or.inr ⟨lb_1, by simp [-Int32.ofNat_add, f_X12_works, f_X12_is, l1, l2, s4, lg_cmp_eq, q1, q2, hj_ok hd' lb_1]⟩⟩
    · exact ⟨1, by simp [f_X4_joined, f_X4_joined_J332, lg_cmp_eq, q1], Or.inr ⟨lb_1, by simp [-Int32.ofNat_add, f_X12_works, f_X12_is, l1, l2, s4, lg_cmp_eq, q1, hj_ok hd' lb_1]⟩⟩
  · by_cases q2 : y = 0
    · have e : x * y = 0 := by rw [q2, Int64.mul_zero]
      refine ⟨0, by simp [f_X4_joined, f_X4_joined_J210, lg_cmp_eq, q2], Or.inr ⟨lb_0, ?_⟩⟩
      by_cases q1 : x = 0
      · simp [-Int32.ofNat_add, f_X12_works, f_X12_works_J212, l1, l2, s4, lg_cmp_eq, q1, hj_ok hd' lb_0]
      · have h0 : ¬ (1000000000000 : Int64) / hq_absj x < hq_absj y := by
          have xz := q1
          rw [lb_zero] at xz
          have ax := lb_absm hx
          have ay := lb_absm hy
          rw [Int64.lt_iff_toInt_lt, lg_ldiv_nonneg (by rw [lb_L]; omega) (by omega), ay, q2, lb_L]
          have := Int.ediv_nonneg (a := 1000000000000) (b := (hq_absj x).toInt) (by omega) (by omega)
          show ¬ _ < ((0 : Int64).toInt.natAbs : Int)
          rw [show ((0 : Int64).toInt.natAbs : Int) = 0 from rfl]
          omega
        have ax0 : ¬ hq_absj x = 0 := by
          have xz := q1
          rw [lb_zero] at xz ⊢
          rw [lb_absm hx]
          omega
        have hdv : hq_ldiv 1000000000000 (hq_absj x) = some (1000000000000 / hq_absj x) := by
          unfold hq_ldiv
          rw [decide_eq_false ax0]
          rfl
        have h0' : ¬ (1000000000000 : Int64) / hq_absj x < hq_absj 0 := by rw [← q2]; exact h0
        simp [-Int32.ofNat_add, f_X12_works, f_X12_works_J212, l1, l2, s4, lg_cmp_eq, lg_cmp_gt, q1, q2, hdv, h0', hj_ok hd' lb_0]
    · have ay : (if y < 0 then -y else y).toInt = (y.toInt.natAbs : Int) := lb_absx hy
      have hdy : hq_ldiv 1000000000000 (if y < 0 then -y else y) = some (1000000000000 / (if y < 0 then -y else y)) := by
        unfold hq_ldiv
        rw [decide_eq_false (fun q => q2 (lb_zero.mpr (by rw [lb_zero, ay] at q; omega)))]
        rfl
      have iy : (if y < 0 then some (-y) else some y) = some (if y < 0 then -y else y) := by split <;> rfl
      have ix : (if x < 0 then some (-x) else some x) = some (if x < 0 then -x else x) := by split <;> rfl
      by_cases q1 : x = 0
      · have e : x * y = 0 := by rw [q1, Int64.zero_mul]
        have h0 : ¬ (1000000000000 : Int64) / (if y < 0 then -y else y) < (if x < 0 then -x else x) := by
          have yz := q2
          rw [lb_zero] at yz
          rw [Int64.lt_iff_toInt_lt, lg_ldiv_nonneg (by rw [lb_L]; omega) (by omega), lb_absx hx, q1, lb_L]
          have := Int.ediv_nonneg (a := 1000000000000) (b := (if y < 0 then -y else y).toInt) (by omega) (by omega)
          show ¬ _ < ((0 : Int64).toInt.natAbs : Int)
          rw [show ((0 : Int64).toInt.natAbs : Int) = 0 from rfl]
          omega
        refine ⟨0, ?_, Or.inr ⟨lb_0, by simp [-Int32.ofNat_add, f_X12_works, f_X12_works_J212, l1, l2, s4, lg_cmp_eq, q1, hj_ok hd' lb_0]⟩⟩
        simp only [f_X4_joined, f_X4_joined_J210, lg_cmp_eq, lg_cmp_lt, if_neg q2, iy, ix, hdy, Option.bind_some, if_neg h0, e]
        rfl
      · obtain ⟨m1, m2⟩ := lb_mul (p := if y < 0 then -y else y) (q := if x < 0 then -x else x) hx hy q1 q2 ay (lb_absx hx)
        obtain ⟨m3, -⟩ := lb_mul (p := hq_absj y) (q := hq_absj x) hx hy q1 q2 (lb_absm hy) (lb_absm hx)
        have pe : hq_absj y = (if y < 0 then -y else y) := Int64.toInt_inj.mp ((lb_absm hy).trans ay.symm)
        have qe : hq_absj x = (if x < 0 then -x else x) := Int64.toInt_inj.mp ((lb_absm hx).trans (lb_absx hx).symm)
        have hdv : hq_ldiv 1000000000000 (hq_absj x) = some (1000000000000 / hq_absj x) := by
          unfold hq_ldiv
          rw [decide_eq_false (fun q => q1 (lb_zero.mpr (by rw [lb_zero, lb_absm hx] at q; omega)))]
          rfl
        by_cases q3 : (1000000000000 : Int64) / (if y < 0 then -y else y) < (if x < 0 then -x else x)
        · have q4 : (1000000000000 : Int64) / hq_absj x < hq_absj y := by rw [← m3, pe, qe]; exact q3
          refine ⟨_, ?_, Or.inl ⟨rfl, hq_si sm 174 36 (Int32.ofNat (d + 1)), ?_, hj_e0⟩⟩
          · simp only [f_X4_joined, f_X4_joined_J210, lg_cmp_eq, lg_cmp_lt, if_neg q2, iy, ix, hdy, Option.bind_some, if_pos q3]
            rfl
          · simp [-Int32.ofNat_add, f_X12_works, f_X12_works_J212, l1, l2, s4, lg_cmp_eq, lg_cmp_gt, q1, hdv, q4]
        · have q4 : ¬ (1000000000000 : Int64) / hq_absj x < hq_absj y := by rw [← m3, pe, qe]; exact q3
          refine ⟨x * y, ?_, Or.inr ⟨m2 q3, ?_⟩⟩
          · simp only [f_X4_joined, f_X4_joined_J210, lg_cmp_eq, lg_cmp_lt, if_neg q2, iy, ix, hdy, Option.bind_some, if_neg q3]
            rfl
          · simp [-Int32.ofNat_add, f_X12_works, f_X12_works_J212, l1, l2, s4, lg_cmp_eq, lg_cmp_gt, q1, hdv, q4, hj_ok hd' (m2 q3)]
  · by_cases q1 : (1000000000000 : Int64) < x + y
    · have no : ¬ lb_ok (x + y) := fun h => ((lb_iff _).mp h).1 q1
      exact ⟨_, by simp [f_X4_joined, f_X4_joined_J128, lg_cmp_gt, lg_cmp_lt, q1], Or.inl ⟨rfl, hq_sj (hq_si sm 174 36 (Int32.ofNat (d + 1))) 195 d (x + y), by simp [-Int32.ofNat_add, f_X12_works, l1, l2, s4, hj_no hd' no], hj_e⟩⟩
    · by_cases q2 : x + y < (-1000000000000 : Int64)
      · have no : ¬ lb_ok (x + y) := fun h => ((lb_iff _).mp h).2 q2
        exact ⟨_, by simp [f_X4_joined, f_X4_joined_J128, lg_cmp_gt, lg_cmp_lt, q1, q2], Or.inl ⟨rfl, hq_sj (hq_si sm 174 36 (Int32.ofNat (d + 1))) 195 d (x + y), by simp [-Int32.ofNat_add, f_X12_works, l1, l2, s4, hj_no hd' no], hj_e⟩⟩
      · have ok : lb_ok (x + y) := (lb_iff _).mpr ⟨q1, q2⟩
        exact ⟨x + y, by simp [f_X4_joined, f_X4_joined_J128, lg_cmp_gt, lg_cmp_lt, q1, q2], Or.inr ⟨ok, by simp [-Int32.ofNat_add, f_X12_works, l1, l2, s4, hj_ok hd' ok]⟩⟩
  · by_cases q1 : (1000000000000 : Int64) < x - y
    · have no : ¬ lb_ok (x - y) := fun h => ((lb_iff _).mp h).1 q1
      exact ⟨_, by simp [f_X4_joined, f_X4_joined_J158, lg_cmp_gt, lg_cmp_lt, q1], Or.inl ⟨rfl, hq_sj (hq_si sm 174 36 (Int32.ofNat (d + 1))) 195 d (x - y), by simp [-Int32.ofNat_add, f_X12_works, l1, l2, s4, hj_no hd' no], hj_e⟩⟩
    · by_cases q2 : x - y < (-1000000000000 : Int64)
      · have no : ¬ lb_ok (x - y) := fun h => ((lb_iff _).mp h).2 q2
        exact ⟨_, by simp [f_X4_joined, f_X4_joined_J158, lg_cmp_gt, lg_cmp_lt, q1, q2], Or.inl ⟨rfl, hq_sj (hq_si sm 174 36 (Int32.ofNat (d + 1))) 195 d (x - y), by simp [-Int32.ofNat_add, f_X12_works, l1, l2, s4, hj_no hd' no], hj_e⟩⟩
      · have ok : lb_ok (x - y) := (lb_iff _).mpr ⟨q1, q2⟩
        exact ⟨x - y, by simp [f_X4_joined, f_X4_joined_J158, lg_cmp_gt, lg_cmp_lt, q1, q2], Or.inr ⟨ok, by simp [-Int32.ofNat_add, f_X12_works, l1, l2, s4, hj_ok hd' ok]⟩⟩
  · by_cases q2 : y = 0
    · exact ⟨_, by simp [f_X4_joined, lg_cmp_eq, q2], Or.inl ⟨rfl, hq_si sm 174 36 (Int32.ofNat (d + 1)), by simp [-Int32.ofNat_add, f_X12_works, l1, l2, s4, lg_cmp_eq, q2], hj_e0⟩⟩
    · have hdv : hq_ldiv x y = some (x / y) := by
        unfold hq_ldiv
        rw [decide_eq_false q2]
        rfl
      exact ⟨x / y, by simp [f_X4_joined, lg_cmp_eq, q2, hdv], Or.inr ⟨lb_div hx, by simp [-Int32.ofNat_add, f_X12_works, l1, l2, s4, lg_cmp_eq, q2, hdv, hj_ok hd' (lb_div hx)]⟩⟩
  · by_cases q : x < y
    · exact ⟨1, by simp [f_X4_joined, lg_cmp_lt, q], Or.inr ⟨lb_1, by simp [-Int32.ofNat_add, f_X12_works, f_X12_is, l1, l2, s4, lg_cmp_lt, q, hj_ok hd' lb_1]⟩⟩
    · exact ⟨0, by simp [f_X4_joined, lg_cmp_lt, q], Or.inr ⟨lb_0, by simp [-Int32.ofNat_add, f_X12_works, f_X12_is, l1, l2, s4, lg_cmp_lt, q, hj_ok hd' lb_0]⟩⟩
  · by_cases q : x = y
    · exact ⟨1, by simp [f_X4_joined, lg_cmp_eq, q], Or.inr ⟨lb_1, by simp [-Int32.ofNat_add, f_X12_works, f_X12_is, l1, l2, s4, lg_cmp_eq, q, hj_ok hd' lb_1]⟩⟩
    · exact ⟨0, by simp [f_X4_joined, lg_cmp_eq, q], Or.inr ⟨lb_0, by simp [-Int32.ofNat_add, f_X12_works, f_X12_is, l1, l2, s4, lg_cmp_eq, q, hj_ok hd' lb_0]⟩⟩
  · by_cases q : y < x
    · exact ⟨1, by simp [f_X4_joined, lg_cmp_gt, q], Or.inr ⟨lb_1, by simp [-Int32.ofNat_add, f_X12_works, f_X12_is, l1, l2, s4, lg_cmp_gt, q, hj_ok hd' lb_1]⟩⟩
    · exact ⟨0, by simp [f_X4_joined, lg_cmp_gt, q], Or.inr ⟨lb_0, by simp [-Int32.ofNat_add, f_X12_works, f_X12_is, l1, l2, s4, lg_cmp_gt, q, hj_ok hd' lb_0]⟩⟩
  · by_cases q : y < x
    · exact ⟨0, by simp [f_X4_joined, lg_cmp_gt, q], Or.inr ⟨lb_0, by simp [-Int32.ofNat_add, f_X12_works, f_X12_is, l1, l2, s4, lg_cmp_gt, q, hj_ok hd' lb_0]⟩⟩
    · exact ⟨1, by simp [f_X4_joined, lg_cmp_gt, q], Or.inr ⟨lb_1, by simp [-Int32.ofNat_add, f_X12_works, f_X12_is, l1, l2, s4, lg_cmp_gt, q, hj_ok hd' lb_1]⟩⟩
  · by_cases q : x = y
    · exact ⟨0, by simp [f_X4_joined, lg_cmp_eq, q], Or.inr ⟨lb_0, by simp [-Int32.ofNat_add, f_X12_works, f_X12_is, l1, l2, s4, lg_cmp_eq, q, hj_ok hd' lb_0]⟩⟩
    · exact ⟨1, by simp [f_X4_joined, lg_cmp_eq, q], Or.inr ⟨lb_1, by simp [-Int32.ofNat_add, f_X12_works, f_X12_is, l1, l2, s4, lg_cmp_eq, q, hj_ok hd' lb_1]⟩⟩
  · by_cases q : x < y
    · exact ⟨0, by simp [f_X4_joined, lg_cmp_lt, q], Or.inr ⟨lb_0, by simp [-Int32.ofNat_add, f_X12_works, f_X12_is, l1, l2, s4, lg_cmp_lt, q, hj_ok hd' lb_0]⟩⟩
    · exact ⟨1, by simp [f_X4_joined, lg_cmp_lt, q], Or.inr ⟨lb_1, by simp [-Int32.ofNat_add, f_X12_works, f_X12_is, l1, l2, s4, lg_cmp_lt, q, hj_ok hd' lb_1]⟩⟩
end
