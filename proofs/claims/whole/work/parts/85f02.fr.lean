theorem f_X12_expression_L4_B_fr {n : Nat} {R0 : hq_S → Option hq_S} {R1 : hq_S → Option hq_S} {R2 : hq_S → Option hq_S} {R3 : hq_S → Option hq_S} {R4 : hq_S → Option hq_S} {R5 : hq_S → Option hq_S} {q4 : hq_S → Option hq_S} {s : hq_S} {y : hq_S} (E0 : ∀ (s : hq_S) (y : hq_S), R0 s = some y → hq_fm s y) (E1 : ∀ (s : hq_S) (y : hq_S), R1 s = some y → hq_fm s y) (E2 : ∀ (s : hq_S) (y : hq_S), R2 s = some y → hq_fm s y) (E3 : ∀ (s : hq_S) (y : hq_S), R3 s = some y → hq_fm s y) (E4 : ∀ (s : hq_S) (y : hq_S), R4 s = some y → hq_fm s y) (E5 : ∀ (s : hq_S) (y : hq_S), R5 s = some y → hq_fm s y) (e4 : ∀ (s : hq_S), q4 s = some y → hq_fm s y) (h : f_X12_expression_L4_B n R0 R1 R2 R3 R4 R5 q4 s = some y) : hq_fm s y := by
  unfold f_X12_expression_L4_B at h
  have t := hq_fm_rf s
  obtain ⟨y2, hy2, h⟩ := hq_bind h
  have t := hq_fm_tr t (f_X12_isWord_fr hy2)
  by_cases c3 : y2.1 = 0
  · rw [if_pos c3] at h
    have h := Option.some.inj h
    subst h
    exact t
  · rw [if_neg c3] at h
    obtain ⟨s4, hs4, h⟩ := hq_bind h
    have t := hq_fm_tr t (f_X12_knot_fr hs4)
    obtain ⟨s5, hs5, h⟩ := hq_bind h
    have t := hq_fm_tr t (f_X12_goOn_fr hs5)
    obtain ⟨s6, hs6, h⟩ := hq_bind h
    have t := hq_fm_tr t (E1 _ _ hs6)
    obtain ⟨s7, hs7, h⟩ := hq_bind h
    have t := hq_fm_tr t (f_X12_puts_fr hs7)
    exact hq_fm_tr t (e4 s7 h)
theorem f_X12_expression_L4_fr {n m : Nat} {R0 : hq_S → Option hq_S} {R1 : hq_S → Option hq_S} {R2 : hq_S → Option hq_S} {R3 : hq_S → Option hq_S} {R4 : hq_S → Option hq_S} {R5 : hq_S → Option hq_S} {s : hq_S} {y : hq_S} (E0 : ∀ (s : hq_S) (y : hq_S), R0 s = some y → hq_fm s y) (E1 : ∀ (s : hq_S) (y : hq_S), R1 s = some y → hq_fm s y) (E2 : ∀ (s : hq_S) (y : hq_S), R2 s = some y → hq_fm s y) (E3 : ∀ (s : hq_S) (y : hq_S), R3 s = some y → hq_fm s y) (E4 : ∀ (s : hq_S) (y : hq_S), R4 s = some y → hq_fm s y) (E5 : ∀ (s : hq_S) (y : hq_S), R5 s = some y → hq_fm s y) (h : f_X12_expression_L4 n R0 R1 R2 R3 R4 R5 m s = some y) : hq_fm s y := by
  induction m generalizing s with
  | zero => cases h
  | succ m ih => exact f_X12_expression_L4_B_fr (n := n) (q4 := f_X12_expression_L4 n R0 R1 R2 R3 R4 R5 m) E0 E1 E2 E3 E4 E5 (fun s h => ih h) h
theorem f_X12_expression_S_fr {n : Nat} {R0 : hq_S → Option hq_S} {R1 : hq_S → Option hq_S} {R2 : hq_S → Option hq_S} {R3 : hq_S → Option hq_S} {R4 : hq_S → Option hq_S} {R5 : hq_S → Option hq_S} {s : hq_S} {y : hq_S} (E0 : ∀ (s : hq_S) (y : hq_S), R0 s = some y → hq_fm s y) (E1 : ∀ (s : hq_S) (y : hq_S), R1 s = some y → hq_fm s y) (E2 : ∀ (s : hq_S) (y : hq_S), R2 s = some y → hq_fm s y) (E3 : ∀ (s : hq_S) (y : hq_S), R3 s = some y → hq_fm s y) (E4 : ∀ (s : hq_S) (y : hq_S), R4 s = some y → hq_fm s y) (E5 : ∀ (s : hq_S) (y : hq_S), R5 s = some y → hq_fm s y) (h : f_X12_expression_S n R0 R1 R2 R3 R4 R5 s = some y) : hq_fm s y := by
  unfold f_X12_expression_S at h
  have t := hq_fm_rf s
  obtain ⟨s1, hs1, h⟩ := hq_bind h
  have t := hq_fm_tr t (E1 _ _ hs1)
  exact hq_fm_tr t (f_X12_expression_L4_fr E0 E1 E2 E3 E4 E5 h)
theorem f_X12_conjunction_L4_B_fr {n : Nat} {R0 : hq_S → Option hq_S} {R1 : hq_S → Option hq_S} {R2 : hq_S → Option hq_S} {R3 : hq_S → Option hq_S} {R4 : hq_S → Option hq_S} {R5 : hq_S → Option hq_S} {q4 : hq_S → Option hq_S} {s : hq_S} {y : hq_S} (E0 : ∀ (s : hq_S) (y : hq_S), R0 s = some y → hq_fm s y) (E1 : ∀ (s : hq_S) (y : hq_S), R1 s = some y → hq_fm s y) (E2 : ∀ (s : hq_S) (y : hq_S), R2 s = some y → hq_fm s y) (E3 : ∀ (s : hq_S) (y : hq_S), R3 s = some y → hq_fm s y) (E4 : ∀ (s : hq_S) (y : hq_S), R4 s = some y → hq_fm s y) (E5 : ∀ (s : hq_S) (y : hq_S), R5 s = some y → hq_fm s y) (e4 : ∀ (s : hq_S), q4 s = some y → hq_fm s y) (h : f_X12_conjunction_L4_B n R0 R1 R2 R3 R4 R5 q4 s = some y) : hq_fm s y := by
  unfold f_X12_conjunction_L4_B at h
  have t := hq_fm_rf s
  obtain ⟨y2, hy2, h⟩ := hq_bind h
  have t := hq_fm_tr t (f_X12_isWord_fr hy2)
  by_cases c3 : y2.1 = 0
  · rw [if_pos c3] at h
    have h := Option.some.inj h
    subst h
    exact t
  · rw [if_neg c3] at h
    obtain ⟨s4, hs4, h⟩ := hq_bind h
    have t := hq_fm_tr t (f_X12_knot_fr hs4)
    obtain ⟨s5, hs5, h⟩ := hq_bind h
    have t := hq_fm_tr t (f_X12_goOn_fr hs5)
    obtain ⟨s6, hs6, h⟩ := hq_bind h
    have t := hq_fm_tr t (E2 _ _ hs6)
    obtain ⟨s7, hs7, h⟩ := hq_bind h
    have t := hq_fm_tr t (f_X12_puts_fr hs7)
    exact hq_fm_tr t (e4 s7 h)
theorem f_X12_conjunction_L4_fr {n m : Nat} {R0 : hq_S → Option hq_S} {R1 : hq_S → Option hq_S} {R2 : hq_S → Option hq_S} {R3 : hq_S → Option hq_S} {R4 : hq_S → Option hq_S} {R5 : hq_S → Option hq_S} {s : hq_S} {y : hq_S} (E0 : ∀ (s : hq_S) (y : hq_S), R0 s = some y → hq_fm s y) (E1 : ∀ (s : hq_S) (y : hq_S), R1 s = some y → hq_fm s y) (E2 : ∀ (s : hq_S) (y : hq_S), R2 s = some y → hq_fm s y) (E3 : ∀ (s : hq_S) (y : hq_S), R3 s = some y → hq_fm s y) (E4 : ∀ (s : hq_S) (y : hq_S), R4 s = some y → hq_fm s y) (E5 : ∀ (s : hq_S) (y : hq_S), R5 s = some y → hq_fm s y) (h : f_X12_conjunction_L4 n R0 R1 R2 R3 R4 R5 m s = some y) : hq_fm s y := by
  induction m generalizing s with
  | zero => cases h
  | succ m ih => exact f_X12_conjunction_L4_B_fr (n := n) (q4 := f_X12_conjunction_L4 n R0 R1 R2 R3 R4 R5 m) E0 E1 E2 E3 E4 E5 (fun s h => ih h) h
theorem f_X12_conjunction_S_fr {n : Nat} {R0 : hq_S → Option hq_S} {R1 : hq_S → Option hq_S} {R2 : hq_S → Option hq_S} {R3 : hq_S → Option hq_S} {R4 : hq_S → Option hq_S} {R5 : hq_S → Option hq_S} {s : hq_S} {y : hq_S} (E0 : ∀ (s : hq_S) (y : hq_S), R0 s = some y → hq_fm s y) (E1 : ∀ (s : hq_S) (y : hq_S), R1 s = some y → hq_fm s y) (E2 : ∀ (s : hq_S) (y : hq_S), R2 s = some y → hq_fm s y) (E3 : ∀ (s : hq_S) (y : hq_S), R3 s = some y → hq_fm s y) (E4 : ∀ (s : hq_S) (y : hq_S), R4 s = some y → hq_fm s y) (E5 : ∀ (s : hq_S) (y : hq_S), R5 s = some y → hq_fm s y) (h : f_X12_conjunction_S n R0 R1 R2 R3 R4 R5 s = some y) : hq_fm s y := by
  unfold f_X12_conjunction_S at h
  have t := hq_fm_rf s
  obtain ⟨s1, hs1, h⟩ := hq_bind h
  have t := hq_fm_tr t (E2 _ _ hs1)
  exact hq_fm_tr t (f_X12_conjunction_L4_fr E0 E1 E2 E3 E4 E5 h)
theorem f_X12_negation_J87_fr {n : Nat} {R0 : hq_S → Option hq_S} {R1 : hq_S → Option hq_S} {R2 : hq_S → Option hq_S} {R3 : hq_S → Option hq_S} {R4 : hq_S → Option hq_S} {R5 : hq_S → Option hq_S} {s : hq_S} {y : hq_S} (E0 : ∀ (s : hq_S) (y : hq_S), R0 s = some y → hq_fm s y) (E1 : ∀ (s : hq_S) (y : hq_S), R1 s = some y → hq_fm s y) (E2 : ∀ (s : hq_S) (y : hq_S), R2 s = some y → hq_fm s y) (E3 : ∀ (s : hq_S) (y : hq_S), R3 s = some y → hq_fm s y) (E4 : ∀ (s : hq_S) (y : hq_S), R4 s = some y → hq_fm s y) (E5 : ∀ (s : hq_S) (y : hq_S), R5 s = some y → hq_fm s y) (h : f_X12_negation_J87 n R0 R1 R2 R3 R4 R5 s = some y) : hq_fm s y := by
  unfold f_X12_negation_J87 at h
  have t := hq_fm_rf s
  obtain ⟨s7, hs7, h⟩ := hq_bind h
  have t := hq_fm_tr t (f_X12_knot_fr hs7)
  obtain ⟨s8, hs8, h⟩ := hq_bind h
  have t := hq_fm_tr t (f_X12_goOn_fr hs8)
  obtain ⟨s9, hs9, h⟩ := hq_bind h
  have t := hq_fm_tr t (E3 _ _ hs9)
  obtain ⟨s10, hs10, h⟩ := hq_bind h
  have t := hq_fm_tr t (f_X12_puts_fr hs10)
  have h := Option.some.inj h
  subst h
  exact t
theorem f_X12_negation_S_fr {n : Nat} {R0 : hq_S → Option hq_S} {R1 : hq_S → Option hq_S} {R2 : hq_S → Option hq_S} {R3 : hq_S → Option hq_S} {R4 : hq_S → Option hq_S} {R5 : hq_S → Option hq_S} {s : hq_S} {y : hq_S} (E0 : ∀ (s : hq_S) (y : hq_S), R0 s = some y → hq_fm s y) (E1 : ∀ (s : hq_S) (y : hq_S), R1 s = some y → hq_fm s y) (E2 : ∀ (s : hq_S) (y : hq_S), R2 s = some y → hq_fm s y) (E3 : ∀ (s : hq_S) (y : hq_S), R3 s = some y → hq_fm s y) (E4 : ∀ (s : hq_S) (y : hq_S), R4 s = some y → hq_fm s y) (E5 : ∀ (s : hq_S) (y : hq_S), R5 s = some y → hq_fm s y) (h : f_X12_negation_S n R0 R1 R2 R3 R4 R5 s = some y) : hq_fm s y := by
  unfold f_X12_negation_S at h
  have t := hq_fm_rf s
  obtain ⟨y1, hy1, h⟩ := hq_bind h
  have t := hq_fm_tr t (f_X12_isWord_fr hy1)
  by_cases c2 : y1.1 = 0
  · rw [if_pos c2] at h
    obtain ⟨s3, hs3, h⟩ := hq_bind h
    have t := hq_fm_tr t (E3 _ _ hs3)
    by_cases c4 : (hq_gi s3 174 28) = 0
    · rw [if_pos c4] at h
      by_cases c5 : (hq_gi s3 174 26) = (3 : Int32)
      · rw [if_pos c5] at h
        by_cases c6 : (hq_gi s3 174 27) = (60 : Int32)
        · rw [if_pos c6] at h
          exact hq_fm_tr t (f_X12_negation_J87_fr E0 E1 E2 E3 E4 E5 h)
        · rw [if_neg c6] at h
          by_cases c11 : (hq_gi s3 174 27) = (62 : Int32)
          · rw [if_pos c11] at h
            exact hq_fm_tr t (f_X12_negation_J87_fr E0 E1 E2 E3 E4 E5 h)
          · rw [if_neg c11] at h
            by_cases c12 : (hq_gi s3 174 27) = (61 : Int32)
            · rw [if_pos c12] at h
              exact hq_fm_tr t (f_X12_negation_J87_fr E0 E1 E2 E3 E4 E5 h)
            · rw [if_neg c12] at h
              by_cases c13 : (hq_gi s3 174 27) < (256 : Int32)
              · rw [if_pos c13] at h
                have h := Option.some.inj h
                subst h
                exact t
              · rw [if_neg c13] at h
                exact hq_fm_tr t (f_X12_negation_J87_fr E0 E1 E2 E3 E4 E5 h)
      · rw [if_neg c5] at h
        have h := Option.some.inj h
        subst h
        exact t
    · rw [if_neg c4] at h
      have h := Option.some.inj h
      subst h
      exact t
  · rw [if_neg c2] at h
    obtain ⟨s14, hs14, h⟩ := hq_bind h
    have t := hq_fm_tr t (f_X12_knot_fr hs14)
    obtain ⟨s15, hs15, h⟩ := hq_bind h
    have t := hq_fm_tr t (f_X12_goOn_fr hs15)
    obtain ⟨s16, hs16, h⟩ := hq_bind h
    have t := hq_fm_tr t (E2 _ _ hs16)
    obtain ⟨s17, hs17, h⟩ := hq_bind h
    have t := hq_fm_tr t (f_X12_puts_fr hs17)
    have h := Option.some.inj h
    subst h
    exact t
theorem f_X12_sum_J22_fr {n : Nat} {R0 : hq_S → Option hq_S} {R1 : hq_S → Option hq_S} {R2 : hq_S → Option hq_S} {R3 : hq_S → Option hq_S} {R4 : hq_S → Option hq_S} {R5 : hq_S → Option hq_S} {q4 : hq_S → Option hq_S} {s : hq_S} {y : hq_S} (E0 : ∀ (s : hq_S) (y : hq_S), R0 s = some y → hq_fm s y) (E1 : ∀ (s : hq_S) (y : hq_S), R1 s = some y → hq_fm s y) (E2 : ∀ (s : hq_S) (y : hq_S), R2 s = some y → hq_fm s y) (E3 : ∀ (s : hq_S) (y : hq_S), R3 s = some y → hq_fm s y) (E4 : ∀ (s : hq_S) (y : hq_S), R4 s = some y → hq_fm s y) (E5 : ∀ (s : hq_S) (y : hq_S), R5 s = some y → hq_fm s y) (e4 : ∀ (o1 : Option Value) (s : hq_S), q4 s = some y → hq_fm s y) (h : f_X12_sum_J22 n R0 R1 R2 R3 R4 R5 q4 s = some y) : hq_fm s y := by
  unfold f_X12_sum_J22 at h
  have t := hq_fm_rf s
  obtain ⟨s4, hs4, h⟩ := hq_bind h
  have t := hq_fm_tr t (f_X12_knot_fr hs4)
  obtain ⟨s5, hs5, h⟩ := hq_bind h
  have t := hq_fm_tr t (f_X12_goOn_fr hs5)
  obtain ⟨s6, hs6, h⟩ := hq_bind h
  have t := hq_fm_tr t (E4 _ _ hs6)
  obtain ⟨s7, hs7, h⟩ := hq_bind h
  have t := hq_fm_tr t (f_X12_puts_fr hs7)
  exact hq_fm_tr t (e4 none s7 h)
theorem f_X12_sum_L4_B_fr {n : Nat} {R0 : hq_S → Option hq_S} {R1 : hq_S → Option hq_S} {R2 : hq_S → Option hq_S} {R3 : hq_S → Option hq_S} {R4 : hq_S → Option hq_S} {R5 : hq_S → Option hq_S} {q4 : hq_S → Option hq_S} {s : hq_S} {y : hq_S} (E0 : ∀ (s : hq_S) (y : hq_S), R0 s = some y → hq_fm s y) (E1 : ∀ (s : hq_S) (y : hq_S), R1 s = some y → hq_fm s y) (E2 : ∀ (s : hq_S) (y : hq_S), R2 s = some y → hq_fm s y) (E3 : ∀ (s : hq_S) (y : hq_S), R3 s = some y → hq_fm s y) (E4 : ∀ (s : hq_S) (y : hq_S), R4 s = some y → hq_fm s y) (E5 : ∀ (s : hq_S) (y : hq_S), R5 s = some y → hq_fm s y) (e4 : ∀ (o1 : Option Value) (s : hq_S), q4 s = some y → hq_fm s y) (h : f_X12_sum_L4_B n R0 R1 R2 R3 R4 R5 q4 s = some y) : hq_fm s y := by
  unfold f_X12_sum_L4_B at h
  have t := hq_fm_rf s
  obtain ⟨y2, hy2, h⟩ := hq_bind h
  have t := hq_fm_tr t (f_X12_isSign_fr hy2)
  by_cases c3 : y2.1 = 0
  · rw [if_pos c3] at h
    obtain ⟨y8, hy8, h⟩ := hq_bind h
    have t := hq_fm_tr t (f_X12_isSign_fr hy8)
    by_cases c9 : y8.1 = 0
    · rw [if_pos c9] at h
      have h := Option.some.inj h
      subst h
      exact t
    · rw [if_neg c9] at h
      exact hq_fm_tr t (f_X12_sum_J22_fr E0 E1 E2 E3 E4 E5 e4 h)
  · rw [if_neg c3] at h
    exact hq_fm_tr t (f_X12_sum_J22_fr E0 E1 E2 E3 E4 E5 e4 h)
theorem f_X12_sum_L4_fr {n m : Nat} {R0 : hq_S → Option hq_S} {R1 : hq_S → Option hq_S} {R2 : hq_S → Option hq_S} {R3 : hq_S → Option hq_S} {R4 : hq_S → Option hq_S} {R5 : hq_S → Option hq_S} {s : hq_S} {y : hq_S} (E0 : ∀ (s : hq_S) (y : hq_S), R0 s = some y → hq_fm s y) (E1 : ∀ (s : hq_S) (y : hq_S), R1 s = some y → hq_fm s y) (E2 : ∀ (s : hq_S) (y : hq_S), R2 s = some y → hq_fm s y) (E3 : ∀ (s : hq_S) (y : hq_S), R3 s = some y → hq_fm s y) (E4 : ∀ (s : hq_S) (y : hq_S), R4 s = some y → hq_fm s y) (E5 : ∀ (s : hq_S) (y : hq_S), R5 s = some y → hq_fm s y) (h : f_X12_sum_L4 n R0 R1 R2 R3 R4 R5 m s = some y) : hq_fm s y := by
  induction m generalizing s with
  | zero => cases h
  | succ m ih => exact f_X12_sum_L4_B_fr (n := n) (q4 := f_X12_sum_L4 n R0 R1 R2 R3 R4 R5 m) E0 E1 E2 E3 E4 E5 (fun _ s h => ih h) h
theorem f_X12_sum_S_fr {n : Nat} {R0 : hq_S → Option hq_S} {R1 : hq_S → Option hq_S} {R2 : hq_S → Option hq_S} {R3 : hq_S → Option hq_S} {R4 : hq_S → Option hq_S} {R5 : hq_S → Option hq_S} {s : hq_S} {y : hq_S} (E0 : ∀ (s : hq_S) (y : hq_S), R0 s = some y → hq_fm s y) (E1 : ∀ (s : hq_S) (y : hq_S), R1 s = some y → hq_fm s y) (E2 : ∀ (s : hq_S) (y : hq_S), R2 s = some y → hq_fm s y) (E3 : ∀ (s : hq_S) (y : hq_S), R3 s = some y → hq_fm s y) (E4 : ∀ (s : hq_S) (y : hq_S), R4 s = some y → hq_fm s y) (E5 : ∀ (s : hq_S) (y : hq_S), R5 s = some y → hq_fm s y) (h : f_X12_sum_S n R0 R1 R2 R3 R4 R5 s = some y) : hq_fm s y := by
  unfold f_X12_sum_S at h
  have t := hq_fm_rf s
  obtain ⟨s1, hs1, h⟩ := hq_bind h
  have t := hq_fm_tr t (E4 _ _ hs1)
  exact hq_fm_tr t (f_X12_sum_L4_fr E0 E1 E2 E3 E4 E5 h)
theorem f_X12_product_J22_fr {n : Nat} {R0 : hq_S → Option hq_S} {R1 : hq_S → Option hq_S} {R2 : hq_S → Option hq_S} {R3 : hq_S → Option hq_S} {R4 : hq_S → Option hq_S} {R5 : hq_S → Option hq_S} {q4 : hq_S → Option hq_S} {s : hq_S} {y : hq_S} (E0 : ∀ (s : hq_S) (y : hq_S), R0 s = some y → hq_fm s y) (E1 : ∀ (s : hq_S) (y : hq_S), R1 s = some y → hq_fm s y) (E2 : ∀ (s : hq_S) (y : hq_S), R2 s = some y → hq_fm s y) (E3 : ∀ (s : hq_S) (y : hq_S), R3 s = some y → hq_fm s y) (E4 : ∀ (s : hq_S) (y : hq_S), R4 s = some y → hq_fm s y) (E5 : ∀ (s : hq_S) (y : hq_S), R5 s = some y → hq_fm s y) (e4 : ∀ (o1 : Option Value) (s : hq_S), q4 s = some y → hq_fm s y) (h : f_X12_product_J22 n R0 R1 R2 R3 R4 R5 q4 s = some y) : hq_fm s y := by
  unfold f_X12_product_J22 at h
  have t := hq_fm_rf s
  obtain ⟨s4, hs4, h⟩ := hq_bind h
  have t := hq_fm_tr t (f_X12_knot_fr hs4)
  obtain ⟨s5, hs5, h⟩ := hq_bind h
  have t := hq_fm_tr t (f_X12_goOn_fr hs5)
  obtain ⟨s6, hs6, h⟩ := hq_bind h
  have t := hq_fm_tr t (E5 _ _ hs6)
  obtain ⟨s7, hs7, h⟩ := hq_bind h
  have t := hq_fm_tr t (f_X12_puts_fr hs7)
  exact hq_fm_tr t (e4 none s7 h)
theorem f_X12_product_L4_B_fr {n : Nat} {R0 : hq_S → Option hq_S} {R1 : hq_S → Option hq_S} {R2 : hq_S → Option hq_S} {R3 : hq_S → Option hq_S} {R4 : hq_S → Option hq_S} {R5 : hq_S → Option hq_S} {q4 : hq_S → Option hq_S} {s : hq_S} {y : hq_S} (E0 : ∀ (s : hq_S) (y : hq_S), R0 s = some y → hq_fm s y) (E1 : ∀ (s : hq_S) (y : hq_S), R1 s = some y → hq_fm s y) (E2 : ∀ (s : hq_S) (y : hq_S), R2 s = some y → hq_fm s y) (E3 : ∀ (s : hq_S) (y : hq_S), R3 s = some y → hq_fm s y) (E4 : ∀ (s : hq_S) (y : hq_S), R4 s = some y → hq_fm s y) (E5 : ∀ (s : hq_S) (y : hq_S), R5 s = some y → hq_fm s y) (e4 : ∀ (o1 : Option Value) (s : hq_S), q4 s = some y → hq_fm s y) (h : f_X12_product_L4_B n R0 R1 R2 R3 R4 R5 q4 s = some y) : hq_fm s y := by
  unfold f_X12_product_L4_B at h
  have t := hq_fm_rf s
  obtain ⟨y2, hy2, h⟩ := hq_bind h
  have t := hq_fm_tr t (f_X12_isSign_fr hy2)
  by_cases c3 : y2.1 = 0
  · rw [if_pos c3] at h
    obtain ⟨y8, hy8, h⟩ := hq_bind h
    have t := hq_fm_tr t (f_X12_isSign_fr hy8)
    by_cases c9 : y8.1 = 0
    · rw [if_pos c9] at h
      have h := Option.some.inj h
      subst h
      exact t
    · rw [if_neg c9] at h
      exact hq_fm_tr t (f_X12_product_J22_fr E0 E1 E2 E3 E4 E5 e4 h)
  · rw [if_neg c3] at h
    exact hq_fm_tr t (f_X12_product_J22_fr E0 E1 E2 E3 E4 E5 e4 h)
theorem f_X12_product_L4_fr {n m : Nat} {R0 : hq_S → Option hq_S} {R1 : hq_S → Option hq_S} {R2 : hq_S → Option hq_S} {R3 : hq_S → Option hq_S} {R4 : hq_S → Option hq_S} {R5 : hq_S → Option hq_S} {s : hq_S} {y : hq_S} (E0 : ∀ (s : hq_S) (y : hq_S), R0 s = some y → hq_fm s y) (E1 : ∀ (s : hq_S) (y : hq_S), R1 s = some y → hq_fm s y) (E2 : ∀ (s : hq_S) (y : hq_S), R2 s = some y → hq_fm s y) (E3 : ∀ (s : hq_S) (y : hq_S), R3 s = some y → hq_fm s y) (E4 : ∀ (s : hq_S) (y : hq_S), R4 s = some y → hq_fm s y) (E5 : ∀ (s : hq_S) (y : hq_S), R5 s = some y → hq_fm s y) (h : f_X12_product_L4 n R0 R1 R2 R3 R4 R5 m s = some y) : hq_fm s y := by
  induction m generalizing s with
  | zero => cases h
  | succ m ih => exact f_X12_product_L4_B_fr (n := n) (q4 := f_X12_product_L4 n R0 R1 R2 R3 R4 R5 m) E0 E1 E2 E3 E4 E5 (fun _ s h => ih h) h
theorem f_X12_product_S_fr {n : Nat} {R0 : hq_S → Option hq_S} {R1 : hq_S → Option hq_S} {R2 : hq_S → Option hq_S} {R3 : hq_S → Option hq_S} {R4 : hq_S → Option hq_S} {R5 : hq_S → Option hq_S} {s : hq_S} {y : hq_S} (E0 : ∀ (s : hq_S) (y : hq_S), R0 s = some y → hq_fm s y) (E1 : ∀ (s : hq_S) (y : hq_S), R1 s = some y → hq_fm s y) (E2 : ∀ (s : hq_S) (y : hq_S), R2 s = some y → hq_fm s y) (E3 : ∀ (s : hq_S) (y : hq_S), R3 s = some y → hq_fm s y) (E4 : ∀ (s : hq_S) (y : hq_S), R4 s = some y → hq_fm s y) (E5 : ∀ (s : hq_S) (y : hq_S), R5 s = some y → hq_fm s y) (h : f_X12_product_S n R0 R1 R2 R3 R4 R5 s = some y) : hq_fm s y := by
  unfold f_X12_product_S at h
  have t := hq_fm_rf s
  obtain ⟨s1, hs1, h⟩ := hq_bind h
  have t := hq_fm_tr t (E5 _ _ hs1)
  exact hq_fm_tr t (f_X12_product_L4_fr E0 E1 E2 E3 E4 E5 h)
theorem f_X12_primary_S_fr {n : Nat} {R0 : hq_S → Option hq_S} {R1 : hq_S → Option hq_S} {R2 : hq_S → Option hq_S} {R3 : hq_S → Option hq_S} {R4 : hq_S → Option hq_S} {R5 : hq_S → Option hq_S} {s : hq_S} {y : hq_S} (E0 : ∀ (s : hq_S) (y : hq_S), R0 s = some y → hq_fm s y) (E1 : ∀ (s : hq_S) (y : hq_S), R1 s = some y → hq_fm s y) (E2 : ∀ (s : hq_S) (y : hq_S), R2 s = some y → hq_fm s y) (E3 : ∀ (s : hq_S) (y : hq_S), R3 s = some y → hq_fm s y) (E4 : ∀ (s : hq_S) (y : hq_S), R4 s = some y → hq_fm s y) (E5 : ∀ (s : hq_S) (y : hq_S), R5 s = some y → hq_fm s y) (h : f_X12_primary_S n R0 R1 R2 R3 R4 R5 s = some y) : hq_fm s y := by
  unfold f_X12_primary_S at h
  have t := hq_fm_rf s
  by_cases c1 : (hq_gi s 174 28) = 0
  · rw [if_pos c1] at h
    obtain ⟨y2, hy2, h⟩ := hq_bind h
    have t := hq_fm_tr t (f_X12_isSign_fr hy2)
    by_cases c3 : y2.1 = 0
    · rw [if_pos c3] at h
      obtain ⟨z4, hz4, h⟩ := hq_bind h
      obtain ⟨z6, hz6, h⟩ := hq_bind h
      have t : hq_fm s z6 := by
        clear h
        have h := hz6
        by_cases c7 : z4 = 0
        · rw [if_pos c7] at h
          by_cases c8 : z4 = 0
          · rw [if_pos c8] at h
            by_cases c9 : (hq_gi y2.2 174 26) = 0
            · rw [if_pos c9] at h
              by_cases c11 : (hq_gi y2.2 174 27) < (15 : Int32)
              · rw [if_pos c11] at h
                obtain ⟨s12, hs12, h⟩ := hq_bind h
                have t := hq_fm_tr t (f_X12_wrong_fr hs12)
                cases h
                exact t
              · rw [if_neg c11] at h
                cases h
                exact t
            · rw [if_neg c9] at h
              obtain ⟨s10, hs10, h⟩ := hq_bind h
              have t := hq_fm_tr t (f_X12_wrong_fr hs10)
              cases h
              exact t
          · rw [if_neg c8] at h
            cases h
            exact t
        · rw [if_neg c7] at h
          by_cases c13 : (9999 : Int32) < (hq_gi y2.2 174 27)
          · rw [if_pos c13] at h
            obtain ⟨s19, hs19, h⟩ := hq_bind h
            have t := hq_fm_tr t (f_X12_wrong_fr hs19)
            cases h
            exact t
          · rw [if_neg c13] at h
            by_cases c14 : z4 = 0
            · rw [if_pos c14] at h
              by_cases c15 : (hq_gi y2.2 174 26) = 0
              · rw [if_pos c15] at h
                by_cases c17 : (hq_gi y2.2 174 27) < (15 : Int32)
                · rw [if_pos c17] at h
                  obtain ⟨s18, hs18, h⟩ := hq_bind h
                  have t := hq_fm_tr t (f_X12_wrong_fr hs18)
                  cases h
                  exact t
                · rw [if_neg c17] at h
                  cases h
                  exact t
              · rw [if_neg c15] at h
                obtain ⟨s16, hs16, h⟩ := hq_bind h
                have t := hq_fm_tr t (f_X12_wrong_fr hs16)
                cases h
                exact t
            · rw [if_neg c14] at h
              cases h
              exact t
      obtain ⟨s20, hs20, h⟩ := hq_bind h
      have t := hq_fm_tr t (f_X12_knot_fr hs20)
      obtain ⟨z21, hz21, h⟩ := hq_bind h
      obtain ⟨z23, hz23, h⟩ := hq_bind h
      obtain ⟨s25, hs25, h⟩ := hq_bind h
      have t := hq_fm_tr t (f_X12_puts_fr hs25)
      obtain ⟨s26, hs26, h⟩ := hq_bind h
      have t := hq_fm_tr t (f_X12_goOn_fr hs26)
      have h := Option.some.inj h
      subst h
      exact t
    · rw [if_neg c3] at h
      obtain ⟨z27, hz27, h⟩ := hq_bind h
      have t : hq_fm s z27 := by
        clear h
        have h := hz27
        by_cases c28 : (hq_gi y2.2 174 32) = (8 : Int32)
        · rw [if_pos c28] at h
          obtain ⟨s29, hs29, h⟩ := hq_bind h
          have t := hq_fm_tr t (f_X12_wrong_fr hs29)
          cases h
          exact t
        · rw [if_neg c28] at h
          cases h
          exact t
      by_cases c30 : (hq_gi z27 174 28) = 0
      · rw [if_pos c30] at h
        obtain ⟨s31, hs31, h⟩ := hq_bind h
        have t := hq_fm_tr t (hq_fm_pi hs31 (by first | decide | omega))
        obtain ⟨s32, hs32, h⟩ := hq_bind h
        have t := hq_fm_tr t (f_X12_token_fr hs32)
        obtain ⟨s33, hs33, h⟩ := hq_bind h
        have t := hq_fm_tr t (E0 _ _ hs33)
        obtain ⟨z34, hz34, h⟩ := hq_bind h
        have t : hq_fm s z34 := by
          clear h
          have h := hz34
          by_cases c35 : (hq_gi s33 174 28) = 0
          · rw [if_pos c35] at h
            obtain ⟨y36, hy36, h⟩ := hq_bind h
            have t := hq_fm_tr t (f_X12_isSign_fr hy36)
            by_cases c37 : y36.1 = 0
            · rw [if_pos c37] at h
              obtain ⟨s38, hs38, h⟩ := hq_bind h
              have t := hq_fm_tr t (f_X12_wrong_fr hs38)
              cases h
              exact t
            · rw [if_neg c37] at h
              cases h
              exact t
          · rw [if_neg c35] at h
            cases h
            exact t
        by_cases c39 : (hq_gi z34 174 28) = 0
        · rw [if_pos c39] at h
          obtain ⟨s40, hs40, h⟩ := hq_bind h
          have t := hq_fm_tr t (hq_fm_pi hs40 (by first | decide | omega))
          obtain ⟨s41, hs41, h⟩ := hq_bind h
          have t := hq_fm_tr t (f_X12_token_fr hs41)
          have h := Option.some.inj h
          subst h
          exact t
        · rw [if_neg c39] at h
          have h := Option.some.inj h
          subst h
          exact t
      · rw [if_neg c30] at h
        have h := Option.some.inj h
        subst h
        exact t
  · rw [if_neg c1] at h
    have h := Option.some.inj h
    subst h
    exact t
theorem f_X12_expression_G_fr {n : Nat} : ∀ k : Nat, (∀ (s : hq_S) (y : hq_S), f_X12_expression_G n k 0 s = some y → hq_fm s y) ∧ (∀ (s : hq_S) (y : hq_S), f_X12_expression_G n k 1 s = some y → hq_fm s y) ∧ (∀ (s : hq_S) (y : hq_S), f_X12_expression_G n k 2 s = some y → hq_fm s y) ∧ (∀ (s : hq_S) (y : hq_S), f_X12_expression_G n k 3 s = some y → hq_fm s y) ∧ (∀ (s : hq_S) (y : hq_S), f_X12_expression_G n k 4 s = some y → hq_fm s y) ∧ (∀ (s : hq_S) (y : hq_S), f_X12_expression_G n k 5 s = some y → hq_fm s y) := by
  intro k
  induction k with
  | zero =>
    refine ⟨?_, ?_, ?_, ?_, ?_, ?_⟩
    all_goals
      intros
      next h => cases h
  | succ k ih =>
    obtain ⟨I0, I1, I2, I3, I4, I5⟩ := ih
    refine ⟨?_, ?_, ?_, ?_, ?_, ?_⟩
    · intro s y h
      exact f_X12_expression_S_fr I0 I1 I2 I3 I4 I5 h
    · intro s y h
      exact f_X12_conjunction_S_fr I0 I1 I2 I3 I4 I5 h
    · intro s y h
      exact f_X12_negation_S_fr I0 I1 I2 I3 I4 I5 h
    · intro s y h
      exact f_X12_sum_S_fr I0 I1 I2 I3 I4 I5 h
    · intro s y h
      exact f_X12_product_S_fr I0 I1 I2 I3 I4 I5 h
    · intro s y h
      exact f_X12_primary_S_fr I0 I1 I2 I3 I4 I5 h
theorem f_X12_expression_fr {n : Nat} {s : hq_S} {y : hq_S} (h : f_X12_expression n s = some y) : hq_fm s y := (f_X12_expression_G_fr 200).1 s y h
theorem f_X12_conjunction_fr {n : Nat} {s : hq_S} {y : hq_S} (h : f_X12_conjunction n s = some y) : hq_fm s y := (f_X12_expression_G_fr 200).2.1 s y h
theorem f_X12_negation_fr {n : Nat} {s : hq_S} {y : hq_S} (h : f_X12_negation n s = some y) : hq_fm s y := (f_X12_expression_G_fr 200).2.2.1 s y h
theorem f_X12_sum_fr {n : Nat} {s : hq_S} {y : hq_S} (h : f_X12_sum n s = some y) : hq_fm s y := (f_X12_expression_G_fr 200).2.2.2.1 s y h
theorem f_X12_product_fr {n : Nat} {s : hq_S} {y : hq_S} (h : f_X12_product n s = some y) : hq_fm s y := (f_X12_expression_G_fr 200).2.2.2.2.1 s y h
theorem f_X12_primary_fr {n : Nat} {s : hq_S} {y : hq_S} (h : f_X12_primary n s = some y) : hq_fm s y := (f_X12_expression_G_fr 200).2.2.2.2.2 s y h
theorem f_X12_lawLine_fr {n : Nat} {s : hq_S} {y : hq_S} (h : f_X12_lawLine n s = some y) : hq_fm s y := by
  unfold f_X12_lawLine at h
  have t := hq_fm_rf s
  obtain ⟨z1, hz1, h⟩ := hq_bind h
  have t : hq_fm s z1 := by
    clear h
    have h := hz1
    by_cases c2 : (hq_gi s 174 26) = 0
    · rw [if_pos c2] at h
      by_cases c4 : (hq_gi s 174 27) < (9 : Int32)
      · rw [if_pos c4] at h
        obtain ⟨s5, hs5, h⟩ := hq_bind h
        have t := hq_fm_tr t (f_X12_wrong_fr hs5)
        cases h
        exact t
      · rw [if_neg c4] at h
        by_cases c6 : (11 : Int32) < (hq_gi s 174 27)
        · rw [if_pos c6] at h
          obtain ⟨s7, hs7, h⟩ := hq_bind h
          have t := hq_fm_tr t (f_X12_wrong_fr hs7)
          cases h
          exact t
        · rw [if_neg c6] at h
          cases h
          exact t
    · rw [if_neg c2] at h
      obtain ⟨s3, hs3, h⟩ := hq_bind h
      have t := hq_fm_tr t (f_X12_wrong_fr hs3)
      cases h
      exact t
  obtain ⟨z8, hz8, h⟩ := hq_bind h
  have t : hq_fm s z8 := by
    clear h
    have h := hz8
    by_cases c9 : (hq_gi z1 174 28) = 0
    · rw [if_pos c9] at h
      by_cases c10 : (((hq_gi z1 174 21) >>> (((16 : Int32) + ((hq_gi z1 174 27) - (9 : Int32))) &&& 31)) &&& (1 : Int32)) = (1 : Int32)
      · rw [if_pos c10] at h
        obtain ⟨s11, hs11, h⟩ := hq_bind h
        have t := hq_fm_tr t (f_X12_wrong_fr hs11)
        cases h
        exact t
      · rw [if_neg c10] at h
        cases h
        exact t
    · rw [if_neg c9] at h
      cases h
      exact t
  by_cases c12 : (hq_gi z8 174 28) = 0
  · rw [if_pos c12] at h
    obtain ⟨s13, hs13, h⟩ := hq_bind h
    have t := hq_fm_tr t (hq_fm_pi hs13 (by first | decide | omega))
    obtain ⟨s14, hs14, h⟩ := hq_bind h
    have t := hq_fm_tr t (f_X12_token_fr hs14)
    obtain ⟨y15, hy15, h⟩ := hq_bind h
    have t := hq_fm_tr t (f_X12_fresher_fr hy15)
    obtain ⟨s16, hs16, h⟩ := hq_bind h
    have t := hq_fm_tr t (hq_fm_st hs16 (by first | decide | omega))
    obtain ⟨s17, hs17, h⟩ := hq_bind h
    have t := hq_fm_tr t (f_X12_expression_fr hs17)
    obtain ⟨y18, hy18, h⟩ := hq_bind h
    have t := hq_fm_tr t (f_X12_fresher_fr hy18)
    obtain ⟨s19, hs19, h⟩ := hq_bind h
    have t := hq_fm_tr t (hq_fm_st hs19 (by first | decide | omega))
    have h := Option.some.inj h
    subst h
    exact t
  · rw [if_neg c12] at h
    have h := Option.some.inj h
    subst h
    exact t
theorem f_X12_line_J16_fr {n : Nat} {s : hq_S} {y : hq_S} (h : f_X12_line_J16 n s = some y) : hq_fm s y := by
  unfold f_X12_line_J16 at h
  have t := hq_fm_rf s
  obtain ⟨s2, hs2, h⟩ := hq_bind h
  have t := hq_fm_tr t (f_X12_wrong_fr hs2)
  have h := Option.some.inj h
  subst h
  exact t
theorem f_X12_line_J404_fr {n : Nat} {a1 : Int32} {s : hq_S} {y : hq_S} (h : f_X12_line_J404 n a1 s = some y) : hq_fm s y := by
  unfold f_X12_line_J404 at h
  have t := hq_fm_rf s
  by_cases c28 : (hq_gi s 174 28) = 0
  · rw [if_pos c28] at h
    obtain ⟨y29, hy29, h⟩ := hq_bind h
    have t := hq_fm_tr t (f_X12_isSign_fr hy29)
    obtain ⟨z30, hz30, h⟩ := hq_bind h
    have t : hq_fm s z30 := by
      clear h
      have h := hz30
      by_cases c31 : y29.1 = 0
      · rw [if_pos c31] at h
        obtain ⟨s33, hs33, h⟩ := hq_bind h
        have t := hq_fm_tr t (f_X12_wrong_fr hs33)
        cases h
        exact t
      · rw [if_neg c31] at h
        obtain ⟨s32, hs32, h⟩ := hq_bind h
        have t := hq_fm_tr t (f_X12_token_fr hs32)
        cases h
        exact t
    obtain ⟨s34, hs34, h⟩ := hq_bind h
    have t := hq_fm_tr t (hq_fm_pi hs34 (by first | decide | omega))
    have h := Option.some.inj h
    subst h
    exact t
  · rw [if_neg c28] at h
    have h := Option.some.inj h
    subst h
    exact t
theorem f_X12_line_fr {n : Nat} {s : hq_S} {y : hq_S} (h : f_X12_line n s = some y) : hq_fm s y := by
  unfold f_X12_line at h
  have t := hq_fm_rf s
  by_cases c1 : (hq_gi s 174 26) = 0
  · rw [if_pos c1] at h
    by_cases c3 : (8 : Int32) < (hq_gi s 174 27)
    · rw [if_pos c3] at h
      exact hq_fm_tr t (f_X12_line_J16_fr h)
    · rw [if_neg c3] at h
      obtain ⟨y4, hy4, h⟩ := hq_bind h
      have t := hq_fm_tr t (f_X12_isFull_fr hy4)
      obtain ⟨z5, hz5, h⟩ := hq_bind h
      have t : hq_fm s z5 := by
        clear h
        have h := hz5
        by_cases c6 : y4.1 = 0
        · rw [if_pos c6] at h
          by_cases c7 : (hq_gi s 174 27) = (6 : Int32)
          · rw [if_pos c7] at h
            by_cases c8 : (((hq_gi y4.2 174 21) >>> ((hq_gi s 174 27) &&& 31)) &&& (1 : Int32)) = (1 : Int32)
            · rw [if_pos c8] at h
              obtain ⟨s9, hs9, h⟩ := hq_bind h
              have t := hq_fm_tr t (f_X12_wrong_fr hs9)
              cases h
              exact t
            · rw [if_neg c8] at h
              cases h
              exact t
          · rw [if_neg c7] at h
            by_cases c10 : (hq_gi s 174 27) = (7 : Int32)
            · rw [if_pos c10] at h
              by_cases c11 : (((hq_gi y4.2 174 21) >>> ((hq_gi s 174 27) &&& 31)) &&& (1 : Int32)) = (1 : Int32)
              · rw [if_pos c11] at h
                obtain ⟨s12, hs12, h⟩ := hq_bind h
                have t := hq_fm_tr t (f_X12_wrong_fr hs12)
                cases h
                exact t
              · rw [if_neg c11] at h
                cases h
                exact t
            · rw [if_neg c10] at h
              cases h
              exact t
        · rw [if_neg c6] at h
          obtain ⟨s13, hs13, h⟩ := hq_bind h
          have t := hq_fm_tr t (f_X12_wrong_fr hs13)
          cases h
          exact t
      by_cases c14 : (hq_gi z5 174 28) = 0
      · rw [if_pos c14] at h
        obtain ⟨s15, hs15, h⟩ := hq_bind h
        have t := hq_fm_tr t (hq_fm_pi hs15 (by first | decide | omega))
        obtain ⟨s16, hs16, h⟩ := hq_bind h
        have t := hq_fm_tr t (f_X12_token_fr hs16)
        by_cases c17 : (hq_gi s 174 27) = (0 : Int32)
        · rw [if_pos c17] at h
          obtain ⟨y18, hy18, h⟩ := hq_bind h
          have t := hq_fm_tr t (f_X12_fresher_fr hy18)
          obtain ⟨y19, hy19, h⟩ := hq_bind h
          have t := hq_fm_tr t (f_X12_fresher_fr hy19)
          obtain ⟨y20, hy20, h⟩ := hq_bind h
          have t := hq_fm_tr t (f_X12_fresh_fr (by first | decide | omega) hy20)
          obtain ⟨s21, hs21, h⟩ := hq_bind h
          have t := hq_fm_tr t (hq_fm_st hs21 (by first | decide | omega))
          obtain ⟨y22, hy22, h⟩ := hq_bind h
          have t := hq_fm_tr t (f_X12_numeral_fr hy22)
          obtain ⟨s23, hs23, h⟩ := hq_bind h
          have t := hq_fm_tr t (hq_fm_st hs23 (by first | decide | omega))
          obtain ⟨y24, hy24, h⟩ := hq_bind h
          have t := hq_fm_tr t (f_X12_numeral_fr hy24)
          obtain ⟨s25, hs25, h⟩ := hq_bind h
          have t := hq_fm_tr t (hq_fm_st hs25 (by first | decide | omega))
          obtain ⟨y26, hy26, h⟩ := hq_bind h
          have t := hq_fm_tr t (f_X12_fresher_fr hy26)
          obtain ⟨s27, hs27, h⟩ := hq_bind h
          have t := hq_fm_tr t (f_X12_reads_fr hs27)
          exact hq_fm_tr t (f_X12_line_J404_fr h)
        rw [if_neg c17] at h
        by_cases c35 : (hq_gi s 174 27) = (1 : Int32)
        · rw [if_pos c35] at h
          obtain ⟨z36, hz36, h⟩ := hq_bind h
          obtain ⟨s38, hs38, h⟩ := hq_bind h
          have t := hq_fm_tr t (f_X12_laneLine_fr hs38)
          exact hq_fm_tr t (f_X12_line_J404_fr h)
        rw [if_neg c35] at h
        by_cases c39 : (hq_gi s 174 27) = (2 : Int32)
        · rw [if_pos c39] at h
          obtain ⟨z40, hz40, h⟩ := hq_bind h
          obtain ⟨s42, hs42, h⟩ := hq_bind h
          have t := hq_fm_tr t (f_X12_laneLine_fr hs42)
          exact hq_fm_tr t (f_X12_line_J404_fr h)
        rw [if_neg c39] at h
        by_cases c43 : (hq_gi s 174 27) = (3 : Int32)
        · rw [if_pos c43] at h
          obtain ⟨y44, hy44, h⟩ := hq_bind h
          have t := hq_fm_tr t (f_X12_fresher_fr hy44)
          obtain ⟨y45, hy45, h⟩ := hq_bind h
          have t := hq_fm_tr t (f_X12_fresher_fr hy45)
          obtain ⟨y46, hy46, h⟩ := hq_bind h
          have t := hq_fm_tr t (f_X12_fresh_fr (by first | decide | omega) hy46)
          obtain ⟨s47, hs47, h⟩ := hq_bind h
          have t := hq_fm_tr t (hq_fm_st hs47 (by first | decide | omega))
          obtain ⟨y48, hy48, h⟩ := hq_bind h
          have t := hq_fm_tr t (f_X12_cornerAhead_fr hy48)
          obtain ⟨s49, hs49, h⟩ := hq_bind h
          have t := hq_fm_tr t (hq_fm_st hs49 (by first | decide | omega))
          obtain ⟨s50, hs50, h⟩ := hq_bind h
          have t := hq_fm_tr t (hq_fm_st hs50 (by first | decide | omega))
          obtain ⟨y51, hy51, h⟩ := hq_bind h
          have t := hq_fm_tr t (f_X12_fresher_fr hy51)
          obtain ⟨s52, hs52, h⟩ := hq_bind h
          have t := hq_fm_tr t (f_X12_reads_fr hs52)
          exact hq_fm_tr t (f_X12_line_J404_fr h)
        rw [if_neg c43] at h
        by_cases c53 : (hq_gi s 174 27) = (4 : Int32)
        · rw [if_pos c53] at h
          obtain ⟨s54, hs54, h⟩ := hq_bind h
          have t := hq_fm_tr t (f_X12_beatLine_fr hs54)
          exact hq_fm_tr t (f_X12_line_J404_fr h)
        rw [if_neg c53] at h
        by_cases c55 : (hq_gi s 174 27) = (5 : Int32)
        · rw [if_pos c55] at h
          obtain ⟨y56, hy56, h⟩ := hq_bind h
          have t := hq_fm_tr t (f_X12_fresher_fr hy56)
          obtain ⟨y57, hy57, h⟩ := hq_bind h
          have t := hq_fm_tr t (f_X12_fresher_fr hy57)
          obtain ⟨y58, hy58, h⟩ := hq_bind h
          have t := hq_fm_tr t (f_X12_fresh_fr (by first | decide | omega) hy58)
          obtain ⟨s59, hs59, h⟩ := hq_bind h
          have t := hq_fm_tr t (hq_fm_st hs59 (by first | decide | omega))
          obtain ⟨y60, hy60, h⟩ := hq_bind h
          have t := hq_fm_tr t (f_X12_cornerAhead_fr hy60)
          obtain ⟨s61, hs61, h⟩ := hq_bind h
          have t := hq_fm_tr t (hq_fm_st hs61 (by first | decide | omega))
          obtain ⟨y62, hy62, h⟩ := hq_bind h
          have t := hq_fm_tr t (f_X12_numeral_fr hy62)
          obtain ⟨s63, hs63, h⟩ := hq_bind h
          have t := hq_fm_tr t (hq_fm_st hs63 (by first | decide | omega))
          obtain ⟨y64, hy64, h⟩ := hq_bind h
          have t := hq_fm_tr t (f_X12_fresher_fr hy64)
          obtain ⟨s65, hs65, h⟩ := hq_bind h
          have t := hq_fm_tr t (f_X12_reads_fr hs65)
          exact hq_fm_tr t (f_X12_line_J404_fr h)
        rw [if_neg c55] at h
        by_cases c66 : (hq_gi s 174 27) = (6 : Int32)
        · rw [if_pos c66] at h
          obtain ⟨y67, hy67, h⟩ := hq_bind h
          have t := hq_fm_tr t (f_X12_numeral_fr hy67)
          obtain ⟨s68, hs68, h⟩ := hq_bind h
          have t := hq_fm_tr t (f_X12_reads_fr hs68)
          exact hq_fm_tr t (f_X12_line_J404_fr h)
        rw [if_neg c66] at h
        by_cases c69 : (hq_gi s 174 27) = (7 : Int32)
        · rw [if_pos c69] at h
          obtain ⟨y70, hy70, h⟩ := hq_bind h
          have t := hq_fm_tr t (f_X12_numeral_fr hy70)
          obtain ⟨s71, hs71, h⟩ := hq_bind h
          have t := hq_fm_tr t (f_X12_reads_fr hs71)
          exact hq_fm_tr t (f_X12_line_J404_fr h)
        rw [if_neg c69] at h
        obtain ⟨s72, hs72, h⟩ := hq_bind h
        have t := hq_fm_tr t (f_X12_lawLine_fr hs72)
        exact hq_fm_tr t (f_X12_line_J404_fr h)
      · rw [if_neg c14] at h
        have h := Option.some.inj h
        subst h
        exact t
  · rw [if_neg c1] at h
    exact hq_fm_tr t (f_X12_line_J16_fr h)
theorem f_X12_half_L7_B_fr {n : Nat} {k0 : Nat} {a1 : Int32} {a2 : Int32} {q7 : Nat → Int32 → Int32 → hq_S → Option hq_S} {s : hq_S} {y : hq_S} (e7 : ∀ (k0 : Nat) (a1 : Int32) (a2 : Int32) (s : hq_S) (wk0 : 174 ≤ k0), q7 k0 a1 a2 s = some y → hq_fm s y) (wk0 : 174 ≤ k0) (h : f_X12_half_L7_B n q7 k0 a1 a2 s = some y) : hq_fm s y := by
  unfold f_X12_half_L7_B at h
  have t := hq_fm_rf s
  by_cases c3 : a2 < a1
  · rw [if_pos c3] at h
    obtain ⟨x4, hx4, h⟩ := hq_bind h
    obtain ⟨s5, hs5, h⟩ := hq_bind h
    have t := hq_fm_tr t (hq_fm_stiA hs5 (by first | decide | omega))
    exact hq_fm_tr t (e7 k0 a1 (a2 + (1 : Int32)) s5 (by first | decide | omega) h)
  · rw [if_neg c3] at h
    have h := Option.some.inj h
    subst h
    exact t
theorem f_X12_half_L7_fr {n m : Nat} {k0 : Nat} {a1 : Int32} {a2 : Int32} {s : hq_S} {y : hq_S} (wk0 : 174 ≤ k0) (h : f_X12_half_L7 n m k0 a1 a2 s = some y) : hq_fm s y := by
  induction m generalizing k0 a1 a2 s with
  | zero => cases h
  | succ m ih => exact f_X12_half_L7_B_fr (n := n) (k0 := k0) (a1 := a1) (a2 := a2) (q7 := f_X12_half_L7 n m) (fun k0 a1 a2 s wk0 h => ih wk0 h) wk0 h
theorem f_X12_half_fr {n : Nat} {k0 : Nat} {s : hq_S} {y : hq_S} (wk0 : 174 ≤ k0) (h : f_X12_half n k0 s = some y) : hq_fm s y := by
  unfold f_X12_half at h
  have t := hq_fm_rf s
  obtain ⟨x1, hx1, h⟩ := hq_bind h
  obtain ⟨x2, hx2, h⟩ := hq_bind h
  exact hq_fm_tr t (f_X12_half_L7_fr (by first | decide | omega) h)
theorem f_X12_starts_L124_B_fr {n : Nat} {a1 : Int32} {a2 : Int32} {q124 : Int32 → Int32 → hq_S → Option hq_S} {s : hq_S} {y : hq_S} (e124 : ∀ (a1 : Int32) (a2 : Int32) (s : hq_S), q124 a1 a2 s = some y → hq_fm s y) (h : f_X12_starts_L124_B n q124 a1 a2 s = some y) : hq_fm s y := by
  unfold f_X12_starts_L124_B at h
  have t := hq_fm_rf s
  by_cases c7 : a2 < (4 : Int32)
  · rw [if_pos c7] at h
    obtain ⟨x8, hx8, h⟩ := hq_bind h
    obtain ⟨s9, hs9, h⟩ := hq_bind h
    have t := hq_fm_tr t (hq_fm_st hs9 (by first | decide | omega))
    obtain ⟨s10, hs10, h⟩ := hq_bind h
    have t := hq_fm_tr t (hq_fm_st hs10 (by first | decide | omega))
    obtain ⟨s11, hs11, h⟩ := hq_bind h
    have t := hq_fm_tr t (hq_fm_st hs11 (by first | decide | omega))
    exact hq_fm_tr t (e124 a1 (a2 + (1 : Int32)) s11 h)
  · rw [if_neg c7] at h
    have h := Option.some.inj h
    subst h
    exact t
theorem f_X12_starts_L124_fr {n m : Nat} {a1 : Int32} {a2 : Int32} {s : hq_S} {y : hq_S} (h : f_X12_starts_L124 n m a1 a2 s = some y) : hq_fm s y := by
  induction m generalizing a1 a2 s with
  | zero => cases h
  | succ m ih => exact f_X12_starts_L124_B_fr (n := n) (a1 := a1) (a2 := a2) (q124 := f_X12_starts_L124 n m) (fun a1 a2 s h => ih h) h
theorem f_X12_starts_L73_B_fr {n : Nat} {a1 : Int32} {a2 : Int32} {q73 : Int32 → Int32 → hq_S → Option hq_S} {s : hq_S} {y : hq_S} (e73 : ∀ (a1 : Int32) (a2 : Int32) (s : hq_S), q73 a1 a2 s = some y → hq_fm s y) (h : f_X12_starts_L73_B n q73 a1 a2 s = some y) : hq_fm s y := by
  unfold f_X12_starts_L73_B at h
  have t := hq_fm_rf s
  by_cases c6 : a2 < (3 : Int32)
  · rw [if_pos c6] at h
    obtain ⟨x12, hx12, h⟩ := hq_bind h
    obtain ⟨s13, hs13, h⟩ := hq_bind h
    have t := hq_fm_tr t (hq_fm_st hs13 (by first | decide | omega))
    obtain ⟨s14, hs14, h⟩ := hq_bind h
    have t := hq_fm_tr t (hq_fm_st hs14 (by first | decide | omega))
    obtain ⟨s15, hs15, h⟩ := hq_bind h
    have t := hq_fm_tr t (hq_fm_st hs15 (by first | decide | omega))
    exact hq_fm_tr t (e73 a1 (a2 + (1 : Int32)) s15 h)
  · rw [if_neg c6] at h
    exact hq_fm_tr t (f_X12_starts_L124_fr h)
theorem f_X12_starts_L73_fr {n m : Nat} {a1 : Int32} {a2 : Int32} {s : hq_S} {y : hq_S} (h : f_X12_starts_L73 n m a1 a2 s = some y) : hq_fm s y := by
  induction m generalizing a1 a2 s with
  | zero => cases h
  | succ m ih => exact f_X12_starts_L73_B_fr (n := n) (a1 := a1) (a2 := a2) (q73 := f_X12_starts_L73 n m) (fun a1 a2 s h => ih h) h
theorem f_X12_starts_L28_B_fr {n : Nat} {a1 : Int32} {a2 : Int32} {q28 : Int32 → Int32 → hq_S → Option hq_S} {s : hq_S} {y : hq_S} (e28 : ∀ (a1 : Int32) (a2 : Int32) (s : hq_S), q28 a1 a2 s = some y → hq_fm s y) (h : f_X12_starts_L28_B n q28 a1 a2 s = some y) : hq_fm s y := by
  unfold f_X12_starts_L28_B at h
  have t := hq_fm_rf s
  by_cases c5 : a2 < (10 : Int32)
  · rw [if_pos c5] at h
    obtain ⟨x16, hx16, h⟩ := hq_bind h
    obtain ⟨z17, hz17, h⟩ := hq_bind h
    obtain ⟨s20, hs20, h⟩ := hq_bind h
    have t := hq_fm_tr t (hq_fm_st hs20 (by first | decide | omega))
    exact hq_fm_tr t (e28 a1 (a2 + (1 : Int32)) s20 h)
  · rw [if_neg c5] at h
    exact hq_fm_tr t (f_X12_starts_L73_fr h)
theorem f_X12_starts_L28_fr {n m : Nat} {a1 : Int32} {a2 : Int32} {s : hq_S} {y : hq_S} (h : f_X12_starts_L28 n m a1 a2 s = some y) : hq_fm s y := by
  induction m generalizing a1 a2 s with
  | zero => cases h
  | succ m ih => exact f_X12_starts_L28_B_fr (n := n) (a1 := a1) (a2 := a2) (q28 := f_X12_starts_L28 n m) (fun a1 a2 s h => ih h) h
theorem f_X12_starts_fr {n : Nat} {a1 : Int32} {s : hq_S} {y : hq_S} (h : f_X12_starts n a1 s = some y) : hq_fm s y := by
  unfold f_X12_starts at h
  have t := hq_fm_rf s
  obtain ⟨s1, hs1, h⟩ := hq_bind h
  have t := hq_fm_tr t (hq_fm_st hs1 (by first | decide | omega))
  obtain ⟨x2, hx2, h⟩ := hq_bind h
  obtain ⟨s3, hs3, h⟩ := hq_bind h
  have t := hq_fm_tr t (hq_fm_st hs3 (by first | decide | omega))
  obtain ⟨s4, hs4, h⟩ := hq_bind h
  have t := hq_fm_tr t (hq_fm_st hs4 (by first | decide | omega))
  exact hq_fm_tr t (f_X12_starts_L28_fr h)
theorem f_X12_begins_fr {n : Nat} {s : hq_S} {y : hq_S} (h : f_X12_begins n s = some y) : hq_fm s y := by
  unfold f_X12_begins at h
  have t := hq_fm_rf s
  obtain ⟨s1, hs1, h⟩ := hq_bind h
  have t := hq_fm_tr t (f_X12_starts_fr hs1)
  have h := Option.some.inj h
  subst h
  exact t
theorem f_X12_text_J149_fr {n : Nat} {a1 : Int32} {a2 : Int32} {s : hq_S} {y : (Int32 × hq_S)} (h : f_X12_text_J149 n a1 a2 s = some y) : hq_fm s y.2 := by
  unfold f_X12_text_J149 at h
  have t := hq_fm_rf s
  obtain ⟨s17, hs17, h⟩ := hq_bind h
  have t := hq_fm_tr t (hq_fm_pi hs17 (by first | decide | omega))
  obtain ⟨s18, hs18, h⟩ := hq_bind h
  have t := hq_fm_tr t (hq_fm_pi hs18 (by first | decide | omega))
  by_cases c19 : (hq_gi s18 174 28) = 0
  · rw [if_pos c19] at h
    obtain ⟨s20, hs20, h⟩ := hq_bind h
    have t := hq_fm_tr t (f_X12_half_fr (by first | decide | omega) hs20)
    obtain ⟨s21, hs21, h⟩ := hq_bind h
    have t := hq_fm_tr t (f_X12_half_fr (by first | decide | omega) hs21)
    obtain ⟨s22, hs22, h⟩ := hq_bind h
    have t := hq_fm_tr t (f_X12_half_fr (by first | decide | omega) hs22)
    obtain ⟨s23, hs23, h⟩ := hq_bind h
    have t := hq_fm_tr t (f_X12_half_fr (by first | decide | omega) hs23)
    obtain ⟨s24, hs24, h⟩ := hq_bind h
    have t := hq_fm_tr t (f_X12_half_fr (by first | decide | omega) hs24)
    obtain ⟨s25, hs25, h⟩ := hq_bind h
    have t := hq_fm_tr t (f_X12_half_fr (by first | decide | omega) hs25)
    obtain ⟨s26, hs26, h⟩ := hq_bind h
    have t := hq_fm_tr t (f_X12_half_fr (by first | decide | omega) hs26)
    obtain ⟨s27, hs27, h⟩ := hq_bind h
    have t := hq_fm_tr t (f_X12_half_fr (by first | decide | omega) hs27)
    obtain ⟨s28, hs28, h⟩ := hq_bind h
    have t := hq_fm_tr t (f_X12_half_fr (by first | decide | omega) hs28)
    obtain ⟨s29, hs29, h⟩ := hq_bind h
    have t := hq_fm_tr t (f_X12_half_fr (by first | decide | omega) hs29)
    obtain ⟨s30, hs30, h⟩ := hq_bind h
    have t := hq_fm_tr t (f_X12_half_fr (by first | decide | omega) hs30)
    obtain ⟨s31, hs31, h⟩ := hq_bind h
    have t := hq_fm_tr t (f_X12_half_fr (by first | decide | omega) hs31)
    obtain ⟨s32, hs32, h⟩ := hq_bind h
    have t := hq_fm_tr t (f_X12_half_fr (by first | decide | omega) hs32)
    obtain ⟨s33, hs33, h⟩ := hq_bind h
    have t := hq_fm_tr t (f_X12_half_fr (by first | decide | omega) hs33)
    obtain ⟨s34, hs34, h⟩ := hq_bind h
    have t := hq_fm_tr t (f_X12_half_fr (by first | decide | omega) hs34)
    obtain ⟨s35, hs35, h⟩ := hq_bind h
    have t := hq_fm_tr t (f_X12_half_fr (by first | decide | omega) hs35)
    obtain ⟨s36, hs36, h⟩ := hq_bind h
    have t := hq_fm_tr t (f_X12_half_fr (by first | decide | omega) hs36)
    obtain ⟨s37, hs37, h⟩ := hq_bind h
    have t := hq_fm_tr t (f_X12_half_fr (by first | decide | omega) hs37)
    obtain ⟨s38, hs38, h⟩ := hq_bind h
    have t := hq_fm_tr t (hq_fm_pi hs38 (by first | decide | omega))
    obtain ⟨s39, hs39, h⟩ := hq_bind h
    have t := hq_fm_tr t (hq_fm_pi hs39 (by first | decide | omega))
    obtain ⟨s40, hs40, h⟩ := hq_bind h
    have t := hq_fm_tr t (hq_fm_pi hs40 (by first | decide | omega))
    obtain ⟨s41, hs41, h⟩ := hq_bind h
    have t := hq_fm_tr t (hq_fm_pi hs41 (by first | decide | omega))
    obtain ⟨s42, hs42, h⟩ := hq_bind h
    have t := hq_fm_tr t (f_X12_begins_fr hs42)
    have h := Option.some.inj h
    subst h
    exact t
  · rw [if_neg c19] at h
    have h := Option.some.inj h
    subst h
    exact t
theorem f_X12_text_L127_B_fr {n : Nat} {a1 : Int32} {a2 : Int32} {q127 : Int32 → Int32 → hq_S → Option (Int32 × hq_S)} {s : hq_S} {y : (Int32 × hq_S)} (e127 : ∀ (a1 : Int32) (a2 : Int32) (s : hq_S), q127 a1 a2 s = some y → hq_fm s y.2) (h : f_X12_text_L127_B n q127 a1 a2 s = some y) : hq_fm s y.2 := by
  unfold f_X12_text_L127_B at h
  have t := hq_fm_rf s
  by_cases c16 : (hq_gi s 174 28) = 0
  · rw [if_pos c16] at h
    by_cases c43 : (hq_gi s 174 26) = (4 : Int32)
    · rw [if_pos c43] at h
      exact hq_fm_tr t (f_X12_text_J149_fr h)
    · rw [if_neg c43] at h
      obtain ⟨s44, hs44, h⟩ := hq_bind h
      have t := hq_fm_tr t (f_X12_line_fr hs44)
      exact hq_fm_tr t (e127 a1 a2 s44 h)
  · rw [if_neg c16] at h
    exact hq_fm_tr t (f_X12_text_J149_fr h)
theorem f_X12_text_L127_fr {n m : Nat} {a1 : Int32} {a2 : Int32} {s : hq_S} {y : (Int32 × hq_S)} (h : f_X12_text_L127 n m a1 a2 s = some y) : hq_fm s y.2 := by
  induction m generalizing a1 a2 s with
  | zero => cases h
  | succ m ih => exact f_X12_text_L127_B_fr (n := n) (a1 := a1) (a2 := a2) (q127 := f_X12_text_L127 n m) (fun a1 a2 s h => ih h) h
theorem f_X12_text_L77_B_fr {n : Nat} {a1 : Int32} {a2 : Int32} {q77 : Int32 → Int32 → hq_S → Option (Int32 × hq_S)} {s : hq_S} {y : (Int32 × hq_S)} (e77 : ∀ (a1 : Int32) (a2 : Int32) (s : hq_S), q77 a1 a2 s = some y → hq_fm s y.2) (h : f_X12_text_L77_B n q77 a1 a2 s = some y) : hq_fm s y.2 := by
  unfold f_X12_text_L77_B at h
  have t := hq_fm_rf s
  by_cases c10 : a2 < (6 : Int32)
  · rw [if_pos c10] at h
    obtain ⟨s45, hs45, h⟩ := hq_bind h
    have t := hq_fm_tr t (hq_fm_st hs45 (by first | decide | omega))
    obtain ⟨s46, hs46, h⟩ := hq_bind h
    have t := hq_fm_tr t (hq_fm_st hs46 (by first | decide | omega))
    exact hq_fm_tr t (e77 a1 (a2 + (1 : Int32)) s46 h)
  · rw [if_neg c10] at h
    obtain ⟨s11, hs11, h⟩ := hq_bind h
    have t := hq_fm_tr t (hq_fm_pi hs11 (by first | decide | omega))
    obtain ⟨s12, hs12, h⟩ := hq_bind h
    have t := hq_fm_tr t (hq_fm_pi hs12 (by first | decide | omega))
    obtain ⟨s13, hs13, h⟩ := hq_bind h
    have t := hq_fm_tr t (hq_fm_pi hs13 (by first | decide | omega))
    obtain ⟨s14, hs14, h⟩ := hq_bind h
    have t := hq_fm_tr t (hq_fm_pi hs14 (by first | decide | omega))
    obtain ⟨s15, hs15, h⟩ := hq_bind h
    have t := hq_fm_tr t (f_X12_token_fr hs15)
    exact hq_fm_tr t (f_X12_text_L127_fr h)
theorem f_X12_text_L77_fr {n m : Nat} {a1 : Int32} {a2 : Int32} {s : hq_S} {y : (Int32 × hq_S)} (h : f_X12_text_L77 n m a1 a2 s = some y) : hq_fm s y.2 := by
  induction m generalizing a1 a2 s with
  | zero => cases h
  | succ m ih => exact f_X12_text_L77_B_fr (n := n) (a1 := a1) (a2 := a2) (q77 := f_X12_text_L77 n m) (fun a1 a2 s h => ih h) h
theorem f_X12_text_L47_B_fr {n : Nat} {a1 : Int32} {a2 : Int32} {q47 : Int32 → Int32 → hq_S → Option (Int32 × hq_S)} {s : hq_S} {y : (Int32 × hq_S)} (e47 : ∀ (a1 : Int32) (a2 : Int32) (s : hq_S), q47 a1 a2 s = some y → hq_fm s y.2) (h : f_X12_text_L47_B n q47 a1 a2 s = some y) : hq_fm s y.2 := by
  unfold f_X12_text_L47_B at h
  have t := hq_fm_rf s
  by_cases c9 : a2 < (7 : Int32)
  · rw [if_pos c9] at h
    obtain ⟨z47, hz47, h⟩ := hq_bind h
    obtain ⟨s49, hs49, h⟩ := hq_bind h
    have t := hq_fm_tr t (f_X12_reads_fr hs49)
    exact hq_fm_tr t (e47 a1 (a2 + (1 : Int32)) s49 h)
  · rw [if_neg c9] at h
    exact hq_fm_tr t (f_X12_text_L77_fr h)
theorem f_X12_text_L47_fr {n m : Nat} {a1 : Int32} {a2 : Int32} {s : hq_S} {y : (Int32 × hq_S)} (h : f_X12_text_L47 n m a1 a2 s = some y) : hq_fm s y.2 := by
  induction m generalizing a1 a2 s with
  | zero => cases h
  | succ m ih => exact f_X12_text_L47_B_fr (n := n) (a1 := a1) (a2 := a2) (q47 := f_X12_text_L47 n m) (fun a1 a2 s h => ih h) h
theorem f_X12_text_fr {n : Nat} {a1 : Int32} {s : hq_S} {y : (Int32 × hq_S)} (h : f_X12_text n a1 s = some y) : hq_fm s y.2 := by
  unfold f_X12_text at h
  have t := hq_fm_rf s
  obtain ⟨s1, hs1, h⟩ := hq_bind h
  have t := hq_fm_tr t (hq_fm_pi hs1 (by first | decide | omega))
  by_cases c2 : a1 < 0
  · rw [if_pos c2] at h
    have h := Option.some.inj h
    subst h
    exact t
  · rw [if_neg c2] at h
    by_cases c3 : (hq_gi s1 174 2) < a1
    · rw [if_pos c3] at h
      have h := Option.some.inj h
      subst h
      exact t
    · rw [if_neg c3] at h
      obtain ⟨s4, hs4, h⟩ := hq_bind h
      have t := hq_fm_tr t (hq_fm_pi hs4 (by first | decide | omega))
      obtain ⟨s5, hs5, h⟩ := hq_bind h
      have t := hq_fm_tr t (hq_fm_pi hs5 (by first | decide | omega))
      obtain ⟨s6, hs6, h⟩ := hq_bind h
      have t := hq_fm_tr t (hq_fm_pi hs6 (by first | decide | omega))
      obtain ⟨s7, hs7, h⟩ := hq_bind h
      have t := hq_fm_tr t (hq_fm_pi hs7 (by first | decide | omega))
      obtain ⟨s8, hs8, h⟩ := hq_bind h
      have t := hq_fm_tr t (hq_fm_pi hs8 (by first | decide | omega))
      exact hq_fm_tr t (f_X12_text_L47_fr h)
theorem f_X12_fault_fr {n : Nat} {a1 : Int32} {s : hq_S} {y : (Int32 × hq_S)} (h : f_X12_fault n a1 s = some y) : hq_fm s y.2 := by
  unfold f_X12_fault at h
  have t := hq_fm_rf s
  obtain ⟨s1, hs1, h⟩ := hq_bind h
  have t := hq_fm_tr t (hq_fm_pi hs1 (by first | decide | omega))
  by_cases c2 : a1 = 0
  · rw [if_pos c2] at h
    have h := Option.some.inj h
    subst h
    exact t
  · rw [if_neg c2] at h
    by_cases c3 : a1 = (1 : Int32)
    · rw [if_pos c3] at h
      have h := Option.some.inj h
      subst h
      exact t
    · rw [if_neg c3] at h
      have h := Option.some.inj h
      subst h
      exact t
theorem f_X12_named_fr {n : Nat} {a1 : Int32} {a2 : Int32} {s : hq_S} {y : (Int32 × hq_S)} (h : f_X12_named n a1 a2 s = some y) : hq_fm s y.2 := by
  unfold f_X12_named at h
  have t := hq_fm_rf s
  obtain ⟨s1, hs1, h⟩ := hq_bind h
  have t := hq_fm_tr t (hq_fm_pi hs1 (by first | decide | omega))
  by_cases c2 : a1 = (0 : Int32)
  · rw [if_pos c2] at h
    obtain ⟨x3, hx3, h⟩ := hq_bind h
    obtain ⟨y4, hy4, h⟩ := hq_bind h
    have t := hq_fm_tr t (f_X12_found_fr (by first | decide | omega) hy4)
    have h := Option.some.inj h
    subst h
    exact t
  rw [if_neg c2] at h
  by_cases c5 : a1 = (1 : Int32)
  · rw [if_pos c5] at h
    obtain ⟨x6, hx6, h⟩ := hq_bind h
    obtain ⟨y7, hy7, h⟩ := hq_bind h
    have t := hq_fm_tr t (f_X12_found_fr (by first | decide | omega) hy7)
    have h := Option.some.inj h
    subst h
    exact t
  rw [if_neg c5] at h
  by_cases c8 : a1 = (2 : Int32)
  · rw [if_pos c8] at h
    obtain ⟨x9, hx9, h⟩ := hq_bind h
    obtain ⟨y10, hy10, h⟩ := hq_bind h
    have t := hq_fm_tr t (f_X12_found_fr (by first | decide | omega) hy10)
    have h := Option.some.inj h
    subst h
    exact t
  rw [if_neg c8] at h
  have h := Option.some.inj h
  subst h
  exact t
theorem f_X12_is_fr {n : Nat} {a0 : Int32} {s : hq_S} {y : (Int64 × hq_S)} (h : f_X12_is n a0 s = some y) : hq_fm s y.2 := by
  unfold f_X12_is at h
  have t := hq_fm_rf s
  by_cases c1 : a0 = 0
  · rw [if_pos c1] at h
    have h := Option.some.inj h
    subst h
    exact t
  · rw [if_neg c1] at h
    have h := Option.some.inj h
    subst h
    exact t
theorem f_X12_works_J407_fr {n : Nat} {a1 : Int32} {j2 : Int64} {j4 : Int64} {j6 : Int64} {s : hq_S} {y : (Int32 × hq_S)} (h : f_X12_works_J407 n a1 j2 j4 j6 s = some y) : hq_fm s y.2 := by
  unfold f_X12_works_J407 at h
  have t := hq_fm_rf s
  obtain ⟨s7, hs7, h⟩ := hq_bind h
  have t := hq_fm_tr t (hq_fm_stj hs7 (by first | decide | omega))
  by_cases c8 : 0 < (lg_cmp j6 (1000000000000 : Int64))
  · rw [if_pos c8] at h
    have h := Option.some.inj h
    subst h
    exact t
  · rw [if_neg c8] at h
    by_cases c9 : (lg_cmp j6 (-1000000000000 : Int64)) < 0
    · rw [if_pos c9] at h
      have h := Option.some.inj h
      subst h
      exact t
    · rw [if_neg c9] at h
      have h := Option.some.inj h
      subst h
      exact t
theorem f_X12_works_J212_fr {n : Nat} {a1 : Int32} {j2 : Int64} {j4 : Int64} {s : hq_S} {y : (Int32 × hq_S)} (h : f_X12_works_J212 n a1 j2 j4 s = some y) : hq_fm s y.2 := by
  unfold f_X12_works_J212 at h
  have t := hq_fm_rf s
  exact hq_fm_tr t (f_X12_works_J407_fr h)
theorem f_X12_works_fr {n : Nat} {a1 : Int32} {s : hq_S} {y : (Int32 × hq_S)} (h : f_X12_works n a1 s = some y) : hq_fm s y.2 := by
  unfold f_X12_works at h
  have t := hq_fm_rf s
  obtain ⟨x1, hx1, h⟩ := hq_bind h
  by_cases c2 : a1 = (260 : Int32)
  · rw [if_pos c2] at h
    obtain ⟨z50, hz50, h⟩ := hq_bind h
    obtain ⟨y52, hy52, h⟩ := hq_bind h
    have t := hq_fm_tr t (f_X12_is_fr hy52)
    obtain ⟨s53, hs53, h⟩ := hq_bind h
    have t := hq_fm_tr t (hq_fm_stj hs53 (by first | decide | omega))
    have h := Option.some.inj h
    subst h
    exact t
  · rw [if_neg c2] at h
    obtain ⟨x3, hx3, h⟩ := hq_bind h
    obtain ⟨s4, hs4, h⟩ := hq_bind h
    have t := hq_fm_tr t (hq_fm_pi hs4 (by first | decide | omega))
    by_cases c5 : a1 = (42 : Int32)
    · rw [if_pos c5] at h
      by_cases c6 : (lg_cmp x3 (0 : Int64)) = 0
      · rw [if_pos c6] at h
        exact hq_fm_tr t (f_X12_works_J212_fr h)
      · rw [if_neg c6] at h
        obtain ⟨x10, hx10, h⟩ := hq_bind h
        by_cases c11 : 0 < (lg_cmp (hq_absj x1) x10)
        · rw [if_pos c11] at h
          have h := Option.some.inj h
          subst h
          exact t
        · rw [if_neg c11] at h
          exact hq_fm_tr t (f_X12_works_J212_fr h)
    rw [if_neg c5] at h
    by_cases c12 : a1 = (43 : Int32)
    · rw [if_pos c12] at h
      exact hq_fm_tr t (f_X12_works_J407_fr h)
    rw [if_neg c12] at h
    by_cases c13 : a1 = (45 : Int32)
    · rw [if_pos c13] at h
      exact hq_fm_tr t (f_X12_works_J407_fr h)
    rw [if_neg c13] at h
    by_cases c14 : a1 = (47 : Int32)
    · rw [if_pos c14] at h
      by_cases c15 : (lg_cmp x1 (0 : Int64)) = 0
      · rw [if_pos c15] at h
        have h := Option.some.inj h
        subst h
        exact t
      · rw [if_neg c15] at h
        obtain ⟨x16, hx16, h⟩ := hq_bind h
        exact hq_fm_tr t (f_X12_works_J407_fr h)
    rw [if_neg c14] at h
    by_cases c17 : a1 = (60 : Int32)
    · rw [if_pos c17] at h
      obtain ⟨z18, hz18, h⟩ := hq_bind h
      obtain ⟨y20, hy20, h⟩ := hq_bind h
      have t := hq_fm_tr t (f_X12_is_fr hy20)
      exact hq_fm_tr t (f_X12_works_J407_fr h)
    rw [if_neg c17] at h
    by_cases c21 : a1 = (61 : Int32)
    · rw [if_pos c21] at h
      obtain ⟨z22, hz22, h⟩ := hq_bind h
      obtain ⟨y24, hy24, h⟩ := hq_bind h
      have t := hq_fm_tr t (f_X12_is_fr hy24)
      exact hq_fm_tr t (f_X12_works_J407_fr h)
    rw [if_neg c21] at h
    by_cases c25 : a1 = (62 : Int32)
    · rw [if_pos c25] at h
      obtain ⟨z26, hz26, h⟩ := hq_bind h
      obtain ⟨y28, hy28, h⟩ := hq_bind h
      have t := hq_fm_tr t (f_X12_is_fr hy28)
      exact hq_fm_tr t (f_X12_works_J407_fr h)
    rw [if_neg c25] at h
    by_cases c29 : a1 = (256 : Int32)
    · rw [if_pos c29] at h
      obtain ⟨z30, hz30, h⟩ := hq_bind h
      obtain ⟨y32, hy32, h⟩ := hq_bind h
      have t := hq_fm_tr t (f_X12_is_fr hy32)
      exact hq_fm_tr t (f_X12_works_J407_fr h)
    rw [if_neg c29] at h
    by_cases c33 : a1 = (257 : Int32)
    · rw [if_pos c33] at h
      obtain ⟨z34, hz34, h⟩ := hq_bind h
      obtain ⟨y36, hy36, h⟩ := hq_bind h
      have t := hq_fm_tr t (f_X12_is_fr hy36)
      exact hq_fm_tr t (f_X12_works_J407_fr h)
    rw [if_neg c33] at h
    by_cases c37 : a1 = (258 : Int32)
    · rw [if_pos c37] at h
      obtain ⟨z38, hz38, h⟩ := hq_bind h
      obtain ⟨y40, hy40, h⟩ := hq_bind h
      have t := hq_fm_tr t (f_X12_is_fr hy40)
      exact hq_fm_tr t (f_X12_works_J407_fr h)
    rw [if_neg c37] at h
    by_cases c41 : a1 = (261 : Int32)
    · rw [if_pos c41] at h
      obtain ⟨z42, hz42, h⟩ := hq_bind h
      obtain ⟨y45, hy45, h⟩ := hq_bind h
      have t := hq_fm_tr t (f_X12_is_fr hy45)
      exact hq_fm_tr t (f_X12_works_J407_fr h)
    rw [if_neg c41] at h
    obtain ⟨z46, hz46, h⟩ := hq_bind h
    obtain ⟨y49, hy49, h⟩ := hq_bind h
    have t := hq_fm_tr t (f_X12_is_fr hy49)
    exact hq_fm_tr t (f_X12_works_J407_fr h)
theorem f_X12_goes_J96_fr {n : Nat} {a1 : Int32} {a2 : Int32} {q12 : Int32 → Int32 → hq_S → Option (Int32 × hq_S)} {s : hq_S} {y : (Int32 × hq_S)} (e12 : ∀ (a1 : Int32) (a2 : Int32) (s : hq_S), q12 a1 a2 s = some y → hq_fm s y.2) (h : f_X12_goes_J96 n q12 a1 a2 s = some y) : hq_fm s y.2 := by
  unfold f_X12_goes_J96 at h
  have t := hq_fm_rf s
  exact hq_fm_tr t (e12 a1 (a2 + (1 : Int32)) s h)
theorem f_X12_goes_L12_B_fr {n : Nat} {a1 : Int32} {a2 : Int32} {q12 : Int32 → Int32 → hq_S → Option (Int32 × hq_S)} {s : hq_S} {y : (Int32 × hq_S)} (e12 : ∀ (a1 : Int32) (a2 : Int32) (s : hq_S), q12 a1 a2 s = some y → hq_fm s y.2) (h : f_X12_goes_L12_B n q12 a1 a2 s = some y) : hq_fm s y.2 := by
  unfold f_X12_goes_L12_B at h
  have t := hq_fm_rf s
  obtain ⟨x3, hx3, h⟩ := hq_bind h
  by_cases c4 : a2 < x3
  · rw [if_pos c4] at h
    obtain ⟨x5, hx5, h⟩ := hq_bind h
    by_cases c6 : x5 = (2 : Int32)
    · rw [if_pos c6] at h
      obtain ⟨x15, hx15, h⟩ := hq_bind h
      obtain ⟨y16, hy16, h⟩ := hq_bind h
      have t := hq_fm_tr t (f_X12_works_fr hy16)
      by_cases c17 : y16.1 = 0
      · rw [if_pos c17] at h
        have h := Option.some.inj h
        subst h
        exact t
      · rw [if_neg c17] at h
        exact hq_fm_tr t (f_X12_goes_J96_fr e12 h)
    · rw [if_neg c6] at h
      obtain ⟨x7, hx7, h⟩ := hq_bind h
      obtain ⟨z8, hz8, h⟩ := hq_bind h
      obtain ⟨s13, hs13, h⟩ := hq_bind h
      have t := hq_fm_tr t (hq_fm_stj hs13 (by first | decide | omega))
      obtain ⟨s14, hs14, h⟩ := hq_bind h
      have t := hq_fm_tr t (hq_fm_pi hs14 (by first | decide | omega))
      exact hq_fm_tr t (f_X12_goes_J96_fr e12 h)
  · rw [if_neg c4] at h
    have h := Option.some.inj h
    subst h
    exact t
theorem f_X12_goes_L12_fr {n m : Nat} {a1 : Int32} {a2 : Int32} {s : hq_S} {y : (Int32 × hq_S)} (h : f_X12_goes_L12 n m a1 a2 s = some y) : hq_fm s y.2 := by
  induction m generalizing a1 a2 s with
  | zero => cases h
  | succ m ih => exact f_X12_goes_L12_B_fr (n := n) (a1 := a1) (a2 := a2) (q12 := f_X12_goes_L12 n m) (fun a1 a2 s h => ih h) h
theorem f_X12_goes_fr {n : Nat} {a1 : Int32} {s : hq_S} {y : (Int32 × hq_S)} (h : f_X12_goes n a1 s = some y) : hq_fm s y.2 := by
  unfold f_X12_goes at h
  have t := hq_fm_rf s
  obtain ⟨s1, hs1, h⟩ := hq_bind h
  have t := hq_fm_tr t (hq_fm_pi hs1 (by first | decide | omega))
  obtain ⟨x2, hx2, h⟩ := hq_bind h
  exact hq_fm_tr t (f_X12_goes_L12_fr h)
theorem f_X12_hasLaw_fr {n : Nat} {a1 : Int32} {s : hq_S} {y : (Int32 × hq_S)} (h : f_X12_hasLaw n a1 s = some y) : hq_fm s y.2 := by
  unfold f_X12_hasLaw at h
  have t := hq_fm_rf s
  obtain ⟨x1, hx1, h⟩ := hq_bind h
  obtain ⟨x2, hx2, h⟩ := hq_bind h
  by_cases c3 : x2 < x1
  · rw [if_pos c3] at h
    have h := Option.some.inj h
    subst h
    exact t
  · rw [if_neg c3] at h
    have h := Option.some.inj h
    subst h
    exact t
theorem f_X12_copies_L147_B_fr {n : Nat} {a1 : Int32} {a2 : Int32} {a3 : Int32} {q147 : Int32 → Int32 → Int32 → hq_S → Option hq_S} {s : hq_S} {y : hq_S} (e147 : ∀ (a1 : Int32) (a2 : Int32) (a3 : Int32) (s : hq_S), q147 a1 a2 a3 s = some y → hq_fm s y) (h : f_X12_copies_L147_B n q147 a1 a2 a3 s = some y) : hq_fm s y := by
  unfold f_X12_copies_L147_B at h
  have t := hq_fm_rf s
  by_cases c9 : a3 < (4 : Int32)
  · rw [if_pos c9] at h
    obtain ⟨x10, hx10, h⟩ := hq_bind h
    obtain ⟨s11, hs11, h⟩ := hq_bind h
    have t := hq_fm_tr t (hq_fm_st hs11 (by first | decide | omega))
    obtain ⟨x12, hx12, h⟩ := hq_bind h
    obtain ⟨s13, hs13, h⟩ := hq_bind h
    have t := hq_fm_tr t (hq_fm_st hs13 (by first | decide | omega))
    obtain ⟨x14, hx14, h⟩ := hq_bind h
    obtain ⟨s15, hs15, h⟩ := hq_bind h
    have t := hq_fm_tr t (hq_fm_st hs15 (by first | decide | omega))
    exact hq_fm_tr t (e147 a1 a2 (a3 + (1 : Int32)) s15 h)
  · rw [if_neg c9] at h
    have h := Option.some.inj h
    subst h
    exact t
theorem f_X12_copies_L147_fr {n m : Nat} {a1 : Int32} {a2 : Int32} {a3 : Int32} {s : hq_S} {y : hq_S} (h : f_X12_copies_L147 n m a1 a2 a3 s = some y) : hq_fm s y := by
  induction m generalizing a1 a2 a3 s with
  | zero => cases h
  | succ m ih => exact f_X12_copies_L147_B_fr (n := n) (a1 := a1) (a2 := a2) (a3 := a3) (q147 := f_X12_copies_L147 n m) (fun a1 a2 a3 s h => ih h) h
theorem f_X12_copies_L74_B_fr {n : Nat} {a1 : Int32} {a2 : Int32} {a3 : Int32} {q74 : Int32 → Int32 → Int32 → hq_S → Option hq_S} {s : hq_S} {y : hq_S} (e74 : ∀ (a1 : Int32) (a2 : Int32) (a3 : Int32) (s : hq_S), q74 a1 a2 a3 s = some y → hq_fm s y) (h : f_X12_copies_L74_B n q74 a1 a2 a3 s = some y) : hq_fm s y := by
  unfold f_X12_copies_L74_B at h
  have t := hq_fm_rf s
  by_cases c8 : a3 < (3 : Int32)
  · rw [if_pos c8] at h
    obtain ⟨x16, hx16, h⟩ := hq_bind h
    obtain ⟨s17, hs17, h⟩ := hq_bind h
    have t := hq_fm_tr t (hq_fm_st hs17 (by first | decide | omega))
    obtain ⟨x18, hx18, h⟩ := hq_bind h
    obtain ⟨s19, hs19, h⟩ := hq_bind h
    have t := hq_fm_tr t (hq_fm_st hs19 (by first | decide | omega))
    obtain ⟨x20, hx20, h⟩ := hq_bind h
    obtain ⟨s21, hs21, h⟩ := hq_bind h
    have t := hq_fm_tr t (hq_fm_st hs21 (by first | decide | omega))
    exact hq_fm_tr t (e74 a1 a2 (a3 + (1 : Int32)) s21 h)
  · rw [if_neg c8] at h
    exact hq_fm_tr t (f_X12_copies_L147_fr h)
theorem f_X12_copies_L74_fr {n m : Nat} {a1 : Int32} {a2 : Int32} {a3 : Int32} {s : hq_S} {y : hq_S} (h : f_X12_copies_L74 n m a1 a2 a3 s = some y) : hq_fm s y := by
  induction m generalizing a1 a2 a3 s with
  | zero => cases h
  | succ m ih => exact f_X12_copies_L74_B_fr (n := n) (a1 := a1) (a2 := a2) (a3 := a3) (q74 := f_X12_copies_L74 n m) (fun a1 a2 a3 s h => ih h) h
theorem f_X12_copies_L38_B_fr {n : Nat} {a1 : Int32} {a2 : Int32} {a3 : Int32} {q38 : Int32 → Int32 → Int32 → hq_S → Option hq_S} {s : hq_S} {y : hq_S} (e38 : ∀ (a1 : Int32) (a2 : Int32) (a3 : Int32) (s : hq_S), q38 a1 a2 a3 s = some y → hq_fm s y) (h : f_X12_copies_L38_B n q38 a1 a2 a3 s = some y) : hq_fm s y := by
  unfold f_X12_copies_L38_B at h
  have t := hq_fm_rf s
  by_cases c7 : a3 < (10 : Int32)
  · rw [if_pos c7] at h
    obtain ⟨x22, hx22, h⟩ := hq_bind h
    obtain ⟨s23, hs23, h⟩ := hq_bind h
    have t := hq_fm_tr t (hq_fm_st hs23 (by first | decide | omega))
    exact hq_fm_tr t (e38 a1 a2 (a3 + (1 : Int32)) s23 h)
  · rw [if_neg c7] at h
    exact hq_fm_tr t (f_X12_copies_L74_fr h)
theorem f_X12_copies_L38_fr {n m : Nat} {a1 : Int32} {a2 : Int32} {a3 : Int32} {s : hq_S} {y : hq_S} (h : f_X12_copies_L38 n m a1 a2 a3 s = some y) : hq_fm s y := by
  induction m generalizing a1 a2 a3 s with
  | zero => cases h
  | succ m ih => exact f_X12_copies_L38_B_fr (n := n) (a1 := a1) (a2 := a2) (a3 := a3) (q38 := f_X12_copies_L38 n m) (fun a1 a2 a3 s h => ih h) h
theorem f_X12_copies_fr {n : Nat} {a1 : Int32} {a2 : Int32} {s : hq_S} {y : hq_S} (h : f_X12_copies n a1 a2 s = some y) : hq_fm s y := by
  unfold f_X12_copies at h
  have t := hq_fm_rf s
  obtain ⟨x1, hx1, h⟩ := hq_bind h
  obtain ⟨s2, hs2, h⟩ := hq_bind h
  have t := hq_fm_tr t (hq_fm_st hs2 (by first | decide | omega))
  obtain ⟨x3, hx3, h⟩ := hq_bind h
  obtain ⟨s4, hs4, h⟩ := hq_bind h
  have t := hq_fm_tr t (hq_fm_st hs4 (by first | decide | omega))
  obtain ⟨x5, hx5, h⟩ := hq_bind h
  obtain ⟨s6, hs6, h⟩ := hq_bind h
  have t := hq_fm_tr t (hq_fm_st hs6 (by first | decide | omega))
  exact hq_fm_tr t (f_X12_copies_L38_fr h)
theorem f_X12_isCorner_fr {n : Nat} {a1 : Int32} {s : hq_S} {y : (Int32 × hq_S)} (h : f_X12_isCorner n a1 s = some y) : hq_fm s y.2 := by
  unfold f_X12_isCorner at h
  have t := hq_fm_rf s
  by_cases c1 : a1 < 0
  · rw [if_pos c1] at h
    have h := Option.some.inj h
    subst h
    exact t
  · rw [if_neg c1] at h
    obtain ⟨x2, hx2, h⟩ := hq_bind h
    by_cases c3 : a1 < x2
    · rw [if_pos c3] at h
      have h := Option.some.inj h
      subst h
      exact t
    · rw [if_neg c3] at h
      have h := Option.some.inj h
      subst h
      exact t
theorem f_X12_isGuard_fr {n : Nat} {a1 : Int32} {s : hq_S} {y : (Int32 × hq_S)} (h : f_X12_isGuard n a1 s = some y) : hq_fm s y.2 := by
  unfold f_X12_isGuard at h
  have t := hq_fm_rf s
  by_cases c1 : a1 < 0
  · rw [if_pos c1] at h
    have h := Option.some.inj h
    subst h
    exact t
  · rw [if_neg c1] at h
    obtain ⟨x2, hx2, h⟩ := hq_bind h
    by_cases c3 : a1 < x2
    · rw [if_pos c3] at h
      have h := Option.some.inj h
      subst h
      exact t
    · rw [if_neg c3] at h
      have h := Option.some.inj h
      subst h
      exact t
theorem f_X12_isThief_fr {n : Nat} {a1 : Int32} {s : hq_S} {y : (Int32 × hq_S)} (h : f_X12_isThief n a1 s = some y) : hq_fm s y.2 := by
  unfold f_X12_isThief at h
  have t := hq_fm_rf s
  by_cases c1 : a1 < 0
  · rw [if_pos c1] at h
    have h := Option.some.inj h
    subst h
    exact t
  · rw [if_neg c1] at h
    obtain ⟨x2, hx2, h⟩ := hq_bind h
    by_cases c3 : a1 < x2
    · rw [if_pos c3] at h
      have h := Option.some.inj h
      subst h
      exact t
    · rw [if_neg c3] at h
      have h := Option.some.inj h
      subst h
      exact t
theorem f_X12_bitsOf_L4_B_fr {n : Nat} {a0 : Int32} {a1 : Int32} {a2 : Int32} {q4 : Int32 → Int32 → Int32 → hq_S → Option (Int32 × hq_S)} {s : hq_S} {y : (Int32 × hq_S)} (e4 : ∀ (a0 : Int32) (a1 : Int32) (a2 : Int32) (s : hq_S), q4 a0 a1 a2 s = some y → hq_fm s y.2) (h : f_X12_bitsOf_L4_B n q4 a0 a1 a2 s = some y) : hq_fm s y.2 := by
  unfold f_X12_bitsOf_L4_B at h
  have t := hq_fm_rf s
  by_cases c1 : a2 < (20 : Int32)
  · rw [if_pos c1] at h
    exact hq_fm_tr t (e4 a0 (a1 + ((a0 >>> (a2 &&& 31)) &&& (1 : Int32))) (a2 + (1 : Int32)) s h)
  · rw [if_neg c1] at h
    have h := Option.some.inj h
    subst h
    exact t
theorem f_X12_bitsOf_L4_fr {n m : Nat} {a0 : Int32} {a1 : Int32} {a2 : Int32} {s : hq_S} {y : (Int32 × hq_S)} (h : f_X12_bitsOf_L4 n m a0 a1 a2 s = some y) : hq_fm s y.2 := by
  induction m generalizing a0 a1 a2 s with
  | zero => cases h
  | succ m ih => exact f_X12_bitsOf_L4_B_fr (n := n) (a0 := a0) (a1 := a1) (a2 := a2) (q4 := f_X12_bitsOf_L4 n m) (fun a0 a1 a2 s h => ih h) h
theorem f_X12_bitsOf_fr {n : Nat} {a0 : Int32} {s : hq_S} {y : (Int32 × hq_S)} (h : f_X12_bitsOf n a0 s = some y) : hq_fm s y.2 := by
  unfold f_X12_bitsOf at h
  have t := hq_fm_rf s
  exact hq_fm_tr t (f_X12_bitsOf_L4_fr h)
theorem f_X12_laysFrom_L53_B_fr {n : Nat} {a1 : Int32} {a2 : Int32} {a3 : Int32} {a4 : Int32} {a5 : Int32} {a6 : Int32} {q39 : Int32 → Int32 → Int32 → Int32 → hq_S → Option hq_S} {q53 : Int32 → Int32 → Int32 → Int32 → Int32 → Int32 → hq_S → Option hq_S} {s : hq_S} {y : hq_S} (e39 : ∀ (a1 : Int32) (a2 : Int32) (a3 : Int32) (a4 : Int32) (o5 : Option Value) (o6 : Option Value) (s : hq_S), q39 a1 a2 a3 a4 s = some y → hq_fm s y) (e53 : ∀ (a1 : Int32) (a2 : Int32) (a3 : Int32) (a4 : Int32) (a5 : Int32) (a6 : Int32) (s : hq_S), q53 a1 a2 a3 a4 a5 a6 s = some y → hq_fm s y) (h : f_X12_laysFrom_L53_B n q39 q53 a1 a2 a3 a4 a5 a6 s = some y) : hq_fm s y := by
  unfold f_X12_laysFrom_L53_B at h
  have t := hq_fm_rf s
  obtain ⟨x3, hx3, h⟩ := hq_bind h
  by_cases c4 : a6 < x3
  · rw [if_pos c4] at h
    obtain ⟨z5, hz5, h⟩ := hq_bind h
    have t : hq_fm s z5.2 := by
      clear h
      have h := hz5
      by_cases c6 : ((a3 >>> (a6 &&& 31)) &&& (1 : Int32)) = 0
      · rw [if_pos c6] at h
        cases h
        exact t
      · rw [if_neg c6] at h
        obtain ⟨s7, hs7, h⟩ := hq_bind h
        have t := hq_fm_tr t (hq_fm_st hs7 (by first | decide | omega))
        obtain ⟨x8, hx8, h⟩ := hq_bind h
        cases h
        exact t
    exact hq_fm_tr t (e53 a1 a2 a3 a4 z5.1 (a6 + (1 : Int32)) z5.2 h)
  · rw [if_neg c4] at h
    exact hq_fm_tr t (e39 a1 a2 (a5 &&& (a2 ^^^ (-1 : Int32))) (a4 + (1 : Int32)) none none s h)
theorem f_X12_laysFrom_L53_fr {n m : Nat} {a1 : Int32} {a2 : Int32} {a3 : Int32} {a4 : Int32} {a5 : Int32} {a6 : Int32} {q39 : Int32 → Int32 → Int32 → Int32 → hq_S → Option hq_S} {s : hq_S} {y : hq_S} (e39 : ∀ (a1 : Int32) (a2 : Int32) (a3 : Int32) (a4 : Int32) (o5 : Option Value) (o6 : Option Value) (s : hq_S), q39 a1 a2 a3 a4 s = some y → hq_fm s y) (h : f_X12_laysFrom_L53 n q39 m a1 a2 a3 a4 a5 a6 s = some y) : hq_fm s y := by
  induction m generalizing a1 a2 a3 a4 a5 a6 s with
  | zero => cases h
  | succ m ih => exact f_X12_laysFrom_L53_B_fr (n := n) (a1 := a1) (a2 := a2) (a3 := a3) (a4 := a4) (a5 := a5) (a6 := a6) (q53 := f_X12_laysFrom_L53 n q39 m) e39 (fun a1 a2 a3 a4 a5 a6 s h => ih h) h
theorem f_X12_laysFrom_L39_B_fr {n : Nat} {a1 : Int32} {a2 : Int32} {a3 : Int32} {a4 : Int32} {q39 : Int32 → Int32 → Int32 → Int32 → hq_S → Option hq_S} {s : hq_S} {y : hq_S} (e39 : ∀ (a1 : Int32) (a2 : Int32) (a3 : Int32) (a4 : Int32) (o5 : Option Value) (o6 : Option Value) (s : hq_S), q39 a1 a2 a3 a4 s = some y → hq_fm s y) (h : f_X12_laysFrom_L39_B n q39 a1 a2 a3 a4 s = some y) : hq_fm s y := by
  unfold f_X12_laysFrom_L39_B at h
  have t := hq_fm_rf s
  by_cases c2 : a3 = 0
  · rw [if_pos c2] at h
    have h := Option.some.inj h
    subst h
    exact t
  · rw [if_neg c2] at h
    exact hq_fm_tr t (f_X12_laysFrom_L53_fr e39 h)
theorem f_X12_laysFrom_L39_fr {n m : Nat} {a1 : Int32} {a2 : Int32} {a3 : Int32} {a4 : Int32} {s : hq_S} {y : hq_S} (h : f_X12_laysFrom_L39 n m a1 a2 a3 a4 s = some y) : hq_fm s y := by
  induction m generalizing a1 a2 a3 a4 s with
  | zero => cases h
  | succ m ih => exact f_X12_laysFrom_L39_B_fr (n := n) (a1 := a1) (a2 := a2) (a3 := a3) (a4 := a4) (q39 := f_X12_laysFrom_L39 n m) (fun a1 a2 a3 a4 _ _ s h => ih h) h
theorem f_X12_laysFrom_L9_B_fr {n : Nat} {a1 : Int32} {a2 : Int32} {a3 : Int32} {a4 : Int32} {q9 : Int32 → Int32 → Int32 → Int32 → hq_S → Option hq_S} {s : hq_S} {y : hq_S} (e9 : ∀ (a1 : Int32) (a2 : Int32) (a3 : Int32) (a4 : Int32) (s : hq_S), q9 a1 a2 a3 a4 s = some y → hq_fm s y) (h : f_X12_laysFrom_L9_B n q9 a1 a2 a3 a4 s = some y) : hq_fm s y := by
  unfold f_X12_laysFrom_L9_B at h
  have t := hq_fm_rf s
  by_cases c1 : a4 < (10 : Int32)
  · rw [if_pos c1] at h
    obtain ⟨s9, hs9, h⟩ := hq_bind h
    have t := hq_fm_tr t (hq_fm_st hs9 (by first | decide | omega))
    exact hq_fm_tr t (e9 a1 a2 a3 (a4 + (1 : Int32)) s9 h)
  · rw [if_neg c1] at h
    exact hq_fm_tr t (f_X12_laysFrom_L39_fr h)
theorem f_X12_laysFrom_L9_fr {n m : Nat} {a1 : Int32} {a2 : Int32} {a3 : Int32} {a4 : Int32} {s : hq_S} {y : hq_S} (h : f_X12_laysFrom_L9 n m a1 a2 a3 a4 s = some y) : hq_fm s y := by
  induction m generalizing a1 a2 a3 a4 s with
  | zero => cases h
  | succ m ih => exact f_X12_laysFrom_L9_B_fr (n := n) (a1 := a1) (a2 := a2) (a3 := a3) (a4 := a4) (q9 := f_X12_laysFrom_L9 n m) (fun a1 a2 a3 a4 s h => ih h) h
theorem f_X12_laysFrom_fr {n : Nat} {a1 : Int32} {s : hq_S} {y : hq_S} (h : f_X12_laysFrom n a1 s = some y) : hq_fm s y := by
  unfold f_X12_laysFrom at h
  have t := hq_fm_rf s
  exact hq_fm_tr t (f_X12_laysFrom_L9_fr h)
theorem f_X12_lays_L127_B_fr {n : Nat} {a1 : Int32} {a2 : Int32} {q127 : Int32 → Int32 → hq_S → Option hq_S} {s : hq_S} {y : hq_S} (e127 : ∀ (a1 : Int32) (a2 : Int32) (s : hq_S), q127 a1 a2 s = some y → hq_fm s y) (h : f_X12_lays_L127_B n q127 a1 a2 s = some y) : hq_fm s y := by
  unfold f_X12_lays_L127_B at h
  have t := hq_fm_rf s
  obtain ⟨x4, hx4, h⟩ := hq_bind h
  by_cases c5 : a2 < x4
  · rw [if_pos c5] at h
    obtain ⟨s6, hs6, h⟩ := hq_bind h
    have t := hq_fm_tr t (f_X12_laysFrom_fr hs6)
    exact hq_fm_tr t (e127 a1 (a2 + (1 : Int32)) s6 h)
  · rw [if_neg c5] at h
    have h := Option.some.inj h
    subst h
    exact t
theorem f_X12_lays_L127_fr {n m : Nat} {a1 : Int32} {a2 : Int32} {s : hq_S} {y : hq_S} (h : f_X12_lays_L127 n m a1 a2 s = some y) : hq_fm s y := by
  induction m generalizing a1 a2 s with
  | zero => cases h
  | succ m ih => exact f_X12_lays_L127_B_fr (n := n) (a1 := a1) (a2 := a2) (q127 := f_X12_lays_L127 n m) (fun a1 a2 s h => ih h) h
theorem f_X12_lays_L23_B_fr {n : Nat} {a1 : Int32} {a2 : Int32} {q23 : Int32 → Int32 → hq_S → Option hq_S} {s : hq_S} {y : hq_S} (e23 : ∀ (a1 : Int32) (a2 : Int32) (s : hq_S), q23 a1 a2 s = some y → hq_fm s y) (h : f_X12_lays_L23_B n q23 a1 a2 s = some y) : hq_fm s y := by
  unfold f_X12_lays_L23_B at h
  have t := hq_fm_rf s
  obtain ⟨x2, hx2, h⟩ := hq_bind h
  by_cases c3 : a2 < x2
  · rw [if_pos c3] at h
    obtain ⟨x7, hx7, h⟩ := hq_bind h
    obtain ⟨z8, hz8, h⟩ := hq_bind h
    have t : hq_fm s z8 := by
      clear h
      have h := hz8
      by_cases c9 : ((x7 >>> (a2 &&& 31)) &&& (1 : Int32)) = (1 : Int32)
      · rw [if_pos c9] at h
        by_cases c25 : (hq_gi s 174 49) = (4 : Int32)
        · rw [if_pos c25] at h
          obtain ⟨x26, hx26, h⟩ := hq_bind h
          obtain ⟨x27, hx27, h⟩ := hq_bind h
          obtain ⟨x28, hx28, h⟩ := hq_bind h
          obtain ⟨s29, hs29, h⟩ := hq_bind h
          have t := hq_fm_tr t (hq_fm_st hs29 (by first | decide | omega))
          obtain ⟨x30, hx30, h⟩ := hq_bind h
          by_cases c31 : x30 = 0
          · rw [if_pos c31] at h
            obtain ⟨x32, hx32, h⟩ := hq_bind h
            obtain ⟨x33, hx33, h⟩ := hq_bind h
            obtain ⟨x34, hx34, h⟩ := hq_bind h
            obtain ⟨s35, hs35, h⟩ := hq_bind h
            have t := hq_fm_tr t (hq_fm_st hs35 (by first | decide | omega))
            cases h
            exact t
          · rw [if_neg c31] at h
            by_cases c36 : (hq_gi s29 174 49) = (4 : Int32)
            · rw [if_pos c36] at h
              obtain ⟨x37, hx37, h⟩ := hq_bind h
              obtain ⟨x38, hx38, h⟩ := hq_bind h
              obtain ⟨x39, hx39, h⟩ := hq_bind h
              obtain ⟨s40, hs40, h⟩ := hq_bind h
              have t := hq_fm_tr t (hq_fm_st hs40 (by first | decide | omega))
              cases h
              exact t
            · rw [if_neg c36] at h
              cases h
              exact t
        · rw [if_neg c25] at h
          cases h
          exact t
      · rw [if_neg c9] at h
        obtain ⟨x10, hx10, h⟩ := hq_bind h
        obtain ⟨x11, hx11, h⟩ := hq_bind h
        obtain ⟨x12, hx12, h⟩ := hq_bind h
        obtain ⟨s13, hs13, h⟩ := hq_bind h
        have t := hq_fm_tr t (hq_fm_st hs13 (by first | decide | omega))
        obtain ⟨x14, hx14, h⟩ := hq_bind h
        by_cases c15 : x14 = 0
        · rw [if_pos c15] at h
          obtain ⟨x16, hx16, h⟩ := hq_bind h
          obtain ⟨x17, hx17, h⟩ := hq_bind h
          obtain ⟨x18, hx18, h⟩ := hq_bind h
          obtain ⟨s19, hs19, h⟩ := hq_bind h
          have t := hq_fm_tr t (hq_fm_st hs19 (by first | decide | omega))
          cases h
          exact t
        · rw [if_neg c15] at h
          by_cases c20 : (hq_gi s13 174 49) = (4 : Int32)
          · rw [if_pos c20] at h
            obtain ⟨x21, hx21, h⟩ := hq_bind h
            obtain ⟨x22, hx22, h⟩ := hq_bind h
            obtain ⟨x23, hx23, h⟩ := hq_bind h
            obtain ⟨s24, hs24, h⟩ := hq_bind h
            have t := hq_fm_tr t (hq_fm_st hs24 (by first | decide | omega))
            cases h
            exact t
          · rw [if_neg c20] at h
            cases h
            exact t
    exact hq_fm_tr t (e23 a1 (a2 + (1 : Int32)) z8 h)
  · rw [if_neg c3] at h
    exact hq_fm_tr t (f_X12_lays_L127_fr h)
theorem f_X12_lays_L23_fr {n m : Nat} {a1 : Int32} {a2 : Int32} {s : hq_S} {y : hq_S} (h : f_X12_lays_L23 n m a1 a2 s = some y) : hq_fm s y := by
  induction m generalizing a1 a2 s with
  | zero => cases h
  | succ m ih => exact f_X12_lays_L23_B_fr (n := n) (a1 := a1) (a2 := a2) (q23 := f_X12_lays_L23 n m) (fun a1 a2 s h => ih h) h
theorem f_X12_lays_L2_B_fr {n : Nat} {a1 : Int32} {a2 : Int32} {q2 : Int32 → Int32 → hq_S → Option hq_S} {s : hq_S} {y : hq_S} (e2 : ∀ (a1 : Int32) (a2 : Int32) (s : hq_S), q2 a1 a2 s = some y → hq_fm s y) (h : f_X12_lays_L2_B n q2 a1 a2 s = some y) : hq_fm s y := by
  unfold f_X12_lays_L2_B at h
  have t := hq_fm_rf s
  by_cases c1 : a2 < (10 : Int32)
  · rw [if_pos c1] at h
    obtain ⟨s41, hs41, h⟩ := hq_bind h
    have t := hq_fm_tr t (hq_fm_st hs41 (by first | decide | omega))
    exact hq_fm_tr t (e2 a1 (a2 + (1 : Int32)) s41 h)
  · rw [if_neg c1] at h
    exact hq_fm_tr t (f_X12_lays_L23_fr h)
theorem f_X12_lays_L2_fr {n m : Nat} {a1 : Int32} {a2 : Int32} {s : hq_S} {y : hq_S} (h : f_X12_lays_L2 n m a1 a2 s = some y) : hq_fm s y := by
  induction m generalizing a1 a2 s with
  | zero => cases h
  | succ m ih => exact f_X12_lays_L2_B_fr (n := n) (a1 := a1) (a2 := a2) (q2 := f_X12_lays_L2 n m) (fun a1 a2 s h => ih h) h
theorem f_X12_lays_fr {n : Nat} {a1 : Int32} {s : hq_S} {y : hq_S} (h : f_X12_lays n a1 s = some y) : hq_fm s y := by
  unfold f_X12_lays at h
  have t := hq_fm_rf s
  exact hq_fm_tr t (f_X12_lays_L2_fr h)
theorem f_X12_farOf_L6_B_fr {n : Nat} {a1 : Int32} {a2 : Int32} {a3 : Int32} {a4 : Int32} {q6 : Int32 → Int32 → Int32 → Int32 → hq_S → Option (Int32 × hq_S)} {s : hq_S} {y : (Int32 × hq_S)} (e6 : ∀ (a1 : Int32) (a2 : Int32) (a3 : Int32) (a4 : Int32) (s : hq_S), q6 a1 a2 a3 a4 s = some y → hq_fm s y.2) (h : f_X12_farOf_L6_B n q6 a1 a2 a3 a4 s = some y) : hq_fm s y.2 := by
  unfold f_X12_farOf_L6_B at h
  have t := hq_fm_rf s
  obtain ⟨x1, hx1, h⟩ := hq_bind h
  by_cases c2 : a4 < x1
  · rw [if_pos c2] at h
    obtain ⟨x3, hx3, h⟩ := hq_bind h
    obtain ⟨x4, hx4, h⟩ := hq_bind h
    exact hq_fm_tr t (e6 a1 a2 (hq_min a3 x4) (a4 + (1 : Int32)) s h)
  · rw [if_neg c2] at h
    have h := Option.some.inj h
    subst h
    exact t
theorem f_X12_farOf_L6_fr {n m : Nat} {a1 : Int32} {a2 : Int32} {a3 : Int32} {a4 : Int32} {s : hq_S} {y : (Int32 × hq_S)} (h : f_X12_farOf_L6 n m a1 a2 a3 a4 s = some y) : hq_fm s y.2 := by
  induction m generalizing a1 a2 a3 a4 s with
  | zero => cases h
  | succ m ih => exact f_X12_farOf_L6_B_fr (n := n) (a1 := a1) (a2 := a2) (a3 := a3) (a4 := a4) (q6 := f_X12_farOf_L6 n m) (fun a1 a2 a3 a4 s h => ih h) h
theorem f_X12_farOf_fr {n : Nat} {a1 : Int32} {a2 : Int32} {s : hq_S} {y : (Int32 × hq_S)} (h : f_X12_farOf n a1 a2 s = some y) : hq_fm s y.2 := by
  unfold f_X12_farOf at h
  have t := hq_fm_rf s
  exact hq_fm_tr t (f_X12_farOf_L6_fr h)
theorem f_X12_guardsAt_L5_B_fr {n : Nat} {a1 : Int32} {a2 : Int32} {a3 : Int32} {a4 : Int32} {q5 : Int32 → Int32 → Int32 → Int32 → hq_S → Option (Int32 × hq_S)} {s : hq_S} {y : (Int32 × hq_S)} (e5 : ∀ (a1 : Int32) (a2 : Int32) (a3 : Int32) (a4 : Int32) (s : hq_S), q5 a1 a2 a3 a4 s = some y → hq_fm s y.2) (h : f_X12_guardsAt_L5_B n q5 a1 a2 a3 a4 s = some y) : hq_fm s y.2 := by
  unfold f_X12_guardsAt_L5_B at h
  have t := hq_fm_rf s
  obtain ⟨x1, hx1, h⟩ := hq_bind h
  by_cases c2 : a4 < x1
  · rw [if_pos c2] at h
    obtain ⟨x3, hx3, h⟩ := hq_bind h
    obtain ⟨z4, hz4, h⟩ := hq_bind h
    exact hq_fm_tr t (e5 a1 a2 (a3 ||| z4) (a4 + (1 : Int32)) s h)
  · rw [if_neg c2] at h
    have h := Option.some.inj h
    subst h
    exact t
theorem f_X12_guardsAt_L5_fr {n m : Nat} {a1 : Int32} {a2 : Int32} {a3 : Int32} {a4 : Int32} {s : hq_S} {y : (Int32 × hq_S)} (h : f_X12_guardsAt_L5 n m a1 a2 a3 a4 s = some y) : hq_fm s y.2 := by
  induction m generalizing a1 a2 a3 a4 s with
  | zero => cases h
  | succ m ih => exact f_X12_guardsAt_L5_B_fr (n := n) (a1 := a1) (a2 := a2) (a3 := a3) (a4 := a4) (q5 := f_X12_guardsAt_L5 n m) (fun a1 a2 a3 a4 s h => ih h) h
theorem f_X12_guardsAt_fr {n : Nat} {a1 : Int32} {a2 : Int32} {s : hq_S} {y : (Int32 × hq_S)} (h : f_X12_guardsAt n a1 a2 s = some y) : hq_fm s y.2 := by
  unfold f_X12_guardsAt at h
  have t := hq_fm_rf s
  exact hq_fm_tr t (f_X12_guardsAt_L5_fr h)
theorem f_X12_isFree_fr {n : Nat} {a1 : Int32} {a2 : Int32} {s : hq_S} {y : (Int32 × hq_S)} (h : f_X12_isFree n a1 a2 s = some y) : hq_fm s y.2 := by
  unfold f_X12_isFree at h
  have t := hq_fm_rf s
  obtain ⟨x1, hx1, h⟩ := hq_bind h
  by_cases c2 : x1 = (-1 : Int32)
  · rw [if_pos c2] at h
    have h := Option.some.inj h
    subst h
    exact t
  · rw [if_neg c2] at h
    have h := Option.some.inj h
    subst h
    exact t
theorem f_X12_boldOf_fr {n : Nat} {a1 : Int32} {s : hq_S} {y : (Int32 × hq_S)} (h : f_X12_boldOf n a1 s = some y) : hq_fm s y.2 := by
  unfold f_X12_boldOf at h
  have t := hq_fm_rf s
  by_cases c1 : a1 = (hq_gi s 174 53)
  · rw [if_pos c1] at h
    have h := Option.some.inj h
    subst h
    exact t
  · rw [if_neg c1] at h
    obtain ⟨x2, hx2, h⟩ := hq_bind h
    have h := Option.some.inj h
    subst h
    exact t
theorem f_X12_calls_fr {n : Nat} {a1 : Int32} {a2 : Int32} {a3 : Int32} {s : hq_S} {y : hq_S} (h : f_X12_calls n a1 a2 a3 s = some y) : hq_fm s y := by
  unfold f_X12_calls at h
  have t := hq_fm_rf s
  obtain ⟨x1, hx1, h⟩ := hq_bind h
  obtain ⟨s2, hs2, h⟩ := hq_bind h
  have t := hq_fm_tr t (hq_fm_stj hs2 (by first | decide | omega))
  obtain ⟨y3, hy3, h⟩ := hq_bind h
  have t := hq_fm_tr t (f_X12_farOf_fr hy3)
  obtain ⟨s4, hs4, h⟩ := hq_bind h
  have t := hq_fm_tr t (hq_fm_stj hs4 (by first | decide | omega))
  obtain ⟨x5, hx5, h⟩ := hq_bind h
  obtain ⟨s6, hs6, h⟩ := hq_bind h
  have t := hq_fm_tr t (hq_fm_stj hs6 (by first | decide | omega))
  obtain ⟨y7, hy7, h⟩ := hq_bind h
  have t := hq_fm_tr t (f_X12_boldOf_fr hy7)
  obtain ⟨s8, hs8, h⟩ := hq_bind h
  have t := hq_fm_tr t (hq_fm_stj hs8 (by first | decide | omega))
  obtain ⟨x9, hx9, h⟩ := hq_bind h
  obtain ⟨s10, hs10, h⟩ := hq_bind h
  have t := hq_fm_tr t (hq_fm_stj hs10 (by first | decide | omega))
  obtain ⟨y11, hy11, h⟩ := hq_bind h
  have t := hq_fm_tr t (f_X12_guardsAt_fr hy11)
  obtain ⟨y12, hy12, h⟩ := hq_bind h
  have t := hq_fm_tr t (f_X12_bitsOf_fr hy12)
  obtain ⟨s13, hs13, h⟩ := hq_bind h
  have t := hq_fm_tr t (hq_fm_stj hs13 (by first | decide | omega))
  obtain ⟨x14, hx14, h⟩ := hq_bind h
  obtain ⟨s15, hs15, h⟩ := hq_bind h
  have t := hq_fm_tr t (hq_fm_stj hs15 (by first | decide | omega))
  have h := Option.some.inj h
  subst h
  exact t
theorem f_X12_dreadOf_J23_fr {n : Nat} {a1 : Int32} {a2 : Int32} {a3 : Int32} {s : hq_S} {y : (Int64 × hq_S)} (h : f_X12_dreadOf_J23 n a1 a2 a3 s = some y) : hq_fm s y.2 := by
  unfold f_X12_dreadOf_J23 at h
  have t := hq_fm_rf s
  obtain ⟨x4, hx4, h⟩ := hq_bind h
  obtain ⟨y5, hy5, h⟩ := hq_bind h
  have t := hq_fm_tr t (f_X12_farOf_fr hy5)
  have h := Option.some.inj h
  subst h
  exact t
theorem f_X12_dreadOf_fr {n : Nat} {a1 : Int32} {a2 : Int32} {a3 : Int32} {s : hq_S} {y : (Int64 × hq_S)} (h : f_X12_dreadOf n a1 a2 a3 s = some y) : hq_fm s y.2 := by
  unfold f_X12_dreadOf at h
  have t := hq_fm_rf s
  obtain ⟨s1, hs1, h⟩ := hq_bind h
  have t := hq_fm_tr t (f_X12_calls_fr hs1)
  obtain ⟨y2, hy2, h⟩ := hq_bind h
  have t := hq_fm_tr t (f_X12_hasLaw_fr hy2)
  by_cases c3 : y2.1 = 0
  · rw [if_pos c3] at h
    exact hq_fm_tr t (f_X12_dreadOf_J23_fr h)
  · rw [if_neg c3] at h
    obtain ⟨y6, hy6, h⟩ := hq_bind h
    have t := hq_fm_tr t (f_X12_goes_fr hy6)
    by_cases c7 : y6.1 = 0
    · rw [if_pos c7] at h
      exact hq_fm_tr t (f_X12_dreadOf_J23_fr h)
    · rw [if_neg c7] at h
      obtain ⟨x8, hx8, h⟩ := hq_bind h
      have h := Option.some.inj h
      subst h
      exact t
theorem f_X12_doesStir_J53_fr {n : Nat} {a1 : Int32} {a2 : Int32} {s : hq_S} {y : (Int32 × hq_S)} (h : f_X12_doesStir_J53 n a1 a2 s = some y) : hq_fm s y.2 := by
  unfold f_X12_doesStir_J53 at h
  have t := hq_fm_rf s
  have h := Option.some.inj h
  subst h
  exact t
theorem f_X12_doesStir_fr {n : Nat} {a1 : Int32} {a2 : Int32} {s : hq_S} {y : (Int32 × hq_S)} (h : f_X12_doesStir n a1 a2 s = some y) : hq_fm s y.2 := by
  unfold f_X12_doesStir at h
  have t := hq_fm_rf s
  by_cases c1 : (hq_gi s 174 49) = (3 : Int32)
  · rw [if_pos c1] at h
    have h := Option.some.inj h
    subst h
    exact t
  · rw [if_neg c1] at h
    obtain ⟨x2, hx2, h⟩ := hq_bind h
    obtain ⟨s3, hs3, h⟩ := hq_bind h
    have t := hq_fm_tr t (f_X12_calls_fr hs3)
    obtain ⟨y4, hy4, h⟩ := hq_bind h
    have t := hq_fm_tr t (f_X12_hasLaw_fr hy4)
    by_cases c5 : y4.1 = 0
    · rw [if_pos c5] at h
      exact hq_fm_tr t (f_X12_doesStir_J53_fr h)
    · rw [if_neg c5] at h
      obtain ⟨y6, hy6, h⟩ := hq_bind h
      have t := hq_fm_tr t (f_X12_goes_fr hy6)
      by_cases c7 : y6.1 = 0
      · rw [if_pos c7] at h
        exact hq_fm_tr t (f_X12_doesStir_J53_fr h)
      · rw [if_neg c7] at h
        obtain ⟨x8, hx8, h⟩ := hq_bind h
        by_cases c9 : (lg_cmp x8 (0 : Int64)) = 0
        · rw [if_pos c9] at h
          have h := Option.some.inj h
          subst h
          exact t
        · rw [if_neg c9] at h
          exact hq_fm_tr t (f_X12_doesStir_J53_fr h)
theorem f_X12_nearer_J53_fr {n : Nat} {a1 : Int32} {a2 : Int32} {a3 : Int32} {q2 : Int32 → Int32 → Int32 → hq_S → Option (Int32 × hq_S)} {s : hq_S} {y : (Int32 × hq_S)} (e2 : ∀ (a1 : Int32) (a2 : Int32) (a3 : Int32) (s : hq_S), q2 a1 a2 a3 s = some y → hq_fm s y.2) (h : f_X12_nearer_J53 n q2 a1 a2 a3 s = some y) : hq_fm s y.2 := by
  unfold f_X12_nearer_J53 at h
  have t := hq_fm_rf s
  exact hq_fm_tr t (e2 a1 a2 (a3 + (1 : Int32)) s h)
theorem f_X12_nearer_L2_B_fr {n : Nat} {a1 : Int32} {a2 : Int32} {a3 : Int32} {q2 : Int32 → Int32 → Int32 → hq_S → Option (Int32 × hq_S)} {s : hq_S} {y : (Int32 × hq_S)} (e2 : ∀ (a1 : Int32) (a2 : Int32) (a3 : Int32) (s : hq_S), q2 a1 a2 a3 s = some y → hq_fm s y.2) (h : f_X12_nearer_L2_B n q2 a1 a2 a3 s = some y) : hq_fm s y.2 := by
  unfold f_X12_nearer_L2_B at h
  have t := hq_fm_rf s
  obtain ⟨x1, hx1, h⟩ := hq_bind h
  by_cases c2 : a3 < x1
  · rw [if_pos c2] at h
    obtain ⟨x3, hx3, h⟩ := hq_bind h
    by_cases c4 : ((x3 >>> (a3 &&& 31)) &&& (1 : Int32)) = (1 : Int32)
    · rw [if_pos c4] at h
      obtain ⟨x5, hx5, h⟩ := hq_bind h
      obtain ⟨x6, hx6, h⟩ := hq_bind h
      by_cases c7 : x5 < x6
      · rw [if_pos c7] at h
        have h := Option.some.inj h
        subst h
        exact t
      · rw [if_neg c7] at h
        exact hq_fm_tr t (f_X12_nearer_J53_fr e2 h)
    · rw [if_neg c4] at h
      exact hq_fm_tr t (f_X12_nearer_J53_fr e2 h)
  · rw [if_neg c2] at h
    have h := Option.some.inj h
    subst h
    exact t
theorem f_X12_nearer_L2_fr {n m : Nat} {a1 : Int32} {a2 : Int32} {a3 : Int32} {s : hq_S} {y : (Int32 × hq_S)} (h : f_X12_nearer_L2 n m a1 a2 a3 s = some y) : hq_fm s y.2 := by
  induction m generalizing a1 a2 a3 s with
  | zero => cases h
  | succ m ih => exact f_X12_nearer_L2_B_fr (n := n) (a1 := a1) (a2 := a2) (a3 := a3) (q2 := f_X12_nearer_L2 n m) (fun a1 a2 a3 s h => ih h) h
theorem f_X12_nearer_fr {n : Nat} {a1 : Int32} {a2 : Int32} {s : hq_S} {y : (Int32 × hq_S)} (h : f_X12_nearer n a1 a2 s = some y) : hq_fm s y.2 := by
  unfold f_X12_nearer at h
  have t := hq_fm_rf s
  exact hq_fm_tr t (f_X12_nearer_L2_fr h)
theorem f_X12_walks_J32_fr {n : Nat} {a1 : Int32} {a2 : Int32} {a3 : Int32} {s : hq_S} {y : hq_S} (h : f_X12_walks_J32 n a1 a2 a3 s = some y) : hq_fm s y := by
  unfold f_X12_walks_J32 at h
  have t := hq_fm_rf s
  obtain ⟨x4, hx4, h⟩ := hq_bind h
  obtain ⟨x5, hx5, h⟩ := hq_bind h
  obtain ⟨x6, hx6, h⟩ := hq_bind h
  obtain ⟨z7, hz7, h⟩ := hq_bind h
  have t : hq_fm s z7 := by
    clear h
    have h := hz7
    by_cases c8 : x4 = x6
    · rw [if_pos c8] at h
      obtain ⟨x9, hx9, h⟩ := hq_bind h
      obtain ⟨x10, hx10, h⟩ := hq_bind h
      obtain ⟨x11, hx11, h⟩ := hq_bind h
      obtain ⟨s12, hs12, h⟩ := hq_bind h
      have t := hq_fm_tr t (hq_fm_st hs12 (by first | decide | omega))
      cases h
      exact t
    · rw [if_neg c8] at h
      cases h
      exact t
  obtain ⟨x13, hx13, h⟩ := hq_bind h
  obtain ⟨x14, hx14, h⟩ := hq_bind h
  obtain ⟨x15, hx15, h⟩ := hq_bind h
  by_cases c16 : x15 = x14
  · rw [if_pos c16] at h
    have h := Option.some.inj h
    subst h
    exact t
  · rw [if_neg c16] at h
    obtain ⟨x17, hx17, h⟩ := hq_bind h
    obtain ⟨y18, hy18, h⟩ := hq_bind h
    have t := hq_fm_tr t (f_X12_nearer_fr hy18)
    obtain ⟨s19, hs19, h⟩ := hq_bind h
    have t := hq_fm_tr t (hq_fm_st hs19 (by first | decide | omega))
    have h := Option.some.inj h
    subst h
    exact t
theorem f_X12_walks_fr {n : Nat} {a1 : Int32} {a2 : Int32} {s : hq_S} {y : hq_S} (h : f_X12_walks n a1 a2 s = some y) : hq_fm s y := by
  unfold f_X12_walks at h
  have t := hq_fm_rf s
  obtain ⟨x1, hx1, h⟩ := hq_bind h
  by_cases c2 : x1 = 0
  · rw [if_pos c2] at h
    have h := Option.some.inj h
    subst h
    exact t
  · rw [if_neg c2] at h
    by_cases c3 : (hq_gi s 174 49) = (2 : Int32)
    · rw [if_pos c3] at h
      by_cases c20 : a2 = (hq_gi s 174 50)
      · rw [if_pos c20] at h
        have h := Option.some.inj h
        subst h
        exact t
      · rw [if_neg c20] at h
        exact hq_fm_tr t (f_X12_walks_J32_fr h)
    · rw [if_neg c3] at h
      exact hq_fm_tr t (f_X12_walks_J32_fr h)
theorem f_X12_stirs_J99_fr {n : Nat} {a1 : Int32} {a2 : Int32} {a3 : Int32} {a4 : Int32} {j5 : Int64} {a7 : Int32} {a8 : Int32} {q46 : Int32 → Int32 → Int32 → Int32 → Int64 → Int32 → Int32 → hq_S → Option hq_S} {s : hq_S} {y : hq_S} (e46 : ∀ (a1 : Int32) (a2 : Int32) (a3 : Int32) (a4 : Int32) (j5 : Int64) (a7 : Int32) (a8 : Int32) (o9 : Option Value) (s : hq_S), q46 a1 a2 a3 a4 j5 a7 a8 s = some y → hq_fm s y) (h : f_X12_stirs_J99 n q46 a1 a2 a3 a4 j5 a7 a8 s = some y) : hq_fm s y := by
  unfold f_X12_stirs_J99 at h
  have t := hq_fm_rf s
  exact hq_fm_tr t (e46 a1 a2 a3 a4 j5 a7 (a8 + (1 : Int32)) none s h)
theorem f_X12_stirs_L46_B_fr {n : Nat} {a1 : Int32} {a2 : Int32} {a3 : Int32} {a4 : Int32} {j5 : Int64} {a7 : Int32} {a8 : Int32} {q46 : Int32 → Int32 → Int32 → Int32 → Int64 → Int32 → Int32 → hq_S → Option hq_S} {s : hq_S} {y : hq_S} (e46 : ∀ (a1 : Int32) (a2 : Int32) (a3 : Int32) (a4 : Int32) (j5 : Int64) (a7 : Int32) (a8 : Int32) (o9 : Option Value) (s : hq_S), q46 a1 a2 a3 a4 j5 a7 a8 s = some y → hq_fm s y) (h : f_X12_stirs_L46_B n q46 a1 a2 a3 a4 j5 a7 a8 s = some y) : hq_fm s y := by
  unfold f_X12_stirs_L46_B at h
  have t := hq_fm_rf s
  obtain ⟨x6, hx6, h⟩ := hq_bind h
  by_cases c7 : a8 < x6
  · rw [if_pos c7] at h
    by_cases c10 : ((a7 >>> (a8 &&& 31)) &&& (1 : Int32)) = 0
    · rw [if_pos c10] at h
      exact hq_fm_tr t (f_X12_stirs_J99_fr e46 h)
    · rw [if_neg c10] at h
      obtain ⟨y11, hy11, h⟩ := hq_bind h
      have t := hq_fm_tr t (f_X12_dreadOf_fr hy11)
      obtain ⟨z12, hz12, h⟩ := hq_bind h
      exact hq_fm_tr t (e46 a1 a2 a3 z12.1 z12.2 a7 (a8 + (1 : Int32)) none y11.2 h)
  · rw [if_neg c7] at h
    obtain ⟨s8, hs8, h⟩ := hq_bind h
    have t := hq_fm_tr t (hq_fm_st hs8 (by first | decide | omega))
    have h := Option.some.inj h
    subst h
    exact t
theorem f_X12_stirs_L46_fr {n m : Nat} {a1 : Int32} {a2 : Int32} {a3 : Int32} {a4 : Int32} {j5 : Int64} {a7 : Int32} {a8 : Int32} {s : hq_S} {y : hq_S} (h : f_X12_stirs_L46 n m a1 a2 a3 a4 j5 a7 a8 s = some y) : hq_fm s y := by
  induction m generalizing a1 a2 a3 a4 j5 a7 a8 s with
  | zero => cases h
  | succ m ih => exact f_X12_stirs_L46_B_fr (n := n) (a1 := a1) (a2 := a2) (a3 := a3) (a4 := a4) (j5 := j5) (a7 := a7) (a8 := a8) (q46 := f_X12_stirs_L46 n m) (fun a1 a2 a3 a4 j5 a7 a8 _ s h => ih h) h
theorem f_X12_stirs_fr {n : Nat} {a1 : Int32} {a2 : Int32} {s : hq_S} {y : hq_S} (h : f_X12_stirs n a1 a2 s = some y) : hq_fm s y := by
  unfold f_X12_stirs at h
  have t := hq_fm_rf s
  obtain ⟨y1, hy1, h⟩ := hq_bind h
  have t := hq_fm_tr t (f_X12_doesStir_fr hy1)
  by_cases c2 : y1.1 = 0
  · rw [if_pos c2] at h
    have h := Option.some.inj h
    subst h
    exact t
  · rw [if_neg c2] at h
    obtain ⟨x3, hx3, h⟩ := hq_bind h
    obtain ⟨y4, hy4, h⟩ := hq_bind h
    have t := hq_fm_tr t (f_X12_dreadOf_fr hy4)
    obtain ⟨x5, hx5, h⟩ := hq_bind h
    exact hq_fm_tr t (f_X12_stirs_L46_fr h)
theorem f_X12_doesGrip_J41_fr {n : Nat} {a1 : Int32} {a2 : Int32} {a3 : Int32} {s : hq_S} {y : (Int32 × hq_S)} (h : f_X12_doesGrip_J41 n a1 a2 a3 s = some y) : hq_fm s y.2 := by
  unfold f_X12_doesGrip_J41 at h
  have t := hq_fm_rf s
  by_cases c5 : a3 < (50 : Int32)
  · rw [if_pos c5] at h
    have h := Option.some.inj h
    subst h
    exact t
  · rw [if_neg c5] at h
    have h := Option.some.inj h
    subst h
    exact t
theorem f_X12_doesGrip_fr {n : Nat} {a1 : Int32} {a2 : Int32} {s : hq_S} {y : (Int32 × hq_S)} (h : f_X12_doesGrip n a1 a2 s = some y) : hq_fm s y.2 := by
  unfold f_X12_doesGrip at h
  have t := hq_fm_rf s
  by_cases c1 : (hq_gi s 174 49) = (5 : Int32)
  · rw [if_pos c1] at h
    have h := Option.some.inj h
    subst h
    exact t
  · rw [if_neg c1] at h
    by_cases c2 : (hq_gi s 174 49) = (1 : Int32)
    · rw [if_pos c2] at h
      have h := Option.some.inj h
      subst h
      exact t
    · rw [if_neg c2] at h
      obtain ⟨x3, hx3, h⟩ := hq_bind h
      by_cases c4 : a2 = 0
      · rw [if_pos c4] at h
        exact hq_fm_tr t (f_X12_doesGrip_J41_fr h)
      · rw [if_neg c4] at h
        by_cases c6 : x3 = 0
        · rw [if_pos c6] at h
          exact hq_fm_tr t (f_X12_doesGrip_J41_fr h)
        · rw [if_neg c6] at h
          by_cases c7 : x3 = (100 : Int32)
          · rw [if_pos c7] at h
            exact hq_fm_tr t (f_X12_doesGrip_J41_fr h)
          · rw [if_neg c7] at h
            obtain ⟨x8, hx8, h⟩ := hq_bind h
            obtain ⟨s9, hs9, h⟩ := hq_bind h
            have t := hq_fm_tr t (hq_fm_st hs9 (by first | decide | omega))
            obtain ⟨x10, hx10, h⟩ := hq_bind h
            obtain ⟨x11, hx11, h⟩ := hq_bind h
            by_cases c12 : x11 < x3
            · rw [if_pos c12] at h
              have h := Option.some.inj h
              subst h
              exact t
            · rw [if_neg c12] at h
              have h := Option.some.inj h
              subst h
              exact t
theorem f_X12_takes_fr {n : Nat} {a1 : Int32} {a2 : Int32} {s : hq_S} {y : hq_S} (h : f_X12_takes n a1 a2 s = some y) : hq_fm s y := by
  unfold f_X12_takes at h
  have t := hq_fm_rf s
  obtain ⟨x1, hx1, h⟩ := hq_bind h
  obtain ⟨y2, hy2, h⟩ := hq_bind h
  have t := hq_fm_tr t (f_X12_boldOf_fr hy2)
  obtain ⟨x3, hx3, h⟩ := hq_bind h
  obtain ⟨s4, hs4, h⟩ := hq_bind h
  have t := hq_fm_tr t (f_X12_calls_fr hs4)
  obtain ⟨y5, hy5, h⟩ := hq_bind h
  have t := hq_fm_tr t (f_X12_hasLaw_fr hy5)
  obtain ⟨z6, hz6, h⟩ := hq_bind h
  have t : hq_fm s z6.2 := by
    clear h
    have h := hz6
    by_cases c7 : y5.1 = 0
    · rw [if_pos c7] at h
      cases h
      exact t
    · rw [if_neg c7] at h
      obtain ⟨y8, hy8, h⟩ := hq_bind h
      have t := hq_fm_tr t (f_X12_goes_fr hy8)
      by_cases c9 : y8.1 = 0
      · rw [if_pos c9] at h
        cases h
        exact t
      · rw [if_neg c9] at h
        obtain ⟨x10, hx10, h⟩ := hq_bind h
        cases h
        exact t
  obtain ⟨x11, hx11, h⟩ := hq_bind h
  obtain ⟨x12, hx12, h⟩ := hq_bind h
  obtain ⟨s13, hs13, h⟩ := hq_bind h
  have t := hq_fm_tr t (hq_fm_st hs13 (by first | decide | omega))
  obtain ⟨x14, hx14, h⟩ := hq_bind h
  obtain ⟨s15, hs15, h⟩ := hq_bind h
  have t := hq_fm_tr t (hq_fm_st hs15 (by first | decide | omega))
  have h := Option.some.inj h
  subst h
  exact t
theorem f_X12_passes_L174_B_fr {n : Nat} {a1 : Int32} {a2 : Int32} {a3 : Int32} {q174 : Int32 → Int32 → Int32 → hq_S → Option hq_S} {s : hq_S} {y : hq_S} (e174 : ∀ (a1 : Int32) (a2 : Int32) (a3 : Int32) (o4 : Option Value) (s : hq_S), q174 a1 a2 a3 s = some y → hq_fm s y) (h : f_X12_passes_L174_B n q174 a1 a2 a3 s = some y) : hq_fm s y := by
  unfold f_X12_passes_L174_B at h
  have t := hq_fm_rf s
  obtain ⟨x8, hx8, h⟩ := hq_bind h
  by_cases c9 : a3 < x8
  · rw [if_pos c9] at h
    obtain ⟨y12, hy12, h⟩ := hq_bind h
    have t := hq_fm_tr t (f_X12_isFree_fr hy12)
    obtain ⟨z13, hz13, h⟩ := hq_bind h
    have t : hq_fm s z13 := by
      clear h
      have h := hz13
      by_cases c14 : y12.1 = 0
      · rw [if_pos c14] at h
        cases h
        exact t
      · rw [if_neg c14] at h
        obtain ⟨s15, hs15, h⟩ := hq_bind h
        have t := hq_fm_tr t (f_X12_takes_fr hs15)
        cases h
        exact t
    exact hq_fm_tr t (e174 a1 a2 (a3 + (1 : Int32)) none z13 h)
  · rw [if_neg c9] at h
    obtain ⟨x10, hx10, h⟩ := hq_bind h
    obtain ⟨s11, hs11, h⟩ := hq_bind h
    have t := hq_fm_tr t (hq_fm_st hs11 (by first | decide | omega))
    have h := Option.some.inj h
    subst h
    exact t
theorem f_X12_passes_L174_fr {n m : Nat} {a1 : Int32} {a2 : Int32} {a3 : Int32} {s : hq_S} {y : hq_S} (h : f_X12_passes_L174 n m a1 a2 a3 s = some y) : hq_fm s y := by
  induction m generalizing a1 a2 a3 s with
  | zero => cases h
  | succ m ih => exact f_X12_passes_L174_B_fr (n := n) (a1 := a1) (a2 := a2) (a3 := a3) (q174 := f_X12_passes_L174 n m) (fun a1 a2 a3 _ s h => ih h) h
theorem f_X12_passes_L77_B_fr {n : Nat} {a1 : Int32} {a2 : Int32} {a3 : Int32} {a4 : Int32} {q64 : Int32 → Int32 → Int32 → hq_S → Option hq_S} {q77 : Int32 → Int32 → Int32 → Int32 → hq_S → Option hq_S} {s : hq_S} {y : hq_S} (e64 : ∀ (a1 : Int32) (a2 : Int32) (a3 : Int32) (o4 : Option Value) (s : hq_S), q64 a1 a2 a3 s = some y → hq_fm s y) (e77 : ∀ (a1 : Int32) (a2 : Int32) (a3 : Int32) (a4 : Int32) (s : hq_S), q77 a1 a2 a3 a4 s = some y → hq_fm s y) (h : f_X12_passes_L77_B n q64 q77 a1 a2 a3 a4 s = some y) : hq_fm s y := by
  unfold f_X12_passes_L77_B at h
  have t := hq_fm_rf s
  obtain ⟨x16, hx16, h⟩ := hq_bind h
  by_cases c17 : a4 < x16
  · rw [if_pos c17] at h
    obtain ⟨y18, hy18, h⟩ := hq_bind h
    have t := hq_fm_tr t (f_X12_isFree_fr hy18)
    obtain ⟨z19, hz19, h⟩ := hq_bind h
    have t : hq_fm s z19 := by
      clear h
      have h := hz19
      by_cases c20 : y18.1 = 0
      · rw [if_pos c20] at h
        cases h
        exact t
      · rw [if_neg c20] at h
        obtain ⟨x21, hx21, h⟩ := hq_bind h
        obtain ⟨x22, hx22, h⟩ := hq_bind h
        by_cases c23 : x21 = x22
        · rw [if_pos c23] at h
          obtain ⟨y24, hy24, h⟩ := hq_bind h
          have t := hq_fm_tr t (f_X12_doesGrip_fr hy24)
          by_cases c25 : y24.1 = 0
          · rw [if_pos c25] at h
            cases h
            exact t
          · rw [if_neg c25] at h
            obtain ⟨s26, hs26, h⟩ := hq_bind h
            have t := hq_fm_tr t (hq_fm_st hs26 (by first | decide | omega))
            obtain ⟨x27, hx27, h⟩ := hq_bind h
            obtain ⟨s28, hs28, h⟩ := hq_bind h
            have t := hq_fm_tr t (hq_fm_st hs28 (by first | decide | omega))
            cases h
            exact t
        · rw [if_neg c23] at h
          cases h
          exact t
    exact hq_fm_tr t (e77 a1 a2 a3 (a4 + (1 : Int32)) z19 h)
  · rw [if_neg c17] at h
    exact hq_fm_tr t (e64 a1 a2 (a3 + (1 : Int32)) none s h)
theorem f_X12_passes_L77_fr {n m : Nat} {a1 : Int32} {a2 : Int32} {a3 : Int32} {a4 : Int32} {q64 : Int32 → Int32 → Int32 → hq_S → Option hq_S} {s : hq_S} {y : hq_S} (e64 : ∀ (a1 : Int32) (a2 : Int32) (a3 : Int32) (o4 : Option Value) (s : hq_S), q64 a1 a2 a3 s = some y → hq_fm s y) (h : f_X12_passes_L77 n q64 m a1 a2 a3 a4 s = some y) : hq_fm s y := by
  induction m generalizing a1 a2 a3 a4 s with
  | zero => cases h
  | succ m ih => exact f_X12_passes_L77_B_fr (n := n) (a1 := a1) (a2 := a2) (a3 := a3) (a4 := a4) (q77 := f_X12_passes_L77 n q64 m) e64 (fun a1 a2 a3 a4 s h => ih h) h
theorem f_X12_passes_L64_B_fr {n : Nat} {a1 : Int32} {a2 : Int32} {a3 : Int32} {q64 : Int32 → Int32 → Int32 → hq_S → Option hq_S} {s : hq_S} {y : hq_S} (e64 : ∀ (a1 : Int32) (a2 : Int32) (a3 : Int32) (o4 : Option Value) (s : hq_S), q64 a1 a2 a3 s = some y → hq_fm s y) (h : f_X12_passes_L64_B n q64 a1 a2 a3 s = some y) : hq_fm s y := by
  unfold f_X12_passes_L64_B at h
  have t := hq_fm_rf s
  obtain ⟨x6, hx6, h⟩ := hq_bind h
  by_cases c7 : a3 < x6
  · rw [if_pos c7] at h
    exact hq_fm_tr t (f_X12_passes_L77_fr e64 h)
  · rw [if_neg c7] at h
    exact hq_fm_tr t (f_X12_passes_L174_fr h)
theorem f_X12_passes_L64_fr {n m : Nat} {a1 : Int32} {a2 : Int32} {a3 : Int32} {s : hq_S} {y : hq_S} (h : f_X12_passes_L64 n m a1 a2 a3 s = some y) : hq_fm s y := by
  induction m generalizing a1 a2 a3 s with
  | zero => cases h
  | succ m ih => exact f_X12_passes_L64_B_fr (n := n) (a1 := a1) (a2 := a2) (a3 := a3) (q64 := f_X12_passes_L64 n m) (fun a1 a2 a3 _ s h => ih h) h
theorem f_X12_passes_L31_B_fr {n : Nat} {a1 : Int32} {a2 : Int32} {a3 : Int32} {q31 : Int32 → Int32 → Int32 → hq_S → Option hq_S} {s : hq_S} {y : hq_S} (e31 : ∀ (a1 : Int32) (a2 : Int32) (a3 : Int32) (s : hq_S), q31 a1 a2 a3 s = some y → hq_fm s y) (h : f_X12_passes_L31_B n q31 a1 a2 a3 s = some y) : hq_fm s y := by
  unfold f_X12_passes_L31_B at h
  have t := hq_fm_rf s
  obtain ⟨x4, hx4, h⟩ := hq_bind h
  by_cases c5 : a3 < x4
  · rw [if_pos c5] at h
    obtain ⟨y29, hy29, h⟩ := hq_bind h
    have t := hq_fm_tr t (f_X12_isFree_fr hy29)
    obtain ⟨z30, hz30, h⟩ := hq_bind h
    have t : hq_fm s z30 := by
      clear h
      have h := hz30
      by_cases c31 : y29.1 = 0
      · rw [if_pos c31] at h
        cases h
        exact t
      · rw [if_neg c31] at h
        obtain ⟨s32, hs32, h⟩ := hq_bind h
        have t := hq_fm_tr t (f_X12_stirs_fr hs32)
        cases h
        exact t
    exact hq_fm_tr t (e31 a1 a2 (a3 + (1 : Int32)) z30 h)
  · rw [if_neg c5] at h
    exact hq_fm_tr t (f_X12_passes_L64_fr h)
theorem f_X12_passes_L31_fr {n m : Nat} {a1 : Int32} {a2 : Int32} {a3 : Int32} {s : hq_S} {y : hq_S} (h : f_X12_passes_L31 n m a1 a2 a3 s = some y) : hq_fm s y := by
  induction m generalizing a1 a2 a3 s with
  | zero => cases h
  | succ m ih => exact f_X12_passes_L31_B_fr (n := n) (a1 := a1) (a2 := a2) (a3 := a3) (q31 := f_X12_passes_L31 n m) (fun a1 a2 a3 s h => ih h) h
theorem f_X12_passes_L7_B_fr {n : Nat} {a1 : Int32} {a2 : Int32} {a3 : Int32} {q7 : Int32 → Int32 → Int32 → hq_S → Option hq_S} {s : hq_S} {y : hq_S} (e7 : ∀ (a1 : Int32) (a2 : Int32) (a3 : Int32) (s : hq_S), q7 a1 a2 a3 s = some y → hq_fm s y) (h : f_X12_passes_L7_B n q7 a1 a2 a3 s = some y) : hq_fm s y := by
  unfold f_X12_passes_L7_B at h
  have t := hq_fm_rf s
  obtain ⟨x2, hx2, h⟩ := hq_bind h
  by_cases c3 : a3 < x2
  · rw [if_pos c3] at h
    obtain ⟨s33, hs33, h⟩ := hq_bind h
    have t := hq_fm_tr t (f_X12_walks_fr hs33)
    exact hq_fm_tr t (e7 a1 a2 (a3 + (1 : Int32)) s33 h)
  · rw [if_neg c3] at h
    exact hq_fm_tr t (f_X12_passes_L31_fr h)
theorem f_X12_passes_L7_fr {n m : Nat} {a1 : Int32} {a2 : Int32} {a3 : Int32} {s : hq_S} {y : hq_S} (h : f_X12_passes_L7 n m a1 a2 a3 s = some y) : hq_fm s y := by
  induction m generalizing a1 a2 a3 s with
  | zero => cases h
  | succ m ih => exact f_X12_passes_L7_B_fr (n := n) (a1 := a1) (a2 := a2) (a3 := a3) (q7 := f_X12_passes_L7 n m) (fun a1 a2 a3 s h => ih h) h
theorem f_X12_passes_fr {n : Nat} {a1 : Int32} {a2 : Int32} {s : hq_S} {y : hq_S} (h : f_X12_passes n a1 a2 s = some y) : hq_fm s y := by
  unfold f_X12_passes at h
  have t := hq_fm_rf s
  obtain ⟨s1, hs1, h⟩ := hq_bind h
  have t := hq_fm_tr t (f_X12_lays_fr hs1)
  exact hq_fm_tr t (f_X12_passes_L7_fr h)
theorem f_X12_goesOn_L2_B_fr {n : Nat} {a1 : Int32} {a2 : Int32} {q2 : Int32 → Int32 → hq_S → Option hq_S} {s : hq_S} {y : hq_S} (e2 : ∀ (a1 : Int32) (a2 : Int32) (s : hq_S), q2 a1 a2 s = some y → hq_fm s y) (h : f_X12_goesOn_L2_B n q2 a1 a2 s = some y) : hq_fm s y := by
  unfold f_X12_goesOn_L2_B at h
  have t := hq_fm_rf s
  by_cases c1 : a2 < a1
  · rw [if_pos c1] at h
    obtain ⟨s2, hs2, h⟩ := hq_bind h
    have t := hq_fm_tr t (f_X12_passes_fr hs2)
    exact hq_fm_tr t (e2 a1 (a2 + (1 : Int32)) s2 h)
  · rw [if_neg c1] at h
    have h := Option.some.inj h
    subst h
    exact t
theorem f_X12_goesOn_L2_fr {n m : Nat} {a1 : Int32} {a2 : Int32} {s : hq_S} {y : hq_S} (h : f_X12_goesOn_L2 n m a1 a2 s = some y) : hq_fm s y := by
  induction m generalizing a1 a2 s with
  | zero => cases h
  | succ m ih => exact f_X12_goesOn_L2_B_fr (n := n) (a1 := a1) (a2 := a2) (q2 := f_X12_goesOn_L2 n m) (fun a1 a2 s h => ih h) h
theorem f_X12_goesOn_fr {n : Nat} {a1 : Int32} {s : hq_S} {y : hq_S} (h : f_X12_goesOn n a1 s = some y) : hq_fm s y := by
  unfold f_X12_goesOn at h
  have t := hq_fm_rf s
  exact hq_fm_tr t (f_X12_goesOn_L2_fr h)
theorem f_X12_sumOf_L6_B_fr {n : Nat} {k1 : Nat} {a2 : Int32} {a3 : Int32} {a4 : Int32} {a5 : Int32} {q6 : Nat → Int32 → Int32 → Int32 → Int32 → hq_S → Option (Int32 × hq_S)} {s : hq_S} {y : (Int32 × hq_S)} (e6 : ∀ (k1 : Nat) (a2 : Int32) (a3 : Int32) (a4 : Int32) (a5 : Int32) (s : hq_S) (wk1 : 174 ≤ k1), q6 k1 a2 a3 a4 a5 s = some y → hq_fm s y.2) (wk1 : 174 ≤ k1) (h : f_X12_sumOf_L6_B n q6 k1 a2 a3 a4 a5 s = some y) : hq_fm s y.2 := by
  unfold f_X12_sumOf_L6_B at h
  have t := hq_fm_rf s
  by_cases c1 : a5 < a2
  · rw [if_pos c1] at h
    obtain ⟨x2, hx2, h⟩ := hq_bind h
    exact hq_fm_tr t (e6 k1 a2 a3 (a4 + x2) (a5 + (1 : Int32)) s (by first | decide | omega) h)
  · rw [if_neg c1] at h
    have h := Option.some.inj h
    subst h
    exact t
theorem f_X12_sumOf_L6_fr {n m : Nat} {k1 : Nat} {a2 : Int32} {a3 : Int32} {a4 : Int32} {a5 : Int32} {s : hq_S} {y : (Int32 × hq_S)} (wk1 : 174 ≤ k1) (h : f_X12_sumOf_L6 n m k1 a2 a3 a4 a5 s = some y) : hq_fm s y.2 := by
  induction m generalizing k1 a2 a3 a4 a5 s with
  | zero => cases h
  | succ m ih => exact f_X12_sumOf_L6_B_fr (n := n) (k1 := k1) (a2 := a2) (a3 := a3) (a4 := a4) (a5 := a5) (q6 := f_X12_sumOf_L6 n m) (fun k1 a2 a3 a4 a5 s wk1 h => ih wk1 h) wk1 h
theorem f_X12_sumOf_fr {n : Nat} {k1 : Nat} {a2 : Int32} {a3 : Int32} {s : hq_S} {y : (Int32 × hq_S)} (wk1 : 174 ≤ k1) (h : f_X12_sumOf n k1 a2 a3 s = some y) : hq_fm s y.2 := by
  unfold f_X12_sumOf at h
  have t := hq_fm_rf s
  exact hq_fm_tr t (f_X12_sumOf_L6_fr (by first | decide | omega) h)
theorem f_X12_caughtOnes_L4_B_fr {n : Nat} {a1 : Int32} {a2 : Int32} {a3 : Int32} {q4 : Int32 → Int32 → Int32 → hq_S → Option (Int32 × hq_S)} {s : hq_S} {y : (Int32 × hq_S)} (e4 : ∀ (a1 : Int32) (a2 : Int32) (a3 : Int32) (s : hq_S), q4 a1 a2 a3 s = some y → hq_fm s y.2) (h : f_X12_caughtOnes_L4_B n q4 a1 a2 a3 s = some y) : hq_fm s y.2 := by
  unfold f_X12_caughtOnes_L4_B at h
  have t := hq_fm_rf s
  obtain ⟨x1, hx1, h⟩ := hq_bind h
  by_cases c2 : a3 < x1
  · rw [if_pos c2] at h
    obtain ⟨y3, hy3, h⟩ := hq_bind h
    have t := hq_fm_tr t (f_X12_isFree_fr hy3)
    obtain ⟨z4, hz4, h⟩ := hq_bind h
    exact hq_fm_tr t (e4 a1 (a2 + z4) (a3 + (1 : Int32)) y3.2 h)
  · rw [if_neg c2] at h
    have h := Option.some.inj h
    subst h
    exact t
theorem f_X12_caughtOnes_L4_fr {n m : Nat} {a1 : Int32} {a2 : Int32} {a3 : Int32} {s : hq_S} {y : (Int32 × hq_S)} (h : f_X12_caughtOnes_L4 n m a1 a2 a3 s = some y) : hq_fm s y.2 := by
  induction m generalizing a1 a2 a3 s with
  | zero => cases h
  | succ m ih => exact f_X12_caughtOnes_L4_B_fr (n := n) (a1 := a1) (a2 := a2) (a3 := a3) (q4 := f_X12_caughtOnes_L4 n m) (fun a1 a2 a3 s h => ih h) h
theorem f_X12_caughtOnes_fr {n : Nat} {a1 : Int32} {s : hq_S} {y : (Int32 × hq_S)} (h : f_X12_caughtOnes n a1 s = some y) : hq_fm s y.2 := by
  unfold f_X12_caughtOnes at h
  have t := hq_fm_rf s
  exact hq_fm_tr t (f_X12_caughtOnes_L4_fr h)
theorem f_X12_thievesAt_L4_B_fr {n : Nat} {a1 : Int32} {a2 : Int32} {a3 : Int32} {q4 : Int32 → Int32 → Int32 → hq_S → Option (Int32 × hq_S)} {s : hq_S} {y : (Int32 × hq_S)} (e4 : ∀ (a1 : Int32) (a2 : Int32) (a3 : Int32) (s : hq_S), q4 a1 a2 a3 s = some y → hq_fm s y.2) (h : f_X12_thievesAt_L4_B n q4 a1 a2 a3 s = some y) : hq_fm s y.2 := by
  unfold f_X12_thievesAt_L4_B at h
  have t := hq_fm_rf s
  obtain ⟨x1, hx1, h⟩ := hq_bind h
  by_cases c2 : a3 < x1
  · rw [if_pos c2] at h
    obtain ⟨y3, hy3, h⟩ := hq_bind h
    have t := hq_fm_tr t (f_X12_isFree_fr hy3)
    obtain ⟨z4, hz4, h⟩ := hq_bind h
    exact hq_fm_tr t (e4 a1 (a2 ||| z4) (a3 + (1 : Int32)) y3.2 h)
  · rw [if_neg c2] at h
    have h := Option.some.inj h
    subst h
    exact t
theorem f_X12_thievesAt_L4_fr {n m : Nat} {a1 : Int32} {a2 : Int32} {a3 : Int32} {s : hq_S} {y : (Int32 × hq_S)} (h : f_X12_thievesAt_L4 n m a1 a2 a3 s = some y) : hq_fm s y.2 := by
  induction m generalizing a1 a2 a3 s with
  | zero => cases h
  | succ m ih => exact f_X12_thievesAt_L4_B_fr (n := n) (a1 := a1) (a2 := a2) (a3 := a3) (q4 := f_X12_thievesAt_L4 n m) (fun a1 a2 a3 s h => ih h) h
theorem f_X12_thievesAt_fr {n : Nat} {a1 : Int32} {s : hq_S} {y : (Int32 × hq_S)} (h : f_X12_thievesAt n a1 s = some y) : hq_fm s y.2 := by
  unfold f_X12_thievesAt at h
  have t := hq_fm_rf s
  exact hq_fm_tr t (f_X12_thievesAt_L4_fr h)
theorem f_X12_corner_fr {n : Nat} {a1 : Int32} {a2 : Int32} {s : hq_S} {y : (Int32 × hq_S)} (h : f_X12_corner n a1 a2 s = some y) : hq_fm s y.2 := by
  unfold f_X12_corner at h
  have t := hq_fm_rf s
  obtain ⟨y1, hy1, h⟩ := hq_bind h
  have t := hq_fm_tr t (f_X12_isCorner_fr hy1)
  obtain ⟨z2, hz2, h⟩ := hq_bind h
  obtain ⟨s6, hs6, h⟩ := hq_bind h
  have t := hq_fm_tr t (hq_fm_pi hs6 (by first | decide | omega))
  by_cases c7 : (hq_gi s6 174 0) = 0
  · rw [if_pos c7] at h
    obtain ⟨s8, hs8, h⟩ := hq_bind h
    have t := hq_fm_tr t (f_X12_lays_fr hs8)
    by_cases c9 : a2 = (0 : Int32)
    · rw [if_pos c9] at h
      obtain ⟨x10, hx10, h⟩ := hq_bind h
      have h := Option.some.inj h
      subst h
      exact t
    rw [if_neg c9] at h
    by_cases c11 : a2 = (1 : Int32)
    · rw [if_pos c11] at h
      obtain ⟨x12, hx12, h⟩ := hq_bind h
      have h := Option.some.inj h
      subst h
      exact t
    rw [if_neg c11] at h
    by_cases c13 : a2 = (2 : Int32)
    · rw [if_pos c13] at h
      obtain ⟨y14, hy14, h⟩ := hq_bind h
      have t := hq_fm_tr t (f_X12_guardsAt_fr hy14)
      have h := Option.some.inj h
      subst h
      exact t
    rw [if_neg c13] at h
    by_cases c15 : a2 = (3 : Int32)
    · rw [if_pos c15] at h
      obtain ⟨y16, hy16, h⟩ := hq_bind h
      have t := hq_fm_tr t (f_X12_thievesAt_fr hy16)
      have h := Option.some.inj h
      subst h
      exact t
    rw [if_neg c15] at h
    obtain ⟨x17, hx17, h⟩ := hq_bind h
    have h := Option.some.inj h
    subst h
    exact t
  · rw [if_neg c7] at h
    have h := Option.some.inj h
    subst h
    exact t
theorem f_X12_guard_fr {n : Nat} {a1 : Int32} {a2 : Int32} {s : hq_S} {y : (Int32 × hq_S)} (h : f_X12_guard n a1 a2 s = some y) : hq_fm s y.2 := by
  unfold f_X12_guard at h
  have t := hq_fm_rf s
  obtain ⟨s1, hs1, h⟩ := hq_bind h
  have t := hq_fm_tr t (hq_fm_pi hs1 (by first | decide | omega))
  obtain ⟨y2, hy2, h⟩ := hq_bind h
  have t := hq_fm_tr t (f_X12_isGuard_fr hy2)
  by_cases c3 : y2.1 = 0
  · rw [if_pos c3] at h
    have h := Option.some.inj h
    subst h
    exact t
  · rw [if_neg c3] at h
    by_cases c4 : a2 = (0 : Int32)
    · rw [if_pos c4] at h
      obtain ⟨x5, hx5, h⟩ := hq_bind h
      have h := Option.some.inj h
      subst h
      exact t
    rw [if_neg c4] at h
    by_cases c6 : a2 = (1 : Int32)
    · rw [if_pos c6] at h
      obtain ⟨x7, hx7, h⟩ := hq_bind h
      by_cases c8 : x7 = 0
      · rw [if_pos c8] at h
        have h := Option.some.inj h
        subst h
        exact t
      · rw [if_neg c8] at h
        obtain ⟨x9, hx9, h⟩ := hq_bind h
        have h := Option.some.inj h
        subst h
        exact t
    rw [if_neg c6] at h
    by_cases c10 : a2 = (2 : Int32)
    · rw [if_pos c10] at h
      obtain ⟨x11, hx11, h⟩ := hq_bind h
      have h := Option.some.inj h
      subst h
      exact t
    rw [if_neg c10] at h
    have h := Option.some.inj h
    subst h
    exact t
theorem f_X12_thief_fr {n : Nat} {a1 : Int32} {a2 : Int32} {s : hq_S} {y : (Int32 × hq_S)} (h : f_X12_thief n a1 a2 s = some y) : hq_fm s y.2 := by
  unfold f_X12_thief at h
  have t := hq_fm_rf s
  obtain ⟨s1, hs1, h⟩ := hq_bind h
  have t := hq_fm_tr t (hq_fm_pi hs1 (by first | decide | omega))
  obtain ⟨y2, hy2, h⟩ := hq_bind h
  have t := hq_fm_tr t (f_X12_isThief_fr hy2)
  by_cases c3 : y2.1 = 0
  · rw [if_pos c3] at h
    have h := Option.some.inj h
    subst h
    exact t
  · rw [if_neg c3] at h
    by_cases c4 : a2 = (0 : Int32)
    · rw [if_pos c4] at h
      obtain ⟨x5, hx5, h⟩ := hq_bind h
      have h := Option.some.inj h
      subst h
      exact t
    rw [if_neg c4] at h
    by_cases c6 : a2 = (1 : Int32)
    · rw [if_pos c6] at h
      obtain ⟨x7, hx7, h⟩ := hq_bind h
      have h := Option.some.inj h
      subst h
      exact t
    rw [if_neg c6] at h
    by_cases c8 : a2 = (2 : Int32)
    · rw [if_pos c8] at h
      obtain ⟨x9, hx9, h⟩ := hq_bind h
      have h := Option.some.inj h
      subst h
      exact t
    rw [if_neg c8] at h
    by_cases c10 : a2 = (3 : Int32)
    · rw [if_pos c10] at h
      obtain ⟨y11, hy11, h⟩ := hq_bind h
      have t := hq_fm_tr t (f_X12_isFree_fr hy11)
      by_cases c12 : y11.1 = 0
      · rw [if_pos c12] at h
        obtain ⟨x13, hx13, h⟩ := hq_bind h
        have h := Option.some.inj h
        subst h
        exact t
      · rw [if_neg c12] at h
        have h := Option.some.inj h
        subst h
        exact t
    rw [if_neg c10] at h
    have h := Option.some.inj h
    subst h
    exact t
theorem f_X12_isLane_fr {n : Nat} {a1 : Int32} {s : hq_S} {y : (Int32 × hq_S)} (h : f_X12_isLane n a1 s = some y) : hq_fm s y.2 := by
  unfold f_X12_isLane at h
  have t := hq_fm_rf s
  by_cases c1 : a1 < 0
  · rw [if_pos c1] at h
    have h := Option.some.inj h
    subst h
    exact t
  · rw [if_neg c1] at h
    obtain ⟨x2, hx2, h⟩ := hq_bind h
    by_cases c3 : a1 < x2
    · rw [if_pos c3] at h
      have h := Option.some.inj h
      subst h
      exact t
    · rw [if_neg c3] at h
      have h := Option.some.inj h
      subst h
      exact t
theorem f_X12_lane_fr {n : Nat} {a1 : Int32} {a2 : Int32} {s : hq_S} {y : (Int32 × hq_S)} (h : f_X12_lane n a1 a2 s = some y) : hq_fm s y.2 := by
  unfold f_X12_lane at h
  have t := hq_fm_rf s
  obtain ⟨s1, hs1, h⟩ := hq_bind h
  have t := hq_fm_tr t (hq_fm_pi hs1 (by first | decide | omega))
  obtain ⟨y2, hy2, h⟩ := hq_bind h
  have t := hq_fm_tr t (f_X12_isLane_fr hy2)
  by_cases c3 : y2.1 = 0
  · rw [if_pos c3] at h
    have h := Option.some.inj h
    subst h
    exact t
  · rw [if_neg c3] at h
    by_cases c4 : a2 = (0 : Int32)
    · rw [if_pos c4] at h
      obtain ⟨x5, hx5, h⟩ := hq_bind h
      have h := Option.some.inj h
      subst h
      exact t
    rw [if_neg c4] at h
    by_cases c6 : a2 = (1 : Int32)
    · rw [if_pos c6] at h
      obtain ⟨x7, hx7, h⟩ := hq_bind h
      have h := Option.some.inj h
      subst h
      exact t
    rw [if_neg c6] at h
    by_cases c8 : a2 = (2 : Int32)
    · rw [if_pos c8] at h
      obtain ⟨x9, hx9, h⟩ := hq_bind h
      have h := Option.some.inj h
      subst h
      exact t
    rw [if_neg c8] at h
    by_cases c10 : a2 = (3 : Int32)
    · rw [if_pos c10] at h
      obtain ⟨x11, hx11, h⟩ := hq_bind h
      have h := Option.some.inj h
      subst h
      exact t
    rw [if_neg c10] at h
    have h := Option.some.inj h
    subst h
    exact t
theorem f_X12_law_J42_fr {n : Nat} {a1 : Int32} {a2 : Int32} {a3 : Int32} {s : hq_S} {y : (Int64 × hq_S)} (h : f_X12_law_J42 n a1 a2 a3 s = some y) : hq_fm s y.2 := by
  unfold f_X12_law_J42 at h
  have t := hq_fm_rf s
  have h := Option.some.inj h
  subst h
  exact t
theorem f_X12_law_J46_fr {n : Nat} {a1 : Int32} {a2 : Int32} {a3 : Int32} {s : hq_S} {y : (Int64 × hq_S)} (h : f_X12_law_J46 n a1 a2 a3 s = some y) : hq_fm s y.2 := by
  unfold f_X12_law_J46 at h
  have t := hq_fm_rf s
  obtain ⟨s9, hs9, h⟩ := hq_bind h
  have t := hq_fm_tr t (f_X12_lays_fr hs9)
  obtain ⟨z10, hz10, h⟩ := hq_bind h
  obtain ⟨s13, hs13, h⟩ := hq_bind h
  have t := hq_fm_tr t (f_X12_calls_fr hs13)
  obtain ⟨y14, hy14, h⟩ := hq_bind h
  have t := hq_fm_tr t (f_X12_goes_fr hy14)
  by_cases c15 : y14.1 = 0
  · rw [if_pos c15] at h
    have h := Option.some.inj h
    subst h
    exact t
  · rw [if_neg c15] at h
    obtain ⟨x16, hx16, h⟩ := hq_bind h
    have h := Option.some.inj h
    subst h
    exact t
theorem f_X12_law_fr {n : Nat} {a1 : Int32} {a2 : Int32} {a3 : Int32} {s : hq_S} {y : (Int64 × hq_S)} (h : f_X12_law n a1 a2 a3 s = some y) : hq_fm s y.2 := by
  unfold f_X12_law at h
  have t := hq_fm_rf s
  obtain ⟨s1, hs1, h⟩ := hq_bind h
  have t := hq_fm_tr t (hq_fm_pi hs1 (by first | decide | omega))
  by_cases c2 : a1 < 0
  · rw [if_pos c2] at h
    exact hq_fm_tr t (f_X12_law_J42_fr h)
  · rw [if_neg c2] at h
    by_cases c3 : (2 : Int32) < a1
    · rw [if_pos c3] at h
      exact hq_fm_tr t (f_X12_law_J42_fr h)
    · rw [if_neg c3] at h
      obtain ⟨y4, hy4, h⟩ := hq_bind h
      have t := hq_fm_tr t (f_X12_hasLaw_fr hy4)
      by_cases c5 : y4.1 = 0
      · rw [if_pos c5] at h
        exact hq_fm_tr t (f_X12_law_J42_fr h)
      · rw [if_neg c5] at h
        obtain ⟨y6, hy6, h⟩ := hq_bind h
        have t := hq_fm_tr t (f_X12_isThief_fr hy6)
        by_cases c7 : y6.1 = 0
        · rw [if_pos c7] at h
          exact hq_fm_tr t (f_X12_law_J42_fr h)
        · rw [if_neg c7] at h
          by_cases c8 : a1 = 0
          · rw [if_pos c8] at h
            obtain ⟨y17, hy17, h⟩ := hq_bind h
            have t := hq_fm_tr t (f_X12_isCorner_fr hy17)
            by_cases c18 : y17.1 = 0
            · rw [if_pos c18] at h
              exact hq_fm_tr t (f_X12_law_J42_fr h)
            · rw [if_neg c18] at h
              exact hq_fm_tr t (f_X12_law_J46_fr h)
          · rw [if_neg c8] at h
            exact hq_fm_tr t (f_X12_law_J46_fr h)
theorem f_X12_keepNow_J45_fr {n : Nat} {s : hq_S} {y : hq_S} (h : f_X12_keepNow_J45 n s = some y) : hq_fm s y := by
  unfold f_X12_keepNow_J45 at h
  have t := hq_fm_rf s
  obtain ⟨s2, hs2, h⟩ := hq_bind h
  have t := hq_fm_tr t (f_X12_copies_fr hs2)
  obtain ⟨s3, hs3, h⟩ := hq_bind h
  have t := hq_fm_tr t (hq_fm_pi hs3 (by first | decide | omega))
  have h := Option.some.inj h
  subst h
  exact t
theorem f_X12_keepNow_L11_B_fr {n : Nat} {a1 : Int32} {q11 : Int32 → hq_S → Option hq_S} {s : hq_S} {y : hq_S} (e11 : ∀ (a1 : Int32) (s : hq_S), q11 a1 s = some y → hq_fm s y) (h : f_X12_keepNow_L11_B n q11 a1 s = some y) : hq_fm s y := by
  unfold f_X12_keepNow_L11_B at h
  have t := hq_fm_rf s
  by_cases c4 : a1 < (20 : Int32)
  · rw [if_pos c4] at h
    obtain ⟨s6, hs6, h⟩ := hq_bind h
    have t := hq_fm_tr t (f_X12_copies_fr hs6)
    exact hq_fm_tr t (e11 (a1 + (1 : Int32)) s6 h)
  · rw [if_neg c4] at h
    obtain ⟨s5, hs5, h⟩ := hq_bind h
    have t := hq_fm_tr t (hq_fm_pi hs5 (by first | decide | omega))
    exact hq_fm_tr t (f_X12_keepNow_J45_fr h)
theorem f_X12_keepNow_L11_fr {n m : Nat} {a1 : Int32} {s : hq_S} {y : hq_S} (h : f_X12_keepNow_L11 n m a1 s = some y) : hq_fm s y := by
  induction m generalizing a1 s with
  | zero => cases h
  | succ m ih => exact f_X12_keepNow_L11_B_fr (n := n) (a1 := a1) (q11 := f_X12_keepNow_L11 n m) (fun a1 s h => ih h) h
theorem f_X12_keepNow_fr {n : Nat} {s : hq_S} {y : hq_S} (h : f_X12_keepNow n s = some y) : hq_fm s y := by
  unfold f_X12_keepNow at h
  have t := hq_fm_rf s
  by_cases c1 : (hq_gi s 174 48) = (20 : Int32)
  · rw [if_pos c1] at h
    exact hq_fm_tr t (f_X12_keepNow_L11_fr h)
  · rw [if_neg c1] at h
    exact hq_fm_tr t (f_X12_keepNow_J45_fr h)
theorem f_X12_send_fr {n : Nat} {a1 : Int32} {a2 : Int32} {s : hq_S} {y : (Int32 × hq_S)} (h : f_X12_send n a1 a2 s = some y) : hq_fm s y.2 := by
  unfold f_X12_send at h
  have t := hq_fm_rf s
  obtain ⟨s1, hs1, h⟩ := hq_bind h
  have t := hq_fm_tr t (hq_fm_pi hs1 (by first | decide | omega))
  obtain ⟨y2, hy2, h⟩ := hq_bind h
  have t := hq_fm_tr t (f_X12_isGuard_fr hy2)
  by_cases c3 : y2.1 = 0
  · rw [if_pos c3] at h
    have h := Option.some.inj h
    subst h
    exact t
  · rw [if_neg c3] at h
    obtain ⟨y4, hy4, h⟩ := hq_bind h
    have t := hq_fm_tr t (f_X12_isCorner_fr hy4)
    by_cases c5 : y4.1 = 0
    · rw [if_pos c5] at h
      have h := Option.some.inj h
      subst h
      exact t
    · rw [if_neg c5] at h
      obtain ⟨s6, hs6, h⟩ := hq_bind h
      have t := hq_fm_tr t (f_X12_lays_fr hs6)
      obtain ⟨x7, hx7, h⟩ := hq_bind h
      obtain ⟨x8, hx8, h⟩ := hq_bind h
      by_cases c9 : ((x8 >>> (a2 &&& 31)) &&& (1 : Int32)) = 0
      · rw [if_pos c9] at h
        have h := Option.some.inj h
        subst h
        exact t
      · rw [if_neg c9] at h
        obtain ⟨s10, hs10, h⟩ := hq_bind h
        have t := hq_fm_tr t (f_X12_keepNow_fr hs10)
        obtain ⟨s11, hs11, h⟩ := hq_bind h
        have t := hq_fm_tr t (hq_fm_st hs11 (by first | decide | omega))
        have h := Option.some.inj h
        subst h
        exact t
theorem f_X12_bar_fr {n : Nat} {a1 : Int32} {s : hq_S} {y : (Int32 × hq_S)} (h : f_X12_bar n a1 s = some y) : hq_fm s y.2 := by
  unfold f_X12_bar at h
  have t := hq_fm_rf s
  obtain ⟨s1, hs1, h⟩ := hq_bind h
  have t := hq_fm_tr t (hq_fm_pi hs1 (by first | decide | omega))
  obtain ⟨y2, hy2, h⟩ := hq_bind h
  have t := hq_fm_tr t (f_X12_isLane_fr hy2)
  by_cases c3 : y2.1 = 0
  · rw [if_pos c3] at h
    have h := Option.some.inj h
    subst h
    exact t
  · rw [if_neg c3] at h
    obtain ⟨s4, hs4, h⟩ := hq_bind h
    have t := hq_fm_tr t (f_X12_keepNow_fr hs4)
    obtain ⟨x5, hx5, h⟩ := hq_bind h
    obtain ⟨s6, hs6, h⟩ := hq_bind h
    have t := hq_fm_tr t (hq_fm_st hs6 (by first | decide | omega))
    obtain ⟨x7, hx7, h⟩ := hq_bind h
    have h := Option.some.inj h
    subst h
    exact t
theorem f_X12_drop_fr {n : Nat} {a1 : Int32} {a2 : Int32} {s : hq_S} {y : (Int32 × hq_S)} (h : f_X12_drop n a1 a2 s = some y) : hq_fm s y.2 := by
  unfold f_X12_drop at h
  have t := hq_fm_rf s
  obtain ⟨s1, hs1, h⟩ := hq_bind h
  have t := hq_fm_tr t (hq_fm_pi hs1 (by first | decide | omega))
  obtain ⟨y2, hy2, h⟩ := hq_bind h
  have t := hq_fm_tr t (f_X12_isCorner_fr hy2)
  by_cases c3 : y2.1 = 0
  · rw [if_pos c3] at h
    have h := Option.some.inj h
    subst h
    exact t
  · rw [if_neg c3] at h
    by_cases c4 : a2 < (1 : Int32)
    · rw [if_pos c4] at h
      have h := Option.some.inj h
      subst h
      exact t
    · rw [if_neg c4] at h
      by_cases c5 : (999 : Int32) < a2
      · rw [if_pos c5] at h
        have h := Option.some.inj h
        subst h
        exact t
      · rw [if_neg c5] at h
        obtain ⟨s6, hs6, h⟩ := hq_bind h
        have t := hq_fm_tr t (f_X12_keepNow_fr hs6)
        obtain ⟨x7, hx7, h⟩ := hq_bind h
        obtain ⟨s8, hs8, h⟩ := hq_bind h
        have t := hq_fm_tr t (hq_fm_st hs8 (by first | decide | omega))
        obtain ⟨x9, hx9, h⟩ := hq_bind h
        have h := Option.some.inj h
        subst h
        exact t
theorem f_X12_go_L43_B_fr {n : Nat} {a1 : Int32} {a2 : Int32} {q43 : Int32 → Int32 → hq_S → Option (Int32 × hq_S)} {s : hq_S} {y : (Int32 × hq_S)} (e43 : ∀ (a1 : Int32) (a2 : Int32) (s : hq_S), q43 a1 a2 s = some y → hq_fm s y.2) (h : f_X12_go_L43_B n q43 a1 a2 s = some y) : hq_fm s y.2 := by
  unfold f_X12_go_L43_B at h
  have t := hq_fm_rf s
  by_cases c9 : a2 < a1
  · rw [if_pos c9] at h
    obtain ⟨s11, hs11, h⟩ := hq_bind h
    have t := hq_fm_tr t (f_X12_passes_fr hs11)
    exact hq_fm_tr t (e43 a1 (a2 + (1 : Int32)) s11 h)
  · rw [if_neg c9] at h
    obtain ⟨x10, hx10, h⟩ := hq_bind h
    have h := Option.some.inj h
    subst h
    exact t
theorem f_X12_go_L43_fr {n m : Nat} {a1 : Int32} {a2 : Int32} {s : hq_S} {y : (Int32 × hq_S)} (h : f_X12_go_L43 n m a1 a2 s = some y) : hq_fm s y.2 := by
  induction m generalizing a1 a2 s with
  | zero => cases h
  | succ m ih => exact f_X12_go_L43_B_fr (n := n) (a1 := a1) (a2 := a2) (q43 := f_X12_go_L43 n m) (fun a1 a2 s h => ih h) h
theorem f_X12_go_fr {n : Nat} {a1 : Int32} {s : hq_S} {y : (Int32 × hq_S)} (h : f_X12_go n a1 s = some y) : hq_fm s y.2 := by
  unfold f_X12_go at h
  have t := hq_fm_rf s
  obtain ⟨s1, hs1, h⟩ := hq_bind h
  have t := hq_fm_tr t (hq_fm_pi hs1 (by first | decide | omega))
  by_cases c2 : a1 < 0
  · rw [if_pos c2] at h
    have h := Option.some.inj h
    subst h
    exact t
  · rw [if_neg c2] at h
    by_cases c3 : (200 : Int32) < a1
    · rw [if_pos c3] at h
      have h := Option.some.inj h
      subst h
      exact t
    · rw [if_neg c3] at h
      obtain ⟨x4, hx4, h⟩ := hq_bind h
      by_cases c5 : (9800 : Int32) < (x4 + a1)
      · rw [if_pos c5] at h
        have h := Option.some.inj h
        subst h
        exact t
      · rw [if_neg c5] at h
        obtain ⟨z6, hz6, h⟩ := hq_bind h
        have t : hq_fm s z6 := by
          clear h
          have h := hz6
          by_cases c7 : 0 < a1
          · rw [if_pos c7] at h
            obtain ⟨s8, hs8, h⟩ := hq_bind h
            have t := hq_fm_tr t (hq_fm_pi hs8 (by first | decide | omega))
            cases h
            exact t
          · rw [if_neg c7] at h
            cases h
            exact t
        exact hq_fm_tr t (f_X12_go_L43_fr h)
theorem f_X12_ahead_fr {n : Nat} {a1 : Int32} {a2 : Int32} {a3 : Int32} {s : hq_S} {y : (Int32 × hq_S)} (h : f_X12_ahead n a1 a2 a3 s = some y) : hq_fm s y.2 := by
  unfold f_X12_ahead at h
  have t := hq_fm_rf s
  obtain ⟨s1, hs1, h⟩ := hq_bind h
  have t := hq_fm_tr t (hq_fm_pi hs1 (by first | decide | omega))
  obtain ⟨z2, hz2, h⟩ := hq_bind h
  have t : hq_fm s z2.2 := by
    clear h
    have h := hz2
    by_cases c3 : a2 = 0
    · rw [if_pos c3] at h
      cases h
      exact t
    · rw [if_neg c3] at h
      by_cases c4 : a2 = (2 : Int32)
      · rw [if_pos c4] at h
        cases h
        exact t
      · rw [if_neg c4] at h
        by_cases c5 : a2 = (1 : Int32)
        · rw [if_pos c5] at h
          obtain ⟨y6, hy6, h⟩ := hq_bind h
          have t := hq_fm_tr t (f_X12_isThief_fr hy6)
          by_cases c7 : y6.1 = 0
          · rw [if_pos c7] at h
            by_cases c8 : a2 = (3 : Int32)
            · rw [if_pos c8] at h
              obtain ⟨y9, hy9, h⟩ := hq_bind h
              have t := hq_fm_tr t (f_X12_isGuard_fr hy9)
              by_cases c10 : y9.1 = 0
              · rw [if_pos c10] at h
                cases h
                exact t
              · rw [if_neg c10] at h
                cases h
                exact t
            · rw [if_neg c8] at h
              cases h
              exact t
          · rw [if_neg c7] at h
            cases h
            exact t
        · rw [if_neg c5] at h
          by_cases c11 : a2 = (4 : Int32)
          · rw [if_pos c11] at h
            obtain ⟨y15, hy15, h⟩ := hq_bind h
            have t := hq_fm_tr t (f_X12_isThief_fr hy15)
            by_cases c16 : y15.1 = 0
            · rw [if_pos c16] at h
              by_cases c17 : a2 = (3 : Int32)
              · rw [if_pos c17] at h
                obtain ⟨y18, hy18, h⟩ := hq_bind h
                have t := hq_fm_tr t (f_X12_isGuard_fr hy18)
                by_cases c19 : y18.1 = 0
                · rw [if_pos c19] at h
                  cases h
                  exact t
                · rw [if_neg c19] at h
                  cases h
                  exact t
              · rw [if_neg c17] at h
                cases h
                exact t
            · rw [if_neg c16] at h
              cases h
              exact t
          · rw [if_neg c11] at h
            by_cases c12 : a2 = (3 : Int32)
            · rw [if_pos c12] at h
              obtain ⟨y13, hy13, h⟩ := hq_bind h
              have t := hq_fm_tr t (f_X12_isGuard_fr hy13)
              by_cases c14 : y13.1 = 0
              · rw [if_pos c14] at h
                cases h
                exact t
              · rw [if_neg c14] at h
                cases h
                exact t
            · rw [if_neg c12] at h
              cases h
              exact t
  by_cases c20 : a1 < 0
  · rw [if_pos c20] at h
    have h := Option.some.inj h
    subst h
    exact t
  · rw [if_neg c20] at h
    by_cases c21 : (200 : Int32) < a1
    · rw [if_pos c21] at h
      have h := Option.some.inj h
      subst h
      exact t
    · rw [if_neg c21] at h
      by_cases c22 : z2.1 = 0
      · rw [if_pos c22] at h
        have h := Option.some.inj h
        subst h
        exact t
      · rw [if_neg c22] at h
        obtain ⟨s23, hs23, h⟩ := hq_bind h
        have t := hq_fm_tr t (f_X12_copies_fr hs23)
        obtain ⟨s24, hs24, h⟩ := hq_bind h
        have t := hq_fm_tr t (f_X12_goesOn_fr hs24)
        by_cases c25 : a2 = (0 : Int32)
        · rw [if_pos c25] at h
          obtain ⟨y26, hy26, h⟩ := hq_bind h
          have t := hq_fm_tr t (f_X12_caughtOnes_fr hy26)
          have h := Option.some.inj h
          subst h
          exact t
        rw [if_neg c25] at h
        by_cases c27 : a2 = (1 : Int32)
        · rw [if_pos c27] at h
          obtain ⟨x28, hx28, h⟩ := hq_bind h
          have h := Option.some.inj h
          subst h
          exact t
        rw [if_neg c27] at h
        by_cases c29 : a2 = (2 : Int32)
        · rw [if_pos c29] at h
          obtain ⟨y30, hy30, h⟩ := hq_bind h
          have t := hq_fm_tr t (f_X12_sumOf_fr (by first | decide | omega) hy30)
          have h := Option.some.inj h
          subst h
          exact t
        rw [if_neg c29] at h
        by_cases c31 : a2 = (3 : Int32)
        · rw [if_pos c31] at h
          obtain ⟨x32, hx32, h⟩ := hq_bind h
          have h := Option.some.inj h
          subst h
          exact t
        rw [if_neg c31] at h
        obtain ⟨x33, hx33, h⟩ := hq_bind h
        have h := Option.some.inj h
        subst h
        exact t
theorem f_X12_caught_L23_B_fr {n : Nat} {a1 : Int32} {a2 : Int32} {q23 : Int32 → Int32 → hq_S → Option (Int32 × hq_S)} {s : hq_S} {y : (Int32 × hq_S)} (e23 : ∀ (a1 : Int32) (a2 : Int32) (s : hq_S), q23 a1 a2 s = some y → hq_fm s y.2) (h : f_X12_caught_L23_B n q23 a1 a2 s = some y) : hq_fm s y.2 := by
  unfold f_X12_caught_L23_B at h
  have t := hq_fm_rf s
  by_cases c5 : (199 : Int32) < a2
  · rw [if_pos c5] at h
    have h := Option.some.inj h
    subst h
    exact t
  · rw [if_neg c5] at h
    obtain ⟨y6, hy6, h⟩ := hq_bind h
    have t := hq_fm_tr t (f_X12_isFree_fr hy6)
    by_cases c7 : y6.1 = 0
    · rw [if_pos c7] at h
      have h := Option.some.inj h
      subst h
      exact t
    · rw [if_neg c7] at h
      obtain ⟨s8, hs8, h⟩ := hq_bind h
      have t := hq_fm_tr t (f_X12_passes_fr hs8)
      exact hq_fm_tr t (e23 a1 (a2 + (1 : Int32)) s8 h)
theorem f_X12_caught_L23_fr {n m : Nat} {a1 : Int32} {a2 : Int32} {s : hq_S} {y : (Int32 × hq_S)} (h : f_X12_caught_L23 n m a1 a2 s = some y) : hq_fm s y.2 := by
  induction m generalizing a1 a2 s with
  | zero => cases h
  | succ m ih => exact f_X12_caught_L23_B_fr (n := n) (a1 := a1) (a2 := a2) (q23 := f_X12_caught_L23 n m) (fun a1 a2 s h => ih h) h
theorem f_X12_caught_fr {n : Nat} {a1 : Int32} {s : hq_S} {y : (Int32 × hq_S)} (h : f_X12_caught n a1 s = some y) : hq_fm s y.2 := by
  unfold f_X12_caught at h
  have t := hq_fm_rf s
  obtain ⟨s1, hs1, h⟩ := hq_bind h
  have t := hq_fm_tr t (hq_fm_pi hs1 (by first | decide | omega))
  obtain ⟨y2, hy2, h⟩ := hq_bind h
  have t := hq_fm_tr t (f_X12_isThief_fr hy2)
  by_cases c3 : y2.1 = 0
  · rw [if_pos c3] at h
    have h := Option.some.inj h
    subst h
    exact t
  · rw [if_neg c3] at h
    obtain ⟨s4, hs4, h⟩ := hq_bind h
    have t := hq_fm_tr t (f_X12_copies_fr hs4)
    exact hq_fm_tr t (f_X12_caught_L23_fr h)
theorem f_X12_far_fr {n : Nat} {a1 : Int32} {a2 : Int32} {s : hq_S} {y : (Int32 × hq_S)} (h : f_X12_far n a1 a2 s = some y) : hq_fm s y.2 := by
  unfold f_X12_far at h
  have t := hq_fm_rf s
  obtain ⟨s1, hs1, h⟩ := hq_bind h
  have t := hq_fm_tr t (hq_fm_pi hs1 (by first | decide | omega))
  obtain ⟨y2, hy2, h⟩ := hq_bind h
  have t := hq_fm_tr t (f_X12_isCorner_fr hy2)
  by_cases c3 : y2.1 = 0
  · rw [if_pos c3] at h
    have h := Option.some.inj h
    subst h
    exact t
  · rw [if_neg c3] at h
    obtain ⟨y4, hy4, h⟩ := hq_bind h
    have t := hq_fm_tr t (f_X12_isCorner_fr hy4)
    by_cases c5 : y4.1 = 0
    · rw [if_pos c5] at h
      have h := Option.some.inj h
      subst h
      exact t
    · rw [if_neg c5] at h
      obtain ⟨s6, hs6, h⟩ := hq_bind h
      have t := hq_fm_tr t (f_X12_lays_fr hs6)
      obtain ⟨x7, hx7, h⟩ := hq_bind h
      have h := Option.some.inj h
      subst h
      exact t
theorem f_X12_way_L67_B_fr {n : Nat} {a1 : Int32} {a2 : Int32} {a3 : Int32} {a4 : Int32} {a5 : Int32} {a6 : Int32} {q67 : Int32 → Int32 → Int32 → Int32 → Int32 → Int32 → hq_S → Option (Int32 × hq_S)} {s : hq_S} {y : (Int32 × hq_S)} (e67 : ∀ (a1 : Int32) (a2 : Int32) (a3 : Int32) (a4 : Int32) (a5 : Int32) (a6 : Int32) (s : hq_S), q67 a1 a2 a3 a4 a5 a6 s = some y → hq_fm s y.2) (h : f_X12_way_L67_B n q67 a1 a2 a3 a4 a5 a6 s = some y) : hq_fm s y.2 := by
  unfold f_X12_way_L67_B at h
  have t := hq_fm_rf s
  by_cases c11 : a6 < a3
  · rw [if_pos c11] at h
    obtain ⟨y12, hy12, h⟩ := hq_bind h
    have t := hq_fm_tr t (f_X12_nearer_fr hy12)
    exact hq_fm_tr t (e67 a1 a2 a3 a4 y12.1 (a6 + (1 : Int32)) y12.2 h)
  · rw [if_neg c11] at h
    have h := Option.some.inj h
    subst h
    exact t
theorem f_X12_way_L67_fr {n m : Nat} {a1 : Int32} {a2 : Int32} {a3 : Int32} {a4 : Int32} {a5 : Int32} {a6 : Int32} {s : hq_S} {y : (Int32 × hq_S)} (h : f_X12_way_L67 n m a1 a2 a3 a4 a5 a6 s = some y) : hq_fm s y.2 := by
  induction m generalizing a1 a2 a3 a4 a5 a6 s with
  | zero => cases h
  | succ m ih => exact f_X12_way_L67_B_fr (n := n) (a1 := a1) (a2 := a2) (a3 := a3) (a4 := a4) (a5 := a5) (a6 := a6) (q67 := f_X12_way_L67 n m) (fun a1 a2 a3 a4 a5 a6 s h => ih h) h
theorem f_X12_way_fr {n : Nat} {a1 : Int32} {a2 : Int32} {a3 : Int32} {s : hq_S} {y : (Int32 × hq_S)} (h : f_X12_way n a1 a2 a3 s = some y) : hq_fm s y.2 := by
  unfold f_X12_way at h
  have t := hq_fm_rf s
  obtain ⟨s1, hs1, h⟩ := hq_bind h
  have t := hq_fm_tr t (hq_fm_pi hs1 (by first | decide | omega))
  obtain ⟨y2, hy2, h⟩ := hq_bind h
  have t := hq_fm_tr t (f_X12_isCorner_fr hy2)
  by_cases c3 : y2.1 = 0
  · rw [if_pos c3] at h
    have h := Option.some.inj h
    subst h
    exact t
  · rw [if_neg c3] at h
    obtain ⟨y4, hy4, h⟩ := hq_bind h
    have t := hq_fm_tr t (f_X12_isCorner_fr hy4)
    by_cases c5 : y4.1 = 0
    · rw [if_pos c5] at h
      have h := Option.some.inj h
      subst h
      exact t
    · rw [if_neg c5] at h
      by_cases c6 : a3 < 0
      · rw [if_pos c6] at h
        have h := Option.some.inj h
        subst h
        exact t
      · rw [if_neg c6] at h
        obtain ⟨s7, hs7, h⟩ := hq_bind h
        have t := hq_fm_tr t (f_X12_lays_fr hs7)
        obtain ⟨x8, hx8, h⟩ := hq_bind h
        by_cases c9 : x8 = (99 : Int32)
        · rw [if_pos c9] at h
          have h := Option.some.inj h
          subst h
          exact t
        · rw [if_neg c9] at h
          by_cases c10 : x8 < a3
          · rw [if_pos c10] at h
            have h := Option.some.inj h
            subst h
            exact t
          · rw [if_neg c10] at h
            exact hq_fm_tr t (f_X12_way_L67_fr h)
theorem f_X12_reachOf_L4_B_fr {n : Nat} {a1 : Int32} {a2 : Int32} {a3 : Int32} {q4 : Int32 → Int32 → Int32 → hq_S → Option (Int32 × hq_S)} {s : hq_S} {y : (Int32 × hq_S)} (e4 : ∀ (a1 : Int32) (a2 : Int32) (a3 : Int32) (s : hq_S), q4 a1 a2 a3 s = some y → hq_fm s y.2) (h : f_X12_reachOf_L4_B n q4 a1 a2 a3 s = some y) : hq_fm s y.2 := by
  unfold f_X12_reachOf_L4_B at h
  have t := hq_fm_rf s
  obtain ⟨x1, hx1, h⟩ := hq_bind h
  by_cases c2 : a3 < x1
  · rw [if_pos c2] at h
    obtain ⟨x3, hx3, h⟩ := hq_bind h
    obtain ⟨z4, hz4, h⟩ := hq_bind h
    exact hq_fm_tr t (e4 a1 (a2 ||| z4) (a3 + (1 : Int32)) s h)
  · rw [if_neg c2] at h
    have h := Option.some.inj h
    subst h
    exact t
theorem f_X12_reachOf_L4_fr {n m : Nat} {a1 : Int32} {a2 : Int32} {a3 : Int32} {s : hq_S} {y : (Int32 × hq_S)} (h : f_X12_reachOf_L4 n m a1 a2 a3 s = some y) : hq_fm s y.2 := by
  induction m generalizing a1 a2 a3 s with
  | zero => cases h
  | succ m ih => exact f_X12_reachOf_L4_B_fr (n := n) (a1 := a1) (a2 := a2) (a3 := a3) (q4 := f_X12_reachOf_L4 n m) (fun a1 a2 a3 s h => ih h) h
theorem f_X12_reachOf_fr {n : Nat} {a1 : Int32} {s : hq_S} {y : (Int32 × hq_S)} (h : f_X12_reachOf n a1 s = some y) : hq_fm s y.2 := by
  unfold f_X12_reachOf at h
  have t := hq_fm_rf s
  exact hq_fm_tr t (f_X12_reachOf_L4_fr h)
theorem f_X12_reach_fr {n : Nat} {a1 : Int32} {s : hq_S} {y : (Int32 × hq_S)} (h : f_X12_reach n a1 s = some y) : hq_fm s y.2 := by
  unfold f_X12_reach at h
  have t := hq_fm_rf s
  obtain ⟨s1, hs1, h⟩ := hq_bind h
  have t := hq_fm_tr t (hq_fm_pi hs1 (by first | decide | omega))
  obtain ⟨y2, hy2, h⟩ := hq_bind h
  have t := hq_fm_tr t (f_X12_isCorner_fr hy2)
  by_cases c3 : y2.1 = 0
  · rw [if_pos c3] at h
    have h := Option.some.inj h
    subst h
    exact t
  · rw [if_neg c3] at h
    obtain ⟨s4, hs4, h⟩ := hq_bind h
    have t := hq_fm_tr t (f_X12_lays_fr hs4)
    obtain ⟨y5, hy5, h⟩ := hq_bind h
    have t := hq_fm_tr t (f_X12_reachOf_fr hy5)
    have h := Option.some.inj h
    subst h
    exact t
theorem f_X12_parts_L29_B_fr {n : Nat} {a1 : Int32} {a2 : Int32} {a3 : Int32} {a4 : Int32} {q14 : Int32 → Int32 → hq_S → Option (Int32 × hq_S)} {q29 : Int32 → Int32 → Int32 → Int32 → hq_S → Option (Int32 × hq_S)} {s : hq_S} {y : (Int32 × hq_S)} (e14 : ∀ (a1 : Int32) (a2 : Int32) (o3 : Option Value) (o4 : Option Value) (s : hq_S), q14 a1 a2 s = some y → hq_fm s y.2) (e29 : ∀ (a1 : Int32) (a2 : Int32) (a3 : Int32) (a4 : Int32) (s : hq_S), q29 a1 a2 a3 a4 s = some y → hq_fm s y.2) (h : f_X12_parts_L29_B n q14 q29 a1 a2 a3 a4 s = some y) : hq_fm s y.2 := by
  unfold f_X12_parts_L29_B at h
  have t := hq_fm_rf s
  by_cases c5 : a4 < a2
  · rw [if_pos c5] at h
    obtain ⟨y8, hy8, h⟩ := hq_bind h
    have t := hq_fm_tr t (f_X12_reachOf_fr hy8)
    obtain ⟨y9, hy9, h⟩ := hq_bind h
    have t := hq_fm_tr t (f_X12_reachOf_fr hy9)
    obtain ⟨z10, hz10, h⟩ := hq_bind h
    exact hq_fm_tr t (e29 a1 a2 (a3 &&& z10) (a4 + (1 : Int32)) y9.2 h)
  · rw [if_neg c5] at h
    obtain ⟨z6, hz6, h⟩ := hq_bind h
    exact hq_fm_tr t (e14 (a1 + z6) (a2 + (1 : Int32)) none none s h)
theorem f_X12_parts_L29_fr {n m : Nat} {a1 : Int32} {a2 : Int32} {a3 : Int32} {a4 : Int32} {q14 : Int32 → Int32 → hq_S → Option (Int32 × hq_S)} {s : hq_S} {y : (Int32 × hq_S)} (e14 : ∀ (a1 : Int32) (a2 : Int32) (o3 : Option Value) (o4 : Option Value) (s : hq_S), q14 a1 a2 s = some y → hq_fm s y.2) (h : f_X12_parts_L29 n q14 m a1 a2 a3 a4 s = some y) : hq_fm s y.2 := by
  induction m generalizing a1 a2 a3 a4 s with
  | zero => cases h
  | succ m ih => exact f_X12_parts_L29_B_fr (n := n) (a1 := a1) (a2 := a2) (a3 := a3) (a4 := a4) (q29 := f_X12_parts_L29 n q14 m) e14 (fun a1 a2 a3 a4 s h => ih h) h
theorem f_X12_parts_L14_B_fr {n : Nat} {a1 : Int32} {a2 : Int32} {q14 : Int32 → Int32 → hq_S → Option (Int32 × hq_S)} {s : hq_S} {y : (Int32 × hq_S)} (e14 : ∀ (a1 : Int32) (a2 : Int32) (o3 : Option Value) (o4 : Option Value) (s : hq_S), q14 a1 a2 s = some y → hq_fm s y.2) (h : f_X12_parts_L14_B n q14 a1 a2 s = some y) : hq_fm s y.2 := by
  unfold f_X12_parts_L14_B at h
  have t := hq_fm_rf s
  obtain ⟨x3, hx3, h⟩ := hq_bind h
  by_cases c4 : a2 < x3
  · rw [if_pos c4] at h
    exact hq_fm_tr t (f_X12_parts_L29_fr e14 h)
  · rw [if_neg c4] at h
    have h := Option.some.inj h
    subst h
    exact t
theorem f_X12_parts_L14_fr {n m : Nat} {a1 : Int32} {a2 : Int32} {s : hq_S} {y : (Int32 × hq_S)} (h : f_X12_parts_L14 n m a1 a2 s = some y) : hq_fm s y.2 := by
  induction m generalizing a1 a2 s with
  | zero => cases h
  | succ m ih => exact f_X12_parts_L14_B_fr (n := n) (a1 := a1) (a2 := a2) (q14 := f_X12_parts_L14 n m) (fun a1 a2 _ _ s h => ih h) h
theorem f_X12_parts_fr {n : Nat} {s : hq_S} {y : (Int32 × hq_S)} (h : f_X12_parts n s = some y) : hq_fm s y.2 := by
  unfold f_X12_parts at h
  have t := hq_fm_rf s
  obtain ⟨s1, hs1, h⟩ := hq_bind h
  have t := hq_fm_tr t (hq_fm_pi hs1 (by first | decide | omega))
  obtain ⟨s2, hs2, h⟩ := hq_bind h
  have t := hq_fm_tr t (f_X12_lays_fr hs2)
  exact hq_fm_tr t (f_X12_parts_L14_fr h)
theorem f_X12_reads10_L7_B_fr {n : Nat} {a1 : Int32} {a2 : Int32} {a3 : Int32} {q7 : Int32 → Int32 → Int32 → hq_S → Option (Int32 × hq_S)} {s : hq_S} {y : (Int32 × hq_S)} (e7 : ∀ (a1 : Int32) (a2 : Int32) (a3 : Int32) (s : hq_S), q7 a1 a2 a3 s = some y → hq_fm s y.2) (h : f_X12_reads10_L7_B n q7 a1 a2 a3 s = some y) : hq_fm s y.2 := by
  unfold f_X12_reads10_L7_B at h
  have t := hq_fm_rf s
  by_cases c1 : a3 < 0
  · rw [if_pos c1] at h
    have h := Option.some.inj h
    subst h
    exact t
  · rw [if_neg c1] at h
    obtain ⟨x2, hx2, h⟩ := hq_bind h
    obtain ⟨s3, hs3, h⟩ := hq_bind h
    have t := hq_fm_tr t (hq_fm_st hs3 (by first | decide | omega))
    obtain ⟨x4, hx4, h⟩ := hq_bind h
    obtain ⟨x5, hx5, h⟩ := hq_bind h
    obtain ⟨x6, hx6, h⟩ := hq_bind h
    by_cases c7 : x5 < x6
    · rw [if_pos c7] at h
      exact hq_fm_tr t (e7 a1 x4 (a3 + Int32.ofInt (-1)) s3 h)
    · rw [if_neg c7] at h
      have h := Option.some.inj h
      subst h
      exact t
theorem f_X12_reads10_L7_fr {n m : Nat} {a1 : Int32} {a2 : Int32} {a3 : Int32} {s : hq_S} {y : (Int32 × hq_S)} (h : f_X12_reads10_L7 n m a1 a2 a3 s = some y) : hq_fm s y.2 := by
  induction m generalizing a1 a2 a3 s with
  | zero => cases h
  | succ m ih => exact f_X12_reads10_L7_B_fr (n := n) (a1 := a1) (a2 := a2) (a3 := a3) (q7 := f_X12_reads10_L7 n m) (fun a1 a2 a3 s h => ih h) h
theorem f_X12_reads10_fr {n : Nat} {a1 : Int32} {s : hq_S} {y : (Int32 × hq_S)} (h : f_X12_reads10 n a1 s = some y) : hq_fm s y.2 := by
  unfold f_X12_reads10 at h
  have t := hq_fm_rf s
  exact hq_fm_tr t (f_X12_reads10_L7_fr h)
theorem f_X12_isAmong_L2_B_fr {n : Nat} {a1 : Int32} {a2 : Int32} {q2 : Int32 → Int32 → hq_S → Option (Int32 × hq_S)} {s : hq_S} {y : (Int32 × hq_S)} (e2 : ∀ (a1 : Int32) (a2 : Int32) (s : hq_S), q2 a1 a2 s = some y → hq_fm s y.2) (h : f_X12_isAmong_L2_B n q2 a1 a2 s = some y) : hq_fm s y.2 := by
  unfold f_X12_isAmong_L2_B at h
  have t := hq_fm_rf s
  by_cases c1 : a2 < (hq_gi s 174 60)
  · rw [if_pos c1] at h
    obtain ⟨x2, hx2, h⟩ := hq_bind h
    by_cases c3 : x2 = a1
    · rw [if_pos c3] at h
      have h := Option.some.inj h
      subst h
      exact t
    · rw [if_neg c3] at h
      exact hq_fm_tr t (e2 a1 (a2 + (1 : Int32)) s h)
  · rw [if_neg c1] at h
    have h := Option.some.inj h
    subst h
    exact t
theorem f_X12_isAmong_L2_fr {n m : Nat} {a1 : Int32} {a2 : Int32} {s : hq_S} {y : (Int32 × hq_S)} (h : f_X12_isAmong_L2 n m a1 a2 s = some y) : hq_fm s y.2 := by
  induction m generalizing a1 a2 s with
  | zero => cases h
  | succ m ih => exact f_X12_isAmong_L2_B_fr (n := n) (a1 := a1) (a2 := a2) (q2 := f_X12_isAmong_L2 n m) (fun a1 a2 s h => ih h) h
theorem f_X12_isAmong_fr {n : Nat} {a1 : Int32} {s : hq_S} {y : (Int32 × hq_S)} (h : f_X12_isAmong n a1 s = some y) : hq_fm s y.2 := by
  unfold f_X12_isAmong at h
  have t := hq_fm_rf s
  exact hq_fm_tr t (f_X12_isAmong_L2_fr h)
theorem f_X12_stayOrGo_fr {n : Nat} {a1 : Int32} {s : hq_S} {y : (Int32 × hq_S)} (h : f_X12_stayOrGo n a1 s = some y) : hq_fm s y.2 := by
  unfold f_X12_stayOrGo at h
  have t := hq_fm_rf s
  obtain ⟨x1, hx1, h⟩ := hq_bind h
  have h := Option.some.inj h
  subst h
  exact t
theorem f_X12_isLost_J76_fr {n : Nat} {a1 : Int32} {a2 : Int32} {a3 : Int32} {a4 : Int32} {q29 : Int32 → Int32 → Int32 → Int32 → hq_S → Option (Int32 × hq_S)} {s : hq_S} {y : (Int32 × hq_S)} (e29 : ∀ (a1 : Int32) (a2 : Int32) (a3 : Int32) (a4 : Int32) (s : hq_S), q29 a1 a2 a3 a4 s = some y → hq_fm s y.2) (h : f_X12_isLost_J76 n q29 a1 a2 a3 a4 s = some y) : hq_fm s y.2 := by
  unfold f_X12_isLost_J76 at h
  have t := hq_fm_rf s
  exact hq_fm_tr t (e29 a1 a2 a3 (a4 + (1 : Int32)) s h)
theorem f_X12_isLost_L29_B_fr {n : Nat} {a1 : Int32} {a2 : Int32} {a3 : Int32} {a4 : Int32} {q29 : Int32 → Int32 → Int32 → Int32 → hq_S → Option (Int32 × hq_S)} {s : hq_S} {y : (Int32 × hq_S)} (e29 : ∀ (a1 : Int32) (a2 : Int32) (a3 : Int32) (a4 : Int32) (s : hq_S), q29 a1 a2 a3 a4 s = some y → hq_fm s y.2) (h : f_X12_isLost_L29_B n q29 a1 a2 a3 a4 s = some y) : hq_fm s y.2 := by
  unfold f_X12_isLost_L29_B at h
  have t := hq_fm_rf s
  obtain ⟨x5, hx5, h⟩ := hq_bind h
  by_cases c6 : a4 < x5
  · rw [if_pos c6] at h
    by_cases c7 : ((a3 >>> (a4 &&& 31)) &&& (1 : Int32)) = (1 : Int32)
    · rw [if_pos c7] at h
      obtain ⟨y8, hy8, h⟩ := hq_bind h
      have t := hq_fm_tr t (f_X12_isAmong_fr hy8)
      by_cases c9 : y8.1 = 0
      · rw [if_pos c9] at h
        obtain ⟨x10, hx10, h⟩ := hq_bind h
        by_cases c11 : x10 = (-1 : Int32)
        · rw [if_pos c11] at h
          have h := Option.some.inj h
          subst h
          exact t
        · rw [if_neg c11] at h
          exact hq_fm_tr t (f_X12_isLost_J76_fr e29 h)
      · rw [if_neg c9] at h
        exact hq_fm_tr t (f_X12_isLost_J76_fr e29 h)
    · rw [if_neg c7] at h
      exact hq_fm_tr t (f_X12_isLost_J76_fr e29 h)
  · rw [if_neg c6] at h
    have h := Option.some.inj h
    subst h
    exact t
theorem f_X12_isLost_L29_fr {n m : Nat} {a1 : Int32} {a2 : Int32} {a3 : Int32} {a4 : Int32} {s : hq_S} {y : (Int32 × hq_S)} (h : f_X12_isLost_L29 n m a1 a2 a3 a4 s = some y) : hq_fm s y.2 := by
  induction m generalizing a1 a2 a3 a4 s with
  | zero => cases h
  | succ m ih => exact f_X12_isLost_L29_B_fr (n := n) (a1 := a1) (a2 := a2) (a3 := a3) (a4 := a4) (q29 := f_X12_isLost_L29 n m) (fun a1 a2 a3 a4 s h => ih h) h
theorem f_X12_isLost_fr {n : Nat} {a1 : Int32} {s : hq_S} {y : (Int32 × hq_S)} (h : f_X12_isLost n a1 s = some y) : hq_fm s y.2 := by
  unfold f_X12_isLost at h
  have t := hq_fm_rf s
  obtain ⟨x1, hx1, h⟩ := hq_bind h
  obtain ⟨y2, hy2, h⟩ := hq_bind h
  have t := hq_fm_tr t (f_X12_isAmong_fr hy2)
  by_cases c3 : y2.1 = 0
  · rw [if_pos c3] at h
    obtain ⟨y4, hy4, h⟩ := hq_bind h
    have t := hq_fm_tr t (f_X12_stayOrGo_fr hy4)
    exact hq_fm_tr t (f_X12_isLost_L29_fr h)
  · rw [if_neg c3] at h
    have h := Option.some.inj h
    subst h
    exact t
theorem f_X12_spreads_L139_B_fr {n : Nat} {a1 : Int32} {a2 : Int32} {a3 : Int32} {q139 : Int32 → Int32 → Int32 → hq_S → Option hq_S} {s : hq_S} {y : hq_S} (e139 : ∀ (a1 : Int32) (a2 : Int32) (a3 : Int32) (o4 : Option Value) (o5 : Option Value) (s : hq_S), q139 a1 a2 a3 s = some y → hq_fm s y) (h : f_X12_spreads_L139_B n q139 a1 a2 a3 s = some y) : hq_fm s y := by
  unfold f_X12_spreads_L139_B at h
  have t := hq_fm_rf s
  obtain ⟨x4, hx4, h⟩ := hq_bind h
  by_cases c5 : a3 < x4
  · rw [if_pos c5] at h
    obtain ⟨x6, hx6, h⟩ := hq_bind h
    obtain ⟨s7, hs7, h⟩ := hq_bind h
    have t := hq_fm_tr t (hq_fm_st hs7 (by first | decide | omega))
    exact hq_fm_tr t (e139 a1 a2 (a3 + (1 : Int32)) none none s7 h)
  · rw [if_neg c5] at h
    have h := Option.some.inj h
    subst h
    exact t
theorem f_X12_spreads_L139_fr {n m : Nat} {a1 : Int32} {a2 : Int32} {a3 : Int32} {s : hq_S} {y : hq_S} (h : f_X12_spreads_L139 n m a1 a2 a3 s = some y) : hq_fm s y := by
  induction m generalizing a1 a2 a3 s with
  | zero => cases h
  | succ m ih => exact f_X12_spreads_L139_B_fr (n := n) (a1 := a1) (a2 := a2) (a3 := a3) (q139 := f_X12_spreads_L139 n m) (fun a1 a2 a3 _ _ s h => ih h) h
theorem f_X12_spreads_J131_fr {n : Nat} {a1 : Int32} {a2 : Int32} {a3 : Int32} {q14 : Int32 → Int32 → Int32 → hq_S → Option hq_S} {s : hq_S} {y : hq_S} (e14 : ∀ (a1 : Int32) (a2 : Int32) (a3 : Int32) (o4 : Option Value) (o5 : Option Value) (s : hq_S), q14 a1 a2 a3 s = some y → hq_fm s y) (h : f_X12_spreads_J131 n q14 a1 a2 a3 s = some y) : hq_fm s y := by
  unfold f_X12_spreads_J131 at h
  have t := hq_fm_rf s
  exact hq_fm_tr t (e14 a1 a2 (a3 + (1 : Int32)) none none s h)
theorem f_X12_spreads_L62_B_fr {n : Nat} {a1 : Int32} {a2 : Int32} {a3 : Int32} {a4 : Int32} {a5 : Int32} {q14 : Int32 → Int32 → Int32 → hq_S → Option hq_S} {q62 : Int32 → Int32 → Int32 → Int32 → Int32 → hq_S → Option hq_S} {s : hq_S} {y : hq_S} (e14 : ∀ (a1 : Int32) (a2 : Int32) (a3 : Int32) (o4 : Option Value) (o5 : Option Value) (s : hq_S), q14 a1 a2 a3 s = some y → hq_fm s y) (e62 : ∀ (a1 : Int32) (a2 : Int32) (a3 : Int32) (a4 : Int32) (a5 : Int32) (s : hq_S), q62 a1 a2 a3 a4 a5 s = some y → hq_fm s y) (h : f_X12_spreads_L62_B n q14 q62 a1 a2 a3 a4 a5 s = some y) : hq_fm s y := by
  unfold f_X12_spreads_L62_B at h
  have t := hq_fm_rf s
  obtain ⟨x13, hx13, h⟩ := hq_bind h
  by_cases c14 : a5 < x13
  · rw [if_pos c14] at h
    obtain ⟨x15, hx15, h⟩ := hq_bind h
    by_cases c16 : x15 = 0
    · rw [if_pos c16] at h
      obtain ⟨z17, hz17, h⟩ := hq_bind h
      obtain ⟨s22, hs22, h⟩ := hq_bind h
      have t := hq_fm_tr t (hq_fm_st hs22 (by first | decide | omega))
      exact hq_fm_tr t (e62 a1 a2 a3 a4 (a5 + (1 : Int32)) s22 h)
    · rw [if_neg c16] at h
      exact hq_fm_tr t (f_X12_spreads_J131_fr e14 h)
  · rw [if_neg c14] at h
    exact hq_fm_tr t (f_X12_spreads_J131_fr e14 h)
theorem f_X12_spreads_L62_fr {n m : Nat} {a1 : Int32} {a2 : Int32} {a3 : Int32} {a4 : Int32} {a5 : Int32} {q14 : Int32 → Int32 → Int32 → hq_S → Option hq_S} {s : hq_S} {y : hq_S} (e14 : ∀ (a1 : Int32) (a2 : Int32) (a3 : Int32) (o4 : Option Value) (o5 : Option Value) (s : hq_S), q14 a1 a2 a3 s = some y → hq_fm s y) (h : f_X12_spreads_L62 n q14 m a1 a2 a3 a4 a5 s = some y) : hq_fm s y := by
  induction m generalizing a1 a2 a3 a4 a5 s with
  | zero => cases h
  | succ m ih => exact f_X12_spreads_L62_B_fr (n := n) (a1 := a1) (a2 := a2) (a3 := a3) (a4 := a4) (a5 := a5) (q62 := f_X12_spreads_L62 n q14 m) e14 (fun a1 a2 a3 a4 a5 s h => ih h) h
theorem f_X12_spreads_L14_B_fr {n : Nat} {a1 : Int32} {a2 : Int32} {a3 : Int32} {q14 : Int32 → Int32 → Int32 → hq_S → Option hq_S} {s : hq_S} {y : hq_S} (e14 : ∀ (a1 : Int32) (a2 : Int32) (a3 : Int32) (o4 : Option Value) (o5 : Option Value) (s : hq_S), q14 a1 a2 a3 s = some y → hq_fm s y) (h : f_X12_spreads_L14_B n q14 a1 a2 a3 s = some y) : hq_fm s y := by
  unfold f_X12_spreads_L14_B at h
  have t := hq_fm_rf s
  obtain ⟨x2, hx2, h⟩ := hq_bind h
  by_cases c3 : a3 < x2
  · rw [if_pos c3] at h
    obtain ⟨s8, hs8, h⟩ := hq_bind h
    have t := hq_fm_tr t (hq_fm_st hs8 (by first | decide | omega))
    obtain ⟨y9, hy9, h⟩ := hq_bind h
    have t := hq_fm_tr t (f_X12_reads10_fr hy9)
    by_cases c10 : y9.1 = 0
    · rw [if_pos c10] at h
      exact hq_fm_tr t (f_X12_spreads_J131_fr e14 h)
    · rw [if_neg c10] at h
      obtain ⟨x11, hx11, h⟩ := hq_bind h
      obtain ⟨y12, hy12, h⟩ := hq_bind h
      have t := hq_fm_tr t (f_X12_stayOrGo_fr hy12)
      exact hq_fm_tr t (f_X12_spreads_L62_fr e14 h)
  · rw [if_neg c3] at h
    exact hq_fm_tr t (f_X12_spreads_L139_fr h)
theorem f_X12_spreads_L14_fr {n m : Nat} {a1 : Int32} {a2 : Int32} {a3 : Int32} {s : hq_S} {y : hq_S} (h : f_X12_spreads_L14 n m a1 a2 a3 s = some y) : hq_fm s y := by
  induction m generalizing a1 a2 a3 s with
  | zero => cases h
  | succ m ih => exact f_X12_spreads_L14_B_fr (n := n) (a1 := a1) (a2 := a2) (a3 := a3) (q14 := f_X12_spreads_L14 n m) (fun a1 a2 a3 _ _ s h => ih h) h
theorem f_X12_spreads_fr {n : Nat} {a1 : Int32} {s : hq_S} {y : hq_S} (h : f_X12_spreads n a1 s = some y) : hq_fm s y := by
  unfold f_X12_spreads at h
  have t := hq_fm_rf s
  obtain ⟨x1, hx1, h⟩ := hq_bind h
  exact hq_fm_tr t (f_X12_spreads_L14_fr h)
theorem f_X12_laysChase_L151_B_fr {n : Nat} {a1 : Int32} {a2 : Int32} {a3 : Int32} {a4 : Int32} {q69 : Int32 → Int32 → Int32 → hq_S → Option hq_S} {q151 : Int32 → Int32 → Int32 → Int32 → hq_S → Option hq_S} {s : hq_S} {y : hq_S} (e69 : ∀ (a1 : Int32) (a2 : Int32) (a3 : Int32) (o4 : Option Value) (s : hq_S), q69 a1 a2 a3 s = some y → hq_fm s y) (e151 : ∀ (a1 : Int32) (a2 : Int32) (a3 : Int32) (a4 : Int32) (s : hq_S), q151 a1 a2 a3 a4 s = some y → hq_fm s y) (h : f_X12_laysChase_L151_B n q69 q151 a1 a2 a3 a4 s = some y) : hq_fm s y := by
  unfold f_X12_laysChase_L151_B at h
  have t := hq_fm_rf s
  obtain ⟨x10, hx10, h⟩ := hq_bind h
  by_cases c11 : a4 < x10
  · rw [if_pos c11] at h
    obtain ⟨x12, hx12, h⟩ := hq_bind h
    obtain ⟨z13, hz13, h⟩ := hq_bind h
    have t : hq_fm s z13.2 := by
      clear h
      have h := hz13
      by_cases c14 : x12 = 0
      · rw [if_pos c14] at h
        cases h
        exact t
      · rw [if_neg c14] at h
        obtain ⟨x15, hx15, h⟩ := hq_bind h
        by_cases c16 : x15 = (-1 : Int32)
        · rw [if_pos c16] at h
          obtain ⟨s17, hs17, h⟩ := hq_bind h
          have t := hq_fm_tr t (hq_fm_st hs17 (by first | decide | omega))
          cases h
          exact t
        · rw [if_neg c16] at h
          cases h
          exact t
    exact hq_fm_tr t (e151 a1 z13.1 a3 (a4 + (1 : Int32)) z13.2 h)
  · rw [if_neg c11] at h
    exact hq_fm_tr t (e69 a1 a2 (a3 + (1 : Int32)) none s h)
theorem f_X12_laysChase_L151_fr {n m : Nat} {a1 : Int32} {a2 : Int32} {a3 : Int32} {a4 : Int32} {q69 : Int32 → Int32 → Int32 → hq_S → Option hq_S} {s : hq_S} {y : hq_S} (e69 : ∀ (a1 : Int32) (a2 : Int32) (a3 : Int32) (o4 : Option Value) (s : hq_S), q69 a1 a2 a3 s = some y → hq_fm s y) (h : f_X12_laysChase_L151 n q69 m a1 a2 a3 a4 s = some y) : hq_fm s y := by
  induction m generalizing a1 a2 a3 a4 s with
  | zero => cases h
  | succ m ih => exact f_X12_laysChase_L151_B_fr (n := n) (a1 := a1) (a2 := a2) (a3 := a3) (a4 := a4) (q151 := f_X12_laysChase_L151 n q69 m) e69 (fun a1 a2 a3 a4 s h => ih h) h
theorem f_X12_laysChase_L130_B_fr {n : Nat} {a1 : Int32} {a2 : Int32} {a3 : Int32} {a4 : Int32} {q69 : Int32 → Int32 → Int32 → hq_S → Option hq_S} {q130 : Int32 → Int32 → Int32 → Int32 → hq_S → Option hq_S} {s : hq_S} {y : hq_S} (e69 : ∀ (a1 : Int32) (a2 : Int32) (a3 : Int32) (o4 : Option Value) (s : hq_S), q69 a1 a2 a3 s = some y → hq_fm s y) (e130 : ∀ (a1 : Int32) (a2 : Int32) (a3 : Int32) (a4 : Int32) (s : hq_S), q130 a1 a2 a3 a4 s = some y → hq_fm s y) (h : f_X12_laysChase_L130_B n q69 q130 a1 a2 a3 a4 s = some y) : hq_fm s y := by
  unfold f_X12_laysChase_L130_B at h
  have t := hq_fm_rf s
  by_cases c9 : a4 < a1
  · rw [if_pos c9] at h
    obtain ⟨s18, hs18, h⟩ := hq_bind h
    have t := hq_fm_tr t (f_X12_spreads_fr hs18)
    exact hq_fm_tr t (e130 a1 a2 a3 (a4 + (1 : Int32)) s18 h)
  · rw [if_neg c9] at h
    exact hq_fm_tr t (f_X12_laysChase_L151_fr e69 h)
theorem f_X12_laysChase_L130_fr {n m : Nat} {a1 : Int32} {a2 : Int32} {a3 : Int32} {a4 : Int32} {q69 : Int32 → Int32 → Int32 → hq_S → Option hq_S} {s : hq_S} {y : hq_S} (e69 : ∀ (a1 : Int32) (a2 : Int32) (a3 : Int32) (o4 : Option Value) (s : hq_S), q69 a1 a2 a3 s = some y → hq_fm s y) (h : f_X12_laysChase_L130 n q69 m a1 a2 a3 a4 s = some y) : hq_fm s y := by
  induction m generalizing a1 a2 a3 a4 s with
  | zero => cases h
  | succ m ih => exact f_X12_laysChase_L130_B_fr (n := n) (a1 := a1) (a2 := a2) (a3 := a3) (a4 := a4) (q130 := f_X12_laysChase_L130 n q69 m) e69 (fun a1 a2 a3 a4 s h => ih h) h
theorem f_X12_laysChase_L78_B_fr {n : Nat} {a1 : Int32} {a2 : Int32} {a3 : Int32} {a4 : Int32} {q69 : Int32 → Int32 → Int32 → hq_S → Option hq_S} {q78 : Int32 → Int32 → Int32 → Int32 → hq_S → Option hq_S} {s : hq_S} {y : hq_S} (e69 : ∀ (a1 : Int32) (a2 : Int32) (a3 : Int32) (o4 : Option Value) (s : hq_S), q69 a1 a2 a3 s = some y → hq_fm s y) (e78 : ∀ (a1 : Int32) (a2 : Int32) (a3 : Int32) (a4 : Int32) (s : hq_S), q78 a1 a2 a3 a4 s = some y → hq_fm s y) (h : f_X12_laysChase_L78_B n q69 q78 a1 a2 a3 a4 s = some y) : hq_fm s y := by
  unfold f_X12_laysChase_L78_B at h
  have t := hq_fm_rf s
  obtain ⟨x7, hx7, h⟩ := hq_bind h
  by_cases c8 : a4 < x7
  · rw [if_pos c8] at h
    obtain ⟨y19, hy19, h⟩ := hq_bind h
    have t := hq_fm_tr t (f_X12_reads10_fr hy19)
    obtain ⟨z20, hz20, h⟩ := hq_bind h
    have t : hq_fm s z20.2 := by
      clear h
      have h := hz20
      by_cases c21 : y19.1 = 0
      · rw [if_pos c21] at h
        cases h
        exact t
      · rw [if_neg c21] at h
        obtain ⟨y22, hy22, h⟩ := hq_bind h
        have t := hq_fm_tr t (f_X12_isLost_fr hy22)
        by_cases c23 : y22.1 = 0
        · rw [if_pos c23] at h
          cases h
          exact t
        · rw [if_neg c23] at h
          cases h
          exact t
    obtain ⟨s24, hs24, h⟩ := hq_bind h
    have t := hq_fm_tr t (hq_fm_st hs24 (by first | decide | omega))
    exact hq_fm_tr t (e78 a1 a2 a3 (a4 + (1 : Int32)) s24 h)
  · rw [if_neg c8] at h
    exact hq_fm_tr t (f_X12_laysChase_L130_fr e69 h)
theorem f_X12_laysChase_L78_fr {n m : Nat} {a1 : Int32} {a2 : Int32} {a3 : Int32} {a4 : Int32} {q69 : Int32 → Int32 → Int32 → hq_S → Option hq_S} {s : hq_S} {y : hq_S} (e69 : ∀ (a1 : Int32) (a2 : Int32) (a3 : Int32) (o4 : Option Value) (s : hq_S), q69 a1 a2 a3 s = some y → hq_fm s y) (h : f_X12_laysChase_L78 n q69 m a1 a2 a3 a4 s = some y) : hq_fm s y := by
  induction m generalizing a1 a2 a3 a4 s with
  | zero => cases h
  | succ m ih => exact f_X12_laysChase_L78_B_fr (n := n) (a1 := a1) (a2 := a2) (a3 := a3) (a4 := a4) (q78 := f_X12_laysChase_L78 n q69 m) e69 (fun a1 a2 a3 a4 s h => ih h) h
theorem f_X12_laysChase_L69_B_fr {n : Nat} {a1 : Int32} {a2 : Int32} {a3 : Int32} {q69 : Int32 → Int32 → Int32 → hq_S → Option hq_S} {s : hq_S} {y : hq_S} (e69 : ∀ (a1 : Int32) (a2 : Int32) (a3 : Int32) (o4 : Option Value) (s : hq_S), q69 a1 a2 a3 s = some y → hq_fm s y) (h : f_X12_laysChase_L69_B n q69 a1 a2 a3 s = some y) : hq_fm s y := by
  unfold f_X12_laysChase_L69_B at h
  have t := hq_fm_rf s
  by_cases c6 : a2 = 0
  · rw [if_pos c6] at h
    have h := Option.some.inj h
    subst h
    exact t
  · rw [if_neg c6] at h
    exact hq_fm_tr t (f_X12_laysChase_L78_fr e69 h)
theorem f_X12_laysChase_L69_fr {n m : Nat} {a1 : Int32} {a2 : Int32} {a3 : Int32} {s : hq_S} {y : hq_S} (h : f_X12_laysChase_L69 n m a1 a2 a3 s = some y) : hq_fm s y := by
  induction m generalizing a1 a2 a3 s with
  | zero => cases h
  | succ m ih => exact f_X12_laysChase_L69_B_fr (n := n) (a1 := a1) (a2 := a2) (a3 := a3) (q69 := f_X12_laysChase_L69 n m) (fun a1 a2 a3 _ s h => ih h) h
theorem f_X12_laysChase_L7_B_fr {n : Nat} {a1 : Int32} {a2 : Int32} {q7 : Int32 → Int32 → hq_S → Option hq_S} {s : hq_S} {y : hq_S} (e7 : ∀ (a1 : Int32) (a2 : Int32) (s : hq_S), q7 a1 a2 s = some y → hq_fm s y) (h : f_X12_laysChase_L7_B n q7 a1 a2 s = some y) : hq_fm s y := by
  unfold f_X12_laysChase_L7_B at h
  have t := hq_fm_rf s
  obtain ⟨x2, hx2, h⟩ := hq_bind h
  by_cases c3 : a2 < x2
  · rw [if_pos c3] at h
    obtain ⟨y25, hy25, h⟩ := hq_bind h
    have t := hq_fm_tr t (f_X12_reads10_fr hy25)
    obtain ⟨z26, hz26, h⟩ := hq_bind h
    have t : hq_fm s z26.2 := by
      clear h
      have h := hz26
      by_cases c27 : y25.1 = 0
      · rw [if_pos c27] at h
        cases h
        exact t
      · rw [if_neg c27] at h
        obtain ⟨x28, hx28, h⟩ := hq_bind h
        obtain ⟨y29, hy29, h⟩ := hq_bind h
        have t := hq_fm_tr t (f_X12_isAmong_fr hy29)
        by_cases c30 : y29.1 = 0
        · rw [if_pos c30] at h
          cases h
          exact t
        · rw [if_neg c30] at h
          cases h
          exact t
    obtain ⟨s31, hs31, h⟩ := hq_bind h
    have t := hq_fm_tr t (hq_fm_st hs31 (by first | decide | omega))
    exact hq_fm_tr t (e7 a1 (a2 + (1 : Int32)) s31 h)
  · rw [if_neg c3] at h
    obtain ⟨z4, hz4, h⟩ := hq_bind h
    exact hq_fm_tr t (f_X12_laysChase_L69_fr h)
theorem f_X12_laysChase_L7_fr {n m : Nat} {a1 : Int32} {a2 : Int32} {s : hq_S} {y : hq_S} (h : f_X12_laysChase_L7 n m a1 a2 s = some y) : hq_fm s y := by
  induction m generalizing a1 a2 s with
  | zero => cases h
  | succ m ih => exact f_X12_laysChase_L7_B_fr (n := n) (a1 := a1) (a2 := a2) (q7 := f_X12_laysChase_L7 n m) (fun a1 a2 s h => ih h) h
theorem f_X12_laysChase_fr {n : Nat} {a1 : Int32} {s : hq_S} {y : hq_S} (h : f_X12_laysChase n a1 s = some y) : hq_fm s y := by
  unfold f_X12_laysChase at h
  have t := hq_fm_rf s
  obtain ⟨s1, hs1, h⟩ := hq_bind h
  have t := hq_fm_tr t (hq_fm_pi hs1 (by first | decide | omega))
  exact hq_fm_tr t (f_X12_laysChase_L7_fr h)
theorem f_X12_codeOf_L5_B_fr {n : Nat} {k1 : Nat} {a2 : Int32} {a3 : Int32} {a4 : Int32} {q5 : Nat → Int32 → Int32 → Int32 → hq_S → Option (Int32 × hq_S)} {s : hq_S} {y : (Int32 × hq_S)} (e5 : ∀ (k1 : Nat) (a2 : Int32) (a3 : Int32) (a4 : Int32) (s : hq_S) (wk1 : 174 ≤ k1), q5 k1 a2 a3 a4 s = some y → hq_fm s y.2) (wk1 : 174 ≤ k1) (h : f_X12_codeOf_L5_B n q5 k1 a2 a3 a4 s = some y) : hq_fm s y.2 := by
  unfold f_X12_codeOf_L5_B at h
  have t := hq_fm_rf s
  by_cases c1 : a4 < (hq_gi s 174 60)
  · rw [if_pos c1] at h
    obtain ⟨x2, hx2, h⟩ := hq_bind h
    exact hq_fm_tr t (e5 k1 a2 (((10 : Int32) * a3) + x2) (a4 + (1 : Int32)) s (by first | decide | omega) h)
  · rw [if_neg c1] at h
    have h := Option.some.inj h
    subst h
    exact t
theorem f_X12_codeOf_L5_fr {n m : Nat} {k1 : Nat} {a2 : Int32} {a3 : Int32} {a4 : Int32} {s : hq_S} {y : (Int32 × hq_S)} (wk1 : 174 ≤ k1) (h : f_X12_codeOf_L5 n m k1 a2 a3 a4 s = some y) : hq_fm s y.2 := by
  induction m generalizing k1 a2 a3 a4 s with
  | zero => cases h
  | succ m ih => exact f_X12_codeOf_L5_B_fr (n := n) (k1 := k1) (a2 := a2) (a3 := a3) (a4 := a4) (q5 := f_X12_codeOf_L5 n m) (fun k1 a2 a3 a4 s wk1 h => ih wk1 h) wk1 h
theorem f_X12_codeOf_fr {n : Nat} {k1 : Nat} {a2 : Int32} {s : hq_S} {y : (Int32 × hq_S)} (wk1 : 174 ≤ k1) (h : f_X12_codeOf n k1 a2 s = some y) : hq_fm s y.2 := by
  unfold f_X12_codeOf at h
  have t := hq_fm_rf s
  exact hq_fm_tr t (f_X12_codeOf_L5_fr (by first | decide | omega) h)
theorem f_X12_putsGuards_L9_B_fr {n : Nat} {a1 : Int32} {a2 : Int32} {a3 : Int32} {q9 : Int32 → Int32 → Int32 → hq_S → Option hq_S} {s : hq_S} {y : hq_S} (e9 : ∀ (a1 : Int32) (a2 : Int32) (a3 : Int32) (s : hq_S), q9 a1 a2 a3 s = some y → hq_fm s y) (h : f_X12_putsGuards_L9_B n q9 a1 a2 a3 s = some y) : hq_fm s y := by
  unfold f_X12_putsGuards_L9_B at h
  have t := hq_fm_rf s
  obtain ⟨x2, hx2, h⟩ := hq_bind h
  by_cases c3 : a3 < x2
  · rw [if_pos c3] at h
    obtain ⟨z5, hz5, h⟩ := hq_bind h
    have t : hq_fm s z5.2 := by
      clear h
      have h := hz5
      by_cases c6 : ((a1 >>> (a3 &&& 31)) &&& (1 : Int32)) = 0
      · rw [if_pos c6] at h
        cases h
        exact t
      · rw [if_neg c6] at h
        obtain ⟨s7, hs7, h⟩ := hq_bind h
        have t := hq_fm_tr t (hq_fm_st hs7 (by first | decide | omega))
        cases h
        exact t
    exact hq_fm_tr t (e9 a1 z5.1 (a3 + (1 : Int32)) z5.2 h)
  · rw [if_neg c3] at h
    obtain ⟨s4, hs4, h⟩ := hq_bind h
    have t := hq_fm_tr t (f_X12_laysChase_fr hs4)
    have h := Option.some.inj h
    subst h
    exact t
theorem f_X12_putsGuards_L9_fr {n m : Nat} {a1 : Int32} {a2 : Int32} {a3 : Int32} {s : hq_S} {y : hq_S} (h : f_X12_putsGuards_L9 n m a1 a2 a3 s = some y) : hq_fm s y := by
  induction m generalizing a1 a2 a3 s with
  | zero => cases h
  | succ m ih => exact f_X12_putsGuards_L9_B_fr (n := n) (a1 := a1) (a2 := a2) (a3 := a3) (q9 := f_X12_putsGuards_L9 n m) (fun a1 a2 a3 s h => ih h) h
theorem f_X12_putsGuards_fr {n : Nat} {a1 : Int32} {s : hq_S} {y : hq_S} (h : f_X12_putsGuards n a1 s = some y) : hq_fm s y := by
  unfold f_X12_putsGuards at h
  have t := hq_fm_rf s
  obtain ⟨s1, hs1, h⟩ := hq_bind h
  have t := hq_fm_tr t (f_X12_lays_fr hs1)
  exact hq_fm_tr t (f_X12_putsGuards_L9_fr h)
theorem f_X12_roundsOf_L2_B_fr {n : Nat} {a1 : Int32} {a2 : Int32} {q2 : Int32 → Int32 → hq_S → Option (Int32 × hq_S)} {s : hq_S} {y : (Int32 × hq_S)} (e2 : ∀ (a1 : Int32) (a2 : Int32) (s : hq_S), q2 a1 a2 s = some y → hq_fm s y.2) (h : f_X12_roundsOf_L2_B n q2 a1 a2 s = some y) : hq_fm s y.2 := by
  unfold f_X12_roundsOf_L2_B at h
  have t := hq_fm_rf s
  by_cases c1 : a2 < (hq_gi s 174 60)
  · rw [if_pos c1] at h
    obtain ⟨x5, hx5, h⟩ := hq_bind h
    obtain ⟨x6, hx6, h⟩ := hq_bind h
    obtain ⟨s7, hs7, h⟩ := hq_bind h
    have t := hq_fm_tr t (hq_fm_st hs7 (by first | decide | omega))
    exact hq_fm_tr t (e2 a1 (a2 + (1 : Int32)) s7 h)
  · rw [if_neg c1] at h
    by_cases c2 : (hq_gi s 174 60) = 0
    · rw [if_pos c2] at h
      have h := Option.some.inj h
      subst h
      exact t
    · rw [if_neg c2] at h
      obtain ⟨y3, hy3, h⟩ := hq_bind h
      have t := hq_fm_tr t (f_X12_codeOf_fr (by first | decide | omega) hy3)
      obtain ⟨x4, hx4, h⟩ := hq_bind h
      have h := Option.some.inj h
      subst h
      exact t
theorem f_X12_roundsOf_L2_fr {n m : Nat} {a1 : Int32} {a2 : Int32} {s : hq_S} {y : (Int32 × hq_S)} (h : f_X12_roundsOf_L2 n m a1 a2 s = some y) : hq_fm s y.2 := by
  induction m generalizing a1 a2 s with
  | zero => cases h
  | succ m ih => exact f_X12_roundsOf_L2_B_fr (n := n) (a1 := a1) (a2 := a2) (q2 := f_X12_roundsOf_L2 n m) (fun a1 a2 s h => ih h) h
theorem f_X12_roundsOf_fr {n : Nat} {a1 : Int32} {s : hq_S} {y : (Int32 × hq_S)} (h : f_X12_roundsOf n a1 s = some y) : hq_fm s y.2 := by
  unfold f_X12_roundsOf at h
  have t := hq_fm_rf s
  exact hq_fm_tr t (f_X12_roundsOf_L2_fr h)
theorem f_X12_areGuards_fr {n : Nat} {a1 : Int32} {s : hq_S} {y : (Int32 × hq_S)} (h : f_X12_areGuards n a1 s = some y) : hq_fm s y.2 := by
  unfold f_X12_areGuards at h
  have t := hq_fm_rf s
  by_cases c1 : a1 < 0
  · rw [if_pos c1] at h
    have h := Option.some.inj h
    subst h
    exact t
  · rw [if_neg c1] at h
    obtain ⟨x2, hx2, h⟩ := hq_bind h
    by_cases c3 : a1 < ((1 : Int32) <<< (x2 &&& 31))
    · rw [if_pos c3] at h
      have h := Option.some.inj h
      subst h
      exact t
    · rw [if_neg c3] at h
      have h := Option.some.inj h
      subst h
      exact t
theorem f_X12_chase_fr {n : Nat} {a1 : Int32} {a2 : Int32} {s : hq_S} {y : (Int32 × hq_S)} (h : f_X12_chase n a1 a2 s = some y) : hq_fm s y.2 := by
  unfold f_X12_chase at h
  have t := hq_fm_rf s
  obtain ⟨s1, hs1, h⟩ := hq_bind h
  have t := hq_fm_tr t (hq_fm_pi hs1 (by first | decide | omega))
  obtain ⟨y2, hy2, h⟩ := hq_bind h
  have t := hq_fm_tr t (f_X12_areGuards_fr hy2)
  by_cases c3 : y2.1 = 0
  · rw [if_pos c3] at h
    have h := Option.some.inj h
    subst h
    exact t
  · rw [if_neg c3] at h
    obtain ⟨y4, hy4, h⟩ := hq_bind h
    have t := hq_fm_tr t (f_X12_isCorner_fr hy4)
    by_cases c5 : y4.1 = 0
    · rw [if_pos c5] at h
      have h := Option.some.inj h
      subst h
      exact t
    · rw [if_neg c5] at h
      obtain ⟨s6, hs6, h⟩ := hq_bind h
      have t := hq_fm_tr t (f_X12_putsGuards_fr hs6)
      obtain ⟨y7, hy7, h⟩ := hq_bind h
      have t := hq_fm_tr t (f_X12_roundsOf_fr hy7)
      by_cases c8 : y7.1 = (-1 : Int32)
      · rw [if_pos c8] at h
        have h := Option.some.inj h
        subst h
        exact t
      · rw [if_neg c8] at h
        have h := Option.some.inj h
        subst h
        exact t
theorem f_X12_isAt_L2_B_fr {n : Nat} {a1 : Int32} {a2 : Int32} {q2 : Int32 → Int32 → hq_S → Option (Int32 × hq_S)} {s : hq_S} {y : (Int32 × hq_S)} (e2 : ∀ (a1 : Int32) (a2 : Int32) (s : hq_S), q2 a1 a2 s = some y → hq_fm s y.2) (h : f_X12_isAt_L2_B n q2 a1 a2 s = some y) : hq_fm s y.2 := by
  unfold f_X12_isAt_L2_B at h
  have t := hq_fm_rf s
  by_cases c1 : a2 < (hq_gi s 174 60)
  · rw [if_pos c1] at h
    obtain ⟨x2, hx2, h⟩ := hq_bind h
    by_cases c3 : x2 = a1
    · rw [if_pos c3] at h
      have h := Option.some.inj h
      subst h
      exact t
    · rw [if_neg c3] at h
      exact hq_fm_tr t (e2 a1 (a2 + (1 : Int32)) s h)
  · rw [if_neg c1] at h
    have h := Option.some.inj h
    subst h
    exact t
theorem f_X12_isAt_L2_fr {n m : Nat} {a1 : Int32} {a2 : Int32} {s : hq_S} {y : (Int32 × hq_S)} (h : f_X12_isAt_L2 n m a1 a2 s = some y) : hq_fm s y.2 := by
  induction m generalizing a1 a2 s with
  | zero => cases h
  | succ m ih => exact f_X12_isAt_L2_B_fr (n := n) (a1 := a1) (a2 := a2) (q2 := f_X12_isAt_L2 n m) (fun a1 a2 s h => ih h) h
theorem f_X12_isAt_fr {n : Nat} {a1 : Int32} {s : hq_S} {y : (Int32 × hq_S)} (h : f_X12_isAt n a1 s = some y) : hq_fm s y.2 := by
  unfold f_X12_isAt at h
  have t := hq_fm_rf s
  exact hq_fm_tr t (f_X12_isAt_L2_fr h)
theorem f_X12_outcome_J87_fr {n : Nat} {a1 : Int32} {a2 : Int32} {a3 : Int32} {a4 : Int32} {q21 : Int32 → Int32 → Int32 → Int32 → hq_S → Option (Int32 × hq_S)} {s : hq_S} {y : (Int32 × hq_S)} (e21 : ∀ (a1 : Int32) (a2 : Int32) (a3 : Int32) (a4 : Int32) (o5 : Option Value) (s : hq_S), q21 a1 a2 a3 a4 s = some y → hq_fm s y.2) (h : f_X12_outcome_J87 n q21 a1 a2 a3 a4 s = some y) : hq_fm s y.2 := by
  unfold f_X12_outcome_J87 at h
  have t := hq_fm_rf s
  exact hq_fm_tr t (e21 a1 a2 a3 (a4 + (1 : Int32)) none s h)
theorem f_X12_outcome_L21_B_fr {n : Nat} {a1 : Int32} {a2 : Int32} {a3 : Int32} {a4 : Int32} {q21 : Int32 → Int32 → Int32 → Int32 → hq_S → Option (Int32 × hq_S)} {s : hq_S} {y : (Int32 × hq_S)} (e21 : ∀ (a1 : Int32) (a2 : Int32) (a3 : Int32) (a4 : Int32) (o5 : Option Value) (s : hq_S), q21 a1 a2 a3 a4 s = some y → hq_fm s y.2) (h : f_X12_outcome_L21_B n q21 a1 a2 a3 a4 s = some y) : hq_fm s y.2 := by
  unfold f_X12_outcome_L21_B at h
  have t := hq_fm_rf s
  obtain ⟨x4, hx4, h⟩ := hq_bind h
  by_cases c5 : a4 < x4
  · rw [if_pos c5] at h
    by_cases c6 : ((a2 >>> (a4 &&& 31)) &&& (1 : Int32)) = 0
    · rw [if_pos c6] at h
      exact hq_fm_tr t (f_X12_outcome_J87_fr e21 h)
    · rw [if_neg c6] at h
      obtain ⟨y7, hy7, h⟩ := hq_bind h
      have t := hq_fm_tr t (f_X12_isAt_fr hy7)
      by_cases c8 : y7.1 = 0
      · rw [if_pos c8] at h
        obtain ⟨y9, hy9, h⟩ := hq_bind h
        have t := hq_fm_tr t (f_X12_codeOf_fr (by first | decide | omega) hy9)
        obtain ⟨x10, hx10, h⟩ := hq_bind h
        by_cases c11 : x10 = (-1 : Int32)
        · rw [if_pos c11] at h
          have h := Option.some.inj h
          subst h
          exact t
        · rw [if_neg c11] at h
          exact hq_fm_tr t (f_X12_outcome_J87_fr e21 h)
      · rw [if_neg c8] at h
        exact hq_fm_tr t (f_X12_outcome_J87_fr e21 h)
  · rw [if_neg c5] at h
    have h := Option.some.inj h
    subst h
    exact t
theorem f_X12_outcome_L21_fr {n m : Nat} {a1 : Int32} {a2 : Int32} {a3 : Int32} {a4 : Int32} {s : hq_S} {y : (Int32 × hq_S)} (h : f_X12_outcome_L21 n m a1 a2 a3 a4 s = some y) : hq_fm s y.2 := by
  induction m generalizing a1 a2 a3 a4 s with
  | zero => cases h
  | succ m ih => exact f_X12_outcome_L21_B_fr (n := n) (a1 := a1) (a2 := a2) (a3 := a3) (a4 := a4) (q21 := f_X12_outcome_L21 n m) (fun a1 a2 a3 a4 _ s h => ih h) h
theorem f_X12_outcome_fr {n : Nat} {a1 : Int32} {s : hq_S} {y : (Int32 × hq_S)} (h : f_X12_outcome n a1 s = some y) : hq_fm s y.2 := by
  unfold f_X12_outcome at h
  have t := hq_fm_rf s
  obtain ⟨y1, hy1, h⟩ := hq_bind h
  have t := hq_fm_tr t (f_X12_isAt_fr hy1)
  by_cases c2 : y1.1 = 0
  · rw [if_pos c2] at h
    obtain ⟨y3, hy3, h⟩ := hq_bind h
    have t := hq_fm_tr t (f_X12_stayOrGo_fr hy3)
    exact hq_fm_tr t (f_X12_outcome_L21_fr h)
  · rw [if_neg c2] at h
    have h := Option.some.inj h
    subst h
    exact t
theorem f_X12_laysRow_J89_fr {n : Nat} {R0 : Int32 → Int32 → Int32 → hq_S → Option (Int32 × hq_S)} {a1 : Int32} {a2 : Int32} {a3 : Int32} {a4 : Int32} {a5 : Int32} {q43 : Int32 → Int32 → Int32 → Int32 → Int32 → hq_S → Option (Int32 × hq_S)} {s : hq_S} {y : (Int32 × hq_S)} (E0 : ∀ (a1 : Int32) (a2 : Int32) (a3 : Int32) (s : hq_S) (y : (Int32 × hq_S)), R0 a1 a2 a3 s = some y → hq_fm s y.2) (e43 : ∀ (a1 : Int32) (a2 : Int32) (a3 : Int32) (a4 : Int32) (a5 : Int32) (s : hq_S), q43 a1 a2 a3 a4 a5 s = some y → hq_fm s y.2) (h : f_X12_laysRow_J89 n R0 q43 a1 a2 a3 a4 a5 s = some y) : hq_fm s y.2 := by
  unfold f_X12_laysRow_J89 at h
  have t := hq_fm_rf s
  exact hq_fm_tr t (e43 a1 a2 a3 a4 (a5 + (1 : Int32)) s h)
theorem f_X12_laysRow_L43_B_fr {n : Nat} {R0 : Int32 → Int32 → Int32 → hq_S → Option (Int32 × hq_S)} {a1 : Int32} {a2 : Int32} {a3 : Int32} {a4 : Int32} {a5 : Int32} {q43 : Int32 → Int32 → Int32 → Int32 → Int32 → hq_S → Option (Int32 × hq_S)} {s : hq_S} {y : (Int32 × hq_S)} (E0 : ∀ (a1 : Int32) (a2 : Int32) (a3 : Int32) (s : hq_S) (y : (Int32 × hq_S)), R0 a1 a2 a3 s = some y → hq_fm s y.2) (e43 : ∀ (a1 : Int32) (a2 : Int32) (a3 : Int32) (a4 : Int32) (a5 : Int32) (s : hq_S), q43 a1 a2 a3 a4 a5 s = some y → hq_fm s y.2) (h : f_X12_laysRow_L43_B n R0 q43 a1 a2 a3 a4 a5 s = some y) : hq_fm s y.2 := by
  unfold f_X12_laysRow_L43_B at h
  have t := hq_fm_rf s
  obtain ⟨x5, hx5, h⟩ := hq_bind h
  by_cases c6 : a5 < x5
  · rw [if_pos c6] at h
    by_cases c7 : ((a4 >>> (a5 &&& 31)) &&& (1 : Int32)) = 0
    · rw [if_pos c7] at h
      exact hq_fm_tr t (f_X12_laysRow_J89_fr E0 e43 h)
    · rw [if_neg c7] at h
      obtain ⟨s8, hs8, h⟩ := hq_bind h
      have t := hq_fm_tr t (hq_fm_st hs8 (by first | decide | omega))
      obtain ⟨y9, hy9, h⟩ := hq_bind h
      have t := hq_fm_tr t (E0 (a1 + (1 : Int32)) a2 a3 _ _ hy9)
      by_cases c10 : y9.1 = 0
      · rw [if_pos c10] at h
        exact hq_fm_tr t (f_X12_laysRow_J89_fr E0 e43 h)
      · rw [if_neg c10] at h
        have h := Option.some.inj h
        subst h
        exact t
  · rw [if_neg c6] at h
    have h := Option.some.inj h
    subst h
    exact t
theorem f_X12_laysRow_L43_fr {n m : Nat} {R0 : Int32 → Int32 → Int32 → hq_S → Option (Int32 × hq_S)} {a1 : Int32} {a2 : Int32} {a3 : Int32} {a4 : Int32} {a5 : Int32} {s : hq_S} {y : (Int32 × hq_S)} (E0 : ∀ (a1 : Int32) (a2 : Int32) (a3 : Int32) (s : hq_S) (y : (Int32 × hq_S)), R0 a1 a2 a3 s = some y → hq_fm s y.2) (h : f_X12_laysRow_L43 n R0 m a1 a2 a3 a4 a5 s = some y) : hq_fm s y.2 := by
  induction m generalizing a1 a2 a3 a4 a5 s with
  | zero => cases h
  | succ m ih => exact f_X12_laysRow_L43_B_fr (n := n) (a1 := a1) (a2 := a2) (a3 := a3) (a4 := a4) (a5 := a5) (q43 := f_X12_laysRow_L43 n R0 m) E0 (fun a1 a2 a3 a4 a5 s h => ih h) h
theorem f_X12_laysRow_S_fr {n : Nat} {R0 : Int32 → Int32 → Int32 → hq_S → Option (Int32 × hq_S)} {a1 : Int32} {a2 : Int32} {a3 : Int32} {s : hq_S} {y : (Int32 × hq_S)} (E0 : ∀ (a1 : Int32) (a2 : Int32) (a3 : Int32) (s : hq_S) (y : (Int32 × hq_S)), R0 a1 a2 a3 s = some y → hq_fm s y.2) (h : f_X12_laysRow_S n R0 a1 a2 a3 s = some y) : hq_fm s y.2 := by
  unfold f_X12_laysRow_S at h
  have t := hq_fm_rf s
  by_cases c1 : a1 = (hq_gi s 174 60)
  · rw [if_pos c1] at h
    obtain ⟨y11, hy11, h⟩ := hq_bind h
    have t := hq_fm_tr t (f_X12_outcome_fr hy11)
    by_cases c12 : y11.1 = a3
    · rw [if_pos c12] at h
      have h := Option.some.inj h
      subst h
      exact t
    · rw [if_neg c12] at h
      have h := Option.some.inj h
      subst h
      exact t
  · rw [if_neg c1] at h
    obtain ⟨x2, hx2, h⟩ := hq_bind h
    obtain ⟨x3, hx3, h⟩ := hq_bind h
    obtain ⟨y4, hy4, h⟩ := hq_bind h
    have t := hq_fm_tr t (f_X12_stayOrGo_fr hy4)
    exact hq_fm_tr t (f_X12_laysRow_L43_fr E0 h)
theorem f_X12_laysRow_G_fr {n : Nat} : ∀ k : Nat, (∀ (a1 : Int32) (a2 : Int32) (a3 : Int32) (s : hq_S) (y : (Int32 × hq_S)), f_X12_laysRow_G n k 0 a1 a2 a3 s = some y → hq_fm s y.2) := by
  intro k
  induction k with
  | zero =>
    all_goals
      intros
      next h => cases h
  | succ k ih =>
    have I0 := ih
    · intro a1 a2 a3 s y h
      exact f_X12_laysRow_S_fr I0 h
theorem f_X12_laysRow_fr {n : Nat} {a1 : Int32} {a2 : Int32} {a3 : Int32} {s : hq_S} {y : (Int32 × hq_S)} (h : f_X12_laysRow n a1 a2 a3 s = some y) : hq_fm s y.2 := (f_X12_laysRow_G_fr 10) a1 a2 a3 s y h
theorem f_X12_firstGo_L65_B_fr {n : Nat} {a1 : Int32} {a2 : Int32} {a3 : Int32} {a4 : Int32} {a5 : Int32} {q65 : Int32 → Int32 → Int32 → Int32 → Int32 → hq_S → Option (Int32 × hq_S)} {s : hq_S} {y : (Int32 × hq_S)} (e65 : ∀ (a1 : Int32) (a2 : Int32) (a3 : Int32) (a4 : Int32) (a5 : Int32) (s : hq_S), q65 a1 a2 a3 a4 a5 s = some y → hq_fm s y.2) (h : f_X12_firstGo_L65_B n q65 a1 a2 a3 a4 a5 s = some y) : hq_fm s y.2 := by
  unfold f_X12_firstGo_L65_B at h
  have t := hq_fm_rf s
  by_cases c13 : a5 < (hq_gi s 174 60)
  · rw [if_pos c13] at h
    obtain ⟨x14, hx14, h⟩ := hq_bind h
    by_cases c15 : x14 = a3
    · rw [if_pos c15] at h
      obtain ⟨x16, hx16, h⟩ := hq_bind h
      have h := Option.some.inj h
      subst h
      exact t
    · rw [if_neg c15] at h
      exact hq_fm_tr t (e65 a1 a2 a3 a4 (a5 + (1 : Int32)) s h)
  · rw [if_neg c13] at h
    have h := Option.some.inj h
    subst h
    exact t
theorem f_X12_firstGo_L65_fr {n m : Nat} {a1 : Int32} {a2 : Int32} {a3 : Int32} {a4 : Int32} {a5 : Int32} {s : hq_S} {y : (Int32 × hq_S)} (h : f_X12_firstGo_L65 n m a1 a2 a3 a4 a5 s = some y) : hq_fm s y.2 := by
  induction m generalizing a1 a2 a3 a4 a5 s with
  | zero => cases h
  | succ m ih => exact f_X12_firstGo_L65_B_fr (n := n) (a1 := a1) (a2 := a2) (a3 := a3) (a4 := a4) (a5 := a5) (q65 := f_X12_firstGo_L65 n m) (fun a1 a2 a3 a4 a5 s h => ih h) h
theorem f_X12_firstGo_fr {n : Nat} {a1 : Int32} {a2 : Int32} {a3 : Int32} {s : hq_S} {y : (Int32 × hq_S)} (h : f_X12_firstGo n a1 a2 a3 s = some y) : hq_fm s y.2 := by
  unfold f_X12_firstGo at h
  have t := hq_fm_rf s
  obtain ⟨s1, hs1, h⟩ := hq_bind h
  have t := hq_fm_tr t (hq_fm_pi hs1 (by first | decide | omega))
  obtain ⟨y2, hy2, h⟩ := hq_bind h
  have t := hq_fm_tr t (f_X12_areGuards_fr hy2)
  by_cases c3 : y2.1 = 0
  · rw [if_pos c3] at h
    have h := Option.some.inj h
    subst h
    exact t
  · rw [if_neg c3] at h
    obtain ⟨y4, hy4, h⟩ := hq_bind h
    have t := hq_fm_tr t (f_X12_isCorner_fr hy4)
    by_cases c5 : y4.1 = 0
    · rw [if_pos c5] at h
      have h := Option.some.inj h
      subst h
      exact t
    · rw [if_neg c5] at h
      obtain ⟨y6, hy6, h⟩ := hq_bind h
      have t := hq_fm_tr t (f_X12_isGuard_fr hy6)
      by_cases c7 : y6.1 = 0
      · rw [if_pos c7] at h
        have h := Option.some.inj h
        subst h
        exact t
      · rw [if_neg c7] at h
        obtain ⟨s8, hs8, h⟩ := hq_bind h
        have t := hq_fm_tr t (f_X12_putsGuards_fr hs8)
        obtain ⟨y9, hy9, h⟩ := hq_bind h
        have t := hq_fm_tr t (f_X12_roundsOf_fr hy9)
        by_cases c10 : 0 < y9.1
        · rw [if_pos c10] at h
          obtain ⟨y11, hy11, h⟩ := hq_bind h
          have t := hq_fm_tr t (f_X12_laysRow_fr hy11)
          by_cases c12 : y11.1 = 0
          · rw [if_pos c12] at h
            have h := Option.some.inj h
            subst h
            exact t
          · rw [if_neg c12] at h
            exact hq_fm_tr t (f_X12_firstGo_L65_fr h)
        · rw [if_neg c10] at h
          have h := Option.some.inj h
          subst h
          exact t
theorem f_X12_flee_J133_fr {n : Nat} {a1 : Int32} {a2 : Int32} {a3 : Int32} {a4 : Int32} {a5 : Int32} {a6 : Int32} {q60 : Int32 → Int32 → Int32 → Int32 → Int32 → Int32 → hq_S → Option (Int32 × hq_S)} {s : hq_S} {y : (Int32 × hq_S)} (e60 : ∀ (a1 : Int32) (a2 : Int32) (a3 : Int32) (a4 : Int32) (a5 : Int32) (a6 : Int32) (o7 : Option Value) (s : hq_S), q60 a1 a2 a3 a4 a5 a6 s = some y → hq_fm s y.2) (h : f_X12_flee_J133 n q60 a1 a2 a3 a4 a5 a6 s = some y) : hq_fm s y.2 := by
  unfold f_X12_flee_J133 at h
  have t := hq_fm_rf s
  exact hq_fm_tr t (e60 a1 a2 a3 a4 a5 (a6 + (1 : Int32)) none s h)
theorem f_X12_flee_L60_B_fr {n : Nat} {a1 : Int32} {a2 : Int32} {a3 : Int32} {a4 : Int32} {a5 : Int32} {a6 : Int32} {q60 : Int32 → Int32 → Int32 → Int32 → Int32 → Int32 → hq_S → Option (Int32 × hq_S)} {s : hq_S} {y : (Int32 × hq_S)} (e60 : ∀ (a1 : Int32) (a2 : Int32) (a3 : Int32) (a4 : Int32) (a5 : Int32) (a6 : Int32) (o7 : Option Value) (s : hq_S), q60 a1 a2 a3 a4 a5 a6 s = some y → hq_fm s y.2) (h : f_X12_flee_L60_B n q60 a1 a2 a3 a4 a5 a6 s = some y) : hq_fm s y.2 := by
  unfold f_X12_flee_L60_B at h
  have t := hq_fm_rf s
  obtain ⟨x11, hx11, h⟩ := hq_bind h
  by_cases c12 : a6 < x11
  · rw [if_pos c12] at h
    by_cases c14 : ((a3 >>> (a6 &&& 31)) &&& (1 : Int32)) = 0
    · rw [if_pos c14] at h
      exact hq_fm_tr t (f_X12_flee_J133_fr e60 h)
    · rw [if_neg c14] at h
      obtain ⟨y15, hy15, h⟩ := hq_bind h
      have t := hq_fm_tr t (f_X12_isAt_fr hy15)
      obtain ⟨z16, hz16, h⟩ := hq_bind h
      have t : hq_fm s z16.2 := by
        clear h
        have h := hz16
        by_cases c17 : y15.1 = 0
        · rw [if_pos c17] at h
          obtain ⟨y18, hy18, h⟩ := hq_bind h
          have t := hq_fm_tr t (f_X12_roundsOf_fr hy18)
          cases h
          exact t
        · rw [if_neg c17] at h
          cases h
          exact t
      obtain ⟨z19, hz19, h⟩ := hq_bind h
      obtain ⟨z21, hz21, h⟩ := hq_bind h
      exact hq_fm_tr t (e60 a1 a2 a3 z21.1 z21.2 (a6 + (1 : Int32)) none z16.2 h)
  · rw [if_neg c12] at h
    have h := Option.some.inj h
    subst h
    exact t
theorem f_X12_flee_L60_fr {n m : Nat} {a1 : Int32} {a2 : Int32} {a3 : Int32} {a4 : Int32} {a5 : Int32} {a6 : Int32} {s : hq_S} {y : (Int32 × hq_S)} (h : f_X12_flee_L60 n m a1 a2 a3 a4 a5 a6 s = some y) : hq_fm s y.2 := by
  induction m generalizing a1 a2 a3 a4 a5 a6 s with
  | zero => cases h
  | succ m ih => exact f_X12_flee_L60_B_fr (n := n) (a1 := a1) (a2 := a2) (a3 := a3) (a4 := a4) (a5 := a5) (a6 := a6) (q60 := f_X12_flee_L60 n m) (fun a1 a2 a3 a4 a5 a6 _ s h => ih h) h
theorem f_X12_flee_fr {n : Nat} {a1 : Int32} {a2 : Int32} {s : hq_S} {y : (Int32 × hq_S)} (h : f_X12_flee n a1 a2 s = some y) : hq_fm s y.2 := by
  unfold f_X12_flee at h
  have t := hq_fm_rf s
  obtain ⟨s1, hs1, h⟩ := hq_bind h
  have t := hq_fm_tr t (hq_fm_pi hs1 (by first | decide | omega))
  obtain ⟨y2, hy2, h⟩ := hq_bind h
  have t := hq_fm_tr t (f_X12_areGuards_fr hy2)
  by_cases c3 : y2.1 = 0
  · rw [if_pos c3] at h
    have h := Option.some.inj h
    subst h
    exact t
  · rw [if_neg c3] at h
    obtain ⟨y4, hy4, h⟩ := hq_bind h
    have t := hq_fm_tr t (f_X12_isCorner_fr hy4)
    by_cases c5 : y4.1 = 0
    · rw [if_pos c5] at h
      have h := Option.some.inj h
      subst h
      exact t
    · rw [if_neg c5] at h
      obtain ⟨s6, hs6, h⟩ := hq_bind h
      have t := hq_fm_tr t (f_X12_putsGuards_fr hs6)
      obtain ⟨y7, hy7, h⟩ := hq_bind h
      have t := hq_fm_tr t (f_X12_roundsOf_fr hy7)
      obtain ⟨y8, hy8, h⟩ := hq_bind h
      have t := hq_fm_tr t (f_X12_isAt_fr hy8)
      by_cases c9 : y8.1 = 0
      · rw [if_pos c9] at h
        obtain ⟨y10, hy10, h⟩ := hq_bind h
        have t := hq_fm_tr t (f_X12_stayOrGo_fr hy10)
        exact hq_fm_tr t (f_X12_flee_L60_fr h)
      · rw [if_neg c9] at h
        have h := Option.some.inj h
        subst h
        exact t
theorem f_X12_laysPosts_L65_B_fr {n : Nat} {R0 : Int32 → hq_S → Option (Int32 × hq_S)} {a1 : Int32} {a2 : Int32} {q65 : Int32 → Int32 → hq_S → Option (Int32 × hq_S)} {s : hq_S} {y : (Int32 × hq_S)} (E0 : ∀ (a1 : Int32) (s : hq_S) (y : (Int32 × hq_S)), R0 a1 s = some y → hq_fm s y.2) (e65 : ∀ (a1 : Int32) (a2 : Int32) (s : hq_S), q65 a1 a2 s = some y → hq_fm s y.2) (h : f_X12_laysPosts_L65_B n R0 q65 a1 a2 s = some y) : hq_fm s y.2 := by
  unfold f_X12_laysPosts_L65_B at h
  have t := hq_fm_rf s
  obtain ⟨x5, hx5, h⟩ := hq_bind h
  by_cases c6 : a2 < x5
  · rw [if_pos c6] at h
    obtain ⟨s7, hs7, h⟩ := hq_bind h
    have t := hq_fm_tr t (hq_fm_st hs7 (by first | decide | omega))
    obtain ⟨y8, hy8, h⟩ := hq_bind h
    have t := hq_fm_tr t (E0 (a1 + (1 : Int32)) _ _ hy8)
    by_cases c9 : y8.1 = 0
    · rw [if_pos c9] at h
      exact hq_fm_tr t (e65 a1 (a2 + (1 : Int32)) y8.2 h)
    · rw [if_neg c9] at h
      have h := Option.some.inj h
      subst h
      exact t
  · rw [if_neg c6] at h
    have h := Option.some.inj h
    subst h
    exact t
theorem f_X12_laysPosts_L65_fr {n m : Nat} {R0 : Int32 → hq_S → Option (Int32 × hq_S)} {a1 : Int32} {a2 : Int32} {s : hq_S} {y : (Int32 × hq_S)} (E0 : ∀ (a1 : Int32) (s : hq_S) (y : (Int32 × hq_S)), R0 a1 s = some y → hq_fm s y.2) (h : f_X12_laysPosts_L65 n R0 m a1 a2 s = some y) : hq_fm s y.2 := by
  induction m generalizing a1 a2 s with
  | zero => cases h
  | succ m ih => exact f_X12_laysPosts_L65_B_fr (n := n) (a1 := a1) (a2 := a2) (q65 := f_X12_laysPosts_L65 n R0 m) E0 (fun a1 a2 s h => ih h) h
theorem f_X12_laysPosts_L10_B_fr {n : Nat} {R0 : Int32 → hq_S → Option (Int32 × hq_S)} {a1 : Int32} {a2 : Int32} {q10 : Int32 → Int32 → hq_S → Option (Int32 × hq_S)} {s : hq_S} {y : (Int32 × hq_S)} (E0 : ∀ (a1 : Int32) (s : hq_S) (y : (Int32 × hq_S)), R0 a1 s = some y → hq_fm s y.2) (e10 : ∀ (a1 : Int32) (a2 : Int32) (s : hq_S), q10 a1 a2 s = some y → hq_fm s y.2) (h : f_X12_laysPosts_L10_B n R0 q10 a1 a2 s = some y) : hq_fm s y.2 := by
  unfold f_X12_laysPosts_L10_B at h
  have t := hq_fm_rf s
  obtain ⟨x10, hx10, h⟩ := hq_bind h
  by_cases c11 : a2 < x10
  · rw [if_pos c11] at h
    obtain ⟨y12, hy12, h⟩ := hq_bind h
    have t := hq_fm_tr t (f_X12_codeOf_fr (by first | decide | omega) hy12)
    obtain ⟨x13, hx13, h⟩ := hq_bind h
    by_cases c14 : x13 = (-1 : Int32)
    · rw [if_pos c14] at h
      have h := Option.some.inj h
      subst h
      exact t
    · rw [if_neg c14] at h
      exact hq_fm_tr t (e10 a1 (a2 + (1 : Int32)) y12.2 h)
  · rw [if_neg c11] at h
    have h := Option.some.inj h
    subst h
    exact t
theorem f_X12_laysPosts_L10_fr {n m : Nat} {R0 : Int32 → hq_S → Option (Int32 × hq_S)} {a1 : Int32} {a2 : Int32} {s : hq_S} {y : (Int32 × hq_S)} (E0 : ∀ (a1 : Int32) (s : hq_S) (y : (Int32 × hq_S)), R0 a1 s = some y → hq_fm s y.2) (h : f_X12_laysPosts_L10 n R0 m a1 a2 s = some y) : hq_fm s y.2 := by
  induction m generalizing a1 a2 s with
  | zero => cases h
  | succ m ih => exact f_X12_laysPosts_L10_B_fr (n := n) (a1 := a1) (a2 := a2) (q10 := f_X12_laysPosts_L10 n R0 m) E0 (fun a1 a2 s h => ih h) h
theorem f_X12_laysPosts_S_fr {n : Nat} {R0 : Int32 → hq_S → Option (Int32 × hq_S)} {a1 : Int32} {s : hq_S} {y : (Int32 × hq_S)} (E0 : ∀ (a1 : Int32) (s : hq_S) (y : (Int32 × hq_S)), R0 a1 s = some y → hq_fm s y.2) (h : f_X12_laysPosts_S n R0 a1 s = some y) : hq_fm s y.2 := by
  unfold f_X12_laysPosts_S at h
  have t := hq_fm_rf s
  by_cases c1 : a1 = (hq_gi s 174 60)
  · rw [if_pos c1] at h
    exact hq_fm_tr t (f_X12_laysPosts_L10_fr E0 h)
  · rw [if_neg c1] at h
    obtain ⟨z2, hz2, h⟩ := hq_bind h
    exact hq_fm_tr t (f_X12_laysPosts_L65_fr E0 h)
theorem f_X12_laysPosts_G_fr {n : Nat} : ∀ k : Nat, (∀ (a1 : Int32) (s : hq_S) (y : (Int32 × hq_S)), f_X12_laysPosts_G n k 0 a1 s = some y → hq_fm s y.2) := by
  intro k
  induction k with
  | zero =>
    all_goals
      intros
      next h => cases h
  | succ k ih =>
    have I0 := ih
    · intro a1 s y h
      exact f_X12_laysPosts_S_fr I0 h
theorem f_X12_laysPosts_fr {n : Nat} {a1 : Int32} {s : hq_S} {y : (Int32 × hq_S)} (h : f_X12_laysPosts n a1 s = some y) : hq_fm s y.2 := (f_X12_laysPosts_G_fr 10) a1 s y h
theorem f_X12_fewestPosts_L18_B_fr {n : Nat} {a1 : Int32} {q18 : Int32 → hq_S → Option (Int32 × hq_S)} {s : hq_S} {y : (Int32 × hq_S)} (e18 : ∀ (a1 : Int32) (s : hq_S), q18 a1 s = some y → hq_fm s y.2) (h : f_X12_fewestPosts_L18_B n q18 a1 s = some y) : hq_fm s y.2 := by
  unfold f_X12_fewestPosts_L18_B at h
  have t := hq_fm_rf s
  by_cases c4 : (3 : Int32) < a1
  · rw [if_pos c4] at h
    have h := Option.some.inj h
    subst h
    exact t
  · rw [if_neg c4] at h
    obtain ⟨s5, hs5, h⟩ := hq_bind h
    have t := hq_fm_tr t (f_X12_laysChase_fr hs5)
    obtain ⟨y6, hy6, h⟩ := hq_bind h
    have t := hq_fm_tr t (f_X12_laysPosts_fr hy6)
    by_cases c7 : y6.1 = 0
    · rw [if_pos c7] at h
      exact hq_fm_tr t (e18 (a1 + (1 : Int32)) y6.2 h)
    · rw [if_neg c7] at h
      have h := Option.some.inj h
      subst h
      exact t
theorem f_X12_fewestPosts_L18_fr {n m : Nat} {a1 : Int32} {s : hq_S} {y : (Int32 × hq_S)} (h : f_X12_fewestPosts_L18 n m a1 s = some y) : hq_fm s y.2 := by
  induction m generalizing a1 s with
  | zero => cases h
  | succ m ih => exact f_X12_fewestPosts_L18_B_fr (n := n) (a1 := a1) (q18 := f_X12_fewestPosts_L18 n m) (fun a1 s h => ih h) h
theorem f_X12_fewestPosts_fr {n : Nat} {s : hq_S} {y : (Int32 × hq_S)} (h : f_X12_fewestPosts n s = some y) : hq_fm s y.2 := by
  unfold f_X12_fewestPosts at h
  have t := hq_fm_rf s
  obtain ⟨x1, hx1, h⟩ := hq_bind h
  by_cases c2 : x1 = 0
  · rw [if_pos c2] at h
    have h := Option.some.inj h
    subst h
    exact t
  · rw [if_neg c2] at h
    obtain ⟨s3, hs3, h⟩ := hq_bind h
    have t := hq_fm_tr t (f_X12_lays_fr hs3)
    exact hq_fm_tr t (f_X12_fewestPosts_L18_fr h)
theorem f_X12_takers_fr {n : Nat} {s : hq_S} {y : (Int32 × hq_S)} (h : f_X12_takers n s = some y) : hq_fm s y.2 := by
  unfold f_X12_takers at h
  have t := hq_fm_rf s
  obtain ⟨s1, hs1, h⟩ := hq_bind h
  have t := hq_fm_tr t (hq_fm_pi hs1 (by first | decide | omega))
  obtain ⟨y2, hy2, h⟩ := hq_bind h
  have t := hq_fm_tr t (f_X12_fewestPosts_fr hy2)
  have h := Option.some.inj h
  subst h
  exact t
theorem f_X12_post_fr {n : Nat} {a1 : Int32} {s : hq_S} {y : (Int32 × hq_S)} (h : f_X12_post n a1 s = some y) : hq_fm s y.2 := by
  unfold f_X12_post at h
  have t := hq_fm_rf s
  obtain ⟨s1, hs1, h⟩ := hq_bind h
  have t := hq_fm_tr t (hq_fm_pi hs1 (by first | decide | omega))
  by_cases c2 : a1 < 0
  · rw [if_pos c2] at h
    have h := Option.some.inj h
    subst h
    exact t
  · rw [if_neg c2] at h
    obtain ⟨y3, hy3, h⟩ := hq_bind h
    have t := hq_fm_tr t (f_X12_fewestPosts_fr hy3)
    by_cases c4 : a1 < y3.1
    · rw [if_pos c4] at h
      obtain ⟨x5, hx5, h⟩ := hq_bind h
      have h := Option.some.inj h
      subst h
      exact t
    · rw [if_neg c4] at h
      have h := Option.some.inj h
      subst h
      exact t
theorem f_X12_moved_L4_B_fr {n : Nat} {a1 : Int32} {a2 : Int32} {a3 : Int32} {q4 : Int32 → Int32 → Int32 → hq_S → Option (Int32 × hq_S)} {s : hq_S} {y : (Int32 × hq_S)} (e4 : ∀ (a1 : Int32) (a2 : Int32) (a3 : Int32) (s : hq_S), q4 a1 a2 a3 s = some y → hq_fm s y.2) (h : f_X12_moved_L4_B n q4 a1 a2 a3 s = some y) : hq_fm s y.2 := by
  unfold f_X12_moved_L4_B at h
  have t := hq_fm_rf s
  obtain ⟨x1, hx1, h⟩ := hq_bind h
  by_cases c2 : a3 < x1
  · rw [if_pos c2] at h
    obtain ⟨z3, hz3, h⟩ := hq_bind h
    exact hq_fm_tr t (e4 a1 z3 (a3 + (1 : Int32)) s h)
  · rw [if_neg c2] at h
    have h := Option.some.inj h
    subst h
    exact t
theorem f_X12_moved_L4_fr {n m : Nat} {a1 : Int32} {a2 : Int32} {a3 : Int32} {s : hq_S} {y : (Int32 × hq_S)} (h : f_X12_moved_L4 n m a1 a2 a3 s = some y) : hq_fm s y.2 := by
  induction m generalizing a1 a2 a3 s with
  | zero => cases h
  | succ m ih => exact f_X12_moved_L4_B_fr (n := n) (a1 := a1) (a2 := a2) (a3 := a3) (q4 := f_X12_moved_L4 n m) (fun a1 a2 a3 s h => ih h) h
theorem f_X12_moved_fr {n : Nat} {a1 : Int32} {s : hq_S} {y : (Int32 × hq_S)} (h : f_X12_moved n a1 s = some y) : hq_fm s y.2 := by
  unfold f_X12_moved at h
  have t := hq_fm_rf s
  exact hq_fm_tr t (f_X12_moved_L4_fr h)
theorem f_X12_isSwept_J48_fr {n : Nat} {a1 : Int32} {a2 : Int32} {a3 : Int32} {a4 : Int32} {q3 : Int32 → Int32 → Int32 → Int32 → hq_S → Option (Int32 × hq_S)} {s : hq_S} {y : (Int32 × hq_S)} (e3 : ∀ (a1 : Int32) (a2 : Int32) (a3 : Int32) (a4 : Int32) (s : hq_S), q3 a1 a2 a3 a4 s = some y → hq_fm s y.2) (h : f_X12_isSwept_J48 n q3 a1 a2 a3 a4 s = some y) : hq_fm s y.2 := by
  unfold f_X12_isSwept_J48 at h
  have t := hq_fm_rf s
  exact hq_fm_tr t (e3 a1 a2 a3 (a4 + (1 : Int32)) s h)
theorem f_X12_isSwept_L3_B_fr {n : Nat} {a1 : Int32} {a2 : Int32} {a3 : Int32} {a4 : Int32} {q3 : Int32 → Int32 → Int32 → Int32 → hq_S → Option (Int32 × hq_S)} {s : hq_S} {y : (Int32 × hq_S)} (e3 : ∀ (a1 : Int32) (a2 : Int32) (a3 : Int32) (a4 : Int32) (s : hq_S), q3 a1 a2 a3 a4 s = some y → hq_fm s y.2) (h : f_X12_isSwept_L3_B n q3 a1 a2 a3 a4 s = some y) : hq_fm s y.2 := by
  unfold f_X12_isSwept_L3_B at h
  have t := hq_fm_rf s
  by_cases c1 : a3 < a4
  · rw [if_pos c1] at h
    have h := Option.some.inj h
    subst h
    exact t
  · rw [if_neg c1] at h
    by_cases c2 : (a4 &&& (a1 ^^^ (-1 : Int32))) = 0
    · rw [if_pos c2] at h
      obtain ⟨y3, hy3, h⟩ := hq_bind h
      have t := hq_fm_tr t (f_X12_bitsOf_fr hy3)
      by_cases c4 : a2 < y3.1
      · rw [if_pos c4] at h
        exact hq_fm_tr t (f_X12_isSwept_J48_fr e3 h)
      · rw [if_neg c4] at h
        obtain ⟨x5, hx5, h⟩ := hq_bind h
        obtain ⟨x6, hx6, h⟩ := hq_bind h
        by_cases c7 : x6 < 0
        · rw [if_pos c7] at h
          exact hq_fm_tr t (f_X12_isSwept_J48_fr e3 h)
        · rw [if_neg c7] at h
          have h := Option.some.inj h
          subst h
          exact t
    · rw [if_neg c2] at h
      exact hq_fm_tr t (f_X12_isSwept_J48_fr e3 h)
theorem f_X12_isSwept_L3_fr {n m : Nat} {a1 : Int32} {a2 : Int32} {a3 : Int32} {a4 : Int32} {s : hq_S} {y : (Int32 × hq_S)} (h : f_X12_isSwept_L3 n m a1 a2 a3 a4 s = some y) : hq_fm s y.2 := by
  induction m generalizing a1 a2 a3 a4 s with
  | zero => cases h
  | succ m ih => exact f_X12_isSwept_L3_B_fr (n := n) (a1 := a1) (a2 := a2) (a3 := a3) (a4 := a4) (q3 := f_X12_isSwept_L3 n m) (fun a1 a2 a3 a4 s h => ih h) h
theorem f_X12_isSwept_fr {n : Nat} {a1 : Int32} {a2 : Int32} {a3 : Int32} {s : hq_S} {y : (Int32 × hq_S)} (h : f_X12_isSwept n a1 a2 a3 s = some y) : hq_fm s y.2 := by
  unfold f_X12_isSwept at h
  have t := hq_fm_rf s
  exact hq_fm_tr t (f_X12_isSwept_L3_fr h)
