def w_X12_name : List (Nat × Option Nat) := [(174, some 27)]
theorem f_X12_name_L7_B_fw {n : Nat} {a1 : Int32} {q7 : Int32 → hq_S → Option hq_S} {s : hq_S} {y : hq_S} (e7 : ∀ (a1 : Int32) (s : hq_S), q7 a1 s = some y → hq_fc w_X12_name s y) (h : f_X12_name_L7_B n q7 a1 s = some y) : hq_fc w_X12_name s y := by
  unfold f_X12_name_L7_B at h
  have t := hq_fc_rf w_X12_name s
  by_cases c2 : a1 < (6 : Int32)
  · rw [if_pos c2] at h
    obtain ⟨z3, hz3, h⟩ := hq_bind h
    obtain ⟨s6, hs6, h⟩ := hq_bind h
    have t := hq_fc_tr t (hq_fc_pi hs6 (by decide))
    exact hq_fc_tr t (e7 (a1 + (1 : Int32)) s6 h)
  · rw [if_neg c2] at h
    have h := Option.some.inj h
    subst h
    exact t
theorem f_X12_name_L7_fw {n m : Nat} {a1 : Int32} {s : hq_S} {y : hq_S} (h : f_X12_name_L7 n m a1 s = some y) : hq_fc w_X12_name s y := by
  induction m generalizing a1 s with
  | zero => cases h
  | succ m ih => exact f_X12_name_L7_B_fw (n := n) (a1 := a1) (q7 := f_X12_name_L7 n m) (fun a1 s h => ih h) h
theorem f_X12_name_fw {n : Nat} {s : hq_S} {y : hq_S} (h : f_X12_name n s = some y) : hq_fc w_X12_name s y := by
  unfold f_X12_name at h
  have t := hq_fc_rf w_X12_name s
  obtain ⟨s1, hs1, h⟩ := hq_bind h
  have t := hq_fc_tr t (hq_fc_pi hs1 (by decide))
  exact hq_fc_tr t (f_X12_name_L7_fw h)
def w_X12_sign : List (Nat × Option Nat) := [(174, some 24), (174, some 26), (174, some 27)]
theorem f_X12_sign_fw {n : Nat} {a1 : Int32} {s : hq_S} {y : hq_S} (h : f_X12_sign n a1 s = some y) : hq_fc w_X12_sign s y := by
  unfold f_X12_sign at h
  have t := hq_fc_rf w_X12_sign s
  obtain ⟨s1, hs1, h⟩ := hq_bind h
  have t := hq_fc_tr t (hq_fc_pi hs1 (by decide))
  obtain ⟨z2, hz2, h⟩ := hq_bind h
  obtain ⟨s13, hs13, h⟩ := hq_bind h
  have t := hq_fc_tr t (hq_fc_pi hs13 (by decide))
  obtain ⟨s14, hs14, h⟩ := hq_bind h
  have t := hq_fc_tr t (hq_fc_pi hs14 (by decide))
  obtain ⟨z15, hz15, h⟩ := hq_bind h
  have t : hq_fc w_X12_sign s z15 := by
    clear h
    have h := hz15
    by_cases c16 : a1 = (60 : Int32)
    · rw [if_pos c16] at h
      obtain ⟨y17, hy17, h⟩ := hq_bind h
      have t := hq_fc_tr t (hq_fc_mono (by decide) (f_X12_here_fw hy17))
      by_cases c18 : y17.1 = (61 : Int32)
      · rw [if_pos c18] at h
        obtain ⟨s19, hs19, h⟩ := hq_bind h
        have t := hq_fc_tr t (hq_fc_pi hs19 (by decide))
        cases h
        exact t
      · rw [if_neg c18] at h
        cases h
        exact t
    · rw [if_neg c16] at h
      cases h
      exact t
  obtain ⟨z20, hz20, h⟩ := hq_bind h
  have t : hq_fc w_X12_sign s z20 := by
    clear h
    have h := hz20
    by_cases c21 : a1 = (60 : Int32)
    · rw [if_pos c21] at h
      obtain ⟨y22, hy22, h⟩ := hq_bind h
      have t := hq_fc_tr t (hq_fc_mono (by decide) (f_X12_here_fw hy22))
      by_cases c23 : y22.1 = (62 : Int32)
      · rw [if_pos c23] at h
        obtain ⟨s24, hs24, h⟩ := hq_bind h
        have t := hq_fc_tr t (hq_fc_pi hs24 (by decide))
        cases h
        exact t
      · rw [if_neg c23] at h
        cases h
        exact t
    · rw [if_neg c21] at h
      cases h
      exact t
  obtain ⟨z25, hz25, h⟩ := hq_bind h
  have t : hq_fc w_X12_sign s z25 := by
    clear h
    have h := hz25
    by_cases c26 : a1 = (62 : Int32)
    · rw [if_pos c26] at h
      obtain ⟨y27, hy27, h⟩ := hq_bind h
      have t := hq_fc_tr t (hq_fc_mono (by decide) (f_X12_here_fw hy27))
      by_cases c28 : y27.1 = (61 : Int32)
      · rw [if_pos c28] at h
        obtain ⟨s29, hs29, h⟩ := hq_bind h
        have t := hq_fc_tr t (hq_fc_pi hs29 (by decide))
        cases h
        exact t
      · rw [if_neg c28] at h
        cases h
        exact t
    · rw [if_neg c26] at h
      cases h
      exact t
  by_cases c30 : (hq_gi z25 174 27) < (256 : Int32)
  · rw [if_pos c30] at h
    have h := Option.some.inj h
    subst h
    exact t
  · rw [if_neg c30] at h
    obtain ⟨s31, hs31, h⟩ := hq_bind h
    have t := hq_fc_tr t (hq_fc_pi hs31 (by decide))
    have h := Option.some.inj h
    subst h
    exact t
def w_X12_token : List (Nat × Option Nat) := [(174, some 24), (174, some 25), (174, some 26), (174, some 27)]
theorem f_X12_token_J18_fw {n : Nat} {q0 : hq_S → Option hq_S} {s : hq_S} {y : hq_S} (e0 : ∀ (s : hq_S), q0 s = some y → hq_fc w_X12_token s y) (h : f_X12_token_J18 n q0 s = some y) : hq_fc w_X12_token s y := by
  unfold f_X12_token_J18 at h
  have t := hq_fc_rf w_X12_token s
  obtain ⟨s3, hs3, h⟩ := hq_bind h
  have t := hq_fc_tr t (hq_fc_pi hs3 (by decide))
  exact hq_fc_tr t (e0 s3 h)
theorem f_X12_token_L162_B_fw {n : Nat} {a1 : Int32} {q162 : Int32 → hq_S → Option hq_S} {s : hq_S} {y : hq_S} (e162 : ∀ (a1 : Int32) (s : hq_S), q162 a1 s = some y → hq_fc w_X12_token s y) (h : f_X12_token_L162_B n q162 a1 s = some y) : hq_fc w_X12_token s y := by
  unfold f_X12_token_L162_B at h
  have t := hq_fc_rf w_X12_token s
  obtain ⟨y16, hy16, h⟩ := hq_bind h
  have t := hq_fc_tr t (hq_fc_mono (by decide) (f_X12_here_fw hy16))
  obtain ⟨y17, hy17, h⟩ := hq_bind h
  have t := hq_fc_tr t (hq_fc_mono (by decide) (f_X12_isDigit_fw hy17))
  by_cases c18 : y17.1 = 0
  · rw [if_pos c18] at h
    have h := Option.some.inj h
    subst h
    exact t
  · rw [if_neg c18] at h
    obtain ⟨z19, hz19, h⟩ := hq_bind h
    have t : hq_fc w_X12_token s z19.2 := by
      clear h
      have h := hz19
      by_cases c20 : (99999 : Int32) < (hq_gi y17.2 174 27)
      · rw [if_pos c20] at h
        cases h
        exact t
      · rw [if_neg c20] at h
        obtain ⟨y21, hy21, h⟩ := hq_bind h
        have t := hq_fc_tr t (hq_fc_mono (by decide) (f_X12_here_fw hy21))
        cases h
        exact t
    obtain ⟨s22, hs22, h⟩ := hq_bind h
    have t := hq_fc_tr t (hq_fc_pi hs22 (by decide))
    obtain ⟨s23, hs23, h⟩ := hq_bind h
    have t := hq_fc_tr t (hq_fc_pi hs23 (by decide))
    exact hq_fc_tr t (e162 a1 s23 h)
theorem f_X12_token_L162_fw {n m : Nat} {a1 : Int32} {s : hq_S} {y : hq_S} (h : f_X12_token_L162 n m a1 s = some y) : hq_fc w_X12_token s y := by
  induction m generalizing a1 s with
  | zero => cases h
  | succ m ih => exact f_X12_token_L162_B_fw (n := n) (a1 := a1) (q162 := f_X12_token_L162 n m) (fun a1 s h => ih h) h
theorem f_X12_token_L64_B_fw {n : Nat} {a1 : Int32} {q64 : Int32 → hq_S → Option hq_S} {s : hq_S} {y : hq_S} (e64 : ∀ (a1 : Int32) (s : hq_S), q64 a1 s = some y → hq_fc w_X12_token s y) (h : f_X12_token_L64_B n q64 a1 s = some y) : hq_fc w_X12_token s y := by
  unfold f_X12_token_L64_B at h
  have t := hq_fc_rf w_X12_token s
  obtain ⟨y24, hy24, h⟩ := hq_bind h
  have t := hq_fc_tr t (hq_fc_mono (by decide) (f_X12_here_fw hy24))
  obtain ⟨y25, hy25, h⟩ := hq_bind h
  have t := hq_fc_tr t (hq_fc_mono (by decide) (f_X12_isSmall_fw hy25))
  by_cases c26 : y25.1 = 0
  · rw [if_pos c26] at h
    obtain ⟨y27, hy27, h⟩ := hq_bind h
    have t := hq_fc_tr t (hq_fc_mono (by decide) (f_X12_word_fw hy27))
    obtain ⟨s28, hs28, h⟩ := hq_bind h
    have t := hq_fc_tr t (hq_fc_pi hs28 (by decide))
    obtain ⟨z29, hz29, h⟩ := hq_bind h
    obtain ⟨s32, hs32, h⟩ := hq_bind h
    have t := hq_fc_tr t (hq_fc_pi hs32 (by decide))
    by_cases c33 : (hq_gi s32 174 26) = (1 : Int32)
    · rw [if_pos c33] at h
      obtain ⟨s34, hs34, h⟩ := hq_bind h
      have t := hq_fc_tr t (hq_fc_mono (by decide) (f_X12_name_fw hs34))
      have h := Option.some.inj h
      subst h
      exact t
    · rw [if_neg c33] at h
      have h := Option.some.inj h
      subst h
      exact t
  · rw [if_neg c26] at h
    obtain ⟨s35, hs35, h⟩ := hq_bind h
    have t := hq_fc_tr t (hq_fc_pi hs35 (by decide))
    exact hq_fc_tr t (e64 a1 s35 h)
theorem f_X12_token_L64_fw {n m : Nat} {a1 : Int32} {s : hq_S} {y : hq_S} (h : f_X12_token_L64 n m a1 s = some y) : hq_fc w_X12_token s y := by
  induction m generalizing a1 s with
  | zero => cases h
  | succ m ih => exact f_X12_token_L64_B_fw (n := n) (a1 := a1) (q64 := f_X12_token_L64 n m) (fun a1 s h => ih h) h
theorem f_X12_token_L0_B_fw {n : Nat} {q0 : hq_S → Option hq_S} {s : hq_S} {y : hq_S} (e0 : ∀ (s : hq_S), q0 s = some y → hq_fc w_X12_token s y) (h : f_X12_token_L0_B n q0 s = some y) : hq_fc w_X12_token s y := by
  unfold f_X12_token_L0_B at h
  have t := hq_fc_rf w_X12_token s
  obtain ⟨y1, hy1, h⟩ := hq_bind h
  have t := hq_fc_tr t (hq_fc_mono (by decide) (f_X12_here_fw hy1))
  by_cases c2 : y1.1 = (10 : Int32)
  · rw [if_pos c2] at h
    exact hq_fc_tr t (f_X12_token_J18_fw e0 h)
  · rw [if_neg c2] at h
    obtain ⟨y4, hy4, h⟩ := hq_bind h
    have t := hq_fc_tr t (hq_fc_mono (by decide) (f_X12_here_fw hy4))
    by_cases c5 : y4.1 = (32 : Int32)
    · rw [if_pos c5] at h
      exact hq_fc_tr t (f_X12_token_J18_fw e0 h)
    · rw [if_neg c5] at h
      obtain ⟨s6, hs6, h⟩ := hq_bind h
      have t := hq_fc_tr t (hq_fc_pi hs6 (by decide))
      obtain ⟨y7, hy7, h⟩ := hq_bind h
      have t := hq_fc_tr t (hq_fc_mono (by decide) (f_X12_here_fw hy7))
      by_cases c8 : y7.1 = (-1 : Int32)
      · rw [if_pos c8] at h
        obtain ⟨s36, hs36, h⟩ := hq_bind h
        have t := hq_fc_tr t (hq_fc_pi hs36 (by decide))
        have h := Option.some.inj h
        subst h
        exact t
      · rw [if_neg c8] at h
        obtain ⟨y9, hy9, h⟩ := hq_bind h
        have t := hq_fc_tr t (hq_fc_mono (by decide) (f_X12_isSmall_fw hy9))
        by_cases c10 : y9.1 = 0
        · rw [if_pos c10] at h
          obtain ⟨y11, hy11, h⟩ := hq_bind h
          have t := hq_fc_tr t (hq_fc_mono (by decide) (f_X12_isDigit_fw hy11))
          by_cases c12 : y11.1 = 0
          · rw [if_pos c12] at h
            obtain ⟨s13, hs13, h⟩ := hq_bind h
            have t := hq_fc_tr t (hq_fc_mono (by decide) (f_X12_sign_fw hs13))
            have h := Option.some.inj h
            subst h
            exact t
          · rw [if_neg c12] at h
            obtain ⟨s14, hs14, h⟩ := hq_bind h
            have t := hq_fc_tr t (hq_fc_pi hs14 (by decide))
            obtain ⟨s15, hs15, h⟩ := hq_bind h
            have t := hq_fc_tr t (hq_fc_pi hs15 (by decide))
            exact hq_fc_tr t (f_X12_token_L162_fw h)
        · rw [if_neg c10] at h
          exact hq_fc_tr t (f_X12_token_L64_fw h)
theorem f_X12_token_L0_fw {n m : Nat} {s : hq_S} {y : hq_S} (h : f_X12_token_L0 n m s = some y) : hq_fc w_X12_token s y := by
  induction m generalizing s with
  | zero => cases h
  | succ m ih => exact f_X12_token_L0_B_fw (n := n) (q0 := f_X12_token_L0 n m) (fun s h => ih h) h
theorem f_X12_token_fw {n : Nat} {s : hq_S} {y : hq_S} (h : f_X12_token n s = some y) : hq_fc w_X12_token s y := by
  unfold f_X12_token at h
  have t := hq_fc_rf w_X12_token s
  exact hq_fc_tr t (f_X12_token_L0_fw h)
def w_X12_wrong : List (Nat × Option Nat) := [(174, some 28), (174, some 29)]
theorem f_X12_wrong_fw {n : Nat} {a1 : Int32} {s : hq_S} {y : hq_S} (h : f_X12_wrong n a1 s = some y) : hq_fc w_X12_wrong s y := by
  unfold f_X12_wrong at h
  have t := hq_fc_rf w_X12_wrong s
  by_cases c1 : (hq_gi s 174 28) = 0
  · rw [if_pos c1] at h
    obtain ⟨s2, hs2, h⟩ := hq_bind h
    have t := hq_fc_tr t (hq_fc_pi hs2 (by decide))
    obtain ⟨s3, hs3, h⟩ := hq_bind h
    have t := hq_fc_tr t (hq_fc_pi hs3 (by decide))
    have h := Option.some.inj h
    subst h
    exact t
  · rw [if_neg c1] at h
    have h := Option.some.inj h
    subst h
    exact t
def w_X12_isWord : List (Nat × Option Nat) := []
theorem f_X12_isWord_fw {n : Nat} {a1 : Int32} {s : hq_S} {y : (Int32 × hq_S)} (h : f_X12_isWord n a1 s = some y) : hq_fc w_X12_isWord s y.2 := by
  unfold f_X12_isWord at h
  have t := hq_fc_rf w_X12_isWord s
  by_cases c1 : (hq_gi s 174 28) = 0
  · rw [if_pos c1] at h
    by_cases c2 : (hq_gi s 174 26) = 0
    · rw [if_pos c2] at h
      by_cases c3 : (hq_gi s 174 27) = a1
      · rw [if_pos c3] at h
        have h := Option.some.inj h
        subst h
        exact t
      · rw [if_neg c3] at h
        have h := Option.some.inj h
        subst h
        exact t
    · rw [if_neg c2] at h
      have h := Option.some.inj h
      subst h
      exact t
  · rw [if_neg c1] at h
    have h := Option.some.inj h
    subst h
    exact t
def w_X12_isSign : List (Nat × Option Nat) := []
theorem f_X12_isSign_fw {n : Nat} {a1 : Int32} {s : hq_S} {y : (Int32 × hq_S)} (h : f_X12_isSign n a1 s = some y) : hq_fc w_X12_isSign s y.2 := by
  unfold f_X12_isSign at h
  have t := hq_fc_rf w_X12_isSign s
  by_cases c1 : (hq_gi s 174 28) = 0
  · rw [if_pos c1] at h
    by_cases c2 : (hq_gi s 174 26) = (3 : Int32)
    · rw [if_pos c2] at h
      by_cases c3 : (hq_gi s 174 27) = a1
      · rw [if_pos c3] at h
        have h := Option.some.inj h
        subst h
        exact t
      · rw [if_neg c3] at h
        have h := Option.some.inj h
        subst h
        exact t
    · rw [if_neg c2] at h
      have h := Option.some.inj h
      subst h
      exact t
  · rw [if_neg c1] at h
    have h := Option.some.inj h
    subst h
    exact t
def w_X12_goOn : List (Nat × Option Nat) := [(174, some 24), (174, some 25), (174, some 26), (174, some 27)]
theorem f_X12_goOn_fw {n : Nat} {s : hq_S} {y : hq_S} (h : f_X12_goOn n s = some y) : hq_fc w_X12_goOn s y := by
  unfold f_X12_goOn at h
  have t := hq_fc_rf w_X12_goOn s
  by_cases c1 : (hq_gi s 174 28) = 0
  · rw [if_pos c1] at h
    obtain ⟨s2, hs2, h⟩ := hq_bind h
    have t := hq_fc_tr t (hq_fc_mono (by decide) (f_X12_token_fw hs2))
    have h := Option.some.inj h
    subst h
    exact t
  · rw [if_neg c1] at h
    have h := Option.some.inj h
    subst h
    exact t
def w_X12_numeral : List (Nat × Option Nat) := [(174, some 24), (174, some 25), (174, some 26), (174, some 27), (174, some 28), (174, some 29)]
theorem f_X12_numeral_fw {n : Nat} {a1 : Int32} {a2 : Int32} {s : hq_S} {y : (Int32 × hq_S)} (h : f_X12_numeral n a1 a2 s = some y) : hq_fc w_X12_numeral s y.2 := by
  unfold f_X12_numeral at h
  have t := hq_fc_rf w_X12_numeral s
  by_cases c1 : (hq_gi s 174 28) = 0
  · rw [if_pos c1] at h
    obtain ⟨z2, hz2, h⟩ := hq_bind h
    have t : hq_fc w_X12_numeral s z2 := by
      clear h
      have h := hz2
      by_cases c3 : (hq_gi s 174 26) = (2 : Int32)
      · rw [if_pos c3] at h
        by_cases c4 : (hq_gi s 174 27) < a1
        · rw [if_pos c4] at h
          obtain ⟨s5, hs5, h⟩ := hq_bind h
          have t := hq_fc_tr t (hq_fc_mono (by decide) (f_X12_wrong_fw hs5))
          cases h
          exact t
        · rw [if_neg c4] at h
          by_cases c6 : a2 < (hq_gi s 174 27)
          · rw [if_pos c6] at h
            obtain ⟨s7, hs7, h⟩ := hq_bind h
            have t := hq_fc_tr t (hq_fc_mono (by decide) (f_X12_wrong_fw hs7))
            cases h
            exact t
          · rw [if_neg c6] at h
            cases h
            exact t
      · rw [if_neg c3] at h
        obtain ⟨s8, hs8, h⟩ := hq_bind h
        have t := hq_fc_tr t (hq_fc_mono (by decide) (f_X12_wrong_fw hs8))
        cases h
        exact t
    by_cases c9 : (hq_gi z2 174 28) = 0
    · rw [if_pos c9] at h
      obtain ⟨s10, hs10, h⟩ := hq_bind h
      have t := hq_fc_tr t (hq_fc_mono (by decide) (f_X12_token_fw hs10))
      have h := Option.some.inj h
      subst h
      exact t
    · rw [if_neg c9] at h
      have h := Option.some.inj h
      subst h
      exact t
  · rw [if_neg c1] at h
    have h := Option.some.inj h
    subst h
    exact t
def w_X12_found : List (Nat × Option Nat) := []
theorem f_X12_found_L3_B_fw {n : Nat} {k0 : Nat} {a1 : Int32} {a2 : Int32} {a3 : Int32} {a4 : Int32} {q3 : Nat → Int32 → Int32 → Int32 → Int32 → hq_S → Option (Int32 × hq_S)} {s : hq_S} {y : (Int32 × hq_S)} (e3 : ∀ (k0 : Nat) (a1 : Int32) (a2 : Int32) (a3 : Int32) (a4 : Int32) (s : hq_S), q3 k0 a1 a2 a3 a4 s = some y → hq_fc w_X12_found s y.2) (h : f_X12_found_L3_B n q3 k0 a1 a2 a3 a4 s = some y) : hq_fc w_X12_found s y.2 := by
  unfold f_X12_found_L3_B at h
  have t := hq_fc_rf w_X12_found s
  by_cases c1 : a4 < a2
  · rw [if_pos c1] at h
    obtain ⟨x2, hx2, h⟩ := hq_bind h
    by_cases c3 : x2 = a3
    · rw [if_pos c3] at h
      have h := Option.some.inj h
      subst h
      exact t
    · rw [if_neg c3] at h
      exact hq_fc_tr t (e3 k0 a1 a2 a3 (a4 + (1 : Int32)) s h)
  · rw [if_neg c1] at h
    have h := Option.some.inj h
    subst h
    exact t
theorem f_X12_found_L3_fw {n m : Nat} {k0 : Nat} {a1 : Int32} {a2 : Int32} {a3 : Int32} {a4 : Int32} {s : hq_S} {y : (Int32 × hq_S)} (h : f_X12_found_L3 n m k0 a1 a2 a3 a4 s = some y) : hq_fc w_X12_found s y.2 := by
  induction m generalizing k0 a1 a2 a3 a4 s with
  | zero => cases h
  | succ m ih => exact f_X12_found_L3_B_fw (n := n) (k0 := k0) (a1 := a1) (a2 := a2) (a3 := a3) (a4 := a4) (q3 := f_X12_found_L3 n m) (fun k0 a1 a2 a3 a4 s h => ih h) h
theorem f_X12_found_fw {n : Nat} {k0 : Nat} {a1 : Int32} {a2 : Int32} {a3 : Int32} {s : hq_S} {y : (Int32 × hq_S)} (h : f_X12_found n k0 a1 a2 a3 s = some y) : hq_fc w_X12_found s y.2 := by
  unfold f_X12_found at h
  have t := hq_fc_rf w_X12_found s
  exact hq_fc_tr t (f_X12_found_L3_fw h)
def w_X12_fresh : List (Nat × Option Nat) := [(174, some 24), (174, some 25), (174, some 26), (174, some 27), (174, some 28), (174, some 29)]
theorem f_X12_fresh_fw {n : Nat} {k1 : Nat} {a2 : Int32} {a3 : Int32} {s : hq_S} {y : (Int32 × hq_S)} (h : f_X12_fresh n k1 a2 a3 s = some y) : hq_fc w_X12_fresh s y.2 := by
  unfold f_X12_fresh at h
  have t := hq_fc_rf w_X12_fresh s
  by_cases c1 : (hq_gi s 174 28) = 0
  · rw [if_pos c1] at h
    obtain ⟨z2, hz2, h⟩ := hq_bind h
    have t : hq_fc w_X12_fresh s z2 := by
      clear h
      have h := hz2
      by_cases c3 : (hq_gi s 174 26) = (1 : Int32)
      · rw [if_pos c3] at h
        obtain ⟨y4, hy4, h⟩ := hq_bind h
        have t := hq_fc_tr t (hq_fc_mono (by decide) (f_X12_found_fw hy4))
        by_cases c5 : y4.1 = (-1 : Int32)
        · rw [if_pos c5] at h
          cases h
          exact t
        · rw [if_neg c5] at h
          obtain ⟨s6, hs6, h⟩ := hq_bind h
          have t := hq_fc_tr t (hq_fc_mono (by decide) (f_X12_wrong_fw hs6))
          cases h
          exact t
      · rw [if_neg c3] at h
        obtain ⟨s7, hs7, h⟩ := hq_bind h
        have t := hq_fc_tr t (hq_fc_mono (by decide) (f_X12_wrong_fw hs7))
        cases h
        exact t
    by_cases c8 : (hq_gi z2 174 28) = 0
    · rw [if_pos c8] at h
      obtain ⟨s9, hs9, h⟩ := hq_bind h
      have t := hq_fc_tr t (hq_fc_mono (by decide) (f_X12_token_fw hs9))
      have h := Option.some.inj h
      subst h
      exact t
    · rw [if_neg c8] at h
      have h := Option.some.inj h
      subst h
      exact t
  · rw [if_neg c1] at h
    have h := Option.some.inj h
    subst h
    exact t
def w_X12_fresher : List (Nat × Option Nat) := []
theorem f_X12_fresher_fw {n : Nat} {a1 : Int32} {s : hq_S} {y : (Int32 × hq_S)} (h : f_X12_fresher n a1 s = some y) : hq_fc w_X12_fresher s y.2 := by
  unfold f_X12_fresher at h
  have t := hq_fc_rf w_X12_fresher s
  obtain ⟨x1, hx1, h⟩ := hq_bind h
  have h := Option.some.inj h
  subst h
  exact t
def w_X12_reads : List (Nat × Option Nat) := [(176, none)]
theorem f_X12_reads_fw {n : Nat} {a1 : Int32} {a2 : Int32} {s : hq_S} {y : hq_S} (h : f_X12_reads n a1 a2 s = some y) : hq_fc w_X12_reads s y := by
  unfold f_X12_reads at h
  have t := hq_fc_rf w_X12_reads s
  obtain ⟨s1, hs1, h⟩ := hq_bind h
  have t := hq_fc_tr t (hq_fc_st hs1 (by decide))
  have h := Option.some.inj h
  subst h
  exact t
def w_X12_atHand : List (Nat × Option Nat) := [(174, some 28), (174, some 29)]
theorem f_X12_atHand_fw {n : Nat} {k1 : Nat} {a2 : Int32} {a3 : Int32} {s : hq_S} {y : (Int32 × hq_S)} (h : f_X12_atHand n k1 a2 a3 s = some y) : hq_fc w_X12_atHand s y.2 := by
  unfold f_X12_atHand at h
  have t := hq_fc_rf w_X12_atHand s
  by_cases c1 : (hq_gi s 174 28) = 0
  · rw [if_pos c1] at h
    obtain ⟨z2, hz2, h⟩ := hq_bind h
    have t : hq_fc w_X12_atHand s z2 := by
      clear h
      have h := hz2
      by_cases c3 : (hq_gi s 174 26) = (1 : Int32)
      · rw [if_pos c3] at h
        cases h
        exact t
      · rw [if_neg c3] at h
        obtain ⟨s4, hs4, h⟩ := hq_bind h
        have t := hq_fc_tr t (hq_fc_mono (by decide) (f_X12_wrong_fw hs4))
        cases h
        exact t
    obtain ⟨z5, hz5, h⟩ := hq_bind h
    have t : hq_fc w_X12_atHand s z5.2 := by
      clear h
      have h := hz5
      by_cases c6 : (hq_gi z2 174 28) = 0
      · rw [if_pos c6] at h
        obtain ⟨y7, hy7, h⟩ := hq_bind h
        have t := hq_fc_tr t (hq_fc_mono (by decide) (f_X12_found_fw hy7))
        cases h
        exact t
      · rw [if_neg c6] at h
        cases h
        exact t
    obtain ⟨z8, hz8, h⟩ := hq_bind h
    have t : hq_fc w_X12_atHand s z8 := by
      clear h
      have h := hz8
      by_cases c9 : (hq_gi z5.2 174 28) = 0
      · rw [if_pos c9] at h
        by_cases c10 : z5.1 = (-1 : Int32)
        · rw [if_pos c10] at h
          obtain ⟨s11, hs11, h⟩ := hq_bind h
          have t := hq_fc_tr t (hq_fc_mono (by decide) (f_X12_wrong_fw hs11))
          cases h
          exact t
        · rw [if_neg c10] at h
          cases h
          exact t
      · rw [if_neg c9] at h
        cases h
        exact t
    by_cases c12 : (hq_gi z8 174 28) = 0
    · rw [if_pos c12] at h
      have h := Option.some.inj h
      subst h
      exact t
    · rw [if_neg c12] at h
      have h := Option.some.inj h
      subst h
      exact t
  · rw [if_neg c1] at h
    have h := Option.some.inj h
    subst h
    exact t
def w_X12_cornerAtHand : List (Nat × Option Nat) := [(174, some 28), (174, some 29)]
theorem f_X12_cornerAtHand_fw {n : Nat} {s : hq_S} {y : (Int32 × hq_S)} (h : f_X12_cornerAtHand n s = some y) : hq_fc w_X12_cornerAtHand s y.2 := by
  unfold f_X12_cornerAtHand at h
  have t := hq_fc_rf w_X12_cornerAtHand s
  obtain ⟨y1, hy1, h⟩ := hq_bind h
  have t := hq_fc_tr t (hq_fc_mono (by decide) (f_X12_fresher_fw hy1))
  obtain ⟨y2, hy2, h⟩ := hq_bind h
  have t := hq_fc_tr t (hq_fc_mono (by decide) (f_X12_atHand_fw hy2))
  have h := Option.some.inj h
  subst h
  exact t
def w_X12_cornerAhead : List (Nat × Option Nat) := [(174, some 24), (174, some 25), (174, some 26), (174, some 27), (174, some 28), (174, some 29)]
theorem f_X12_cornerAhead_fw {n : Nat} {s : hq_S} {y : (Int32 × hq_S)} (h : f_X12_cornerAhead n s = some y) : hq_fc w_X12_cornerAhead s y.2 := by
  unfold f_X12_cornerAhead at h
  have t := hq_fc_rf w_X12_cornerAhead s
  obtain ⟨y1, hy1, h⟩ := hq_bind h
  have t := hq_fc_tr t (hq_fc_mono (by decide) (f_X12_cornerAtHand_fw hy1))
  obtain ⟨s2, hs2, h⟩ := hq_bind h
  have t := hq_fc_tr t (hq_fc_mono (by decide) (f_X12_goOn_fw hs2))
  have h := Option.some.inj h
  subst h
  exact t
def w_X12_isFull : List (Nat × Option Nat) := []
theorem f_X12_isFull_fw {n : Nat} {a1 : Int32} {s : hq_S} {y : (Int32 × hq_S)} (h : f_X12_isFull n a1 s = some y) : hq_fc w_X12_isFull s y.2 := by
  unfold f_X12_isFull at h
  have t := hq_fc_rf w_X12_isFull s
  by_cases c1 : a1 = (0 : Int32)
  · rw [if_pos c1] at h
    obtain ⟨y2, hy2, h⟩ := hq_bind h
    have t := hq_fc_tr t (hq_fc_mono (by decide) (f_X12_fresher_fw hy2))
    by_cases c3 : y2.1 = (10 : Int32)
    · rw [if_pos c3] at h
      have h := Option.some.inj h
      subst h
      exact t
    · rw [if_neg c3] at h
      have h := Option.some.inj h
      subst h
      exact t
  rw [if_neg c1] at h
  by_cases c4 : a1 = (1 : Int32)
  · rw [if_pos c4] at h
    obtain ⟨y5, hy5, h⟩ := hq_bind h
    have t := hq_fc_tr t (hq_fc_mono (by decide) (f_X12_fresher_fw hy5))
    by_cases c6 : y5.1 = (20 : Int32)
    · rw [if_pos c6] at h
      have h := Option.some.inj h
      subst h
      exact t
    · rw [if_neg c6] at h
      have h := Option.some.inj h
      subst h
      exact t
  rw [if_neg c4] at h
  by_cases c7 : a1 = (2 : Int32)
  · rw [if_pos c7] at h
    obtain ⟨y8, hy8, h⟩ := hq_bind h
    have t := hq_fc_tr t (hq_fc_mono (by decide) (f_X12_fresher_fw hy8))
    by_cases c9 : y8.1 = (20 : Int32)
    · rw [if_pos c9] at h
      have h := Option.some.inj h
      subst h
      exact t
    · rw [if_neg c9] at h
      have h := Option.some.inj h
      subst h
      exact t
  rw [if_neg c7] at h
  by_cases c10 : a1 = (3 : Int32)
  · rw [if_pos c10] at h
    obtain ⟨y11, hy11, h⟩ := hq_bind h
    have t := hq_fc_tr t (hq_fc_mono (by decide) (f_X12_fresher_fw hy11))
    by_cases c12 : y11.1 = (3 : Int32)
    · rw [if_pos c12] at h
      have h := Option.some.inj h
      subst h
      exact t
    · rw [if_neg c12] at h
      have h := Option.some.inj h
      subst h
      exact t
  rw [if_neg c10] at h
  by_cases c13 : a1 = (4 : Int32)
  · rw [if_pos c13] at h
    have h := Option.some.inj h
    subst h
    exact t
  rw [if_neg c13] at h
  by_cases c14 : a1 = (5 : Int32)
  · rw [if_pos c14] at h
    obtain ⟨y15, hy15, h⟩ := hq_bind h
    have t := hq_fc_tr t (hq_fc_mono (by decide) (f_X12_fresher_fw hy15))
    by_cases c16 : y15.1 = (4 : Int32)
    · rw [if_pos c16] at h
      have h := Option.some.inj h
      subst h
      exact t
    · rw [if_neg c16] at h
      have h := Option.some.inj h
      subst h
      exact t
  rw [if_neg c14] at h
  have h := Option.some.inj h
  subst h
  exact t
def w_X12_laneLine : List (Nat × Option Nat) := [(174, some 24), (174, some 25), (174, some 26), (174, some 27), (174, some 28), (174, some 29), (176, none), (180, none), (181, none), (182, none)]
theorem f_X12_laneLine_L66_B_fw {n : Nat} {a1 : Int32} {a2 : Int32} {a3 : Int32} {q66 : Int32 → Int32 → Int32 → hq_S → Option hq_S} {s : hq_S} {y : hq_S} (e66 : ∀ (a1 : Int32) (a2 : Int32) (a3 : Int32) (o4 : Option Value) (o5 : Option Value) (s : hq_S), q66 a1 a2 a3 s = some y → hq_fc w_X12_laneLine s y) (h : f_X12_laneLine_L66_B n q66 a1 a2 a3 s = some y) : hq_fc w_X12_laneLine s y := by
  unfold f_X12_laneLine_L66_B at h
  have t := hq_fc_rf w_X12_laneLine s
  by_cases c13 : a3 < a2
  · rw [if_pos c13] at h
    obtain ⟨x17, hx17, h⟩ := hq_bind h
    obtain ⟨x18, hx18, h⟩ := hq_bind h
    obtain ⟨z19, hz19, h⟩ := hq_bind h
    obtain ⟨z24, hz24, h⟩ := hq_bind h
    obtain ⟨z32, hz32, h⟩ := hq_bind h
    have t : hq_fc w_X12_laneLine s z32 := by
      clear h
      have h := hz32
      by_cases c33 : (hq_gi s 174 28) = 0
      · rw [if_pos c33] at h
        obtain ⟨x34, hx34, h⟩ := hq_bind h
        by_cases c35 : x34 = a1
        · rw [if_pos c35] at h
          by_cases c36 : z19 = 0
          · rw [if_pos c36] at h
            by_cases c38 : z24 = 0
            · rw [if_pos c38] at h
              cases h
              exact t
            · rw [if_neg c38] at h
              obtain ⟨s39, hs39, h⟩ := hq_bind h
              have t := hq_fc_tr t (hq_fc_mono (by decide) (f_X12_wrong_fw hs39))
              cases h
              exact t
          · rw [if_neg c36] at h
            obtain ⟨s37, hs37, h⟩ := hq_bind h
            have t := hq_fc_tr t (hq_fc_mono (by decide) (f_X12_wrong_fw hs37))
            cases h
            exact t
        · rw [if_neg c35] at h
          cases h
          exact t
      · rw [if_neg c33] at h
        cases h
        exact t
    exact hq_fc_tr t (e66 a1 a2 (a3 + (1 : Int32)) none none z32 h)
  · rw [if_neg c13] at h
    obtain ⟨s14, hs14, h⟩ := hq_bind h
    have t := hq_fc_tr t (hq_fc_mono (by decide) (f_X12_goOn_fw hs14))
    obtain ⟨y15, hy15, h⟩ := hq_bind h
    have t := hq_fc_tr t (hq_fc_mono (by decide) (f_X12_fresher_fw hy15))
    obtain ⟨s16, hs16, h⟩ := hq_bind h
    have t := hq_fc_tr t (hq_fc_mono (by decide) (f_X12_reads_fw hs16))
    have h := Option.some.inj h
    subst h
    exact t
theorem f_X12_laneLine_L66_fw {n m : Nat} {a1 : Int32} {a2 : Int32} {a3 : Int32} {s : hq_S} {y : hq_S} (h : f_X12_laneLine_L66 n m a1 a2 a3 s = some y) : hq_fc w_X12_laneLine s y := by
  induction m generalizing a1 a2 a3 s with
  | zero => cases h
  | succ m ih => exact f_X12_laneLine_L66_B_fw (n := n) (a1 := a1) (a2 := a2) (a3 := a3) (q66 := f_X12_laneLine_L66 n m) (fun a1 a2 a3 _ _ s h => ih h) h
theorem f_X12_laneLine_fw {n : Nat} {a1 : Int32} {s : hq_S} {y : hq_S} (h : f_X12_laneLine n a1 s = some y) : hq_fc w_X12_laneLine s y := by
  unfold f_X12_laneLine at h
  have t := hq_fc_rf w_X12_laneLine s
  obtain ⟨y1, hy1, h⟩ := hq_bind h
  have t := hq_fc_tr t (hq_fc_mono (by decide) (f_X12_fresher_fw hy1))
  obtain ⟨y2, hy2, h⟩ := hq_bind h
  have t := hq_fc_tr t (hq_fc_mono (by decide) (f_X12_cornerAhead_fw hy2))
  obtain ⟨s3, hs3, h⟩ := hq_bind h
  have t := hq_fc_tr t (hq_fc_st hs3 (by decide))
  obtain ⟨y4, hy4, h⟩ := hq_bind h
  have t := hq_fc_tr t (hq_fc_mono (by decide) (f_X12_cornerAtHand_fw hy4))
  obtain ⟨s5, hs5, h⟩ := hq_bind h
  have t := hq_fc_tr t (hq_fc_st hs5 (by decide))
  obtain ⟨s6, hs6, h⟩ := hq_bind h
  have t := hq_fc_tr t (hq_fc_st hs6 (by decide))
  obtain ⟨z7, hz7, h⟩ := hq_bind h
  have t : hq_fc w_X12_laneLine s z7 := by
    clear h
    have h := hz7
    by_cases c8 : (hq_gi s6 174 28) = 0
    · rw [if_pos c8] at h
      obtain ⟨x9, hx9, h⟩ := hq_bind h
      obtain ⟨x10, hx10, h⟩ := hq_bind h
      by_cases c11 : x9 = x10
      · rw [if_pos c11] at h
        obtain ⟨s12, hs12, h⟩ := hq_bind h
        have t := hq_fc_tr t (hq_fc_mono (by decide) (f_X12_wrong_fw hs12))
        cases h
        exact t
      · rw [if_neg c11] at h
        cases h
        exact t
    · rw [if_neg c8] at h
      cases h
      exact t
  exact hq_fc_tr t (f_X12_laneLine_L66_fw h)
def w_X12_beatLine : List (Nat × Option Nat) := [(174, some 24), (174, some 25), (174, some 26), (174, some 27), (174, some 28), (174, some 29), (185, none), (186, none)]
theorem f_X12_beatLine_L46_B_fw {n : Nat} {a1 : Int32} {a2 : Int32} {a3 : Int32} {q46 : Int32 → Int32 → Int32 → hq_S → Option hq_S} {s : hq_S} {y : hq_S} (e46 : ∀ (a1 : Int32) (a2 : Int32) (a3 : Int32) (o4 : Option Value) (s : hq_S), q46 a1 a2 a3 s = some y → hq_fc w_X12_beatLine s y) (h : f_X12_beatLine_L46_B n q46 a1 a2 a3 s = some y) : hq_fc w_X12_beatLine s y := by
  unfold f_X12_beatLine_L46_B at h
  have t := hq_fc_rf w_X12_beatLine s
  by_cases c9 : (hq_gi s 174 28) = 0
  · rw [if_pos c9] at h
    by_cases c10 : a3 = 0
    · rw [if_pos c10] at h
      have h := Option.some.inj h
      subst h
      exact t
    · rw [if_neg c10] at h
      obtain ⟨z11, hz11, h⟩ := hq_bind h
      have t : hq_fc w_X12_beatLine s z11 := by
        clear h
        have h := hz11
        by_cases c12 : a2 = (8 : Int32)
        · rw [if_pos c12] at h
          obtain ⟨s13, hs13, h⟩ := hq_bind h
          have t := hq_fc_tr t (hq_fc_mono (by decide) (f_X12_wrong_fw hs13))
          cases h
          exact t
        · rw [if_neg c12] at h
          cases h
          exact t
      obtain ⟨y14, hy14, h⟩ := hq_bind h
      have t := hq_fc_tr t (hq_fc_mono (by decide) (f_X12_cornerAhead_fw hy14))
      by_cases c15 : (hq_gi y14.2 174 28) = 0
      · rw [if_pos c15] at h
        obtain ⟨s16, hs16, h⟩ := hq_bind h
        have t := hq_fc_tr t (hq_fc_st hs16 (by decide))
        obtain ⟨s17, hs17, h⟩ := hq_bind h
        have t := hq_fc_tr t (hq_fc_st hs17 (by decide))
        obtain ⟨z18, hz18, h⟩ := hq_bind h
        exact hq_fc_tr t (e46 a1 (a2 + (1 : Int32)) z18 none s17 h)
      · rw [if_neg c15] at h
        have h := Option.some.inj h
        subst h
        exact t
  · rw [if_neg c9] at h
    have h := Option.some.inj h
    subst h
    exact t
theorem f_X12_beatLine_L46_fw {n m : Nat} {a1 : Int32} {a2 : Int32} {a3 : Int32} {s : hq_S} {y : hq_S} (h : f_X12_beatLine_L46 n m a1 a2 a3 s = some y) : hq_fc w_X12_beatLine s y := by
  induction m generalizing a1 a2 a3 s with
  | zero => cases h
  | succ m ih => exact f_X12_beatLine_L46_B_fw (n := n) (a1 := a1) (a2 := a2) (a3 := a3) (q46 := f_X12_beatLine_L46 n m) (fun a1 a2 a3 _ s h => ih h) h
theorem f_X12_beatLine_fw {n : Nat} {s : hq_S} {y : hq_S} (h : f_X12_beatLine n s = some y) : hq_fc w_X12_beatLine s y := by
  unfold f_X12_beatLine at h
  have t := hq_fc_rf w_X12_beatLine s
  obtain ⟨y1, hy1, h⟩ := hq_bind h
  have t := hq_fc_tr t (hq_fc_mono (by decide) (f_X12_fresher_fw hy1))
  obtain ⟨y2, hy2, h⟩ := hq_bind h
  have t := hq_fc_tr t (hq_fc_mono (by decide) (f_X12_atHand_fw hy2))
  obtain ⟨z3, hz3, h⟩ := hq_bind h
  have t : hq_fc w_X12_beatLine s z3 := by
    clear h
    have h := hz3
    by_cases c4 : (hq_gi y2.2 174 28) = 0
    · rw [if_pos c4] at h
      obtain ⟨x5, hx5, h⟩ := hq_bind h
      by_cases c6 : 0 < x5
      · rw [if_pos c6] at h
        obtain ⟨s7, hs7, h⟩ := hq_bind h
        have t := hq_fc_tr t (hq_fc_mono (by decide) (f_X12_wrong_fw hs7))
        cases h
        exact t
      · rw [if_neg c6] at h
        cases h
        exact t
    · rw [if_neg c4] at h
      cases h
      exact t
  obtain ⟨s8, hs8, h⟩ := hq_bind h
  have t := hq_fc_tr t (hq_fc_mono (by decide) (f_X12_goOn_fw hs8))
  exact hq_fc_tr t (f_X12_beatLine_L46_fw h)
def w_X12_knot : List (Nat × Option Nat) := [(174, some 28), (174, some 29), (174, some 33)]
theorem f_X12_knot_fw {n : Nat} {s : hq_S} {y : hq_S} (h : f_X12_knot n s = some y) : hq_fc w_X12_knot s y := by
  unfold f_X12_knot at h
  have t := hq_fc_rf w_X12_knot s
  by_cases c1 : (hq_gi s 174 28) = 0
  · rw [if_pos c1] at h
    by_cases c2 : (hq_gi s 174 33) = (64 : Int32)
    · rw [if_pos c2] at h
      obtain ⟨s4, hs4, h⟩ := hq_bind h
      have t := hq_fc_tr t (hq_fc_mono (by decide) (f_X12_wrong_fw hs4))
      have h := Option.some.inj h
      subst h
      exact t
    · rw [if_neg c2] at h
      obtain ⟨s3, hs3, h⟩ := hq_bind h
      have t := hq_fc_tr t (hq_fc_pi hs3 (by decide))
      have h := Option.some.inj h
      subst h
      exact t
  · rw [if_neg c1] at h
    have h := Option.some.inj h
    subst h
    exact t
def w_X12_puts : List (Nat × Option Nat) := [(176, none), (192, none), (193, none)]
theorem f_X12_puts_fw {n : Nat} {a1 : Int32} {a2 : Int32} {s : hq_S} {y : hq_S} (h : f_X12_puts n a1 a2 s = some y) : hq_fc w_X12_puts s y := by
  unfold f_X12_puts at h
  have t := hq_fc_rf w_X12_puts s
  by_cases c1 : (hq_gi s 174 28) = 0
  · rw [if_pos c1] at h
    obtain ⟨y2, hy2, h⟩ := hq_bind h
    have t := hq_fc_tr t (hq_fc_mono (by decide) (f_X12_fresher_fw hy2))
    obtain ⟨s3, hs3, h⟩ := hq_bind h
    have t := hq_fc_tr t (hq_fc_st hs3 (by decide))
    obtain ⟨y4, hy4, h⟩ := hq_bind h
    have t := hq_fc_tr t (hq_fc_mono (by decide) (f_X12_fresher_fw hy4))
    obtain ⟨s5, hs5, h⟩ := hq_bind h
    have t := hq_fc_tr t (hq_fc_st hs5 (by decide))
    obtain ⟨y6, hy6, h⟩ := hq_bind h
    have t := hq_fc_tr t (hq_fc_mono (by decide) (f_X12_fresher_fw hy6))
    obtain ⟨s7, hs7, h⟩ := hq_bind h
    have t := hq_fc_tr t (hq_fc_mono (by decide) (f_X12_reads_fw hs7))
    have h := Option.some.inj h
    subst h
    exact t
  · rw [if_neg c1] at h
    have h := Option.some.inj h
    subst h
    exact t
def w_X12_expression : List (Nat × Option Nat) := [(174, some 24), (174, some 25), (174, some 26), (174, some 27), (174, some 28), (174, some 29), (174, some 32), (174, some 33), (176, none), (192, none), (193, none)]
theorem f_X12_expression_L4_B_fw {n : Nat} {R0 : hq_S → Option hq_S} {R1 : hq_S → Option hq_S} {R2 : hq_S → Option hq_S} {R3 : hq_S → Option hq_S} {R4 : hq_S → Option hq_S} {R5 : hq_S → Option hq_S} {q4 : hq_S → Option hq_S} {s : hq_S} {y : hq_S} (E0 : ∀ (s : hq_S) (y : hq_S), R0 s = some y → hq_fc w_X12_expression s y) (E1 : ∀ (s : hq_S) (y : hq_S), R1 s = some y → hq_fc w_X12_expression s y) (E2 : ∀ (s : hq_S) (y : hq_S), R2 s = some y → hq_fc w_X12_expression s y) (E3 : ∀ (s : hq_S) (y : hq_S), R3 s = some y → hq_fc w_X12_expression s y) (E4 : ∀ (s : hq_S) (y : hq_S), R4 s = some y → hq_fc w_X12_expression s y) (E5 : ∀ (s : hq_S) (y : hq_S), R5 s = some y → hq_fc w_X12_expression s y) (e4 : ∀ (s : hq_S), q4 s = some y → hq_fc w_X12_expression s y) (h : f_X12_expression_L4_B n R0 R1 R2 R3 R4 R5 q4 s = some y) : hq_fc w_X12_expression s y := by
  unfold f_X12_expression_L4_B at h
  have t := hq_fc_rf w_X12_expression s
  obtain ⟨y2, hy2, h⟩ := hq_bind h
  have t := hq_fc_tr t (hq_fc_mono (by decide) (f_X12_isWord_fw hy2))
  by_cases c3 : y2.1 = 0
  · rw [if_pos c3] at h
    have h := Option.some.inj h
    subst h
    exact t
  · rw [if_neg c3] at h
    obtain ⟨s4, hs4, h⟩ := hq_bind h
    have t := hq_fc_tr t (hq_fc_mono (by decide) (f_X12_knot_fw hs4))
    obtain ⟨s5, hs5, h⟩ := hq_bind h
    have t := hq_fc_tr t (hq_fc_mono (by decide) (f_X12_goOn_fw hs5))
    obtain ⟨s6, hs6, h⟩ := hq_bind h
    have t := hq_fc_tr t (E1 _ _ hs6)
    obtain ⟨s7, hs7, h⟩ := hq_bind h
    have t := hq_fc_tr t (hq_fc_mono (by decide) (f_X12_puts_fw hs7))
    exact hq_fc_tr t (e4 s7 h)
theorem f_X12_expression_L4_fw {n m : Nat} {R0 : hq_S → Option hq_S} {R1 : hq_S → Option hq_S} {R2 : hq_S → Option hq_S} {R3 : hq_S → Option hq_S} {R4 : hq_S → Option hq_S} {R5 : hq_S → Option hq_S} {s : hq_S} {y : hq_S} (E0 : ∀ (s : hq_S) (y : hq_S), R0 s = some y → hq_fc w_X12_expression s y) (E1 : ∀ (s : hq_S) (y : hq_S), R1 s = some y → hq_fc w_X12_expression s y) (E2 : ∀ (s : hq_S) (y : hq_S), R2 s = some y → hq_fc w_X12_expression s y) (E3 : ∀ (s : hq_S) (y : hq_S), R3 s = some y → hq_fc w_X12_expression s y) (E4 : ∀ (s : hq_S) (y : hq_S), R4 s = some y → hq_fc w_X12_expression s y) (E5 : ∀ (s : hq_S) (y : hq_S), R5 s = some y → hq_fc w_X12_expression s y) (h : f_X12_expression_L4 n R0 R1 R2 R3 R4 R5 m s = some y) : hq_fc w_X12_expression s y := by
  induction m generalizing s with
  | zero => cases h
  | succ m ih => exact f_X12_expression_L4_B_fw (n := n) (q4 := f_X12_expression_L4 n R0 R1 R2 R3 R4 R5 m) E0 E1 E2 E3 E4 E5 (fun s h => ih h) h
theorem f_X12_expression_S_fw {n : Nat} {R0 : hq_S → Option hq_S} {R1 : hq_S → Option hq_S} {R2 : hq_S → Option hq_S} {R3 : hq_S → Option hq_S} {R4 : hq_S → Option hq_S} {R5 : hq_S → Option hq_S} {s : hq_S} {y : hq_S} (E0 : ∀ (s : hq_S) (y : hq_S), R0 s = some y → hq_fc w_X12_expression s y) (E1 : ∀ (s : hq_S) (y : hq_S), R1 s = some y → hq_fc w_X12_expression s y) (E2 : ∀ (s : hq_S) (y : hq_S), R2 s = some y → hq_fc w_X12_expression s y) (E3 : ∀ (s : hq_S) (y : hq_S), R3 s = some y → hq_fc w_X12_expression s y) (E4 : ∀ (s : hq_S) (y : hq_S), R4 s = some y → hq_fc w_X12_expression s y) (E5 : ∀ (s : hq_S) (y : hq_S), R5 s = some y → hq_fc w_X12_expression s y) (h : f_X12_expression_S n R0 R1 R2 R3 R4 R5 s = some y) : hq_fc w_X12_expression s y := by
  unfold f_X12_expression_S at h
  have t := hq_fc_rf w_X12_expression s
  obtain ⟨s1, hs1, h⟩ := hq_bind h
  have t := hq_fc_tr t (E1 _ _ hs1)
  exact hq_fc_tr t (f_X12_expression_L4_fw E0 E1 E2 E3 E4 E5 h)
theorem f_X12_conjunction_L4_B_fw {n : Nat} {R0 : hq_S → Option hq_S} {R1 : hq_S → Option hq_S} {R2 : hq_S → Option hq_S} {R3 : hq_S → Option hq_S} {R4 : hq_S → Option hq_S} {R5 : hq_S → Option hq_S} {q4 : hq_S → Option hq_S} {s : hq_S} {y : hq_S} (E0 : ∀ (s : hq_S) (y : hq_S), R0 s = some y → hq_fc w_X12_expression s y) (E1 : ∀ (s : hq_S) (y : hq_S), R1 s = some y → hq_fc w_X12_expression s y) (E2 : ∀ (s : hq_S) (y : hq_S), R2 s = some y → hq_fc w_X12_expression s y) (E3 : ∀ (s : hq_S) (y : hq_S), R3 s = some y → hq_fc w_X12_expression s y) (E4 : ∀ (s : hq_S) (y : hq_S), R4 s = some y → hq_fc w_X12_expression s y) (E5 : ∀ (s : hq_S) (y : hq_S), R5 s = some y → hq_fc w_X12_expression s y) (e4 : ∀ (s : hq_S), q4 s = some y → hq_fc w_X12_expression s y) (h : f_X12_conjunction_L4_B n R0 R1 R2 R3 R4 R5 q4 s = some y) : hq_fc w_X12_expression s y := by
  unfold f_X12_conjunction_L4_B at h
  have t := hq_fc_rf w_X12_expression s
  obtain ⟨y2, hy2, h⟩ := hq_bind h
  have t := hq_fc_tr t (hq_fc_mono (by decide) (f_X12_isWord_fw hy2))
  by_cases c3 : y2.1 = 0
  · rw [if_pos c3] at h
    have h := Option.some.inj h
    subst h
    exact t
  · rw [if_neg c3] at h
    obtain ⟨s4, hs4, h⟩ := hq_bind h
    have t := hq_fc_tr t (hq_fc_mono (by decide) (f_X12_knot_fw hs4))
    obtain ⟨s5, hs5, h⟩ := hq_bind h
    have t := hq_fc_tr t (hq_fc_mono (by decide) (f_X12_goOn_fw hs5))
    obtain ⟨s6, hs6, h⟩ := hq_bind h
    have t := hq_fc_tr t (E2 _ _ hs6)
    obtain ⟨s7, hs7, h⟩ := hq_bind h
    have t := hq_fc_tr t (hq_fc_mono (by decide) (f_X12_puts_fw hs7))
    exact hq_fc_tr t (e4 s7 h)
theorem f_X12_conjunction_L4_fw {n m : Nat} {R0 : hq_S → Option hq_S} {R1 : hq_S → Option hq_S} {R2 : hq_S → Option hq_S} {R3 : hq_S → Option hq_S} {R4 : hq_S → Option hq_S} {R5 : hq_S → Option hq_S} {s : hq_S} {y : hq_S} (E0 : ∀ (s : hq_S) (y : hq_S), R0 s = some y → hq_fc w_X12_expression s y) (E1 : ∀ (s : hq_S) (y : hq_S), R1 s = some y → hq_fc w_X12_expression s y) (E2 : ∀ (s : hq_S) (y : hq_S), R2 s = some y → hq_fc w_X12_expression s y) (E3 : ∀ (s : hq_S) (y : hq_S), R3 s = some y → hq_fc w_X12_expression s y) (E4 : ∀ (s : hq_S) (y : hq_S), R4 s = some y → hq_fc w_X12_expression s y) (E5 : ∀ (s : hq_S) (y : hq_S), R5 s = some y → hq_fc w_X12_expression s y) (h : f_X12_conjunction_L4 n R0 R1 R2 R3 R4 R5 m s = some y) : hq_fc w_X12_expression s y := by
  induction m generalizing s with
  | zero => cases h
  | succ m ih => exact f_X12_conjunction_L4_B_fw (n := n) (q4 := f_X12_conjunction_L4 n R0 R1 R2 R3 R4 R5 m) E0 E1 E2 E3 E4 E5 (fun s h => ih h) h
theorem f_X12_conjunction_S_fw {n : Nat} {R0 : hq_S → Option hq_S} {R1 : hq_S → Option hq_S} {R2 : hq_S → Option hq_S} {R3 : hq_S → Option hq_S} {R4 : hq_S → Option hq_S} {R5 : hq_S → Option hq_S} {s : hq_S} {y : hq_S} (E0 : ∀ (s : hq_S) (y : hq_S), R0 s = some y → hq_fc w_X12_expression s y) (E1 : ∀ (s : hq_S) (y : hq_S), R1 s = some y → hq_fc w_X12_expression s y) (E2 : ∀ (s : hq_S) (y : hq_S), R2 s = some y → hq_fc w_X12_expression s y) (E3 : ∀ (s : hq_S) (y : hq_S), R3 s = some y → hq_fc w_X12_expression s y) (E4 : ∀ (s : hq_S) (y : hq_S), R4 s = some y → hq_fc w_X12_expression s y) (E5 : ∀ (s : hq_S) (y : hq_S), R5 s = some y → hq_fc w_X12_expression s y) (h : f_X12_conjunction_S n R0 R1 R2 R3 R4 R5 s = some y) : hq_fc w_X12_expression s y := by
  unfold f_X12_conjunction_S at h
  have t := hq_fc_rf w_X12_expression s
  obtain ⟨s1, hs1, h⟩ := hq_bind h
  have t := hq_fc_tr t (E2 _ _ hs1)
  exact hq_fc_tr t (f_X12_conjunction_L4_fw E0 E1 E2 E3 E4 E5 h)
theorem f_X12_negation_J87_fw {n : Nat} {R0 : hq_S → Option hq_S} {R1 : hq_S → Option hq_S} {R2 : hq_S → Option hq_S} {R3 : hq_S → Option hq_S} {R4 : hq_S → Option hq_S} {R5 : hq_S → Option hq_S} {s : hq_S} {y : hq_S} (E0 : ∀ (s : hq_S) (y : hq_S), R0 s = some y → hq_fc w_X12_expression s y) (E1 : ∀ (s : hq_S) (y : hq_S), R1 s = some y → hq_fc w_X12_expression s y) (E2 : ∀ (s : hq_S) (y : hq_S), R2 s = some y → hq_fc w_X12_expression s y) (E3 : ∀ (s : hq_S) (y : hq_S), R3 s = some y → hq_fc w_X12_expression s y) (E4 : ∀ (s : hq_S) (y : hq_S), R4 s = some y → hq_fc w_X12_expression s y) (E5 : ∀ (s : hq_S) (y : hq_S), R5 s = some y → hq_fc w_X12_expression s y) (h : f_X12_negation_J87 n R0 R1 R2 R3 R4 R5 s = some y) : hq_fc w_X12_expression s y := by
  unfold f_X12_negation_J87 at h
  have t := hq_fc_rf w_X12_expression s
  obtain ⟨s7, hs7, h⟩ := hq_bind h
  have t := hq_fc_tr t (hq_fc_mono (by decide) (f_X12_knot_fw hs7))
  obtain ⟨s8, hs8, h⟩ := hq_bind h
  have t := hq_fc_tr t (hq_fc_mono (by decide) (f_X12_goOn_fw hs8))
  obtain ⟨s9, hs9, h⟩ := hq_bind h
  have t := hq_fc_tr t (E3 _ _ hs9)
  obtain ⟨s10, hs10, h⟩ := hq_bind h
  have t := hq_fc_tr t (hq_fc_mono (by decide) (f_X12_puts_fw hs10))
  have h := Option.some.inj h
  subst h
  exact t
theorem f_X12_negation_S_fw {n : Nat} {R0 : hq_S → Option hq_S} {R1 : hq_S → Option hq_S} {R2 : hq_S → Option hq_S} {R3 : hq_S → Option hq_S} {R4 : hq_S → Option hq_S} {R5 : hq_S → Option hq_S} {s : hq_S} {y : hq_S} (E0 : ∀ (s : hq_S) (y : hq_S), R0 s = some y → hq_fc w_X12_expression s y) (E1 : ∀ (s : hq_S) (y : hq_S), R1 s = some y → hq_fc w_X12_expression s y) (E2 : ∀ (s : hq_S) (y : hq_S), R2 s = some y → hq_fc w_X12_expression s y) (E3 : ∀ (s : hq_S) (y : hq_S), R3 s = some y → hq_fc w_X12_expression s y) (E4 : ∀ (s : hq_S) (y : hq_S), R4 s = some y → hq_fc w_X12_expression s y) (E5 : ∀ (s : hq_S) (y : hq_S), R5 s = some y → hq_fc w_X12_expression s y) (h : f_X12_negation_S n R0 R1 R2 R3 R4 R5 s = some y) : hq_fc w_X12_expression s y := by
  unfold f_X12_negation_S at h
  have t := hq_fc_rf w_X12_expression s
  obtain ⟨y1, hy1, h⟩ := hq_bind h
  have t := hq_fc_tr t (hq_fc_mono (by decide) (f_X12_isWord_fw hy1))
  by_cases c2 : y1.1 = 0
  · rw [if_pos c2] at h
    obtain ⟨s3, hs3, h⟩ := hq_bind h
    have t := hq_fc_tr t (E3 _ _ hs3)
    by_cases c4 : (hq_gi s3 174 28) = 0
    · rw [if_pos c4] at h
      by_cases c5 : (hq_gi s3 174 26) = (3 : Int32)
      · rw [if_pos c5] at h
        by_cases c6 : (hq_gi s3 174 27) = (60 : Int32)
        · rw [if_pos c6] at h
          exact hq_fc_tr t (f_X12_negation_J87_fw E0 E1 E2 E3 E4 E5 h)
        · rw [if_neg c6] at h
          by_cases c11 : (hq_gi s3 174 27) = (62 : Int32)
          · rw [if_pos c11] at h
            exact hq_fc_tr t (f_X12_negation_J87_fw E0 E1 E2 E3 E4 E5 h)
          · rw [if_neg c11] at h
            by_cases c12 : (hq_gi s3 174 27) = (61 : Int32)
            · rw [if_pos c12] at h
              exact hq_fc_tr t (f_X12_negation_J87_fw E0 E1 E2 E3 E4 E5 h)
            · rw [if_neg c12] at h
              by_cases c13 : (hq_gi s3 174 27) < (256 : Int32)
              · rw [if_pos c13] at h
                have h := Option.some.inj h
                subst h
                exact t
              · rw [if_neg c13] at h
                exact hq_fc_tr t (f_X12_negation_J87_fw E0 E1 E2 E3 E4 E5 h)
      · rw [if_neg c5] at h
        have h := Option.some.inj h
        subst h
        exact t
    · rw [if_neg c4] at h
      have h := Option.some.inj h
      subst h
      exact t
  · rw [if_neg c2] at h
    obtain ⟨s14, hs14, h⟩ := hq_bind h
    have t := hq_fc_tr t (hq_fc_mono (by decide) (f_X12_knot_fw hs14))
    obtain ⟨s15, hs15, h⟩ := hq_bind h
    have t := hq_fc_tr t (hq_fc_mono (by decide) (f_X12_goOn_fw hs15))
    obtain ⟨s16, hs16, h⟩ := hq_bind h
    have t := hq_fc_tr t (E2 _ _ hs16)
    obtain ⟨s17, hs17, h⟩ := hq_bind h
    have t := hq_fc_tr t (hq_fc_mono (by decide) (f_X12_puts_fw hs17))
    have h := Option.some.inj h
    subst h
    exact t
theorem f_X12_sum_J22_fw {n : Nat} {R0 : hq_S → Option hq_S} {R1 : hq_S → Option hq_S} {R2 : hq_S → Option hq_S} {R3 : hq_S → Option hq_S} {R4 : hq_S → Option hq_S} {R5 : hq_S → Option hq_S} {q4 : hq_S → Option hq_S} {s : hq_S} {y : hq_S} (E0 : ∀ (s : hq_S) (y : hq_S), R0 s = some y → hq_fc w_X12_expression s y) (E1 : ∀ (s : hq_S) (y : hq_S), R1 s = some y → hq_fc w_X12_expression s y) (E2 : ∀ (s : hq_S) (y : hq_S), R2 s = some y → hq_fc w_X12_expression s y) (E3 : ∀ (s : hq_S) (y : hq_S), R3 s = some y → hq_fc w_X12_expression s y) (E4 : ∀ (s : hq_S) (y : hq_S), R4 s = some y → hq_fc w_X12_expression s y) (E5 : ∀ (s : hq_S) (y : hq_S), R5 s = some y → hq_fc w_X12_expression s y) (e4 : ∀ (o1 : Option Value) (s : hq_S), q4 s = some y → hq_fc w_X12_expression s y) (h : f_X12_sum_J22 n R0 R1 R2 R3 R4 R5 q4 s = some y) : hq_fc w_X12_expression s y := by
  unfold f_X12_sum_J22 at h
  have t := hq_fc_rf w_X12_expression s
  obtain ⟨s4, hs4, h⟩ := hq_bind h
  have t := hq_fc_tr t (hq_fc_mono (by decide) (f_X12_knot_fw hs4))
  obtain ⟨s5, hs5, h⟩ := hq_bind h
  have t := hq_fc_tr t (hq_fc_mono (by decide) (f_X12_goOn_fw hs5))
  obtain ⟨s6, hs6, h⟩ := hq_bind h
  have t := hq_fc_tr t (E4 _ _ hs6)
  obtain ⟨s7, hs7, h⟩ := hq_bind h
  have t := hq_fc_tr t (hq_fc_mono (by decide) (f_X12_puts_fw hs7))
  exact hq_fc_tr t (e4 none s7 h)
theorem f_X12_sum_L4_B_fw {n : Nat} {R0 : hq_S → Option hq_S} {R1 : hq_S → Option hq_S} {R2 : hq_S → Option hq_S} {R3 : hq_S → Option hq_S} {R4 : hq_S → Option hq_S} {R5 : hq_S → Option hq_S} {q4 : hq_S → Option hq_S} {s : hq_S} {y : hq_S} (E0 : ∀ (s : hq_S) (y : hq_S), R0 s = some y → hq_fc w_X12_expression s y) (E1 : ∀ (s : hq_S) (y : hq_S), R1 s = some y → hq_fc w_X12_expression s y) (E2 : ∀ (s : hq_S) (y : hq_S), R2 s = some y → hq_fc w_X12_expression s y) (E3 : ∀ (s : hq_S) (y : hq_S), R3 s = some y → hq_fc w_X12_expression s y) (E4 : ∀ (s : hq_S) (y : hq_S), R4 s = some y → hq_fc w_X12_expression s y) (E5 : ∀ (s : hq_S) (y : hq_S), R5 s = some y → hq_fc w_X12_expression s y) (e4 : ∀ (o1 : Option Value) (s : hq_S), q4 s = some y → hq_fc w_X12_expression s y) (h : f_X12_sum_L4_B n R0 R1 R2 R3 R4 R5 q4 s = some y) : hq_fc w_X12_expression s y := by
  unfold f_X12_sum_L4_B at h
  have t := hq_fc_rf w_X12_expression s
  obtain ⟨y2, hy2, h⟩ := hq_bind h
  have t := hq_fc_tr t (hq_fc_mono (by decide) (f_X12_isSign_fw hy2))
  by_cases c3 : y2.1 = 0
  · rw [if_pos c3] at h
    obtain ⟨y8, hy8, h⟩ := hq_bind h
    have t := hq_fc_tr t (hq_fc_mono (by decide) (f_X12_isSign_fw hy8))
    by_cases c9 : y8.1 = 0
    · rw [if_pos c9] at h
      have h := Option.some.inj h
      subst h
      exact t
    · rw [if_neg c9] at h
      exact hq_fc_tr t (f_X12_sum_J22_fw E0 E1 E2 E3 E4 E5 e4 h)
  · rw [if_neg c3] at h
    exact hq_fc_tr t (f_X12_sum_J22_fw E0 E1 E2 E3 E4 E5 e4 h)
theorem f_X12_sum_L4_fw {n m : Nat} {R0 : hq_S → Option hq_S} {R1 : hq_S → Option hq_S} {R2 : hq_S → Option hq_S} {R3 : hq_S → Option hq_S} {R4 : hq_S → Option hq_S} {R5 : hq_S → Option hq_S} {s : hq_S} {y : hq_S} (E0 : ∀ (s : hq_S) (y : hq_S), R0 s = some y → hq_fc w_X12_expression s y) (E1 : ∀ (s : hq_S) (y : hq_S), R1 s = some y → hq_fc w_X12_expression s y) (E2 : ∀ (s : hq_S) (y : hq_S), R2 s = some y → hq_fc w_X12_expression s y) (E3 : ∀ (s : hq_S) (y : hq_S), R3 s = some y → hq_fc w_X12_expression s y) (E4 : ∀ (s : hq_S) (y : hq_S), R4 s = some y → hq_fc w_X12_expression s y) (E5 : ∀ (s : hq_S) (y : hq_S), R5 s = some y → hq_fc w_X12_expression s y) (h : f_X12_sum_L4 n R0 R1 R2 R3 R4 R5 m s = some y) : hq_fc w_X12_expression s y := by
  induction m generalizing s with
  | zero => cases h
  | succ m ih => exact f_X12_sum_L4_B_fw (n := n) (q4 := f_X12_sum_L4 n R0 R1 R2 R3 R4 R5 m) E0 E1 E2 E3 E4 E5 (fun _ s h => ih h) h
theorem f_X12_sum_S_fw {n : Nat} {R0 : hq_S → Option hq_S} {R1 : hq_S → Option hq_S} {R2 : hq_S → Option hq_S} {R3 : hq_S → Option hq_S} {R4 : hq_S → Option hq_S} {R5 : hq_S → Option hq_S} {s : hq_S} {y : hq_S} (E0 : ∀ (s : hq_S) (y : hq_S), R0 s = some y → hq_fc w_X12_expression s y) (E1 : ∀ (s : hq_S) (y : hq_S), R1 s = some y → hq_fc w_X12_expression s y) (E2 : ∀ (s : hq_S) (y : hq_S), R2 s = some y → hq_fc w_X12_expression s y) (E3 : ∀ (s : hq_S) (y : hq_S), R3 s = some y → hq_fc w_X12_expression s y) (E4 : ∀ (s : hq_S) (y : hq_S), R4 s = some y → hq_fc w_X12_expression s y) (E5 : ∀ (s : hq_S) (y : hq_S), R5 s = some y → hq_fc w_X12_expression s y) (h : f_X12_sum_S n R0 R1 R2 R3 R4 R5 s = some y) : hq_fc w_X12_expression s y := by
  unfold f_X12_sum_S at h
  have t := hq_fc_rf w_X12_expression s
  obtain ⟨s1, hs1, h⟩ := hq_bind h
  have t := hq_fc_tr t (E4 _ _ hs1)
  exact hq_fc_tr t (f_X12_sum_L4_fw E0 E1 E2 E3 E4 E5 h)
theorem f_X12_product_J22_fw {n : Nat} {R0 : hq_S → Option hq_S} {R1 : hq_S → Option hq_S} {R2 : hq_S → Option hq_S} {R3 : hq_S → Option hq_S} {R4 : hq_S → Option hq_S} {R5 : hq_S → Option hq_S} {q4 : hq_S → Option hq_S} {s : hq_S} {y : hq_S} (E0 : ∀ (s : hq_S) (y : hq_S), R0 s = some y → hq_fc w_X12_expression s y) (E1 : ∀ (s : hq_S) (y : hq_S), R1 s = some y → hq_fc w_X12_expression s y) (E2 : ∀ (s : hq_S) (y : hq_S), R2 s = some y → hq_fc w_X12_expression s y) (E3 : ∀ (s : hq_S) (y : hq_S), R3 s = some y → hq_fc w_X12_expression s y) (E4 : ∀ (s : hq_S) (y : hq_S), R4 s = some y → hq_fc w_X12_expression s y) (E5 : ∀ (s : hq_S) (y : hq_S), R5 s = some y → hq_fc w_X12_expression s y) (e4 : ∀ (o1 : Option Value) (s : hq_S), q4 s = some y → hq_fc w_X12_expression s y) (h : f_X12_product_J22 n R0 R1 R2 R3 R4 R5 q4 s = some y) : hq_fc w_X12_expression s y := by
  unfold f_X12_product_J22 at h
  have t := hq_fc_rf w_X12_expression s
  obtain ⟨s4, hs4, h⟩ := hq_bind h
  have t := hq_fc_tr t (hq_fc_mono (by decide) (f_X12_knot_fw hs4))
  obtain ⟨s5, hs5, h⟩ := hq_bind h
  have t := hq_fc_tr t (hq_fc_mono (by decide) (f_X12_goOn_fw hs5))
  obtain ⟨s6, hs6, h⟩ := hq_bind h
  have t := hq_fc_tr t (E5 _ _ hs6)
  obtain ⟨s7, hs7, h⟩ := hq_bind h
  have t := hq_fc_tr t (hq_fc_mono (by decide) (f_X12_puts_fw hs7))
  exact hq_fc_tr t (e4 none s7 h)
theorem f_X12_product_L4_B_fw {n : Nat} {R0 : hq_S → Option hq_S} {R1 : hq_S → Option hq_S} {R2 : hq_S → Option hq_S} {R3 : hq_S → Option hq_S} {R4 : hq_S → Option hq_S} {R5 : hq_S → Option hq_S} {q4 : hq_S → Option hq_S} {s : hq_S} {y : hq_S} (E0 : ∀ (s : hq_S) (y : hq_S), R0 s = some y → hq_fc w_X12_expression s y) (E1 : ∀ (s : hq_S) (y : hq_S), R1 s = some y → hq_fc w_X12_expression s y) (E2 : ∀ (s : hq_S) (y : hq_S), R2 s = some y → hq_fc w_X12_expression s y) (E3 : ∀ (s : hq_S) (y : hq_S), R3 s = some y → hq_fc w_X12_expression s y) (E4 : ∀ (s : hq_S) (y : hq_S), R4 s = some y → hq_fc w_X12_expression s y) (E5 : ∀ (s : hq_S) (y : hq_S), R5 s = some y → hq_fc w_X12_expression s y) (e4 : ∀ (o1 : Option Value) (s : hq_S), q4 s = some y → hq_fc w_X12_expression s y) (h : f_X12_product_L4_B n R0 R1 R2 R3 R4 R5 q4 s = some y) : hq_fc w_X12_expression s y := by
  unfold f_X12_product_L4_B at h
  have t := hq_fc_rf w_X12_expression s
  obtain ⟨y2, hy2, h⟩ := hq_bind h
  have t := hq_fc_tr t (hq_fc_mono (by decide) (f_X12_isSign_fw hy2))
  by_cases c3 : y2.1 = 0
  · rw [if_pos c3] at h
    obtain ⟨y8, hy8, h⟩ := hq_bind h
    have t := hq_fc_tr t (hq_fc_mono (by decide) (f_X12_isSign_fw hy8))
    by_cases c9 : y8.1 = 0
    · rw [if_pos c9] at h
      have h := Option.some.inj h
      subst h
      exact t
    · rw [if_neg c9] at h
      exact hq_fc_tr t (f_X12_product_J22_fw E0 E1 E2 E3 E4 E5 e4 h)
  · rw [if_neg c3] at h
    exact hq_fc_tr t (f_X12_product_J22_fw E0 E1 E2 E3 E4 E5 e4 h)
theorem f_X12_product_L4_fw {n m : Nat} {R0 : hq_S → Option hq_S} {R1 : hq_S → Option hq_S} {R2 : hq_S → Option hq_S} {R3 : hq_S → Option hq_S} {R4 : hq_S → Option hq_S} {R5 : hq_S → Option hq_S} {s : hq_S} {y : hq_S} (E0 : ∀ (s : hq_S) (y : hq_S), R0 s = some y → hq_fc w_X12_expression s y) (E1 : ∀ (s : hq_S) (y : hq_S), R1 s = some y → hq_fc w_X12_expression s y) (E2 : ∀ (s : hq_S) (y : hq_S), R2 s = some y → hq_fc w_X12_expression s y) (E3 : ∀ (s : hq_S) (y : hq_S), R3 s = some y → hq_fc w_X12_expression s y) (E4 : ∀ (s : hq_S) (y : hq_S), R4 s = some y → hq_fc w_X12_expression s y) (E5 : ∀ (s : hq_S) (y : hq_S), R5 s = some y → hq_fc w_X12_expression s y) (h : f_X12_product_L4 n R0 R1 R2 R3 R4 R5 m s = some y) : hq_fc w_X12_expression s y := by
  induction m generalizing s with
  | zero => cases h
  | succ m ih => exact f_X12_product_L4_B_fw (n := n) (q4 := f_X12_product_L4 n R0 R1 R2 R3 R4 R5 m) E0 E1 E2 E3 E4 E5 (fun _ s h => ih h) h
theorem f_X12_product_S_fw {n : Nat} {R0 : hq_S → Option hq_S} {R1 : hq_S → Option hq_S} {R2 : hq_S → Option hq_S} {R3 : hq_S → Option hq_S} {R4 : hq_S → Option hq_S} {R5 : hq_S → Option hq_S} {s : hq_S} {y : hq_S} (E0 : ∀ (s : hq_S) (y : hq_S), R0 s = some y → hq_fc w_X12_expression s y) (E1 : ∀ (s : hq_S) (y : hq_S), R1 s = some y → hq_fc w_X12_expression s y) (E2 : ∀ (s : hq_S) (y : hq_S), R2 s = some y → hq_fc w_X12_expression s y) (E3 : ∀ (s : hq_S) (y : hq_S), R3 s = some y → hq_fc w_X12_expression s y) (E4 : ∀ (s : hq_S) (y : hq_S), R4 s = some y → hq_fc w_X12_expression s y) (E5 : ∀ (s : hq_S) (y : hq_S), R5 s = some y → hq_fc w_X12_expression s y) (h : f_X12_product_S n R0 R1 R2 R3 R4 R5 s = some y) : hq_fc w_X12_expression s y := by
  unfold f_X12_product_S at h
  have t := hq_fc_rf w_X12_expression s
  obtain ⟨s1, hs1, h⟩ := hq_bind h
  have t := hq_fc_tr t (E5 _ _ hs1)
  exact hq_fc_tr t (f_X12_product_L4_fw E0 E1 E2 E3 E4 E5 h)
theorem f_X12_primary_S_fw {n : Nat} {R0 : hq_S → Option hq_S} {R1 : hq_S → Option hq_S} {R2 : hq_S → Option hq_S} {R3 : hq_S → Option hq_S} {R4 : hq_S → Option hq_S} {R5 : hq_S → Option hq_S} {s : hq_S} {y : hq_S} (E0 : ∀ (s : hq_S) (y : hq_S), R0 s = some y → hq_fc w_X12_expression s y) (E1 : ∀ (s : hq_S) (y : hq_S), R1 s = some y → hq_fc w_X12_expression s y) (E2 : ∀ (s : hq_S) (y : hq_S), R2 s = some y → hq_fc w_X12_expression s y) (E3 : ∀ (s : hq_S) (y : hq_S), R3 s = some y → hq_fc w_X12_expression s y) (E4 : ∀ (s : hq_S) (y : hq_S), R4 s = some y → hq_fc w_X12_expression s y) (E5 : ∀ (s : hq_S) (y : hq_S), R5 s = some y → hq_fc w_X12_expression s y) (h : f_X12_primary_S n R0 R1 R2 R3 R4 R5 s = some y) : hq_fc w_X12_expression s y := by
  unfold f_X12_primary_S at h
  have t := hq_fc_rf w_X12_expression s
  by_cases c1 : (hq_gi s 174 28) = 0
  · rw [if_pos c1] at h
    obtain ⟨y2, hy2, h⟩ := hq_bind h
    have t := hq_fc_tr t (hq_fc_mono (by decide) (f_X12_isSign_fw hy2))
    by_cases c3 : y2.1 = 0
    · rw [if_pos c3] at h
      obtain ⟨z4, hz4, h⟩ := hq_bind h
      obtain ⟨z6, hz6, h⟩ := hq_bind h
      have t : hq_fc w_X12_expression s z6 := by
        clear h
        have h := hz6
        by_cases c7 : z4 = 0
        · rw [if_pos c7] at h
          by_cases c8 : z4 = 0
          · rw [if_pos c8] at h
            by_cases c9 : (hq_gi y2.2 174 26) = 0
            · rw [if_pos c9] at h
              by_cases c11 : (hq_gi y2.2 174 27) < (15 : Int32)
              · rw [if_pos c11] at h
                obtain ⟨s12, hs12, h⟩ := hq_bind h
                have t := hq_fc_tr t (hq_fc_mono (by decide) (f_X12_wrong_fw hs12))
                cases h
                exact t
              · rw [if_neg c11] at h
                cases h
                exact t
            · rw [if_neg c9] at h
              obtain ⟨s10, hs10, h⟩ := hq_bind h
              have t := hq_fc_tr t (hq_fc_mono (by decide) (f_X12_wrong_fw hs10))
              cases h
              exact t
          · rw [if_neg c8] at h
            cases h
            exact t
        · rw [if_neg c7] at h
          by_cases c13 : (9999 : Int32) < (hq_gi y2.2 174 27)
          · rw [if_pos c13] at h
            obtain ⟨s19, hs19, h⟩ := hq_bind h
            have t := hq_fc_tr t (hq_fc_mono (by decide) (f_X12_wrong_fw hs19))
            cases h
            exact t
          · rw [if_neg c13] at h
            by_cases c14 : z4 = 0
            · rw [if_pos c14] at h
              by_cases c15 : (hq_gi y2.2 174 26) = 0
              · rw [if_pos c15] at h
                by_cases c17 : (hq_gi y2.2 174 27) < (15 : Int32)
                · rw [if_pos c17] at h
                  obtain ⟨s18, hs18, h⟩ := hq_bind h
                  have t := hq_fc_tr t (hq_fc_mono (by decide) (f_X12_wrong_fw hs18))
                  cases h
                  exact t
                · rw [if_neg c17] at h
                  cases h
                  exact t
              · rw [if_neg c15] at h
                obtain ⟨s16, hs16, h⟩ := hq_bind h
                have t := hq_fc_tr t (hq_fc_mono (by decide) (f_X12_wrong_fw hs16))
                cases h
                exact t
            · rw [if_neg c14] at h
              cases h
              exact t
      obtain ⟨s20, hs20, h⟩ := hq_bind h
      have t := hq_fc_tr t (hq_fc_mono (by decide) (f_X12_knot_fw hs20))
      obtain ⟨z21, hz21, h⟩ := hq_bind h
      obtain ⟨z23, hz23, h⟩ := hq_bind h
      obtain ⟨s25, hs25, h⟩ := hq_bind h
      have t := hq_fc_tr t (hq_fc_mono (by decide) (f_X12_puts_fw hs25))
      obtain ⟨s26, hs26, h⟩ := hq_bind h
      have t := hq_fc_tr t (hq_fc_mono (by decide) (f_X12_goOn_fw hs26))
      have h := Option.some.inj h
      subst h
      exact t
    · rw [if_neg c3] at h
      obtain ⟨z27, hz27, h⟩ := hq_bind h
      have t : hq_fc w_X12_expression s z27 := by
        clear h
        have h := hz27
        by_cases c28 : (hq_gi y2.2 174 32) = (8 : Int32)
        · rw [if_pos c28] at h
          obtain ⟨s29, hs29, h⟩ := hq_bind h
          have t := hq_fc_tr t (hq_fc_mono (by decide) (f_X12_wrong_fw hs29))
          cases h
          exact t
        · rw [if_neg c28] at h
          cases h
          exact t
      by_cases c30 : (hq_gi z27 174 28) = 0
      · rw [if_pos c30] at h
        obtain ⟨s31, hs31, h⟩ := hq_bind h
        have t := hq_fc_tr t (hq_fc_pi hs31 (by decide))
        obtain ⟨s32, hs32, h⟩ := hq_bind h
        have t := hq_fc_tr t (hq_fc_mono (by decide) (f_X12_token_fw hs32))
        obtain ⟨s33, hs33, h⟩ := hq_bind h
        have t := hq_fc_tr t (E0 _ _ hs33)
        obtain ⟨z34, hz34, h⟩ := hq_bind h
        have t : hq_fc w_X12_expression s z34 := by
          clear h
          have h := hz34
          by_cases c35 : (hq_gi s33 174 28) = 0
          · rw [if_pos c35] at h
            obtain ⟨y36, hy36, h⟩ := hq_bind h
            have t := hq_fc_tr t (hq_fc_mono (by decide) (f_X12_isSign_fw hy36))
            by_cases c37 : y36.1 = 0
            · rw [if_pos c37] at h
              obtain ⟨s38, hs38, h⟩ := hq_bind h
              have t := hq_fc_tr t (hq_fc_mono (by decide) (f_X12_wrong_fw hs38))
              cases h
              exact t
            · rw [if_neg c37] at h
              cases h
              exact t
          · rw [if_neg c35] at h
            cases h
            exact t
        by_cases c39 : (hq_gi z34 174 28) = 0
        · rw [if_pos c39] at h
          obtain ⟨s40, hs40, h⟩ := hq_bind h
          have t := hq_fc_tr t (hq_fc_pi hs40 (by decide))
          obtain ⟨s41, hs41, h⟩ := hq_bind h
          have t := hq_fc_tr t (hq_fc_mono (by decide) (f_X12_token_fw hs41))
          have h := Option.some.inj h
          subst h
          exact t
        · rw [if_neg c39] at h
          have h := Option.some.inj h
          subst h
          exact t
      · rw [if_neg c30] at h
        have h := Option.some.inj h
        subst h
        exact t
  · rw [if_neg c1] at h
    have h := Option.some.inj h
    subst h
    exact t
theorem f_X12_expression_G_fw {n : Nat} : ∀ k : Nat, (∀ (s : hq_S) (y : hq_S), f_X12_expression_G n k 0 s = some y → hq_fc w_X12_expression s y) ∧ (∀ (s : hq_S) (y : hq_S), f_X12_expression_G n k 1 s = some y → hq_fc w_X12_expression s y) ∧ (∀ (s : hq_S) (y : hq_S), f_X12_expression_G n k 2 s = some y → hq_fc w_X12_expression s y) ∧ (∀ (s : hq_S) (y : hq_S), f_X12_expression_G n k 3 s = some y → hq_fc w_X12_expression s y) ∧ (∀ (s : hq_S) (y : hq_S), f_X12_expression_G n k 4 s = some y → hq_fc w_X12_expression s y) ∧ (∀ (s : hq_S) (y : hq_S), f_X12_expression_G n k 5 s = some y → hq_fc w_X12_expression s y) := by
  intro k
  induction k with
  | zero =>
    refine ⟨?_, ?_, ?_, ?_, ?_, ?_⟩
    all_goals
      intros
      next h => cases h
  | succ k ih =>
    obtain ⟨I0, I1, I2, I3, I4, I5⟩ := ih
    refine ⟨?_, ?_, ?_, ?_, ?_, ?_⟩
    · intro s y h
      exact f_X12_expression_S_fw I0 I1 I2 I3 I4 I5 h
    · intro s y h
      exact f_X12_conjunction_S_fw I0 I1 I2 I3 I4 I5 h
    · intro s y h
      exact f_X12_negation_S_fw I0 I1 I2 I3 I4 I5 h
    · intro s y h
      exact f_X12_sum_S_fw I0 I1 I2 I3 I4 I5 h
    · intro s y h
      exact f_X12_product_S_fw I0 I1 I2 I3 I4 I5 h
    · intro s y h
      exact f_X12_primary_S_fw I0 I1 I2 I3 I4 I5 h
theorem f_X12_expression_fw {n : Nat} {s : hq_S} {y : hq_S} (h : f_X12_expression n s = some y) : hq_fc w_X12_expression s y := (f_X12_expression_G_fw 200).1 s y h
theorem f_X12_conjunction_fw {n : Nat} {s : hq_S} {y : hq_S} (h : f_X12_conjunction n s = some y) : hq_fc w_X12_expression s y := (f_X12_expression_G_fw 200).2.1 s y h
abbrev w_X12_conjunction : List (Nat × Option Nat) := w_X12_expression
theorem f_X12_negation_fw {n : Nat} {s : hq_S} {y : hq_S} (h : f_X12_negation n s = some y) : hq_fc w_X12_expression s y := (f_X12_expression_G_fw 200).2.2.1 s y h
abbrev w_X12_negation : List (Nat × Option Nat) := w_X12_expression
theorem f_X12_sum_fw {n : Nat} {s : hq_S} {y : hq_S} (h : f_X12_sum n s = some y) : hq_fc w_X12_expression s y := (f_X12_expression_G_fw 200).2.2.2.1 s y h
abbrev w_X12_sum : List (Nat × Option Nat) := w_X12_expression
theorem f_X12_product_fw {n : Nat} {s : hq_S} {y : hq_S} (h : f_X12_product n s = some y) : hq_fc w_X12_expression s y := (f_X12_expression_G_fw 200).2.2.2.2.1 s y h
abbrev w_X12_product : List (Nat × Option Nat) := w_X12_expression
theorem f_X12_primary_fw {n : Nat} {s : hq_S} {y : hq_S} (h : f_X12_primary n s = some y) : hq_fc w_X12_expression s y := (f_X12_expression_G_fw 200).2.2.2.2.2 s y h
abbrev w_X12_primary : List (Nat × Option Nat) := w_X12_expression
def w_X12_lawLine : List (Nat × Option Nat) := [(174, some 21), (174, some 24), (174, some 25), (174, some 26), (174, some 27), (174, some 28), (174, some 29), (174, some 32), (174, some 33), (176, none), (190, none), (191, none), (192, none), (193, none)]
theorem f_X12_lawLine_fw {n : Nat} {s : hq_S} {y : hq_S} (h : f_X12_lawLine n s = some y) : hq_fc w_X12_lawLine s y := by
  unfold f_X12_lawLine at h
  have t := hq_fc_rf w_X12_lawLine s
  obtain ⟨z1, hz1, h⟩ := hq_bind h
  have t : hq_fc w_X12_lawLine s z1 := by
    clear h
    have h := hz1
    by_cases c2 : (hq_gi s 174 26) = 0
    · rw [if_pos c2] at h
      by_cases c4 : (hq_gi s 174 27) < (9 : Int32)
      · rw [if_pos c4] at h
        obtain ⟨s5, hs5, h⟩ := hq_bind h
        have t := hq_fc_tr t (hq_fc_mono (by decide) (f_X12_wrong_fw hs5))
        cases h
        exact t
      · rw [if_neg c4] at h
        by_cases c6 : (11 : Int32) < (hq_gi s 174 27)
        · rw [if_pos c6] at h
          obtain ⟨s7, hs7, h⟩ := hq_bind h
          have t := hq_fc_tr t (hq_fc_mono (by decide) (f_X12_wrong_fw hs7))
          cases h
          exact t
        · rw [if_neg c6] at h
          cases h
          exact t
    · rw [if_neg c2] at h
      obtain ⟨s3, hs3, h⟩ := hq_bind h
      have t := hq_fc_tr t (hq_fc_mono (by decide) (f_X12_wrong_fw hs3))
      cases h
      exact t
  obtain ⟨z8, hz8, h⟩ := hq_bind h
  have t : hq_fc w_X12_lawLine s z8 := by
    clear h
    have h := hz8
    by_cases c9 : (hq_gi z1 174 28) = 0
    · rw [if_pos c9] at h
      by_cases c10 : (((hq_gi z1 174 21) >>> (((16 : Int32) + ((hq_gi z1 174 27) - (9 : Int32))) &&& 31)) &&& (1 : Int32)) = (1 : Int32)
      · rw [if_pos c10] at h
        obtain ⟨s11, hs11, h⟩ := hq_bind h
        have t := hq_fc_tr t (hq_fc_mono (by decide) (f_X12_wrong_fw hs11))
        cases h
        exact t
      · rw [if_neg c10] at h
        cases h
        exact t
    · rw [if_neg c9] at h
      cases h
      exact t
  by_cases c12 : (hq_gi z8 174 28) = 0
  · rw [if_pos c12] at h
    obtain ⟨s13, hs13, h⟩ := hq_bind h
    have t := hq_fc_tr t (hq_fc_pi hs13 (by decide))
    obtain ⟨s14, hs14, h⟩ := hq_bind h
    have t := hq_fc_tr t (hq_fc_mono (by decide) (f_X12_token_fw hs14))
    obtain ⟨y15, hy15, h⟩ := hq_bind h
    have t := hq_fc_tr t (hq_fc_mono (by decide) (f_X12_fresher_fw hy15))
    obtain ⟨s16, hs16, h⟩ := hq_bind h
    have t := hq_fc_tr t (hq_fc_st hs16 (by decide))
    obtain ⟨s17, hs17, h⟩ := hq_bind h
    have t := hq_fc_tr t (hq_fc_mono (by decide) (f_X12_expression_fw hs17))
    obtain ⟨y18, hy18, h⟩ := hq_bind h
    have t := hq_fc_tr t (hq_fc_mono (by decide) (f_X12_fresher_fw hy18))
    obtain ⟨s19, hs19, h⟩ := hq_bind h
    have t := hq_fc_tr t (hq_fc_st hs19 (by decide))
    have h := Option.some.inj h
    subst h
    exact t
  · rw [if_neg c12] at h
    have h := Option.some.inj h
    subst h
    exact t
def w_X12_line : List (Nat × Option Nat) := [(174, some 21), (174, some 22), (174, some 24), (174, some 25), (174, some 26), (174, some 27), (174, some 28), (174, some 29), (174, some 32), (174, some 33), (176, none), (177, none), (178, none), (179, none), (180, none), (181, none), (182, none), (183, none), (184, none), (185, none), (186, none), (187, none), (188, none), (189, none), (190, none), (191, none), (192, none), (193, none)]
theorem f_X12_line_J16_fw {n : Nat} {s : hq_S} {y : hq_S} (h : f_X12_line_J16 n s = some y) : hq_fc w_X12_line s y := by
  unfold f_X12_line_J16 at h
  have t := hq_fc_rf w_X12_line s
  obtain ⟨s2, hs2, h⟩ := hq_bind h
  have t := hq_fc_tr t (hq_fc_mono (by decide) (f_X12_wrong_fw hs2))
  have h := Option.some.inj h
  subst h
  exact t
theorem f_X12_line_J404_fw {n : Nat} {a1 : Int32} {s : hq_S} {y : hq_S} (h : f_X12_line_J404 n a1 s = some y) : hq_fc w_X12_line s y := by
  unfold f_X12_line_J404 at h
  have t := hq_fc_rf w_X12_line s
  by_cases c28 : (hq_gi s 174 28) = 0
  · rw [if_pos c28] at h
    obtain ⟨y29, hy29, h⟩ := hq_bind h
    have t := hq_fc_tr t (hq_fc_mono (by decide) (f_X12_isSign_fw hy29))
    obtain ⟨z30, hz30, h⟩ := hq_bind h
    have t : hq_fc w_X12_line s z30 := by
      clear h
      have h := hz30
      by_cases c31 : y29.1 = 0
      · rw [if_pos c31] at h
        obtain ⟨s33, hs33, h⟩ := hq_bind h
        have t := hq_fc_tr t (hq_fc_mono (by decide) (f_X12_wrong_fw hs33))
        cases h
        exact t
      · rw [if_neg c31] at h
        obtain ⟨s32, hs32, h⟩ := hq_bind h
        have t := hq_fc_tr t (hq_fc_mono (by decide) (f_X12_token_fw hs32))
        cases h
        exact t
    obtain ⟨s34, hs34, h⟩ := hq_bind h
    have t := hq_fc_tr t (hq_fc_pi hs34 (by decide))
    have h := Option.some.inj h
    subst h
    exact t
  · rw [if_neg c28] at h
    have h := Option.some.inj h
    subst h
    exact t
theorem f_X12_line_fw {n : Nat} {s : hq_S} {y : hq_S} (h : f_X12_line n s = some y) : hq_fc w_X12_line s y := by
  unfold f_X12_line at h
  have t := hq_fc_rf w_X12_line s
  by_cases c1 : (hq_gi s 174 26) = 0
  · rw [if_pos c1] at h
    by_cases c3 : (8 : Int32) < (hq_gi s 174 27)
    · rw [if_pos c3] at h
      exact hq_fc_tr t (f_X12_line_J16_fw h)
    · rw [if_neg c3] at h
      obtain ⟨y4, hy4, h⟩ := hq_bind h
      have t := hq_fc_tr t (hq_fc_mono (by decide) (f_X12_isFull_fw hy4))
      obtain ⟨z5, hz5, h⟩ := hq_bind h
      have t : hq_fc w_X12_line s z5 := by
        clear h
        have h := hz5
        by_cases c6 : y4.1 = 0
        · rw [if_pos c6] at h
          by_cases c7 : (hq_gi s 174 27) = (6 : Int32)
          · rw [if_pos c7] at h
            by_cases c8 : (((hq_gi y4.2 174 21) >>> ((hq_gi s 174 27) &&& 31)) &&& (1 : Int32)) = (1 : Int32)
            · rw [if_pos c8] at h
              obtain ⟨s9, hs9, h⟩ := hq_bind h
              have t := hq_fc_tr t (hq_fc_mono (by decide) (f_X12_wrong_fw hs9))
              cases h
              exact t
            · rw [if_neg c8] at h
              cases h
              exact t
          · rw [if_neg c7] at h
            by_cases c10 : (hq_gi s 174 27) = (7 : Int32)
            · rw [if_pos c10] at h
              by_cases c11 : (((hq_gi y4.2 174 21) >>> ((hq_gi s 174 27) &&& 31)) &&& (1 : Int32)) = (1 : Int32)
              · rw [if_pos c11] at h
                obtain ⟨s12, hs12, h⟩ := hq_bind h
                have t := hq_fc_tr t (hq_fc_mono (by decide) (f_X12_wrong_fw hs12))
                cases h
                exact t
              · rw [if_neg c11] at h
                cases h
                exact t
            · rw [if_neg c10] at h
              cases h
              exact t
        · rw [if_neg c6] at h
          obtain ⟨s13, hs13, h⟩ := hq_bind h
          have t := hq_fc_tr t (hq_fc_mono (by decide) (f_X12_wrong_fw hs13))
          cases h
          exact t
      by_cases c14 : (hq_gi z5 174 28) = 0
      · rw [if_pos c14] at h
        obtain ⟨s15, hs15, h⟩ := hq_bind h
        have t := hq_fc_tr t (hq_fc_pi hs15 (by decide))
        obtain ⟨s16, hs16, h⟩ := hq_bind h
        have t := hq_fc_tr t (hq_fc_mono (by decide) (f_X12_token_fw hs16))
        by_cases c17 : (hq_gi s 174 27) = (0 : Int32)
        · rw [if_pos c17] at h
          obtain ⟨y18, hy18, h⟩ := hq_bind h
          have t := hq_fc_tr t (hq_fc_mono (by decide) (f_X12_fresher_fw hy18))
          obtain ⟨y19, hy19, h⟩ := hq_bind h
          have t := hq_fc_tr t (hq_fc_mono (by decide) (f_X12_fresher_fw hy19))
          obtain ⟨y20, hy20, h⟩ := hq_bind h
          have t := hq_fc_tr t (hq_fc_mono (by decide) (f_X12_fresh_fw hy20))
          obtain ⟨s21, hs21, h⟩ := hq_bind h
          have t := hq_fc_tr t (hq_fc_st hs21 (by decide))
          obtain ⟨y22, hy22, h⟩ := hq_bind h
          have t := hq_fc_tr t (hq_fc_mono (by decide) (f_X12_numeral_fw hy22))
          obtain ⟨s23, hs23, h⟩ := hq_bind h
          have t := hq_fc_tr t (hq_fc_st hs23 (by decide))
          obtain ⟨y24, hy24, h⟩ := hq_bind h
          have t := hq_fc_tr t (hq_fc_mono (by decide) (f_X12_numeral_fw hy24))
          obtain ⟨s25, hs25, h⟩ := hq_bind h
          have t := hq_fc_tr t (hq_fc_st hs25 (by decide))
          obtain ⟨y26, hy26, h⟩ := hq_bind h
          have t := hq_fc_tr t (hq_fc_mono (by decide) (f_X12_fresher_fw hy26))
          obtain ⟨s27, hs27, h⟩ := hq_bind h
          have t := hq_fc_tr t (hq_fc_mono (by decide) (f_X12_reads_fw hs27))
          exact hq_fc_tr t (f_X12_line_J404_fw h)
        rw [if_neg c17] at h
        by_cases c35 : (hq_gi s 174 27) = (1 : Int32)
        · rw [if_pos c35] at h
          obtain ⟨z36, hz36, h⟩ := hq_bind h
          obtain ⟨s38, hs38, h⟩ := hq_bind h
          have t := hq_fc_tr t (hq_fc_mono (by decide) (f_X12_laneLine_fw hs38))
          exact hq_fc_tr t (f_X12_line_J404_fw h)
        rw [if_neg c35] at h
        by_cases c39 : (hq_gi s 174 27) = (2 : Int32)
        · rw [if_pos c39] at h
          obtain ⟨z40, hz40, h⟩ := hq_bind h
          obtain ⟨s42, hs42, h⟩ := hq_bind h
          have t := hq_fc_tr t (hq_fc_mono (by decide) (f_X12_laneLine_fw hs42))
          exact hq_fc_tr t (f_X12_line_J404_fw h)
        rw [if_neg c39] at h
        by_cases c43 : (hq_gi s 174 27) = (3 : Int32)
        · rw [if_pos c43] at h
          obtain ⟨y44, hy44, h⟩ := hq_bind h
          have t := hq_fc_tr t (hq_fc_mono (by decide) (f_X12_fresher_fw hy44))
          obtain ⟨y45, hy45, h⟩ := hq_bind h
          have t := hq_fc_tr t (hq_fc_mono (by decide) (f_X12_fresher_fw hy45))
          obtain ⟨y46, hy46, h⟩ := hq_bind h
          have t := hq_fc_tr t (hq_fc_mono (by decide) (f_X12_fresh_fw hy46))
          obtain ⟨s47, hs47, h⟩ := hq_bind h
          have t := hq_fc_tr t (hq_fc_st hs47 (by decide))
          obtain ⟨y48, hy48, h⟩ := hq_bind h
          have t := hq_fc_tr t (hq_fc_mono (by decide) (f_X12_cornerAhead_fw hy48))
          obtain ⟨s49, hs49, h⟩ := hq_bind h
          have t := hq_fc_tr t (hq_fc_st hs49 (by decide))
          obtain ⟨s50, hs50, h⟩ := hq_bind h
          have t := hq_fc_tr t (hq_fc_st hs50 (by decide))
          obtain ⟨y51, hy51, h⟩ := hq_bind h
          have t := hq_fc_tr t (hq_fc_mono (by decide) (f_X12_fresher_fw hy51))
          obtain ⟨s52, hs52, h⟩ := hq_bind h
          have t := hq_fc_tr t (hq_fc_mono (by decide) (f_X12_reads_fw hs52))
          exact hq_fc_tr t (f_X12_line_J404_fw h)
        rw [if_neg c43] at h
        by_cases c53 : (hq_gi s 174 27) = (4 : Int32)
        · rw [if_pos c53] at h
          obtain ⟨s54, hs54, h⟩ := hq_bind h
          have t := hq_fc_tr t (hq_fc_mono (by decide) (f_X12_beatLine_fw hs54))
          exact hq_fc_tr t (f_X12_line_J404_fw h)
        rw [if_neg c53] at h
        by_cases c55 : (hq_gi s 174 27) = (5 : Int32)
        · rw [if_pos c55] at h
          obtain ⟨y56, hy56, h⟩ := hq_bind h
          have t := hq_fc_tr t (hq_fc_mono (by decide) (f_X12_fresher_fw hy56))
          obtain ⟨y57, hy57, h⟩ := hq_bind h
          have t := hq_fc_tr t (hq_fc_mono (by decide) (f_X12_fresher_fw hy57))
          obtain ⟨y58, hy58, h⟩ := hq_bind h
          have t := hq_fc_tr t (hq_fc_mono (by decide) (f_X12_fresh_fw hy58))
          obtain ⟨s59, hs59, h⟩ := hq_bind h
          have t := hq_fc_tr t (hq_fc_st hs59 (by decide))
          obtain ⟨y60, hy60, h⟩ := hq_bind h
          have t := hq_fc_tr t (hq_fc_mono (by decide) (f_X12_cornerAhead_fw hy60))
          obtain ⟨s61, hs61, h⟩ := hq_bind h
          have t := hq_fc_tr t (hq_fc_st hs61 (by decide))
          obtain ⟨y62, hy62, h⟩ := hq_bind h
          have t := hq_fc_tr t (hq_fc_mono (by decide) (f_X12_numeral_fw hy62))
          obtain ⟨s63, hs63, h⟩ := hq_bind h
          have t := hq_fc_tr t (hq_fc_st hs63 (by decide))
          obtain ⟨y64, hy64, h⟩ := hq_bind h
          have t := hq_fc_tr t (hq_fc_mono (by decide) (f_X12_fresher_fw hy64))
          obtain ⟨s65, hs65, h⟩ := hq_bind h
          have t := hq_fc_tr t (hq_fc_mono (by decide) (f_X12_reads_fw hs65))
          exact hq_fc_tr t (f_X12_line_J404_fw h)
        rw [if_neg c55] at h
        by_cases c66 : (hq_gi s 174 27) = (6 : Int32)
        · rw [if_pos c66] at h
          obtain ⟨y67, hy67, h⟩ := hq_bind h
          have t := hq_fc_tr t (hq_fc_mono (by decide) (f_X12_numeral_fw hy67))
          obtain ⟨s68, hs68, h⟩ := hq_bind h
          have t := hq_fc_tr t (hq_fc_mono (by decide) (f_X12_reads_fw hs68))
          exact hq_fc_tr t (f_X12_line_J404_fw h)
        rw [if_neg c66] at h
        by_cases c69 : (hq_gi s 174 27) = (7 : Int32)
        · rw [if_pos c69] at h
          obtain ⟨y70, hy70, h⟩ := hq_bind h
          have t := hq_fc_tr t (hq_fc_mono (by decide) (f_X12_numeral_fw hy70))
          obtain ⟨s71, hs71, h⟩ := hq_bind h
          have t := hq_fc_tr t (hq_fc_mono (by decide) (f_X12_reads_fw hs71))
          exact hq_fc_tr t (f_X12_line_J404_fw h)
        rw [if_neg c69] at h
        obtain ⟨s72, hs72, h⟩ := hq_bind h
        have t := hq_fc_tr t (hq_fc_mono (by decide) (f_X12_lawLine_fw hs72))
        exact hq_fc_tr t (f_X12_line_J404_fw h)
      · rw [if_neg c14] at h
        have h := Option.some.inj h
        subst h
        exact t
  · rw [if_neg c1] at h
    exact hq_fc_tr t (f_X12_line_J16_fw h)
def w_X12_starts : List (Nat × Option Nat) := [(196, none), (197, none), (198, none), (199, none), (200, none), (201, none), (202, none), (203, none), (204, none), (205, none)]
theorem f_X12_starts_L124_B_fw {n : Nat} {a1 : Int32} {a2 : Int32} {q124 : Int32 → Int32 → hq_S → Option hq_S} {s : hq_S} {y : hq_S} (e124 : ∀ (a1 : Int32) (a2 : Int32) (s : hq_S), q124 a1 a2 s = some y → hq_fc w_X12_starts s y) (h : f_X12_starts_L124_B n q124 a1 a2 s = some y) : hq_fc w_X12_starts s y := by
  unfold f_X12_starts_L124_B at h
  have t := hq_fc_rf w_X12_starts s
  by_cases c7 : a2 < (4 : Int32)
  · rw [if_pos c7] at h
    obtain ⟨x8, hx8, h⟩ := hq_bind h
    obtain ⟨s9, hs9, h⟩ := hq_bind h
    have t := hq_fc_tr t (hq_fc_st hs9 (by decide))
    obtain ⟨s10, hs10, h⟩ := hq_bind h
    have t := hq_fc_tr t (hq_fc_st hs10 (by decide))
    obtain ⟨s11, hs11, h⟩ := hq_bind h
    have t := hq_fc_tr t (hq_fc_st hs11 (by decide))
    exact hq_fc_tr t (e124 a1 (a2 + (1 : Int32)) s11 h)
  · rw [if_neg c7] at h
    have h := Option.some.inj h
    subst h
    exact t
theorem f_X12_starts_L124_fw {n m : Nat} {a1 : Int32} {a2 : Int32} {s : hq_S} {y : hq_S} (h : f_X12_starts_L124 n m a1 a2 s = some y) : hq_fc w_X12_starts s y := by
  induction m generalizing a1 a2 s with
  | zero => cases h
  | succ m ih => exact f_X12_starts_L124_B_fw (n := n) (a1 := a1) (a2 := a2) (q124 := f_X12_starts_L124 n m) (fun a1 a2 s h => ih h) h
theorem f_X12_starts_L73_B_fw {n : Nat} {a1 : Int32} {a2 : Int32} {q73 : Int32 → Int32 → hq_S → Option hq_S} {s : hq_S} {y : hq_S} (e73 : ∀ (a1 : Int32) (a2 : Int32) (s : hq_S), q73 a1 a2 s = some y → hq_fc w_X12_starts s y) (h : f_X12_starts_L73_B n q73 a1 a2 s = some y) : hq_fc w_X12_starts s y := by
  unfold f_X12_starts_L73_B at h
  have t := hq_fc_rf w_X12_starts s
  by_cases c6 : a2 < (3 : Int32)
  · rw [if_pos c6] at h
    obtain ⟨x12, hx12, h⟩ := hq_bind h
    obtain ⟨s13, hs13, h⟩ := hq_bind h
    have t := hq_fc_tr t (hq_fc_st hs13 (by decide))
    obtain ⟨s14, hs14, h⟩ := hq_bind h
    have t := hq_fc_tr t (hq_fc_st hs14 (by decide))
    obtain ⟨s15, hs15, h⟩ := hq_bind h
    have t := hq_fc_tr t (hq_fc_st hs15 (by decide))
    exact hq_fc_tr t (e73 a1 (a2 + (1 : Int32)) s15 h)
  · rw [if_neg c6] at h
    exact hq_fc_tr t (f_X12_starts_L124_fw h)
theorem f_X12_starts_L73_fw {n m : Nat} {a1 : Int32} {a2 : Int32} {s : hq_S} {y : hq_S} (h : f_X12_starts_L73 n m a1 a2 s = some y) : hq_fc w_X12_starts s y := by
  induction m generalizing a1 a2 s with
  | zero => cases h
  | succ m ih => exact f_X12_starts_L73_B_fw (n := n) (a1 := a1) (a2 := a2) (q73 := f_X12_starts_L73 n m) (fun a1 a2 s h => ih h) h
theorem f_X12_starts_L28_B_fw {n : Nat} {a1 : Int32} {a2 : Int32} {q28 : Int32 → Int32 → hq_S → Option hq_S} {s : hq_S} {y : hq_S} (e28 : ∀ (a1 : Int32) (a2 : Int32) (s : hq_S), q28 a1 a2 s = some y → hq_fc w_X12_starts s y) (h : f_X12_starts_L28_B n q28 a1 a2 s = some y) : hq_fc w_X12_starts s y := by
  unfold f_X12_starts_L28_B at h
  have t := hq_fc_rf w_X12_starts s
  by_cases c5 : a2 < (10 : Int32)
  · rw [if_pos c5] at h
    obtain ⟨x16, hx16, h⟩ := hq_bind h
    obtain ⟨z17, hz17, h⟩ := hq_bind h
    obtain ⟨s20, hs20, h⟩ := hq_bind h
    have t := hq_fc_tr t (hq_fc_st hs20 (by decide))
    exact hq_fc_tr t (e28 a1 (a2 + (1 : Int32)) s20 h)
  · rw [if_neg c5] at h
    exact hq_fc_tr t (f_X12_starts_L73_fw h)
theorem f_X12_starts_L28_fw {n m : Nat} {a1 : Int32} {a2 : Int32} {s : hq_S} {y : hq_S} (h : f_X12_starts_L28 n m a1 a2 s = some y) : hq_fc w_X12_starts s y := by
  induction m generalizing a1 a2 s with
  | zero => cases h
  | succ m ih => exact f_X12_starts_L28_B_fw (n := n) (a1 := a1) (a2 := a2) (q28 := f_X12_starts_L28 n m) (fun a1 a2 s h => ih h) h
theorem f_X12_starts_fw {n : Nat} {a1 : Int32} {s : hq_S} {y : hq_S} (h : f_X12_starts n a1 s = some y) : hq_fc w_X12_starts s y := by
  unfold f_X12_starts at h
  have t := hq_fc_rf w_X12_starts s
  obtain ⟨s1, hs1, h⟩ := hq_bind h
  have t := hq_fc_tr t (hq_fc_st hs1 (by decide))
  obtain ⟨x2, hx2, h⟩ := hq_bind h
  obtain ⟨s3, hs3, h⟩ := hq_bind h
  have t := hq_fc_tr t (hq_fc_st hs3 (by decide))
  obtain ⟨s4, hs4, h⟩ := hq_bind h
  have t := hq_fc_tr t (hq_fc_st hs4 (by decide))
  exact hq_fc_tr t (f_X12_starts_L28_fw h)
def w_X12_begins : List (Nat × Option Nat) := [(196, none), (197, none), (198, none), (199, none), (200, none), (201, none), (202, none), (203, none), (204, none), (205, none)]
theorem f_X12_begins_fw {n : Nat} {s : hq_S} {y : hq_S} (h : f_X12_begins n s = some y) : hq_fc w_X12_begins s y := by
  unfold f_X12_begins at h
  have t := hq_fc_rf w_X12_begins s
  obtain ⟨s1, hs1, h⟩ := hq_bind h
  have t := hq_fc_tr t (hq_fc_mono (by decide) (f_X12_starts_fw hs1))
  have h := Option.some.inj h
  subst h
  exact t
def w_X12_fault : List (Nat × Option Nat) := [(174, some 0)]
theorem f_X12_fault_fw {n : Nat} {a1 : Int32} {s : hq_S} {y : (Int32 × hq_S)} (h : f_X12_fault n a1 s = some y) : hq_fc w_X12_fault s y.2 := by
  unfold f_X12_fault at h
  have t := hq_fc_rf w_X12_fault s
  obtain ⟨s1, hs1, h⟩ := hq_bind h
  have t := hq_fc_tr t (hq_fc_pi hs1 (by decide))
  by_cases c2 : a1 = 0
  · rw [if_pos c2] at h
    have h := Option.some.inj h
    subst h
    exact t
  · rw [if_neg c2] at h
    by_cases c3 : a1 = (1 : Int32)
    · rw [if_pos c3] at h
      have h := Option.some.inj h
      subst h
      exact t
    · rw [if_neg c3] at h
      have h := Option.some.inj h
      subst h
      exact t
def w_X12_named : List (Nat × Option Nat) := [(174, some 0)]
theorem f_X12_named_fw {n : Nat} {a1 : Int32} {a2 : Int32} {s : hq_S} {y : (Int32 × hq_S)} (h : f_X12_named n a1 a2 s = some y) : hq_fc w_X12_named s y.2 := by
  unfold f_X12_named at h
  have t := hq_fc_rf w_X12_named s
  obtain ⟨s1, hs1, h⟩ := hq_bind h
  have t := hq_fc_tr t (hq_fc_pi hs1 (by decide))
  by_cases c2 : a1 = (0 : Int32)
  · rw [if_pos c2] at h
    obtain ⟨x3, hx3, h⟩ := hq_bind h
    obtain ⟨y4, hy4, h⟩ := hq_bind h
    have t := hq_fc_tr t (hq_fc_mono (by decide) (f_X12_found_fw hy4))
    have h := Option.some.inj h
    subst h
    exact t
  rw [if_neg c2] at h
  by_cases c5 : a1 = (1 : Int32)
  · rw [if_pos c5] at h
    obtain ⟨x6, hx6, h⟩ := hq_bind h
    obtain ⟨y7, hy7, h⟩ := hq_bind h
    have t := hq_fc_tr t (hq_fc_mono (by decide) (f_X12_found_fw hy7))
    have h := Option.some.inj h
    subst h
    exact t
  rw [if_neg c5] at h
  by_cases c8 : a1 = (2 : Int32)
  · rw [if_pos c8] at h
    obtain ⟨x9, hx9, h⟩ := hq_bind h
    obtain ⟨y10, hy10, h⟩ := hq_bind h
    have t := hq_fc_tr t (hq_fc_mono (by decide) (f_X12_found_fw hy10))
    have h := Option.some.inj h
    subst h
    exact t
  rw [if_neg c8] at h
  have h := Option.some.inj h
  subst h
  exact t
def w_X12_is : List (Nat × Option Nat) := []
theorem f_X12_is_fw {n : Nat} {a0 : Int32} {s : hq_S} {y : (Int64 × hq_S)} (h : f_X12_is n a0 s = some y) : hq_fc w_X12_is s y.2 := by
  unfold f_X12_is at h
  have t := hq_fc_rf w_X12_is s
  by_cases c1 : a0 = 0
  · rw [if_pos c1] at h
    have h := Option.some.inj h
    subst h
    exact t
  · rw [if_neg c1] at h
    have h := Option.some.inj h
    subst h
    exact t
def w_X12_works : List (Nat × Option Nat) := [(174, some 36), (195, none)]
theorem f_X12_works_J407_fw {n : Nat} {a1 : Int32} {j2 : Int64} {j4 : Int64} {j6 : Int64} {s : hq_S} {y : (Int32 × hq_S)} (h : f_X12_works_J407 n a1 j2 j4 j6 s = some y) : hq_fc w_X12_works s y.2 := by
  unfold f_X12_works_J407 at h
  have t := hq_fc_rf w_X12_works s
  obtain ⟨s7, hs7, h⟩ := hq_bind h
  have t := hq_fc_tr t (hq_fc_stj hs7 (by decide))
  by_cases c8 : 0 < (lg_cmp j6 (1000000000000 : Int64))
  · rw [if_pos c8] at h
    have h := Option.some.inj h
    subst h
    exact t
  · rw [if_neg c8] at h
    by_cases c9 : (lg_cmp j6 (-1000000000000 : Int64)) < 0
    · rw [if_pos c9] at h
      have h := Option.some.inj h
      subst h
      exact t
    · rw [if_neg c9] at h
      have h := Option.some.inj h
      subst h
      exact t
theorem f_X12_works_J212_fw {n : Nat} {a1 : Int32} {j2 : Int64} {j4 : Int64} {s : hq_S} {y : (Int32 × hq_S)} (h : f_X12_works_J212 n a1 j2 j4 s = some y) : hq_fc w_X12_works s y.2 := by
  unfold f_X12_works_J212 at h
  have t := hq_fc_rf w_X12_works s
  exact hq_fc_tr t (f_X12_works_J407_fw h)
theorem f_X12_works_fw {n : Nat} {a1 : Int32} {s : hq_S} {y : (Int32 × hq_S)} (h : f_X12_works n a1 s = some y) : hq_fc w_X12_works s y.2 := by
  unfold f_X12_works at h
  have t := hq_fc_rf w_X12_works s
  obtain ⟨x1, hx1, h⟩ := hq_bind h
  by_cases c2 : a1 = (260 : Int32)
  · rw [if_pos c2] at h
    obtain ⟨z50, hz50, h⟩ := hq_bind h
    obtain ⟨y52, hy52, h⟩ := hq_bind h
    have t := hq_fc_tr t (hq_fc_mono (by decide) (f_X12_is_fw hy52))
    obtain ⟨s53, hs53, h⟩ := hq_bind h
    have t := hq_fc_tr t (hq_fc_stj hs53 (by decide))
    have h := Option.some.inj h
    subst h
    exact t
  · rw [if_neg c2] at h
    obtain ⟨x3, hx3, h⟩ := hq_bind h
    obtain ⟨s4, hs4, h⟩ := hq_bind h
    have t := hq_fc_tr t (hq_fc_pi hs4 (by decide))
    by_cases c5 : a1 = (42 : Int32)
    · rw [if_pos c5] at h
      by_cases c6 : (lg_cmp x3 (0 : Int64)) = 0
      · rw [if_pos c6] at h
        exact hq_fc_tr t (f_X12_works_J212_fw h)
      · rw [if_neg c6] at h
        obtain ⟨x10, hx10, h⟩ := hq_bind h
        by_cases c11 : 0 < (lg_cmp (hq_absj x1) x10)
        · rw [if_pos c11] at h
          have h := Option.some.inj h
          subst h
          exact t
        · rw [if_neg c11] at h
          exact hq_fc_tr t (f_X12_works_J212_fw h)
    rw [if_neg c5] at h
    by_cases c12 : a1 = (43 : Int32)
    · rw [if_pos c12] at h
      exact hq_fc_tr t (f_X12_works_J407_fw h)
    rw [if_neg c12] at h
    by_cases c13 : a1 = (45 : Int32)
    · rw [if_pos c13] at h
      exact hq_fc_tr t (f_X12_works_J407_fw h)
    rw [if_neg c13] at h
    by_cases c14 : a1 = (47 : Int32)
    · rw [if_pos c14] at h
      by_cases c15 : (lg_cmp x1 (0 : Int64)) = 0
      · rw [if_pos c15] at h
        have h := Option.some.inj h
        subst h
        exact t
      · rw [if_neg c15] at h
        obtain ⟨x16, hx16, h⟩ := hq_bind h
        exact hq_fc_tr t (f_X12_works_J407_fw h)
    rw [if_neg c14] at h
    by_cases c17 : a1 = (60 : Int32)
    · rw [if_pos c17] at h
      obtain ⟨z18, hz18, h⟩ := hq_bind h
      obtain ⟨y20, hy20, h⟩ := hq_bind h
      have t := hq_fc_tr t (hq_fc_mono (by decide) (f_X12_is_fw hy20))
      exact hq_fc_tr t (f_X12_works_J407_fw h)
    rw [if_neg c17] at h
    by_cases c21 : a1 = (61 : Int32)
    · rw [if_pos c21] at h
      obtain ⟨z22, hz22, h⟩ := hq_bind h
      obtain ⟨y24, hy24, h⟩ := hq_bind h
      have t := hq_fc_tr t (hq_fc_mono (by decide) (f_X12_is_fw hy24))
      exact hq_fc_tr t (f_X12_works_J407_fw h)
    rw [if_neg c21] at h
    by_cases c25 : a1 = (62 : Int32)
    · rw [if_pos c25] at h
      obtain ⟨z26, hz26, h⟩ := hq_bind h
      obtain ⟨y28, hy28, h⟩ := hq_bind h
      have t := hq_fc_tr t (hq_fc_mono (by decide) (f_X12_is_fw hy28))
      exact hq_fc_tr t (f_X12_works_J407_fw h)
    rw [if_neg c25] at h
    by_cases c29 : a1 = (256 : Int32)
    · rw [if_pos c29] at h
      obtain ⟨z30, hz30, h⟩ := hq_bind h
      obtain ⟨y32, hy32, h⟩ := hq_bind h
      have t := hq_fc_tr t (hq_fc_mono (by decide) (f_X12_is_fw hy32))
      exact hq_fc_tr t (f_X12_works_J407_fw h)
    rw [if_neg c29] at h
    by_cases c33 : a1 = (257 : Int32)
    · rw [if_pos c33] at h
      obtain ⟨z34, hz34, h⟩ := hq_bind h
      obtain ⟨y36, hy36, h⟩ := hq_bind h
      have t := hq_fc_tr t (hq_fc_mono (by decide) (f_X12_is_fw hy36))
      exact hq_fc_tr t (f_X12_works_J407_fw h)
    rw [if_neg c33] at h
    by_cases c37 : a1 = (258 : Int32)
    · rw [if_pos c37] at h
      obtain ⟨z38, hz38, h⟩ := hq_bind h
      obtain ⟨y40, hy40, h⟩ := hq_bind h
      have t := hq_fc_tr t (hq_fc_mono (by decide) (f_X12_is_fw hy40))
      exact hq_fc_tr t (f_X12_works_J407_fw h)
    rw [if_neg c37] at h
    by_cases c41 : a1 = (261 : Int32)
    · rw [if_pos c41] at h
      obtain ⟨z42, hz42, h⟩ := hq_bind h
      obtain ⟨y45, hy45, h⟩ := hq_bind h
      have t := hq_fc_tr t (hq_fc_mono (by decide) (f_X12_is_fw hy45))
      exact hq_fc_tr t (f_X12_works_J407_fw h)
    rw [if_neg c41] at h
    obtain ⟨z46, hz46, h⟩ := hq_bind h
    obtain ⟨y49, hy49, h⟩ := hq_bind h
    have t := hq_fc_tr t (hq_fc_mono (by decide) (f_X12_is_fw hy49))
    exact hq_fc_tr t (f_X12_works_J407_fw h)
def w_X12_goes : List (Nat × Option Nat) := [(174, some 36), (195, none)]
theorem f_X12_goes_J96_fw {n : Nat} {a1 : Int32} {a2 : Int32} {q12 : Int32 → Int32 → hq_S → Option (Int32 × hq_S)} {s : hq_S} {y : (Int32 × hq_S)} (e12 : ∀ (a1 : Int32) (a2 : Int32) (s : hq_S), q12 a1 a2 s = some y → hq_fc w_X12_goes s y.2) (h : f_X12_goes_J96 n q12 a1 a2 s = some y) : hq_fc w_X12_goes s y.2 := by
  unfold f_X12_goes_J96 at h
  have t := hq_fc_rf w_X12_goes s
  exact hq_fc_tr t (e12 a1 (a2 + (1 : Int32)) s h)
theorem f_X12_goes_L12_B_fw {n : Nat} {a1 : Int32} {a2 : Int32} {q12 : Int32 → Int32 → hq_S → Option (Int32 × hq_S)} {s : hq_S} {y : (Int32 × hq_S)} (e12 : ∀ (a1 : Int32) (a2 : Int32) (s : hq_S), q12 a1 a2 s = some y → hq_fc w_X12_goes s y.2) (h : f_X12_goes_L12_B n q12 a1 a2 s = some y) : hq_fc w_X12_goes s y.2 := by
  unfold f_X12_goes_L12_B at h
  have t := hq_fc_rf w_X12_goes s
  obtain ⟨x3, hx3, h⟩ := hq_bind h
  by_cases c4 : a2 < x3
  · rw [if_pos c4] at h
    obtain ⟨x5, hx5, h⟩ := hq_bind h
    by_cases c6 : x5 = (2 : Int32)
    · rw [if_pos c6] at h
      obtain ⟨x15, hx15, h⟩ := hq_bind h
      obtain ⟨y16, hy16, h⟩ := hq_bind h
      have t := hq_fc_tr t (hq_fc_mono (by decide) (f_X12_works_fw hy16))
      by_cases c17 : y16.1 = 0
      · rw [if_pos c17] at h
        have h := Option.some.inj h
        subst h
        exact t
      · rw [if_neg c17] at h
        exact hq_fc_tr t (f_X12_goes_J96_fw e12 h)
    · rw [if_neg c6] at h
      obtain ⟨x7, hx7, h⟩ := hq_bind h
      obtain ⟨z8, hz8, h⟩ := hq_bind h
      obtain ⟨s13, hs13, h⟩ := hq_bind h
      have t := hq_fc_tr t (hq_fc_stj hs13 (by decide))
      obtain ⟨s14, hs14, h⟩ := hq_bind h
      have t := hq_fc_tr t (hq_fc_pi hs14 (by decide))
      exact hq_fc_tr t (f_X12_goes_J96_fw e12 h)
  · rw [if_neg c4] at h
    have h := Option.some.inj h
    subst h
    exact t
theorem f_X12_goes_L12_fw {n m : Nat} {a1 : Int32} {a2 : Int32} {s : hq_S} {y : (Int32 × hq_S)} (h : f_X12_goes_L12 n m a1 a2 s = some y) : hq_fc w_X12_goes s y.2 := by
  induction m generalizing a1 a2 s with
  | zero => cases h
  | succ m ih => exact f_X12_goes_L12_B_fw (n := n) (a1 := a1) (a2 := a2) (q12 := f_X12_goes_L12 n m) (fun a1 a2 s h => ih h) h
theorem f_X12_goes_fw {n : Nat} {a1 : Int32} {s : hq_S} {y : (Int32 × hq_S)} (h : f_X12_goes n a1 s = some y) : hq_fc w_X12_goes s y.2 := by
  unfold f_X12_goes at h
  have t := hq_fc_rf w_X12_goes s
  obtain ⟨s1, hs1, h⟩ := hq_bind h
  have t := hq_fc_tr t (hq_fc_pi hs1 (by decide))
  obtain ⟨x2, hx2, h⟩ := hq_bind h
  exact hq_fc_tr t (f_X12_goes_L12_fw h)
def w_X12_hasLaw : List (Nat × Option Nat) := []
theorem f_X12_hasLaw_fw {n : Nat} {a1 : Int32} {s : hq_S} {y : (Int32 × hq_S)} (h : f_X12_hasLaw n a1 s = some y) : hq_fc w_X12_hasLaw s y.2 := by
  unfold f_X12_hasLaw at h
  have t := hq_fc_rf w_X12_hasLaw s
  obtain ⟨x1, hx1, h⟩ := hq_bind h
  obtain ⟨x2, hx2, h⟩ := hq_bind h
  by_cases c3 : x2 < x1
  · rw [if_pos c3] at h
    have h := Option.some.inj h
    subst h
    exact t
  · rw [if_neg c3] at h
    have h := Option.some.inj h
    subst h
    exact t
def w_X12_copies : List (Nat × Option Nat) := [(196, none), (197, none), (198, none), (199, none), (200, none), (201, none), (202, none), (203, none), (204, none), (205, none)]
theorem f_X12_copies_L147_B_fw {n : Nat} {a1 : Int32} {a2 : Int32} {a3 : Int32} {q147 : Int32 → Int32 → Int32 → hq_S → Option hq_S} {s : hq_S} {y : hq_S} (e147 : ∀ (a1 : Int32) (a2 : Int32) (a3 : Int32) (s : hq_S), q147 a1 a2 a3 s = some y → hq_fc w_X12_copies s y) (h : f_X12_copies_L147_B n q147 a1 a2 a3 s = some y) : hq_fc w_X12_copies s y := by
  unfold f_X12_copies_L147_B at h
  have t := hq_fc_rf w_X12_copies s
  by_cases c9 : a3 < (4 : Int32)
  · rw [if_pos c9] at h
    obtain ⟨x10, hx10, h⟩ := hq_bind h
    obtain ⟨s11, hs11, h⟩ := hq_bind h
    have t := hq_fc_tr t (hq_fc_st hs11 (by decide))
    obtain ⟨x12, hx12, h⟩ := hq_bind h
    obtain ⟨s13, hs13, h⟩ := hq_bind h
    have t := hq_fc_tr t (hq_fc_st hs13 (by decide))
    obtain ⟨x14, hx14, h⟩ := hq_bind h
    obtain ⟨s15, hs15, h⟩ := hq_bind h
    have t := hq_fc_tr t (hq_fc_st hs15 (by decide))
    exact hq_fc_tr t (e147 a1 a2 (a3 + (1 : Int32)) s15 h)
  · rw [if_neg c9] at h
    have h := Option.some.inj h
    subst h
    exact t
theorem f_X12_copies_L147_fw {n m : Nat} {a1 : Int32} {a2 : Int32} {a3 : Int32} {s : hq_S} {y : hq_S} (h : f_X12_copies_L147 n m a1 a2 a3 s = some y) : hq_fc w_X12_copies s y := by
  induction m generalizing a1 a2 a3 s with
  | zero => cases h
  | succ m ih => exact f_X12_copies_L147_B_fw (n := n) (a1 := a1) (a2 := a2) (a3 := a3) (q147 := f_X12_copies_L147 n m) (fun a1 a2 a3 s h => ih h) h
theorem f_X12_copies_L74_B_fw {n : Nat} {a1 : Int32} {a2 : Int32} {a3 : Int32} {q74 : Int32 → Int32 → Int32 → hq_S → Option hq_S} {s : hq_S} {y : hq_S} (e74 : ∀ (a1 : Int32) (a2 : Int32) (a3 : Int32) (s : hq_S), q74 a1 a2 a3 s = some y → hq_fc w_X12_copies s y) (h : f_X12_copies_L74_B n q74 a1 a2 a3 s = some y) : hq_fc w_X12_copies s y := by
  unfold f_X12_copies_L74_B at h
  have t := hq_fc_rf w_X12_copies s
  by_cases c8 : a3 < (3 : Int32)
  · rw [if_pos c8] at h
    obtain ⟨x16, hx16, h⟩ := hq_bind h
    obtain ⟨s17, hs17, h⟩ := hq_bind h
    have t := hq_fc_tr t (hq_fc_st hs17 (by decide))
    obtain ⟨x18, hx18, h⟩ := hq_bind h
    obtain ⟨s19, hs19, h⟩ := hq_bind h
    have t := hq_fc_tr t (hq_fc_st hs19 (by decide))
    obtain ⟨x20, hx20, h⟩ := hq_bind h
    obtain ⟨s21, hs21, h⟩ := hq_bind h
    have t := hq_fc_tr t (hq_fc_st hs21 (by decide))
    exact hq_fc_tr t (e74 a1 a2 (a3 + (1 : Int32)) s21 h)
  · rw [if_neg c8] at h
    exact hq_fc_tr t (f_X12_copies_L147_fw h)
theorem f_X12_copies_L74_fw {n m : Nat} {a1 : Int32} {a2 : Int32} {a3 : Int32} {s : hq_S} {y : hq_S} (h : f_X12_copies_L74 n m a1 a2 a3 s = some y) : hq_fc w_X12_copies s y := by
  induction m generalizing a1 a2 a3 s with
  | zero => cases h
  | succ m ih => exact f_X12_copies_L74_B_fw (n := n) (a1 := a1) (a2 := a2) (a3 := a3) (q74 := f_X12_copies_L74 n m) (fun a1 a2 a3 s h => ih h) h
theorem f_X12_copies_L38_B_fw {n : Nat} {a1 : Int32} {a2 : Int32} {a3 : Int32} {q38 : Int32 → Int32 → Int32 → hq_S → Option hq_S} {s : hq_S} {y : hq_S} (e38 : ∀ (a1 : Int32) (a2 : Int32) (a3 : Int32) (s : hq_S), q38 a1 a2 a3 s = some y → hq_fc w_X12_copies s y) (h : f_X12_copies_L38_B n q38 a1 a2 a3 s = some y) : hq_fc w_X12_copies s y := by
  unfold f_X12_copies_L38_B at h
  have t := hq_fc_rf w_X12_copies s
  by_cases c7 : a3 < (10 : Int32)
  · rw [if_pos c7] at h
    obtain ⟨x22, hx22, h⟩ := hq_bind h
    obtain ⟨s23, hs23, h⟩ := hq_bind h
    have t := hq_fc_tr t (hq_fc_st hs23 (by decide))
    exact hq_fc_tr t (e38 a1 a2 (a3 + (1 : Int32)) s23 h)
  · rw [if_neg c7] at h
    exact hq_fc_tr t (f_X12_copies_L74_fw h)
theorem f_X12_copies_L38_fw {n m : Nat} {a1 : Int32} {a2 : Int32} {a3 : Int32} {s : hq_S} {y : hq_S} (h : f_X12_copies_L38 n m a1 a2 a3 s = some y) : hq_fc w_X12_copies s y := by
  induction m generalizing a1 a2 a3 s with
  | zero => cases h
  | succ m ih => exact f_X12_copies_L38_B_fw (n := n) (a1 := a1) (a2 := a2) (a3 := a3) (q38 := f_X12_copies_L38 n m) (fun a1 a2 a3 s h => ih h) h
theorem f_X12_copies_fw {n : Nat} {a1 : Int32} {a2 : Int32} {s : hq_S} {y : hq_S} (h : f_X12_copies n a1 a2 s = some y) : hq_fc w_X12_copies s y := by
  unfold f_X12_copies at h
  have t := hq_fc_rf w_X12_copies s
  obtain ⟨x1, hx1, h⟩ := hq_bind h
  obtain ⟨s2, hs2, h⟩ := hq_bind h
  have t := hq_fc_tr t (hq_fc_st hs2 (by decide))
  obtain ⟨x3, hx3, h⟩ := hq_bind h
  obtain ⟨s4, hs4, h⟩ := hq_bind h
  have t := hq_fc_tr t (hq_fc_st hs4 (by decide))
  obtain ⟨x5, hx5, h⟩ := hq_bind h
  obtain ⟨s6, hs6, h⟩ := hq_bind h
  have t := hq_fc_tr t (hq_fc_st hs6 (by decide))
  exact hq_fc_tr t (f_X12_copies_L38_fw h)
def w_X12_isCorner : List (Nat × Option Nat) := []
theorem f_X12_isCorner_fw {n : Nat} {a1 : Int32} {s : hq_S} {y : (Int32 × hq_S)} (h : f_X12_isCorner n a1 s = some y) : hq_fc w_X12_isCorner s y.2 := by
  unfold f_X12_isCorner at h
  have t := hq_fc_rf w_X12_isCorner s
  by_cases c1 : a1 < 0
  · rw [if_pos c1] at h
    have h := Option.some.inj h
    subst h
    exact t
  · rw [if_neg c1] at h
    obtain ⟨x2, hx2, h⟩ := hq_bind h
    by_cases c3 : a1 < x2
    · rw [if_pos c3] at h
      have h := Option.some.inj h
      subst h
      exact t
    · rw [if_neg c3] at h
      have h := Option.some.inj h
      subst h
      exact t
def w_X12_isGuard : List (Nat × Option Nat) := []
theorem f_X12_isGuard_fw {n : Nat} {a1 : Int32} {s : hq_S} {y : (Int32 × hq_S)} (h : f_X12_isGuard n a1 s = some y) : hq_fc w_X12_isGuard s y.2 := by
  unfold f_X12_isGuard at h
  have t := hq_fc_rf w_X12_isGuard s
  by_cases c1 : a1 < 0
  · rw [if_pos c1] at h
    have h := Option.some.inj h
    subst h
    exact t
  · rw [if_neg c1] at h
    obtain ⟨x2, hx2, h⟩ := hq_bind h
    by_cases c3 : a1 < x2
    · rw [if_pos c3] at h
      have h := Option.some.inj h
      subst h
      exact t
    · rw [if_neg c3] at h
      have h := Option.some.inj h
      subst h
      exact t
def w_X12_isThief : List (Nat × Option Nat) := []
theorem f_X12_isThief_fw {n : Nat} {a1 : Int32} {s : hq_S} {y : (Int32 × hq_S)} (h : f_X12_isThief n a1 s = some y) : hq_fc w_X12_isThief s y.2 := by
  unfold f_X12_isThief at h
  have t := hq_fc_rf w_X12_isThief s
  by_cases c1 : a1 < 0
  · rw [if_pos c1] at h
    have h := Option.some.inj h
    subst h
    exact t
  · rw [if_neg c1] at h
    obtain ⟨x2, hx2, h⟩ := hq_bind h
    by_cases c3 : a1 < x2
    · rw [if_pos c3] at h
      have h := Option.some.inj h
      subst h
      exact t
    · rw [if_neg c3] at h
      have h := Option.some.inj h
      subst h
      exact t
def w_X12_bitsOf : List (Nat × Option Nat) := []
theorem f_X12_bitsOf_L4_B_fw {n : Nat} {a0 : Int32} {a1 : Int32} {a2 : Int32} {q4 : Int32 → Int32 → Int32 → hq_S → Option (Int32 × hq_S)} {s : hq_S} {y : (Int32 × hq_S)} (e4 : ∀ (a0 : Int32) (a1 : Int32) (a2 : Int32) (s : hq_S), q4 a0 a1 a2 s = some y → hq_fc w_X12_bitsOf s y.2) (h : f_X12_bitsOf_L4_B n q4 a0 a1 a2 s = some y) : hq_fc w_X12_bitsOf s y.2 := by
  unfold f_X12_bitsOf_L4_B at h
  have t := hq_fc_rf w_X12_bitsOf s
  by_cases c1 : a2 < (20 : Int32)
  · rw [if_pos c1] at h
    exact hq_fc_tr t (e4 a0 (a1 + ((a0 >>> (a2 &&& 31)) &&& (1 : Int32))) (a2 + (1 : Int32)) s h)
  · rw [if_neg c1] at h
    have h := Option.some.inj h
    subst h
    exact t
theorem f_X12_bitsOf_L4_fw {n m : Nat} {a0 : Int32} {a1 : Int32} {a2 : Int32} {s : hq_S} {y : (Int32 × hq_S)} (h : f_X12_bitsOf_L4 n m a0 a1 a2 s = some y) : hq_fc w_X12_bitsOf s y.2 := by
  induction m generalizing a0 a1 a2 s with
  | zero => cases h
  | succ m ih => exact f_X12_bitsOf_L4_B_fw (n := n) (a0 := a0) (a1 := a1) (a2 := a2) (q4 := f_X12_bitsOf_L4 n m) (fun a0 a1 a2 s h => ih h) h
theorem f_X12_bitsOf_fw {n : Nat} {a0 : Int32} {s : hq_S} {y : (Int32 × hq_S)} (h : f_X12_bitsOf n a0 s = some y) : hq_fc w_X12_bitsOf s y.2 := by
  unfold f_X12_bitsOf at h
  have t := hq_fc_rf w_X12_bitsOf s
  exact hq_fc_tr t (f_X12_bitsOf_L4_fw h)
def w_X12_laysFrom : List (Nat × Option Nat) := [(207, none)]
theorem f_X12_laysFrom_L53_B_fw {n : Nat} {a1 : Int32} {a2 : Int32} {a3 : Int32} {a4 : Int32} {a5 : Int32} {a6 : Int32} {q39 : Int32 → Int32 → Int32 → Int32 → hq_S → Option hq_S} {q53 : Int32 → Int32 → Int32 → Int32 → Int32 → Int32 → hq_S → Option hq_S} {s : hq_S} {y : hq_S} (e39 : ∀ (a1 : Int32) (a2 : Int32) (a3 : Int32) (a4 : Int32) (o5 : Option Value) (o6 : Option Value) (s : hq_S), q39 a1 a2 a3 a4 s = some y → hq_fc w_X12_laysFrom s y) (e53 : ∀ (a1 : Int32) (a2 : Int32) (a3 : Int32) (a4 : Int32) (a5 : Int32) (a6 : Int32) (s : hq_S), q53 a1 a2 a3 a4 a5 a6 s = some y → hq_fc w_X12_laysFrom s y) (h : f_X12_laysFrom_L53_B n q39 q53 a1 a2 a3 a4 a5 a6 s = some y) : hq_fc w_X12_laysFrom s y := by
  unfold f_X12_laysFrom_L53_B at h
  have t := hq_fc_rf w_X12_laysFrom s
  obtain ⟨x3, hx3, h⟩ := hq_bind h
  by_cases c4 : a6 < x3
  · rw [if_pos c4] at h
    obtain ⟨z5, hz5, h⟩ := hq_bind h
    have t : hq_fc w_X12_laysFrom s z5.2 := by
      clear h
      have h := hz5
      by_cases c6 : ((a3 >>> (a6 &&& 31)) &&& (1 : Int32)) = 0
      · rw [if_pos c6] at h
        cases h
        exact t
      · rw [if_neg c6] at h
        obtain ⟨s7, hs7, h⟩ := hq_bind h
        have t := hq_fc_tr t (hq_fc_st hs7 (by decide))
        obtain ⟨x8, hx8, h⟩ := hq_bind h
        cases h
        exact t
    exact hq_fc_tr t (e53 a1 a2 a3 a4 z5.1 (a6 + (1 : Int32)) z5.2 h)
  · rw [if_neg c4] at h
    exact hq_fc_tr t (e39 a1 a2 (a5 &&& (a2 ^^^ (-1 : Int32))) (a4 + (1 : Int32)) none none s h)
theorem f_X12_laysFrom_L53_fw {n m : Nat} {a1 : Int32} {a2 : Int32} {a3 : Int32} {a4 : Int32} {a5 : Int32} {a6 : Int32} {q39 : Int32 → Int32 → Int32 → Int32 → hq_S → Option hq_S} {s : hq_S} {y : hq_S} (e39 : ∀ (a1 : Int32) (a2 : Int32) (a3 : Int32) (a4 : Int32) (o5 : Option Value) (o6 : Option Value) (s : hq_S), q39 a1 a2 a3 a4 s = some y → hq_fc w_X12_laysFrom s y) (h : f_X12_laysFrom_L53 n q39 m a1 a2 a3 a4 a5 a6 s = some y) : hq_fc w_X12_laysFrom s y := by
  induction m generalizing a1 a2 a3 a4 a5 a6 s with
  | zero => cases h
  | succ m ih => exact f_X12_laysFrom_L53_B_fw (n := n) (a1 := a1) (a2 := a2) (a3 := a3) (a4 := a4) (a5 := a5) (a6 := a6) (q53 := f_X12_laysFrom_L53 n q39 m) e39 (fun a1 a2 a3 a4 a5 a6 s h => ih h) h
theorem f_X12_laysFrom_L39_B_fw {n : Nat} {a1 : Int32} {a2 : Int32} {a3 : Int32} {a4 : Int32} {q39 : Int32 → Int32 → Int32 → Int32 → hq_S → Option hq_S} {s : hq_S} {y : hq_S} (e39 : ∀ (a1 : Int32) (a2 : Int32) (a3 : Int32) (a4 : Int32) (o5 : Option Value) (o6 : Option Value) (s : hq_S), q39 a1 a2 a3 a4 s = some y → hq_fc w_X12_laysFrom s y) (h : f_X12_laysFrom_L39_B n q39 a1 a2 a3 a4 s = some y) : hq_fc w_X12_laysFrom s y := by
  unfold f_X12_laysFrom_L39_B at h
  have t := hq_fc_rf w_X12_laysFrom s
  by_cases c2 : a3 = 0
  · rw [if_pos c2] at h
    have h := Option.some.inj h
    subst h
    exact t
  · rw [if_neg c2] at h
    exact hq_fc_tr t (f_X12_laysFrom_L53_fw e39 h)
theorem f_X12_laysFrom_L39_fw {n m : Nat} {a1 : Int32} {a2 : Int32} {a3 : Int32} {a4 : Int32} {s : hq_S} {y : hq_S} (h : f_X12_laysFrom_L39 n m a1 a2 a3 a4 s = some y) : hq_fc w_X12_laysFrom s y := by
  induction m generalizing a1 a2 a3 a4 s with
  | zero => cases h
  | succ m ih => exact f_X12_laysFrom_L39_B_fw (n := n) (a1 := a1) (a2 := a2) (a3 := a3) (a4 := a4) (q39 := f_X12_laysFrom_L39 n m) (fun a1 a2 a3 a4 _ _ s h => ih h) h
theorem f_X12_laysFrom_L9_B_fw {n : Nat} {a1 : Int32} {a2 : Int32} {a3 : Int32} {a4 : Int32} {q9 : Int32 → Int32 → Int32 → Int32 → hq_S → Option hq_S} {s : hq_S} {y : hq_S} (e9 : ∀ (a1 : Int32) (a2 : Int32) (a3 : Int32) (a4 : Int32) (s : hq_S), q9 a1 a2 a3 a4 s = some y → hq_fc w_X12_laysFrom s y) (h : f_X12_laysFrom_L9_B n q9 a1 a2 a3 a4 s = some y) : hq_fc w_X12_laysFrom s y := by
  unfold f_X12_laysFrom_L9_B at h
  have t := hq_fc_rf w_X12_laysFrom s
  by_cases c1 : a4 < (10 : Int32)
  · rw [if_pos c1] at h
    obtain ⟨s9, hs9, h⟩ := hq_bind h
    have t := hq_fc_tr t (hq_fc_st hs9 (by decide))
    exact hq_fc_tr t (e9 a1 a2 a3 (a4 + (1 : Int32)) s9 h)
  · rw [if_neg c1] at h
    exact hq_fc_tr t (f_X12_laysFrom_L39_fw h)
theorem f_X12_laysFrom_L9_fw {n m : Nat} {a1 : Int32} {a2 : Int32} {a3 : Int32} {a4 : Int32} {s : hq_S} {y : hq_S} (h : f_X12_laysFrom_L9 n m a1 a2 a3 a4 s = some y) : hq_fc w_X12_laysFrom s y := by
  induction m generalizing a1 a2 a3 a4 s with
  | zero => cases h
  | succ m ih => exact f_X12_laysFrom_L9_B_fw (n := n) (a1 := a1) (a2 := a2) (a3 := a3) (a4 := a4) (q9 := f_X12_laysFrom_L9 n m) (fun a1 a2 a3 a4 s h => ih h) h
theorem f_X12_laysFrom_fw {n : Nat} {a1 : Int32} {s : hq_S} {y : hq_S} (h : f_X12_laysFrom n a1 s = some y) : hq_fc w_X12_laysFrom s y := by
  unfold f_X12_laysFrom at h
  have t := hq_fc_rf w_X12_laysFrom s
  exact hq_fc_tr t (f_X12_laysFrom_L9_fw h)
def w_X12_lays : List (Nat × Option Nat) := [(206, none), (207, none)]
theorem f_X12_lays_L127_B_fw {n : Nat} {a1 : Int32} {a2 : Int32} {q127 : Int32 → Int32 → hq_S → Option hq_S} {s : hq_S} {y : hq_S} (e127 : ∀ (a1 : Int32) (a2 : Int32) (s : hq_S), q127 a1 a2 s = some y → hq_fc w_X12_lays s y) (h : f_X12_lays_L127_B n q127 a1 a2 s = some y) : hq_fc w_X12_lays s y := by
  unfold f_X12_lays_L127_B at h
  have t := hq_fc_rf w_X12_lays s
  obtain ⟨x4, hx4, h⟩ := hq_bind h
  by_cases c5 : a2 < x4
  · rw [if_pos c5] at h
    obtain ⟨s6, hs6, h⟩ := hq_bind h
    have t := hq_fc_tr t (hq_fc_mono (by decide) (f_X12_laysFrom_fw hs6))
    exact hq_fc_tr t (e127 a1 (a2 + (1 : Int32)) s6 h)
  · rw [if_neg c5] at h
    have h := Option.some.inj h
    subst h
    exact t
theorem f_X12_lays_L127_fw {n m : Nat} {a1 : Int32} {a2 : Int32} {s : hq_S} {y : hq_S} (h : f_X12_lays_L127 n m a1 a2 s = some y) : hq_fc w_X12_lays s y := by
  induction m generalizing a1 a2 s with
  | zero => cases h
  | succ m ih => exact f_X12_lays_L127_B_fw (n := n) (a1 := a1) (a2 := a2) (q127 := f_X12_lays_L127 n m) (fun a1 a2 s h => ih h) h
theorem f_X12_lays_L23_B_fw {n : Nat} {a1 : Int32} {a2 : Int32} {q23 : Int32 → Int32 → hq_S → Option hq_S} {s : hq_S} {y : hq_S} (e23 : ∀ (a1 : Int32) (a2 : Int32) (s : hq_S), q23 a1 a2 s = some y → hq_fc w_X12_lays s y) (h : f_X12_lays_L23_B n q23 a1 a2 s = some y) : hq_fc w_X12_lays s y := by
  unfold f_X12_lays_L23_B at h
  have t := hq_fc_rf w_X12_lays s
  obtain ⟨x2, hx2, h⟩ := hq_bind h
  by_cases c3 : a2 < x2
  · rw [if_pos c3] at h
    obtain ⟨x7, hx7, h⟩ := hq_bind h
    obtain ⟨z8, hz8, h⟩ := hq_bind h
    have t : hq_fc w_X12_lays s z8 := by
      clear h
      have h := hz8
      by_cases c9 : ((x7 >>> (a2 &&& 31)) &&& (1 : Int32)) = (1 : Int32)
      · rw [if_pos c9] at h
        by_cases c25 : (hq_gi s 174 49) = (4 : Int32)
        · rw [if_pos c25] at h
          obtain ⟨x26, hx26, h⟩ := hq_bind h
          obtain ⟨x27, hx27, h⟩ := hq_bind h
          obtain ⟨x28, hx28, h⟩ := hq_bind h
          obtain ⟨s29, hs29, h⟩ := hq_bind h
          have t := hq_fc_tr t (hq_fc_st hs29 (by decide))
          obtain ⟨x30, hx30, h⟩ := hq_bind h
          by_cases c31 : x30 = 0
          · rw [if_pos c31] at h
            obtain ⟨x32, hx32, h⟩ := hq_bind h
            obtain ⟨x33, hx33, h⟩ := hq_bind h
            obtain ⟨x34, hx34, h⟩ := hq_bind h
            obtain ⟨s35, hs35, h⟩ := hq_bind h
            have t := hq_fc_tr t (hq_fc_st hs35 (by decide))
            cases h
            exact t
          · rw [if_neg c31] at h
            by_cases c36 : (hq_gi s29 174 49) = (4 : Int32)
            · rw [if_pos c36] at h
              obtain ⟨x37, hx37, h⟩ := hq_bind h
              obtain ⟨x38, hx38, h⟩ := hq_bind h
              obtain ⟨x39, hx39, h⟩ := hq_bind h
              obtain ⟨s40, hs40, h⟩ := hq_bind h
              have t := hq_fc_tr t (hq_fc_st hs40 (by decide))
              cases h
              exact t
            · rw [if_neg c36] at h
              cases h
              exact t
        · rw [if_neg c25] at h
          cases h
          exact t
      · rw [if_neg c9] at h
        obtain ⟨x10, hx10, h⟩ := hq_bind h
        obtain ⟨x11, hx11, h⟩ := hq_bind h
        obtain ⟨x12, hx12, h⟩ := hq_bind h
        obtain ⟨s13, hs13, h⟩ := hq_bind h
        have t := hq_fc_tr t (hq_fc_st hs13 (by decide))
        obtain ⟨x14, hx14, h⟩ := hq_bind h
        by_cases c15 : x14 = 0
        · rw [if_pos c15] at h
          obtain ⟨x16, hx16, h⟩ := hq_bind h
          obtain ⟨x17, hx17, h⟩ := hq_bind h
          obtain ⟨x18, hx18, h⟩ := hq_bind h
          obtain ⟨s19, hs19, h⟩ := hq_bind h
          have t := hq_fc_tr t (hq_fc_st hs19 (by decide))
          cases h
          exact t
        · rw [if_neg c15] at h
          by_cases c20 : (hq_gi s13 174 49) = (4 : Int32)
          · rw [if_pos c20] at h
            obtain ⟨x21, hx21, h⟩ := hq_bind h
            obtain ⟨x22, hx22, h⟩ := hq_bind h
            obtain ⟨x23, hx23, h⟩ := hq_bind h
            obtain ⟨s24, hs24, h⟩ := hq_bind h
            have t := hq_fc_tr t (hq_fc_st hs24 (by decide))
            cases h
            exact t
          · rw [if_neg c20] at h
            cases h
            exact t
    exact hq_fc_tr t (e23 a1 (a2 + (1 : Int32)) z8 h)
  · rw [if_neg c3] at h
    exact hq_fc_tr t (f_X12_lays_L127_fw h)
theorem f_X12_lays_L23_fw {n m : Nat} {a1 : Int32} {a2 : Int32} {s : hq_S} {y : hq_S} (h : f_X12_lays_L23 n m a1 a2 s = some y) : hq_fc w_X12_lays s y := by
  induction m generalizing a1 a2 s with
  | zero => cases h
  | succ m ih => exact f_X12_lays_L23_B_fw (n := n) (a1 := a1) (a2 := a2) (q23 := f_X12_lays_L23 n m) (fun a1 a2 s h => ih h) h
theorem f_X12_lays_L2_B_fw {n : Nat} {a1 : Int32} {a2 : Int32} {q2 : Int32 → Int32 → hq_S → Option hq_S} {s : hq_S} {y : hq_S} (e2 : ∀ (a1 : Int32) (a2 : Int32) (s : hq_S), q2 a1 a2 s = some y → hq_fc w_X12_lays s y) (h : f_X12_lays_L2_B n q2 a1 a2 s = some y) : hq_fc w_X12_lays s y := by
  unfold f_X12_lays_L2_B at h
  have t := hq_fc_rf w_X12_lays s
  by_cases c1 : a2 < (10 : Int32)
  · rw [if_pos c1] at h
    obtain ⟨s41, hs41, h⟩ := hq_bind h
    have t := hq_fc_tr t (hq_fc_st hs41 (by decide))
    exact hq_fc_tr t (e2 a1 (a2 + (1 : Int32)) s41 h)
  · rw [if_neg c1] at h
    exact hq_fc_tr t (f_X12_lays_L23_fw h)
theorem f_X12_lays_L2_fw {n m : Nat} {a1 : Int32} {a2 : Int32} {s : hq_S} {y : hq_S} (h : f_X12_lays_L2 n m a1 a2 s = some y) : hq_fc w_X12_lays s y := by
  induction m generalizing a1 a2 s with
  | zero => cases h
  | succ m ih => exact f_X12_lays_L2_B_fw (n := n) (a1 := a1) (a2 := a2) (q2 := f_X12_lays_L2 n m) (fun a1 a2 s h => ih h) h
theorem f_X12_lays_fw {n : Nat} {a1 : Int32} {s : hq_S} {y : hq_S} (h : f_X12_lays n a1 s = some y) : hq_fc w_X12_lays s y := by
  unfold f_X12_lays at h
  have t := hq_fc_rf w_X12_lays s
  exact hq_fc_tr t (f_X12_lays_L2_fw h)
def w_X12_farOf : List (Nat × Option Nat) := []
theorem f_X12_farOf_L6_B_fw {n : Nat} {a1 : Int32} {a2 : Int32} {a3 : Int32} {a4 : Int32} {q6 : Int32 → Int32 → Int32 → Int32 → hq_S → Option (Int32 × hq_S)} {s : hq_S} {y : (Int32 × hq_S)} (e6 : ∀ (a1 : Int32) (a2 : Int32) (a3 : Int32) (a4 : Int32) (s : hq_S), q6 a1 a2 a3 a4 s = some y → hq_fc w_X12_farOf s y.2) (h : f_X12_farOf_L6_B n q6 a1 a2 a3 a4 s = some y) : hq_fc w_X12_farOf s y.2 := by
  unfold f_X12_farOf_L6_B at h
  have t := hq_fc_rf w_X12_farOf s
  obtain ⟨x1, hx1, h⟩ := hq_bind h
  by_cases c2 : a4 < x1
  · rw [if_pos c2] at h
    obtain ⟨x3, hx3, h⟩ := hq_bind h
    obtain ⟨x4, hx4, h⟩ := hq_bind h
    exact hq_fc_tr t (e6 a1 a2 (hq_min a3 x4) (a4 + (1 : Int32)) s h)
  · rw [if_neg c2] at h
    have h := Option.some.inj h
    subst h
    exact t
theorem f_X12_farOf_L6_fw {n m : Nat} {a1 : Int32} {a2 : Int32} {a3 : Int32} {a4 : Int32} {s : hq_S} {y : (Int32 × hq_S)} (h : f_X12_farOf_L6 n m a1 a2 a3 a4 s = some y) : hq_fc w_X12_farOf s y.2 := by
  induction m generalizing a1 a2 a3 a4 s with
  | zero => cases h
  | succ m ih => exact f_X12_farOf_L6_B_fw (n := n) (a1 := a1) (a2 := a2) (a3 := a3) (a4 := a4) (q6 := f_X12_farOf_L6 n m) (fun a1 a2 a3 a4 s h => ih h) h
theorem f_X12_farOf_fw {n : Nat} {a1 : Int32} {a2 : Int32} {s : hq_S} {y : (Int32 × hq_S)} (h : f_X12_farOf n a1 a2 s = some y) : hq_fc w_X12_farOf s y.2 := by
  unfold f_X12_farOf at h
  have t := hq_fc_rf w_X12_farOf s
  exact hq_fc_tr t (f_X12_farOf_L6_fw h)
def w_X12_guardsAt : List (Nat × Option Nat) := []
theorem f_X12_guardsAt_L5_B_fw {n : Nat} {a1 : Int32} {a2 : Int32} {a3 : Int32} {a4 : Int32} {q5 : Int32 → Int32 → Int32 → Int32 → hq_S → Option (Int32 × hq_S)} {s : hq_S} {y : (Int32 × hq_S)} (e5 : ∀ (a1 : Int32) (a2 : Int32) (a3 : Int32) (a4 : Int32) (s : hq_S), q5 a1 a2 a3 a4 s = some y → hq_fc w_X12_guardsAt s y.2) (h : f_X12_guardsAt_L5_B n q5 a1 a2 a3 a4 s = some y) : hq_fc w_X12_guardsAt s y.2 := by
  unfold f_X12_guardsAt_L5_B at h
  have t := hq_fc_rf w_X12_guardsAt s
  obtain ⟨x1, hx1, h⟩ := hq_bind h
  by_cases c2 : a4 < x1
  · rw [if_pos c2] at h
    obtain ⟨x3, hx3, h⟩ := hq_bind h
    obtain ⟨z4, hz4, h⟩ := hq_bind h
    exact hq_fc_tr t (e5 a1 a2 (a3 ||| z4) (a4 + (1 : Int32)) s h)
  · rw [if_neg c2] at h
    have h := Option.some.inj h
    subst h
    exact t
theorem f_X12_guardsAt_L5_fw {n m : Nat} {a1 : Int32} {a2 : Int32} {a3 : Int32} {a4 : Int32} {s : hq_S} {y : (Int32 × hq_S)} (h : f_X12_guardsAt_L5 n m a1 a2 a3 a4 s = some y) : hq_fc w_X12_guardsAt s y.2 := by
  induction m generalizing a1 a2 a3 a4 s with
  | zero => cases h
  | succ m ih => exact f_X12_guardsAt_L5_B_fw (n := n) (a1 := a1) (a2 := a2) (a3 := a3) (a4 := a4) (q5 := f_X12_guardsAt_L5 n m) (fun a1 a2 a3 a4 s h => ih h) h
theorem f_X12_guardsAt_fw {n : Nat} {a1 : Int32} {a2 : Int32} {s : hq_S} {y : (Int32 × hq_S)} (h : f_X12_guardsAt n a1 a2 s = some y) : hq_fc w_X12_guardsAt s y.2 := by
  unfold f_X12_guardsAt at h
  have t := hq_fc_rf w_X12_guardsAt s
  exact hq_fc_tr t (f_X12_guardsAt_L5_fw h)
def w_X12_isFree : List (Nat × Option Nat) := []
theorem f_X12_isFree_fw {n : Nat} {a1 : Int32} {a2 : Int32} {s : hq_S} {y : (Int32 × hq_S)} (h : f_X12_isFree n a1 a2 s = some y) : hq_fc w_X12_isFree s y.2 := by
  unfold f_X12_isFree at h
  have t := hq_fc_rf w_X12_isFree s
  obtain ⟨x1, hx1, h⟩ := hq_bind h
  by_cases c2 : x1 = (-1 : Int32)
  · rw [if_pos c2] at h
    have h := Option.some.inj h
    subst h
    exact t
  · rw [if_neg c2] at h
    have h := Option.some.inj h
    subst h
    exact t
def w_X12_boldOf : List (Nat × Option Nat) := []
theorem f_X12_boldOf_fw {n : Nat} {a1 : Int32} {s : hq_S} {y : (Int32 × hq_S)} (h : f_X12_boldOf n a1 s = some y) : hq_fc w_X12_boldOf s y.2 := by
  unfold f_X12_boldOf at h
  have t := hq_fc_rf w_X12_boldOf s
  by_cases c1 : a1 = (hq_gi s 174 53)
  · rw [if_pos c1] at h
    have h := Option.some.inj h
    subst h
    exact t
  · rw [if_neg c1] at h
    obtain ⟨x2, hx2, h⟩ := hq_bind h
    have h := Option.some.inj h
    subst h
    exact t
def w_X12_calls : List (Nat × Option Nat) := [(194, none)]
theorem f_X12_calls_fw {n : Nat} {a1 : Int32} {a2 : Int32} {a3 : Int32} {s : hq_S} {y : hq_S} (h : f_X12_calls n a1 a2 a3 s = some y) : hq_fc w_X12_calls s y := by
  unfold f_X12_calls at h
  have t := hq_fc_rf w_X12_calls s
  obtain ⟨x1, hx1, h⟩ := hq_bind h
  obtain ⟨s2, hs2, h⟩ := hq_bind h
  have t := hq_fc_tr t (hq_fc_stj hs2 (by decide))
  obtain ⟨y3, hy3, h⟩ := hq_bind h
  have t := hq_fc_tr t (hq_fc_mono (by decide) (f_X12_farOf_fw hy3))
  obtain ⟨s4, hs4, h⟩ := hq_bind h
  have t := hq_fc_tr t (hq_fc_stj hs4 (by decide))
  obtain ⟨x5, hx5, h⟩ := hq_bind h
  obtain ⟨s6, hs6, h⟩ := hq_bind h
  have t := hq_fc_tr t (hq_fc_stj hs6 (by decide))
  obtain ⟨y7, hy7, h⟩ := hq_bind h
  have t := hq_fc_tr t (hq_fc_mono (by decide) (f_X12_boldOf_fw hy7))
  obtain ⟨s8, hs8, h⟩ := hq_bind h
  have t := hq_fc_tr t (hq_fc_stj hs8 (by decide))
  obtain ⟨x9, hx9, h⟩ := hq_bind h
  obtain ⟨s10, hs10, h⟩ := hq_bind h
  have t := hq_fc_tr t (hq_fc_stj hs10 (by decide))
  obtain ⟨y11, hy11, h⟩ := hq_bind h
  have t := hq_fc_tr t (hq_fc_mono (by decide) (f_X12_guardsAt_fw hy11))
  obtain ⟨y12, hy12, h⟩ := hq_bind h
  have t := hq_fc_tr t (hq_fc_mono (by decide) (f_X12_bitsOf_fw hy12))
  obtain ⟨s13, hs13, h⟩ := hq_bind h
  have t := hq_fc_tr t (hq_fc_stj hs13 (by decide))
  obtain ⟨x14, hx14, h⟩ := hq_bind h
  obtain ⟨s15, hs15, h⟩ := hq_bind h
  have t := hq_fc_tr t (hq_fc_stj hs15 (by decide))
  have h := Option.some.inj h
  subst h
  exact t
def w_X12_dreadOf : List (Nat × Option Nat) := [(174, some 36), (194, none), (195, none)]
theorem f_X12_dreadOf_J23_fw {n : Nat} {a1 : Int32} {a2 : Int32} {a3 : Int32} {s : hq_S} {y : (Int64 × hq_S)} (h : f_X12_dreadOf_J23 n a1 a2 a3 s = some y) : hq_fc w_X12_dreadOf s y.2 := by
  unfold f_X12_dreadOf_J23 at h
  have t := hq_fc_rf w_X12_dreadOf s
  obtain ⟨x4, hx4, h⟩ := hq_bind h
  obtain ⟨y5, hy5, h⟩ := hq_bind h
  have t := hq_fc_tr t (hq_fc_mono (by decide) (f_X12_farOf_fw hy5))
  have h := Option.some.inj h
  subst h
  exact t
theorem f_X12_dreadOf_fw {n : Nat} {a1 : Int32} {a2 : Int32} {a3 : Int32} {s : hq_S} {y : (Int64 × hq_S)} (h : f_X12_dreadOf n a1 a2 a3 s = some y) : hq_fc w_X12_dreadOf s y.2 := by
  unfold f_X12_dreadOf at h
  have t := hq_fc_rf w_X12_dreadOf s
  obtain ⟨s1, hs1, h⟩ := hq_bind h
  have t := hq_fc_tr t (hq_fc_mono (by decide) (f_X12_calls_fw hs1))
  obtain ⟨y2, hy2, h⟩ := hq_bind h
  have t := hq_fc_tr t (hq_fc_mono (by decide) (f_X12_hasLaw_fw hy2))
  by_cases c3 : y2.1 = 0
  · rw [if_pos c3] at h
    exact hq_fc_tr t (f_X12_dreadOf_J23_fw h)
  · rw [if_neg c3] at h
    obtain ⟨y6, hy6, h⟩ := hq_bind h
    have t := hq_fc_tr t (hq_fc_mono (by decide) (f_X12_goes_fw hy6))
    by_cases c7 : y6.1 = 0
    · rw [if_pos c7] at h
      exact hq_fc_tr t (f_X12_dreadOf_J23_fw h)
    · rw [if_neg c7] at h
      obtain ⟨x8, hx8, h⟩ := hq_bind h
      have h := Option.some.inj h
      subst h
      exact t
def w_X12_doesStir : List (Nat × Option Nat) := [(174, some 36), (194, none), (195, none)]
theorem f_X12_doesStir_J53_fw {n : Nat} {a1 : Int32} {a2 : Int32} {s : hq_S} {y : (Int32 × hq_S)} (h : f_X12_doesStir_J53 n a1 a2 s = some y) : hq_fc w_X12_doesStir s y.2 := by
  unfold f_X12_doesStir_J53 at h
  have t := hq_fc_rf w_X12_doesStir s
  have h := Option.some.inj h
  subst h
  exact t
theorem f_X12_doesStir_fw {n : Nat} {a1 : Int32} {a2 : Int32} {s : hq_S} {y : (Int32 × hq_S)} (h : f_X12_doesStir n a1 a2 s = some y) : hq_fc w_X12_doesStir s y.2 := by
  unfold f_X12_doesStir at h
  have t := hq_fc_rf w_X12_doesStir s
  by_cases c1 : (hq_gi s 174 49) = (3 : Int32)
  · rw [if_pos c1] at h
    have h := Option.some.inj h
    subst h
    exact t
  · rw [if_neg c1] at h
    obtain ⟨x2, hx2, h⟩ := hq_bind h
    obtain ⟨s3, hs3, h⟩ := hq_bind h
    have t := hq_fc_tr t (hq_fc_mono (by decide) (f_X12_calls_fw hs3))
    obtain ⟨y4, hy4, h⟩ := hq_bind h
    have t := hq_fc_tr t (hq_fc_mono (by decide) (f_X12_hasLaw_fw hy4))
    by_cases c5 : y4.1 = 0
    · rw [if_pos c5] at h
      exact hq_fc_tr t (f_X12_doesStir_J53_fw h)
    · rw [if_neg c5] at h
      obtain ⟨y6, hy6, h⟩ := hq_bind h
      have t := hq_fc_tr t (hq_fc_mono (by decide) (f_X12_goes_fw hy6))
      by_cases c7 : y6.1 = 0
      · rw [if_pos c7] at h
        exact hq_fc_tr t (f_X12_doesStir_J53_fw h)
      · rw [if_neg c7] at h
        obtain ⟨x8, hx8, h⟩ := hq_bind h
        by_cases c9 : (lg_cmp x8 (0 : Int64)) = 0
        · rw [if_pos c9] at h
          have h := Option.some.inj h
          subst h
          exact t
        · rw [if_neg c9] at h
          exact hq_fc_tr t (f_X12_doesStir_J53_fw h)
def w_X12_nearer : List (Nat × Option Nat) := []
theorem f_X12_nearer_J53_fw {n : Nat} {a1 : Int32} {a2 : Int32} {a3 : Int32} {q2 : Int32 → Int32 → Int32 → hq_S → Option (Int32 × hq_S)} {s : hq_S} {y : (Int32 × hq_S)} (e2 : ∀ (a1 : Int32) (a2 : Int32) (a3 : Int32) (s : hq_S), q2 a1 a2 a3 s = some y → hq_fc w_X12_nearer s y.2) (h : f_X12_nearer_J53 n q2 a1 a2 a3 s = some y) : hq_fc w_X12_nearer s y.2 := by
  unfold f_X12_nearer_J53 at h
  have t := hq_fc_rf w_X12_nearer s
  exact hq_fc_tr t (e2 a1 a2 (a3 + (1 : Int32)) s h)
theorem f_X12_nearer_L2_B_fw {n : Nat} {a1 : Int32} {a2 : Int32} {a3 : Int32} {q2 : Int32 → Int32 → Int32 → hq_S → Option (Int32 × hq_S)} {s : hq_S} {y : (Int32 × hq_S)} (e2 : ∀ (a1 : Int32) (a2 : Int32) (a3 : Int32) (s : hq_S), q2 a1 a2 a3 s = some y → hq_fc w_X12_nearer s y.2) (h : f_X12_nearer_L2_B n q2 a1 a2 a3 s = some y) : hq_fc w_X12_nearer s y.2 := by
  unfold f_X12_nearer_L2_B at h
  have t := hq_fc_rf w_X12_nearer s
  obtain ⟨x1, hx1, h⟩ := hq_bind h
  by_cases c2 : a3 < x1
  · rw [if_pos c2] at h
    obtain ⟨x3, hx3, h⟩ := hq_bind h
    by_cases c4 : ((x3 >>> (a3 &&& 31)) &&& (1 : Int32)) = (1 : Int32)
    · rw [if_pos c4] at h
      obtain ⟨x5, hx5, h⟩ := hq_bind h
      obtain ⟨x6, hx6, h⟩ := hq_bind h
      by_cases c7 : x5 < x6
      · rw [if_pos c7] at h
        have h := Option.some.inj h
        subst h
        exact t
      · rw [if_neg c7] at h
        exact hq_fc_tr t (f_X12_nearer_J53_fw e2 h)
    · rw [if_neg c4] at h
      exact hq_fc_tr t (f_X12_nearer_J53_fw e2 h)
  · rw [if_neg c2] at h
    have h := Option.some.inj h
    subst h
    exact t
theorem f_X12_nearer_L2_fw {n m : Nat} {a1 : Int32} {a2 : Int32} {a3 : Int32} {s : hq_S} {y : (Int32 × hq_S)} (h : f_X12_nearer_L2 n m a1 a2 a3 s = some y) : hq_fc w_X12_nearer s y.2 := by
  induction m generalizing a1 a2 a3 s with
  | zero => cases h
  | succ m ih => exact f_X12_nearer_L2_B_fw (n := n) (a1 := a1) (a2 := a2) (a3 := a3) (q2 := f_X12_nearer_L2 n m) (fun a1 a2 a3 s h => ih h) h
theorem f_X12_nearer_fw {n : Nat} {a1 : Int32} {a2 : Int32} {s : hq_S} {y : (Int32 × hq_S)} (h : f_X12_nearer n a1 a2 s = some y) : hq_fc w_X12_nearer s y.2 := by
  unfold f_X12_nearer at h
  have t := hq_fc_rf w_X12_nearer s
  exact hq_fc_tr t (f_X12_nearer_L2_fw h)
def w_X12_walks : List (Nat × Option Nat) := [(200, none), (201, none)]
theorem f_X12_walks_J32_fw {n : Nat} {a1 : Int32} {a2 : Int32} {a3 : Int32} {s : hq_S} {y : hq_S} (h : f_X12_walks_J32 n a1 a2 a3 s = some y) : hq_fc w_X12_walks s y := by
  unfold f_X12_walks_J32 at h
  have t := hq_fc_rf w_X12_walks s
  obtain ⟨x4, hx4, h⟩ := hq_bind h
  obtain ⟨x5, hx5, h⟩ := hq_bind h
  obtain ⟨x6, hx6, h⟩ := hq_bind h
  obtain ⟨z7, hz7, h⟩ := hq_bind h
  have t : hq_fc w_X12_walks s z7 := by
    clear h
    have h := hz7
    by_cases c8 : x4 = x6
    · rw [if_pos c8] at h
      obtain ⟨x9, hx9, h⟩ := hq_bind h
      obtain ⟨x10, hx10, h⟩ := hq_bind h
      obtain ⟨x11, hx11, h⟩ := hq_bind h
      obtain ⟨s12, hs12, h⟩ := hq_bind h
      have t := hq_fc_tr t (hq_fc_st hs12 (by decide))
      cases h
      exact t
    · rw [if_neg c8] at h
      cases h
      exact t
  obtain ⟨x13, hx13, h⟩ := hq_bind h
  obtain ⟨x14, hx14, h⟩ := hq_bind h
  obtain ⟨x15, hx15, h⟩ := hq_bind h
  by_cases c16 : x15 = x14
  · rw [if_pos c16] at h
    have h := Option.some.inj h
    subst h
    exact t
  · rw [if_neg c16] at h
    obtain ⟨x17, hx17, h⟩ := hq_bind h
    obtain ⟨y18, hy18, h⟩ := hq_bind h
    have t := hq_fc_tr t (hq_fc_mono (by decide) (f_X12_nearer_fw hy18))
    obtain ⟨s19, hs19, h⟩ := hq_bind h
    have t := hq_fc_tr t (hq_fc_st hs19 (by decide))
    have h := Option.some.inj h
    subst h
    exact t
theorem f_X12_walks_fw {n : Nat} {a1 : Int32} {a2 : Int32} {s : hq_S} {y : hq_S} (h : f_X12_walks n a1 a2 s = some y) : hq_fc w_X12_walks s y := by
  unfold f_X12_walks at h
  have t := hq_fc_rf w_X12_walks s
  obtain ⟨x1, hx1, h⟩ := hq_bind h
  by_cases c2 : x1 = 0
  · rw [if_pos c2] at h
    have h := Option.some.inj h
    subst h
    exact t
  · rw [if_neg c2] at h
    by_cases c3 : (hq_gi s 174 49) = (2 : Int32)
    · rw [if_pos c3] at h
      by_cases c20 : a2 = (hq_gi s 174 50)
      · rw [if_pos c20] at h
        have h := Option.some.inj h
        subst h
        exact t
      · rw [if_neg c20] at h
        exact hq_fc_tr t (f_X12_walks_J32_fw h)
    · rw [if_neg c3] at h
      exact hq_fc_tr t (f_X12_walks_J32_fw h)
def w_X12_stirs : List (Nat × Option Nat) := [(174, some 36), (194, none), (195, none), (203, none)]
theorem f_X12_stirs_J99_fw {n : Nat} {a1 : Int32} {a2 : Int32} {a3 : Int32} {a4 : Int32} {j5 : Int64} {a7 : Int32} {a8 : Int32} {q46 : Int32 → Int32 → Int32 → Int32 → Int64 → Int32 → Int32 → hq_S → Option hq_S} {s : hq_S} {y : hq_S} (e46 : ∀ (a1 : Int32) (a2 : Int32) (a3 : Int32) (a4 : Int32) (j5 : Int64) (a7 : Int32) (a8 : Int32) (o9 : Option Value) (s : hq_S), q46 a1 a2 a3 a4 j5 a7 a8 s = some y → hq_fc w_X12_stirs s y) (h : f_X12_stirs_J99 n q46 a1 a2 a3 a4 j5 a7 a8 s = some y) : hq_fc w_X12_stirs s y := by
  unfold f_X12_stirs_J99 at h
  have t := hq_fc_rf w_X12_stirs s
  exact hq_fc_tr t (e46 a1 a2 a3 a4 j5 a7 (a8 + (1 : Int32)) none s h)
theorem f_X12_stirs_L46_B_fw {n : Nat} {a1 : Int32} {a2 : Int32} {a3 : Int32} {a4 : Int32} {j5 : Int64} {a7 : Int32} {a8 : Int32} {q46 : Int32 → Int32 → Int32 → Int32 → Int64 → Int32 → Int32 → hq_S → Option hq_S} {s : hq_S} {y : hq_S} (e46 : ∀ (a1 : Int32) (a2 : Int32) (a3 : Int32) (a4 : Int32) (j5 : Int64) (a7 : Int32) (a8 : Int32) (o9 : Option Value) (s : hq_S), q46 a1 a2 a3 a4 j5 a7 a8 s = some y → hq_fc w_X12_stirs s y) (h : f_X12_stirs_L46_B n q46 a1 a2 a3 a4 j5 a7 a8 s = some y) : hq_fc w_X12_stirs s y := by
  unfold f_X12_stirs_L46_B at h
  have t := hq_fc_rf w_X12_stirs s
  obtain ⟨x6, hx6, h⟩ := hq_bind h
  by_cases c7 : a8 < x6
  · rw [if_pos c7] at h
    by_cases c10 : ((a7 >>> (a8 &&& 31)) &&& (1 : Int32)) = 0
    · rw [if_pos c10] at h
      exact hq_fc_tr t (f_X12_stirs_J99_fw e46 h)
    · rw [if_neg c10] at h
      obtain ⟨y11, hy11, h⟩ := hq_bind h
      have t := hq_fc_tr t (hq_fc_mono (by decide) (f_X12_dreadOf_fw hy11))
      obtain ⟨z12, hz12, h⟩ := hq_bind h
      exact hq_fc_tr t (e46 a1 a2 a3 z12.1 z12.2 a7 (a8 + (1 : Int32)) none y11.2 h)
  · rw [if_neg c7] at h
    obtain ⟨s8, hs8, h⟩ := hq_bind h
    have t := hq_fc_tr t (hq_fc_st hs8 (by decide))
    have h := Option.some.inj h
    subst h
    exact t
theorem f_X12_stirs_L46_fw {n m : Nat} {a1 : Int32} {a2 : Int32} {a3 : Int32} {a4 : Int32} {j5 : Int64} {a7 : Int32} {a8 : Int32} {s : hq_S} {y : hq_S} (h : f_X12_stirs_L46 n m a1 a2 a3 a4 j5 a7 a8 s = some y) : hq_fc w_X12_stirs s y := by
  induction m generalizing a1 a2 a3 a4 j5 a7 a8 s with
  | zero => cases h
  | succ m ih => exact f_X12_stirs_L46_B_fw (n := n) (a1 := a1) (a2 := a2) (a3 := a3) (a4 := a4) (j5 := j5) (a7 := a7) (a8 := a8) (q46 := f_X12_stirs_L46 n m) (fun a1 a2 a3 a4 j5 a7 a8 _ s h => ih h) h
theorem f_X12_stirs_fw {n : Nat} {a1 : Int32} {a2 : Int32} {s : hq_S} {y : hq_S} (h : f_X12_stirs n a1 a2 s = some y) : hq_fc w_X12_stirs s y := by
  unfold f_X12_stirs at h
  have t := hq_fc_rf w_X12_stirs s
  obtain ⟨y1, hy1, h⟩ := hq_bind h
  have t := hq_fc_tr t (hq_fc_mono (by decide) (f_X12_doesStir_fw hy1))
  by_cases c2 : y1.1 = 0
  · rw [if_pos c2] at h
    have h := Option.some.inj h
    subst h
    exact t
  · rw [if_neg c2] at h
    obtain ⟨x3, hx3, h⟩ := hq_bind h
    obtain ⟨y4, hy4, h⟩ := hq_bind h
    have t := hq_fc_tr t (hq_fc_mono (by decide) (f_X12_dreadOf_fw hy4))
    obtain ⟨x5, hx5, h⟩ := hq_bind h
    exact hq_fc_tr t (f_X12_stirs_L46_fw h)
def w_X12_doesGrip : List (Nat × Option Nat) := [(197, none)]
theorem f_X12_doesGrip_J41_fw {n : Nat} {a1 : Int32} {a2 : Int32} {a3 : Int32} {s : hq_S} {y : (Int32 × hq_S)} (h : f_X12_doesGrip_J41 n a1 a2 a3 s = some y) : hq_fc w_X12_doesGrip s y.2 := by
  unfold f_X12_doesGrip_J41 at h
  have t := hq_fc_rf w_X12_doesGrip s
  by_cases c5 : a3 < (50 : Int32)
  · rw [if_pos c5] at h
    have h := Option.some.inj h
    subst h
    exact t
  · rw [if_neg c5] at h
    have h := Option.some.inj h
    subst h
    exact t
theorem f_X12_doesGrip_fw {n : Nat} {a1 : Int32} {a2 : Int32} {s : hq_S} {y : (Int32 × hq_S)} (h : f_X12_doesGrip n a1 a2 s = some y) : hq_fc w_X12_doesGrip s y.2 := by
  unfold f_X12_doesGrip at h
  have t := hq_fc_rf w_X12_doesGrip s
  by_cases c1 : (hq_gi s 174 49) = (5 : Int32)
  · rw [if_pos c1] at h
    have h := Option.some.inj h
    subst h
    exact t
  · rw [if_neg c1] at h
    by_cases c2 : (hq_gi s 174 49) = (1 : Int32)
    · rw [if_pos c2] at h
      have h := Option.some.inj h
      subst h
      exact t
    · rw [if_neg c2] at h
      obtain ⟨x3, hx3, h⟩ := hq_bind h
      by_cases c4 : a2 = 0
      · rw [if_pos c4] at h
        exact hq_fc_tr t (f_X12_doesGrip_J41_fw h)
      · rw [if_neg c4] at h
        by_cases c6 : x3 = 0
        · rw [if_pos c6] at h
          exact hq_fc_tr t (f_X12_doesGrip_J41_fw h)
        · rw [if_neg c6] at h
          by_cases c7 : x3 = (100 : Int32)
          · rw [if_pos c7] at h
            exact hq_fc_tr t (f_X12_doesGrip_J41_fw h)
          · rw [if_neg c7] at h
            obtain ⟨x8, hx8, h⟩ := hq_bind h
            obtain ⟨s9, hs9, h⟩ := hq_bind h
            have t := hq_fc_tr t (hq_fc_st hs9 (by decide))
            obtain ⟨x10, hx10, h⟩ := hq_bind h
            obtain ⟨x11, hx11, h⟩ := hq_bind h
            by_cases c12 : x11 < x3
            · rw [if_pos c12] at h
              have h := Option.some.inj h
              subst h
              exact t
            · rw [if_neg c12] at h
              have h := Option.some.inj h
              subst h
              exact t
def w_X12_takes : List (Nat × Option Nat) := [(174, some 36), (194, none), (195, none), (199, none), (204, none)]
theorem f_X12_takes_fw {n : Nat} {a1 : Int32} {a2 : Int32} {s : hq_S} {y : hq_S} (h : f_X12_takes n a1 a2 s = some y) : hq_fc w_X12_takes s y := by
  unfold f_X12_takes at h
  have t := hq_fc_rf w_X12_takes s
  obtain ⟨x1, hx1, h⟩ := hq_bind h
  obtain ⟨y2, hy2, h⟩ := hq_bind h
  have t := hq_fc_tr t (hq_fc_mono (by decide) (f_X12_boldOf_fw hy2))
  obtain ⟨x3, hx3, h⟩ := hq_bind h
  obtain ⟨s4, hs4, h⟩ := hq_bind h
  have t := hq_fc_tr t (hq_fc_mono (by decide) (f_X12_calls_fw hs4))
  obtain ⟨y5, hy5, h⟩ := hq_bind h
  have t := hq_fc_tr t (hq_fc_mono (by decide) (f_X12_hasLaw_fw hy5))
  obtain ⟨z6, hz6, h⟩ := hq_bind h
  have t : hq_fc w_X12_takes s z6.2 := by
    clear h
    have h := hz6
    by_cases c7 : y5.1 = 0
    · rw [if_pos c7] at h
      cases h
      exact t
    · rw [if_neg c7] at h
      obtain ⟨y8, hy8, h⟩ := hq_bind h
      have t := hq_fc_tr t (hq_fc_mono (by decide) (f_X12_goes_fw hy8))
      by_cases c9 : y8.1 = 0
      · rw [if_pos c9] at h
        cases h
        exact t
      · rw [if_neg c9] at h
        obtain ⟨x10, hx10, h⟩ := hq_bind h
        cases h
        exact t
  obtain ⟨x11, hx11, h⟩ := hq_bind h
  obtain ⟨x12, hx12, h⟩ := hq_bind h
  obtain ⟨s13, hs13, h⟩ := hq_bind h
  have t := hq_fc_tr t (hq_fc_st hs13 (by decide))
  obtain ⟨x14, hx14, h⟩ := hq_bind h
  obtain ⟨s15, hs15, h⟩ := hq_bind h
  have t := hq_fc_tr t (hq_fc_st hs15 (by decide))
  have h := Option.some.inj h
  subst h
  exact t
def w_X12_passes : List (Nat × Option Nat) := [(174, some 36), (194, none), (195, none), (196, none), (197, none), (199, none), (200, none), (201, none), (202, none), (203, none), (204, none), (205, none), (206, none), (207, none)]
theorem f_X12_passes_L174_B_fw {n : Nat} {a1 : Int32} {a2 : Int32} {a3 : Int32} {q174 : Int32 → Int32 → Int32 → hq_S → Option hq_S} {s : hq_S} {y : hq_S} (e174 : ∀ (a1 : Int32) (a2 : Int32) (a3 : Int32) (o4 : Option Value) (s : hq_S), q174 a1 a2 a3 s = some y → hq_fc w_X12_passes s y) (h : f_X12_passes_L174_B n q174 a1 a2 a3 s = some y) : hq_fc w_X12_passes s y := by
  unfold f_X12_passes_L174_B at h
  have t := hq_fc_rf w_X12_passes s
  obtain ⟨x8, hx8, h⟩ := hq_bind h
  by_cases c9 : a3 < x8
  · rw [if_pos c9] at h
    obtain ⟨y12, hy12, h⟩ := hq_bind h
    have t := hq_fc_tr t (hq_fc_mono (by decide) (f_X12_isFree_fw hy12))
    obtain ⟨z13, hz13, h⟩ := hq_bind h
    have t : hq_fc w_X12_passes s z13 := by
      clear h
      have h := hz13
      by_cases c14 : y12.1 = 0
      · rw [if_pos c14] at h
        cases h
        exact t
      · rw [if_neg c14] at h
        obtain ⟨s15, hs15, h⟩ := hq_bind h
        have t := hq_fc_tr t (hq_fc_mono (by decide) (f_X12_takes_fw hs15))
        cases h
        exact t
    exact hq_fc_tr t (e174 a1 a2 (a3 + (1 : Int32)) none z13 h)
  · rw [if_neg c9] at h
    obtain ⟨x10, hx10, h⟩ := hq_bind h
    obtain ⟨s11, hs11, h⟩ := hq_bind h
    have t := hq_fc_tr t (hq_fc_st hs11 (by decide))
    have h := Option.some.inj h
    subst h
    exact t
theorem f_X12_passes_L174_fw {n m : Nat} {a1 : Int32} {a2 : Int32} {a3 : Int32} {s : hq_S} {y : hq_S} (h : f_X12_passes_L174 n m a1 a2 a3 s = some y) : hq_fc w_X12_passes s y := by
  induction m generalizing a1 a2 a3 s with
  | zero => cases h
  | succ m ih => exact f_X12_passes_L174_B_fw (n := n) (a1 := a1) (a2 := a2) (a3 := a3) (q174 := f_X12_passes_L174 n m) (fun a1 a2 a3 _ s h => ih h) h
theorem f_X12_passes_L77_B_fw {n : Nat} {a1 : Int32} {a2 : Int32} {a3 : Int32} {a4 : Int32} {q64 : Int32 → Int32 → Int32 → hq_S → Option hq_S} {q77 : Int32 → Int32 → Int32 → Int32 → hq_S → Option hq_S} {s : hq_S} {y : hq_S} (e64 : ∀ (a1 : Int32) (a2 : Int32) (a3 : Int32) (o4 : Option Value) (s : hq_S), q64 a1 a2 a3 s = some y → hq_fc w_X12_passes s y) (e77 : ∀ (a1 : Int32) (a2 : Int32) (a3 : Int32) (a4 : Int32) (s : hq_S), q77 a1 a2 a3 a4 s = some y → hq_fc w_X12_passes s y) (h : f_X12_passes_L77_B n q64 q77 a1 a2 a3 a4 s = some y) : hq_fc w_X12_passes s y := by
  unfold f_X12_passes_L77_B at h
  have t := hq_fc_rf w_X12_passes s
  obtain ⟨x16, hx16, h⟩ := hq_bind h
  by_cases c17 : a4 < x16
  · rw [if_pos c17] at h
    obtain ⟨y18, hy18, h⟩ := hq_bind h
    have t := hq_fc_tr t (hq_fc_mono (by decide) (f_X12_isFree_fw hy18))
    obtain ⟨z19, hz19, h⟩ := hq_bind h
    have t : hq_fc w_X12_passes s z19 := by
      clear h
      have h := hz19
      by_cases c20 : y18.1 = 0
      · rw [if_pos c20] at h
        cases h
        exact t
      · rw [if_neg c20] at h
        obtain ⟨x21, hx21, h⟩ := hq_bind h
        obtain ⟨x22, hx22, h⟩ := hq_bind h
        by_cases c23 : x21 = x22
        · rw [if_pos c23] at h
          obtain ⟨y24, hy24, h⟩ := hq_bind h
          have t := hq_fc_tr t (hq_fc_mono (by decide) (f_X12_doesGrip_fw hy24))
          by_cases c25 : y24.1 = 0
          · rw [if_pos c25] at h
            cases h
            exact t
          · rw [if_neg c25] at h
            obtain ⟨s26, hs26, h⟩ := hq_bind h
            have t := hq_fc_tr t (hq_fc_st hs26 (by decide))
            obtain ⟨x27, hx27, h⟩ := hq_bind h
            obtain ⟨s28, hs28, h⟩ := hq_bind h
            have t := hq_fc_tr t (hq_fc_st hs28 (by decide))
            cases h
            exact t
        · rw [if_neg c23] at h
          cases h
          exact t
    exact hq_fc_tr t (e77 a1 a2 a3 (a4 + (1 : Int32)) z19 h)
  · rw [if_neg c17] at h
    exact hq_fc_tr t (e64 a1 a2 (a3 + (1 : Int32)) none s h)
theorem f_X12_passes_L77_fw {n m : Nat} {a1 : Int32} {a2 : Int32} {a3 : Int32} {a4 : Int32} {q64 : Int32 → Int32 → Int32 → hq_S → Option hq_S} {s : hq_S} {y : hq_S} (e64 : ∀ (a1 : Int32) (a2 : Int32) (a3 : Int32) (o4 : Option Value) (s : hq_S), q64 a1 a2 a3 s = some y → hq_fc w_X12_passes s y) (h : f_X12_passes_L77 n q64 m a1 a2 a3 a4 s = some y) : hq_fc w_X12_passes s y := by
  induction m generalizing a1 a2 a3 a4 s with
  | zero => cases h
  | succ m ih => exact f_X12_passes_L77_B_fw (n := n) (a1 := a1) (a2 := a2) (a3 := a3) (a4 := a4) (q77 := f_X12_passes_L77 n q64 m) e64 (fun a1 a2 a3 a4 s h => ih h) h
theorem f_X12_passes_L64_B_fw {n : Nat} {a1 : Int32} {a2 : Int32} {a3 : Int32} {q64 : Int32 → Int32 → Int32 → hq_S → Option hq_S} {s : hq_S} {y : hq_S} (e64 : ∀ (a1 : Int32) (a2 : Int32) (a3 : Int32) (o4 : Option Value) (s : hq_S), q64 a1 a2 a3 s = some y → hq_fc w_X12_passes s y) (h : f_X12_passes_L64_B n q64 a1 a2 a3 s = some y) : hq_fc w_X12_passes s y := by
  unfold f_X12_passes_L64_B at h
  have t := hq_fc_rf w_X12_passes s
  obtain ⟨x6, hx6, h⟩ := hq_bind h
  by_cases c7 : a3 < x6
  · rw [if_pos c7] at h
    exact hq_fc_tr t (f_X12_passes_L77_fw e64 h)
  · rw [if_neg c7] at h
    exact hq_fc_tr t (f_X12_passes_L174_fw h)
theorem f_X12_passes_L64_fw {n m : Nat} {a1 : Int32} {a2 : Int32} {a3 : Int32} {s : hq_S} {y : hq_S} (h : f_X12_passes_L64 n m a1 a2 a3 s = some y) : hq_fc w_X12_passes s y := by
  induction m generalizing a1 a2 a3 s with
  | zero => cases h
  | succ m ih => exact f_X12_passes_L64_B_fw (n := n) (a1 := a1) (a2 := a2) (a3 := a3) (q64 := f_X12_passes_L64 n m) (fun a1 a2 a3 _ s h => ih h) h
theorem f_X12_passes_L31_B_fw {n : Nat} {a1 : Int32} {a2 : Int32} {a3 : Int32} {q31 : Int32 → Int32 → Int32 → hq_S → Option hq_S} {s : hq_S} {y : hq_S} (e31 : ∀ (a1 : Int32) (a2 : Int32) (a3 : Int32) (s : hq_S), q31 a1 a2 a3 s = some y → hq_fc w_X12_passes s y) (h : f_X12_passes_L31_B n q31 a1 a2 a3 s = some y) : hq_fc w_X12_passes s y := by
  unfold f_X12_passes_L31_B at h
  have t := hq_fc_rf w_X12_passes s
  obtain ⟨x4, hx4, h⟩ := hq_bind h
  by_cases c5 : a3 < x4
  · rw [if_pos c5] at h
    obtain ⟨y29, hy29, h⟩ := hq_bind h
    have t := hq_fc_tr t (hq_fc_mono (by decide) (f_X12_isFree_fw hy29))
    obtain ⟨z30, hz30, h⟩ := hq_bind h
    have t : hq_fc w_X12_passes s z30 := by
      clear h
      have h := hz30
      by_cases c31 : y29.1 = 0
      · rw [if_pos c31] at h
        cases h
        exact t
      · rw [if_neg c31] at h
        obtain ⟨s32, hs32, h⟩ := hq_bind h
        have t := hq_fc_tr t (hq_fc_mono (by decide) (f_X12_stirs_fw hs32))
        cases h
        exact t
    exact hq_fc_tr t (e31 a1 a2 (a3 + (1 : Int32)) z30 h)
  · rw [if_neg c5] at h
    exact hq_fc_tr t (f_X12_passes_L64_fw h)
theorem f_X12_passes_L31_fw {n m : Nat} {a1 : Int32} {a2 : Int32} {a3 : Int32} {s : hq_S} {y : hq_S} (h : f_X12_passes_L31 n m a1 a2 a3 s = some y) : hq_fc w_X12_passes s y := by
  induction m generalizing a1 a2 a3 s with
  | zero => cases h
  | succ m ih => exact f_X12_passes_L31_B_fw (n := n) (a1 := a1) (a2 := a2) (a3 := a3) (q31 := f_X12_passes_L31 n m) (fun a1 a2 a3 s h => ih h) h
theorem f_X12_passes_L7_B_fw {n : Nat} {a1 : Int32} {a2 : Int32} {a3 : Int32} {q7 : Int32 → Int32 → Int32 → hq_S → Option hq_S} {s : hq_S} {y : hq_S} (e7 : ∀ (a1 : Int32) (a2 : Int32) (a3 : Int32) (s : hq_S), q7 a1 a2 a3 s = some y → hq_fc w_X12_passes s y) (h : f_X12_passes_L7_B n q7 a1 a2 a3 s = some y) : hq_fc w_X12_passes s y := by
  unfold f_X12_passes_L7_B at h
  have t := hq_fc_rf w_X12_passes s
  obtain ⟨x2, hx2, h⟩ := hq_bind h
  by_cases c3 : a3 < x2
  · rw [if_pos c3] at h
    obtain ⟨s33, hs33, h⟩ := hq_bind h
    have t := hq_fc_tr t (hq_fc_mono (by decide) (f_X12_walks_fw hs33))
    exact hq_fc_tr t (e7 a1 a2 (a3 + (1 : Int32)) s33 h)
  · rw [if_neg c3] at h
    exact hq_fc_tr t (f_X12_passes_L31_fw h)
theorem f_X12_passes_L7_fw {n m : Nat} {a1 : Int32} {a2 : Int32} {a3 : Int32} {s : hq_S} {y : hq_S} (h : f_X12_passes_L7 n m a1 a2 a3 s = some y) : hq_fc w_X12_passes s y := by
  induction m generalizing a1 a2 a3 s with
  | zero => cases h
  | succ m ih => exact f_X12_passes_L7_B_fw (n := n) (a1 := a1) (a2 := a2) (a3 := a3) (q7 := f_X12_passes_L7 n m) (fun a1 a2 a3 s h => ih h) h
theorem f_X12_passes_fw {n : Nat} {a1 : Int32} {a2 : Int32} {s : hq_S} {y : hq_S} (h : f_X12_passes n a1 a2 s = some y) : hq_fc w_X12_passes s y := by
  unfold f_X12_passes at h
  have t := hq_fc_rf w_X12_passes s
  obtain ⟨s1, hs1, h⟩ := hq_bind h
  have t := hq_fc_tr t (hq_fc_mono (by decide) (f_X12_lays_fw hs1))
  exact hq_fc_tr t (f_X12_passes_L7_fw h)
def w_X12_goesOn : List (Nat × Option Nat) := [(174, some 36), (194, none), (195, none), (196, none), (197, none), (199, none), (200, none), (201, none), (202, none), (203, none), (204, none), (205, none), (206, none), (207, none)]
theorem f_X12_goesOn_L2_B_fw {n : Nat} {a1 : Int32} {a2 : Int32} {q2 : Int32 → Int32 → hq_S → Option hq_S} {s : hq_S} {y : hq_S} (e2 : ∀ (a1 : Int32) (a2 : Int32) (s : hq_S), q2 a1 a2 s = some y → hq_fc w_X12_goesOn s y) (h : f_X12_goesOn_L2_B n q2 a1 a2 s = some y) : hq_fc w_X12_goesOn s y := by
  unfold f_X12_goesOn_L2_B at h
  have t := hq_fc_rf w_X12_goesOn s
  by_cases c1 : a2 < a1
  · rw [if_pos c1] at h
    obtain ⟨s2, hs2, h⟩ := hq_bind h
    have t := hq_fc_tr t (hq_fc_mono (by decide) (f_X12_passes_fw hs2))
    exact hq_fc_tr t (e2 a1 (a2 + (1 : Int32)) s2 h)
  · rw [if_neg c1] at h
    have h := Option.some.inj h
    subst h
    exact t
theorem f_X12_goesOn_L2_fw {n m : Nat} {a1 : Int32} {a2 : Int32} {s : hq_S} {y : hq_S} (h : f_X12_goesOn_L2 n m a1 a2 s = some y) : hq_fc w_X12_goesOn s y := by
  induction m generalizing a1 a2 s with
  | zero => cases h
  | succ m ih => exact f_X12_goesOn_L2_B_fw (n := n) (a1 := a1) (a2 := a2) (q2 := f_X12_goesOn_L2 n m) (fun a1 a2 s h => ih h) h
theorem f_X12_goesOn_fw {n : Nat} {a1 : Int32} {s : hq_S} {y : hq_S} (h : f_X12_goesOn n a1 s = some y) : hq_fc w_X12_goesOn s y := by
  unfold f_X12_goesOn at h
  have t := hq_fc_rf w_X12_goesOn s
  exact hq_fc_tr t (f_X12_goesOn_L2_fw h)
def w_X12_sumOf : List (Nat × Option Nat) := []
theorem f_X12_sumOf_L6_B_fw {n : Nat} {k1 : Nat} {a2 : Int32} {a3 : Int32} {a4 : Int32} {a5 : Int32} {q6 : Nat → Int32 → Int32 → Int32 → Int32 → hq_S → Option (Int32 × hq_S)} {s : hq_S} {y : (Int32 × hq_S)} (e6 : ∀ (k1 : Nat) (a2 : Int32) (a3 : Int32) (a4 : Int32) (a5 : Int32) (s : hq_S), q6 k1 a2 a3 a4 a5 s = some y → hq_fc w_X12_sumOf s y.2) (h : f_X12_sumOf_L6_B n q6 k1 a2 a3 a4 a5 s = some y) : hq_fc w_X12_sumOf s y.2 := by
  unfold f_X12_sumOf_L6_B at h
  have t := hq_fc_rf w_X12_sumOf s
  by_cases c1 : a5 < a2
  · rw [if_pos c1] at h
    obtain ⟨x2, hx2, h⟩ := hq_bind h
    exact hq_fc_tr t (e6 k1 a2 a3 (a4 + x2) (a5 + (1 : Int32)) s h)
  · rw [if_neg c1] at h
    have h := Option.some.inj h
    subst h
    exact t
theorem f_X12_sumOf_L6_fw {n m : Nat} {k1 : Nat} {a2 : Int32} {a3 : Int32} {a4 : Int32} {a5 : Int32} {s : hq_S} {y : (Int32 × hq_S)} (h : f_X12_sumOf_L6 n m k1 a2 a3 a4 a5 s = some y) : hq_fc w_X12_sumOf s y.2 := by
  induction m generalizing k1 a2 a3 a4 a5 s with
  | zero => cases h
  | succ m ih => exact f_X12_sumOf_L6_B_fw (n := n) (k1 := k1) (a2 := a2) (a3 := a3) (a4 := a4) (a5 := a5) (q6 := f_X12_sumOf_L6 n m) (fun k1 a2 a3 a4 a5 s h => ih h) h
theorem f_X12_sumOf_fw {n : Nat} {k1 : Nat} {a2 : Int32} {a3 : Int32} {s : hq_S} {y : (Int32 × hq_S)} (h : f_X12_sumOf n k1 a2 a3 s = some y) : hq_fc w_X12_sumOf s y.2 := by
  unfold f_X12_sumOf at h
  have t := hq_fc_rf w_X12_sumOf s
  exact hq_fc_tr t (f_X12_sumOf_L6_fw h)
def w_X12_caughtOnes : List (Nat × Option Nat) := []
theorem f_X12_caughtOnes_L4_B_fw {n : Nat} {a1 : Int32} {a2 : Int32} {a3 : Int32} {q4 : Int32 → Int32 → Int32 → hq_S → Option (Int32 × hq_S)} {s : hq_S} {y : (Int32 × hq_S)} (e4 : ∀ (a1 : Int32) (a2 : Int32) (a3 : Int32) (s : hq_S), q4 a1 a2 a3 s = some y → hq_fc w_X12_caughtOnes s y.2) (h : f_X12_caughtOnes_L4_B n q4 a1 a2 a3 s = some y) : hq_fc w_X12_caughtOnes s y.2 := by
  unfold f_X12_caughtOnes_L4_B at h
  have t := hq_fc_rf w_X12_caughtOnes s
  obtain ⟨x1, hx1, h⟩ := hq_bind h
  by_cases c2 : a3 < x1
  · rw [if_pos c2] at h
    obtain ⟨y3, hy3, h⟩ := hq_bind h
    have t := hq_fc_tr t (hq_fc_mono (by decide) (f_X12_isFree_fw hy3))
    obtain ⟨z4, hz4, h⟩ := hq_bind h
    exact hq_fc_tr t (e4 a1 (a2 + z4) (a3 + (1 : Int32)) y3.2 h)
  · rw [if_neg c2] at h
    have h := Option.some.inj h
    subst h
    exact t
theorem f_X12_caughtOnes_L4_fw {n m : Nat} {a1 : Int32} {a2 : Int32} {a3 : Int32} {s : hq_S} {y : (Int32 × hq_S)} (h : f_X12_caughtOnes_L4 n m a1 a2 a3 s = some y) : hq_fc w_X12_caughtOnes s y.2 := by
  induction m generalizing a1 a2 a3 s with
  | zero => cases h
  | succ m ih => exact f_X12_caughtOnes_L4_B_fw (n := n) (a1 := a1) (a2 := a2) (a3 := a3) (q4 := f_X12_caughtOnes_L4 n m) (fun a1 a2 a3 s h => ih h) h
theorem f_X12_caughtOnes_fw {n : Nat} {a1 : Int32} {s : hq_S} {y : (Int32 × hq_S)} (h : f_X12_caughtOnes n a1 s = some y) : hq_fc w_X12_caughtOnes s y.2 := by
  unfold f_X12_caughtOnes at h
  have t := hq_fc_rf w_X12_caughtOnes s
  exact hq_fc_tr t (f_X12_caughtOnes_L4_fw h)
def w_X12_thievesAt : List (Nat × Option Nat) := []
theorem f_X12_thievesAt_L4_B_fw {n : Nat} {a1 : Int32} {a2 : Int32} {a3 : Int32} {q4 : Int32 → Int32 → Int32 → hq_S → Option (Int32 × hq_S)} {s : hq_S} {y : (Int32 × hq_S)} (e4 : ∀ (a1 : Int32) (a2 : Int32) (a3 : Int32) (s : hq_S), q4 a1 a2 a3 s = some y → hq_fc w_X12_thievesAt s y.2) (h : f_X12_thievesAt_L4_B n q4 a1 a2 a3 s = some y) : hq_fc w_X12_thievesAt s y.2 := by
  unfold f_X12_thievesAt_L4_B at h
  have t := hq_fc_rf w_X12_thievesAt s
  obtain ⟨x1, hx1, h⟩ := hq_bind h
  by_cases c2 : a3 < x1
  · rw [if_pos c2] at h
    obtain ⟨y3, hy3, h⟩ := hq_bind h
    have t := hq_fc_tr t (hq_fc_mono (by decide) (f_X12_isFree_fw hy3))
    obtain ⟨z4, hz4, h⟩ := hq_bind h
    exact hq_fc_tr t (e4 a1 (a2 ||| z4) (a3 + (1 : Int32)) y3.2 h)
  · rw [if_neg c2] at h
    have h := Option.some.inj h
    subst h
    exact t
theorem f_X12_thievesAt_L4_fw {n m : Nat} {a1 : Int32} {a2 : Int32} {a3 : Int32} {s : hq_S} {y : (Int32 × hq_S)} (h : f_X12_thievesAt_L4 n m a1 a2 a3 s = some y) : hq_fc w_X12_thievesAt s y.2 := by
  induction m generalizing a1 a2 a3 s with
  | zero => cases h
  | succ m ih => exact f_X12_thievesAt_L4_B_fw (n := n) (a1 := a1) (a2 := a2) (a3 := a3) (q4 := f_X12_thievesAt_L4 n m) (fun a1 a2 a3 s h => ih h) h
theorem f_X12_thievesAt_fw {n : Nat} {a1 : Int32} {s : hq_S} {y : (Int32 × hq_S)} (h : f_X12_thievesAt n a1 s = some y) : hq_fc w_X12_thievesAt s y.2 := by
  unfold f_X12_thievesAt at h
  have t := hq_fc_rf w_X12_thievesAt s
  exact hq_fc_tr t (f_X12_thievesAt_L4_fw h)
def w_X12_corner : List (Nat × Option Nat) := [(174, some 0), (206, none), (207, none)]
theorem f_X12_corner_fw {n : Nat} {a1 : Int32} {a2 : Int32} {s : hq_S} {y : (Int32 × hq_S)} (h : f_X12_corner n a1 a2 s = some y) : hq_fc w_X12_corner s y.2 := by
  unfold f_X12_corner at h
  have t := hq_fc_rf w_X12_corner s
  obtain ⟨y1, hy1, h⟩ := hq_bind h
  have t := hq_fc_tr t (hq_fc_mono (by decide) (f_X12_isCorner_fw hy1))
  obtain ⟨z2, hz2, h⟩ := hq_bind h
  obtain ⟨s6, hs6, h⟩ := hq_bind h
  have t := hq_fc_tr t (hq_fc_pi hs6 (by decide))
  by_cases c7 : (hq_gi s6 174 0) = 0
  · rw [if_pos c7] at h
    obtain ⟨s8, hs8, h⟩ := hq_bind h
    have t := hq_fc_tr t (hq_fc_mono (by decide) (f_X12_lays_fw hs8))
    by_cases c9 : a2 = (0 : Int32)
    · rw [if_pos c9] at h
      obtain ⟨x10, hx10, h⟩ := hq_bind h
      have h := Option.some.inj h
      subst h
      exact t
    rw [if_neg c9] at h
    by_cases c11 : a2 = (1 : Int32)
    · rw [if_pos c11] at h
      obtain ⟨x12, hx12, h⟩ := hq_bind h
      have h := Option.some.inj h
      subst h
      exact t
    rw [if_neg c11] at h
    by_cases c13 : a2 = (2 : Int32)
    · rw [if_pos c13] at h
      obtain ⟨y14, hy14, h⟩ := hq_bind h
      have t := hq_fc_tr t (hq_fc_mono (by decide) (f_X12_guardsAt_fw hy14))
      have h := Option.some.inj h
      subst h
      exact t
    rw [if_neg c13] at h
    by_cases c15 : a2 = (3 : Int32)
    · rw [if_pos c15] at h
      obtain ⟨y16, hy16, h⟩ := hq_bind h
      have t := hq_fc_tr t (hq_fc_mono (by decide) (f_X12_thievesAt_fw hy16))
      have h := Option.some.inj h
      subst h
      exact t
    rw [if_neg c15] at h
    obtain ⟨x17, hx17, h⟩ := hq_bind h
    have h := Option.some.inj h
    subst h
    exact t
  · rw [if_neg c7] at h
    have h := Option.some.inj h
    subst h
    exact t
def w_X12_guard : List (Nat × Option Nat) := [(174, some 0)]
theorem f_X12_guard_fw {n : Nat} {a1 : Int32} {a2 : Int32} {s : hq_S} {y : (Int32 × hq_S)} (h : f_X12_guard n a1 a2 s = some y) : hq_fc w_X12_guard s y.2 := by
  unfold f_X12_guard at h
  have t := hq_fc_rf w_X12_guard s
  obtain ⟨s1, hs1, h⟩ := hq_bind h
  have t := hq_fc_tr t (hq_fc_pi hs1 (by decide))
  obtain ⟨y2, hy2, h⟩ := hq_bind h
  have t := hq_fc_tr t (hq_fc_mono (by decide) (f_X12_isGuard_fw hy2))
  by_cases c3 : y2.1 = 0
  · rw [if_pos c3] at h
    have h := Option.some.inj h
    subst h
    exact t
  · rw [if_neg c3] at h
    by_cases c4 : a2 = (0 : Int32)
    · rw [if_pos c4] at h
      obtain ⟨x5, hx5, h⟩ := hq_bind h
      have h := Option.some.inj h
      subst h
      exact t
    rw [if_neg c4] at h
    by_cases c6 : a2 = (1 : Int32)
    · rw [if_pos c6] at h
      obtain ⟨x7, hx7, h⟩ := hq_bind h
      by_cases c8 : x7 = 0
      · rw [if_pos c8] at h
        have h := Option.some.inj h
        subst h
        exact t
      · rw [if_neg c8] at h
        obtain ⟨x9, hx9, h⟩ := hq_bind h
        have h := Option.some.inj h
        subst h
        exact t
    rw [if_neg c6] at h
    by_cases c10 : a2 = (2 : Int32)
    · rw [if_pos c10] at h
      obtain ⟨x11, hx11, h⟩ := hq_bind h
      have h := Option.some.inj h
      subst h
      exact t
    rw [if_neg c10] at h
    have h := Option.some.inj h
    subst h
    exact t
def w_X12_thief : List (Nat × Option Nat) := [(174, some 0)]
theorem f_X12_thief_fw {n : Nat} {a1 : Int32} {a2 : Int32} {s : hq_S} {y : (Int32 × hq_S)} (h : f_X12_thief n a1 a2 s = some y) : hq_fc w_X12_thief s y.2 := by
  unfold f_X12_thief at h
  have t := hq_fc_rf w_X12_thief s
  obtain ⟨s1, hs1, h⟩ := hq_bind h
  have t := hq_fc_tr t (hq_fc_pi hs1 (by decide))
  obtain ⟨y2, hy2, h⟩ := hq_bind h
  have t := hq_fc_tr t (hq_fc_mono (by decide) (f_X12_isThief_fw hy2))
  by_cases c3 : y2.1 = 0
  · rw [if_pos c3] at h
    have h := Option.some.inj h
    subst h
    exact t
  · rw [if_neg c3] at h
    by_cases c4 : a2 = (0 : Int32)
    · rw [if_pos c4] at h
      obtain ⟨x5, hx5, h⟩ := hq_bind h
      have h := Option.some.inj h
      subst h
      exact t
    rw [if_neg c4] at h
    by_cases c6 : a2 = (1 : Int32)
    · rw [if_pos c6] at h
      obtain ⟨x7, hx7, h⟩ := hq_bind h
      have h := Option.some.inj h
      subst h
      exact t
    rw [if_neg c6] at h
    by_cases c8 : a2 = (2 : Int32)
    · rw [if_pos c8] at h
      obtain ⟨x9, hx9, h⟩ := hq_bind h
      have h := Option.some.inj h
      subst h
      exact t
    rw [if_neg c8] at h
    by_cases c10 : a2 = (3 : Int32)
    · rw [if_pos c10] at h
      obtain ⟨y11, hy11, h⟩ := hq_bind h
      have t := hq_fc_tr t (hq_fc_mono (by decide) (f_X12_isFree_fw hy11))
      by_cases c12 : y11.1 = 0
      · rw [if_pos c12] at h
        obtain ⟨x13, hx13, h⟩ := hq_bind h
        have h := Option.some.inj h
        subst h
        exact t
      · rw [if_neg c12] at h
        have h := Option.some.inj h
        subst h
        exact t
    rw [if_neg c10] at h
    have h := Option.some.inj h
    subst h
    exact t
def w_X12_isLane : List (Nat × Option Nat) := []
theorem f_X12_isLane_fw {n : Nat} {a1 : Int32} {s : hq_S} {y : (Int32 × hq_S)} (h : f_X12_isLane n a1 s = some y) : hq_fc w_X12_isLane s y.2 := by
  unfold f_X12_isLane at h
  have t := hq_fc_rf w_X12_isLane s
  by_cases c1 : a1 < 0
  · rw [if_pos c1] at h
    have h := Option.some.inj h
    subst h
    exact t
  · rw [if_neg c1] at h
    obtain ⟨x2, hx2, h⟩ := hq_bind h
    by_cases c3 : a1 < x2
    · rw [if_pos c3] at h
      have h := Option.some.inj h
      subst h
      exact t
    · rw [if_neg c3] at h
      have h := Option.some.inj h
      subst h
      exact t
def w_X12_lane : List (Nat × Option Nat) := [(174, some 0)]
theorem f_X12_lane_fw {n : Nat} {a1 : Int32} {a2 : Int32} {s : hq_S} {y : (Int32 × hq_S)} (h : f_X12_lane n a1 a2 s = some y) : hq_fc w_X12_lane s y.2 := by
  unfold f_X12_lane at h
  have t := hq_fc_rf w_X12_lane s
  obtain ⟨s1, hs1, h⟩ := hq_bind h
  have t := hq_fc_tr t (hq_fc_pi hs1 (by decide))
  obtain ⟨y2, hy2, h⟩ := hq_bind h
  have t := hq_fc_tr t (hq_fc_mono (by decide) (f_X12_isLane_fw hy2))
  by_cases c3 : y2.1 = 0
  · rw [if_pos c3] at h
    have h := Option.some.inj h
    subst h
    exact t
  · rw [if_neg c3] at h
    by_cases c4 : a2 = (0 : Int32)
    · rw [if_pos c4] at h
      obtain ⟨x5, hx5, h⟩ := hq_bind h
      have h := Option.some.inj h
      subst h
      exact t
    rw [if_neg c4] at h
    by_cases c6 : a2 = (1 : Int32)
    · rw [if_pos c6] at h
      obtain ⟨x7, hx7, h⟩ := hq_bind h
      have h := Option.some.inj h
      subst h
      exact t
    rw [if_neg c6] at h
    by_cases c8 : a2 = (2 : Int32)
    · rw [if_pos c8] at h
      obtain ⟨x9, hx9, h⟩ := hq_bind h
      have h := Option.some.inj h
      subst h
      exact t
    rw [if_neg c8] at h
    by_cases c10 : a2 = (3 : Int32)
    · rw [if_pos c10] at h
      obtain ⟨x11, hx11, h⟩ := hq_bind h
      have h := Option.some.inj h
      subst h
      exact t
    rw [if_neg c10] at h
    have h := Option.some.inj h
    subst h
    exact t
def w_X12_law : List (Nat × Option Nat) := [(174, some 0), (174, some 36), (194, none), (195, none), (206, none), (207, none)]
theorem f_X12_law_J42_fw {n : Nat} {a1 : Int32} {a2 : Int32} {a3 : Int32} {s : hq_S} {y : (Int64 × hq_S)} (h : f_X12_law_J42 n a1 a2 a3 s = some y) : hq_fc w_X12_law s y.2 := by
  unfold f_X12_law_J42 at h
  have t := hq_fc_rf w_X12_law s
  have h := Option.some.inj h
  subst h
  exact t
theorem f_X12_law_J46_fw {n : Nat} {a1 : Int32} {a2 : Int32} {a3 : Int32} {s : hq_S} {y : (Int64 × hq_S)} (h : f_X12_law_J46 n a1 a2 a3 s = some y) : hq_fc w_X12_law s y.2 := by
  unfold f_X12_law_J46 at h
  have t := hq_fc_rf w_X12_law s
  obtain ⟨s9, hs9, h⟩ := hq_bind h
  have t := hq_fc_tr t (hq_fc_mono (by decide) (f_X12_lays_fw hs9))
  obtain ⟨z10, hz10, h⟩ := hq_bind h
  obtain ⟨s13, hs13, h⟩ := hq_bind h
  have t := hq_fc_tr t (hq_fc_mono (by decide) (f_X12_calls_fw hs13))
  obtain ⟨y14, hy14, h⟩ := hq_bind h
  have t := hq_fc_tr t (hq_fc_mono (by decide) (f_X12_goes_fw hy14))
  by_cases c15 : y14.1 = 0
  · rw [if_pos c15] at h
    have h := Option.some.inj h
    subst h
    exact t
  · rw [if_neg c15] at h
    obtain ⟨x16, hx16, h⟩ := hq_bind h
    have h := Option.some.inj h
    subst h
    exact t
theorem f_X12_law_fw {n : Nat} {a1 : Int32} {a2 : Int32} {a3 : Int32} {s : hq_S} {y : (Int64 × hq_S)} (h : f_X12_law n a1 a2 a3 s = some y) : hq_fc w_X12_law s y.2 := by
  unfold f_X12_law at h
  have t := hq_fc_rf w_X12_law s
  obtain ⟨s1, hs1, h⟩ := hq_bind h
  have t := hq_fc_tr t (hq_fc_pi hs1 (by decide))
  by_cases c2 : a1 < 0
  · rw [if_pos c2] at h
    exact hq_fc_tr t (f_X12_law_J42_fw h)
  · rw [if_neg c2] at h
    by_cases c3 : (2 : Int32) < a1
    · rw [if_pos c3] at h
      exact hq_fc_tr t (f_X12_law_J42_fw h)
    · rw [if_neg c3] at h
      obtain ⟨y4, hy4, h⟩ := hq_bind h
      have t := hq_fc_tr t (hq_fc_mono (by decide) (f_X12_hasLaw_fw hy4))
      by_cases c5 : y4.1 = 0
      · rw [if_pos c5] at h
        exact hq_fc_tr t (f_X12_law_J42_fw h)
      · rw [if_neg c5] at h
        obtain ⟨y6, hy6, h⟩ := hq_bind h
        have t := hq_fc_tr t (hq_fc_mono (by decide) (f_X12_isThief_fw hy6))
        by_cases c7 : y6.1 = 0
        · rw [if_pos c7] at h
          exact hq_fc_tr t (f_X12_law_J42_fw h)
        · rw [if_neg c7] at h
          by_cases c8 : a1 = 0
          · rw [if_pos c8] at h
            obtain ⟨y17, hy17, h⟩ := hq_bind h
            have t := hq_fc_tr t (hq_fc_mono (by decide) (f_X12_isCorner_fw hy17))
            by_cases c18 : y17.1 = 0
            · rw [if_pos c18] at h
              exact hq_fc_tr t (f_X12_law_J42_fw h)
            · rw [if_neg c18] at h
              exact hq_fc_tr t (f_X12_law_J46_fw h)
          · rw [if_neg c8] at h
            exact hq_fc_tr t (f_X12_law_J46_fw h)
def w_X12_keepNow : List (Nat × Option Nat) := [(174, some 48), (196, none), (197, none), (198, none), (199, none), (200, none), (201, none), (202, none), (203, none), (204, none), (205, none)]
theorem f_X12_keepNow_J45_fw {n : Nat} {s : hq_S} {y : hq_S} (h : f_X12_keepNow_J45 n s = some y) : hq_fc w_X12_keepNow s y := by
  unfold f_X12_keepNow_J45 at h
  have t := hq_fc_rf w_X12_keepNow s
  obtain ⟨s2, hs2, h⟩ := hq_bind h
  have t := hq_fc_tr t (hq_fc_mono (by decide) (f_X12_copies_fw hs2))
  obtain ⟨s3, hs3, h⟩ := hq_bind h
  have t := hq_fc_tr t (hq_fc_pi hs3 (by decide))
  have h := Option.some.inj h
  subst h
  exact t
theorem f_X12_keepNow_L11_B_fw {n : Nat} {a1 : Int32} {q11 : Int32 → hq_S → Option hq_S} {s : hq_S} {y : hq_S} (e11 : ∀ (a1 : Int32) (s : hq_S), q11 a1 s = some y → hq_fc w_X12_keepNow s y) (h : f_X12_keepNow_L11_B n q11 a1 s = some y) : hq_fc w_X12_keepNow s y := by
  unfold f_X12_keepNow_L11_B at h
  have t := hq_fc_rf w_X12_keepNow s
  by_cases c4 : a1 < (20 : Int32)
  · rw [if_pos c4] at h
    obtain ⟨s6, hs6, h⟩ := hq_bind h
    have t := hq_fc_tr t (hq_fc_mono (by decide) (f_X12_copies_fw hs6))
    exact hq_fc_tr t (e11 (a1 + (1 : Int32)) s6 h)
  · rw [if_neg c4] at h
    obtain ⟨s5, hs5, h⟩ := hq_bind h
    have t := hq_fc_tr t (hq_fc_pi hs5 (by decide))
    exact hq_fc_tr t (f_X12_keepNow_J45_fw h)
theorem f_X12_keepNow_L11_fw {n m : Nat} {a1 : Int32} {s : hq_S} {y : hq_S} (h : f_X12_keepNow_L11 n m a1 s = some y) : hq_fc w_X12_keepNow s y := by
  induction m generalizing a1 s with
  | zero => cases h
  | succ m ih => exact f_X12_keepNow_L11_B_fw (n := n) (a1 := a1) (q11 := f_X12_keepNow_L11 n m) (fun a1 s h => ih h) h
theorem f_X12_keepNow_fw {n : Nat} {s : hq_S} {y : hq_S} (h : f_X12_keepNow n s = some y) : hq_fc w_X12_keepNow s y := by
  unfold f_X12_keepNow at h
  have t := hq_fc_rf w_X12_keepNow s
  by_cases c1 : (hq_gi s 174 48) = (20 : Int32)
  · rw [if_pos c1] at h
    exact hq_fc_tr t (f_X12_keepNow_L11_fw h)
  · rw [if_neg c1] at h
    exact hq_fc_tr t (f_X12_keepNow_J45_fw h)
def w_X12_send : List (Nat × Option Nat) := [(174, some 0), (174, some 48), (196, none), (197, none), (198, none), (199, none), (200, none), (201, none), (202, none), (203, none), (204, none), (205, none), (206, none), (207, none)]
theorem f_X12_send_fw {n : Nat} {a1 : Int32} {a2 : Int32} {s : hq_S} {y : (Int32 × hq_S)} (h : f_X12_send n a1 a2 s = some y) : hq_fc w_X12_send s y.2 := by
  unfold f_X12_send at h
  have t := hq_fc_rf w_X12_send s
  obtain ⟨s1, hs1, h⟩ := hq_bind h
  have t := hq_fc_tr t (hq_fc_pi hs1 (by decide))
  obtain ⟨y2, hy2, h⟩ := hq_bind h
  have t := hq_fc_tr t (hq_fc_mono (by decide) (f_X12_isGuard_fw hy2))
  by_cases c3 : y2.1 = 0
  · rw [if_pos c3] at h
    have h := Option.some.inj h
    subst h
    exact t
  · rw [if_neg c3] at h
    obtain ⟨y4, hy4, h⟩ := hq_bind h
    have t := hq_fc_tr t (hq_fc_mono (by decide) (f_X12_isCorner_fw hy4))
    by_cases c5 : y4.1 = 0
    · rw [if_pos c5] at h
      have h := Option.some.inj h
      subst h
      exact t
    · rw [if_neg c5] at h
      obtain ⟨s6, hs6, h⟩ := hq_bind h
      have t := hq_fc_tr t (hq_fc_mono (by decide) (f_X12_lays_fw hs6))
      obtain ⟨x7, hx7, h⟩ := hq_bind h
      obtain ⟨x8, hx8, h⟩ := hq_bind h
      by_cases c9 : ((x8 >>> (a2 &&& 31)) &&& (1 : Int32)) = 0
      · rw [if_pos c9] at h
        have h := Option.some.inj h
        subst h
        exact t
      · rw [if_neg c9] at h
        obtain ⟨s10, hs10, h⟩ := hq_bind h
        have t := hq_fc_tr t (hq_fc_mono (by decide) (f_X12_keepNow_fw hs10))
        obtain ⟨s11, hs11, h⟩ := hq_bind h
        have t := hq_fc_tr t (hq_fc_st hs11 (by decide))
        have h := Option.some.inj h
        subst h
        exact t
def w_X12_bar : List (Nat × Option Nat) := [(174, some 0), (174, some 48), (196, none), (197, none), (198, none), (199, none), (200, none), (201, none), (202, none), (203, none), (204, none), (205, none)]
theorem f_X12_bar_fw {n : Nat} {a1 : Int32} {s : hq_S} {y : (Int32 × hq_S)} (h : f_X12_bar n a1 s = some y) : hq_fc w_X12_bar s y.2 := by
  unfold f_X12_bar at h
  have t := hq_fc_rf w_X12_bar s
  obtain ⟨s1, hs1, h⟩ := hq_bind h
  have t := hq_fc_tr t (hq_fc_pi hs1 (by decide))
  obtain ⟨y2, hy2, h⟩ := hq_bind h
  have t := hq_fc_tr t (hq_fc_mono (by decide) (f_X12_isLane_fw hy2))
  by_cases c3 : y2.1 = 0
  · rw [if_pos c3] at h
    have h := Option.some.inj h
    subst h
    exact t
  · rw [if_neg c3] at h
    obtain ⟨s4, hs4, h⟩ := hq_bind h
    have t := hq_fc_tr t (hq_fc_mono (by decide) (f_X12_keepNow_fw hs4))
    obtain ⟨x5, hx5, h⟩ := hq_bind h
    obtain ⟨s6, hs6, h⟩ := hq_bind h
    have t := hq_fc_tr t (hq_fc_st hs6 (by decide))
    obtain ⟨x7, hx7, h⟩ := hq_bind h
    have h := Option.some.inj h
    subst h
    exact t
def w_X12_drop : List (Nat × Option Nat) := [(174, some 0), (174, some 48), (196, none), (197, none), (198, none), (199, none), (200, none), (201, none), (202, none), (203, none), (204, none), (205, none)]
theorem f_X12_drop_fw {n : Nat} {a1 : Int32} {a2 : Int32} {s : hq_S} {y : (Int32 × hq_S)} (h : f_X12_drop n a1 a2 s = some y) : hq_fc w_X12_drop s y.2 := by
  unfold f_X12_drop at h
  have t := hq_fc_rf w_X12_drop s
  obtain ⟨s1, hs1, h⟩ := hq_bind h
  have t := hq_fc_tr t (hq_fc_pi hs1 (by decide))
  obtain ⟨y2, hy2, h⟩ := hq_bind h
  have t := hq_fc_tr t (hq_fc_mono (by decide) (f_X12_isCorner_fw hy2))
  by_cases c3 : y2.1 = 0
  · rw [if_pos c3] at h
    have h := Option.some.inj h
    subst h
    exact t
  · rw [if_neg c3] at h
    by_cases c4 : a2 < (1 : Int32)
    · rw [if_pos c4] at h
      have h := Option.some.inj h
      subst h
      exact t
    · rw [if_neg c4] at h
      by_cases c5 : (999 : Int32) < a2
      · rw [if_pos c5] at h
        have h := Option.some.inj h
        subst h
        exact t
      · rw [if_neg c5] at h
        obtain ⟨s6, hs6, h⟩ := hq_bind h
        have t := hq_fc_tr t (hq_fc_mono (by decide) (f_X12_keepNow_fw hs6))
        obtain ⟨x7, hx7, h⟩ := hq_bind h
        obtain ⟨s8, hs8, h⟩ := hq_bind h
        have t := hq_fc_tr t (hq_fc_st hs8 (by decide))
        obtain ⟨x9, hx9, h⟩ := hq_bind h
        have h := Option.some.inj h
        subst h
        exact t
def w_X12_go : List (Nat × Option Nat) := [(174, some 0), (174, some 36), (174, some 48), (194, none), (195, none), (196, none), (197, none), (199, none), (200, none), (201, none), (202, none), (203, none), (204, none), (205, none), (206, none), (207, none)]
theorem f_X12_go_L43_B_fw {n : Nat} {a1 : Int32} {a2 : Int32} {q43 : Int32 → Int32 → hq_S → Option (Int32 × hq_S)} {s : hq_S} {y : (Int32 × hq_S)} (e43 : ∀ (a1 : Int32) (a2 : Int32) (s : hq_S), q43 a1 a2 s = some y → hq_fc w_X12_go s y.2) (h : f_X12_go_L43_B n q43 a1 a2 s = some y) : hq_fc w_X12_go s y.2 := by
  unfold f_X12_go_L43_B at h
  have t := hq_fc_rf w_X12_go s
  by_cases c9 : a2 < a1
  · rw [if_pos c9] at h
    obtain ⟨s11, hs11, h⟩ := hq_bind h
    have t := hq_fc_tr t (hq_fc_mono (by decide) (f_X12_passes_fw hs11))
    exact hq_fc_tr t (e43 a1 (a2 + (1 : Int32)) s11 h)
  · rw [if_neg c9] at h
    obtain ⟨x10, hx10, h⟩ := hq_bind h
    have h := Option.some.inj h
    subst h
    exact t
theorem f_X12_go_L43_fw {n m : Nat} {a1 : Int32} {a2 : Int32} {s : hq_S} {y : (Int32 × hq_S)} (h : f_X12_go_L43 n m a1 a2 s = some y) : hq_fc w_X12_go s y.2 := by
  induction m generalizing a1 a2 s with
  | zero => cases h
  | succ m ih => exact f_X12_go_L43_B_fw (n := n) (a1 := a1) (a2 := a2) (q43 := f_X12_go_L43 n m) (fun a1 a2 s h => ih h) h
theorem f_X12_go_fw {n : Nat} {a1 : Int32} {s : hq_S} {y : (Int32 × hq_S)} (h : f_X12_go n a1 s = some y) : hq_fc w_X12_go s y.2 := by
  unfold f_X12_go at h
  have t := hq_fc_rf w_X12_go s
  obtain ⟨s1, hs1, h⟩ := hq_bind h
  have t := hq_fc_tr t (hq_fc_pi hs1 (by decide))
  by_cases c2 : a1 < 0
  · rw [if_pos c2] at h
    have h := Option.some.inj h
    subst h
    exact t
  · rw [if_neg c2] at h
    by_cases c3 : (200 : Int32) < a1
    · rw [if_pos c3] at h
      have h := Option.some.inj h
      subst h
      exact t
    · rw [if_neg c3] at h
      obtain ⟨x4, hx4, h⟩ := hq_bind h
      by_cases c5 : (9800 : Int32) < (x4 + a1)
      · rw [if_pos c5] at h
        have h := Option.some.inj h
        subst h
        exact t
      · rw [if_neg c5] at h
        obtain ⟨z6, hz6, h⟩ := hq_bind h
        have t : hq_fc w_X12_go s z6 := by
          clear h
          have h := hz6
          by_cases c7 : 0 < a1
          · rw [if_pos c7] at h
            obtain ⟨s8, hs8, h⟩ := hq_bind h
            have t := hq_fc_tr t (hq_fc_pi hs8 (by decide))
            cases h
            exact t
          · rw [if_neg c7] at h
            cases h
            exact t
        exact hq_fc_tr t (f_X12_go_L43_fw h)
def w_X12_ahead : List (Nat × Option Nat) := [(174, some 0), (174, some 36), (194, none), (195, none), (196, none), (197, none), (198, none), (199, none), (200, none), (201, none), (202, none), (203, none), (204, none), (205, none), (206, none), (207, none)]
theorem f_X12_ahead_fw {n : Nat} {a1 : Int32} {a2 : Int32} {a3 : Int32} {s : hq_S} {y : (Int32 × hq_S)} (h : f_X12_ahead n a1 a2 a3 s = some y) : hq_fc w_X12_ahead s y.2 := by
  unfold f_X12_ahead at h
  have t := hq_fc_rf w_X12_ahead s
  obtain ⟨s1, hs1, h⟩ := hq_bind h
  have t := hq_fc_tr t (hq_fc_pi hs1 (by decide))
  obtain ⟨z2, hz2, h⟩ := hq_bind h
  have t : hq_fc w_X12_ahead s z2.2 := by
    clear h
    have h := hz2
    by_cases c3 : a2 = 0
    · rw [if_pos c3] at h
      cases h
      exact t
    · rw [if_neg c3] at h
      by_cases c4 : a2 = (2 : Int32)
      · rw [if_pos c4] at h
        cases h
        exact t
      · rw [if_neg c4] at h
        by_cases c5 : a2 = (1 : Int32)
        · rw [if_pos c5] at h
          obtain ⟨y6, hy6, h⟩ := hq_bind h
          have t := hq_fc_tr t (hq_fc_mono (by decide) (f_X12_isThief_fw hy6))
          by_cases c7 : y6.1 = 0
          · rw [if_pos c7] at h
            by_cases c8 : a2 = (3 : Int32)
            · rw [if_pos c8] at h
              obtain ⟨y9, hy9, h⟩ := hq_bind h
              have t := hq_fc_tr t (hq_fc_mono (by decide) (f_X12_isGuard_fw hy9))
              by_cases c10 : y9.1 = 0
              · rw [if_pos c10] at h
                cases h
                exact t
              · rw [if_neg c10] at h
                cases h
                exact t
            · rw [if_neg c8] at h
              cases h
              exact t
          · rw [if_neg c7] at h
            cases h
            exact t
        · rw [if_neg c5] at h
          by_cases c11 : a2 = (4 : Int32)
          · rw [if_pos c11] at h
            obtain ⟨y15, hy15, h⟩ := hq_bind h
            have t := hq_fc_tr t (hq_fc_mono (by decide) (f_X12_isThief_fw hy15))
            by_cases c16 : y15.1 = 0
            · rw [if_pos c16] at h
              by_cases c17 : a2 = (3 : Int32)
              · rw [if_pos c17] at h
                obtain ⟨y18, hy18, h⟩ := hq_bind h
                have t := hq_fc_tr t (hq_fc_mono (by decide) (f_X12_isGuard_fw hy18))
                by_cases c19 : y18.1 = 0
                · rw [if_pos c19] at h
                  cases h
                  exact t
                · rw [if_neg c19] at h
                  cases h
                  exact t
              · rw [if_neg c17] at h
                cases h
                exact t
            · rw [if_neg c16] at h
              cases h
              exact t
          · rw [if_neg c11] at h
            by_cases c12 : a2 = (3 : Int32)
            · rw [if_pos c12] at h
              obtain ⟨y13, hy13, h⟩ := hq_bind h
              have t := hq_fc_tr t (hq_fc_mono (by decide) (f_X12_isGuard_fw hy13))
              by_cases c14 : y13.1 = 0
              · rw [if_pos c14] at h
                cases h
                exact t
              · rw [if_neg c14] at h
                cases h
                exact t
            · rw [if_neg c12] at h
              cases h
              exact t
  by_cases c20 : a1 < 0
  · rw [if_pos c20] at h
    have h := Option.some.inj h
    subst h
    exact t
  · rw [if_neg c20] at h
    by_cases c21 : (200 : Int32) < a1
    · rw [if_pos c21] at h
      have h := Option.some.inj h
      subst h
      exact t
    · rw [if_neg c21] at h
      by_cases c22 : z2.1 = 0
      · rw [if_pos c22] at h
        have h := Option.some.inj h
        subst h
        exact t
      · rw [if_neg c22] at h
        obtain ⟨s23, hs23, h⟩ := hq_bind h
        have t := hq_fc_tr t (hq_fc_mono (by decide) (f_X12_copies_fw hs23))
        obtain ⟨s24, hs24, h⟩ := hq_bind h
        have t := hq_fc_tr t (hq_fc_mono (by decide) (f_X12_goesOn_fw hs24))
        by_cases c25 : a2 = (0 : Int32)
        · rw [if_pos c25] at h
          obtain ⟨y26, hy26, h⟩ := hq_bind h
          have t := hq_fc_tr t (hq_fc_mono (by decide) (f_X12_caughtOnes_fw hy26))
          have h := Option.some.inj h
          subst h
          exact t
        rw [if_neg c25] at h
        by_cases c27 : a2 = (1 : Int32)
        · rw [if_pos c27] at h
          obtain ⟨x28, hx28, h⟩ := hq_bind h
          have h := Option.some.inj h
          subst h
          exact t
        rw [if_neg c27] at h
        by_cases c29 : a2 = (2 : Int32)
        · rw [if_pos c29] at h
          obtain ⟨y30, hy30, h⟩ := hq_bind h
          have t := hq_fc_tr t (hq_fc_mono (by decide) (f_X12_sumOf_fw hy30))
          have h := Option.some.inj h
          subst h
          exact t
        rw [if_neg c29] at h
        by_cases c31 : a2 = (3 : Int32)
        · rw [if_pos c31] at h
          obtain ⟨x32, hx32, h⟩ := hq_bind h
          have h := Option.some.inj h
          subst h
          exact t
        rw [if_neg c31] at h
        obtain ⟨x33, hx33, h⟩ := hq_bind h
        have h := Option.some.inj h
        subst h
        exact t
def w_X12_caught : List (Nat × Option Nat) := [(174, some 0), (174, some 36), (194, none), (195, none), (196, none), (197, none), (198, none), (199, none), (200, none), (201, none), (202, none), (203, none), (204, none), (205, none), (206, none), (207, none)]
theorem f_X12_caught_L23_B_fw {n : Nat} {a1 : Int32} {a2 : Int32} {q23 : Int32 → Int32 → hq_S → Option (Int32 × hq_S)} {s : hq_S} {y : (Int32 × hq_S)} (e23 : ∀ (a1 : Int32) (a2 : Int32) (s : hq_S), q23 a1 a2 s = some y → hq_fc w_X12_caught s y.2) (h : f_X12_caught_L23_B n q23 a1 a2 s = some y) : hq_fc w_X12_caught s y.2 := by
  unfold f_X12_caught_L23_B at h
  have t := hq_fc_rf w_X12_caught s
  by_cases c5 : (199 : Int32) < a2
  · rw [if_pos c5] at h
    have h := Option.some.inj h
    subst h
    exact t
  · rw [if_neg c5] at h
    obtain ⟨y6, hy6, h⟩ := hq_bind h
    have t := hq_fc_tr t (hq_fc_mono (by decide) (f_X12_isFree_fw hy6))
    by_cases c7 : y6.1 = 0
    · rw [if_pos c7] at h
      have h := Option.some.inj h
      subst h
      exact t
    · rw [if_neg c7] at h
      obtain ⟨s8, hs8, h⟩ := hq_bind h
      have t := hq_fc_tr t (hq_fc_mono (by decide) (f_X12_passes_fw hs8))
      exact hq_fc_tr t (e23 a1 (a2 + (1 : Int32)) s8 h)
theorem f_X12_caught_L23_fw {n m : Nat} {a1 : Int32} {a2 : Int32} {s : hq_S} {y : (Int32 × hq_S)} (h : f_X12_caught_L23 n m a1 a2 s = some y) : hq_fc w_X12_caught s y.2 := by
  induction m generalizing a1 a2 s with
  | zero => cases h
  | succ m ih => exact f_X12_caught_L23_B_fw (n := n) (a1 := a1) (a2 := a2) (q23 := f_X12_caught_L23 n m) (fun a1 a2 s h => ih h) h
theorem f_X12_caught_fw {n : Nat} {a1 : Int32} {s : hq_S} {y : (Int32 × hq_S)} (h : f_X12_caught n a1 s = some y) : hq_fc w_X12_caught s y.2 := by
  unfold f_X12_caught at h
  have t := hq_fc_rf w_X12_caught s
  obtain ⟨s1, hs1, h⟩ := hq_bind h
  have t := hq_fc_tr t (hq_fc_pi hs1 (by decide))
  obtain ⟨y2, hy2, h⟩ := hq_bind h
  have t := hq_fc_tr t (hq_fc_mono (by decide) (f_X12_isThief_fw hy2))
  by_cases c3 : y2.1 = 0
  · rw [if_pos c3] at h
    have h := Option.some.inj h
    subst h
    exact t
  · rw [if_neg c3] at h
    obtain ⟨s4, hs4, h⟩ := hq_bind h
    have t := hq_fc_tr t (hq_fc_mono (by decide) (f_X12_copies_fw hs4))
    exact hq_fc_tr t (f_X12_caught_L23_fw h)
def w_X12_far : List (Nat × Option Nat) := [(174, some 0), (206, none), (207, none)]
theorem f_X12_far_fw {n : Nat} {a1 : Int32} {a2 : Int32} {s : hq_S} {y : (Int32 × hq_S)} (h : f_X12_far n a1 a2 s = some y) : hq_fc w_X12_far s y.2 := by
  unfold f_X12_far at h
  have t := hq_fc_rf w_X12_far s
  obtain ⟨s1, hs1, h⟩ := hq_bind h
  have t := hq_fc_tr t (hq_fc_pi hs1 (by decide))
  obtain ⟨y2, hy2, h⟩ := hq_bind h
  have t := hq_fc_tr t (hq_fc_mono (by decide) (f_X12_isCorner_fw hy2))
  by_cases c3 : y2.1 = 0
  · rw [if_pos c3] at h
    have h := Option.some.inj h
    subst h
    exact t
  · rw [if_neg c3] at h
    obtain ⟨y4, hy4, h⟩ := hq_bind h
    have t := hq_fc_tr t (hq_fc_mono (by decide) (f_X12_isCorner_fw hy4))
    by_cases c5 : y4.1 = 0
    · rw [if_pos c5] at h
      have h := Option.some.inj h
      subst h
      exact t
    · rw [if_neg c5] at h
      obtain ⟨s6, hs6, h⟩ := hq_bind h
      have t := hq_fc_tr t (hq_fc_mono (by decide) (f_X12_lays_fw hs6))
      obtain ⟨x7, hx7, h⟩ := hq_bind h
      have h := Option.some.inj h
      subst h
      exact t
def w_X12_way : List (Nat × Option Nat) := [(174, some 0), (206, none), (207, none)]
theorem f_X12_way_L67_B_fw {n : Nat} {a1 : Int32} {a2 : Int32} {a3 : Int32} {a4 : Int32} {a5 : Int32} {a6 : Int32} {q67 : Int32 → Int32 → Int32 → Int32 → Int32 → Int32 → hq_S → Option (Int32 × hq_S)} {s : hq_S} {y : (Int32 × hq_S)} (e67 : ∀ (a1 : Int32) (a2 : Int32) (a3 : Int32) (a4 : Int32) (a5 : Int32) (a6 : Int32) (s : hq_S), q67 a1 a2 a3 a4 a5 a6 s = some y → hq_fc w_X12_way s y.2) (h : f_X12_way_L67_B n q67 a1 a2 a3 a4 a5 a6 s = some y) : hq_fc w_X12_way s y.2 := by
  unfold f_X12_way_L67_B at h
  have t := hq_fc_rf w_X12_way s
  by_cases c11 : a6 < a3
  · rw [if_pos c11] at h
    obtain ⟨y12, hy12, h⟩ := hq_bind h
    have t := hq_fc_tr t (hq_fc_mono (by decide) (f_X12_nearer_fw hy12))
    exact hq_fc_tr t (e67 a1 a2 a3 a4 y12.1 (a6 + (1 : Int32)) y12.2 h)
  · rw [if_neg c11] at h
    have h := Option.some.inj h
    subst h
    exact t
theorem f_X12_way_L67_fw {n m : Nat} {a1 : Int32} {a2 : Int32} {a3 : Int32} {a4 : Int32} {a5 : Int32} {a6 : Int32} {s : hq_S} {y : (Int32 × hq_S)} (h : f_X12_way_L67 n m a1 a2 a3 a4 a5 a6 s = some y) : hq_fc w_X12_way s y.2 := by
  induction m generalizing a1 a2 a3 a4 a5 a6 s with
  | zero => cases h
  | succ m ih => exact f_X12_way_L67_B_fw (n := n) (a1 := a1) (a2 := a2) (a3 := a3) (a4 := a4) (a5 := a5) (a6 := a6) (q67 := f_X12_way_L67 n m) (fun a1 a2 a3 a4 a5 a6 s h => ih h) h
theorem f_X12_way_fw {n : Nat} {a1 : Int32} {a2 : Int32} {a3 : Int32} {s : hq_S} {y : (Int32 × hq_S)} (h : f_X12_way n a1 a2 a3 s = some y) : hq_fc w_X12_way s y.2 := by
  unfold f_X12_way at h
  have t := hq_fc_rf w_X12_way s
  obtain ⟨s1, hs1, h⟩ := hq_bind h
  have t := hq_fc_tr t (hq_fc_pi hs1 (by decide))
  obtain ⟨y2, hy2, h⟩ := hq_bind h
  have t := hq_fc_tr t (hq_fc_mono (by decide) (f_X12_isCorner_fw hy2))
  by_cases c3 : y2.1 = 0
  · rw [if_pos c3] at h
    have h := Option.some.inj h
    subst h
    exact t
  · rw [if_neg c3] at h
    obtain ⟨y4, hy4, h⟩ := hq_bind h
    have t := hq_fc_tr t (hq_fc_mono (by decide) (f_X12_isCorner_fw hy4))
    by_cases c5 : y4.1 = 0
    · rw [if_pos c5] at h
      have h := Option.some.inj h
      subst h
      exact t
    · rw [if_neg c5] at h
      by_cases c6 : a3 < 0
      · rw [if_pos c6] at h
        have h := Option.some.inj h
        subst h
        exact t
      · rw [if_neg c6] at h
        obtain ⟨s7, hs7, h⟩ := hq_bind h
        have t := hq_fc_tr t (hq_fc_mono (by decide) (f_X12_lays_fw hs7))
        obtain ⟨x8, hx8, h⟩ := hq_bind h
        by_cases c9 : x8 = (99 : Int32)
        · rw [if_pos c9] at h
          have h := Option.some.inj h
          subst h
          exact t
        · rw [if_neg c9] at h
          by_cases c10 : x8 < a3
          · rw [if_pos c10] at h
            have h := Option.some.inj h
            subst h
            exact t
          · rw [if_neg c10] at h
            exact hq_fc_tr t (f_X12_way_L67_fw h)
def w_X12_reachOf : List (Nat × Option Nat) := []
theorem f_X12_reachOf_L4_B_fw {n : Nat} {a1 : Int32} {a2 : Int32} {a3 : Int32} {q4 : Int32 → Int32 → Int32 → hq_S → Option (Int32 × hq_S)} {s : hq_S} {y : (Int32 × hq_S)} (e4 : ∀ (a1 : Int32) (a2 : Int32) (a3 : Int32) (s : hq_S), q4 a1 a2 a3 s = some y → hq_fc w_X12_reachOf s y.2) (h : f_X12_reachOf_L4_B n q4 a1 a2 a3 s = some y) : hq_fc w_X12_reachOf s y.2 := by
  unfold f_X12_reachOf_L4_B at h
  have t := hq_fc_rf w_X12_reachOf s
  obtain ⟨x1, hx1, h⟩ := hq_bind h
  by_cases c2 : a3 < x1
  · rw [if_pos c2] at h
    obtain ⟨x3, hx3, h⟩ := hq_bind h
    obtain ⟨z4, hz4, h⟩ := hq_bind h
    exact hq_fc_tr t (e4 a1 (a2 ||| z4) (a3 + (1 : Int32)) s h)
  · rw [if_neg c2] at h
    have h := Option.some.inj h
    subst h
    exact t
theorem f_X12_reachOf_L4_fw {n m : Nat} {a1 : Int32} {a2 : Int32} {a3 : Int32} {s : hq_S} {y : (Int32 × hq_S)} (h : f_X12_reachOf_L4 n m a1 a2 a3 s = some y) : hq_fc w_X12_reachOf s y.2 := by
  induction m generalizing a1 a2 a3 s with
  | zero => cases h
  | succ m ih => exact f_X12_reachOf_L4_B_fw (n := n) (a1 := a1) (a2 := a2) (a3 := a3) (q4 := f_X12_reachOf_L4 n m) (fun a1 a2 a3 s h => ih h) h
theorem f_X12_reachOf_fw {n : Nat} {a1 : Int32} {s : hq_S} {y : (Int32 × hq_S)} (h : f_X12_reachOf n a1 s = some y) : hq_fc w_X12_reachOf s y.2 := by
  unfold f_X12_reachOf at h
  have t := hq_fc_rf w_X12_reachOf s
  exact hq_fc_tr t (f_X12_reachOf_L4_fw h)
def w_X12_reach : List (Nat × Option Nat) := [(174, some 0), (206, none), (207, none)]
theorem f_X12_reach_fw {n : Nat} {a1 : Int32} {s : hq_S} {y : (Int32 × hq_S)} (h : f_X12_reach n a1 s = some y) : hq_fc w_X12_reach s y.2 := by
  unfold f_X12_reach at h
  have t := hq_fc_rf w_X12_reach s
  obtain ⟨s1, hs1, h⟩ := hq_bind h
  have t := hq_fc_tr t (hq_fc_pi hs1 (by decide))
  obtain ⟨y2, hy2, h⟩ := hq_bind h
  have t := hq_fc_tr t (hq_fc_mono (by decide) (f_X12_isCorner_fw hy2))
  by_cases c3 : y2.1 = 0
  · rw [if_pos c3] at h
    have h := Option.some.inj h
    subst h
    exact t
  · rw [if_neg c3] at h
    obtain ⟨s4, hs4, h⟩ := hq_bind h
    have t := hq_fc_tr t (hq_fc_mono (by decide) (f_X12_lays_fw hs4))
    obtain ⟨y5, hy5, h⟩ := hq_bind h
    have t := hq_fc_tr t (hq_fc_mono (by decide) (f_X12_reachOf_fw hy5))
    have h := Option.some.inj h
    subst h
    exact t
def w_X12_parts : List (Nat × Option Nat) := [(174, some 0), (206, none), (207, none)]
theorem f_X12_parts_L29_B_fw {n : Nat} {a1 : Int32} {a2 : Int32} {a3 : Int32} {a4 : Int32} {q14 : Int32 → Int32 → hq_S → Option (Int32 × hq_S)} {q29 : Int32 → Int32 → Int32 → Int32 → hq_S → Option (Int32 × hq_S)} {s : hq_S} {y : (Int32 × hq_S)} (e14 : ∀ (a1 : Int32) (a2 : Int32) (o3 : Option Value) (o4 : Option Value) (s : hq_S), q14 a1 a2 s = some y → hq_fc w_X12_parts s y.2) (e29 : ∀ (a1 : Int32) (a2 : Int32) (a3 : Int32) (a4 : Int32) (s : hq_S), q29 a1 a2 a3 a4 s = some y → hq_fc w_X12_parts s y.2) (h : f_X12_parts_L29_B n q14 q29 a1 a2 a3 a4 s = some y) : hq_fc w_X12_parts s y.2 := by
  unfold f_X12_parts_L29_B at h
  have t := hq_fc_rf w_X12_parts s
  by_cases c5 : a4 < a2
  · rw [if_pos c5] at h
    obtain ⟨y8, hy8, h⟩ := hq_bind h
    have t := hq_fc_tr t (hq_fc_mono (by decide) (f_X12_reachOf_fw hy8))
    obtain ⟨y9, hy9, h⟩ := hq_bind h
    have t := hq_fc_tr t (hq_fc_mono (by decide) (f_X12_reachOf_fw hy9))
    obtain ⟨z10, hz10, h⟩ := hq_bind h
    exact hq_fc_tr t (e29 a1 a2 (a3 &&& z10) (a4 + (1 : Int32)) y9.2 h)
  · rw [if_neg c5] at h
    obtain ⟨z6, hz6, h⟩ := hq_bind h
    exact hq_fc_tr t (e14 (a1 + z6) (a2 + (1 : Int32)) none none s h)
theorem f_X12_parts_L29_fw {n m : Nat} {a1 : Int32} {a2 : Int32} {a3 : Int32} {a4 : Int32} {q14 : Int32 → Int32 → hq_S → Option (Int32 × hq_S)} {s : hq_S} {y : (Int32 × hq_S)} (e14 : ∀ (a1 : Int32) (a2 : Int32) (o3 : Option Value) (o4 : Option Value) (s : hq_S), q14 a1 a2 s = some y → hq_fc w_X12_parts s y.2) (h : f_X12_parts_L29 n q14 m a1 a2 a3 a4 s = some y) : hq_fc w_X12_parts s y.2 := by
  induction m generalizing a1 a2 a3 a4 s with
  | zero => cases h
  | succ m ih => exact f_X12_parts_L29_B_fw (n := n) (a1 := a1) (a2 := a2) (a3 := a3) (a4 := a4) (q29 := f_X12_parts_L29 n q14 m) e14 (fun a1 a2 a3 a4 s h => ih h) h
theorem f_X12_parts_L14_B_fw {n : Nat} {a1 : Int32} {a2 : Int32} {q14 : Int32 → Int32 → hq_S → Option (Int32 × hq_S)} {s : hq_S} {y : (Int32 × hq_S)} (e14 : ∀ (a1 : Int32) (a2 : Int32) (o3 : Option Value) (o4 : Option Value) (s : hq_S), q14 a1 a2 s = some y → hq_fc w_X12_parts s y.2) (h : f_X12_parts_L14_B n q14 a1 a2 s = some y) : hq_fc w_X12_parts s y.2 := by
  unfold f_X12_parts_L14_B at h
  have t := hq_fc_rf w_X12_parts s
  obtain ⟨x3, hx3, h⟩ := hq_bind h
  by_cases c4 : a2 < x3
  · rw [if_pos c4] at h
    exact hq_fc_tr t (f_X12_parts_L29_fw e14 h)
  · rw [if_neg c4] at h
    have h := Option.some.inj h
    subst h
    exact t
theorem f_X12_parts_L14_fw {n m : Nat} {a1 : Int32} {a2 : Int32} {s : hq_S} {y : (Int32 × hq_S)} (h : f_X12_parts_L14 n m a1 a2 s = some y) : hq_fc w_X12_parts s y.2 := by
  induction m generalizing a1 a2 s with
  | zero => cases h
  | succ m ih => exact f_X12_parts_L14_B_fw (n := n) (a1 := a1) (a2 := a2) (q14 := f_X12_parts_L14 n m) (fun a1 a2 _ _ s h => ih h) h
theorem f_X12_parts_fw {n : Nat} {s : hq_S} {y : (Int32 × hq_S)} (h : f_X12_parts n s = some y) : hq_fc w_X12_parts s y.2 := by
  unfold f_X12_parts at h
  have t := hq_fc_rf w_X12_parts s
  obtain ⟨s1, hs1, h⟩ := hq_bind h
  have t := hq_fc_tr t (hq_fc_pi hs1 (by decide))
  obtain ⟨s2, hs2, h⟩ := hq_bind h
  have t := hq_fc_tr t (hq_fc_mono (by decide) (f_X12_lays_fw hs2))
  exact hq_fc_tr t (f_X12_parts_L14_fw h)
def w_X12_reads10 : List (Nat × Option Nat) := [(211, none)]
theorem f_X12_reads10_L7_B_fw {n : Nat} {a1 : Int32} {a2 : Int32} {a3 : Int32} {q7 : Int32 → Int32 → Int32 → hq_S → Option (Int32 × hq_S)} {s : hq_S} {y : (Int32 × hq_S)} (e7 : ∀ (a1 : Int32) (a2 : Int32) (a3 : Int32) (s : hq_S), q7 a1 a2 a3 s = some y → hq_fc w_X12_reads10 s y.2) (h : f_X12_reads10_L7_B n q7 a1 a2 a3 s = some y) : hq_fc w_X12_reads10 s y.2 := by
  unfold f_X12_reads10_L7_B at h
  have t := hq_fc_rf w_X12_reads10 s
  by_cases c1 : a3 < 0
  · rw [if_pos c1] at h
    have h := Option.some.inj h
    subst h
    exact t
  · rw [if_neg c1] at h
    obtain ⟨x2, hx2, h⟩ := hq_bind h
    obtain ⟨s3, hs3, h⟩ := hq_bind h
    have t := hq_fc_tr t (hq_fc_st hs3 (by decide))
    obtain ⟨x4, hx4, h⟩ := hq_bind h
    obtain ⟨x5, hx5, h⟩ := hq_bind h
    obtain ⟨x6, hx6, h⟩ := hq_bind h
    by_cases c7 : x5 < x6
    · rw [if_pos c7] at h
      exact hq_fc_tr t (e7 a1 x4 (a3 + Int32.ofInt (-1)) s3 h)
    · rw [if_neg c7] at h
      have h := Option.some.inj h
      subst h
      exact t
theorem f_X12_reads10_L7_fw {n m : Nat} {a1 : Int32} {a2 : Int32} {a3 : Int32} {s : hq_S} {y : (Int32 × hq_S)} (h : f_X12_reads10_L7 n m a1 a2 a3 s = some y) : hq_fc w_X12_reads10 s y.2 := by
  induction m generalizing a1 a2 a3 s with
  | zero => cases h
  | succ m ih => exact f_X12_reads10_L7_B_fw (n := n) (a1 := a1) (a2 := a2) (a3 := a3) (q7 := f_X12_reads10_L7 n m) (fun a1 a2 a3 s h => ih h) h
theorem f_X12_reads10_fw {n : Nat} {a1 : Int32} {s : hq_S} {y : (Int32 × hq_S)} (h : f_X12_reads10 n a1 s = some y) : hq_fc w_X12_reads10 s y.2 := by
  unfold f_X12_reads10 at h
  have t := hq_fc_rf w_X12_reads10 s
  exact hq_fc_tr t (f_X12_reads10_L7_fw h)
def w_X12_isAmong : List (Nat × Option Nat) := []
theorem f_X12_isAmong_L2_B_fw {n : Nat} {a1 : Int32} {a2 : Int32} {q2 : Int32 → Int32 → hq_S → Option (Int32 × hq_S)} {s : hq_S} {y : (Int32 × hq_S)} (e2 : ∀ (a1 : Int32) (a2 : Int32) (s : hq_S), q2 a1 a2 s = some y → hq_fc w_X12_isAmong s y.2) (h : f_X12_isAmong_L2_B n q2 a1 a2 s = some y) : hq_fc w_X12_isAmong s y.2 := by
  unfold f_X12_isAmong_L2_B at h
  have t := hq_fc_rf w_X12_isAmong s
  by_cases c1 : a2 < (hq_gi s 174 60)
  · rw [if_pos c1] at h
    obtain ⟨x2, hx2, h⟩ := hq_bind h
    by_cases c3 : x2 = a1
    · rw [if_pos c3] at h
      have h := Option.some.inj h
      subst h
      exact t
    · rw [if_neg c3] at h
      exact hq_fc_tr t (e2 a1 (a2 + (1 : Int32)) s h)
  · rw [if_neg c1] at h
    have h := Option.some.inj h
    subst h
    exact t
theorem f_X12_isAmong_L2_fw {n m : Nat} {a1 : Int32} {a2 : Int32} {s : hq_S} {y : (Int32 × hq_S)} (h : f_X12_isAmong_L2 n m a1 a2 s = some y) : hq_fc w_X12_isAmong s y.2 := by
  induction m generalizing a1 a2 s with
  | zero => cases h
  | succ m ih => exact f_X12_isAmong_L2_B_fw (n := n) (a1 := a1) (a2 := a2) (q2 := f_X12_isAmong_L2 n m) (fun a1 a2 s h => ih h) h
theorem f_X12_isAmong_fw {n : Nat} {a1 : Int32} {s : hq_S} {y : (Int32 × hq_S)} (h : f_X12_isAmong n a1 s = some y) : hq_fc w_X12_isAmong s y.2 := by
  unfold f_X12_isAmong at h
  have t := hq_fc_rf w_X12_isAmong s
  exact hq_fc_tr t (f_X12_isAmong_L2_fw h)
def w_X12_stayOrGo : List (Nat × Option Nat) := []
theorem f_X12_stayOrGo_fw {n : Nat} {a1 : Int32} {s : hq_S} {y : (Int32 × hq_S)} (h : f_X12_stayOrGo n a1 s = some y) : hq_fc w_X12_stayOrGo s y.2 := by
  unfold f_X12_stayOrGo at h
  have t := hq_fc_rf w_X12_stayOrGo s
  obtain ⟨x1, hx1, h⟩ := hq_bind h
  have h := Option.some.inj h
  subst h
  exact t
def w_X12_isLost : List (Nat × Option Nat) := []
theorem f_X12_isLost_J76_fw {n : Nat} {a1 : Int32} {a2 : Int32} {a3 : Int32} {a4 : Int32} {q29 : Int32 → Int32 → Int32 → Int32 → hq_S → Option (Int32 × hq_S)} {s : hq_S} {y : (Int32 × hq_S)} (e29 : ∀ (a1 : Int32) (a2 : Int32) (a3 : Int32) (a4 : Int32) (s : hq_S), q29 a1 a2 a3 a4 s = some y → hq_fc w_X12_isLost s y.2) (h : f_X12_isLost_J76 n q29 a1 a2 a3 a4 s = some y) : hq_fc w_X12_isLost s y.2 := by
  unfold f_X12_isLost_J76 at h
  have t := hq_fc_rf w_X12_isLost s
  exact hq_fc_tr t (e29 a1 a2 a3 (a4 + (1 : Int32)) s h)
theorem f_X12_isLost_L29_B_fw {n : Nat} {a1 : Int32} {a2 : Int32} {a3 : Int32} {a4 : Int32} {q29 : Int32 → Int32 → Int32 → Int32 → hq_S → Option (Int32 × hq_S)} {s : hq_S} {y : (Int32 × hq_S)} (e29 : ∀ (a1 : Int32) (a2 : Int32) (a3 : Int32) (a4 : Int32) (s : hq_S), q29 a1 a2 a3 a4 s = some y → hq_fc w_X12_isLost s y.2) (h : f_X12_isLost_L29_B n q29 a1 a2 a3 a4 s = some y) : hq_fc w_X12_isLost s y.2 := by
  unfold f_X12_isLost_L29_B at h
  have t := hq_fc_rf w_X12_isLost s
  obtain ⟨x5, hx5, h⟩ := hq_bind h
  by_cases c6 : a4 < x5
  · rw [if_pos c6] at h
    by_cases c7 : ((a3 >>> (a4 &&& 31)) &&& (1 : Int32)) = (1 : Int32)
    · rw [if_pos c7] at h
      obtain ⟨y8, hy8, h⟩ := hq_bind h
      have t := hq_fc_tr t (hq_fc_mono (by decide) (f_X12_isAmong_fw hy8))
      by_cases c9 : y8.1 = 0
      · rw [if_pos c9] at h
        obtain ⟨x10, hx10, h⟩ := hq_bind h
        by_cases c11 : x10 = (-1 : Int32)
        · rw [if_pos c11] at h
          have h := Option.some.inj h
          subst h
          exact t
        · rw [if_neg c11] at h
          exact hq_fc_tr t (f_X12_isLost_J76_fw e29 h)
      · rw [if_neg c9] at h
        exact hq_fc_tr t (f_X12_isLost_J76_fw e29 h)
    · rw [if_neg c7] at h
      exact hq_fc_tr t (f_X12_isLost_J76_fw e29 h)
  · rw [if_neg c6] at h
    have h := Option.some.inj h
    subst h
    exact t
theorem f_X12_isLost_L29_fw {n m : Nat} {a1 : Int32} {a2 : Int32} {a3 : Int32} {a4 : Int32} {s : hq_S} {y : (Int32 × hq_S)} (h : f_X12_isLost_L29 n m a1 a2 a3 a4 s = some y) : hq_fc w_X12_isLost s y.2 := by
  induction m generalizing a1 a2 a3 a4 s with
  | zero => cases h
  | succ m ih => exact f_X12_isLost_L29_B_fw (n := n) (a1 := a1) (a2 := a2) (a3 := a3) (a4 := a4) (q29 := f_X12_isLost_L29 n m) (fun a1 a2 a3 a4 s h => ih h) h
theorem f_X12_isLost_fw {n : Nat} {a1 : Int32} {s : hq_S} {y : (Int32 × hq_S)} (h : f_X12_isLost n a1 s = some y) : hq_fc w_X12_isLost s y.2 := by
  unfold f_X12_isLost at h
  have t := hq_fc_rf w_X12_isLost s
  obtain ⟨x1, hx1, h⟩ := hq_bind h
  obtain ⟨y2, hy2, h⟩ := hq_bind h
  have t := hq_fc_tr t (hq_fc_mono (by decide) (f_X12_isAmong_fw hy2))
  by_cases c3 : y2.1 = 0
  · rw [if_pos c3] at h
    obtain ⟨y4, hy4, h⟩ := hq_bind h
    have t := hq_fc_tr t (hq_fc_mono (by decide) (f_X12_stayOrGo_fw hy4))
    exact hq_fc_tr t (f_X12_isLost_L29_fw h)
  · rw [if_neg c3] at h
    have h := Option.some.inj h
    subst h
    exact t
def w_X12_spreads : List (Nat × Option Nat) := [(209, none), (210, none), (211, none)]
theorem f_X12_spreads_L139_B_fw {n : Nat} {a1 : Int32} {a2 : Int32} {a3 : Int32} {q139 : Int32 → Int32 → Int32 → hq_S → Option hq_S} {s : hq_S} {y : hq_S} (e139 : ∀ (a1 : Int32) (a2 : Int32) (a3 : Int32) (o4 : Option Value) (o5 : Option Value) (s : hq_S), q139 a1 a2 a3 s = some y → hq_fc w_X12_spreads s y) (h : f_X12_spreads_L139_B n q139 a1 a2 a3 s = some y) : hq_fc w_X12_spreads s y := by
  unfold f_X12_spreads_L139_B at h
  have t := hq_fc_rf w_X12_spreads s
  obtain ⟨x4, hx4, h⟩ := hq_bind h
  by_cases c5 : a3 < x4
  · rw [if_pos c5] at h
    obtain ⟨x6, hx6, h⟩ := hq_bind h
    obtain ⟨s7, hs7, h⟩ := hq_bind h
    have t := hq_fc_tr t (hq_fc_st hs7 (by decide))
    exact hq_fc_tr t (e139 a1 a2 (a3 + (1 : Int32)) none none s7 h)
  · rw [if_neg c5] at h
    have h := Option.some.inj h
    subst h
    exact t
theorem f_X12_spreads_L139_fw {n m : Nat} {a1 : Int32} {a2 : Int32} {a3 : Int32} {s : hq_S} {y : hq_S} (h : f_X12_spreads_L139 n m a1 a2 a3 s = some y) : hq_fc w_X12_spreads s y := by
  induction m generalizing a1 a2 a3 s with
  | zero => cases h
  | succ m ih => exact f_X12_spreads_L139_B_fw (n := n) (a1 := a1) (a2 := a2) (a3 := a3) (q139 := f_X12_spreads_L139 n m) (fun a1 a2 a3 _ _ s h => ih h) h
theorem f_X12_spreads_J131_fw {n : Nat} {a1 : Int32} {a2 : Int32} {a3 : Int32} {q14 : Int32 → Int32 → Int32 → hq_S → Option hq_S} {s : hq_S} {y : hq_S} (e14 : ∀ (a1 : Int32) (a2 : Int32) (a3 : Int32) (o4 : Option Value) (o5 : Option Value) (s : hq_S), q14 a1 a2 a3 s = some y → hq_fc w_X12_spreads s y) (h : f_X12_spreads_J131 n q14 a1 a2 a3 s = some y) : hq_fc w_X12_spreads s y := by
  unfold f_X12_spreads_J131 at h
  have t := hq_fc_rf w_X12_spreads s
  exact hq_fc_tr t (e14 a1 a2 (a3 + (1 : Int32)) none none s h)
theorem f_X12_spreads_L62_B_fw {n : Nat} {a1 : Int32} {a2 : Int32} {a3 : Int32} {a4 : Int32} {a5 : Int32} {q14 : Int32 → Int32 → Int32 → hq_S → Option hq_S} {q62 : Int32 → Int32 → Int32 → Int32 → Int32 → hq_S → Option hq_S} {s : hq_S} {y : hq_S} (e14 : ∀ (a1 : Int32) (a2 : Int32) (a3 : Int32) (o4 : Option Value) (o5 : Option Value) (s : hq_S), q14 a1 a2 a3 s = some y → hq_fc w_X12_spreads s y) (e62 : ∀ (a1 : Int32) (a2 : Int32) (a3 : Int32) (a4 : Int32) (a5 : Int32) (s : hq_S), q62 a1 a2 a3 a4 a5 s = some y → hq_fc w_X12_spreads s y) (h : f_X12_spreads_L62_B n q14 q62 a1 a2 a3 a4 a5 s = some y) : hq_fc w_X12_spreads s y := by
  unfold f_X12_spreads_L62_B at h
  have t := hq_fc_rf w_X12_spreads s
  obtain ⟨x13, hx13, h⟩ := hq_bind h
  by_cases c14 : a5 < x13
  · rw [if_pos c14] at h
    obtain ⟨x15, hx15, h⟩ := hq_bind h
    by_cases c16 : x15 = 0
    · rw [if_pos c16] at h
      obtain ⟨z17, hz17, h⟩ := hq_bind h
      obtain ⟨s22, hs22, h⟩ := hq_bind h
      have t := hq_fc_tr t (hq_fc_st hs22 (by decide))
      exact hq_fc_tr t (e62 a1 a2 a3 a4 (a5 + (1 : Int32)) s22 h)
    · rw [if_neg c16] at h
      exact hq_fc_tr t (f_X12_spreads_J131_fw e14 h)
  · rw [if_neg c14] at h
    exact hq_fc_tr t (f_X12_spreads_J131_fw e14 h)
theorem f_X12_spreads_L62_fw {n m : Nat} {a1 : Int32} {a2 : Int32} {a3 : Int32} {a4 : Int32} {a5 : Int32} {q14 : Int32 → Int32 → Int32 → hq_S → Option hq_S} {s : hq_S} {y : hq_S} (e14 : ∀ (a1 : Int32) (a2 : Int32) (a3 : Int32) (o4 : Option Value) (o5 : Option Value) (s : hq_S), q14 a1 a2 a3 s = some y → hq_fc w_X12_spreads s y) (h : f_X12_spreads_L62 n q14 m a1 a2 a3 a4 a5 s = some y) : hq_fc w_X12_spreads s y := by
  induction m generalizing a1 a2 a3 a4 a5 s with
  | zero => cases h
  | succ m ih => exact f_X12_spreads_L62_B_fw (n := n) (a1 := a1) (a2 := a2) (a3 := a3) (a4 := a4) (a5 := a5) (q62 := f_X12_spreads_L62 n q14 m) e14 (fun a1 a2 a3 a4 a5 s h => ih h) h
theorem f_X12_spreads_L14_B_fw {n : Nat} {a1 : Int32} {a2 : Int32} {a3 : Int32} {q14 : Int32 → Int32 → Int32 → hq_S → Option hq_S} {s : hq_S} {y : hq_S} (e14 : ∀ (a1 : Int32) (a2 : Int32) (a3 : Int32) (o4 : Option Value) (o5 : Option Value) (s : hq_S), q14 a1 a2 a3 s = some y → hq_fc w_X12_spreads s y) (h : f_X12_spreads_L14_B n q14 a1 a2 a3 s = some y) : hq_fc w_X12_spreads s y := by
  unfold f_X12_spreads_L14_B at h
  have t := hq_fc_rf w_X12_spreads s
  obtain ⟨x2, hx2, h⟩ := hq_bind h
  by_cases c3 : a3 < x2
  · rw [if_pos c3] at h
    obtain ⟨s8, hs8, h⟩ := hq_bind h
    have t := hq_fc_tr t (hq_fc_st hs8 (by decide))
    obtain ⟨y9, hy9, h⟩ := hq_bind h
    have t := hq_fc_tr t (hq_fc_mono (by decide) (f_X12_reads10_fw hy9))
    by_cases c10 : y9.1 = 0
    · rw [if_pos c10] at h
      exact hq_fc_tr t (f_X12_spreads_J131_fw e14 h)
    · rw [if_neg c10] at h
      obtain ⟨x11, hx11, h⟩ := hq_bind h
      obtain ⟨y12, hy12, h⟩ := hq_bind h
      have t := hq_fc_tr t (hq_fc_mono (by decide) (f_X12_stayOrGo_fw hy12))
      exact hq_fc_tr t (f_X12_spreads_L62_fw e14 h)
  · rw [if_neg c3] at h
    exact hq_fc_tr t (f_X12_spreads_L139_fw h)
theorem f_X12_spreads_L14_fw {n m : Nat} {a1 : Int32} {a2 : Int32} {a3 : Int32} {s : hq_S} {y : hq_S} (h : f_X12_spreads_L14 n m a1 a2 a3 s = some y) : hq_fc w_X12_spreads s y := by
  induction m generalizing a1 a2 a3 s with
  | zero => cases h
  | succ m ih => exact f_X12_spreads_L14_B_fw (n := n) (a1 := a1) (a2 := a2) (a3 := a3) (q14 := f_X12_spreads_L14 n m) (fun a1 a2 a3 _ _ s h => ih h) h
theorem f_X12_spreads_fw {n : Nat} {a1 : Int32} {s : hq_S} {y : hq_S} (h : f_X12_spreads n a1 s = some y) : hq_fc w_X12_spreads s y := by
  unfold f_X12_spreads at h
  have t := hq_fc_rf w_X12_spreads s
  obtain ⟨x1, hx1, h⟩ := hq_bind h
  exact hq_fc_tr t (f_X12_spreads_L14_fw h)
