def w_X12_laysChase : List (Nat × Option Nat) := [(174, some 60), (208, none), (209, none), (210, none), (211, none)]
theorem f_X12_laysChase_L151_B_fw {n : Nat} {a1 : Int32} {a2 : Int32} {a3 : Int32} {a4 : Int32} {q69 : Int32 → Int32 → Int32 → hq_S → Option hq_S} {q151 : Int32 → Int32 → Int32 → Int32 → hq_S → Option hq_S} {s : hq_S} {y : hq_S} (e69 : ∀ (a1 : Int32) (a2 : Int32) (a3 : Int32) (o4 : Option Value) (s : hq_S), q69 a1 a2 a3 s = some y → hq_fc w_X12_laysChase s y) (e151 : ∀ (a1 : Int32) (a2 : Int32) (a3 : Int32) (a4 : Int32) (s : hq_S), q151 a1 a2 a3 a4 s = some y → hq_fc w_X12_laysChase s y) (h : f_X12_laysChase_L151_B n q69 q151 a1 a2 a3 a4 s = some y) : hq_fc w_X12_laysChase s y := by
  unfold f_X12_laysChase_L151_B at h
  have t := hq_fc_rf w_X12_laysChase s
  obtain ⟨x10, hx10, h⟩ := hq_bind h
  by_cases c11 : a4 < x10
  · rw [if_pos c11] at h
    obtain ⟨x12, hx12, h⟩ := hq_bind h
    obtain ⟨z13, hz13, h⟩ := hq_bind h
    have t : hq_fc w_X12_laysChase s z13.2 := by
      clear h
      have h := hz13
      by_cases c14 : x12 = 0
      · rw [if_pos c14] at h
        cases h
        exact t
      · rw [if_neg c14] at h
        obtain ⟨x15, hx15, h⟩ := hq_bind h
        by_cases c16 : x15 = (-1 : Int32)
        · rw [if_pos c16] at h
          obtain ⟨s17, hs17, h⟩ := hq_bind h
          have t := hq_fc_tr t (hq_fc_st hs17 (by decide))
          cases h
          exact t
        · rw [if_neg c16] at h
          cases h
          exact t
    exact hq_fc_tr t (e151 a1 z13.1 a3 (a4 + (1 : Int32)) z13.2 h)
  · rw [if_neg c11] at h
    exact hq_fc_tr t (e69 a1 a2 (a3 + (1 : Int32)) none s h)
theorem f_X12_laysChase_L151_fw {n m : Nat} {a1 : Int32} {a2 : Int32} {a3 : Int32} {a4 : Int32} {q69 : Int32 → Int32 → Int32 → hq_S → Option hq_S} {s : hq_S} {y : hq_S} (e69 : ∀ (a1 : Int32) (a2 : Int32) (a3 : Int32) (o4 : Option Value) (s : hq_S), q69 a1 a2 a3 s = some y → hq_fc w_X12_laysChase s y) (h : f_X12_laysChase_L151 n q69 m a1 a2 a3 a4 s = some y) : hq_fc w_X12_laysChase s y := by
  induction m generalizing a1 a2 a3 a4 s with
  | zero => cases h
  | succ m ih => exact f_X12_laysChase_L151_B_fw (n := n) (a1 := a1) (a2 := a2) (a3 := a3) (a4 := a4) (q151 := f_X12_laysChase_L151 n q69 m) e69 (fun a1 a2 a3 a4 s h => ih h) h
theorem f_X12_laysChase_L130_B_fw {n : Nat} {a1 : Int32} {a2 : Int32} {a3 : Int32} {a4 : Int32} {q69 : Int32 → Int32 → Int32 → hq_S → Option hq_S} {q130 : Int32 → Int32 → Int32 → Int32 → hq_S → Option hq_S} {s : hq_S} {y : hq_S} (e69 : ∀ (a1 : Int32) (a2 : Int32) (a3 : Int32) (o4 : Option Value) (s : hq_S), q69 a1 a2 a3 s = some y → hq_fc w_X12_laysChase s y) (e130 : ∀ (a1 : Int32) (a2 : Int32) (a3 : Int32) (a4 : Int32) (s : hq_S), q130 a1 a2 a3 a4 s = some y → hq_fc w_X12_laysChase s y) (h : f_X12_laysChase_L130_B n q69 q130 a1 a2 a3 a4 s = some y) : hq_fc w_X12_laysChase s y := by
  unfold f_X12_laysChase_L130_B at h
  have t := hq_fc_rf w_X12_laysChase s
  by_cases c9 : a4 < a1
  · rw [if_pos c9] at h
    obtain ⟨s18, hs18, h⟩ := hq_bind h
    have t := hq_fc_tr t (hq_fc_mono (by decide) (f_X12_spreads_fw hs18))
    exact hq_fc_tr t (e130 a1 a2 a3 (a4 + (1 : Int32)) s18 h)
  · rw [if_neg c9] at h
    exact hq_fc_tr t (f_X12_laysChase_L151_fw e69 h)
theorem f_X12_laysChase_L130_fw {n m : Nat} {a1 : Int32} {a2 : Int32} {a3 : Int32} {a4 : Int32} {q69 : Int32 → Int32 → Int32 → hq_S → Option hq_S} {s : hq_S} {y : hq_S} (e69 : ∀ (a1 : Int32) (a2 : Int32) (a3 : Int32) (o4 : Option Value) (s : hq_S), q69 a1 a2 a3 s = some y → hq_fc w_X12_laysChase s y) (h : f_X12_laysChase_L130 n q69 m a1 a2 a3 a4 s = some y) : hq_fc w_X12_laysChase s y := by
  induction m generalizing a1 a2 a3 a4 s with
  | zero => cases h
  | succ m ih => exact f_X12_laysChase_L130_B_fw (n := n) (a1 := a1) (a2 := a2) (a3 := a3) (a4 := a4) (q130 := f_X12_laysChase_L130 n q69 m) e69 (fun a1 a2 a3 a4 s h => ih h) h
theorem f_X12_laysChase_L78_B_fw {n : Nat} {a1 : Int32} {a2 : Int32} {a3 : Int32} {a4 : Int32} {q69 : Int32 → Int32 → Int32 → hq_S → Option hq_S} {q78 : Int32 → Int32 → Int32 → Int32 → hq_S → Option hq_S} {s : hq_S} {y : hq_S} (e69 : ∀ (a1 : Int32) (a2 : Int32) (a3 : Int32) (o4 : Option Value) (s : hq_S), q69 a1 a2 a3 s = some y → hq_fc w_X12_laysChase s y) (e78 : ∀ (a1 : Int32) (a2 : Int32) (a3 : Int32) (a4 : Int32) (s : hq_S), q78 a1 a2 a3 a4 s = some y → hq_fc w_X12_laysChase s y) (h : f_X12_laysChase_L78_B n q69 q78 a1 a2 a3 a4 s = some y) : hq_fc w_X12_laysChase s y := by
  unfold f_X12_laysChase_L78_B at h
  have t := hq_fc_rf w_X12_laysChase s
  obtain ⟨x7, hx7, h⟩ := hq_bind h
  by_cases c8 : a4 < x7
  · rw [if_pos c8] at h
    obtain ⟨y19, hy19, h⟩ := hq_bind h
    have t := hq_fc_tr t (hq_fc_mono (by decide) (f_X12_reads10_fw hy19))
    obtain ⟨z20, hz20, h⟩ := hq_bind h
    have t : hq_fc w_X12_laysChase s z20.2 := by
      clear h
      have h := hz20
      by_cases c21 : y19.1 = 0
      · rw [if_pos c21] at h
        cases h
        exact t
      · rw [if_neg c21] at h
        obtain ⟨y22, hy22, h⟩ := hq_bind h
        have t := hq_fc_tr t (hq_fc_mono (by decide) (f_X12_isLost_fw hy22))
        by_cases c23 : y22.1 = 0
        · rw [if_pos c23] at h
          cases h
          exact t
        · rw [if_neg c23] at h
          cases h
          exact t
    obtain ⟨s24, hs24, h⟩ := hq_bind h
    have t := hq_fc_tr t (hq_fc_st hs24 (by decide))
    exact hq_fc_tr t (e78 a1 a2 a3 (a4 + (1 : Int32)) s24 h)
  · rw [if_neg c8] at h
    exact hq_fc_tr t (f_X12_laysChase_L130_fw e69 h)
theorem f_X12_laysChase_L78_fw {n m : Nat} {a1 : Int32} {a2 : Int32} {a3 : Int32} {a4 : Int32} {q69 : Int32 → Int32 → Int32 → hq_S → Option hq_S} {s : hq_S} {y : hq_S} (e69 : ∀ (a1 : Int32) (a2 : Int32) (a3 : Int32) (o4 : Option Value) (s : hq_S), q69 a1 a2 a3 s = some y → hq_fc w_X12_laysChase s y) (h : f_X12_laysChase_L78 n q69 m a1 a2 a3 a4 s = some y) : hq_fc w_X12_laysChase s y := by
  induction m generalizing a1 a2 a3 a4 s with
  | zero => cases h
  | succ m ih => exact f_X12_laysChase_L78_B_fw (n := n) (a1 := a1) (a2 := a2) (a3 := a3) (a4 := a4) (q78 := f_X12_laysChase_L78 n q69 m) e69 (fun a1 a2 a3 a4 s h => ih h) h
theorem f_X12_laysChase_L69_B_fw {n : Nat} {a1 : Int32} {a2 : Int32} {a3 : Int32} {q69 : Int32 → Int32 → Int32 → hq_S → Option hq_S} {s : hq_S} {y : hq_S} (e69 : ∀ (a1 : Int32) (a2 : Int32) (a3 : Int32) (o4 : Option Value) (s : hq_S), q69 a1 a2 a3 s = some y → hq_fc w_X12_laysChase s y) (h : f_X12_laysChase_L69_B n q69 a1 a2 a3 s = some y) : hq_fc w_X12_laysChase s y := by
  unfold f_X12_laysChase_L69_B at h
  have t := hq_fc_rf w_X12_laysChase s
  by_cases c6 : a2 = 0
  · rw [if_pos c6] at h
    have h := Option.some.inj h
    subst h
    exact t
  · rw [if_neg c6] at h
    exact hq_fc_tr t (f_X12_laysChase_L78_fw e69 h)
theorem f_X12_laysChase_L69_fw {n m : Nat} {a1 : Int32} {a2 : Int32} {a3 : Int32} {s : hq_S} {y : hq_S} (h : f_X12_laysChase_L69 n m a1 a2 a3 s = some y) : hq_fc w_X12_laysChase s y := by
  induction m generalizing a1 a2 a3 s with
  | zero => cases h
  | succ m ih => exact f_X12_laysChase_L69_B_fw (n := n) (a1 := a1) (a2 := a2) (a3 := a3) (q69 := f_X12_laysChase_L69 n m) (fun a1 a2 a3 _ s h => ih h) h
theorem f_X12_laysChase_L7_B_fw {n : Nat} {a1 : Int32} {a2 : Int32} {q7 : Int32 → Int32 → hq_S → Option hq_S} {s : hq_S} {y : hq_S} (e7 : ∀ (a1 : Int32) (a2 : Int32) (s : hq_S), q7 a1 a2 s = some y → hq_fc w_X12_laysChase s y) (h : f_X12_laysChase_L7_B n q7 a1 a2 s = some y) : hq_fc w_X12_laysChase s y := by
  unfold f_X12_laysChase_L7_B at h
  have t := hq_fc_rf w_X12_laysChase s
  obtain ⟨x2, hx2, h⟩ := hq_bind h
  by_cases c3 : a2 < x2
  · rw [if_pos c3] at h
    obtain ⟨y25, hy25, h⟩ := hq_bind h
    have t := hq_fc_tr t (hq_fc_mono (by decide) (f_X12_reads10_fw hy25))
    obtain ⟨z26, hz26, h⟩ := hq_bind h
    have t : hq_fc w_X12_laysChase s z26.2 := by
      clear h
      have h := hz26
      by_cases c27 : y25.1 = 0
      · rw [if_pos c27] at h
        cases h
        exact t
      · rw [if_neg c27] at h
        obtain ⟨x28, hx28, h⟩ := hq_bind h
        obtain ⟨y29, hy29, h⟩ := hq_bind h
        have t := hq_fc_tr t (hq_fc_mono (by decide) (f_X12_isAmong_fw hy29))
        by_cases c30 : y29.1 = 0
        · rw [if_pos c30] at h
          cases h
          exact t
        · rw [if_neg c30] at h
          cases h
          exact t
    obtain ⟨s31, hs31, h⟩ := hq_bind h
    have t := hq_fc_tr t (hq_fc_st hs31 (by decide))
    exact hq_fc_tr t (e7 a1 (a2 + (1 : Int32)) s31 h)
  · rw [if_neg c3] at h
    obtain ⟨z4, hz4, h⟩ := hq_bind h
    exact hq_fc_tr t (f_X12_laysChase_L69_fw h)
theorem f_X12_laysChase_L7_fw {n m : Nat} {a1 : Int32} {a2 : Int32} {s : hq_S} {y : hq_S} (h : f_X12_laysChase_L7 n m a1 a2 s = some y) : hq_fc w_X12_laysChase s y := by
  induction m generalizing a1 a2 s with
  | zero => cases h
  | succ m ih => exact f_X12_laysChase_L7_B_fw (n := n) (a1 := a1) (a2 := a2) (q7 := f_X12_laysChase_L7 n m) (fun a1 a2 s h => ih h) h
theorem f_X12_laysChase_fw {n : Nat} {a1 : Int32} {s : hq_S} {y : hq_S} (h : f_X12_laysChase n a1 s = some y) : hq_fc w_X12_laysChase s y := by
  unfold f_X12_laysChase at h
  have t := hq_fc_rf w_X12_laysChase s
  obtain ⟨s1, hs1, h⟩ := hq_bind h
  have t := hq_fc_tr t (hq_fc_pi hs1 (by decide))
  exact hq_fc_tr t (f_X12_laysChase_L7_fw h)
def w_X12_codeOf : List (Nat × Option Nat) := []
theorem f_X12_codeOf_L5_B_fw {n : Nat} {k1 : Nat} {a2 : Int32} {a3 : Int32} {a4 : Int32} {q5 : Nat → Int32 → Int32 → Int32 → hq_S → Option (Int32 × hq_S)} {s : hq_S} {y : (Int32 × hq_S)} (e5 : ∀ (k1 : Nat) (a2 : Int32) (a3 : Int32) (a4 : Int32) (s : hq_S), q5 k1 a2 a3 a4 s = some y → hq_fc w_X12_codeOf s y.2) (h : f_X12_codeOf_L5_B n q5 k1 a2 a3 a4 s = some y) : hq_fc w_X12_codeOf s y.2 := by
  unfold f_X12_codeOf_L5_B at h
  have t := hq_fc_rf w_X12_codeOf s
  by_cases c1 : a4 < (hq_gi s 174 60)
  · rw [if_pos c1] at h
    obtain ⟨x2, hx2, h⟩ := hq_bind h
    exact hq_fc_tr t (e5 k1 a2 (((10 : Int32) * a3) + x2) (a4 + (1 : Int32)) s h)
  · rw [if_neg c1] at h
    have h := Option.some.inj h
    subst h
    exact t
theorem f_X12_codeOf_L5_fw {n m : Nat} {k1 : Nat} {a2 : Int32} {a3 : Int32} {a4 : Int32} {s : hq_S} {y : (Int32 × hq_S)} (h : f_X12_codeOf_L5 n m k1 a2 a3 a4 s = some y) : hq_fc w_X12_codeOf s y.2 := by
  induction m generalizing k1 a2 a3 a4 s with
  | zero => cases h
  | succ m ih => exact f_X12_codeOf_L5_B_fw (n := n) (k1 := k1) (a2 := a2) (a3 := a3) (a4 := a4) (q5 := f_X12_codeOf_L5 n m) (fun k1 a2 a3 a4 s h => ih h) h
theorem f_X12_codeOf_fw {n : Nat} {k1 : Nat} {a2 : Int32} {s : hq_S} {y : (Int32 × hq_S)} (h : f_X12_codeOf n k1 a2 s = some y) : hq_fc w_X12_codeOf s y.2 := by
  unfold f_X12_codeOf at h
  have t := hq_fc_rf w_X12_codeOf s
  exact hq_fc_tr t (f_X12_codeOf_L5_fw h)
def w_X12_putsGuards : List (Nat × Option Nat) := [(174, some 60), (206, none), (207, none), (208, none), (209, none), (210, none), (211, none), (213, none)]
theorem f_X12_putsGuards_L9_B_fw {n : Nat} {a1 : Int32} {a2 : Int32} {a3 : Int32} {q9 : Int32 → Int32 → Int32 → hq_S → Option hq_S} {s : hq_S} {y : hq_S} (e9 : ∀ (a1 : Int32) (a2 : Int32) (a3 : Int32) (s : hq_S), q9 a1 a2 a3 s = some y → hq_fc w_X12_putsGuards s y) (h : f_X12_putsGuards_L9_B n q9 a1 a2 a3 s = some y) : hq_fc w_X12_putsGuards s y := by
  unfold f_X12_putsGuards_L9_B at h
  have t := hq_fc_rf w_X12_putsGuards s
  obtain ⟨x2, hx2, h⟩ := hq_bind h
  by_cases c3 : a3 < x2
  · rw [if_pos c3] at h
    obtain ⟨z5, hz5, h⟩ := hq_bind h
    have t : hq_fc w_X12_putsGuards s z5.2 := by
      clear h
      have h := hz5
      by_cases c6 : ((a1 >>> (a3 &&& 31)) &&& (1 : Int32)) = 0
      · rw [if_pos c6] at h
        cases h
        exact t
      · rw [if_neg c6] at h
        obtain ⟨s7, hs7, h⟩ := hq_bind h
        have t := hq_fc_tr t (hq_fc_st hs7 (by decide))
        cases h
        exact t
    exact hq_fc_tr t (e9 a1 z5.1 (a3 + (1 : Int32)) z5.2 h)
  · rw [if_neg c3] at h
    obtain ⟨s4, hs4, h⟩ := hq_bind h
    have t := hq_fc_tr t (hq_fc_mono (by decide) (f_X12_laysChase_fw hs4))
    have h := Option.some.inj h
    subst h
    exact t
theorem f_X12_putsGuards_L9_fw {n m : Nat} {a1 : Int32} {a2 : Int32} {a3 : Int32} {s : hq_S} {y : hq_S} (h : f_X12_putsGuards_L9 n m a1 a2 a3 s = some y) : hq_fc w_X12_putsGuards s y := by
  induction m generalizing a1 a2 a3 s with
  | zero => cases h
  | succ m ih => exact f_X12_putsGuards_L9_B_fw (n := n) (a1 := a1) (a2 := a2) (a3 := a3) (q9 := f_X12_putsGuards_L9 n m) (fun a1 a2 a3 s h => ih h) h
theorem f_X12_putsGuards_fw {n : Nat} {a1 : Int32} {s : hq_S} {y : hq_S} (h : f_X12_putsGuards n a1 s = some y) : hq_fc w_X12_putsGuards s y := by
  unfold f_X12_putsGuards at h
  have t := hq_fc_rf w_X12_putsGuards s
  obtain ⟨s1, hs1, h⟩ := hq_bind h
  have t := hq_fc_tr t (hq_fc_mono (by decide) (f_X12_lays_fw hs1))
  exact hq_fc_tr t (f_X12_putsGuards_L9_fw h)
def w_X12_roundsOf : List (Nat × Option Nat) := [(214, none)]
theorem f_X12_roundsOf_L2_B_fw {n : Nat} {a1 : Int32} {a2 : Int32} {q2 : Int32 → Int32 → hq_S → Option (Int32 × hq_S)} {s : hq_S} {y : (Int32 × hq_S)} (e2 : ∀ (a1 : Int32) (a2 : Int32) (s : hq_S), q2 a1 a2 s = some y → hq_fc w_X12_roundsOf s y.2) (h : f_X12_roundsOf_L2_B n q2 a1 a2 s = some y) : hq_fc w_X12_roundsOf s y.2 := by
  unfold f_X12_roundsOf_L2_B at h
  have t := hq_fc_rf w_X12_roundsOf s
  by_cases c1 : a2 < (hq_gi s 174 60)
  · rw [if_pos c1] at h
    obtain ⟨x5, hx5, h⟩ := hq_bind h
    obtain ⟨x6, hx6, h⟩ := hq_bind h
    obtain ⟨s7, hs7, h⟩ := hq_bind h
    have t := hq_fc_tr t (hq_fc_st hs7 (by decide))
    exact hq_fc_tr t (e2 a1 (a2 + (1 : Int32)) s7 h)
  · rw [if_neg c1] at h
    by_cases c2 : (hq_gi s 174 60) = 0
    · rw [if_pos c2] at h
      have h := Option.some.inj h
      subst h
      exact t
    · rw [if_neg c2] at h
      obtain ⟨y3, hy3, h⟩ := hq_bind h
      have t := hq_fc_tr t (hq_fc_mono (by decide) (f_X12_codeOf_fw hy3))
      obtain ⟨x4, hx4, h⟩ := hq_bind h
      have h := Option.some.inj h
      subst h
      exact t
theorem f_X12_roundsOf_L2_fw {n m : Nat} {a1 : Int32} {a2 : Int32} {s : hq_S} {y : (Int32 × hq_S)} (h : f_X12_roundsOf_L2 n m a1 a2 s = some y) : hq_fc w_X12_roundsOf s y.2 := by
  induction m generalizing a1 a2 s with
  | zero => cases h
  | succ m ih => exact f_X12_roundsOf_L2_B_fw (n := n) (a1 := a1) (a2 := a2) (q2 := f_X12_roundsOf_L2 n m) (fun a1 a2 s h => ih h) h
theorem f_X12_roundsOf_fw {n : Nat} {a1 : Int32} {s : hq_S} {y : (Int32 × hq_S)} (h : f_X12_roundsOf n a1 s = some y) : hq_fc w_X12_roundsOf s y.2 := by
  unfold f_X12_roundsOf at h
  have t := hq_fc_rf w_X12_roundsOf s
  exact hq_fc_tr t (f_X12_roundsOf_L2_fw h)
def w_X12_areGuards : List (Nat × Option Nat) := []
theorem f_X12_areGuards_fw {n : Nat} {a1 : Int32} {s : hq_S} {y : (Int32 × hq_S)} (h : f_X12_areGuards n a1 s = some y) : hq_fc w_X12_areGuards s y.2 := by
  unfold f_X12_areGuards at h
  have t := hq_fc_rf w_X12_areGuards s
  by_cases c1 : a1 < 0
  · rw [if_pos c1] at h
    have h := Option.some.inj h
    subst h
    exact t
  · rw [if_neg c1] at h
    obtain ⟨x2, hx2, h⟩ := hq_bind h
    by_cases c3 : a1 < ((1 : Int32) <<< (x2 &&& 31))
    · rw [if_pos c3] at h
      have h := Option.some.inj h
      subst h
      exact t
    · rw [if_neg c3] at h
      have h := Option.some.inj h
      subst h
      exact t
def w_X12_chase : List (Nat × Option Nat) := [(174, some 0), (174, some 60), (206, none), (207, none), (208, none), (209, none), (210, none), (211, none), (213, none), (214, none)]
theorem f_X12_chase_fw {n : Nat} {a1 : Int32} {a2 : Int32} {s : hq_S} {y : (Int32 × hq_S)} (h : f_X12_chase n a1 a2 s = some y) : hq_fc w_X12_chase s y.2 := by
  unfold f_X12_chase at h
  have t := hq_fc_rf w_X12_chase s
  obtain ⟨s1, hs1, h⟩ := hq_bind h
  have t := hq_fc_tr t (hq_fc_pi hs1 (by decide))
  obtain ⟨y2, hy2, h⟩ := hq_bind h
  have t := hq_fc_tr t (hq_fc_mono (by decide) (f_X12_areGuards_fw hy2))
  by_cases c3 : y2.1 = 0
  · rw [if_pos c3] at h
    have h := Option.some.inj h
    subst h
    exact t
  · rw [if_neg c3] at h
    obtain ⟨y4, hy4, h⟩ := hq_bind h
    have t := hq_fc_tr t (hq_fc_mono (by decide) (f_X12_isCorner_fw hy4))
    by_cases c5 : y4.1 = 0
    · rw [if_pos c5] at h
      have h := Option.some.inj h
      subst h
      exact t
    · rw [if_neg c5] at h
      obtain ⟨s6, hs6, h⟩ := hq_bind h
      have t := hq_fc_tr t (hq_fc_mono (by decide) (f_X12_putsGuards_fw hs6))
      obtain ⟨y7, hy7, h⟩ := hq_bind h
      have t := hq_fc_tr t (hq_fc_mono (by decide) (f_X12_roundsOf_fw hy7))
      by_cases c8 : y7.1 = (-1 : Int32)
      · rw [if_pos c8] at h
        have h := Option.some.inj h
        subst h
        exact t
      · rw [if_neg c8] at h
        have h := Option.some.inj h
        subst h
        exact t
def w_X12_isAt : List (Nat × Option Nat) := []
theorem f_X12_isAt_L2_B_fw {n : Nat} {a1 : Int32} {a2 : Int32} {q2 : Int32 → Int32 → hq_S → Option (Int32 × hq_S)} {s : hq_S} {y : (Int32 × hq_S)} (e2 : ∀ (a1 : Int32) (a2 : Int32) (s : hq_S), q2 a1 a2 s = some y → hq_fc w_X12_isAt s y.2) (h : f_X12_isAt_L2_B n q2 a1 a2 s = some y) : hq_fc w_X12_isAt s y.2 := by
  unfold f_X12_isAt_L2_B at h
  have t := hq_fc_rf w_X12_isAt s
  by_cases c1 : a2 < (hq_gi s 174 60)
  · rw [if_pos c1] at h
    obtain ⟨x2, hx2, h⟩ := hq_bind h
    by_cases c3 : x2 = a1
    · rw [if_pos c3] at h
      have h := Option.some.inj h
      subst h
      exact t
    · rw [if_neg c3] at h
      exact hq_fc_tr t (e2 a1 (a2 + (1 : Int32)) s h)
  · rw [if_neg c1] at h
    have h := Option.some.inj h
    subst h
    exact t
theorem f_X12_isAt_L2_fw {n m : Nat} {a1 : Int32} {a2 : Int32} {s : hq_S} {y : (Int32 × hq_S)} (h : f_X12_isAt_L2 n m a1 a2 s = some y) : hq_fc w_X12_isAt s y.2 := by
  induction m generalizing a1 a2 s with
  | zero => cases h
  | succ m ih => exact f_X12_isAt_L2_B_fw (n := n) (a1 := a1) (a2 := a2) (q2 := f_X12_isAt_L2 n m) (fun a1 a2 s h => ih h) h
theorem f_X12_isAt_fw {n : Nat} {a1 : Int32} {s : hq_S} {y : (Int32 × hq_S)} (h : f_X12_isAt n a1 s = some y) : hq_fc w_X12_isAt s y.2 := by
  unfold f_X12_isAt at h
  have t := hq_fc_rf w_X12_isAt s
  exact hq_fc_tr t (f_X12_isAt_L2_fw h)
def w_X12_outcome : List (Nat × Option Nat) := []
theorem f_X12_outcome_J87_fw {n : Nat} {a1 : Int32} {a2 : Int32} {a3 : Int32} {a4 : Int32} {q21 : Int32 → Int32 → Int32 → Int32 → hq_S → Option (Int32 × hq_S)} {s : hq_S} {y : (Int32 × hq_S)} (e21 : ∀ (a1 : Int32) (a2 : Int32) (a3 : Int32) (a4 : Int32) (o5 : Option Value) (s : hq_S), q21 a1 a2 a3 a4 s = some y → hq_fc w_X12_outcome s y.2) (h : f_X12_outcome_J87 n q21 a1 a2 a3 a4 s = some y) : hq_fc w_X12_outcome s y.2 := by
  unfold f_X12_outcome_J87 at h
  have t := hq_fc_rf w_X12_outcome s
  exact hq_fc_tr t (e21 a1 a2 a3 (a4 + (1 : Int32)) none s h)
theorem f_X12_outcome_L21_B_fw {n : Nat} {a1 : Int32} {a2 : Int32} {a3 : Int32} {a4 : Int32} {q21 : Int32 → Int32 → Int32 → Int32 → hq_S → Option (Int32 × hq_S)} {s : hq_S} {y : (Int32 × hq_S)} (e21 : ∀ (a1 : Int32) (a2 : Int32) (a3 : Int32) (a4 : Int32) (o5 : Option Value) (s : hq_S), q21 a1 a2 a3 a4 s = some y → hq_fc w_X12_outcome s y.2) (h : f_X12_outcome_L21_B n q21 a1 a2 a3 a4 s = some y) : hq_fc w_X12_outcome s y.2 := by
  unfold f_X12_outcome_L21_B at h
  have t := hq_fc_rf w_X12_outcome s
  obtain ⟨x4, hx4, h⟩ := hq_bind h
  by_cases c5 : a4 < x4
  · rw [if_pos c5] at h
    by_cases c6 : ((a2 >>> (a4 &&& 31)) &&& (1 : Int32)) = 0
    · rw [if_pos c6] at h
      exact hq_fc_tr t (f_X12_outcome_J87_fw e21 h)
    · rw [if_neg c6] at h
      obtain ⟨y7, hy7, h⟩ := hq_bind h
      have t := hq_fc_tr t (hq_fc_mono (by decide) (f_X12_isAt_fw hy7))
      by_cases c8 : y7.1 = 0
      · rw [if_pos c8] at h
        obtain ⟨y9, hy9, h⟩ := hq_bind h
        have t := hq_fc_tr t (hq_fc_mono (by decide) (f_X12_codeOf_fw hy9))
        obtain ⟨x10, hx10, h⟩ := hq_bind h
        by_cases c11 : x10 = (-1 : Int32)
        · rw [if_pos c11] at h
          have h := Option.some.inj h
          subst h
          exact t
        · rw [if_neg c11] at h
          exact hq_fc_tr t (f_X12_outcome_J87_fw e21 h)
      · rw [if_neg c8] at h
        exact hq_fc_tr t (f_X12_outcome_J87_fw e21 h)
  · rw [if_neg c5] at h
    have h := Option.some.inj h
    subst h
    exact t
theorem f_X12_outcome_L21_fw {n m : Nat} {a1 : Int32} {a2 : Int32} {a3 : Int32} {a4 : Int32} {s : hq_S} {y : (Int32 × hq_S)} (h : f_X12_outcome_L21 n m a1 a2 a3 a4 s = some y) : hq_fc w_X12_outcome s y.2 := by
  induction m generalizing a1 a2 a3 a4 s with
  | zero => cases h
  | succ m ih => exact f_X12_outcome_L21_B_fw (n := n) (a1 := a1) (a2 := a2) (a3 := a3) (a4 := a4) (q21 := f_X12_outcome_L21 n m) (fun a1 a2 a3 a4 _ s h => ih h) h
theorem f_X12_outcome_fw {n : Nat} {a1 : Int32} {s : hq_S} {y : (Int32 × hq_S)} (h : f_X12_outcome n a1 s = some y) : hq_fc w_X12_outcome s y.2 := by
  unfold f_X12_outcome at h
  have t := hq_fc_rf w_X12_outcome s
  obtain ⟨y1, hy1, h⟩ := hq_bind h
  have t := hq_fc_tr t (hq_fc_mono (by decide) (f_X12_isAt_fw hy1))
  by_cases c2 : y1.1 = 0
  · rw [if_pos c2] at h
    obtain ⟨y3, hy3, h⟩ := hq_bind h
    have t := hq_fc_tr t (hq_fc_mono (by decide) (f_X12_stayOrGo_fw hy3))
    exact hq_fc_tr t (f_X12_outcome_L21_fw h)
  · rw [if_neg c2] at h
    have h := Option.some.inj h
    subst h
    exact t
def w_X12_laysRow : List (Nat × Option Nat) := [(214, none)]
theorem f_X12_laysRow_J89_fw {n : Nat} {R0 : Int32 → Int32 → Int32 → hq_S → Option (Int32 × hq_S)} {a1 : Int32} {a2 : Int32} {a3 : Int32} {a4 : Int32} {a5 : Int32} {q43 : Int32 → Int32 → Int32 → Int32 → Int32 → hq_S → Option (Int32 × hq_S)} {s : hq_S} {y : (Int32 × hq_S)} (E0 : ∀ (a1 : Int32) (a2 : Int32) (a3 : Int32) (s : hq_S) (y : (Int32 × hq_S)), R0 a1 a2 a3 s = some y → hq_fc w_X12_laysRow s y.2) (e43 : ∀ (a1 : Int32) (a2 : Int32) (a3 : Int32) (a4 : Int32) (a5 : Int32) (s : hq_S), q43 a1 a2 a3 a4 a5 s = some y → hq_fc w_X12_laysRow s y.2) (h : f_X12_laysRow_J89 n R0 q43 a1 a2 a3 a4 a5 s = some y) : hq_fc w_X12_laysRow s y.2 := by
  unfold f_X12_laysRow_J89 at h
  have t := hq_fc_rf w_X12_laysRow s
  exact hq_fc_tr t (e43 a1 a2 a3 a4 (a5 + (1 : Int32)) s h)
theorem f_X12_laysRow_L43_B_fw {n : Nat} {R0 : Int32 → Int32 → Int32 → hq_S → Option (Int32 × hq_S)} {a1 : Int32} {a2 : Int32} {a3 : Int32} {a4 : Int32} {a5 : Int32} {q43 : Int32 → Int32 → Int32 → Int32 → Int32 → hq_S → Option (Int32 × hq_S)} {s : hq_S} {y : (Int32 × hq_S)} (E0 : ∀ (a1 : Int32) (a2 : Int32) (a3 : Int32) (s : hq_S) (y : (Int32 × hq_S)), R0 a1 a2 a3 s = some y → hq_fc w_X12_laysRow s y.2) (e43 : ∀ (a1 : Int32) (a2 : Int32) (a3 : Int32) (a4 : Int32) (a5 : Int32) (s : hq_S), q43 a1 a2 a3 a4 a5 s = some y → hq_fc w_X12_laysRow s y.2) (h : f_X12_laysRow_L43_B n R0 q43 a1 a2 a3 a4 a5 s = some y) : hq_fc w_X12_laysRow s y.2 := by
  unfold f_X12_laysRow_L43_B at h
  have t := hq_fc_rf w_X12_laysRow s
  obtain ⟨x5, hx5, h⟩ := hq_bind h
  by_cases c6 : a5 < x5
  · rw [if_pos c6] at h
    by_cases c7 : ((a4 >>> (a5 &&& 31)) &&& (1 : Int32)) = 0
    · rw [if_pos c7] at h
      exact hq_fc_tr t (f_X12_laysRow_J89_fw E0 e43 h)
    · rw [if_neg c7] at h
      obtain ⟨s8, hs8, h⟩ := hq_bind h
      have t := hq_fc_tr t (hq_fc_st hs8 (by decide))
      obtain ⟨y9, hy9, h⟩ := hq_bind h
      have t := hq_fc_tr t (E0 (a1 + (1 : Int32)) a2 a3 _ _ hy9)
      by_cases c10 : y9.1 = 0
      · rw [if_pos c10] at h
        exact hq_fc_tr t (f_X12_laysRow_J89_fw E0 e43 h)
      · rw [if_neg c10] at h
        have h := Option.some.inj h
        subst h
        exact t
  · rw [if_neg c6] at h
    have h := Option.some.inj h
    subst h
    exact t
theorem f_X12_laysRow_L43_fw {n m : Nat} {R0 : Int32 → Int32 → Int32 → hq_S → Option (Int32 × hq_S)} {a1 : Int32} {a2 : Int32} {a3 : Int32} {a4 : Int32} {a5 : Int32} {s : hq_S} {y : (Int32 × hq_S)} (E0 : ∀ (a1 : Int32) (a2 : Int32) (a3 : Int32) (s : hq_S) (y : (Int32 × hq_S)), R0 a1 a2 a3 s = some y → hq_fc w_X12_laysRow s y.2) (h : f_X12_laysRow_L43 n R0 m a1 a2 a3 a4 a5 s = some y) : hq_fc w_X12_laysRow s y.2 := by
  induction m generalizing a1 a2 a3 a4 a5 s with
  | zero => cases h
  | succ m ih => exact f_X12_laysRow_L43_B_fw (n := n) (a1 := a1) (a2 := a2) (a3 := a3) (a4 := a4) (a5 := a5) (q43 := f_X12_laysRow_L43 n R0 m) E0 (fun a1 a2 a3 a4 a5 s h => ih h) h
theorem f_X12_laysRow_S_fw {n : Nat} {R0 : Int32 → Int32 → Int32 → hq_S → Option (Int32 × hq_S)} {a1 : Int32} {a2 : Int32} {a3 : Int32} {s : hq_S} {y : (Int32 × hq_S)} (E0 : ∀ (a1 : Int32) (a2 : Int32) (a3 : Int32) (s : hq_S) (y : (Int32 × hq_S)), R0 a1 a2 a3 s = some y → hq_fc w_X12_laysRow s y.2) (h : f_X12_laysRow_S n R0 a1 a2 a3 s = some y) : hq_fc w_X12_laysRow s y.2 := by
  unfold f_X12_laysRow_S at h
  have t := hq_fc_rf w_X12_laysRow s
  by_cases c1 : a1 = (hq_gi s 174 60)
  · rw [if_pos c1] at h
    obtain ⟨y11, hy11, h⟩ := hq_bind h
    have t := hq_fc_tr t (hq_fc_mono (by decide) (f_X12_outcome_fw hy11))
    by_cases c12 : y11.1 = a3
    · rw [if_pos c12] at h
      have h := Option.some.inj h
      subst h
      exact t
    · rw [if_neg c12] at h
      have h := Option.some.inj h
      subst h
      exact t
  · rw [if_neg c1] at h
    obtain ⟨x2, hx2, h⟩ := hq_bind h
    obtain ⟨x3, hx3, h⟩ := hq_bind h
    obtain ⟨y4, hy4, h⟩ := hq_bind h
    have t := hq_fc_tr t (hq_fc_mono (by decide) (f_X12_stayOrGo_fw hy4))
    exact hq_fc_tr t (f_X12_laysRow_L43_fw E0 h)
theorem f_X12_laysRow_G_fw {n : Nat} : ∀ k : Nat, (∀ (a1 : Int32) (a2 : Int32) (a3 : Int32) (s : hq_S) (y : (Int32 × hq_S)), f_X12_laysRow_G n k 0 a1 a2 a3 s = some y → hq_fc w_X12_laysRow s y.2) := by
  intro k
  induction k with
  | zero =>
    all_goals
      intros
      next h => cases h
  | succ k ih =>
    have I0 := ih
    · intro a1 a2 a3 s y h
      exact f_X12_laysRow_S_fw I0 h
theorem f_X12_laysRow_fw {n : Nat} {a1 : Int32} {a2 : Int32} {a3 : Int32} {s : hq_S} {y : (Int32 × hq_S)} (h : f_X12_laysRow n a1 a2 a3 s = some y) : hq_fc w_X12_laysRow s y.2 := (f_X12_laysRow_G_fw 10) a1 a2 a3 s y h
def w_X12_firstGo : List (Nat × Option Nat) := [(174, some 0), (174, some 60), (206, none), (207, none), (208, none), (209, none), (210, none), (211, none), (213, none), (214, none)]
theorem f_X12_firstGo_L65_B_fw {n : Nat} {a1 : Int32} {a2 : Int32} {a3 : Int32} {a4 : Int32} {a5 : Int32} {q65 : Int32 → Int32 → Int32 → Int32 → Int32 → hq_S → Option (Int32 × hq_S)} {s : hq_S} {y : (Int32 × hq_S)} (e65 : ∀ (a1 : Int32) (a2 : Int32) (a3 : Int32) (a4 : Int32) (a5 : Int32) (s : hq_S), q65 a1 a2 a3 a4 a5 s = some y → hq_fc w_X12_firstGo s y.2) (h : f_X12_firstGo_L65_B n q65 a1 a2 a3 a4 a5 s = some y) : hq_fc w_X12_firstGo s y.2 := by
  unfold f_X12_firstGo_L65_B at h
  have t := hq_fc_rf w_X12_firstGo s
  by_cases c13 : a5 < (hq_gi s 174 60)
  · rw [if_pos c13] at h
    obtain ⟨x14, hx14, h⟩ := hq_bind h
    by_cases c15 : x14 = a3
    · rw [if_pos c15] at h
      obtain ⟨x16, hx16, h⟩ := hq_bind h
      have h := Option.some.inj h
      subst h
      exact t
    · rw [if_neg c15] at h
      exact hq_fc_tr t (e65 a1 a2 a3 a4 (a5 + (1 : Int32)) s h)
  · rw [if_neg c13] at h
    have h := Option.some.inj h
    subst h
    exact t
theorem f_X12_firstGo_L65_fw {n m : Nat} {a1 : Int32} {a2 : Int32} {a3 : Int32} {a4 : Int32} {a5 : Int32} {s : hq_S} {y : (Int32 × hq_S)} (h : f_X12_firstGo_L65 n m a1 a2 a3 a4 a5 s = some y) : hq_fc w_X12_firstGo s y.2 := by
  induction m generalizing a1 a2 a3 a4 a5 s with
  | zero => cases h
  | succ m ih => exact f_X12_firstGo_L65_B_fw (n := n) (a1 := a1) (a2 := a2) (a3 := a3) (a4 := a4) (a5 := a5) (q65 := f_X12_firstGo_L65 n m) (fun a1 a2 a3 a4 a5 s h => ih h) h
theorem f_X12_firstGo_fw {n : Nat} {a1 : Int32} {a2 : Int32} {a3 : Int32} {s : hq_S} {y : (Int32 × hq_S)} (h : f_X12_firstGo n a1 a2 a3 s = some y) : hq_fc w_X12_firstGo s y.2 := by
  unfold f_X12_firstGo at h
  have t := hq_fc_rf w_X12_firstGo s
  obtain ⟨s1, hs1, h⟩ := hq_bind h
  have t := hq_fc_tr t (hq_fc_pi hs1 (by decide))
  obtain ⟨y2, hy2, h⟩ := hq_bind h
  have t := hq_fc_tr t (hq_fc_mono (by decide) (f_X12_areGuards_fw hy2))
  by_cases c3 : y2.1 = 0
  · rw [if_pos c3] at h
    have h := Option.some.inj h
    subst h
    exact t
  · rw [if_neg c3] at h
    obtain ⟨y4, hy4, h⟩ := hq_bind h
    have t := hq_fc_tr t (hq_fc_mono (by decide) (f_X12_isCorner_fw hy4))
    by_cases c5 : y4.1 = 0
    · rw [if_pos c5] at h
      have h := Option.some.inj h
      subst h
      exact t
    · rw [if_neg c5] at h
      obtain ⟨y6, hy6, h⟩ := hq_bind h
      have t := hq_fc_tr t (hq_fc_mono (by decide) (f_X12_isGuard_fw hy6))
      by_cases c7 : y6.1 = 0
      · rw [if_pos c7] at h
        have h := Option.some.inj h
        subst h
        exact t
      · rw [if_neg c7] at h
        obtain ⟨s8, hs8, h⟩ := hq_bind h
        have t := hq_fc_tr t (hq_fc_mono (by decide) (f_X12_putsGuards_fw hs8))
        obtain ⟨y9, hy9, h⟩ := hq_bind h
        have t := hq_fc_tr t (hq_fc_mono (by decide) (f_X12_roundsOf_fw hy9))
        by_cases c10 : 0 < y9.1
        · rw [if_pos c10] at h
          obtain ⟨y11, hy11, h⟩ := hq_bind h
          have t := hq_fc_tr t (hq_fc_mono (by decide) (f_X12_laysRow_fw hy11))
          by_cases c12 : y11.1 = 0
          · rw [if_pos c12] at h
            have h := Option.some.inj h
            subst h
            exact t
          · rw [if_neg c12] at h
            exact hq_fc_tr t (f_X12_firstGo_L65_fw h)
        · rw [if_neg c10] at h
          have h := Option.some.inj h
          subst h
          exact t
def w_X12_flee : List (Nat × Option Nat) := [(174, some 0), (174, some 60), (206, none), (207, none), (208, none), (209, none), (210, none), (211, none), (213, none), (214, none)]
theorem f_X12_flee_J133_fw {n : Nat} {a1 : Int32} {a2 : Int32} {a3 : Int32} {a4 : Int32} {a5 : Int32} {a6 : Int32} {q60 : Int32 → Int32 → Int32 → Int32 → Int32 → Int32 → hq_S → Option (Int32 × hq_S)} {s : hq_S} {y : (Int32 × hq_S)} (e60 : ∀ (a1 : Int32) (a2 : Int32) (a3 : Int32) (a4 : Int32) (a5 : Int32) (a6 : Int32) (o7 : Option Value) (s : hq_S), q60 a1 a2 a3 a4 a5 a6 s = some y → hq_fc w_X12_flee s y.2) (h : f_X12_flee_J133 n q60 a1 a2 a3 a4 a5 a6 s = some y) : hq_fc w_X12_flee s y.2 := by
  unfold f_X12_flee_J133 at h
  have t := hq_fc_rf w_X12_flee s
  exact hq_fc_tr t (e60 a1 a2 a3 a4 a5 (a6 + (1 : Int32)) none s h)
theorem f_X12_flee_L60_B_fw {n : Nat} {a1 : Int32} {a2 : Int32} {a3 : Int32} {a4 : Int32} {a5 : Int32} {a6 : Int32} {q60 : Int32 → Int32 → Int32 → Int32 → Int32 → Int32 → hq_S → Option (Int32 × hq_S)} {s : hq_S} {y : (Int32 × hq_S)} (e60 : ∀ (a1 : Int32) (a2 : Int32) (a3 : Int32) (a4 : Int32) (a5 : Int32) (a6 : Int32) (o7 : Option Value) (s : hq_S), q60 a1 a2 a3 a4 a5 a6 s = some y → hq_fc w_X12_flee s y.2) (h : f_X12_flee_L60_B n q60 a1 a2 a3 a4 a5 a6 s = some y) : hq_fc w_X12_flee s y.2 := by
  unfold f_X12_flee_L60_B at h
  have t := hq_fc_rf w_X12_flee s
  obtain ⟨x11, hx11, h⟩ := hq_bind h
  by_cases c12 : a6 < x11
  · rw [if_pos c12] at h
    by_cases c14 : ((a3 >>> (a6 &&& 31)) &&& (1 : Int32)) = 0
    · rw [if_pos c14] at h
      exact hq_fc_tr t (f_X12_flee_J133_fw e60 h)
    · rw [if_neg c14] at h
      obtain ⟨y15, hy15, h⟩ := hq_bind h
      have t := hq_fc_tr t (hq_fc_mono (by decide) (f_X12_isAt_fw hy15))
      obtain ⟨z16, hz16, h⟩ := hq_bind h
      have t : hq_fc w_X12_flee s z16.2 := by
        clear h
        have h := hz16
        by_cases c17 : y15.1 = 0
        · rw [if_pos c17] at h
          obtain ⟨y18, hy18, h⟩ := hq_bind h
          have t := hq_fc_tr t (hq_fc_mono (by decide) (f_X12_roundsOf_fw hy18))
          cases h
          exact t
        · rw [if_neg c17] at h
          cases h
          exact t
      obtain ⟨z19, hz19, h⟩ := hq_bind h
      obtain ⟨z21, hz21, h⟩ := hq_bind h
      exact hq_fc_tr t (e60 a1 a2 a3 z21.1 z21.2 (a6 + (1 : Int32)) none z16.2 h)
  · rw [if_neg c12] at h
    have h := Option.some.inj h
    subst h
    exact t
theorem f_X12_flee_L60_fw {n m : Nat} {a1 : Int32} {a2 : Int32} {a3 : Int32} {a4 : Int32} {a5 : Int32} {a6 : Int32} {s : hq_S} {y : (Int32 × hq_S)} (h : f_X12_flee_L60 n m a1 a2 a3 a4 a5 a6 s = some y) : hq_fc w_X12_flee s y.2 := by
  induction m generalizing a1 a2 a3 a4 a5 a6 s with
  | zero => cases h
  | succ m ih => exact f_X12_flee_L60_B_fw (n := n) (a1 := a1) (a2 := a2) (a3 := a3) (a4 := a4) (a5 := a5) (a6 := a6) (q60 := f_X12_flee_L60 n m) (fun a1 a2 a3 a4 a5 a6 _ s h => ih h) h
theorem f_X12_flee_fw {n : Nat} {a1 : Int32} {a2 : Int32} {s : hq_S} {y : (Int32 × hq_S)} (h : f_X12_flee n a1 a2 s = some y) : hq_fc w_X12_flee s y.2 := by
  unfold f_X12_flee at h
  have t := hq_fc_rf w_X12_flee s
  obtain ⟨s1, hs1, h⟩ := hq_bind h
  have t := hq_fc_tr t (hq_fc_pi hs1 (by decide))
  obtain ⟨y2, hy2, h⟩ := hq_bind h
  have t := hq_fc_tr t (hq_fc_mono (by decide) (f_X12_areGuards_fw hy2))
  by_cases c3 : y2.1 = 0
  · rw [if_pos c3] at h
    have h := Option.some.inj h
    subst h
    exact t
  · rw [if_neg c3] at h
    obtain ⟨y4, hy4, h⟩ := hq_bind h
    have t := hq_fc_tr t (hq_fc_mono (by decide) (f_X12_isCorner_fw hy4))
    by_cases c5 : y4.1 = 0
    · rw [if_pos c5] at h
      have h := Option.some.inj h
      subst h
      exact t
    · rw [if_neg c5] at h
      obtain ⟨s6, hs6, h⟩ := hq_bind h
      have t := hq_fc_tr t (hq_fc_mono (by decide) (f_X12_putsGuards_fw hs6))
      obtain ⟨y7, hy7, h⟩ := hq_bind h
      have t := hq_fc_tr t (hq_fc_mono (by decide) (f_X12_roundsOf_fw hy7))
      obtain ⟨y8, hy8, h⟩ := hq_bind h
      have t := hq_fc_tr t (hq_fc_mono (by decide) (f_X12_isAt_fw hy8))
      by_cases c9 : y8.1 = 0
      · rw [if_pos c9] at h
        obtain ⟨y10, hy10, h⟩ := hq_bind h
        have t := hq_fc_tr t (hq_fc_mono (by decide) (f_X12_stayOrGo_fw hy10))
        exact hq_fc_tr t (f_X12_flee_L60_fw h)
      · rw [if_neg c9] at h
        have h := Option.some.inj h
        subst h
        exact t
def w_X12_laysPosts : List (Nat × Option Nat) := [(215, none)]
theorem f_X12_laysPosts_L65_B_fw {n : Nat} {R0 : Int32 → hq_S → Option (Int32 × hq_S)} {a1 : Int32} {a2 : Int32} {q65 : Int32 → Int32 → hq_S → Option (Int32 × hq_S)} {s : hq_S} {y : (Int32 × hq_S)} (E0 : ∀ (a1 : Int32) (s : hq_S) (y : (Int32 × hq_S)), R0 a1 s = some y → hq_fc w_X12_laysPosts s y.2) (e65 : ∀ (a1 : Int32) (a2 : Int32) (s : hq_S), q65 a1 a2 s = some y → hq_fc w_X12_laysPosts s y.2) (h : f_X12_laysPosts_L65_B n R0 q65 a1 a2 s = some y) : hq_fc w_X12_laysPosts s y.2 := by
  unfold f_X12_laysPosts_L65_B at h
  have t := hq_fc_rf w_X12_laysPosts s
  obtain ⟨x5, hx5, h⟩ := hq_bind h
  by_cases c6 : a2 < x5
  · rw [if_pos c6] at h
    obtain ⟨s7, hs7, h⟩ := hq_bind h
    have t := hq_fc_tr t (hq_fc_st hs7 (by decide))
    obtain ⟨y8, hy8, h⟩ := hq_bind h
    have t := hq_fc_tr t (E0 (a1 + (1 : Int32)) _ _ hy8)
    by_cases c9 : y8.1 = 0
    · rw [if_pos c9] at h
      exact hq_fc_tr t (e65 a1 (a2 + (1 : Int32)) y8.2 h)
    · rw [if_neg c9] at h
      have h := Option.some.inj h
      subst h
      exact t
  · rw [if_neg c6] at h
    have h := Option.some.inj h
    subst h
    exact t
theorem f_X12_laysPosts_L65_fw {n m : Nat} {R0 : Int32 → hq_S → Option (Int32 × hq_S)} {a1 : Int32} {a2 : Int32} {s : hq_S} {y : (Int32 × hq_S)} (E0 : ∀ (a1 : Int32) (s : hq_S) (y : (Int32 × hq_S)), R0 a1 s = some y → hq_fc w_X12_laysPosts s y.2) (h : f_X12_laysPosts_L65 n R0 m a1 a2 s = some y) : hq_fc w_X12_laysPosts s y.2 := by
  induction m generalizing a1 a2 s with
  | zero => cases h
  | succ m ih => exact f_X12_laysPosts_L65_B_fw (n := n) (a1 := a1) (a2 := a2) (q65 := f_X12_laysPosts_L65 n R0 m) E0 (fun a1 a2 s h => ih h) h
theorem f_X12_laysPosts_L10_B_fw {n : Nat} {R0 : Int32 → hq_S → Option (Int32 × hq_S)} {a1 : Int32} {a2 : Int32} {q10 : Int32 → Int32 → hq_S → Option (Int32 × hq_S)} {s : hq_S} {y : (Int32 × hq_S)} (E0 : ∀ (a1 : Int32) (s : hq_S) (y : (Int32 × hq_S)), R0 a1 s = some y → hq_fc w_X12_laysPosts s y.2) (e10 : ∀ (a1 : Int32) (a2 : Int32) (s : hq_S), q10 a1 a2 s = some y → hq_fc w_X12_laysPosts s y.2) (h : f_X12_laysPosts_L10_B n R0 q10 a1 a2 s = some y) : hq_fc w_X12_laysPosts s y.2 := by
  unfold f_X12_laysPosts_L10_B at h
  have t := hq_fc_rf w_X12_laysPosts s
  obtain ⟨x10, hx10, h⟩ := hq_bind h
  by_cases c11 : a2 < x10
  · rw [if_pos c11] at h
    obtain ⟨y12, hy12, h⟩ := hq_bind h
    have t := hq_fc_tr t (hq_fc_mono (by decide) (f_X12_codeOf_fw hy12))
    obtain ⟨x13, hx13, h⟩ := hq_bind h
    by_cases c14 : x13 = (-1 : Int32)
    · rw [if_pos c14] at h
      have h := Option.some.inj h
      subst h
      exact t
    · rw [if_neg c14] at h
      exact hq_fc_tr t (e10 a1 (a2 + (1 : Int32)) y12.2 h)
  · rw [if_neg c11] at h
    have h := Option.some.inj h
    subst h
    exact t
theorem f_X12_laysPosts_L10_fw {n m : Nat} {R0 : Int32 → hq_S → Option (Int32 × hq_S)} {a1 : Int32} {a2 : Int32} {s : hq_S} {y : (Int32 × hq_S)} (E0 : ∀ (a1 : Int32) (s : hq_S) (y : (Int32 × hq_S)), R0 a1 s = some y → hq_fc w_X12_laysPosts s y.2) (h : f_X12_laysPosts_L10 n R0 m a1 a2 s = some y) : hq_fc w_X12_laysPosts s y.2 := by
  induction m generalizing a1 a2 s with
  | zero => cases h
  | succ m ih => exact f_X12_laysPosts_L10_B_fw (n := n) (a1 := a1) (a2 := a2) (q10 := f_X12_laysPosts_L10 n R0 m) E0 (fun a1 a2 s h => ih h) h
theorem f_X12_laysPosts_S_fw {n : Nat} {R0 : Int32 → hq_S → Option (Int32 × hq_S)} {a1 : Int32} {s : hq_S} {y : (Int32 × hq_S)} (E0 : ∀ (a1 : Int32) (s : hq_S) (y : (Int32 × hq_S)), R0 a1 s = some y → hq_fc w_X12_laysPosts s y.2) (h : f_X12_laysPosts_S n R0 a1 s = some y) : hq_fc w_X12_laysPosts s y.2 := by
  unfold f_X12_laysPosts_S at h
  have t := hq_fc_rf w_X12_laysPosts s
  by_cases c1 : a1 = (hq_gi s 174 60)
  · rw [if_pos c1] at h
    exact hq_fc_tr t (f_X12_laysPosts_L10_fw E0 h)
  · rw [if_neg c1] at h
    obtain ⟨z2, hz2, h⟩ := hq_bind h
    exact hq_fc_tr t (f_X12_laysPosts_L65_fw E0 h)
theorem f_X12_laysPosts_G_fw {n : Nat} : ∀ k : Nat, (∀ (a1 : Int32) (s : hq_S) (y : (Int32 × hq_S)), f_X12_laysPosts_G n k 0 a1 s = some y → hq_fc w_X12_laysPosts s y.2) := by
  intro k
  induction k with
  | zero =>
    all_goals
      intros
      next h => cases h
  | succ k ih =>
    have I0 := ih
    · intro a1 s y h
      exact f_X12_laysPosts_S_fw I0 h
theorem f_X12_laysPosts_fw {n : Nat} {a1 : Int32} {s : hq_S} {y : (Int32 × hq_S)} (h : f_X12_laysPosts n a1 s = some y) : hq_fc w_X12_laysPosts s y.2 := (f_X12_laysPosts_G_fw 10) a1 s y h
def w_X12_fewestPosts : List (Nat × Option Nat) := [(174, some 60), (206, none), (207, none), (208, none), (209, none), (210, none), (211, none), (215, none)]
theorem f_X12_fewestPosts_L18_B_fw {n : Nat} {a1 : Int32} {q18 : Int32 → hq_S → Option (Int32 × hq_S)} {s : hq_S} {y : (Int32 × hq_S)} (e18 : ∀ (a1 : Int32) (s : hq_S), q18 a1 s = some y → hq_fc w_X12_fewestPosts s y.2) (h : f_X12_fewestPosts_L18_B n q18 a1 s = some y) : hq_fc w_X12_fewestPosts s y.2 := by
  unfold f_X12_fewestPosts_L18_B at h
  have t := hq_fc_rf w_X12_fewestPosts s
  by_cases c4 : (3 : Int32) < a1
  · rw [if_pos c4] at h
    have h := Option.some.inj h
    subst h
    exact t
  · rw [if_neg c4] at h
    obtain ⟨s5, hs5, h⟩ := hq_bind h
    have t := hq_fc_tr t (hq_fc_mono (by decide) (f_X12_laysChase_fw hs5))
    obtain ⟨y6, hy6, h⟩ := hq_bind h
    have t := hq_fc_tr t (hq_fc_mono (by decide) (f_X12_laysPosts_fw hy6))
    by_cases c7 : y6.1 = 0
    · rw [if_pos c7] at h
      exact hq_fc_tr t (e18 (a1 + (1 : Int32)) y6.2 h)
    · rw [if_neg c7] at h
      have h := Option.some.inj h
      subst h
      exact t
theorem f_X12_fewestPosts_L18_fw {n m : Nat} {a1 : Int32} {s : hq_S} {y : (Int32 × hq_S)} (h : f_X12_fewestPosts_L18 n m a1 s = some y) : hq_fc w_X12_fewestPosts s y.2 := by
  induction m generalizing a1 s with
  | zero => cases h
  | succ m ih => exact f_X12_fewestPosts_L18_B_fw (n := n) (a1 := a1) (q18 := f_X12_fewestPosts_L18 n m) (fun a1 s h => ih h) h
theorem f_X12_fewestPosts_fw {n : Nat} {s : hq_S} {y : (Int32 × hq_S)} (h : f_X12_fewestPosts n s = some y) : hq_fc w_X12_fewestPosts s y.2 := by
  unfold f_X12_fewestPosts at h
  have t := hq_fc_rf w_X12_fewestPosts s
  obtain ⟨x1, hx1, h⟩ := hq_bind h
  by_cases c2 : x1 = 0
  · rw [if_pos c2] at h
    have h := Option.some.inj h
    subst h
    exact t
  · rw [if_neg c2] at h
    obtain ⟨s3, hs3, h⟩ := hq_bind h
    have t := hq_fc_tr t (hq_fc_mono (by decide) (f_X12_lays_fw hs3))
    exact hq_fc_tr t (f_X12_fewestPosts_L18_fw h)
def w_X12_takers : List (Nat × Option Nat) := [(174, some 0), (174, some 60), (206, none), (207, none), (208, none), (209, none), (210, none), (211, none), (215, none)]
theorem f_X12_takers_fw {n : Nat} {s : hq_S} {y : (Int32 × hq_S)} (h : f_X12_takers n s = some y) : hq_fc w_X12_takers s y.2 := by
  unfold f_X12_takers at h
  have t := hq_fc_rf w_X12_takers s
  obtain ⟨s1, hs1, h⟩ := hq_bind h
  have t := hq_fc_tr t (hq_fc_pi hs1 (by decide))
  obtain ⟨y2, hy2, h⟩ := hq_bind h
  have t := hq_fc_tr t (hq_fc_mono (by decide) (f_X12_fewestPosts_fw hy2))
  have h := Option.some.inj h
  subst h
  exact t
def w_X12_post : List (Nat × Option Nat) := [(174, some 0), (174, some 60), (206, none), (207, none), (208, none), (209, none), (210, none), (211, none), (215, none)]
theorem f_X12_post_fw {n : Nat} {a1 : Int32} {s : hq_S} {y : (Int32 × hq_S)} (h : f_X12_post n a1 s = some y) : hq_fc w_X12_post s y.2 := by
  unfold f_X12_post at h
  have t := hq_fc_rf w_X12_post s
  obtain ⟨s1, hs1, h⟩ := hq_bind h
  have t := hq_fc_tr t (hq_fc_pi hs1 (by decide))
  by_cases c2 : a1 < 0
  · rw [if_pos c2] at h
    have h := Option.some.inj h
    subst h
    exact t
  · rw [if_neg c2] at h
    obtain ⟨y3, hy3, h⟩ := hq_bind h
    have t := hq_fc_tr t (hq_fc_mono (by decide) (f_X12_fewestPosts_fw hy3))
    by_cases c4 : a1 < y3.1
    · rw [if_pos c4] at h
      obtain ⟨x5, hx5, h⟩ := hq_bind h
      have h := Option.some.inj h
      subst h
      exact t
    · rw [if_neg c4] at h
      have h := Option.some.inj h
      subst h
      exact t
def w_X12_moved : List (Nat × Option Nat) := []
theorem f_X12_moved_L4_B_fw {n : Nat} {a1 : Int32} {a2 : Int32} {a3 : Int32} {q4 : Int32 → Int32 → Int32 → hq_S → Option (Int32 × hq_S)} {s : hq_S} {y : (Int32 × hq_S)} (e4 : ∀ (a1 : Int32) (a2 : Int32) (a3 : Int32) (s : hq_S), q4 a1 a2 a3 s = some y → hq_fc w_X12_moved s y.2) (h : f_X12_moved_L4_B n q4 a1 a2 a3 s = some y) : hq_fc w_X12_moved s y.2 := by
  unfold f_X12_moved_L4_B at h
  have t := hq_fc_rf w_X12_moved s
  obtain ⟨x1, hx1, h⟩ := hq_bind h
  by_cases c2 : a3 < x1
  · rw [if_pos c2] at h
    obtain ⟨z3, hz3, h⟩ := hq_bind h
    exact hq_fc_tr t (e4 a1 z3 (a3 + (1 : Int32)) s h)
  · rw [if_neg c2] at h
    have h := Option.some.inj h
    subst h
    exact t
theorem f_X12_moved_L4_fw {n m : Nat} {a1 : Int32} {a2 : Int32} {a3 : Int32} {s : hq_S} {y : (Int32 × hq_S)} (h : f_X12_moved_L4 n m a1 a2 a3 s = some y) : hq_fc w_X12_moved s y.2 := by
  induction m generalizing a1 a2 a3 s with
  | zero => cases h
  | succ m ih => exact f_X12_moved_L4_B_fw (n := n) (a1 := a1) (a2 := a2) (a3 := a3) (q4 := f_X12_moved_L4 n m) (fun a1 a2 a3 s h => ih h) h
theorem f_X12_moved_fw {n : Nat} {a1 : Int32} {s : hq_S} {y : (Int32 × hq_S)} (h : f_X12_moved n a1 s = some y) : hq_fc w_X12_moved s y.2 := by
  unfold f_X12_moved at h
  have t := hq_fc_rf w_X12_moved s
  exact hq_fc_tr t (f_X12_moved_L4_fw h)
def w_X12_isSwept : List (Nat × Option Nat) := []
theorem f_X12_isSwept_J48_fw {n : Nat} {a1 : Int32} {a2 : Int32} {a3 : Int32} {a4 : Int32} {q3 : Int32 → Int32 → Int32 → Int32 → hq_S → Option (Int32 × hq_S)} {s : hq_S} {y : (Int32 × hq_S)} (e3 : ∀ (a1 : Int32) (a2 : Int32) (a3 : Int32) (a4 : Int32) (s : hq_S), q3 a1 a2 a3 a4 s = some y → hq_fc w_X12_isSwept s y.2) (h : f_X12_isSwept_J48 n q3 a1 a2 a3 a4 s = some y) : hq_fc w_X12_isSwept s y.2 := by
  unfold f_X12_isSwept_J48 at h
  have t := hq_fc_rf w_X12_isSwept s
  exact hq_fc_tr t (e3 a1 a2 a3 (a4 + (1 : Int32)) s h)
theorem f_X12_isSwept_L3_B_fw {n : Nat} {a1 : Int32} {a2 : Int32} {a3 : Int32} {a4 : Int32} {q3 : Int32 → Int32 → Int32 → Int32 → hq_S → Option (Int32 × hq_S)} {s : hq_S} {y : (Int32 × hq_S)} (e3 : ∀ (a1 : Int32) (a2 : Int32) (a3 : Int32) (a4 : Int32) (s : hq_S), q3 a1 a2 a3 a4 s = some y → hq_fc w_X12_isSwept s y.2) (h : f_X12_isSwept_L3_B n q3 a1 a2 a3 a4 s = some y) : hq_fc w_X12_isSwept s y.2 := by
  unfold f_X12_isSwept_L3_B at h
  have t := hq_fc_rf w_X12_isSwept s
  by_cases c1 : a3 < a4
  · rw [if_pos c1] at h
    have h := Option.some.inj h
    subst h
    exact t
  · rw [if_neg c1] at h
    by_cases c2 : (a4 &&& (a1 ^^^ (-1 : Int32))) = 0
    · rw [if_pos c2] at h
      obtain ⟨y3, hy3, h⟩ := hq_bind h
      have t := hq_fc_tr t (hq_fc_mono (by decide) (f_X12_bitsOf_fw hy3))
      by_cases c4 : a2 < y3.1
      · rw [if_pos c4] at h
        exact hq_fc_tr t (f_X12_isSwept_J48_fw e3 h)
      · rw [if_neg c4] at h
        obtain ⟨x5, hx5, h⟩ := hq_bind h
        obtain ⟨x6, hx6, h⟩ := hq_bind h
        by_cases c7 : x6 < 0
        · rw [if_pos c7] at h
          exact hq_fc_tr t (f_X12_isSwept_J48_fw e3 h)
        · rw [if_neg c7] at h
          have h := Option.some.inj h
          subst h
          exact t
    · rw [if_neg c2] at h
      exact hq_fc_tr t (f_X12_isSwept_J48_fw e3 h)
theorem f_X12_isSwept_L3_fw {n m : Nat} {a1 : Int32} {a2 : Int32} {a3 : Int32} {a4 : Int32} {s : hq_S} {y : (Int32 × hq_S)} (h : f_X12_isSwept_L3 n m a1 a2 a3 a4 s = some y) : hq_fc w_X12_isSwept s y.2 := by
  induction m generalizing a1 a2 a3 a4 s with
  | zero => cases h
  | succ m ih => exact f_X12_isSwept_L3_B_fw (n := n) (a1 := a1) (a2 := a2) (a3 := a3) (a4 := a4) (q3 := f_X12_isSwept_L3 n m) (fun a1 a2 a3 a4 s h => ih h) h
theorem f_X12_isSwept_fw {n : Nat} {a1 : Int32} {a2 : Int32} {a3 : Int32} {s : hq_S} {y : (Int32 × hq_S)} (h : f_X12_isSwept n a1 a2 a3 s = some y) : hq_fc w_X12_isSwept s y.2 := by
  unfold f_X12_isSwept at h
  have t := hq_fc_rf w_X12_isSwept s
  exact hq_fc_tr t (f_X12_isSwept_L3_fw h)
def w_X12_laysNights : List (Nat × Option Nat) := [(216, none), (217, none)]
theorem f_X12_laysNights_L128_B_fw {n : Nat} {a1 : Int32} {a2 : Int32} {a3 : Int32} {a4 : Int32} {a5 : Int32} {q67 : Int32 → Int32 → Int32 → Int32 → hq_S → Option hq_S} {q128 : Int32 → Int32 → Int32 → Int32 → Int32 → hq_S → Option hq_S} {s : hq_S} {y : hq_S} (e67 : ∀ (a1 : Int32) (a2 : Int32) (a3 : Int32) (a4 : Int32) (o5 : Option Value) (s : hq_S), q67 a1 a2 a3 a4 s = some y → hq_fc w_X12_laysNights s y) (e128 : ∀ (a1 : Int32) (a2 : Int32) (a3 : Int32) (a4 : Int32) (a5 : Int32) (s : hq_S), q128 a1 a2 a3 a4 a5 s = some y → hq_fc w_X12_laysNights s y) (h : f_X12_laysNights_L128_B n q67 q128 a1 a2 a3 a4 a5 s = some y) : hq_fc w_X12_laysNights s y := by
  unfold f_X12_laysNights_L128_B at h
  have t := hq_fc_rf w_X12_laysNights s
  by_cases c5 : a2 < a5
  · rw [if_pos c5] at h
    exact hq_fc_tr t (e67 a1 a2 a3 (a4 + (1 : Int32)) none s h)
  · rw [if_neg c5] at h
    obtain ⟨x6, hx6, h⟩ := hq_bind h
    obtain ⟨z7, hz7, h⟩ := hq_bind h
    have t : hq_fc w_X12_laysNights s z7 := by
      clear h
      have h := hz7
      by_cases c8 : x6 = (-a4)
      · rw [if_pos c8] at h
        obtain ⟨s9, hs9, h⟩ := hq_bind h
        have t := hq_fc_tr t (hq_fc_st hs9 (by decide))
        cases h
        exact t
      · rw [if_neg c8] at h
        cases h
        exact t
    exact hq_fc_tr t (e128 a1 a2 a3 a4 (a5 + (1 : Int32)) z7 h)
theorem f_X12_laysNights_L128_fw {n m : Nat} {a1 : Int32} {a2 : Int32} {a3 : Int32} {a4 : Int32} {a5 : Int32} {q67 : Int32 → Int32 → Int32 → Int32 → hq_S → Option hq_S} {s : hq_S} {y : hq_S} (e67 : ∀ (a1 : Int32) (a2 : Int32) (a3 : Int32) (a4 : Int32) (o5 : Option Value) (s : hq_S), q67 a1 a2 a3 a4 s = some y → hq_fc w_X12_laysNights s y) (h : f_X12_laysNights_L128 n q67 m a1 a2 a3 a4 a5 s = some y) : hq_fc w_X12_laysNights s y := by
  induction m generalizing a1 a2 a3 a4 a5 s with
  | zero => cases h
  | succ m ih => exact f_X12_laysNights_L128_B_fw (n := n) (a1 := a1) (a2 := a2) (a3 := a3) (a4 := a4) (a5 := a5) (q128 := f_X12_laysNights_L128 n q67 m) e67 (fun a1 a2 a3 a4 a5 s h => ih h) h
theorem f_X12_laysNights_L76_B_fw {n : Nat} {a1 : Int32} {a2 : Int32} {a3 : Int32} {a4 : Int32} {a5 : Int32} {q67 : Int32 → Int32 → Int32 → Int32 → hq_S → Option hq_S} {q76 : Int32 → Int32 → Int32 → Int32 → Int32 → hq_S → Option hq_S} {s : hq_S} {y : hq_S} (e67 : ∀ (a1 : Int32) (a2 : Int32) (a3 : Int32) (a4 : Int32) (o5 : Option Value) (s : hq_S), q67 a1 a2 a3 a4 s = some y → hq_fc w_X12_laysNights s y) (e76 : ∀ (a1 : Int32) (a2 : Int32) (a3 : Int32) (a4 : Int32) (a5 : Int32) (s : hq_S), q76 a1 a2 a3 a4 a5 s = some y → hq_fc w_X12_laysNights s y) (h : f_X12_laysNights_L76_B n q67 q76 a1 a2 a3 a4 a5 s = some y) : hq_fc w_X12_laysNights s y := by
  unfold f_X12_laysNights_L76_B at h
  have t := hq_fc_rf w_X12_laysNights s
  by_cases c4 : a2 < a5
  · rw [if_pos c4] at h
    exact hq_fc_tr t (f_X12_laysNights_L128_fw e67 h)
  · rw [if_neg c4] at h
    obtain ⟨x10, hx10, h⟩ := hq_bind h
    obtain ⟨z11, hz11, h⟩ := hq_bind h
    have t : hq_fc w_X12_laysNights s z11.2 := by
      clear h
      have h := hz11
      by_cases c12 : x10 = (-1 : Int32)
      · rw [if_pos c12] at h
        obtain ⟨y13, hy13, h⟩ := hq_bind h
        have t := hq_fc_tr t (hq_fc_mono (by decide) (f_X12_isSwept_fw hy13))
        by_cases c14 : y13.1 = 0
        · rw [if_pos c14] at h
          cases h
          exact t
        · rw [if_neg c14] at h
          obtain ⟨s15, hs15, h⟩ := hq_bind h
          have t := hq_fc_tr t (hq_fc_st hs15 (by decide))
          cases h
          exact t
      · rw [if_neg c12] at h
        cases h
        exact t
    exact hq_fc_tr t (e76 a1 a2 z11.1 a4 (a5 + (1 : Int32)) z11.2 h)
theorem f_X12_laysNights_L76_fw {n m : Nat} {a1 : Int32} {a2 : Int32} {a3 : Int32} {a4 : Int32} {a5 : Int32} {q67 : Int32 → Int32 → Int32 → Int32 → hq_S → Option hq_S} {s : hq_S} {y : hq_S} (e67 : ∀ (a1 : Int32) (a2 : Int32) (a3 : Int32) (a4 : Int32) (o5 : Option Value) (s : hq_S), q67 a1 a2 a3 a4 s = some y → hq_fc w_X12_laysNights s y) (h : f_X12_laysNights_L76 n q67 m a1 a2 a3 a4 a5 s = some y) : hq_fc w_X12_laysNights s y := by
  induction m generalizing a1 a2 a3 a4 a5 s with
  | zero => cases h
  | succ m ih => exact f_X12_laysNights_L76_B_fw (n := n) (a1 := a1) (a2 := a2) (a3 := a3) (a4 := a4) (a5 := a5) (q76 := f_X12_laysNights_L76 n q67 m) e67 (fun a1 a2 a3 a4 a5 s h => ih h) h
theorem f_X12_laysNights_L67_B_fw {n : Nat} {a1 : Int32} {a2 : Int32} {a3 : Int32} {a4 : Int32} {q67 : Int32 → Int32 → Int32 → Int32 → hq_S → Option hq_S} {s : hq_S} {y : hq_S} (e67 : ∀ (a1 : Int32) (a2 : Int32) (a3 : Int32) (a4 : Int32) (o5 : Option Value) (s : hq_S), q67 a1 a2 a3 a4 s = some y → hq_fc w_X12_laysNights s y) (h : f_X12_laysNights_L67_B n q67 a1 a2 a3 a4 s = some y) : hq_fc w_X12_laysNights s y := by
  unfold f_X12_laysNights_L67_B at h
  have t := hq_fc_rf w_X12_laysNights s
  by_cases c3 : a3 = 0
  · rw [if_pos c3] at h
    have h := Option.some.inj h
    subst h
    exact t
  · rw [if_neg c3] at h
    exact hq_fc_tr t (f_X12_laysNights_L76_fw e67 h)
theorem f_X12_laysNights_L67_fw {n m : Nat} {a1 : Int32} {a2 : Int32} {a3 : Int32} {a4 : Int32} {s : hq_S} {y : hq_S} (h : f_X12_laysNights_L67 n m a1 a2 a3 a4 s = some y) : hq_fc w_X12_laysNights s y := by
  induction m generalizing a1 a2 a3 a4 s with
  | zero => cases h
  | succ m ih => exact f_X12_laysNights_L67_B_fw (n := n) (a1 := a1) (a2 := a2) (a3 := a3) (a4 := a4) (q67 := f_X12_laysNights_L67 n m) (fun a1 a2 a3 a4 _ s h => ih h) h
theorem f_X12_laysNights_L13_B_fw {n : Nat} {a1 : Int32} {a2 : Int32} {a3 : Int32} {q13 : Int32 → Int32 → Int32 → hq_S → Option hq_S} {s : hq_S} {y : hq_S} (e13 : ∀ (a1 : Int32) (a2 : Int32) (a3 : Int32) (s : hq_S), q13 a1 a2 a3 s = some y → hq_fc w_X12_laysNights s y) (h : f_X12_laysNights_L13_B n q13 a1 a2 a3 s = some y) : hq_fc w_X12_laysNights s y := by
  unfold f_X12_laysNights_L13_B at h
  have t := hq_fc_rf w_X12_laysNights s
  by_cases c2 : a2 < a3
  · rw [if_pos c2] at h
    exact hq_fc_tr t (f_X12_laysNights_L67_fw h)
  · rw [if_neg c2] at h
    obtain ⟨y16, hy16, h⟩ := hq_bind h
    have t := hq_fc_tr t (hq_fc_mono (by decide) (f_X12_moved_fw hy16))
    obtain ⟨s17, hs17, h⟩ := hq_bind h
    have t := hq_fc_tr t (hq_fc_st hs17 (by decide))
    obtain ⟨z18, hz18, h⟩ := hq_bind h
    have t : hq_fc w_X12_laysNights s z18.2 := by
      clear h
      have h := hz18
      by_cases c19 : a3 = 0
      · rw [if_pos c19] at h
        cases h
        exact t
      · rw [if_neg c19] at h
        obtain ⟨y20, hy20, h⟩ := hq_bind h
        have t := hq_fc_tr t (hq_fc_mono (by decide) (f_X12_bitsOf_fw hy20))
        by_cases c21 : a1 < y20.1
        · rw [if_pos c21] at h
          cases h
          exact t
        · rw [if_neg c21] at h
          cases h
          exact t
    obtain ⟨s22, hs22, h⟩ := hq_bind h
    have t := hq_fc_tr t (hq_fc_st hs22 (by decide))
    exact hq_fc_tr t (e13 a1 a2 (a3 + (1 : Int32)) s22 h)
theorem f_X12_laysNights_L13_fw {n m : Nat} {a1 : Int32} {a2 : Int32} {a3 : Int32} {s : hq_S} {y : hq_S} (h : f_X12_laysNights_L13 n m a1 a2 a3 s = some y) : hq_fc w_X12_laysNights s y := by
  induction m generalizing a1 a2 a3 s with
  | zero => cases h
  | succ m ih => exact f_X12_laysNights_L13_B_fw (n := n) (a1 := a1) (a2 := a2) (a3 := a3) (q13 := f_X12_laysNights_L13 n m) (fun a1 a2 a3 s h => ih h) h
theorem f_X12_laysNights_fw {n : Nat} {a1 : Int32} {s : hq_S} {y : hq_S} (h : f_X12_laysNights n a1 s = some y) : hq_fc w_X12_laysNights s y := by
  unfold f_X12_laysNights at h
  have t := hq_fc_rf w_X12_laysNights s
  obtain ⟨x1, hx1, h⟩ := hq_bind h
  exact hq_fc_tr t (f_X12_laysNights_L13_fw h)
def w_X12_sweepOf : List (Nat × Option Nat) := [(206, none), (207, none), (216, none), (217, none)]
theorem f_X12_sweepOf_fw {n : Nat} {a1 : Int32} {s : hq_S} {y : (Int32 × hq_S)} (h : f_X12_sweepOf n a1 s = some y) : hq_fc w_X12_sweepOf s y.2 := by
  unfold f_X12_sweepOf at h
  have t := hq_fc_rf w_X12_sweepOf s
  obtain ⟨s1, hs1, h⟩ := hq_bind h
  have t := hq_fc_tr t (hq_fc_mono (by decide) (f_X12_lays_fw hs1))
  obtain ⟨s2, hs2, h⟩ := hq_bind h
  have t := hq_fc_tr t (hq_fc_mono (by decide) (f_X12_laysNights_fw hs2))
  obtain ⟨x3, hx3, h⟩ := hq_bind h
  obtain ⟨x4, hx4, h⟩ := hq_bind h
  have h := Option.some.inj h
  subst h
  exact t
def w_X12_sweep : List (Nat × Option Nat) := [(174, some 0), (206, none), (207, none), (216, none), (217, none)]
theorem f_X12_sweep_fw {n : Nat} {a1 : Int32} {s : hq_S} {y : (Int32 × hq_S)} (h : f_X12_sweep n a1 s = some y) : hq_fc w_X12_sweep s y.2 := by
  unfold f_X12_sweep at h
  have t := hq_fc_rf w_X12_sweep s
  obtain ⟨s1, hs1, h⟩ := hq_bind h
  have t := hq_fc_tr t (hq_fc_pi hs1 (by decide))
  by_cases c2 : a1 < (1 : Int32)
  · rw [if_pos c2] at h
    have h := Option.some.inj h
    subst h
    exact t
  · rw [if_neg c2] at h
    by_cases c3 : (10 : Int32) < a1
    · rw [if_pos c3] at h
      have h := Option.some.inj h
      subst h
      exact t
    · rw [if_neg c3] at h
      obtain ⟨y4, hy4, h⟩ := hq_bind h
      have t := hq_fc_tr t (hq_fc_mono (by decide) (f_X12_sweepOf_fw hy4))
      by_cases c5 : y4.1 = (-1 : Int32)
      · rw [if_pos c5] at h
        have h := Option.some.inj h
        subst h
        exact t
      · rw [if_neg c5] at h
        have h := Option.some.inj h
        subst h
        exact t
def w_X12_look : List (Nat × Option Nat) := [(174, some 0), (206, none), (207, none), (216, none), (217, none)]
theorem f_X12_look_J111_fw {n : Nat} {a1 : Int32} {a2 : Int32} {a3 : Int32} {a4 : Int32} {q46 : Int32 → Int32 → Int32 → Int32 → hq_S → Option (Int32 × hq_S)} {s : hq_S} {y : (Int32 × hq_S)} (e46 : ∀ (a1 : Int32) (a2 : Int32) (a3 : Int32) (a4 : Int32) (o5 : Option Value) (s : hq_S), q46 a1 a2 a3 a4 s = some y → hq_fc w_X12_look s y.2) (h : f_X12_look_J111 n q46 a1 a2 a3 a4 s = some y) : hq_fc w_X12_look s y.2 := by
  unfold f_X12_look_J111 at h
  have t := hq_fc_rf w_X12_look s
  exact hq_fc_tr t (e46 a1 a2 a3 (a4 + (1 : Int32)) none s h)
theorem f_X12_look_L46_B_fw {n : Nat} {a1 : Int32} {a2 : Int32} {a3 : Int32} {a4 : Int32} {q46 : Int32 → Int32 → Int32 → Int32 → hq_S → Option (Int32 × hq_S)} {s : hq_S} {y : (Int32 × hq_S)} (e46 : ∀ (a1 : Int32) (a2 : Int32) (a3 : Int32) (a4 : Int32) (o5 : Option Value) (s : hq_S), q46 a1 a2 a3 a4 s = some y → hq_fc w_X12_look s y.2) (h : f_X12_look_L46_B n q46 a1 a2 a3 a4 s = some y) : hq_fc w_X12_look s y.2 := by
  unfold f_X12_look_L46_B at h
  have t := hq_fc_rf w_X12_look s
  by_cases c7 : a3 < a4
  · rw [if_pos c7] at h
    have h := Option.some.inj h
    subst h
    exact t
  · rw [if_neg c7] at h
    obtain ⟨y8, hy8, h⟩ := hq_bind h
    have t := hq_fc_tr t (hq_fc_mono (by decide) (f_X12_bitsOf_fw hy8))
    by_cases c9 : a1 < y8.1
    · rw [if_pos c9] at h
      exact hq_fc_tr t (f_X12_look_J111_fw e46 h)
    · rw [if_neg c9] at h
      by_cases c10 : (1 : Int32) < a2
      · rw [if_pos c10] at h
        obtain ⟨x11, hx11, h⟩ := hq_bind h
        obtain ⟨x12, hx12, h⟩ := hq_bind h
        by_cases c13 : x12 = (a2 - (1 : Int32))
        · rw [if_pos c13] at h
          by_cases c14 : (a3 &&& (a4 ^^^ (-1 : Int32))) = 0
          · rw [if_pos c14] at h
            exact hq_fc_tr t (f_X12_look_J111_fw e46 h)
          · rw [if_neg c14] at h
            have h := Option.some.inj h
            subst h
            exact t
        · rw [if_neg c13] at h
          exact hq_fc_tr t (f_X12_look_J111_fw e46 h)
      · rw [if_neg c10] at h
        by_cases c15 : (a3 &&& (a4 ^^^ (-1 : Int32))) = 0
        · rw [if_pos c15] at h
          have h := Option.some.inj h
          subst h
          exact t
        · rw [if_neg c15] at h
          exact hq_fc_tr t (f_X12_look_J111_fw e46 h)
theorem f_X12_look_L46_fw {n m : Nat} {a1 : Int32} {a2 : Int32} {a3 : Int32} {a4 : Int32} {s : hq_S} {y : (Int32 × hq_S)} (h : f_X12_look_L46 n m a1 a2 a3 a4 s = some y) : hq_fc w_X12_look s y.2 := by
  induction m generalizing a1 a2 a3 a4 s with
  | zero => cases h
  | succ m ih => exact f_X12_look_L46_B_fw (n := n) (a1 := a1) (a2 := a2) (a3 := a3) (a4 := a4) (q46 := f_X12_look_L46 n m) (fun a1 a2 a3 a4 _ s h => ih h) h
theorem f_X12_look_fw {n : Nat} {a1 : Int32} {s : hq_S} {y : (Int32 × hq_S)} (h : f_X12_look n a1 s = some y) : hq_fc w_X12_look s y.2 := by
  unfold f_X12_look at h
  have t := hq_fc_rf w_X12_look s
  obtain ⟨s1, hs1, h⟩ := hq_bind h
  have t := hq_fc_tr t (hq_fc_pi hs1 (by decide))
  by_cases c2 : a1 < (1 : Int32)
  · rw [if_pos c2] at h
    have h := Option.some.inj h
    subst h
    exact t
  · rw [if_neg c2] at h
    by_cases c3 : (10 : Int32) < a1
    · rw [if_pos c3] at h
      have h := Option.some.inj h
      subst h
      exact t
    · rw [if_neg c3] at h
      obtain ⟨y4, hy4, h⟩ := hq_bind h
      have t := hq_fc_tr t (hq_fc_mono (by decide) (f_X12_sweepOf_fw hy4))
      by_cases c5 : y4.1 = (-1 : Int32)
      · rw [if_pos c5] at h
        have h := Option.some.inj h
        subst h
        exact t
      · rw [if_neg c5] at h
        obtain ⟨x6, hx6, h⟩ := hq_bind h
        exact hq_fc_tr t (f_X12_look_L46_fw h)
def w_X12_dark : List (Nat × Option Nat) := [(174, some 0), (206, none), (207, none), (216, none), (217, none)]
theorem f_X12_dark_L18_B_fw {n : Nat} {a1 : Int32} {q18 : Int32 → hq_S → Option (Int32 × hq_S)} {s : hq_S} {y : (Int32 × hq_S)} (e18 : ∀ (a1 : Int32) (s : hq_S), q18 a1 s = some y → hq_fc w_X12_dark s y.2) (h : f_X12_dark_L18_B n q18 a1 s = some y) : hq_fc w_X12_dark s y.2 := by
  unfold f_X12_dark_L18_B at h
  have t := hq_fc_rf w_X12_dark s
  obtain ⟨y4, hy4, h⟩ := hq_bind h
  have t := hq_fc_tr t (hq_fc_mono (by decide) (f_X12_sweepOf_fw hy4))
  by_cases c5 : y4.1 = (-1 : Int32)
  · rw [if_pos c5] at h
    exact hq_fc_tr t (e18 (a1 + (1 : Int32)) y4.2 h)
  · rw [if_neg c5] at h
    have h := Option.some.inj h
    subst h
    exact t
theorem f_X12_dark_L18_fw {n m : Nat} {a1 : Int32} {s : hq_S} {y : (Int32 × hq_S)} (h : f_X12_dark_L18 n m a1 s = some y) : hq_fc w_X12_dark s y.2 := by
  induction m generalizing a1 s with
  | zero => cases h
  | succ m ih => exact f_X12_dark_L18_B_fw (n := n) (a1 := a1) (q18 := f_X12_dark_L18 n m) (fun a1 s h => ih h) h
theorem f_X12_dark_fw {n : Nat} {s : hq_S} {y : (Int32 × hq_S)} (h : f_X12_dark n s = some y) : hq_fc w_X12_dark s y.2 := by
  unfold f_X12_dark at h
  have t := hq_fc_rf w_X12_dark s
  obtain ⟨s1, hs1, h⟩ := hq_bind h
  have t := hq_fc_tr t (hq_fc_pi hs1 (by decide))
  obtain ⟨x2, hx2, h⟩ := hq_bind h
  by_cases c3 : x2 = 0
  · rw [if_pos c3] at h
    have h := Option.some.inj h
    subst h
    exact t
  · rw [if_neg c3] at h
    exact hq_fc_tr t (f_X12_dark_L18_fw h)
def w_X12_could : List (Nat × Option Nat) := [(174, some 0), (174, some 36), (194, none), (195, none), (196, none), (197, none), (198, none), (199, none), (200, none), (201, none), (202, none), (203, none), (204, none), (205, none), (206, none), (207, none)]
theorem f_X12_could_L118_B_fw {n : Nat} {a1 : Int32} {a2 : Int32} {a3 : Int32} {a4 : Int32} {a5 : Int32} {a6 : Int32} {q54 : Int32 → Int32 → Int32 → Int32 → hq_S → Option (Int32 × hq_S)} {q118 : Int32 → Int32 → Int32 → Int32 → Int32 → Int32 → hq_S → Option (Int32 × hq_S)} {s : hq_S} {y : (Int32 × hq_S)} (e54 : ∀ (a1 : Int32) (a2 : Int32) (a3 : Int32) (a4 : Int32) (o5 : Option Value) (o6 : Option Value) (s : hq_S), q54 a1 a2 a3 a4 s = some y → hq_fc w_X12_could s y.2) (e118 : ∀ (a1 : Int32) (a2 : Int32) (a3 : Int32) (a4 : Int32) (a5 : Int32) (a6 : Int32) (s : hq_S), q118 a1 a2 a3 a4 a5 a6 s = some y → hq_fc w_X12_could s y.2) (h : f_X12_could_L118_B n q54 q118 a1 a2 a3 a4 a5 a6 s = some y) : hq_fc w_X12_could s y.2 := by
  unfold f_X12_could_L118_B at h
  have t := hq_fc_rf w_X12_could s
  obtain ⟨x14, hx14, h⟩ := hq_bind h
  by_cases c15 : a6 < x14
  · rw [if_pos c15] at h
    obtain ⟨x16, hx16, h⟩ := hq_bind h
    exact hq_fc_tr t (e118 a1 a2 a3 a4 (a5 &&& (((1 : Int32) <<< (x16 &&& 31)) ^^^ (-1 : Int32))) (a6 + (1 : Int32)) s h)
  · rw [if_neg c15] at h
    exact hq_fc_tr t (e54 a1 a2 a5 (a4 + (1 : Int32)) none none s h)
theorem f_X12_could_L118_fw {n m : Nat} {a1 : Int32} {a2 : Int32} {a3 : Int32} {a4 : Int32} {a5 : Int32} {a6 : Int32} {q54 : Int32 → Int32 → Int32 → Int32 → hq_S → Option (Int32 × hq_S)} {s : hq_S} {y : (Int32 × hq_S)} (e54 : ∀ (a1 : Int32) (a2 : Int32) (a3 : Int32) (a4 : Int32) (o5 : Option Value) (o6 : Option Value) (s : hq_S), q54 a1 a2 a3 a4 s = some y → hq_fc w_X12_could s y.2) (h : f_X12_could_L118 n q54 m a1 a2 a3 a4 a5 a6 s = some y) : hq_fc w_X12_could s y.2 := by
  induction m generalizing a1 a2 a3 a4 a5 a6 s with
  | zero => cases h
  | succ m ih => exact f_X12_could_L118_B_fw (n := n) (a1 := a1) (a2 := a2) (a3 := a3) (a4 := a4) (a5 := a5) (a6 := a6) (q118 := f_X12_could_L118 n q54 m) e54 (fun a1 a2 a3 a4 a5 a6 s h => ih h) h
theorem f_X12_could_L72_B_fw {n : Nat} {a1 : Int32} {a2 : Int32} {a3 : Int32} {a4 : Int32} {a5 : Int32} {a6 : Int32} {q54 : Int32 → Int32 → Int32 → Int32 → hq_S → Option (Int32 × hq_S)} {q72 : Int32 → Int32 → Int32 → Int32 → Int32 → Int32 → hq_S → Option (Int32 × hq_S)} {s : hq_S} {y : (Int32 × hq_S)} (e54 : ∀ (a1 : Int32) (a2 : Int32) (a3 : Int32) (a4 : Int32) (o5 : Option Value) (o6 : Option Value) (s : hq_S), q54 a1 a2 a3 a4 s = some y → hq_fc w_X12_could s y.2) (e72 : ∀ (a1 : Int32) (a2 : Int32) (a3 : Int32) (a4 : Int32) (a5 : Int32) (a6 : Int32) (s : hq_S), q72 a1 a2 a3 a4 a5 a6 s = some y → hq_fc w_X12_could s y.2) (h : f_X12_could_L72_B n q54 q72 a1 a2 a3 a4 a5 a6 s = some y) : hq_fc w_X12_could s y.2 := by
  unfold f_X12_could_L72_B at h
  have t := hq_fc_rf w_X12_could s
  obtain ⟨x12, hx12, h⟩ := hq_bind h
  by_cases c13 : a6 < x12
  · rw [if_pos c13] at h
    obtain ⟨z17, hz17, h⟩ := hq_bind h
    exact hq_fc_tr t (e72 a1 a2 a3 a4 (a5 ||| z17) (a6 + (1 : Int32)) s h)
  · rw [if_neg c13] at h
    exact hq_fc_tr t (f_X12_could_L118_fw e54 h)
theorem f_X12_could_L72_fw {n m : Nat} {a1 : Int32} {a2 : Int32} {a3 : Int32} {a4 : Int32} {a5 : Int32} {a6 : Int32} {q54 : Int32 → Int32 → Int32 → Int32 → hq_S → Option (Int32 × hq_S)} {s : hq_S} {y : (Int32 × hq_S)} (e54 : ∀ (a1 : Int32) (a2 : Int32) (a3 : Int32) (a4 : Int32) (o5 : Option Value) (o6 : Option Value) (s : hq_S), q54 a1 a2 a3 a4 s = some y → hq_fc w_X12_could s y.2) (h : f_X12_could_L72 n q54 m a1 a2 a3 a4 a5 a6 s = some y) : hq_fc w_X12_could s y.2 := by
  induction m generalizing a1 a2 a3 a4 a5 a6 s with
  | zero => cases h
  | succ m ih => exact f_X12_could_L72_B_fw (n := n) (a1 := a1) (a2 := a2) (a3 := a3) (a4 := a4) (a5 := a5) (a6 := a6) (q72 := f_X12_could_L72 n q54 m) e54 (fun a1 a2 a3 a4 a5 a6 s h => ih h) h
theorem f_X12_could_L54_B_fw {n : Nat} {a1 : Int32} {a2 : Int32} {a3 : Int32} {a4 : Int32} {q54 : Int32 → Int32 → Int32 → Int32 → hq_S → Option (Int32 × hq_S)} {s : hq_S} {y : (Int32 × hq_S)} (e54 : ∀ (a1 : Int32) (a2 : Int32) (a3 : Int32) (a4 : Int32) (o5 : Option Value) (o6 : Option Value) (s : hq_S), q54 a1 a2 a3 a4 s = some y → hq_fc w_X12_could s y.2) (h : f_X12_could_L54_B n q54 a1 a2 a3 a4 s = some y) : hq_fc w_X12_could s y.2 := by
  unfold f_X12_could_L54_B at h
  have t := hq_fc_rf w_X12_could s
  by_cases c10 : a4 < a2
  · rw [if_pos c10] at h
    obtain ⟨s11, hs11, h⟩ := hq_bind h
    have t := hq_fc_tr t (hq_fc_mono (by decide) (f_X12_passes_fw hs11))
    exact hq_fc_tr t (f_X12_could_L72_fw e54 h)
  · rw [if_neg c10] at h
    have h := Option.some.inj h
    subst h
    exact t
theorem f_X12_could_L54_fw {n m : Nat} {a1 : Int32} {a2 : Int32} {a3 : Int32} {a4 : Int32} {s : hq_S} {y : (Int32 × hq_S)} (h : f_X12_could_L54 n m a1 a2 a3 a4 s = some y) : hq_fc w_X12_could s y.2 := by
  induction m generalizing a1 a2 a3 a4 s with
  | zero => cases h
  | succ m ih => exact f_X12_could_L54_B_fw (n := n) (a1 := a1) (a2 := a2) (a3 := a3) (a4 := a4) (q54 := f_X12_could_L54 n m) (fun a1 a2 a3 a4 _ _ s h => ih h) h
theorem f_X12_could_fw {n : Nat} {a1 : Int32} {a2 : Int32} {s : hq_S} {y : (Int32 × hq_S)} (h : f_X12_could n a1 a2 s = some y) : hq_fc w_X12_could s y.2 := by
  unfold f_X12_could at h
  have t := hq_fc_rf w_X12_could s
  obtain ⟨s1, hs1, h⟩ := hq_bind h
  have t := hq_fc_tr t (hq_fc_pi hs1 (by decide))
  obtain ⟨y2, hy2, h⟩ := hq_bind h
  have t := hq_fc_tr t (hq_fc_mono (by decide) (f_X12_isThief_fw hy2))
  by_cases c3 : y2.1 = 0
  · rw [if_pos c3] at h
    have h := Option.some.inj h
    subst h
    exact t
  · rw [if_neg c3] at h
    by_cases c4 : a2 < 0
    · rw [if_pos c4] at h
      have h := Option.some.inj h
      subst h
      exact t
    · rw [if_neg c4] at h
      by_cases c5 : (60 : Int32) < a2
      · rw [if_pos c5] at h
        have h := Option.some.inj h
        subst h
        exact t
      · rw [if_neg c5] at h
        obtain ⟨y6, hy6, h⟩ := hq_bind h
        have t := hq_fc_tr t (hq_fc_mono (by decide) (f_X12_isFree_fw hy6))
        by_cases c7 : y6.1 = 0
        · rw [if_pos c7] at h
          have h := Option.some.inj h
          subst h
          exact t
        · rw [if_neg c7] at h
          obtain ⟨s8, hs8, h⟩ := hq_bind h
          have t := hq_fc_tr t (hq_fc_mono (by decide) (f_X12_copies_fw hs8))
          obtain ⟨x9, hx9, h⟩ := hq_bind h
          exact hq_fc_tr t (f_X12_could_L54_fw h)
def w_X12_unseen : List (Nat × Option Nat) := [(174, some 0), (174, some 36), (194, none), (195, none), (196, none), (197, none), (198, none), (199, none), (200, none), (201, none), (202, none), (203, none), (204, none), (205, none), (206, none), (207, none)]
theorem f_X12_unseen_L28_B_fw {n : Nat} {a1 : Int32} {a2 : Int32} {a3 : Int32} {a4 : Int32} {q28 : Int32 → Int32 → Int32 → Int32 → hq_S → Option (Int32 × hq_S)} {s : hq_S} {y : (Int32 × hq_S)} (e28 : ∀ (a1 : Int32) (a2 : Int32) (a3 : Int32) (a4 : Int32) (s : hq_S), q28 a1 a2 a3 a4 s = some y → hq_fc w_X12_unseen s y.2) (h : f_X12_unseen_L28_B n q28 a1 a2 a3 a4 s = some y) : hq_fc w_X12_unseen s y.2 := by
  unfold f_X12_unseen_L28_B at h
  have t := hq_fc_rf w_X12_unseen s
  by_cases c5 : a4 < (60 : Int32)
  · rw [if_pos c5] at h
    obtain ⟨s6, hs6, h⟩ := hq_bind h
    have t := hq_fc_tr t (hq_fc_mono (by decide) (f_X12_passes_fw hs6))
    obtain ⟨y7, hy7, h⟩ := hq_bind h
    have t := hq_fc_tr t (hq_fc_mono (by decide) (f_X12_farOf_fw hy7))
    obtain ⟨z8, hz8, h⟩ := hq_bind h
    exact hq_fc_tr t (e28 a1 (hq_max a2 z8) z8 (a4 + (1 : Int32)) y7.2 h)
  · rw [if_neg c5] at h
    have h := Option.some.inj h
    subst h
    exact t
theorem f_X12_unseen_L28_fw {n m : Nat} {a1 : Int32} {a2 : Int32} {a3 : Int32} {a4 : Int32} {s : hq_S} {y : (Int32 × hq_S)} (h : f_X12_unseen_L28 n m a1 a2 a3 a4 s = some y) : hq_fc w_X12_unseen s y.2 := by
  induction m generalizing a1 a2 a3 a4 s with
  | zero => cases h
  | succ m ih => exact f_X12_unseen_L28_B_fw (n := n) (a1 := a1) (a2 := a2) (a3 := a3) (a4 := a4) (q28 := f_X12_unseen_L28 n m) (fun a1 a2 a3 a4 s h => ih h) h
theorem f_X12_unseen_fw {n : Nat} {a1 : Int32} {s : hq_S} {y : (Int32 × hq_S)} (h : f_X12_unseen n a1 s = some y) : hq_fc w_X12_unseen s y.2 := by
  unfold f_X12_unseen at h
  have t := hq_fc_rf w_X12_unseen s
  obtain ⟨s1, hs1, h⟩ := hq_bind h
  have t := hq_fc_tr t (hq_fc_pi hs1 (by decide))
  obtain ⟨y2, hy2, h⟩ := hq_bind h
  have t := hq_fc_tr t (hq_fc_mono (by decide) (f_X12_isCorner_fw hy2))
  by_cases c3 : y2.1 = 0
  · rw [if_pos c3] at h
    have h := Option.some.inj h
    subst h
    exact t
  · rw [if_neg c3] at h
    obtain ⟨s4, hs4, h⟩ := hq_bind h
    have t := hq_fc_tr t (hq_fc_mono (by decide) (f_X12_copies_fw hs4))
    exact hq_fc_tr t (f_X12_unseen_L28_fw h)
def w_X12_goesFrom : List (Nat × Option Nat) := [(218, none)]
theorem f_X12_goesFrom_L5_B_fw {n : Nat} {a1 : Int32} {a2 : Int32} {a3 : Int32} {a4 : Int32} {q5 : Int32 → Int32 → Int32 → Int32 → hq_S → Option (Int32 × hq_S)} {s : hq_S} {y : (Int32 × hq_S)} (e5 : ∀ (a1 : Int32) (a2 : Int32) (a3 : Int32) (a4 : Int32) (o5 : Option Value) (s : hq_S), q5 a1 a2 a3 a4 s = some y → hq_fc w_X12_goesFrom s y.2) (h : f_X12_goesFrom_L5_B n q5 a1 a2 a3 a4 s = some y) : hq_fc w_X12_goesFrom s y.2 := by
  unfold f_X12_goesFrom_L5_B at h
  have t := hq_fc_rf w_X12_goesFrom s
  obtain ⟨x1, hx1, h⟩ := hq_bind h
  by_cases c2 : a4 < x1
  · rw [if_pos c2] at h
    obtain ⟨x3, hx3, h⟩ := hq_bind h
    obtain ⟨x4, hx4, h⟩ := hq_bind h
    obtain ⟨x5, hx5, h⟩ := hq_bind h
    obtain ⟨z6, hz6, h⟩ := hq_bind h
    have t : hq_fc w_X12_goesFrom s z6.2 := by
      clear h
      have h := hz6
      by_cases c7 : ((x5 >>> (a4 &&& 31)) &&& (1 : Int32)) = 0
      · rw [if_pos c7] at h
        cases h
        exact t
      · rw [if_neg c7] at h
        obtain ⟨x8, hx8, h⟩ := hq_bind h
        by_cases c9 : x8 = (-1 : Int32)
        · rw [if_pos c9] at h
          obtain ⟨s10, hs10, h⟩ := hq_bind h
          have t := hq_fc_tr t (hq_fc_st hs10 (by decide))
          cases h
          exact t
        · rw [if_neg c9] at h
          cases h
          exact t
    exact hq_fc_tr t (e5 a1 a2 z6.1 (a4 + (1 : Int32)) none z6.2 h)
  · rw [if_neg c2] at h
    have hr : mm_rfit (mm_ret mc_X12_goesFrom) a3 = true := hq_ifT h
    rw [if_pos hr] at h
    have h := Option.some.inj h
    subst h
    exact t
theorem f_X12_goesFrom_L5_fw {n m : Nat} {a1 : Int32} {a2 : Int32} {a3 : Int32} {a4 : Int32} {s : hq_S} {y : (Int32 × hq_S)} (h : f_X12_goesFrom_L5 n m a1 a2 a3 a4 s = some y) : hq_fc w_X12_goesFrom s y.2 := by
  induction m generalizing a1 a2 a3 a4 s with
  | zero => cases h
  | succ m ih => exact f_X12_goesFrom_L5_B_fw (n := n) (a1 := a1) (a2 := a2) (a3 := a3) (a4 := a4) (q5 := f_X12_goesFrom_L5 n m) (fun a1 a2 a3 a4 _ s h => ih h) h
theorem f_X12_goesFrom_fw {n : Nat} {a1 : Int32} {a2 : Int32} {s : hq_S} {y : (Int32 × hq_S)} (h : f_X12_goesFrom n a1 a2 s = some y) : hq_fc w_X12_goesFrom s y.2 := by
  unfold f_X12_goesFrom at h
  have t := hq_fc_rf w_X12_goesFrom s
  exact hq_fc_tr t (f_X12_goesFrom_L5_fw h)
def w_X12_round : List (Nat × Option Nat) := [(174, some 0), (206, none), (207, none), (218, none)]
theorem f_X12_round_J136_fw {n : Nat} {a1 : Int32} {a2 : Int32} {a3 : Int32} {a4 : Int32} {a5 : Int32} {q73 : Int32 → Int32 → Int32 → Int32 → hq_S → Option (Int32 × hq_S)} {q82 : Int32 → Int32 → Int32 → Int32 → Int32 → hq_S → Option (Int32 × hq_S)} {s : hq_S} {y : (Int32 × hq_S)} (e73 : ∀ (a1 : Int32) (a2 : Int32) (a3 : Int32) (a4 : Int32) (o5 : Option Value) (s : hq_S), q73 a1 a2 a3 a4 s = some y → hq_fc w_X12_round s y.2) (e82 : ∀ (a1 : Int32) (a2 : Int32) (a3 : Int32) (a4 : Int32) (a5 : Int32) (s : hq_S), q82 a1 a2 a3 a4 a5 s = some y → hq_fc w_X12_round s y.2) (h : f_X12_round_J136 n q73 q82 a1 a2 a3 a4 a5 s = some y) : hq_fc w_X12_round s y.2 := by
  unfold f_X12_round_J136 at h
  have t := hq_fc_rf w_X12_round s
  exact hq_fc_tr t (e82 a1 a2 a3 a4 (a5 + (1 : Int32)) s h)
theorem f_X12_round_L82_B_fw {n : Nat} {a1 : Int32} {a2 : Int32} {a3 : Int32} {a4 : Int32} {a5 : Int32} {q73 : Int32 → Int32 → Int32 → Int32 → hq_S → Option (Int32 × hq_S)} {q82 : Int32 → Int32 → Int32 → Int32 → Int32 → hq_S → Option (Int32 × hq_S)} {s : hq_S} {y : (Int32 × hq_S)} (e73 : ∀ (a1 : Int32) (a2 : Int32) (a3 : Int32) (a4 : Int32) (o5 : Option Value) (s : hq_S), q73 a1 a2 a3 a4 s = some y → hq_fc w_X12_round s y.2) (e82 : ∀ (a1 : Int32) (a2 : Int32) (a3 : Int32) (a4 : Int32) (a5 : Int32) (s : hq_S), q82 a1 a2 a3 a4 a5 s = some y → hq_fc w_X12_round s y.2) (h : f_X12_round_L82_B n q73 q82 a1 a2 a3 a4 a5 s = some y) : hq_fc w_X12_round s y.2 := by
  unfold f_X12_round_L82_B at h
  have t := hq_fc_rf w_X12_round s
  obtain ⟨x9, hx9, h⟩ := hq_bind h
  by_cases c10 : a5 < ((1024 : Int32) * x9)
  · rw [if_pos c10] at h
    obtain ⟨x11, hx11, h⟩ := hq_bind h
    by_cases c12 : x11 = a4
    · rw [if_pos c12] at h
      obtain ⟨x13, hx13, h⟩ := hq_bind h
      by_cases c14 : x13 = a2
      · rw [if_pos c14] at h
        have h := Option.some.inj h
        subst h
        exact t
      · rw [if_neg c14] at h
        obtain ⟨y15, hy15, h⟩ := hq_bind h
        have t := hq_fc_tr t (hq_fc_mono (by decide) (f_X12_goesFrom_fw hy15))
        exact hq_fc_tr t (f_X12_round_J136_fw e73 e82 h)
    · rw [if_neg c12] at h
      exact hq_fc_tr t (f_X12_round_J136_fw e73 e82 h)
  · rw [if_neg c10] at h
    exact hq_fc_tr t (e73 a1 a2 a3 (a4 + (1 : Int32)) none s h)
theorem f_X12_round_L82_fw {n m : Nat} {a1 : Int32} {a2 : Int32} {a3 : Int32} {a4 : Int32} {a5 : Int32} {q73 : Int32 → Int32 → Int32 → Int32 → hq_S → Option (Int32 × hq_S)} {s : hq_S} {y : (Int32 × hq_S)} (e73 : ∀ (a1 : Int32) (a2 : Int32) (a3 : Int32) (a4 : Int32) (o5 : Option Value) (s : hq_S), q73 a1 a2 a3 a4 s = some y → hq_fc w_X12_round s y.2) (h : f_X12_round_L82 n q73 m a1 a2 a3 a4 a5 s = some y) : hq_fc w_X12_round s y.2 := by
  induction m generalizing a1 a2 a3 a4 a5 s with
  | zero => cases h
  | succ m ih => exact f_X12_round_L82_B_fw (n := n) (a1 := a1) (a2 := a2) (a3 := a3) (a4 := a4) (a5 := a5) (q82 := f_X12_round_L82 n q73 m) e73 (fun a1 a2 a3 a4 a5 s h => ih h) h
theorem f_X12_round_L73_B_fw {n : Nat} {a1 : Int32} {a2 : Int32} {a3 : Int32} {a4 : Int32} {q73 : Int32 → Int32 → Int32 → Int32 → hq_S → Option (Int32 × hq_S)} {s : hq_S} {y : (Int32 × hq_S)} (e73 : ∀ (a1 : Int32) (a2 : Int32) (a3 : Int32) (a4 : Int32) (o5 : Option Value) (s : hq_S), q73 a1 a2 a3 a4 s = some y → hq_fc w_X12_round s y.2) (h : f_X12_round_L73_B n q73 a1 a2 a3 a4 s = some y) : hq_fc w_X12_round s y.2 := by
  unfold f_X12_round_L73_B at h
  have t := hq_fc_rf w_X12_round s
  by_cases c8 : a3 = 0
  · rw [if_pos c8] at h
    have h := Option.some.inj h
    subst h
    exact t
  · rw [if_neg c8] at h
    exact hq_fc_tr t (f_X12_round_L82_fw e73 h)
theorem f_X12_round_L73_fw {n m : Nat} {a1 : Int32} {a2 : Int32} {a3 : Int32} {a4 : Int32} {s : hq_S} {y : (Int32 × hq_S)} (h : f_X12_round_L73 n m a1 a2 a3 a4 s = some y) : hq_fc w_X12_round s y.2 := by
  induction m generalizing a1 a2 a3 a4 s with
  | zero => cases h
  | succ m ih => exact f_X12_round_L73_B_fw (n := n) (a1 := a1) (a2 := a2) (a3 := a3) (a4 := a4) (q73 := f_X12_round_L73 n m) (fun a1 a2 a3 a4 _ s h => ih h) h
theorem f_X12_round_L33_B_fw {n : Nat} {a1 : Int32} {a2 : Int32} {a3 : Int32} {q33 : Int32 → Int32 → Int32 → hq_S → Option (Int32 × hq_S)} {s : hq_S} {y : (Int32 × hq_S)} (e33 : ∀ (a1 : Int32) (a2 : Int32) (a3 : Int32) (s : hq_S), q33 a1 a2 a3 s = some y → hq_fc w_X12_round s y.2) (h : f_X12_round_L33_B n q33 a1 a2 a3 s = some y) : hq_fc w_X12_round s y.2 := by
  unfold f_X12_round_L33_B at h
  have t := hq_fc_rf w_X12_round s
  by_cases c6 : a3 < (10240 : Int32)
  · rw [if_pos c6] at h
    obtain ⟨s16, hs16, h⟩ := hq_bind h
    have t := hq_fc_tr t (hq_fc_st hs16 (by decide))
    exact hq_fc_tr t (e33 a1 a2 (a3 + (1 : Int32)) s16 h)
  · rw [if_neg c6] at h
    obtain ⟨s7, hs7, h⟩ := hq_bind h
    have t := hq_fc_tr t (hq_fc_st hs7 (by decide))
    exact hq_fc_tr t (f_X12_round_L73_fw h)
theorem f_X12_round_L33_fw {n m : Nat} {a1 : Int32} {a2 : Int32} {a3 : Int32} {s : hq_S} {y : (Int32 × hq_S)} (h : f_X12_round_L33 n m a1 a2 a3 s = some y) : hq_fc w_X12_round s y.2 := by
  induction m generalizing a1 a2 a3 s with
  | zero => cases h
  | succ m ih => exact f_X12_round_L33_B_fw (n := n) (a1 := a1) (a2 := a2) (a3 := a3) (q33 := f_X12_round_L33 n m) (fun a1 a2 a3 s h => ih h) h
theorem f_X12_round_fw {n : Nat} {a1 : Int32} {s : hq_S} {y : (Int32 × hq_S)} (h : f_X12_round n a1 s = some y) : hq_fc w_X12_round s y.2 := by
  unfold f_X12_round at h
  have t := hq_fc_rf w_X12_round s
  obtain ⟨s1, hs1, h⟩ := hq_bind h
  have t := hq_fc_tr t (hq_fc_pi hs1 (by decide))
  obtain ⟨y2, hy2, h⟩ := hq_bind h
  have t := hq_fc_tr t (hq_fc_mono (by decide) (f_X12_isCorner_fw hy2))
  by_cases c3 : y2.1 = 0
  · rw [if_pos c3] at h
    have h := Option.some.inj h
    subst h
    exact t
  · rw [if_neg c3] at h
    obtain ⟨s4, hs4, h⟩ := hq_bind h
    have t := hq_fc_tr t (hq_fc_mono (by decide) (f_X12_lays_fw hs4))
    obtain ⟨x5, hx5, h⟩ := hq_bind h
    exact hq_fc_tr t (f_X12_round_L33_fw h)
def w_X12_hasRoom : List (Nat × Option Nat) := []
theorem f_X12_hasRoom_fw {n : Nat} {a1 : Int32} {a2 : Int32} {s : hq_S} {y : (Int32 × hq_S)} (h : f_X12_hasRoom n a1 a2 s = some y) : hq_fc w_X12_hasRoom s y.2 := by
  unfold f_X12_hasRoom at h
  have t := hq_fc_rf w_X12_hasRoom s
  obtain ⟨x1, hx1, h⟩ := hq_bind h
  by_cases c2 : ((x1 >>> (a1 &&& 31)) &&& (1 : Int32)) = (1 : Int32)
  · rw [if_pos c2] at h
    have h := Option.some.inj h
    subst h
    exact t
  · rw [if_neg c2] at h
    obtain ⟨x3, hx3, h⟩ := hq_bind h
    by_cases c4 : x3 = a2
    · rw [if_pos c4] at h
      obtain ⟨x12, hx12, h⟩ := hq_bind h
      by_cases c13 : x12 < (1 : Int32)
      · rw [if_pos c13] at h
        have h := Option.some.inj h
        subst h
        exact t
      · rw [if_neg c13] at h
        have h := Option.some.inj h
        subst h
        exact t
    · rw [if_neg c4] at h
      obtain ⟨x5, hx5, h⟩ := hq_bind h
      by_cases c6 : x5 = a2
      · rw [if_pos c6] at h
        obtain ⟨x7, hx7, h⟩ := hq_bind h
        obtain ⟨x8, hx8, h⟩ := hq_bind h
        obtain ⟨z9, hz9, h⟩ := hq_bind h
        by_cases c11 : z9 < x7
        · rw [if_pos c11] at h
          have h := Option.some.inj h
          subst h
          exact t
        · rw [if_neg c11] at h
          have h := Option.some.inj h
          subst h
          exact t
      · rw [if_neg c6] at h
        have h := Option.some.inj h
        subst h
        exact t
def w_X12_findsOne : List (Nat × Option Nat) := [(220, none)]
theorem f_X12_findsOne_J161_fw {n : Nat} {a1 : Int32} {a2 : Int32} {a3 : Int32} {a4 : Int32} {s : hq_S} {y : (Int32 × hq_S)} (h : f_X12_findsOne_J161 n a1 a2 a3 a4 s = some y) : hq_fc w_X12_findsOne s y.2 := by
  unfold f_X12_findsOne_J161 at h
  have t := hq_fc_rf w_X12_findsOne s
  by_cases c2 : ((a3 >>> (a2 &&& 31)) &&& (1 : Int32)) = (1 : Int32)
  · rw [if_pos c2] at h
    have h := Option.some.inj h
    subst h
    exact t
  · rw [if_neg c2] at h
    have h := Option.some.inj h
    subst h
    exact t
theorem f_X12_findsOne_L40_B_fw {n : Nat} {a1 : Int32} {a2 : Int32} {a3 : Int32} {a4 : Int32} {a5 : Int32} {a6 : Int32} {q7 : Int32 → Int32 → Int32 → Int32 → hq_S → Option (Int32 × hq_S)} {q26 : Int32 → Int32 → Int32 → Int32 → Int32 → hq_S → Option (Int32 × hq_S)} {q40 : Int32 → Int32 → Int32 → Int32 → Int32 → Int32 → hq_S → Option (Int32 × hq_S)} {s : hq_S} {y : (Int32 × hq_S)} (e7 : ∀ (a1 : Int32) (a2 : Int32) (a3 : Int32) (a4 : Int32) (o5 : Option Value) (o6 : Option Value) (o7 : Option Value) (o8 : Option Value) (s : hq_S), q7 a1 a2 a3 a4 s = some y → hq_fc w_X12_findsOne s y.2) (e26 : ∀ (a1 : Int32) (a2 : Int32) (a3 : Int32) (a4 : Int32) (a5 : Int32) (o6 : Option Value) (o7 : Option Value) (o8 : Option Value) (s : hq_S), q26 a1 a2 a3 a4 a5 s = some y → hq_fc w_X12_findsOne s y.2) (e40 : ∀ (a1 : Int32) (a2 : Int32) (a3 : Int32) (a4 : Int32) (a5 : Int32) (a6 : Int32) (o7 : Option Value) (o8 : Option Value) (s : hq_S), q40 a1 a2 a3 a4 a5 a6 s = some y → hq_fc w_X12_findsOne s y.2) (h : f_X12_findsOne_L40_B n q7 q26 q40 a1 a2 a3 a4 a5 a6 s = some y) : hq_fc w_X12_findsOne s y.2 := by
  unfold f_X12_findsOne_L40_B at h
  have t := hq_fc_rf w_X12_findsOne s
  by_cases c6 : a6 < (2 : Int32)
  · rw [if_pos c6] at h
    obtain ⟨z7, hz7, h⟩ := hq_bind h
    obtain ⟨z11, hz11, h⟩ := hq_bind h
    obtain ⟨z15, hz15, h⟩ := hq_bind h
    have t : hq_fc w_X12_findsOne s z15.2.2 := by
      clear h
      have h := hz15
      by_cases c16 : ((a3 >>> (z7 &&& 31)) &&& (1 : Int32)) = 0
      · rw [if_pos c16] at h
        cases h
        exact t
      · rw [if_neg c16] at h
        by_cases c17 : ((a3 >>> (z11 &&& 31)) &&& (1 : Int32)) = (1 : Int32)
        · rw [if_pos c17] at h
          cases h
          exact t
        · rw [if_neg c17] at h
          obtain ⟨y18, hy18, h⟩ := hq_bind h
          have t := hq_fc_tr t (hq_fc_mono (by decide) (f_X12_hasRoom_fw hy18))
          by_cases c19 : y18.1 = 0
          · rw [if_pos c19] at h
            cases h
            exact t
          · rw [if_neg c19] at h
            obtain ⟨s20, hs20, h⟩ := hq_bind h
            have t := hq_fc_tr t (hq_fc_st hs20 (by decide))
            cases h
            exact t
    exact hq_fc_tr t (e40 a1 a2 z15.1 z15.2.1 a5 (a6 + (1 : Int32)) none none z15.2.2 h)
  · rw [if_neg c6] at h
    exact hq_fc_tr t (e26 a1 a2 a3 a4 (a5 + (1 : Int32)) none none none s h)
theorem f_X12_findsOne_L40_fw {n m : Nat} {a1 : Int32} {a2 : Int32} {a3 : Int32} {a4 : Int32} {a5 : Int32} {a6 : Int32} {q7 : Int32 → Int32 → Int32 → Int32 → hq_S → Option (Int32 × hq_S)} {q26 : Int32 → Int32 → Int32 → Int32 → Int32 → hq_S → Option (Int32 × hq_S)} {s : hq_S} {y : (Int32 × hq_S)} (e7 : ∀ (a1 : Int32) (a2 : Int32) (a3 : Int32) (a4 : Int32) (o5 : Option Value) (o6 : Option Value) (o7 : Option Value) (o8 : Option Value) (s : hq_S), q7 a1 a2 a3 a4 s = some y → hq_fc w_X12_findsOne s y.2) (e26 : ∀ (a1 : Int32) (a2 : Int32) (a3 : Int32) (a4 : Int32) (a5 : Int32) (o6 : Option Value) (o7 : Option Value) (o8 : Option Value) (s : hq_S), q26 a1 a2 a3 a4 a5 s = some y → hq_fc w_X12_findsOne s y.2) (h : f_X12_findsOne_L40 n q7 q26 m a1 a2 a3 a4 a5 a6 s = some y) : hq_fc w_X12_findsOne s y.2 := by
  induction m generalizing a1 a2 a3 a4 a5 a6 s with
  | zero => cases h
  | succ m ih => exact f_X12_findsOne_L40_B_fw (n := n) (a1 := a1) (a2 := a2) (a3 := a3) (a4 := a4) (a5 := a5) (a6 := a6) (q40 := f_X12_findsOne_L40 n q7 q26 m) e7 e26 (fun a1 a2 a3 a4 a5 a6 _ _ s h => ih h) h
theorem f_X12_findsOne_L26_B_fw {n : Nat} {a1 : Int32} {a2 : Int32} {a3 : Int32} {a4 : Int32} {a5 : Int32} {q7 : Int32 → Int32 → Int32 → Int32 → hq_S → Option (Int32 × hq_S)} {q26 : Int32 → Int32 → Int32 → Int32 → Int32 → hq_S → Option (Int32 × hq_S)} {s : hq_S} {y : (Int32 × hq_S)} (e7 : ∀ (a1 : Int32) (a2 : Int32) (a3 : Int32) (a4 : Int32) (o5 : Option Value) (o6 : Option Value) (o7 : Option Value) (o8 : Option Value) (s : hq_S), q7 a1 a2 a3 a4 s = some y → hq_fc w_X12_findsOne s y.2) (e26 : ∀ (a1 : Int32) (a2 : Int32) (a3 : Int32) (a4 : Int32) (a5 : Int32) (o6 : Option Value) (o7 : Option Value) (o8 : Option Value) (s : hq_S), q26 a1 a2 a3 a4 a5 s = some y → hq_fc w_X12_findsOne s y.2) (h : f_X12_findsOne_L26_B n q7 q26 a1 a2 a3 a4 a5 s = some y) : hq_fc w_X12_findsOne s y.2 := by
  unfold f_X12_findsOne_L26_B at h
  have t := hq_fc_rf w_X12_findsOne s
  obtain ⟨x4, hx4, h⟩ := hq_bind h
  by_cases c5 : a5 < x4
  · rw [if_pos c5] at h
    exact hq_fc_tr t (f_X12_findsOne_L40_fw e7 e26 h)
  · rw [if_neg c5] at h
    exact hq_fc_tr t (e7 a1 a2 a3 a4 none none none none s h)
theorem f_X12_findsOne_L26_fw {n m : Nat} {a1 : Int32} {a2 : Int32} {a3 : Int32} {a4 : Int32} {a5 : Int32} {q7 : Int32 → Int32 → Int32 → Int32 → hq_S → Option (Int32 × hq_S)} {s : hq_S} {y : (Int32 × hq_S)} (e7 : ∀ (a1 : Int32) (a2 : Int32) (a3 : Int32) (a4 : Int32) (o5 : Option Value) (o6 : Option Value) (o7 : Option Value) (o8 : Option Value) (s : hq_S), q7 a1 a2 a3 a4 s = some y → hq_fc w_X12_findsOne s y.2) (h : f_X12_findsOne_L26 n q7 m a1 a2 a3 a4 a5 s = some y) : hq_fc w_X12_findsOne s y.2 := by
  induction m generalizing a1 a2 a3 a4 a5 s with
  | zero => cases h
  | succ m ih => exact f_X12_findsOne_L26_B_fw (n := n) (a1 := a1) (a2 := a2) (a3 := a3) (a4 := a4) (a5 := a5) (q26 := f_X12_findsOne_L26 n q7 m) e7 (fun a1 a2 a3 a4 a5 _ _ _ s h => ih h) h
theorem f_X12_findsOne_L7_B_fw {n : Nat} {a1 : Int32} {a2 : Int32} {a3 : Int32} {a4 : Int32} {q7 : Int32 → Int32 → Int32 → Int32 → hq_S → Option (Int32 × hq_S)} {s : hq_S} {y : (Int32 × hq_S)} (e7 : ∀ (a1 : Int32) (a2 : Int32) (a3 : Int32) (a4 : Int32) (o5 : Option Value) (o6 : Option Value) (o7 : Option Value) (o8 : Option Value) (s : hq_S), q7 a1 a2 a3 a4 s = some y → hq_fc w_X12_findsOne s y.2) (h : f_X12_findsOne_L7_B n q7 a1 a2 a3 a4 s = some y) : hq_fc w_X12_findsOne s y.2 := by
  unfold f_X12_findsOne_L7_B at h
  have t := hq_fc_rf w_X12_findsOne s
  by_cases c1 : a4 = 0
  · rw [if_pos c1] at h
    exact hq_fc_tr t (f_X12_findsOne_J161_fw h)
  · rw [if_neg c1] at h
    by_cases c3 : ((a3 >>> (a2 &&& 31)) &&& (1 : Int32)) = 0
    · rw [if_pos c3] at h
      exact hq_fc_tr t (f_X12_findsOne_L26_fw e7 h)
    · rw [if_neg c3] at h
      exact hq_fc_tr t (f_X12_findsOne_J161_fw h)
theorem f_X12_findsOne_L7_fw {n m : Nat} {a1 : Int32} {a2 : Int32} {a3 : Int32} {a4 : Int32} {s : hq_S} {y : (Int32 × hq_S)} (h : f_X12_findsOne_L7 n m a1 a2 a3 a4 s = some y) : hq_fc w_X12_findsOne s y.2 := by
  induction m generalizing a1 a2 a3 a4 s with
  | zero => cases h
  | succ m ih => exact f_X12_findsOne_L7_B_fw (n := n) (a1 := a1) (a2 := a2) (a3 := a3) (a4 := a4) (q7 := f_X12_findsOne_L7 n m) (fun a1 a2 a3 a4 _ _ _ _ s h => ih h) h
theorem f_X12_findsOne_fw {n : Nat} {a1 : Int32} {a2 : Int32} {s : hq_S} {y : (Int32 × hq_S)} (h : f_X12_findsOne n a1 a2 s = some y) : hq_fc w_X12_findsOne s y.2 := by
  unfold f_X12_findsOne at h
  have t := hq_fc_rf w_X12_findsOne s
  exact hq_fc_tr t (f_X12_findsOne_L7_fw h)
def w_X12_wall : List (Nat × Option Nat) := [(174, some 0), (219, none), (220, none)]
theorem f_X12_wall_L66_B_fw {n : Nat} {a1 : Int32} {a2 : Int32} {a3 : Int32} {a4 : Int32} {q51 : Int32 → Int32 → Int32 → hq_S → Option (Int32 × hq_S)} {q66 : Int32 → Int32 → Int32 → Int32 → hq_S → Option (Int32 × hq_S)} {s : hq_S} {y : (Int32 × hq_S)} (e51 : ∀ (a1 : Int32) (a2 : Int32) (a3 : Int32) (o4 : Option Value) (o5 : Option Value) (o6 : Option Value) (s : hq_S), q51 a1 a2 a3 s = some y → hq_fc w_X12_wall s y.2) (e66 : ∀ (a1 : Int32) (a2 : Int32) (a3 : Int32) (a4 : Int32) (o5 : Option Value) (o6 : Option Value) (s : hq_S), q66 a1 a2 a3 a4 s = some y → hq_fc w_X12_wall s y.2) (h : f_X12_wall_L66_B n q51 q66 a1 a2 a3 a4 s = some y) : hq_fc w_X12_wall s y.2 := by
  unfold f_X12_wall_L66_B at h
  have t := hq_fc_rf w_X12_wall s
  by_cases c10 : a4 = a1
  · rw [if_pos c10] at h
    exact hq_fc_tr t (e51 a1 a2 a3 none none none s h)
  · rw [if_neg c10] at h
    obtain ⟨x11, hx11, h⟩ := hq_bind h
    obtain ⟨x12, hx12, h⟩ := hq_bind h
    obtain ⟨z13, hz13, h⟩ := hq_bind h
    obtain ⟨x15, hx15, h⟩ := hq_bind h
    obtain ⟨z16, hz16, h⟩ := hq_bind h
    obtain ⟨s18, hs18, h⟩ := hq_bind h
    have t := hq_fc_tr t (hq_fc_st hs18 (by decide))
    obtain ⟨z19, hz19, h⟩ := hq_bind h
    exact hq_fc_tr t (e66 a1 a2 a3 z19 none none s18 h)
theorem f_X12_wall_L66_fw {n m : Nat} {a1 : Int32} {a2 : Int32} {a3 : Int32} {a4 : Int32} {q51 : Int32 → Int32 → Int32 → hq_S → Option (Int32 × hq_S)} {s : hq_S} {y : (Int32 × hq_S)} (e51 : ∀ (a1 : Int32) (a2 : Int32) (a3 : Int32) (o4 : Option Value) (o5 : Option Value) (o6 : Option Value) (s : hq_S), q51 a1 a2 a3 s = some y → hq_fc w_X12_wall s y.2) (h : f_X12_wall_L66 n q51 m a1 a2 a3 a4 s = some y) : hq_fc w_X12_wall s y.2 := by
  induction m generalizing a1 a2 a3 a4 s with
  | zero => cases h
  | succ m ih => exact f_X12_wall_L66_B_fw (n := n) (a1 := a1) (a2 := a2) (a3 := a3) (a4 := a4) (q66 := f_X12_wall_L66 n q51 m) e51 (fun a1 a2 a3 a4 _ _ s h => ih h) h
theorem f_X12_wall_L51_B_fw {n : Nat} {a1 : Int32} {a2 : Int32} {a3 : Int32} {q51 : Int32 → Int32 → Int32 → hq_S → Option (Int32 × hq_S)} {s : hq_S} {y : (Int32 × hq_S)} (e51 : ∀ (a1 : Int32) (a2 : Int32) (a3 : Int32) (o4 : Option Value) (o5 : Option Value) (o6 : Option Value) (s : hq_S), q51 a1 a2 a3 s = some y → hq_fc w_X12_wall s y.2) (h : f_X12_wall_L51_B n q51 a1 a2 a3 s = some y) : hq_fc w_X12_wall s y.2 := by
  unfold f_X12_wall_L51_B at h
  have t := hq_fc_rf w_X12_wall s
  obtain ⟨y8, hy8, h⟩ := hq_bind h
  have t := hq_fc_tr t (hq_fc_mono (by decide) (f_X12_findsOne_fw hy8))
  by_cases c9 : y8.1 = 0
  · rw [if_pos c9] at h
    have h := Option.some.inj h
    subst h
    exact t
  · rw [if_neg c9] at h
    exact hq_fc_tr t (f_X12_wall_L66_fw e51 h)
theorem f_X12_wall_L51_fw {n m : Nat} {a1 : Int32} {a2 : Int32} {a3 : Int32} {s : hq_S} {y : (Int32 × hq_S)} (h : f_X12_wall_L51 n m a1 a2 a3 s = some y) : hq_fc w_X12_wall s y.2 := by
  induction m generalizing a1 a2 a3 s with
  | zero => cases h
  | succ m ih => exact f_X12_wall_L51_B_fw (n := n) (a1 := a1) (a2 := a2) (a3 := a3) (q51 := f_X12_wall_L51 n m) (fun a1 a2 a3 _ _ _ s h => ih h) h
theorem f_X12_wall_L30_B_fw {n : Nat} {a1 : Int32} {a2 : Int32} {a3 : Int32} {q30 : Int32 → Int32 → Int32 → hq_S → Option (Int32 × hq_S)} {s : hq_S} {y : (Int32 × hq_S)} (e30 : ∀ (a1 : Int32) (a2 : Int32) (a3 : Int32) (s : hq_S), q30 a1 a2 a3 s = some y → hq_fc w_X12_wall s y.2) (h : f_X12_wall_L30_B n q30 a1 a2 a3 s = some y) : hq_fc w_X12_wall s y.2 := by
  unfold f_X12_wall_L30_B at h
  have t := hq_fc_rf w_X12_wall s
  by_cases c7 : a3 < (20 : Int32)
  · rw [if_pos c7] at h
    obtain ⟨s23, hs23, h⟩ := hq_bind h
    have t := hq_fc_tr t (hq_fc_st hs23 (by decide))
    exact hq_fc_tr t (e30 a1 a2 (a3 + (1 : Int32)) s23 h)
  · rw [if_neg c7] at h
    exact hq_fc_tr t (f_X12_wall_L51_fw h)
theorem f_X12_wall_L30_fw {n m : Nat} {a1 : Int32} {a2 : Int32} {a3 : Int32} {s : hq_S} {y : (Int32 × hq_S)} (h : f_X12_wall_L30 n m a1 a2 a3 s = some y) : hq_fc w_X12_wall s y.2 := by
  induction m generalizing a1 a2 a3 s with
  | zero => cases h
  | succ m ih => exact f_X12_wall_L30_B_fw (n := n) (a1 := a1) (a2 := a2) (a3 := a3) (q30 := f_X12_wall_L30 n m) (fun a1 a2 a3 s h => ih h) h
theorem f_X12_wall_fw {n : Nat} {a1 : Int32} {a2 : Int32} {s : hq_S} {y : (Int32 × hq_S)} (h : f_X12_wall n a1 a2 s = some y) : hq_fc w_X12_wall s y.2 := by
  unfold f_X12_wall at h
  have t := hq_fc_rf w_X12_wall s
  obtain ⟨s1, hs1, h⟩ := hq_bind h
  have t := hq_fc_tr t (hq_fc_pi hs1 (by decide))
  obtain ⟨y2, hy2, h⟩ := hq_bind h
  have t := hq_fc_tr t (hq_fc_mono (by decide) (f_X12_isCorner_fw hy2))
  by_cases c3 : y2.1 = 0
  · rw [if_pos c3] at h
    have h := Option.some.inj h
    subst h
    exact t
  · rw [if_neg c3] at h
    obtain ⟨y4, hy4, h⟩ := hq_bind h
    have t := hq_fc_tr t (hq_fc_mono (by decide) (f_X12_isCorner_fw hy4))
    by_cases c5 : y4.1 = 0
    · rw [if_pos c5] at h
      have h := Option.some.inj h
      subst h
      exact t
    · rw [if_neg c5] at h
      by_cases c6 : a1 = a2
      · rw [if_pos c6] at h
        have h := Option.some.inj h
        subst h
        exact t
      · rw [if_neg c6] at h
        exact hq_fc_tr t (f_X12_wall_L30_fw h)
def w_X12_common : List (Nat × Option Nat) := []
theorem f_X12_common_L6_B_fw {n : Nat} {j0 : Int64} {j2 : Int64} {j4 : Int64} {j6 : Int64} {q6 : Int64 → Int64 → Int64 → Int64 → hq_S → Option (Int64 × hq_S)} {s : hq_S} {y : (Int64 × hq_S)} (e6 : ∀ (j0 : Int64) (j2 : Int64) (j4 : Int64) (j6 : Int64) (o8 : Option Value) (s : hq_S), q6 j0 j2 j4 j6 s = some y → hq_fc w_X12_common s y.2) (h : f_X12_common_L6_B n q6 j0 j2 j4 j6 s = some y) : hq_fc w_X12_common s y.2 := by
  unfold f_X12_common_L6_B at h
  have t := hq_fc_rf w_X12_common s
  by_cases c1 : (lg_cmp j6 (0 : Int64)) = 0
  · rw [if_pos c1] at h
    have h := Option.some.inj h
    subst h
    exact t
  · rw [if_neg c1] at h
    obtain ⟨x2, hx2, h⟩ := hq_bind h
    exact hq_fc_tr t (e6 j0 j2 j6 x2 none s h)
theorem f_X12_common_L6_fw {n m : Nat} {j0 : Int64} {j2 : Int64} {j4 : Int64} {j6 : Int64} {s : hq_S} {y : (Int64 × hq_S)} (h : f_X12_common_L6 n m j0 j2 j4 j6 s = some y) : hq_fc w_X12_common s y.2 := by
  induction m generalizing j0 j2 j4 j6 s with
  | zero => cases h
  | succ m ih => exact f_X12_common_L6_B_fw (n := n) (j0 := j0) (j2 := j2) (j4 := j4) (j6 := j6) (q6 := f_X12_common_L6 n m) (fun j0 j2 j4 j6 _ s h => ih h) h
theorem f_X12_common_fw {n : Nat} {j0 : Int64} {j2 : Int64} {s : hq_S} {y : (Int64 × hq_S)} (h : f_X12_common n j0 j2 s = some y) : hq_fc w_X12_common s y.2 := by
  unfold f_X12_common at h
  have t := hq_fc_rf w_X12_common s
  exact hq_fc_tr t (f_X12_common_L6_fw h)
def w_X12_drunk : List (Nat × Option Nat) := [(174, some 0), (206, none), (207, none), (221, none)]
theorem f_X12_drunk_J41_fw {n : Nat} {a1 : Int32} {a2 : Int32} {a3 : Int32} {a4 : Int32} {s : hq_S} {y : (Int64 × hq_S)} (h : f_X12_drunk_J41 n a1 a2 a3 a4 s = some y) : hq_fc w_X12_drunk s y.2 := by
  unfold f_X12_drunk_J41 at h
  have t := hq_fc_rf w_X12_drunk s
  have h := Option.some.inj h
  subst h
  exact t
theorem f_X12_drunk_L232_B_fw {n : Nat} {a1 : Int32} {a2 : Int32} {a3 : Int32} {a4 : Int32} {j5 : Int64} {a7 : Int32} {a8 : Int32} {q90 : Int32 → Int32 → Int32 → Int32 → Int64 → Int32 → hq_S → Option (Int64 × hq_S)} {q232 : Int32 → Int32 → Int32 → Int32 → Int64 → Int32 → Int32 → hq_S → Option (Int64 × hq_S)} {s : hq_S} {y : (Int64 × hq_S)} (e90 : ∀ (a1 : Int32) (a2 : Int32) (a3 : Int32) (a4 : Int32) (j5 : Int64) (a7 : Int32) (o8 : Option Value) (o9 : Option Value) (o10 : Option Value) (o12 : Option Value) (s : hq_S), q90 a1 a2 a3 a4 j5 a7 s = some y → hq_fc w_X12_drunk s y.2) (e232 : ∀ (a1 : Int32) (a2 : Int32) (a3 : Int32) (a4 : Int32) (j5 : Int64) (a7 : Int32) (a8 : Int32) (o9 : Option Value) (o10 : Option Value) (o12 : Option Value) (s : hq_S), q232 a1 a2 a3 a4 j5 a7 a8 s = some y → hq_fc w_X12_drunk s y.2) (h : f_X12_drunk_L232_B n q90 q232 a1 a2 a3 a4 j5 a7 a8 s = some y) : hq_fc w_X12_drunk s y.2 := by
  unfold f_X12_drunk_L232_B at h
  have t := hq_fc_rf w_X12_drunk s
  by_cases c22 : a8 < (10 : Int32)
  · rw [if_pos c22] at h
    obtain ⟨x23, hx23, h⟩ := hq_bind h
    obtain ⟨s24, hs24, h⟩ := hq_bind h
    have t := hq_fc_tr t (hq_fc_stj hs24 (by decide))
    exact hq_fc_tr t (e232 a1 a2 a3 a4 j5 a7 (a8 + (1 : Int32)) none none none s24 h)
  · rw [if_neg c22] at h
    exact hq_fc_tr t (e90 a1 a2 a3 a4 j5 (a7 + (1 : Int32)) none none none none s h)
theorem f_X12_drunk_L232_fw {n m : Nat} {a1 : Int32} {a2 : Int32} {a3 : Int32} {a4 : Int32} {j5 : Int64} {a7 : Int32} {a8 : Int32} {q90 : Int32 → Int32 → Int32 → Int32 → Int64 → Int32 → hq_S → Option (Int64 × hq_S)} {s : hq_S} {y : (Int64 × hq_S)} (e90 : ∀ (a1 : Int32) (a2 : Int32) (a3 : Int32) (a4 : Int32) (j5 : Int64) (a7 : Int32) (o8 : Option Value) (o9 : Option Value) (o10 : Option Value) (o12 : Option Value) (s : hq_S), q90 a1 a2 a3 a4 j5 a7 s = some y → hq_fc w_X12_drunk s y.2) (h : f_X12_drunk_L232 n q90 m a1 a2 a3 a4 j5 a7 a8 s = some y) : hq_fc w_X12_drunk s y.2 := by
  induction m generalizing a1 a2 a3 a4 j5 a7 a8 s with
  | zero => cases h
  | succ m ih => exact f_X12_drunk_L232_B_fw (n := n) (a1 := a1) (a2 := a2) (a3 := a3) (a4 := a4) (j5 := j5) (a7 := a7) (a8 := a8) (q232 := f_X12_drunk_L232 n q90 m) e90 (fun a1 a2 a3 a4 j5 a7 a8 _ _ _ s h => ih h) h
theorem f_X12_drunk_L176_B_fw {n : Nat} {a1 : Int32} {a2 : Int32} {a3 : Int32} {a4 : Int32} {j5 : Int64} {a7 : Int32} {a8 : Int32} {a9 : Int32} {j10 : Int64} {a12 : Int32} {q90 : Int32 → Int32 → Int32 → Int32 → Int64 → Int32 → hq_S → Option (Int64 × hq_S)} {q134 : Int32 → Int32 → Int32 → Int32 → Int64 → Int32 → Int32 → hq_S → Option (Int64 × hq_S)} {q176 : Int32 → Int32 → Int32 → Int32 → Int64 → Int32 → Int32 → Int32 → Int64 → Int32 → hq_S → Option (Int64 × hq_S)} {s : hq_S} {y : (Int64 × hq_S)} (e90 : ∀ (a1 : Int32) (a2 : Int32) (a3 : Int32) (a4 : Int32) (j5 : Int64) (a7 : Int32) (o8 : Option Value) (o9 : Option Value) (o10 : Option Value) (o12 : Option Value) (s : hq_S), q90 a1 a2 a3 a4 j5 a7 s = some y → hq_fc w_X12_drunk s y.2) (e134 : ∀ (a1 : Int32) (a2 : Int32) (a3 : Int32) (a4 : Int32) (j5 : Int64) (a7 : Int32) (a8 : Int32) (o9 : Option Value) (o10 : Option Value) (o12 : Option Value) (s : hq_S), q134 a1 a2 a3 a4 j5 a7 a8 s = some y → hq_fc w_X12_drunk s y.2) (e176 : ∀ (a1 : Int32) (a2 : Int32) (a3 : Int32) (a4 : Int32) (j5 : Int64) (a7 : Int32) (a8 : Int32) (a9 : Int32) (j10 : Int64) (a12 : Int32) (s : hq_S), q176 a1 a2 a3 a4 j5 a7 a8 a9 j10 a12 s = some y → hq_fc w_X12_drunk s y.2) (h : f_X12_drunk_L176_B n q90 q134 q176 a1 a2 a3 a4 j5 a7 a8 a9 j10 a12 s = some y) : hq_fc w_X12_drunk s y.2 := by
  unfold f_X12_drunk_L176_B at h
  have t := hq_fc_rf w_X12_drunk s
  obtain ⟨x29, hx29, h⟩ := hq_bind h
  by_cases c30 : a12 < x29
  · rw [if_pos c30] at h
    obtain ⟨x31, hx31, h⟩ := hq_bind h
    obtain ⟨z32, hz32, h⟩ := hq_bind h
    obtain ⟨s34, hs34, h⟩ := hq_bind h
    have t := hq_fc_tr t (hq_fc_stj hs34 (by decide))
    exact hq_fc_tr t (e176 a1 a2 a3 a4 j5 a7 a8 a9 j10 (a12 + (1 : Int32)) s34 h)
  · rw [if_neg c30] at h
    exact hq_fc_tr t (e134 a1 a2 a3 a4 j5 a7 (a8 + (1 : Int32)) none none none s h)
theorem f_X12_drunk_L176_fw {n m : Nat} {a1 : Int32} {a2 : Int32} {a3 : Int32} {a4 : Int32} {j5 : Int64} {a7 : Int32} {a8 : Int32} {a9 : Int32} {j10 : Int64} {a12 : Int32} {q90 : Int32 → Int32 → Int32 → Int32 → Int64 → Int32 → hq_S → Option (Int64 × hq_S)} {q134 : Int32 → Int32 → Int32 → Int32 → Int64 → Int32 → Int32 → hq_S → Option (Int64 × hq_S)} {s : hq_S} {y : (Int64 × hq_S)} (e90 : ∀ (a1 : Int32) (a2 : Int32) (a3 : Int32) (a4 : Int32) (j5 : Int64) (a7 : Int32) (o8 : Option Value) (o9 : Option Value) (o10 : Option Value) (o12 : Option Value) (s : hq_S), q90 a1 a2 a3 a4 j5 a7 s = some y → hq_fc w_X12_drunk s y.2) (e134 : ∀ (a1 : Int32) (a2 : Int32) (a3 : Int32) (a4 : Int32) (j5 : Int64) (a7 : Int32) (a8 : Int32) (o9 : Option Value) (o10 : Option Value) (o12 : Option Value) (s : hq_S), q134 a1 a2 a3 a4 j5 a7 a8 s = some y → hq_fc w_X12_drunk s y.2) (h : f_X12_drunk_L176 n q90 q134 m a1 a2 a3 a4 j5 a7 a8 a9 j10 a12 s = some y) : hq_fc w_X12_drunk s y.2 := by
  induction m generalizing a1 a2 a3 a4 j5 a7 a8 a9 j10 a12 s with
  | zero => cases h
  | succ m ih => exact f_X12_drunk_L176_B_fw (n := n) (a1 := a1) (a2 := a2) (a3 := a3) (a4 := a4) (j5 := j5) (a7 := a7) (a8 := a8) (a9 := a9) (j10 := j10) (a12 := a12) (q176 := f_X12_drunk_L176 n q90 q134 m) e90 e134 (fun a1 a2 a3 a4 j5 a7 a8 a9 j10 a12 s h => ih h) h
theorem f_X12_drunk_L134_B_fw {n : Nat} {a1 : Int32} {a2 : Int32} {a3 : Int32} {a4 : Int32} {j5 : Int64} {a7 : Int32} {a8 : Int32} {q90 : Int32 → Int32 → Int32 → Int32 → Int64 → Int32 → hq_S → Option (Int64 × hq_S)} {q134 : Int32 → Int32 → Int32 → Int32 → Int64 → Int32 → Int32 → hq_S → Option (Int64 × hq_S)} {s : hq_S} {y : (Int64 × hq_S)} (e90 : ∀ (a1 : Int32) (a2 : Int32) (a3 : Int32) (a4 : Int32) (j5 : Int64) (a7 : Int32) (o8 : Option Value) (o9 : Option Value) (o10 : Option Value) (o12 : Option Value) (s : hq_S), q90 a1 a2 a3 a4 j5 a7 s = some y → hq_fc w_X12_drunk s y.2) (e134 : ∀ (a1 : Int32) (a2 : Int32) (a3 : Int32) (a4 : Int32) (j5 : Int64) (a7 : Int32) (a8 : Int32) (o9 : Option Value) (o10 : Option Value) (o12 : Option Value) (s : hq_S), q134 a1 a2 a3 a4 j5 a7 a8 s = some y → hq_fc w_X12_drunk s y.2) (h : f_X12_drunk_L134_B n q90 q134 a1 a2 a3 a4 j5 a7 a8 s = some y) : hq_fc w_X12_drunk s y.2 := by
  unfold f_X12_drunk_L134_B at h
  have t := hq_fc_rf w_X12_drunk s
  obtain ⟨x20, hx20, h⟩ := hq_bind h
  by_cases c21 : a8 < x20
  · rw [if_pos c21] at h
    obtain ⟨y25, hy25, h⟩ := hq_bind h
    have t := hq_fc_tr t (hq_fc_mono (by decide) (f_X12_stayOrGo_fw hy25))
    obtain ⟨x26, hx26, h⟩ := hq_bind h
    obtain ⟨y27, hy27, h⟩ := hq_bind h
    have t := hq_fc_tr t (hq_fc_mono (by decide) (f_X12_bitsOf_fw hy27))
    obtain ⟨x28, hx28, h⟩ := hq_bind h
    exact hq_fc_tr t (f_X12_drunk_L176_fw e90 e134 h)
  · rw [if_neg c21] at h
    exact hq_fc_tr t (f_X12_drunk_L232_fw e90 h)
theorem f_X12_drunk_L134_fw {n m : Nat} {a1 : Int32} {a2 : Int32} {a3 : Int32} {a4 : Int32} {j5 : Int64} {a7 : Int32} {a8 : Int32} {q90 : Int32 → Int32 → Int32 → Int32 → Int64 → Int32 → hq_S → Option (Int64 × hq_S)} {s : hq_S} {y : (Int64 × hq_S)} (e90 : ∀ (a1 : Int32) (a2 : Int32) (a3 : Int32) (a4 : Int32) (j5 : Int64) (a7 : Int32) (o8 : Option Value) (o9 : Option Value) (o10 : Option Value) (o12 : Option Value) (s : hq_S), q90 a1 a2 a3 a4 j5 a7 s = some y → hq_fc w_X12_drunk s y.2) (h : f_X12_drunk_L134 n q90 m a1 a2 a3 a4 j5 a7 a8 s = some y) : hq_fc w_X12_drunk s y.2 := by
  induction m generalizing a1 a2 a3 a4 j5 a7 a8 s with
  | zero => cases h
  | succ m ih => exact f_X12_drunk_L134_B_fw (n := n) (a1 := a1) (a2 := a2) (a3 := a3) (a4 := a4) (j5 := j5) (a7 := a7) (a8 := a8) (q134 := f_X12_drunk_L134 n q90 m) e90 (fun a1 a2 a3 a4 j5 a7 a8 _ _ _ s h => ih h) h
theorem f_X12_drunk_L107_B_fw {n : Nat} {a1 : Int32} {a2 : Int32} {a3 : Int32} {a4 : Int32} {j5 : Int64} {a7 : Int32} {a8 : Int32} {q90 : Int32 → Int32 → Int32 → Int32 → Int64 → Int32 → hq_S → Option (Int64 × hq_S)} {q107 : Int32 → Int32 → Int32 → Int32 → Int64 → Int32 → Int32 → hq_S → Option (Int64 × hq_S)} {s : hq_S} {y : (Int64 × hq_S)} (e90 : ∀ (a1 : Int32) (a2 : Int32) (a3 : Int32) (a4 : Int32) (j5 : Int64) (a7 : Int32) (o8 : Option Value) (o9 : Option Value) (o10 : Option Value) (o12 : Option Value) (s : hq_S), q90 a1 a2 a3 a4 j5 a7 s = some y → hq_fc w_X12_drunk s y.2) (e107 : ∀ (a1 : Int32) (a2 : Int32) (a3 : Int32) (a4 : Int32) (j5 : Int64) (a7 : Int32) (a8 : Int32) (o9 : Option Value) (o10 : Option Value) (o12 : Option Value) (s : hq_S), q107 a1 a2 a3 a4 j5 a7 a8 s = some y → hq_fc w_X12_drunk s y.2) (h : f_X12_drunk_L107_B n q90 q107 a1 a2 a3 a4 j5 a7 a8 s = some y) : hq_fc w_X12_drunk s y.2 := by
  unfold f_X12_drunk_L107_B at h
  have t := hq_fc_rf w_X12_drunk s
  by_cases c19 : a8 < (10 : Int32)
  · rw [if_pos c19] at h
    obtain ⟨s35, hs35, h⟩ := hq_bind h
    have t := hq_fc_tr t (hq_fc_stj hs35 (by decide))
    exact hq_fc_tr t (e107 a1 a2 a3 a4 j5 a7 (a8 + (1 : Int32)) none none none s35 h)
  · rw [if_neg c19] at h
    exact hq_fc_tr t (f_X12_drunk_L134_fw e90 h)
theorem f_X12_drunk_L107_fw {n m : Nat} {a1 : Int32} {a2 : Int32} {a3 : Int32} {a4 : Int32} {j5 : Int64} {a7 : Int32} {a8 : Int32} {q90 : Int32 → Int32 → Int32 → Int32 → Int64 → Int32 → hq_S → Option (Int64 × hq_S)} {s : hq_S} {y : (Int64 × hq_S)} (e90 : ∀ (a1 : Int32) (a2 : Int32) (a3 : Int32) (a4 : Int32) (j5 : Int64) (a7 : Int32) (o8 : Option Value) (o9 : Option Value) (o10 : Option Value) (o12 : Option Value) (s : hq_S), q90 a1 a2 a3 a4 j5 a7 s = some y → hq_fc w_X12_drunk s y.2) (h : f_X12_drunk_L107 n q90 m a1 a2 a3 a4 j5 a7 a8 s = some y) : hq_fc w_X12_drunk s y.2 := by
  induction m generalizing a1 a2 a3 a4 j5 a7 a8 s with
  | zero => cases h
  | succ m ih => exact f_X12_drunk_L107_B_fw (n := n) (a1 := a1) (a2 := a2) (a3 := a3) (a4 := a4) (j5 := j5) (a7 := a7) (a8 := a8) (q107 := f_X12_drunk_L107 n q90 m) e90 (fun a1 a2 a3 a4 j5 a7 a8 _ _ _ s h => ih h) h
theorem f_X12_drunk_L90_B_fw {n : Nat} {a1 : Int32} {a2 : Int32} {a3 : Int32} {a4 : Int32} {j5 : Int64} {a7 : Int32} {q90 : Int32 → Int32 → Int32 → Int32 → Int64 → Int32 → hq_S → Option (Int64 × hq_S)} {s : hq_S} {y : (Int64 × hq_S)} (e90 : ∀ (a1 : Int32) (a2 : Int32) (a3 : Int32) (a4 : Int32) (j5 : Int64) (a7 : Int32) (o8 : Option Value) (o9 : Option Value) (o10 : Option Value) (o12 : Option Value) (s : hq_S), q90 a1 a2 a3 a4 j5 a7 s = some y → hq_fc w_X12_drunk s y.2) (h : f_X12_drunk_L90_B n q90 a1 a2 a3 a4 j5 a7 s = some y) : hq_fc w_X12_drunk s y.2 := by
  unfold f_X12_drunk_L90_B at h
  have t := hq_fc_rf w_X12_drunk s
  by_cases c12 : a7 < a3
  · rw [if_pos c12] at h
    exact hq_fc_tr t (f_X12_drunk_L107_fw e90 h)
  · rw [if_neg c12] at h
    obtain ⟨x13, hx13, h⟩ := hq_bind h
    obtain ⟨y14, hy14, h⟩ := hq_bind h
    have t := hq_fc_tr t (hq_fc_mono (by decide) (f_X12_common_fw hy14))
    by_cases c15 : a4 = 0
    · rw [if_pos c15] at h
      obtain ⟨x17, hx17, h⟩ := hq_bind h
      obtain ⟨x18, hx18, h⟩ := hq_bind h
      have h := Option.some.inj h
      subst h
      exact t
    · rw [if_neg c15] at h
      obtain ⟨x16, hx16, h⟩ := hq_bind h
      have h := Option.some.inj h
      subst h
      exact t
theorem f_X12_drunk_L90_fw {n m : Nat} {a1 : Int32} {a2 : Int32} {a3 : Int32} {a4 : Int32} {j5 : Int64} {a7 : Int32} {s : hq_S} {y : (Int64 × hq_S)} (h : f_X12_drunk_L90 n m a1 a2 a3 a4 j5 a7 s = some y) : hq_fc w_X12_drunk s y.2 := by
  induction m generalizing a1 a2 a3 a4 j5 a7 s with
  | zero => cases h
  | succ m ih => exact f_X12_drunk_L90_B_fw (n := n) (a1 := a1) (a2 := a2) (a3 := a3) (a4 := a4) (j5 := j5) (a7 := a7) (q90 := f_X12_drunk_L90 n m) (fun a1 a2 a3 a4 j5 a7 _ _ _ _ s h => ih h) h
theorem f_X12_drunk_L56_B_fw {n : Nat} {a1 : Int32} {a2 : Int32} {a3 : Int32} {a4 : Int32} {j5 : Int64} {a7 : Int32} {q56 : Int32 → Int32 → Int32 → Int32 → Int64 → Int32 → hq_S → Option (Int64 × hq_S)} {s : hq_S} {y : (Int64 × hq_S)} (e56 : ∀ (a1 : Int32) (a2 : Int32) (a3 : Int32) (a4 : Int32) (j5 : Int64) (a7 : Int32) (s : hq_S), q56 a1 a2 a3 a4 j5 a7 s = some y → hq_fc w_X12_drunk s y.2) (h : f_X12_drunk_L56_B n q56 a1 a2 a3 a4 j5 a7 s = some y) : hq_fc w_X12_drunk s y.2 := by
  unfold f_X12_drunk_L56_B at h
  have t := hq_fc_rf w_X12_drunk s
  by_cases c11 : a7 < (10 : Int32)
  · rw [if_pos c11] at h
    obtain ⟨z36, hz36, h⟩ := hq_bind h
    obtain ⟨s38, hs38, h⟩ := hq_bind h
    have t := hq_fc_tr t (hq_fc_stj hs38 (by decide))
    exact hq_fc_tr t (e56 a1 a2 a3 a4 j5 (a7 + (1 : Int32)) s38 h)
  · rw [if_neg c11] at h
    exact hq_fc_tr t (f_X12_drunk_L90_fw h)
theorem f_X12_drunk_L56_fw {n m : Nat} {a1 : Int32} {a2 : Int32} {a3 : Int32} {a4 : Int32} {j5 : Int64} {a7 : Int32} {s : hq_S} {y : (Int64 × hq_S)} (h : f_X12_drunk_L56 n m a1 a2 a3 a4 j5 a7 s = some y) : hq_fc w_X12_drunk s y.2 := by
  induction m generalizing a1 a2 a3 a4 j5 a7 s with
  | zero => cases h
  | succ m ih => exact f_X12_drunk_L56_B_fw (n := n) (a1 := a1) (a2 := a2) (a3 := a3) (a4 := a4) (j5 := j5) (a7 := a7) (q56 := f_X12_drunk_L56 n m) (fun a1 a2 a3 a4 j5 a7 s h => ih h) h
theorem f_X12_drunk_fw {n : Nat} {a1 : Int32} {a2 : Int32} {a3 : Int32} {a4 : Int32} {s : hq_S} {y : (Int64 × hq_S)} (h : f_X12_drunk n a1 a2 a3 a4 s = some y) : hq_fc w_X12_drunk s y.2 := by
  unfold f_X12_drunk at h
  have t := hq_fc_rf w_X12_drunk s
  obtain ⟨s1, hs1, h⟩ := hq_bind h
  have t := hq_fc_tr t (hq_fc_pi hs1 (by decide))
  obtain ⟨y2, hy2, h⟩ := hq_bind h
  have t := hq_fc_tr t (hq_fc_mono (by decide) (f_X12_isCorner_fw hy2))
  by_cases c3 : y2.1 = 0
  · rw [if_pos c3] at h
    exact hq_fc_tr t (f_X12_drunk_J41_fw h)
  · rw [if_neg c3] at h
    obtain ⟨y4, hy4, h⟩ := hq_bind h
    have t := hq_fc_tr t (hq_fc_mono (by decide) (f_X12_isCorner_fw hy4))
    by_cases c5 : y4.1 = 0
    · rw [if_pos c5] at h
      exact hq_fc_tr t (f_X12_drunk_J41_fw h)
    · rw [if_neg c5] at h
      by_cases c6 : a3 < 0
      · rw [if_pos c6] at h
        exact hq_fc_tr t (f_X12_drunk_J41_fw h)
      · rw [if_neg c6] at h
        by_cases c7 : (4 : Int32) < a3
        · rw [if_pos c7] at h
          exact hq_fc_tr t (f_X12_drunk_J41_fw h)
        · rw [if_neg c7] at h
          by_cases c8 : a4 < 0
          · rw [if_pos c8] at h
            exact hq_fc_tr t (f_X12_drunk_J41_fw h)
          · rw [if_neg c8] at h
            by_cases c9 : (1 : Int32) < a4
            · rw [if_pos c9] at h
              exact hq_fc_tr t (f_X12_drunk_J41_fw h)
            · rw [if_neg c9] at h
              obtain ⟨s10, hs10, h⟩ := hq_bind h
              have t := hq_fc_tr t (hq_fc_mono (by decide) (f_X12_lays_fw hs10))
              exact hq_fc_tr t (f_X12_drunk_L56_fw h)
def w_X12_matches : List (Nat × Option Nat) := [(174, some 72), (174, some 73), (222, none), (223, none)]
theorem f_X12_matches_L80_B_fw {n : Nat} {R0 : Int32 → Int32 → Int32 → Int32 → hq_S → Option hq_S} {a1 : Int32} {a2 : Int32} {a3 : Int32} {a4 : Int32} {a5 : Int32} {q80 : Int32 → Int32 → Int32 → Int32 → Int32 → hq_S → Option hq_S} {s : hq_S} {y : hq_S} (E0 : ∀ (a1 : Int32) (a2 : Int32) (a3 : Int32) (a4 : Int32) (s : hq_S) (y : hq_S), R0 a1 a2 a3 a4 s = some y → hq_fc w_X12_matches s y) (e80 : ∀ (a1 : Int32) (a2 : Int32) (a3 : Int32) (a4 : Int32) (a5 : Int32) (s : hq_S), q80 a1 a2 a3 a4 a5 s = some y → hq_fc w_X12_matches s y) (h : f_X12_matches_L80_B n R0 q80 a1 a2 a3 a4 a5 s = some y) : hq_fc w_X12_matches s y := by
  unfold f_X12_matches_L80_B at h
  have t := hq_fc_rf w_X12_matches s
  obtain ⟨x3, hx3, h⟩ := hq_bind h
  by_cases c4 : a5 < x3
  · rw [if_pos c4] at h
    obtain ⟨z7, hz7, h⟩ := hq_bind h
    have t : hq_fc w_X12_matches s z7 := by
      clear h
      have h := hz7
      by_cases c8 : ((a2 >>> (a5 &&& 31)) &&& (1 : Int32)) = (1 : Int32)
      · rw [if_pos c8] at h
        cases h
        exact t
      · rw [if_neg c8] at h
        obtain ⟨y9, hy9, h⟩ := hq_bind h
        have t := hq_fc_tr t (hq_fc_mono (by decide) (f_X12_isFree_fw hy9))
        by_cases c10 : y9.1 = 0
        · rw [if_pos c10] at h
          cases h
          exact t
        · rw [if_neg c10] at h
          obtain ⟨s11, hs11, h⟩ := hq_bind h
          have t := hq_fc_tr t (hq_fc_st hs11 (by decide))
          obtain ⟨x12, hx12, h⟩ := hq_bind h
          obtain ⟨x13, hx13, h⟩ := hq_bind h
          obtain ⟨x14, hx14, h⟩ := hq_bind h
          obtain ⟨s15, hs15, h⟩ := hq_bind h
          have t := hq_fc_tr t (E0 (a1 + (1 : Int32)) (a2 ||| ((1 : Int32) <<< (a5 &&& 31))) (a3 + (1 : Int32)) (a4 + x14) _ _ hs15)
          cases h
          exact t
    exact hq_fc_tr t (e80 a1 a2 a3 a4 (a5 + (1 : Int32)) z7 h)
  · rw [if_neg c4] at h
    obtain ⟨s5, hs5, h⟩ := hq_bind h
    have t := hq_fc_tr t (hq_fc_st hs5 (by decide))
    obtain ⟨s6, hs6, h⟩ := hq_bind h
    have t := hq_fc_tr t (E0 (a1 + (1 : Int32)) a2 a3 a4 _ _ hs6)
    have h := Option.some.inj h
    subst h
    exact t
theorem f_X12_matches_L80_fw {n m : Nat} {R0 : Int32 → Int32 → Int32 → Int32 → hq_S → Option hq_S} {a1 : Int32} {a2 : Int32} {a3 : Int32} {a4 : Int32} {a5 : Int32} {s : hq_S} {y : hq_S} (E0 : ∀ (a1 : Int32) (a2 : Int32) (a3 : Int32) (a4 : Int32) (s : hq_S) (y : hq_S), R0 a1 a2 a3 a4 s = some y → hq_fc w_X12_matches s y) (h : f_X12_matches_L80 n R0 m a1 a2 a3 a4 a5 s = some y) : hq_fc w_X12_matches s y := by
  induction m generalizing a1 a2 a3 a4 a5 s with
  | zero => cases h
  | succ m ih => exact f_X12_matches_L80_B_fw (n := n) (a1 := a1) (a2 := a2) (a3 := a3) (a4 := a4) (a5 := a5) (q80 := f_X12_matches_L80 n R0 m) E0 (fun a1 a2 a3 a4 a5 s h => ih h) h
theorem f_X12_matches_L50_B_fw {n : Nat} {R0 : Int32 → Int32 → Int32 → Int32 → hq_S → Option hq_S} {a1 : Int32} {a2 : Int32} {a3 : Int32} {a4 : Int32} {a5 : Int32} {q50 : Int32 → Int32 → Int32 → Int32 → Int32 → hq_S → Option hq_S} {s : hq_S} {y : hq_S} (E0 : ∀ (a1 : Int32) (a2 : Int32) (a3 : Int32) (a4 : Int32) (s : hq_S) (y : hq_S), R0 a1 a2 a3 a4 s = some y → hq_fc w_X12_matches s y) (e50 : ∀ (a1 : Int32) (a2 : Int32) (a3 : Int32) (a4 : Int32) (a5 : Int32) (s : hq_S), q50 a1 a2 a3 a4 a5 s = some y → hq_fc w_X12_matches s y) (h : f_X12_matches_L50_B n R0 q50 a1 a2 a3 a4 a5 s = some y) : hq_fc w_X12_matches s y := by
  unfold f_X12_matches_L50_B at h
  have t := hq_fc_rf w_X12_matches s
  by_cases c20 : a5 < a1
  · rw [if_pos c20] at h
    obtain ⟨x21, hx21, h⟩ := hq_bind h
    obtain ⟨s22, hs22, h⟩ := hq_bind h
    have t := hq_fc_tr t (hq_fc_st hs22 (by decide))
    exact hq_fc_tr t (e50 a1 a2 a3 a4 (a5 + (1 : Int32)) s22 h)
  · rw [if_neg c20] at h
    have h := Option.some.inj h
    subst h
    exact t
theorem f_X12_matches_L50_fw {n m : Nat} {R0 : Int32 → Int32 → Int32 → Int32 → hq_S → Option hq_S} {a1 : Int32} {a2 : Int32} {a3 : Int32} {a4 : Int32} {a5 : Int32} {s : hq_S} {y : hq_S} (E0 : ∀ (a1 : Int32) (a2 : Int32) (a3 : Int32) (a4 : Int32) (s : hq_S) (y : hq_S), R0 a1 a2 a3 a4 s = some y → hq_fc w_X12_matches s y) (h : f_X12_matches_L50 n R0 m a1 a2 a3 a4 a5 s = some y) : hq_fc w_X12_matches s y := by
  induction m generalizing a1 a2 a3 a4 a5 s with
  | zero => cases h
  | succ m ih => exact f_X12_matches_L50_B_fw (n := n) (a1 := a1) (a2 := a2) (a3 := a3) (a4 := a4) (a5 := a5) (q50 := f_X12_matches_L50 n R0 m) E0 (fun a1 a2 a3 a4 a5 s h => ih h) h
theorem f_X12_matches_J36_fw {n : Nat} {R0 : Int32 → Int32 → Int32 → Int32 → hq_S → Option hq_S} {a1 : Int32} {a2 : Int32} {a3 : Int32} {a4 : Int32} {s : hq_S} {y : hq_S} (E0 : ∀ (a1 : Int32) (a2 : Int32) (a3 : Int32) (a4 : Int32) (s : hq_S) (y : hq_S), R0 a1 a2 a3 a4 s = some y → hq_fc w_X12_matches s y) (h : f_X12_matches_J36 n R0 a1 a2 a3 a4 s = some y) : hq_fc w_X12_matches s y := by
  unfold f_X12_matches_J36 at h
  have t := hq_fc_rf w_X12_matches s
  obtain ⟨s18, hs18, h⟩ := hq_bind h
  have t := hq_fc_tr t (hq_fc_pi hs18 (by decide))
  obtain ⟨s19, hs19, h⟩ := hq_bind h
  have t := hq_fc_tr t (hq_fc_pi hs19 (by decide))
  exact hq_fc_tr t (f_X12_matches_L50_fw E0 h)
theorem f_X12_matches_S_fw {n : Nat} {R0 : Int32 → Int32 → Int32 → Int32 → hq_S → Option hq_S} {a1 : Int32} {a2 : Int32} {a3 : Int32} {a4 : Int32} {s : hq_S} {y : hq_S} (E0 : ∀ (a1 : Int32) (a2 : Int32) (a3 : Int32) (a4 : Int32) (s : hq_S) (y : hq_S), R0 a1 a2 a3 a4 s = some y → hq_fc w_X12_matches s y) (h : f_X12_matches_S n R0 a1 a2 a3 a4 s = some y) : hq_fc w_X12_matches s y := by
  unfold f_X12_matches_S at h
  have t := hq_fc_rf w_X12_matches s
  obtain ⟨x1, hx1, h⟩ := hq_bind h
  by_cases c2 : a1 = x1
  · rw [if_pos c2] at h
    by_cases c16 : a3 < (hq_gi s 174 72)
    · rw [if_pos c16] at h
      have h := Option.some.inj h
      subst h
      exact t
    · rw [if_neg c16] at h
      by_cases c17 : a3 = (hq_gi s 174 72)
      · rw [if_pos c17] at h
        by_cases c23 : a4 < (hq_gi s 174 73)
        · rw [if_pos c23] at h
          exact hq_fc_tr t (f_X12_matches_J36_fw E0 h)
        · rw [if_neg c23] at h
          have h := Option.some.inj h
          subst h
          exact t
      · rw [if_neg c17] at h
        exact hq_fc_tr t (f_X12_matches_J36_fw E0 h)
  · rw [if_neg c2] at h
    exact hq_fc_tr t (f_X12_matches_L80_fw E0 h)
theorem f_X12_matches_G_fw {n : Nat} : ∀ k : Nat, (∀ (a1 : Int32) (a2 : Int32) (a3 : Int32) (a4 : Int32) (s : hq_S) (y : hq_S), f_X12_matches_G n k 0 a1 a2 a3 a4 s = some y → hq_fc w_X12_matches s y) := by
  intro k
  induction k with
  | zero =>
    all_goals
      intros
      next h => cases h
  | succ k ih =>
    have I0 := ih
    · intro a1 a2 a3 a4 s y h
      exact f_X12_matches_S_fw I0 h
theorem f_X12_matches_fw {n : Nat} {a1 : Int32} {a2 : Int32} {a3 : Int32} {a4 : Int32} {s : hq_S} {y : hq_S} (h : f_X12_matches n a1 a2 a3 a4 s = some y) : hq_fc w_X12_matches s y := (f_X12_matches_G_fw 10) a1 a2 a3 a4 s y h
def w_X12_match : List (Nat × Option Nat) := [(174, some 0), (174, some 72), (174, some 73), (206, none), (207, none), (222, none), (223, none)]
theorem f_X12_match_fw {n : Nat} {a1 : Int32} {s : hq_S} {y : (Int32 × hq_S)} (h : f_X12_match n a1 s = some y) : hq_fc w_X12_match s y.2 := by
  unfold f_X12_match at h
  have t := hq_fc_rf w_X12_match s
  obtain ⟨s1, hs1, h⟩ := hq_bind h
  have t := hq_fc_tr t (hq_fc_pi hs1 (by decide))
  by_cases c2 : a1 < 0
  · rw [if_pos c2] at h
    have h := Option.some.inj h
    subst h
    exact t
  · rw [if_neg c2] at h
    by_cases c3 : (4 : Int32) < a1
    · rw [if_pos c3] at h
      have h := Option.some.inj h
      subst h
      exact t
    · rw [if_neg c3] at h
      obtain ⟨s4, hs4, h⟩ := hq_bind h
      have t := hq_fc_tr t (hq_fc_mono (by decide) (f_X12_lays_fw hs4))
      obtain ⟨s5, hs5, h⟩ := hq_bind h
      have t := hq_fc_tr t (hq_fc_pi hs5 (by decide))
      obtain ⟨s6, hs6, h⟩ := hq_bind h
      have t := hq_fc_tr t (hq_fc_pi hs6 (by decide))
      obtain ⟨s7, hs7, h⟩ := hq_bind h
      have t := hq_fc_tr t (hq_fc_mono (by decide) (f_X12_matches_fw hs7))
      by_cases c8 : a1 = (3 : Int32)
      · rw [if_pos c8] at h
        have h := Option.some.inj h
        subst h
        exact t
      · rw [if_neg c8] at h
        by_cases c9 : a1 = (4 : Int32)
        · rw [if_pos c9] at h
          have h := Option.some.inj h
          subst h
          exact t
        · rw [if_neg c9] at h
          obtain ⟨x10, hx10, h⟩ := hq_bind h
          by_cases c11 : a1 < x10
          · rw [if_pos c11] at h
            obtain ⟨x12, hx12, h⟩ := hq_bind h
            have h := Option.some.inj h
            subst h
            exact t
          · rw [if_neg c11] at h
            have h := Option.some.inj h
            subst h
            exact t
def w_X12_hasOf : List (Nat × Option Nat) := []
theorem f_X12_hasOf_fw {n : Nat} {a1 : Int32} {a2 : Int32} {a3 : Int32} {a4 : Int32} {s : hq_S} {y : (Int32 × hq_S)} (h : f_X12_hasOf n a1 a2 a3 a4 s = some y) : hq_fc w_X12_hasOf s y.2 := by
  unfold f_X12_hasOf at h
  have t := hq_fc_rf w_X12_hasOf s
  by_cases c1 : a3 = 0
  · rw [if_pos c1] at h
    by_cases c6 : a4 = 0
    · rw [if_pos c6] at h
      obtain ⟨x7, hx7, h⟩ := hq_bind h
      obtain ⟨x8, hx8, h⟩ := hq_bind h
      have h := Option.some.inj h
      subst h
      exact t
    · rw [if_neg c6] at h
      have h := Option.some.inj h
      subst h
      exact t
  · rw [if_neg c1] at h
    by_cases c2 : a4 = 0
    · rw [if_pos c2] at h
      have h := Option.some.inj h
      subst h
      exact t
    · rw [if_neg c2] at h
      obtain ⟨x3, hx3, h⟩ := hq_bind h
      obtain ⟨x4, hx4, h⟩ := hq_bind h
      obtain ⟨x5, hx5, h⟩ := hq_bind h
      have h := Option.some.inj h
      subst h
      exact t
def w_X12_isRest : List (Nat × Option Nat) := []
theorem f_X12_isRest_fw {n : Nat} {a1 : Int32} {a2 : Int32} {a3 : Int32} {s : hq_S} {y : (Int32 × hq_S)} (h : f_X12_isRest n a1 a2 a3 s = some y) : hq_fc w_X12_isRest s y.2 := by
  unfold f_X12_isRest at h
  have t := hq_fc_rf w_X12_isRest s
  obtain ⟨x1, hx1, h⟩ := hq_bind h
  obtain ⟨x2, hx2, h⟩ := hq_bind h
  obtain ⟨y3, hy3, h⟩ := hq_bind h
  have t := hq_fc_tr t (hq_fc_mono (by decide) (f_X12_hasOf_fw hy3))
  obtain ⟨y4, hy4, h⟩ := hq_bind h
  have t := hq_fc_tr t (hq_fc_mono (by decide) (f_X12_hasOf_fw hy4))
  by_cases c5 : y4.1 < y3.1
  · rw [if_pos c5] at h
    have h := Option.some.inj h
    subst h
    exact t
  · rw [if_neg c5] at h
    obtain ⟨y6, hy6, h⟩ := hq_bind h
    have t := hq_fc_tr t (hq_fc_mono (by decide) (f_X12_hasOf_fw hy6))
    obtain ⟨y7, hy7, h⟩ := hq_bind h
    have t := hq_fc_tr t (hq_fc_mono (by decide) (f_X12_hasOf_fw hy7))
    by_cases c8 : y7.1 < y6.1
    · rw [if_pos c8] at h
      have h := Option.some.inj h
      subst h
      exact t
    · rw [if_neg c8] at h
      have h := Option.some.inj h
      subst h
      exact t
def w_X12_restOf : List (Nat × Option Nat) := []
theorem f_X12_restOf_J48_fw {n : Nat} {a1 : Int32} {a2 : Int32} {a3 : Int32} {a4 : Int32} {a5 : Int32} {q6 : Int32 → Int32 → Int32 → Int32 → Int32 → hq_S → Option (Int32 × hq_S)} {s : hq_S} {y : (Int32 × hq_S)} (e6 : ∀ (a1 : Int32) (a2 : Int32) (a3 : Int32) (a4 : Int32) (a5 : Int32) (s : hq_S), q6 a1 a2 a3 a4 a5 s = some y → hq_fc w_X12_restOf s y.2) (h : f_X12_restOf_J48 n q6 a1 a2 a3 a4 a5 s = some y) : hq_fc w_X12_restOf s y.2 := by
  unfold f_X12_restOf_J48 at h
  have t := hq_fc_rf w_X12_restOf s
  exact hq_fc_tr t (e6 a1 a2 a3 a4 (a5 + (1 : Int32)) s h)
theorem f_X12_restOf_L6_B_fw {n : Nat} {a1 : Int32} {a2 : Int32} {a3 : Int32} {a4 : Int32} {a5 : Int32} {q6 : Int32 → Int32 → Int32 → Int32 → Int32 → hq_S → Option (Int32 × hq_S)} {s : hq_S} {y : (Int32 × hq_S)} (e6 : ∀ (a1 : Int32) (a2 : Int32) (a3 : Int32) (a4 : Int32) (a5 : Int32) (s : hq_S), q6 a1 a2 a3 a4 a5 s = some y → hq_fc w_X12_restOf s y.2) (h : f_X12_restOf_L6_B n q6 a1 a2 a3 a4 a5 s = some y) : hq_fc w_X12_restOf s y.2 := by
  unfold f_X12_restOf_L6_B at h
  have t := hq_fc_rf w_X12_restOf s
  by_cases c1 : a5 < (4 : Int32)
  · rw [if_pos c1] at h
    obtain ⟨y3, hy3, h⟩ := hq_bind h
    have t := hq_fc_tr t (hq_fc_mono (by decide) (f_X12_isRest_fw hy3))
    by_cases c4 : y3.1 = 0
    · rw [if_pos c4] at h
      exact hq_fc_tr t (f_X12_restOf_J48_fw e6 h)
    · rw [if_neg c4] at h
      by_cases c5 : a4 = a3
      · rw [if_pos c5] at h
        obtain ⟨x6, hx6, h⟩ := hq_bind h
        obtain ⟨x7, hx7, h⟩ := hq_bind h
        have h := Option.some.inj h
        subst h
        exact t
      · rw [if_neg c5] at h
        exact hq_fc_tr t (f_X12_restOf_J48_fw e6 h)
  · rw [if_neg c1] at h
    by_cases c2 : a3 = (-1 : Int32)
    · rw [if_pos c2] at h
      have h := Option.some.inj h
      subst h
      exact t
    · rw [if_neg c2] at h
      have h := Option.some.inj h
      subst h
      exact t
theorem f_X12_restOf_L6_fw {n m : Nat} {a1 : Int32} {a2 : Int32} {a3 : Int32} {a4 : Int32} {a5 : Int32} {s : hq_S} {y : (Int32 × hq_S)} (h : f_X12_restOf_L6 n m a1 a2 a3 a4 a5 s = some y) : hq_fc w_X12_restOf s y.2 := by
  induction m generalizing a1 a2 a3 a4 a5 s with
  | zero => cases h
  | succ m ih => exact f_X12_restOf_L6_B_fw (n := n) (a1 := a1) (a2 := a2) (a3 := a3) (a4 := a4) (a5 := a5) (q6 := f_X12_restOf_L6 n m) (fun a1 a2 a3 a4 a5 s h => ih h) h
theorem f_X12_restOf_fw {n : Nat} {a1 : Int32} {a2 : Int32} {a3 : Int32} {s : hq_S} {y : (Int32 × hq_S)} (h : f_X12_restOf n a1 a2 a3 s = some y) : hq_fc w_X12_restOf s y.2 := by
  unfold f_X12_restOf at h
  have t := hq_fc_rf w_X12_restOf s
  exact hq_fc_tr t (f_X12_restOf_L6_fw h)
def w_X12_areTwo : List (Nat × Option Nat) := []
theorem f_X12_areTwo_fw {n : Nat} {a1 : Int32} {a2 : Int32} {s : hq_S} {y : (Int32 × hq_S)} (h : f_X12_areTwo n a1 a2 s = some y) : hq_fc w_X12_areTwo s y.2 := by
  unfold f_X12_areTwo at h
  have t := hq_fc_rf w_X12_areTwo s
  obtain ⟨y1, hy1, h⟩ := hq_bind h
  have t := hq_fc_tr t (hq_fc_mono (by decide) (f_X12_isThief_fw hy1))
  by_cases c2 : y1.1 = 0
  · rw [if_pos c2] at h
    have h := Option.some.inj h
    subst h
    exact t
  · rw [if_neg c2] at h
    obtain ⟨y3, hy3, h⟩ := hq_bind h
    have t := hq_fc_tr t (hq_fc_mono (by decide) (f_X12_isThief_fw hy3))
    by_cases c4 : y3.1 = 0
    · rw [if_pos c4] at h
      have h := Option.some.inj h
      subst h
      exact t
    · rw [if_neg c4] at h
      by_cases c5 : a1 = a2
      · rw [if_pos c5] at h
        have h := Option.some.inj h
        subst h
        exact t
      · rw [if_neg c5] at h
        have h := Option.some.inj h
        subst h
        exact t
def w_X12_rests : List (Nat × Option Nat) := [(174, some 0)]
theorem f_X12_rests_fw {n : Nat} {a1 : Int32} {a2 : Int32} {s : hq_S} {y : (Int32 × hq_S)} (h : f_X12_rests n a1 a2 s = some y) : hq_fc w_X12_rests s y.2 := by
  unfold f_X12_rests at h
  have t := hq_fc_rf w_X12_rests s
  obtain ⟨s1, hs1, h⟩ := hq_bind h
  have t := hq_fc_tr t (hq_fc_pi hs1 (by decide))
  obtain ⟨y2, hy2, h⟩ := hq_bind h
  have t := hq_fc_tr t (hq_fc_mono (by decide) (f_X12_areTwo_fw hy2))
  by_cases c3 : y2.1 = 0
  · rw [if_pos c3] at h
    have h := Option.some.inj h
    subst h
    exact t
  · rw [if_neg c3] at h
    obtain ⟨y4, hy4, h⟩ := hq_bind h
    have t := hq_fc_tr t (hq_fc_mono (by decide) (f_X12_restOf_fw hy4))
    have h := Option.some.inj h
    subst h
    exact t
def w_X12_rest : List (Nat × Option Nat) := [(174, some 0)]
theorem f_X12_rest_fw {n : Nat} {a1 : Int32} {a2 : Int32} {a3 : Int32} {s : hq_S} {y : (Int32 × hq_S)} (h : f_X12_rest n a1 a2 a3 s = some y) : hq_fc w_X12_rest s y.2 := by
  unfold f_X12_rest at h
  have t := hq_fc_rf w_X12_rest s
  obtain ⟨s1, hs1, h⟩ := hq_bind h
  have t := hq_fc_tr t (hq_fc_pi hs1 (by decide))
  obtain ⟨y2, hy2, h⟩ := hq_bind h
  have t := hq_fc_tr t (hq_fc_mono (by decide) (f_X12_areTwo_fw hy2))
  by_cases c3 : y2.1 = 0
  · rw [if_pos c3] at h
    have h := Option.some.inj h
    subst h
    exact t
  · rw [if_neg c3] at h
    by_cases c4 : a3 < 0
    · rw [if_pos c4] at h
      have h := Option.some.inj h
      subst h
      exact t
    · rw [if_neg c4] at h
      obtain ⟨y5, hy5, h⟩ := hq_bind h
      have t := hq_fc_tr t (hq_fc_mono (by decide) (f_X12_restOf_fw hy5))
      have h := Option.some.inj h
      subst h
      exact t
def w_X12_holds : List (Nat × Option Nat) := [(174, some 0)]
theorem f_X12_holds_J24_fw {n : Nat} {a1 : Int32} {a2 : Int32} {s : hq_S} {y : (Int64 × hq_S)} (h : f_X12_holds_J24 n a1 a2 s = some y) : hq_fc w_X12_holds s y.2 := by
  unfold f_X12_holds_J24 at h
  have t := hq_fc_rf w_X12_holds s
  have h := Option.some.inj h
  subst h
  exact t
theorem f_X12_holds_L36_B_fw {n : Nat} {a1 : Int32} {a2 : Int32} {j3 : Int64} {j5 : Int64} {a7 : Int32} {q36 : Int32 → Int32 → Int64 → Int64 → Int32 → hq_S → Option (Int64 × hq_S)} {s : hq_S} {y : (Int64 × hq_S)} (e36 : ∀ (a1 : Int32) (a2 : Int32) (j3 : Int64) (j5 : Int64) (a7 : Int32) (s : hq_S), q36 a1 a2 j3 j5 a7 s = some y → hq_fc w_X12_holds s y.2) (h : f_X12_holds_L36_B n q36 a1 a2 j3 j5 a7 s = some y) : hq_fc w_X12_holds s y.2 := by
  unfold f_X12_holds_L36_B at h
  have t := hq_fc_rf w_X12_holds s
  by_cases c6 : a7 < a1
  · rw [if_pos c6] at h
    obtain ⟨x11, hx11, h⟩ := hq_bind h
    exact hq_fc_tr t (e36 a1 a2 (j3 * x11.toInt64) (j5 * (100 : Int64)) (a7 + (1 : Int32)) s h)
  · rw [if_neg c6] at h
    obtain ⟨y7, hy7, h⟩ := hq_bind h
    have t := hq_fc_tr t (hq_fc_mono (by decide) (f_X12_common_fw hy7))
    by_cases c8 : a2 = 0
    · rw [if_pos c8] at h
      obtain ⟨x10, hx10, h⟩ := hq_bind h
      have h := Option.some.inj h
      subst h
      exact t
    · rw [if_neg c8] at h
      obtain ⟨x9, hx9, h⟩ := hq_bind h
      have h := Option.some.inj h
      subst h
      exact t
theorem f_X12_holds_L36_fw {n m : Nat} {a1 : Int32} {a2 : Int32} {j3 : Int64} {j5 : Int64} {a7 : Int32} {s : hq_S} {y : (Int64 × hq_S)} (h : f_X12_holds_L36 n m a1 a2 j3 j5 a7 s = some y) : hq_fc w_X12_holds s y.2 := by
  induction m generalizing a1 a2 j3 j5 a7 s with
  | zero => cases h
  | succ m ih => exact f_X12_holds_L36_B_fw (n := n) (a1 := a1) (a2 := a2) (j3 := j3) (j5 := j5) (a7 := a7) (q36 := f_X12_holds_L36 n m) (fun a1 a2 j3 j5 a7 s h => ih h) h
theorem f_X12_holds_fw {n : Nat} {a1 : Int32} {a2 : Int32} {s : hq_S} {y : (Int64 × hq_S)} (h : f_X12_holds n a1 a2 s = some y) : hq_fc w_X12_holds s y.2 := by
  unfold f_X12_holds at h
  have t := hq_fc_rf w_X12_holds s
  obtain ⟨s1, hs1, h⟩ := hq_bind h
  have t := hq_fc_tr t (hq_fc_pi hs1 (by decide))
  by_cases c2 : a1 < 0
  · rw [if_pos c2] at h
    exact hq_fc_tr t (f_X12_holds_J24_fw h)
  · rw [if_neg c2] at h
    by_cases c3 : (6 : Int32) < a1
    · rw [if_pos c3] at h
      exact hq_fc_tr t (f_X12_holds_J24_fw h)
    · rw [if_neg c3] at h
      by_cases c4 : a2 < 0
      · rw [if_pos c4] at h
        exact hq_fc_tr t (f_X12_holds_J24_fw h)
      · rw [if_neg c4] at h
        by_cases c5 : (1 : Int32) < a2
        · rw [if_pos c5] at h
          exact hq_fc_tr t (f_X12_holds_J24_fw h)
        · rw [if_neg c5] at h
          exact hq_fc_tr t (f_X12_holds_L36_fw h)
def w_X12_see : List (Nat × Option Nat) := [(174, some 0), (174, some 74), (224, none), (225, none), (226, none), (227, none), (228, none)]
theorem f_X12_see_fw {n : Nat} {a1 : Int32} {a2 : Int32} {a3 : Int32} {a4 : Int32} {s : hq_S} {y : (Int32 × hq_S)} (h : f_X12_see n a1 a2 a3 a4 s = some y) : hq_fc w_X12_see s y.2 := by
  unfold f_X12_see at h
  have t := hq_fc_rf w_X12_see s
  obtain ⟨s1, hs1, h⟩ := hq_bind h
  have t := hq_fc_tr t (hq_fc_pi hs1 (by decide))
  by_cases c2 : a1 < (1 : Int32)
  · rw [if_pos c2] at h
    have h := Option.some.inj h
    subst h
    exact t
  · rw [if_neg c2] at h
    by_cases c3 : (60 : Int32) < a1
    · rw [if_pos c3] at h
      have h := Option.some.inj h
      subst h
      exact t
    · rw [if_neg c3] at h
      obtain ⟨y4, hy4, h⟩ := hq_bind h
      have t := hq_fc_tr t (hq_fc_mono (by decide) (f_X12_isThief_fw hy4))
      by_cases c5 : y4.1 = 0
      · rw [if_pos c5] at h
        have h := Option.some.inj h
        subst h
        exact t
      · rw [if_neg c5] at h
        obtain ⟨y6, hy6, h⟩ := hq_bind h
        have t := hq_fc_tr t (hq_fc_mono (by decide) (f_X12_isCorner_fw hy6))
        by_cases c7 : y6.1 = 0
        · rw [if_pos c7] at h
          have h := Option.some.inj h
          subst h
          exact t
        · rw [if_neg c7] at h
          by_cases c8 : (hq_gi y6.2 174 74) = (24 : Int32)
          · rw [if_pos c8] at h
            have h := Option.some.inj h
            subst h
            exact t
          · rw [if_neg c8] at h
            obtain ⟨s9, hs9, h⟩ := hq_bind h
            have t := hq_fc_tr t (hq_fc_st hs9 (by decide))
            obtain ⟨s10, hs10, h⟩ := hq_bind h
            have t := hq_fc_tr t (hq_fc_st hs10 (by decide))
            obtain ⟨s11, hs11, h⟩ := hq_bind h
            have t := hq_fc_tr t (hq_fc_st hs11 (by decide))
            obtain ⟨s12, hs12, h⟩ := hq_bind h
            have t := hq_fc_tr t (hq_fc_st hs12 (by decide))
            obtain ⟨s13, hs13, h⟩ := hq_bind h
            have t := hq_fc_tr t (hq_fc_st hs13 (by decide))
            obtain ⟨s14, hs14, h⟩ := hq_bind h
            have t := hq_fc_tr t (hq_fc_pi hs14 (by decide))
            have h := Option.some.inj h
            subst h
            exact t
def w_X12_strike : List (Nat × Option Nat) := [(174, some 0), (174, some 74), (228, none)]
theorem f_X12_strike_fw {n : Nat} {a1 : Int32} {s : hq_S} {y : (Int32 × hq_S)} (h : f_X12_strike n a1 s = some y) : hq_fc w_X12_strike s y.2 := by
  unfold f_X12_strike at h
  have t := hq_fc_rf w_X12_strike s
  obtain ⟨s1, hs1, h⟩ := hq_bind h
  have t := hq_fc_tr t (hq_fc_pi hs1 (by decide))
  by_cases c2 : a1 < 0
  · rw [if_pos c2] at h
    have h := Option.some.inj h
    subst h
    exact t
  · rw [if_neg c2] at h
    by_cases c3 : a1 < (hq_gi s1 174 74)
    · rw [if_pos c3] at h
      by_cases c4 : (hq_gi s1 174 74) = (24 : Int32)
      · rw [if_pos c4] at h
        have h := Option.some.inj h
        subst h
        exact t
      · rw [if_neg c4] at h
        obtain ⟨s5, hs5, h⟩ := hq_bind h
        have t := hq_fc_tr t (hq_fc_st hs5 (by decide))
        obtain ⟨s6, hs6, h⟩ := hq_bind h
        have t := hq_fc_tr t (hq_fc_pi hs6 (by decide))
        have h := Option.some.inj h
        subst h
        exact t
    · rw [if_neg c3] at h
      have h := Option.some.inj h
      subst h
      exact t
def w_X12_known : List (Nat × Option Nat) := [(174, some 0), (174, some 75)]
theorem f_X12_known_fw {n : Nat} {a1 : Int32} {s : hq_S} {y : (Int32 × hq_S)} (h : f_X12_known n a1 s = some y) : hq_fc w_X12_known s y.2 := by
  unfold f_X12_known at h
  have t := hq_fc_rf w_X12_known s
  obtain ⟨s1, hs1, h⟩ := hq_bind h
  have t := hq_fc_tr t (hq_fc_pi hs1 (by decide))
  by_cases c2 : a1 < (-1 : Int32)
  · rw [if_pos c2] at h
    have h := Option.some.inj h
    subst h
    exact t
  · rw [if_neg c2] at h
    by_cases c3 : (hq_gi s1 174 74) < a1
    · rw [if_pos c3] at h
      have h := Option.some.inj h
      subst h
      exact t
    · rw [if_neg c3] at h
      obtain ⟨s4, hs4, h⟩ := hq_bind h
      have t := hq_fc_tr t (hq_fc_pi hs4 (by decide))
      have h := Option.some.inj h
      subst h
      exact t
def w_X12_knownMany : List (Nat × Option Nat) := []
theorem f_X12_knownMany_fw {n : Nat} {s : hq_S} {y : (Int32 × hq_S)} (h : f_X12_knownMany n s = some y) : hq_fc w_X12_knownMany s y.2 := by
  unfold f_X12_knownMany at h
  have t := hq_fc_rf w_X12_knownMany s
  by_cases c1 : (hq_gi s 174 75) = (-1 : Int32)
  · rw [if_pos c1] at h
    have h := Option.some.inj h
    subst h
    exact t
  · rw [if_neg c1] at h
    have h := Option.some.inj h
    subst h
    exact t
def w_X12_isSo : List (Nat × Option Nat) := []
theorem f_X12_isSo_J80_fw {n : Nat} {a1 : Int32} {a2 : Int32} {q2 : Int32 → Int32 → hq_S → Option (Int32 × hq_S)} {s : hq_S} {y : (Int32 × hq_S)} (e2 : ∀ (a1 : Int32) (a2 : Int32) (s : hq_S), q2 a1 a2 s = some y → hq_fc w_X12_isSo s y.2) (h : f_X12_isSo_J80 n q2 a1 a2 s = some y) : hq_fc w_X12_isSo s y.2 := by
  unfold f_X12_isSo_J80 at h
  have t := hq_fc_rf w_X12_isSo s
  exact hq_fc_tr t (e2 a1 (a2 + (1 : Int32)) s h)
theorem f_X12_isSo_L2_B_fw {n : Nat} {a1 : Int32} {a2 : Int32} {q2 : Int32 → Int32 → hq_S → Option (Int32 × hq_S)} {s : hq_S} {y : (Int32 × hq_S)} (e2 : ∀ (a1 : Int32) (a2 : Int32) (s : hq_S), q2 a1 a2 s = some y → hq_fc w_X12_isSo s y.2) (h : f_X12_isSo_L2_B n q2 a1 a2 s = some y) : hq_fc w_X12_isSo s y.2 := by
  unfold f_X12_isSo_L2_B at h
  have t := hq_fc_rf w_X12_isSo s
  obtain ⟨y1, hy1, h⟩ := hq_bind h
  have t := hq_fc_tr t (hq_fc_mono (by decide) (f_X12_knownMany_fw hy1))
  by_cases c2 : a2 < y1.1
  · rw [if_pos c2] at h
    obtain ⟨x3, hx3, h⟩ := hq_bind h
    by_cases c4 : x3 = 0
    · rw [if_pos c4] at h
      obtain ⟨x5, hx5, h⟩ := hq_bind h
      by_cases c6 : x5 = (-1 : Int32)
      · rw [if_pos c6] at h
        obtain ⟨x7, hx7, h⟩ := hq_bind h
        by_cases c8 : x7 = a1
        · rw [if_pos c8] at h
          obtain ⟨x9, hx9, h⟩ := hq_bind h
          obtain ⟨x10, hx10, h⟩ := hq_bind h
          obtain ⟨x11, hx11, h⟩ := hq_bind h
          obtain ⟨z12, hz12, h⟩ := hq_bind h
          obtain ⟨x14, hx14, h⟩ := hq_bind h
          by_cases c15 : z12 = x14
          · rw [if_pos c15] at h
            exact hq_fc_tr t (f_X12_isSo_J80_fw e2 h)
          · rw [if_neg c15] at h
            have h := Option.some.inj h
            subst h
            exact t
        · rw [if_neg c8] at h
          exact hq_fc_tr t (f_X12_isSo_J80_fw e2 h)
      · rw [if_neg c6] at h
        exact hq_fc_tr t (f_X12_isSo_J80_fw e2 h)
    · rw [if_neg c4] at h
      exact hq_fc_tr t (f_X12_isSo_J80_fw e2 h)
  · rw [if_neg c2] at h
    have h := Option.some.inj h
    subst h
    exact t
theorem f_X12_isSo_L2_fw {n m : Nat} {a1 : Int32} {a2 : Int32} {s : hq_S} {y : (Int32 × hq_S)} (h : f_X12_isSo_L2 n m a1 a2 s = some y) : hq_fc w_X12_isSo s y.2 := by
  induction m generalizing a1 a2 s with
  | zero => cases h
  | succ m ih => exact f_X12_isSo_L2_B_fw (n := n) (a1 := a1) (a2 := a2) (q2 := f_X12_isSo_L2 n m) (fun a1 a2 s h => ih h) h
theorem f_X12_isSo_fw {n : Nat} {a1 : Int32} {s : hq_S} {y : (Int32 × hq_S)} (h : f_X12_isSo n a1 s = some y) : hq_fc w_X12_isSo s y.2 := by
  unfold f_X12_isSo at h
  have t := hq_fc_rf w_X12_isSo s
  exact hq_fc_tr t (f_X12_isSo_L2_fw h)
def w_X12_fitsBold : List (Nat × Option Nat) := [(174, some 36), (194, none), (195, none), (196, none), (197, none), (198, none), (199, none), (200, none), (201, none), (202, none), (203, none), (204, none), (205, none), (206, none), (207, none)]
theorem f_X12_fitsBold_L7_B_fw {n : Nat} {a1 : Int32} {a2 : Int32} {q7 : Int32 → Int32 → hq_S → Option (Int32 × hq_S)} {s : hq_S} {y : (Int32 × hq_S)} (e7 : ∀ (a1 : Int32) (a2 : Int32) (s : hq_S), q7 a1 a2 s = some y → hq_fc w_X12_fitsBold s y.2) (h : f_X12_fitsBold_L7_B n q7 a1 a2 s = some y) : hq_fc w_X12_fitsBold s y.2 := by
  unfold f_X12_fitsBold_L7_B at h
  have t := hq_fc_rf w_X12_fitsBold s
  by_cases c2 : a1 < a2
  · rw [if_pos c2] at h
    have h := Option.some.inj h
    subst h
    exact t
  · rw [if_neg c2] at h
    obtain ⟨s3, hs3, h⟩ := hq_bind h
    have t := hq_fc_tr t (hq_fc_mono (by decide) (f_X12_passes_fw hs3))
    obtain ⟨y4, hy4, h⟩ := hq_bind h
    have t := hq_fc_tr t (hq_fc_mono (by decide) (f_X12_isSo_fw hy4))
    by_cases c5 : y4.1 = 0
    · rw [if_pos c5] at h
      have h := Option.some.inj h
      subst h
      exact t
    · rw [if_neg c5] at h
      exact hq_fc_tr t (e7 a1 (a2 + (1 : Int32)) y4.2 h)
theorem f_X12_fitsBold_L7_fw {n m : Nat} {a1 : Int32} {a2 : Int32} {s : hq_S} {y : (Int32 × hq_S)} (h : f_X12_fitsBold_L7 n m a1 a2 s = some y) : hq_fc w_X12_fitsBold s y.2 := by
  induction m generalizing a1 a2 s with
  | zero => cases h
  | succ m ih => exact f_X12_fitsBold_L7_B_fw (n := n) (a1 := a1) (a2 := a2) (q7 := f_X12_fitsBold_L7 n m) (fun a1 a2 s h => ih h) h
theorem f_X12_fitsBold_fw {n : Nat} {a1 : Int32} {s : hq_S} {y : (Int32 × hq_S)} (h : f_X12_fitsBold n a1 s = some y) : hq_fc w_X12_fitsBold s y.2 := by
  unfold f_X12_fitsBold at h
  have t := hq_fc_rf w_X12_fitsBold s
  obtain ⟨s1, hs1, h⟩ := hq_bind h
  have t := hq_fc_tr t (hq_fc_mono (by decide) (f_X12_starts_fw hs1))
  exact hq_fc_tr t (f_X12_fitsBold_L7_fw h)
def w_X12_boldsOf : List (Nat × Option Nat) := [(174, some 36), (174, some 53), (174, some 54), (194, none), (195, none), (196, none), (197, none), (198, none), (199, none), (200, none), (201, none), (202, none), (203, none), (204, none), (205, none), (206, none), (207, none), (229, none)]
theorem f_X12_boldsOf_L129_B_fw {n : Nat} {a1 : Int32} {a2 : Int32} {a3 : Int32} {a4 : Int32} {q129 : Int32 → Int32 → Int32 → Int32 → hq_S → Option (Int32 × hq_S)} {s : hq_S} {y : (Int32 × hq_S)} (e129 : ∀ (a1 : Int32) (a2 : Int32) (a3 : Int32) (a4 : Int32) (s : hq_S), q129 a1 a2 a3 a4 s = some y → hq_fc w_X12_boldsOf s y.2) (h : f_X12_boldsOf_L129_B n q129 a1 a2 a3 a4 s = some y) : hq_fc w_X12_boldsOf s y.2 := by
  unfold f_X12_boldsOf_L129_B at h
  have t := hq_fc_rf w_X12_boldsOf s
  by_cases c8 : a4 < (10 : Int32)
  · rw [if_pos c8] at h
    obtain ⟨s10, hs10, h⟩ := hq_bind h
    have t := hq_fc_tr t (hq_fc_pi hs10 (by decide))
    obtain ⟨y11, hy11, h⟩ := hq_bind h
    have t := hq_fc_tr t (hq_fc_mono (by decide) (f_X12_fitsBold_fw hy11))
    obtain ⟨z12, hz12, h⟩ := hq_bind h
    exact hq_fc_tr t (e129 a1 a2 (a3 ||| z12) (a4 + (1 : Int32)) y11.2 h)
  · rw [if_neg c8] at h
    obtain ⟨s9, hs9, h⟩ := hq_bind h
    have t := hq_fc_tr t (hq_fc_pi hs9 (by decide))
    have h := Option.some.inj h
    subst h
    exact t
theorem f_X12_boldsOf_L129_fw {n m : Nat} {a1 : Int32} {a2 : Int32} {a3 : Int32} {a4 : Int32} {s : hq_S} {y : (Int32 × hq_S)} (h : f_X12_boldsOf_L129 n m a1 a2 a3 a4 s = some y) : hq_fc w_X12_boldsOf s y.2 := by
  induction m generalizing a1 a2 a3 a4 s with
  | zero => cases h
  | succ m ih => exact f_X12_boldsOf_L129_B_fw (n := n) (a1 := a1) (a2 := a2) (a3 := a3) (a4 := a4) (q129 := f_X12_boldsOf_L129 n m) (fun a1 a2 a3 a4 s h => ih h) h
theorem f_X12_boldsOf_L75_B_fw {n : Nat} {a1 : Int32} {a2 : Int32} {a3 : Int32} {q75 : Int32 → Int32 → Int32 → hq_S → Option (Int32 × hq_S)} {s : hq_S} {y : (Int32 × hq_S)} (e75 : ∀ (a1 : Int32) (a2 : Int32) (a3 : Int32) (s : hq_S), q75 a1 a2 a3 s = some y → hq_fc w_X12_boldsOf s y.2) (h : f_X12_boldsOf_L75_B n q75 a1 a2 a3 s = some y) : hq_fc w_X12_boldsOf s y.2 := by
  unfold f_X12_boldsOf_L75_B at h
  have t := hq_fc_rf w_X12_boldsOf s
  obtain ⟨y5, hy5, h⟩ := hq_bind h
  have t := hq_fc_tr t (hq_fc_mono (by decide) (f_X12_knownMany_fw hy5))
  by_cases c6 : a3 < y5.1
  · rw [if_pos c6] at h
    obtain ⟨x14, hx14, h⟩ := hq_bind h
    obtain ⟨z15, hz15, h⟩ := hq_bind h
    exact hq_fc_tr t (e75 a1 z15 (a3 + (1 : Int32)) y5.2 h)
  · rw [if_neg c6] at h
    obtain ⟨s7, hs7, h⟩ := hq_bind h
    have t := hq_fc_tr t (hq_fc_pi hs7 (by decide))
    exact hq_fc_tr t (f_X12_boldsOf_L129_fw h)
theorem f_X12_boldsOf_L75_fw {n m : Nat} {a1 : Int32} {a2 : Int32} {a3 : Int32} {s : hq_S} {y : (Int32 × hq_S)} (h : f_X12_boldsOf_L75 n m a1 a2 a3 s = some y) : hq_fc w_X12_boldsOf s y.2 := by
  induction m generalizing a1 a2 a3 s with
  | zero => cases h
  | succ m ih => exact f_X12_boldsOf_L75_B_fw (n := n) (a1 := a1) (a2 := a2) (a3 := a3) (q75 := f_X12_boldsOf_L75 n m) (fun a1 a2 a3 s h => ih h) h
theorem f_X12_boldsOf_L32_B_fw {n : Nat} {a1 : Int32} {a2 : Int32} {a3 : Int32} {q32 : Int32 → Int32 → Int32 → hq_S → Option (Int32 × hq_S)} {s : hq_S} {y : (Int32 × hq_S)} (e32 : ∀ (a1 : Int32) (a2 : Int32) (a3 : Int32) (s : hq_S), q32 a1 a2 a3 s = some y → hq_fc w_X12_boldsOf s y.2) (h : f_X12_boldsOf_L32_B n q32 a1 a2 a3 s = some y) : hq_fc w_X12_boldsOf s y.2 := by
  unfold f_X12_boldsOf_L32_B at h
  have t := hq_fc_rf w_X12_boldsOf s
  by_cases c4 : a3 < 0
  · rw [if_pos c4] at h
    exact hq_fc_tr t (f_X12_boldsOf_L75_fw h)
  · rw [if_neg c4] at h
    obtain ⟨x20, hx20, h⟩ := hq_bind h
    obtain ⟨z21, hz21, h⟩ := hq_bind h
    have t : hq_fc w_X12_boldsOf s z21 := by
      clear h
      have h := hz21
      by_cases c22 : x20 = 0
      · rw [if_pos c22] at h
        obtain ⟨x23, hx23, h⟩ := hq_bind h
        by_cases c24 : x23 = (-1 : Int32)
        · rw [if_pos c24] at h
          cases h
          exact t
        · rw [if_neg c24] at h
          obtain ⟨x25, hx25, h⟩ := hq_bind h
          obtain ⟨s26, hs26, h⟩ := hq_bind h
          have t := hq_fc_tr t (hq_fc_st hs26 (by decide))
          cases h
          exact t
      · rw [if_neg c22] at h
        cases h
        exact t
    exact hq_fc_tr t (e32 a1 a2 (a3 + Int32.ofInt (-1)) z21 h)
theorem f_X12_boldsOf_L32_fw {n m : Nat} {a1 : Int32} {a2 : Int32} {a3 : Int32} {s : hq_S} {y : (Int32 × hq_S)} (h : f_X12_boldsOf_L32 n m a1 a2 a3 s = some y) : hq_fc w_X12_boldsOf s y.2 := by
  induction m generalizing a1 a2 a3 s with
  | zero => cases h
  | succ m ih => exact f_X12_boldsOf_L32_B_fw (n := n) (a1 := a1) (a2 := a2) (a3 := a3) (q32 := f_X12_boldsOf_L32 n m) (fun a1 a2 a3 s h => ih h) h
theorem f_X12_boldsOf_L4_B_fw {n : Nat} {a1 : Int32} {a2 : Int32} {a3 : Int32} {q4 : Int32 → Int32 → Int32 → hq_S → Option (Int32 × hq_S)} {s : hq_S} {y : (Int32 × hq_S)} (e4 : ∀ (a1 : Int32) (a2 : Int32) (a3 : Int32) (s : hq_S), q4 a1 a2 a3 s = some y → hq_fc w_X12_boldsOf s y.2) (h : f_X12_boldsOf_L4_B n q4 a1 a2 a3 s = some y) : hq_fc w_X12_boldsOf s y.2 := by
  unfold f_X12_boldsOf_L4_B at h
  have t := hq_fc_rf w_X12_boldsOf s
  obtain ⟨y1, hy1, h⟩ := hq_bind h
  have t := hq_fc_tr t (hq_fc_mono (by decide) (f_X12_knownMany_fw hy1))
  by_cases c2 : a3 < y1.1
  · rw [if_pos c2] at h
    obtain ⟨s27, hs27, h⟩ := hq_bind h
    have t := hq_fc_tr t (hq_fc_st hs27 (by decide))
    exact hq_fc_tr t (e4 a1 a2 (a3 + (1 : Int32)) s27 h)
  · rw [if_neg c2] at h
    obtain ⟨y3, hy3, h⟩ := hq_bind h
    have t := hq_fc_tr t (hq_fc_mono (by decide) (f_X12_knownMany_fw hy3))
    exact hq_fc_tr t (f_X12_boldsOf_L32_fw h)
theorem f_X12_boldsOf_L4_fw {n m : Nat} {a1 : Int32} {a2 : Int32} {a3 : Int32} {s : hq_S} {y : (Int32 × hq_S)} (h : f_X12_boldsOf_L4 n m a1 a2 a3 s = some y) : hq_fc w_X12_boldsOf s y.2 := by
  induction m generalizing a1 a2 a3 s with
  | zero => cases h
  | succ m ih => exact f_X12_boldsOf_L4_B_fw (n := n) (a1 := a1) (a2 := a2) (a3 := a3) (q4 := f_X12_boldsOf_L4 n m) (fun a1 a2 a3 s h => ih h) h
theorem f_X12_boldsOf_fw {n : Nat} {a1 : Int32} {s : hq_S} {y : (Int32 × hq_S)} (h : f_X12_boldsOf n a1 s = some y) : hq_fc w_X12_boldsOf s y.2 := by
  unfold f_X12_boldsOf at h
  have t := hq_fc_rf w_X12_boldsOf s
  exact hq_fc_tr t (f_X12_boldsOf_L4_fw h)
def w_X12_bolds : List (Nat × Option Nat) := [(174, some 0), (174, some 36), (174, some 53), (174, some 54), (194, none), (195, none), (196, none), (197, none), (198, none), (199, none), (200, none), (201, none), (202, none), (203, none), (204, none), (205, none), (206, none), (207, none), (229, none)]
theorem f_X12_bolds_fw {n : Nat} {a1 : Int32} {s : hq_S} {y : (Int32 × hq_S)} (h : f_X12_bolds n a1 s = some y) : hq_fc w_X12_bolds s y.2 := by
  unfold f_X12_bolds at h
  have t := hq_fc_rf w_X12_bolds s
  obtain ⟨s1, hs1, h⟩ := hq_bind h
  have t := hq_fc_tr t (hq_fc_pi hs1 (by decide))
  obtain ⟨y2, hy2, h⟩ := hq_bind h
  have t := hq_fc_tr t (hq_fc_mono (by decide) (f_X12_isThief_fw hy2))
  by_cases c3 : y2.1 = 0
  · rw [if_pos c3] at h
    have h := Option.some.inj h
    subst h
    exact t
  · rw [if_neg c3] at h
    obtain ⟨y4, hy4, h⟩ := hq_bind h
    have t := hq_fc_tr t (hq_fc_mono (by decide) (f_X12_boldsOf_fw hy4))
    have h := Option.some.inj h
    subst h
    exact t
def w_X12_worstAt : List (Nat × Option Nat) := []
theorem f_X12_worstAt_L18_B_fw {n : Nat} {a1 : Int32} {a2 : Int32} {a3 : Int32} {a4 : Int32} {a5 : Int32} {a6 : Int32} {q5 : Int32 → Int32 → Int32 → Int32 → hq_S → Option (Int32 × hq_S)} {q18 : Int32 → Int32 → Int32 → Int32 → Int32 → Int32 → hq_S → Option (Int32 × hq_S)} {s : hq_S} {y : (Int32 × hq_S)} (e5 : ∀ (a1 : Int32) (a2 : Int32) (a3 : Int32) (a4 : Int32) (o5 : Option Value) (o6 : Option Value) (s : hq_S), q5 a1 a2 a3 a4 s = some y → hq_fc w_X12_worstAt s y.2) (e18 : ∀ (a1 : Int32) (a2 : Int32) (a3 : Int32) (a4 : Int32) (a5 : Int32) (a6 : Int32) (s : hq_S), q18 a1 a2 a3 a4 a5 a6 s = some y → hq_fc w_X12_worstAt s y.2) (h : f_X12_worstAt_L18_B n q5 q18 a1 a2 a3 a4 a5 a6 s = some y) : hq_fc w_X12_worstAt s y.2 := by
  unfold f_X12_worstAt_L18_B at h
  have t := hq_fc_rf w_X12_worstAt s
  by_cases c2 : a6 < (10 : Int32)
  · rw [if_pos c2] at h
    obtain ⟨z5, hz5, h⟩ := hq_bind h
    exact hq_fc_tr t (e18 a1 a2 a3 a4 (a5 + z5) (a6 + (1 : Int32)) s h)
  · rw [if_neg c2] at h
    obtain ⟨z3, hz3, h⟩ := hq_bind h
    exact hq_fc_tr t (e5 a1 a2 z3 (a4 + (1 : Int32)) none none s h)
theorem f_X12_worstAt_L18_fw {n m : Nat} {a1 : Int32} {a2 : Int32} {a3 : Int32} {a4 : Int32} {a5 : Int32} {a6 : Int32} {q5 : Int32 → Int32 → Int32 → Int32 → hq_S → Option (Int32 × hq_S)} {s : hq_S} {y : (Int32 × hq_S)} (e5 : ∀ (a1 : Int32) (a2 : Int32) (a3 : Int32) (a4 : Int32) (o5 : Option Value) (o6 : Option Value) (s : hq_S), q5 a1 a2 a3 a4 s = some y → hq_fc w_X12_worstAt s y.2) (h : f_X12_worstAt_L18 n q5 m a1 a2 a3 a4 a5 a6 s = some y) : hq_fc w_X12_worstAt s y.2 := by
  induction m generalizing a1 a2 a3 a4 a5 a6 s with
  | zero => cases h
  | succ m ih => exact f_X12_worstAt_L18_B_fw (n := n) (a1 := a1) (a2 := a2) (a3 := a3) (a4 := a4) (a5 := a5) (a6 := a6) (q18 := f_X12_worstAt_L18 n q5 m) e5 (fun a1 a2 a3 a4 a5 a6 s h => ih h) h
theorem f_X12_worstAt_L5_B_fw {n : Nat} {a1 : Int32} {a2 : Int32} {a3 : Int32} {a4 : Int32} {q5 : Int32 → Int32 → Int32 → Int32 → hq_S → Option (Int32 × hq_S)} {s : hq_S} {y : (Int32 × hq_S)} (e5 : ∀ (a1 : Int32) (a2 : Int32) (a3 : Int32) (a4 : Int32) (o5 : Option Value) (o6 : Option Value) (s : hq_S), q5 a1 a2 a3 a4 s = some y → hq_fc w_X12_worstAt s y.2) (h : f_X12_worstAt_L5_B n q5 a1 a2 a3 a4 s = some y) : hq_fc w_X12_worstAt s y.2 := by
  unfold f_X12_worstAt_L5_B at h
  have t := hq_fc_rf w_X12_worstAt s
  by_cases c1 : a4 < (10 : Int32)
  · rw [if_pos c1] at h
    exact hq_fc_tr t (f_X12_worstAt_L18_fw e5 h)
  · rw [if_neg c1] at h
    have h := Option.some.inj h
    subst h
    exact t
theorem f_X12_worstAt_L5_fw {n m : Nat} {a1 : Int32} {a2 : Int32} {a3 : Int32} {a4 : Int32} {s : hq_S} {y : (Int32 × hq_S)} (h : f_X12_worstAt_L5 n m a1 a2 a3 a4 s = some y) : hq_fc w_X12_worstAt s y.2 := by
  induction m generalizing a1 a2 a3 a4 s with
  | zero => cases h
  | succ m ih => exact f_X12_worstAt_L5_B_fw (n := n) (a1 := a1) (a2 := a2) (a3 := a3) (a4 := a4) (q5 := f_X12_worstAt_L5 n m) (fun a1 a2 a3 a4 _ _ s h => ih h) h
theorem f_X12_worstAt_fw {n : Nat} {a1 : Int32} {a2 : Int32} {s : hq_S} {y : (Int32 × hq_S)} (h : f_X12_worstAt n a1 a2 s = some y) : hq_fc w_X12_worstAt s y.2 := by
  unfold f_X12_worstAt at h
  have t := hq_fc_rf w_X12_worstAt s
  exact hq_fc_tr t (f_X12_worstAt_L5_fw h)
def w_X12_ask : List (Nat × Option Nat) := [(174, some 0), (174, some 36), (174, some 53), (174, some 54), (194, none), (195, none), (196, none), (197, none), (198, none), (199, none), (200, none), (201, none), (202, none), (203, none), (204, none), (205, none), (206, none), (207, none), (229, none), (230, none)]
theorem f_X12_ask_L116_B_fw {n : Nat} {a1 : Int32} {a2 : Int32} {a3 : Int32} {a4 : Int32} {a5 : Int32} {q116 : Int32 → Int32 → Int32 → Int32 → Int32 → hq_S → Option (Int32 × hq_S)} {s : hq_S} {y : (Int32 × hq_S)} (e116 : ∀ (a1 : Int32) (a2 : Int32) (a3 : Int32) (a4 : Int32) (a5 : Int32) (s : hq_S), q116 a1 a2 a3 a4 a5 s = some y → hq_fc w_X12_ask s y.2) (h : f_X12_ask_L116_B n q116 a1 a2 a3 a4 a5 s = some y) : hq_fc w_X12_ask s y.2 := by
  unfold f_X12_ask_L116_B at h
  have t := hq_fc_rf w_X12_ask s
  by_cases c10 : (60 : Int32) < a5
  · rw [if_pos c10] at h
    by_cases c11 : a2 = 0
    · rw [if_pos c11] at h
      have h := Option.some.inj h
      subst h
      exact t
    · rw [if_neg c11] at h
      obtain ⟨y12, hy12, h⟩ := hq_bind h
      have t := hq_fc_tr t (hq_fc_mono (by decide) (f_X12_worstAt_fw hy12))
      have h := Option.some.inj h
      subst h
      exact t
  · rw [if_neg c10] at h
    obtain ⟨y13, hy13, h⟩ := hq_bind h
    have t := hq_fc_tr t (hq_fc_mono (by decide) (f_X12_worstAt_fw hy13))
    obtain ⟨y14, hy14, h⟩ := hq_bind h
    have t := hq_fc_tr t (hq_fc_mono (by decide) (f_X12_worstAt_fw hy14))
    obtain ⟨z15, hz15, h⟩ := hq_bind h
    exact hq_fc_tr t (e116 a1 a2 a3 z15 (a5 + (1 : Int32)) y14.2 h)
theorem f_X12_ask_L116_fw {n m : Nat} {a1 : Int32} {a2 : Int32} {a3 : Int32} {a4 : Int32} {a5 : Int32} {s : hq_S} {y : (Int32 × hq_S)} (h : f_X12_ask_L116 n m a1 a2 a3 a4 a5 s = some y) : hq_fc w_X12_ask s y.2 := by
  induction m generalizing a1 a2 a3 a4 a5 s with
  | zero => cases h
  | succ m ih => exact f_X12_ask_L116_B_fw (n := n) (a1 := a1) (a2 := a2) (a3 := a3) (a4 := a4) (a5 := a5) (q116 := f_X12_ask_L116 n m) (fun a1 a2 a3 a4 a5 s h => ih h) h
theorem f_X12_ask_L59_B_fw {n : Nat} {a1 : Int32} {a2 : Int32} {a3 : Int32} {a4 : Int32} {a5 : Int32} {q38 : Int32 → Int32 → Int32 → Int32 → hq_S → Option (Int32 × hq_S)} {q59 : Int32 → Int32 → Int32 → Int32 → Int32 → hq_S → Option (Int32 × hq_S)} {s : hq_S} {y : (Int32 × hq_S)} (e38 : ∀ (a1 : Int32) (a2 : Int32) (a3 : Int32) (a4 : Int32) (o5 : Option Value) (s : hq_S), q38 a1 a2 a3 a4 s = some y → hq_fc w_X12_ask s y.2) (e59 : ∀ (a1 : Int32) (a2 : Int32) (a3 : Int32) (a4 : Int32) (a5 : Int32) (s : hq_S), q59 a1 a2 a3 a4 a5 s = some y → hq_fc w_X12_ask s y.2) (h : f_X12_ask_L59_B n q38 q59 a1 a2 a3 a4 a5 s = some y) : hq_fc w_X12_ask s y.2 := by
  unfold f_X12_ask_L59_B at h
  have t := hq_fc_rf w_X12_ask s
  by_cases c19 : (60 : Int32) < a5
  · rw [if_pos c19] at h
    exact hq_fc_tr t (e38 a1 a2 a3 (a4 + (1 : Int32)) none s h)
  · rw [if_neg c19] at h
    obtain ⟨s20, hs20, h⟩ := hq_bind h
    have t := hq_fc_tr t (hq_fc_mono (by decide) (f_X12_passes_fw hs20))
    obtain ⟨x21, hx21, h⟩ := hq_bind h
    obtain ⟨s22, hs22, h⟩ := hq_bind h
    have t := hq_fc_tr t (hq_fc_st hs22 (by decide))
    exact hq_fc_tr t (e59 a1 a2 a3 a4 (a5 + (1 : Int32)) s22 h)
theorem f_X12_ask_L59_fw {n m : Nat} {a1 : Int32} {a2 : Int32} {a3 : Int32} {a4 : Int32} {a5 : Int32} {q38 : Int32 → Int32 → Int32 → Int32 → hq_S → Option (Int32 × hq_S)} {s : hq_S} {y : (Int32 × hq_S)} (e38 : ∀ (a1 : Int32) (a2 : Int32) (a3 : Int32) (a4 : Int32) (o5 : Option Value) (s : hq_S), q38 a1 a2 a3 a4 s = some y → hq_fc w_X12_ask s y.2) (h : f_X12_ask_L59 n q38 m a1 a2 a3 a4 a5 s = some y) : hq_fc w_X12_ask s y.2 := by
  induction m generalizing a1 a2 a3 a4 a5 s with
  | zero => cases h
  | succ m ih => exact f_X12_ask_L59_B_fw (n := n) (a1 := a1) (a2 := a2) (a3 := a3) (a4 := a4) (a5 := a5) (q59 := f_X12_ask_L59 n q38 m) e38 (fun a1 a2 a3 a4 a5 s h => ih h) h
theorem f_X12_ask_L38_B_fw {n : Nat} {a1 : Int32} {a2 : Int32} {a3 : Int32} {a4 : Int32} {q38 : Int32 → Int32 → Int32 → Int32 → hq_S → Option (Int32 × hq_S)} {s : hq_S} {y : (Int32 × hq_S)} (e38 : ∀ (a1 : Int32) (a2 : Int32) (a3 : Int32) (a4 : Int32) (o5 : Option Value) (s : hq_S), q38 a1 a2 a3 a4 s = some y → hq_fc w_X12_ask s y.2) (h : f_X12_ask_L38_B n q38 a1 a2 a3 a4 s = some y) : hq_fc w_X12_ask s y.2 := by
  unfold f_X12_ask_L38_B at h
  have t := hq_fc_rf w_X12_ask s
  by_cases c8 : a4 < (10 : Int32)
  · rw [if_pos c8] at h
    obtain ⟨s17, hs17, h⟩ := hq_bind h
    have t := hq_fc_tr t (hq_fc_pi hs17 (by decide))
    obtain ⟨s18, hs18, h⟩ := hq_bind h
    have t := hq_fc_tr t (hq_fc_mono (by decide) (f_X12_starts_fw hs18))
    exact hq_fc_tr t (f_X12_ask_L59_fw e38 h)
  · rw [if_neg c8] at h
    obtain ⟨s9, hs9, h⟩ := hq_bind h
    have t := hq_fc_tr t (hq_fc_pi hs9 (by decide))
    exact hq_fc_tr t (f_X12_ask_L116_fw h)
theorem f_X12_ask_L38_fw {n m : Nat} {a1 : Int32} {a2 : Int32} {a3 : Int32} {a4 : Int32} {s : hq_S} {y : (Int32 × hq_S)} (h : f_X12_ask_L38 n m a1 a2 a3 a4 s = some y) : hq_fc w_X12_ask s y.2 := by
  induction m generalizing a1 a2 a3 a4 s with
  | zero => cases h
  | succ m ih => exact f_X12_ask_L38_B_fw (n := n) (a1 := a1) (a2 := a2) (a3 := a3) (a4 := a4) (q38 := f_X12_ask_L38 n m) (fun a1 a2 a3 a4 _ s h => ih h) h
theorem f_X12_ask_fw {n : Nat} {a1 : Int32} {a2 : Int32} {s : hq_S} {y : (Int32 × hq_S)} (h : f_X12_ask n a1 a2 s = some y) : hq_fc w_X12_ask s y.2 := by
  unfold f_X12_ask at h
  have t := hq_fc_rf w_X12_ask s
  obtain ⟨s1, hs1, h⟩ := hq_bind h
  have t := hq_fc_tr t (hq_fc_pi hs1 (by decide))
  obtain ⟨y2, hy2, h⟩ := hq_bind h
  have t := hq_fc_tr t (hq_fc_mono (by decide) (f_X12_isThief_fw hy2))
  by_cases c3 : y2.1 = 0
  · rw [if_pos c3] at h
    have h := Option.some.inj h
    subst h
    exact t
  · rw [if_neg c3] at h
    by_cases c4 : a2 < 0
    · rw [if_pos c4] at h
      have h := Option.some.inj h
      subst h
      exact t
    · rw [if_neg c4] at h
      by_cases c5 : (1 : Int32) < a2
      · rw [if_pos c5] at h
        have h := Option.some.inj h
        subst h
        exact t
      · rw [if_neg c5] at h
        obtain ⟨y6, hy6, h⟩ := hq_bind h
        have t := hq_fc_tr t (hq_fc_mono (by decide) (f_X12_boldsOf_fw hy6))
        obtain ⟨s7, hs7, h⟩ := hq_bind h
        have t := hq_fc_tr t (hq_fc_pi hs7 (by decide))
        exact hq_fc_tr t (f_X12_ask_L38_fw h)
def w_X12_chance : List (Nat × Option Nat) := [(174, some 0), (174, some 36), (194, none), (195, none), (196, none), (197, none), (198, none), (199, none), (200, none), (201, none), (202, none), (203, none), (204, none), (205, none), (206, none), (207, none)]
theorem f_X12_chance_L63_B_fw {n : Nat} {a1 : Int32} {a2 : Int32} {a3 : Int32} {a4 : Int32} {a5 : Int32} {a6 : Int32} {a7 : Int32} {q39 : Int32 → Int32 → Int32 → Int32 → Int32 → Int32 → hq_S → Option (Int32 × hq_S)} {q63 : Int32 → Int32 → Int32 → Int32 → Int32 → Int32 → Int32 → hq_S → Option (Int32 × hq_S)} {s : hq_S} {y : (Int32 × hq_S)} (e39 : ∀ (a1 : Int32) (a2 : Int32) (a3 : Int32) (a4 : Int32) (a5 : Int32) (a6 : Int32) (o7 : Option Value) (s : hq_S), q39 a1 a2 a3 a4 a5 a6 s = some y → hq_fc w_X12_chance s y.2) (e63 : ∀ (a1 : Int32) (a2 : Int32) (a3 : Int32) (a4 : Int32) (a5 : Int32) (a6 : Int32) (a7 : Int32) (s : hq_S), q63 a1 a2 a3 a4 a5 a6 a7 s = some y → hq_fc w_X12_chance s y.2) (h : f_X12_chance_L63_B n q39 q63 a1 a2 a3 a4 a5 a6 a7 s = some y) : hq_fc w_X12_chance s y.2 := by
  unfold f_X12_chance_L63_B at h
  have t := hq_fc_rf w_X12_chance s
  by_cases c10 : a7 < a2
  · rw [if_pos c10] at h
    obtain ⟨s15, hs15, h⟩ := hq_bind h
    have t := hq_fc_tr t (hq_fc_mono (by decide) (f_X12_passes_fw hs15))
    exact hq_fc_tr t (e63 a1 a2 a3 a4 a5 a6 (a7 + (1 : Int32)) s15 h)
  · rw [if_neg c10] at h
    obtain ⟨x11, hx11, h⟩ := hq_bind h
    obtain ⟨y12, hy12, h⟩ := hq_bind h
    have t := hq_fc_tr t (hq_fc_mono (by decide) (f_X12_isFree_fw hy12))
    obtain ⟨z13, hz13, h⟩ := hq_bind h
    exact hq_fc_tr t (e39 a1 a2 a3 x11 (a5 + z13) (a6 + (1 : Int32)) none y12.2 h)
theorem f_X12_chance_L63_fw {n m : Nat} {a1 : Int32} {a2 : Int32} {a3 : Int32} {a4 : Int32} {a5 : Int32} {a6 : Int32} {a7 : Int32} {q39 : Int32 → Int32 → Int32 → Int32 → Int32 → Int32 → hq_S → Option (Int32 × hq_S)} {s : hq_S} {y : (Int32 × hq_S)} (e39 : ∀ (a1 : Int32) (a2 : Int32) (a3 : Int32) (a4 : Int32) (a5 : Int32) (a6 : Int32) (o7 : Option Value) (s : hq_S), q39 a1 a2 a3 a4 a5 a6 s = some y → hq_fc w_X12_chance s y.2) (h : f_X12_chance_L63 n q39 m a1 a2 a3 a4 a5 a6 a7 s = some y) : hq_fc w_X12_chance s y.2 := by
  induction m generalizing a1 a2 a3 a4 a5 a6 a7 s with
  | zero => cases h
  | succ m ih => exact f_X12_chance_L63_B_fw (n := n) (a1 := a1) (a2 := a2) (a3 := a3) (a4 := a4) (a5 := a5) (a6 := a6) (a7 := a7) (q63 := f_X12_chance_L63 n q39 m) e39 (fun a1 a2 a3 a4 a5 a6 a7 s h => ih h) h
theorem f_X12_chance_L39_B_fw {n : Nat} {a1 : Int32} {a2 : Int32} {a3 : Int32} {a4 : Int32} {a5 : Int32} {a6 : Int32} {q39 : Int32 → Int32 → Int32 → Int32 → Int32 → Int32 → hq_S → Option (Int32 × hq_S)} {s : hq_S} {y : (Int32 × hq_S)} (e39 : ∀ (a1 : Int32) (a2 : Int32) (a3 : Int32) (a4 : Int32) (a5 : Int32) (a6 : Int32) (o7 : Option Value) (s : hq_S), q39 a1 a2 a3 a4 a5 a6 s = some y → hq_fc w_X12_chance s y.2) (h : f_X12_chance_L39_B n q39 a1 a2 a3 a4 a5 a6 s = some y) : hq_fc w_X12_chance s y.2 := by
  unfold f_X12_chance_L39_B at h
  have t := hq_fc_rf w_X12_chance s
  by_cases c7 : a6 < (10 : Int32)
  · rw [if_pos c7] at h
    obtain ⟨s8, hs8, h⟩ := hq_bind h
    have t := hq_fc_tr t (hq_fc_mono (by decide) (f_X12_copies_fw hs8))
    obtain ⟨s9, hs9, h⟩ := hq_bind h
    have t := hq_fc_tr t (hq_fc_st hs9 (by decide))
    exact hq_fc_tr t (f_X12_chance_L63_fw e39 h)
  · rw [if_neg c7] at h
    have h := Option.some.inj h
    subst h
    exact t
theorem f_X12_chance_L39_fw {n m : Nat} {a1 : Int32} {a2 : Int32} {a3 : Int32} {a4 : Int32} {a5 : Int32} {a6 : Int32} {s : hq_S} {y : (Int32 × hq_S)} (h : f_X12_chance_L39 n m a1 a2 a3 a4 a5 a6 s = some y) : hq_fc w_X12_chance s y.2 := by
  induction m generalizing a1 a2 a3 a4 a5 a6 s with
  | zero => cases h
  | succ m ih => exact f_X12_chance_L39_B_fw (n := n) (a1 := a1) (a2 := a2) (a3 := a3) (a4 := a4) (a5 := a5) (a6 := a6) (q39 := f_X12_chance_L39 n m) (fun a1 a2 a3 a4 a5 a6 _ s h => ih h) h
theorem f_X12_chance_fw {n : Nat} {a1 : Int32} {a2 : Int32} {a3 : Int32} {s : hq_S} {y : (Int32 × hq_S)} (h : f_X12_chance n a1 a2 a3 s = some y) : hq_fc w_X12_chance s y.2 := by
  unfold f_X12_chance at h
  have t := hq_fc_rf w_X12_chance s
  obtain ⟨s1, hs1, h⟩ := hq_bind h
  have t := hq_fc_tr t (hq_fc_pi hs1 (by decide))
  by_cases c2 : a1 < 0
  · rw [if_pos c2] at h
    have h := Option.some.inj h
    subst h
    exact t
  · rw [if_neg c2] at h
    by_cases c3 : a2 < (1 : Int32)
    · rw [if_pos c3] at h
      have h := Option.some.inj h
      subst h
      exact t
    · rw [if_neg c3] at h
      by_cases c4 : (99 : Int32) < a2
      · rw [if_pos c4] at h
        have h := Option.some.inj h
        subst h
        exact t
      · rw [if_neg c4] at h
        obtain ⟨y5, hy5, h⟩ := hq_bind h
        have t := hq_fc_tr t (hq_fc_mono (by decide) (f_X12_isThief_fw hy5))
        by_cases c6 : y5.1 = 0
        · rw [if_pos c6] at h
          have h := Option.some.inj h
          subst h
          exact t
        · rw [if_neg c6] at h
          exact hq_fc_tr t (f_X12_chance_L39_fw h)
def w_X12_tried : List (Nat × Option Nat) := [(174, some 0), (174, some 36), (174, some 49), (174, some 50), (194, none), (195, none), (196, none), (197, none), (198, none), (199, none), (200, none), (201, none), (202, none), (203, none), (204, none), (205, none), (206, none), (207, none)]
theorem f_X12_tried_fw {n : Nat} {a1 : Int32} {a2 : Int32} {a3 : Int32} {s : hq_S} {y : (Int32 × hq_S)} (h : f_X12_tried n a1 a2 a3 s = some y) : hq_fc w_X12_tried s y.2 := by
  unfold f_X12_tried at h
  have t := hq_fc_rf w_X12_tried s
  obtain ⟨s1, hs1, h⟩ := hq_bind h
  have t := hq_fc_tr t (hq_fc_pi hs1 (by decide))
  obtain ⟨z2, hz2, h⟩ := hq_bind h
  have t : hq_fc w_X12_tried s z2.2 := by
    clear h
    have h := hz2
    by_cases c3 : a1 = (2 : Int32)
    · rw [if_pos c3] at h
      obtain ⟨y7, hy7, h⟩ := hq_bind h
      have t := hq_fc_tr t (hq_fc_mono (by decide) (f_X12_isGuard_fw hy7))
      cases h
      exact t
    · rw [if_neg c3] at h
      by_cases c4 : a1 < 0
      · rw [if_pos c4] at h
        cases h
        exact t
      · rw [if_neg c4] at h
        by_cases c5 : (4 : Int32) < a1
        · rw [if_pos c5] at h
          cases h
          exact t
        · rw [if_neg c5] at h
          by_cases c6 : a2 = 0
          · rw [if_pos c6] at h
            cases h
            exact t
          · rw [if_neg c6] at h
            cases h
            exact t
  by_cases c8 : z2.1 = 0
  · rw [if_pos c8] at h
    have h := Option.some.inj h
    subst h
    exact t
  · rw [if_neg c8] at h
    by_cases c9 : a3 < 0
    · rw [if_pos c9] at h
      have h := Option.some.inj h
      subst h
      exact t
    · rw [if_neg c9] at h
      by_cases c10 : (200 : Int32) < a3
      · rw [if_pos c10] at h
        have h := Option.some.inj h
        subst h
        exact t
      · rw [if_neg c10] at h
        obtain ⟨s11, hs11, h⟩ := hq_bind h
        have t := hq_fc_tr t (hq_fc_mono (by decide) (f_X12_copies_fw hs11))
        obtain ⟨z12, hz12, h⟩ := hq_bind h
        obtain ⟨s14, hs14, h⟩ := hq_bind h
        have t := hq_fc_tr t (hq_fc_pi hs14 (by decide))
        obtain ⟨s15, hs15, h⟩ := hq_bind h
        have t := hq_fc_tr t (hq_fc_pi hs15 (by decide))
        obtain ⟨s16, hs16, h⟩ := hq_bind h
        have t := hq_fc_tr t (hq_fc_mono (by decide) (f_X12_goesOn_fw hs16))
        obtain ⟨s17, hs17, h⟩ := hq_bind h
        have t := hq_fc_tr t (hq_fc_pi hs17 (by decide))
        obtain ⟨s18, hs18, h⟩ := hq_bind h
        have t := hq_fc_tr t (hq_fc_pi hs18 (by decide))
        obtain ⟨y19, hy19, h⟩ := hq_bind h
        have t := hq_fc_tr t (hq_fc_mono (by decide) (f_X12_sumOf_fw hy19))
        have h := Option.some.inj h
        subst h
        exact t
def w_X12_undo : List (Nat × Option Nat) := [(174, some 0), (174, some 48), (196, none), (197, none), (198, none), (199, none), (200, none), (201, none), (202, none), (203, none), (204, none), (205, none)]
theorem f_X12_undo_fw {n : Nat} {s : hq_S} {y : (Int32 × hq_S)} (h : f_X12_undo n s = some y) : hq_fc w_X12_undo s y.2 := by
  unfold f_X12_undo at h
  have t := hq_fc_rf w_X12_undo s
  obtain ⟨s1, hs1, h⟩ := hq_bind h
  have t := hq_fc_tr t (hq_fc_pi hs1 (by decide))
  by_cases c2 : (hq_gi s1 174 48) = 0
  · rw [if_pos c2] at h
    have h := Option.some.inj h
    subst h
    exact t
  · rw [if_neg c2] at h
    obtain ⟨s3, hs3, h⟩ := hq_bind h
    have t := hq_fc_tr t (hq_fc_pi hs3 (by decide))
    obtain ⟨s4, hs4, h⟩ := hq_bind h
    have t := hq_fc_tr t (hq_fc_mono (by decide) (f_X12_copies_fw hs4))
    have h := Option.some.inj h
    subst h
    exact t
def w_X12_keep : List (Nat × Option Nat) := [(174, some 0), (174, some 47), (196, none), (197, none), (198, none), (199, none), (200, none), (201, none), (202, none), (203, none), (204, none), (205, none)]
theorem f_X12_keep_fw {n : Nat} {s : hq_S} {y : (Int32 × hq_S)} (h : f_X12_keep n s = some y) : hq_fc w_X12_keep s y.2 := by
  unfold f_X12_keep at h
  have t := hq_fc_rf w_X12_keep s
  obtain ⟨s1, hs1, h⟩ := hq_bind h
  have t := hq_fc_tr t (hq_fc_pi hs1 (by decide))
  obtain ⟨s2, hs2, h⟩ := hq_bind h
  have t := hq_fc_tr t (hq_fc_mono (by decide) (f_X12_copies_fw hs2))
  obtain ⟨s3, hs3, h⟩ := hq_bind h
  have t := hq_fc_tr t (hq_fc_pi hs3 (by decide))
  obtain ⟨x4, hx4, h⟩ := hq_bind h
  have h := Option.some.inj h
  subst h
  exact t
def w_X12_back : List (Nat × Option Nat) := [(174, some 0), (174, some 48), (196, none), (197, none), (198, none), (199, none), (200, none), (201, none), (202, none), (203, none), (204, none), (205, none)]
theorem f_X12_back_fw {n : Nat} {s : hq_S} {y : (Int32 × hq_S)} (h : f_X12_back n s = some y) : hq_fc w_X12_back s y.2 := by
  unfold f_X12_back at h
  have t := hq_fc_rf w_X12_back s
  obtain ⟨s1, hs1, h⟩ := hq_bind h
  have t := hq_fc_tr t (hq_fc_pi hs1 (by decide))
  by_cases c2 : (hq_gi s1 174 47) = 0
  · rw [if_pos c2] at h
    have h := Option.some.inj h
    subst h
    exact t
  · rw [if_neg c2] at h
    obtain ⟨s3, hs3, h⟩ := hq_bind h
    have t := hq_fc_tr t (hq_fc_mono (by decide) (f_X12_copies_fw hs3))
    obtain ⟨s4, hs4, h⟩ := hq_bind h
    have t := hq_fc_tr t (hq_fc_pi hs4 (by decide))
    obtain ⟨x5, hx5, h⟩ := hq_bind h
    have h := Option.some.inj h
    subst h
    exact t
def w_X12_count : List (Nat × Option Nat) := [(174, some 0)]
theorem f_X12_count_fw {n : Nat} {a1 : Int32} {s : hq_S} {y : (Int32 × hq_S)} (h : f_X12_count n a1 s = some y) : hq_fc w_X12_count s y.2 := by
  unfold f_X12_count at h
  have t := hq_fc_rf w_X12_count s
  obtain ⟨s1, hs1, h⟩ := hq_bind h
  have t := hq_fc_tr t (hq_fc_pi hs1 (by decide))
  by_cases c2 : a1 = (0 : Int32)
  · rw [if_pos c2] at h
    obtain ⟨x3, hx3, h⟩ := hq_bind h
    have h := Option.some.inj h
    subst h
    exact t
  rw [if_neg c2] at h
  by_cases c4 : a1 = (1 : Int32)
  · rw [if_pos c4] at h
    obtain ⟨x5, hx5, h⟩ := hq_bind h
    have h := Option.some.inj h
    subst h
    exact t
  rw [if_neg c4] at h
  by_cases c6 : a1 = (2 : Int32)
  · rw [if_pos c6] at h
    obtain ⟨x7, hx7, h⟩ := hq_bind h
    have h := Option.some.inj h
    subst h
    exact t
  rw [if_neg c6] at h
  by_cases c8 : a1 = (3 : Int32)
  · rw [if_pos c8] at h
    obtain ⟨x9, hx9, h⟩ := hq_bind h
    have h := Option.some.inj h
    subst h
    exact t
  rw [if_neg c8] at h
  by_cases c10 : a1 = (4 : Int32)
  · rw [if_pos c10] at h
    obtain ⟨x11, hx11, h⟩ := hq_bind h
    have h := Option.some.inj h
    subst h
    exact t
  rw [if_neg c10] at h
  by_cases c12 : a1 = (5 : Int32)
  · rw [if_pos c12] at h
    obtain ⟨x13, hx13, h⟩ := hq_bind h
    have h := Option.some.inj h
    subst h
    exact t
  rw [if_neg c12] at h
  by_cases c14 : a1 = (6 : Int32)
  · rw [if_pos c14] at h
    obtain ⟨y15, hy15, h⟩ := hq_bind h
    have t := hq_fc_tr t (hq_fc_mono (by decide) (f_X12_caughtOnes_fw hy15))
    have h := Option.some.inj h
    subst h
    exact t
  rw [if_neg c14] at h
  by_cases c16 : a1 = (7 : Int32)
  · rw [if_pos c16] at h
    obtain ⟨y17, hy17, h⟩ := hq_bind h
    have t := hq_fc_tr t (hq_fc_mono (by decide) (f_X12_sumOf_fw hy17))
    have h := Option.some.inj h
    subst h
    exact t
  rw [if_neg c16] at h
  by_cases c18 : a1 = (8 : Int32)
  · rw [if_pos c18] at h
    obtain ⟨y19, hy19, h⟩ := hq_bind h
    have t := hq_fc_tr t (hq_fc_mono (by decide) (f_X12_sumOf_fw hy19))
    have h := Option.some.inj h
    subst h
    exact t
  rw [if_neg c18] at h
  by_cases c20 : a1 = (9 : Int32)
  · rw [if_pos c20] at h
    obtain ⟨x21, hx21, h⟩ := hq_bind h
    obtain ⟨y22, hy22, h⟩ := hq_bind h
    have t := hq_fc_tr t (hq_fc_mono (by decide) (f_X12_bitsOf_fw hy22))
    have h := Option.some.inj h
    subst h
    exact t
  rw [if_neg c20] at h
  by_cases c23 : a1 = (10 : Int32)
  · rw [if_pos c23] at h
    have h := Option.some.inj h
    subst h
    exact t
  rw [if_neg c23] at h
  by_cases c24 : a1 = (11 : Int32)
  · rw [if_pos c24] at h
    obtain ⟨y25, hy25, h⟩ := hq_bind h
    have t := hq_fc_tr t (hq_fc_mono (by decide) (f_X12_knownMany_fw hy25))
    have h := Option.some.inj h
    subst h
    exact t
  rw [if_neg c24] at h
  by_cases c26 : a1 = (12 : Int32)
  · rw [if_pos c26] at h
    have h := Option.some.inj h
    subst h
    exact t
  rw [if_neg c26] at h
  have h := Option.some.inj h
  subst h
  exact t
