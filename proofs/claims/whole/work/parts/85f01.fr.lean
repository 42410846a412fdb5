theorem f_X7_nightsToSweep_J119_fr {n : Nat} {k1 : Nat} {a2 : Int32} {a3 : Int32} {a6 : Int32} {a7 : Int32} {s : hq_S} {y : (Int32 × hq_S)} (m1_ : hq_isS k1) (h : f_X7_nightsToSweep_J119 n k1 a2 a3 a6 a7 s = some y) : hq_fx s y.2 := by
  unfold f_X7_nightsToSweep_J119 at h
  have bm1_ := hq_leS m1_
  have t := hq_fx_rf s
  obtain ⟨x5, hx5, h⟩ := hq_bind h
  by_cases c6 : x5 = (-1 : Int32)
  · rw [if_pos c6] at h
    have h := Option.some.inj h
    subst h
    exact t
  · rw [if_neg c6] at h
    obtain ⟨x7, hx7, h⟩ := hq_bind h
    have h := Option.some.inj h
    subst h
    exact t
theorem f_X7_nightsToSweep_L71_B_fr {n : Nat} {k1 : Nat} {a2 : Int32} {a3 : Int32} {a6 : Int32} {a7 : Int32} {a8 : Int32} {q44 : Nat → Int32 → Int32 → Int32 → Int32 → hq_S → Option (Int32 × hq_S)} {q71 : Nat → Int32 → Int32 → Int32 → Int32 → Int32 → hq_S → Option (Int32 × hq_S)} {s : hq_S} {y : (Int32 × hq_S)} (e44 : ∀ (k1 : Nat) (a2 : Int32) (a3 : Int32) (a6 : Int32) (a7 : Int32) (o8 : Option Value) (s : hq_S) (m1_ : hq_isS k1), q44 k1 a2 a3 a6 a7 s = some y → hq_fx s y.2) (e71 : ∀ (k1 : Nat) (a2 : Int32) (a3 : Int32) (a6 : Int32) (a7 : Int32) (a8 : Int32) (s : hq_S) (m1_ : hq_isS k1), q71 k1 a2 a3 a6 a7 a8 s = some y → hq_fx s y.2) (m1_ : hq_isS k1) (h : f_X7_nightsToSweep_L71_B n q44 q71 k1 a2 a3 a6 a7 a8 s = some y) : hq_fx s y.2 := by
  unfold f_X7_nightsToSweep_L71_B at h
  have bm1_ := hq_leS m1_
  have t := hq_fx_rf s
  by_cases c11 : a3 < a8
  · rw [if_pos c11] at h
    exact hq_fx_tr t (e44 k1 a2 a3 a6 (a7 + (1 : Int32)) none s m1_ h)
  · rw [if_neg c11] at h
    obtain ⟨x12, hx12, h⟩ := hq_bind h
    obtain ⟨x13, hx13, h⟩ := hq_bind h
    obtain ⟨z14, hz14, h⟩ := hq_bind h
    have t : hq_fx s z14.2 := by
      clear h
      have h := hz14
      by_cases c15 : x13 = (a7 - (1 : Int32))
      · rw [if_pos c15] at h
        obtain ⟨y16, hy16, h⟩ := hq_bind h
        have t := hq_fx_tr t (f_X7_solveAround_fr hy16)
        cases h
        exact t
      · rw [if_neg c15] at h
        cases h
        exact t
    exact hq_fx_tr t (e71 k1 a2 a3 z14.1 a7 (a8 + (1 : Int32)) z14.2 m1_ h)
theorem f_X7_nightsToSweep_L71_fr {n m : Nat} {k1 : Nat} {a2 : Int32} {a3 : Int32} {a6 : Int32} {a7 : Int32} {a8 : Int32} {q44 : Nat → Int32 → Int32 → Int32 → Int32 → hq_S → Option (Int32 × hq_S)} {s : hq_S} {y : (Int32 × hq_S)} (e44 : ∀ (k1 : Nat) (a2 : Int32) (a3 : Int32) (a6 : Int32) (a7 : Int32) (o8 : Option Value) (s : hq_S) (m1_ : hq_isS k1), q44 k1 a2 a3 a6 a7 s = some y → hq_fx s y.2) (m1_ : hq_isS k1) (h : f_X7_nightsToSweep_L71 n q44 m k1 a2 a3 a6 a7 a8 s = some y) : hq_fx s y.2 := by
  induction m generalizing k1 a2 a3 a6 a7 a8 s with
  | zero => cases h
  | succ m ih => exact f_X7_nightsToSweep_L71_B_fr (n := n) (k1 := k1) (a2 := a2) (a3 := a3) (a6 := a6) (a7 := a7) (a8 := a8) (q71 := f_X7_nightsToSweep_L71 n q44 m) e44 (fun k1 a2 a3 a6 a7 a8 s m1_ h => ih m1_ h) m1_ h
theorem f_X7_nightsToSweep_L44_B_fr {n : Nat} {k1 : Nat} {a2 : Int32} {a3 : Int32} {a6 : Int32} {a7 : Int32} {q44 : Nat → Int32 → Int32 → Int32 → Int32 → hq_S → Option (Int32 × hq_S)} {s : hq_S} {y : (Int32 × hq_S)} (e44 : ∀ (k1 : Nat) (a2 : Int32) (a3 : Int32) (a6 : Int32) (a7 : Int32) (o8 : Option Value) (s : hq_S) (m1_ : hq_isS k1), q44 k1 a2 a3 a6 a7 s = some y → hq_fx s y.2) (m1_ : hq_isS k1) (h : f_X7_nightsToSweep_L44_B n q44 k1 a2 a3 a6 a7 s = some y) : hq_fx s y.2 := by
  unfold f_X7_nightsToSweep_L44_B at h
  have bm1_ := hq_leS m1_
  have t := hq_fx_rf s
  by_cases c4 : (1024 : Int32) < a7
  · rw [if_pos c4] at h
    exact hq_fx_tr t (f_X7_nightsToSweep_J119_fr m1_ h)
  · rw [if_neg c4] at h
    by_cases c8 : a6 = 0
    · rw [if_pos c8] at h
      exact hq_fx_tr t (f_X7_nightsToSweep_J119_fr m1_ h)
    · rw [if_neg c8] at h
      obtain ⟨x9, hx9, h⟩ := hq_bind h
      by_cases c10 : x9 = (-1 : Int32)
      · rw [if_pos c10] at h
        exact hq_fx_tr t (f_X7_nightsToSweep_L71_fr e44 m1_ h)
      · rw [if_neg c10] at h
        exact hq_fx_tr t (f_X7_nightsToSweep_J119_fr m1_ h)
theorem f_X7_nightsToSweep_L44_fr {n m : Nat} {k1 : Nat} {a2 : Int32} {a3 : Int32} {a6 : Int32} {a7 : Int32} {s : hq_S} {y : (Int32 × hq_S)} (m1_ : hq_isS k1) (h : f_X7_nightsToSweep_L44 n m k1 a2 a3 a6 a7 s = some y) : hq_fx s y.2 := by
  induction m generalizing k1 a2 a3 a6 a7 s with
  | zero => cases h
  | succ m ih => exact f_X7_nightsToSweep_L44_B_fr (n := n) (k1 := k1) (a2 := a2) (a3 := a3) (a6 := a6) (a7 := a7) (q44 := f_X7_nightsToSweep_L44 n m) (fun k1 a2 a3 a6 a7 _ s m1_ h => ih m1_ h) m1_ h
theorem f_X7_nightsToSweep_fr {n : Nat} {k1 : Nat} {a2 : Int32} {s : hq_S} {y : (Int32 × hq_S)} (m1_ : hq_isS k1) (h : f_X7_nightsToSweep n k1 a2 s = some y) : hq_fx s y.2 := by
  unfold f_X7_nightsToSweep at h
  have bm1_ := hq_leS m1_
  have t := hq_fx_rf s
  obtain ⟨s1, hs1, h⟩ := hq_bind h
  have t := hq_fx_tr t (f_X7_letGo_fr m1_ (by first | decide | omega) hs1)
  obtain ⟨s2, hs2, h⟩ := hq_bind h
  have t := hq_fx_tr t (f_J7_fill_53178_fr (by first | decide | omega) hs2)
  obtain ⟨s3, hs3, h⟩ := hq_bind h
  have t := hq_fx_tr t (hq_fx_st hs3 (by first | decide | omega))
  exact hq_fx_tr t (f_X7_nightsToSweep_L44_fr m1_ h)
theorem f_X7_firstLook_J71_fr {n : Nat} {k1 : Nat} {a2 : Int32} {a3 : Int32} {a4 : Int32} {a5 : Int32} {q29 : Nat → Int32 → Int32 → Int32 → Int32 → hq_S → Option (Int32 × hq_S)} {s : hq_S} {y : (Int32 × hq_S)} (e29 : ∀ (k1 : Nat) (a2 : Int32) (a3 : Int32) (a4 : Int32) (a5 : Int32) (s : hq_S) (m1_ : hq_isS k1), q29 k1 a2 a3 a4 a5 s = some y → hq_fx s y.2) (m1_ : hq_isS k1) (h : f_X7_firstLook_J71 n q29 k1 a2 a3 a4 a5 s = some y) : hq_fx s y.2 := by
  unfold f_X7_firstLook_J71 at h
  have bm1_ := hq_leS m1_
  have t := hq_fx_rf s
  exact hq_fx_tr t (e29 k1 a2 a3 a4 (a5 + (1 : Int32)) s m1_ h)
theorem f_X7_firstLook_L29_B_fr {n : Nat} {k1 : Nat} {a2 : Int32} {a3 : Int32} {a4 : Int32} {a5 : Int32} {q29 : Nat → Int32 → Int32 → Int32 → Int32 → hq_S → Option (Int32 × hq_S)} {s : hq_S} {y : (Int32 × hq_S)} (e29 : ∀ (k1 : Nat) (a2 : Int32) (a3 : Int32) (a4 : Int32) (a5 : Int32) (s : hq_S) (m1_ : hq_isS k1), q29 k1 a2 a3 a4 a5 s = some y → hq_fx s y.2) (m1_ : hq_isS k1) (h : f_X7_firstLook_L29_B n q29 k1 a2 a3 a4 a5 s = some y) : hq_fx s y.2 := by
  unfold f_X7_firstLook_L29_B at h
  have bm1_ := hq_leS m1_
  have t := hq_fx_rf s
  by_cases c3 : a4 < a5
  · rw [if_pos c3] at h
    have h := Option.some.inj h
    subst h
    exact t
  · rw [if_neg c3] at h
    obtain ⟨y4, hy4, h⟩ := hq_bind h
    have t := hq_fx_tr t (f_J6_bitCount_0f7a4_fr hy4)
    by_cases c5 : a2 < y4.1
    · rw [if_pos c5] at h
      exact hq_fx_tr t (f_X7_firstLook_J71_fr e29 m1_ h)
    · rw [if_neg c5] at h
      obtain ⟨x6, hx6, h⟩ := hq_bind h
      obtain ⟨x7, hx7, h⟩ := hq_bind h
      by_cases c8 : x7 = (a3 - (1 : Int32))
      · rw [if_pos c8] at h
        have h := Option.some.inj h
        subst h
        exact t
      · rw [if_neg c8] at h
        exact hq_fx_tr t (f_X7_firstLook_J71_fr e29 m1_ h)
theorem f_X7_firstLook_L29_fr {n m : Nat} {k1 : Nat} {a2 : Int32} {a3 : Int32} {a4 : Int32} {a5 : Int32} {s : hq_S} {y : (Int32 × hq_S)} (m1_ : hq_isS k1) (h : f_X7_firstLook_L29 n m k1 a2 a3 a4 a5 s = some y) : hq_fx s y.2 := by
  induction m generalizing k1 a2 a3 a4 a5 s with
  | zero => cases h
  | succ m ih => exact f_X7_firstLook_L29_B_fr (n := n) (k1 := k1) (a2 := a2) (a3 := a3) (a4 := a4) (a5 := a5) (q29 := f_X7_firstLook_L29 n m) (fun k1 a2 a3 a4 a5 s m1_ h => ih m1_ h) m1_ h
theorem f_X7_firstLook_fr {n : Nat} {k1 : Nat} {a2 : Int32} {s : hq_S} {y : (Int32 × hq_S)} (m1_ : hq_isS k1) (h : f_X7_firstLook n k1 a2 s = some y) : hq_fx s y.2 := by
  unfold f_X7_firstLook at h
  have bm1_ := hq_leS m1_
  have t := hq_fx_rf s
  obtain ⟨y1, hy1, h⟩ := hq_bind h
  have t := hq_fx_tr t (f_X7_nightsToSweep_fr m1_ hy1)
  by_cases c2 : y1.1 = (-2 : Int32)
  · rw [if_pos c2] at h
    have h := Option.some.inj h
    subst h
    exact t
  · rw [if_neg c2] at h
    exact hq_fx_tr t (f_X7_firstLook_L29_fr m1_ h)
theorem f_X8_nextToAny_L4_B_fr {n : Nat} {k0 : Nat} {a1 : Int32} {a2 : Int32} {a3 : Int32} {q4 : Nat → Int32 → Int32 → Int32 → hq_S → Option (Int32 × hq_S)} {s : hq_S} {y : (Int32 × hq_S)} (e4 : ∀ (k0 : Nat) (a1 : Int32) (a2 : Int32) (a3 : Int32) (s : hq_S) (m0_ : hq_isS k0), q4 k0 a1 a2 a3 s = some y → hq_fx s y.2) (m0_ : hq_isS k0) (h : f_X8_nextToAny_L4_B n q4 k0 a1 a2 a3 s = some y) : hq_fx s y.2 := by
  unfold f_X8_nextToAny_L4_B at h
  have bm0_ := hq_leS m0_
  have t := hq_fx_rf s
  by_cases c1 : a3 < (hq_gi s k0 0)
  · rw [if_pos c1] at h
    obtain ⟨z2, hz2, h⟩ := hq_bind h
    exact hq_fx_tr t (e4 k0 a1 (a2 ||| z2) (a3 + (1 : Int32)) s m0_ h)
  · rw [if_neg c1] at h
    have h := Option.some.inj h
    subst h
    exact t
theorem f_X8_nextToAny_L4_fr {n m : Nat} {k0 : Nat} {a1 : Int32} {a2 : Int32} {a3 : Int32} {s : hq_S} {y : (Int32 × hq_S)} (m0_ : hq_isS k0) (h : f_X8_nextToAny_L4 n m k0 a1 a2 a3 s = some y) : hq_fx s y.2 := by
  induction m generalizing k0 a1 a2 a3 s with
  | zero => cases h
  | succ m ih => exact f_X8_nextToAny_L4_B_fr (n := n) (k0 := k0) (a1 := a1) (a2 := a2) (a3 := a3) (q4 := f_X8_nextToAny_L4 n m) (fun k0 a1 a2 a3 s m0_ h => ih m0_ h) m0_ h
theorem f_X8_nextToAny_fr {n : Nat} {k0 : Nat} {a1 : Int32} {s : hq_S} {y : (Int32 × hq_S)} (m0_ : hq_isS k0) (h : f_X8_nextToAny n k0 a1 s = some y) : hq_fx s y.2 := by
  unfold f_X8_nextToAny at h
  have bm0_ := hq_leS m0_
  have t := hq_fx_rf s
  exact hq_fx_tr t (f_X8_nextToAny_L4_fr m0_ h)
theorem f_X7_goOn_L10_B_fr {n : Nat} {k0 : Nat} {a1 : Int32} {a2 : Int32} {k3 : Nat} {a4 : Int32} {a5 : Int32} {q10 : Nat → Int32 → Int32 → Nat → Int32 → Int32 → hq_S → Option hq_S} {s : hq_S} {y : hq_S} (e10 : ∀ (k0 : Nat) (a1 : Int32) (a2 : Int32) (k3 : Nat) (a4 : Int32) (a5 : Int32) (s : hq_S) (m0_ : hq_isS k0) (wk3 : k3 < 174), q10 k0 a1 a2 k3 a4 a5 s = some y → hq_fx s y) (m0_ : hq_isS k0) (wk3 : k3 < 174) (h : f_X7_goOn_L10_B n q10 k0 a1 a2 k3 a4 a5 s = some y) : hq_fx s y := by
  unfold f_X7_goOn_L10_B at h
  have bm0_ := hq_leS m0_
  have t := hq_fx_rf s
  by_cases c2 : a5 < (hq_gi s k0 0)
  · rw [if_pos c2] at h
    obtain ⟨z3, hz3, h⟩ := hq_bind h
    have t : hq_fx s z3 := by
      clear h
      have h := hz3
      by_cases c4 : ((a4 >>> (a5 &&& 31)) &&& (1 : Int32)) = (1 : Int32)
      · rw [if_pos c4] at h
        obtain ⟨x5, hx5, h⟩ := hq_bind h
        obtain ⟨s6, hs6, h⟩ := hq_bind h
        have t := hq_fx_tr t (hq_fx_stiA hs6 (by first | decide | omega))
        cases h
        exact t
      · rw [if_neg c4] at h
        cases h
        exact t
    exact hq_fx_tr t (e10 k0 a1 a2 k3 a4 (a5 + (1 : Int32)) z3 m0_ (by first | decide | omega) h)
  · rw [if_neg c2] at h
    have h := Option.some.inj h
    subst h
    exact t
theorem f_X7_goOn_L10_fr {n m : Nat} {k0 : Nat} {a1 : Int32} {a2 : Int32} {k3 : Nat} {a4 : Int32} {a5 : Int32} {s : hq_S} {y : hq_S} (m0_ : hq_isS k0) (wk3 : k3 < 174) (h : f_X7_goOn_L10 n m k0 a1 a2 k3 a4 a5 s = some y) : hq_fx s y := by
  induction m generalizing k0 a1 a2 k3 a4 a5 s with
  | zero => cases h
  | succ m ih => exact f_X7_goOn_L10_B_fr (n := n) (k0 := k0) (a1 := a1) (a2 := a2) (k3 := k3) (a4 := a4) (a5 := a5) (q10 := f_X7_goOn_L10 n m) (fun k0 a1 a2 k3 a4 a5 s m0_ wk3 h => ih m0_ wk3 h) m0_ wk3 h
theorem f_X7_goOn_fr {n : Nat} {k0 : Nat} {a1 : Int32} {a2 : Int32} {k3 : Nat} {s : hq_S} {y : hq_S} (m0_ : hq_isS k0) (wk3 : k3 < 174) (h : f_X7_goOn n k0 a1 a2 k3 s = some y) : hq_fx s y := by
  unfold f_X7_goOn at h
  have bm0_ := hq_leS m0_
  have t := hq_fx_rf s
  obtain ⟨y1, hy1, h⟩ := hq_bind h
  have t := hq_fx_tr t (f_X8_nextToAny_fr m0_ hy1)
  exact hq_fx_tr t (f_X7_goOn_L10_fr m0_ (by first | decide | omega) h)
theorem f_X7_lanesOfRound_L122_B_fr {n : Nat} {k1 : Nat} {a2 : Int32} {a3 : Int32} {k5 : Nat} {k6 : Nat} {a7 : Int32} {a8 : Int32} {q60 : Nat → Int32 → Int32 → Nat → Nat → Int32 → hq_S → Option (Int32 × hq_S)} {q122 : Nat → Int32 → Int32 → Nat → Nat → Int32 → Int32 → hq_S → Option (Int32 × hq_S)} {s : hq_S} {y : (Int32 × hq_S)} (e60 : ∀ (k1 : Nat) (a2 : Int32) (a3 : Int32) (k5 : Nat) (k6 : Nat) (a7 : Int32) (o8 : Option Value) (s : hq_S) (m1_ : hq_isS k1) (wk5 : k5 < 174) (wk6 : k6 < 174), q60 k1 a2 a3 k5 k6 a7 s = some y → hq_fx s y.2) (e122 : ∀ (k1 : Nat) (a2 : Int32) (a3 : Int32) (k5 : Nat) (k6 : Nat) (a7 : Int32) (a8 : Int32) (s : hq_S) (m1_ : hq_isS k1) (wk5 : k5 < 174) (wk6 : k6 < 174), q122 k1 a2 a3 k5 k6 a7 a8 s = some y → hq_fx s y.2) (m1_ : hq_isS k1) (wk5 : k5 < 174) (wk6 : k6 < 174) (h : f_X7_lanesOfRound_L122_B n q60 q122 k1 a2 a3 k5 k6 a7 a8 s = some y) : hq_fx s y.2 := by
  unfold f_X7_lanesOfRound_L122_B at h
  have bm1_ := hq_leS m1_
  have t := hq_fx_rf s
  by_cases c10 : a3 < a8
  · rw [if_pos c10] at h
    exact hq_fx_tr t (e60 k1 a2 a3 k6 k5 (a7 + (1 : Int32)) none s m1_ (by first | decide | omega) (by first | decide | omega) h)
  · rw [if_neg c10] at h
    obtain ⟨x11, hx11, h⟩ := hq_bind h
    obtain ⟨x12, hx12, h⟩ := hq_bind h
    obtain ⟨s13, hs13, h⟩ := hq_bind h
    have t := hq_fx_tr t (hq_fx_stiA hs13 (by first | decide | omega))
    obtain ⟨x14, hx14, h⟩ := hq_bind h
    obtain ⟨x15, hx15, h⟩ := hq_bind h
    obtain ⟨s16, hs16, h⟩ := hq_bind h
    have t := hq_fx_tr t (hq_fx_st hs16 (by first | decide | omega))
    exact hq_fx_tr t (e122 k1 a2 a3 k5 k6 a7 (a8 + (1 : Int32)) s16 m1_ (by first | decide | omega) (by first | decide | omega) h)
theorem f_X7_lanesOfRound_L122_fr {n m : Nat} {k1 : Nat} {a2 : Int32} {a3 : Int32} {k5 : Nat} {k6 : Nat} {a7 : Int32} {a8 : Int32} {q60 : Nat → Int32 → Int32 → Nat → Nat → Int32 → hq_S → Option (Int32 × hq_S)} {s : hq_S} {y : (Int32 × hq_S)} (e60 : ∀ (k1 : Nat) (a2 : Int32) (a3 : Int32) (k5 : Nat) (k6 : Nat) (a7 : Int32) (o8 : Option Value) (s : hq_S) (m1_ : hq_isS k1) (wk5 : k5 < 174) (wk6 : k6 < 174), q60 k1 a2 a3 k5 k6 a7 s = some y → hq_fx s y.2) (m1_ : hq_isS k1) (wk5 : k5 < 174) (wk6 : k6 < 174) (h : f_X7_lanesOfRound_L122 n q60 m k1 a2 a3 k5 k6 a7 a8 s = some y) : hq_fx s y.2 := by
  induction m generalizing k1 a2 a3 k5 k6 a7 a8 s with
  | zero => cases h
  | succ m ih => exact f_X7_lanesOfRound_L122_B_fr (n := n) (k1 := k1) (a2 := a2) (a3 := a3) (k5 := k5) (k6 := k6) (a7 := a7) (a8 := a8) (q122 := f_X7_lanesOfRound_L122 n q60 m) e60 (fun k1 a2 a3 k5 k6 a7 a8 s m1_ wk5 wk6 h => ih m1_ wk5 wk6 h) m1_ wk5 wk6 h
theorem f_X7_lanesOfRound_L86_B_fr {n : Nat} {k1 : Nat} {a2 : Int32} {a3 : Int32} {k5 : Nat} {k6 : Nat} {a7 : Int32} {a8 : Int32} {q60 : Nat → Int32 → Int32 → Nat → Nat → Int32 → hq_S → Option (Int32 × hq_S)} {q86 : Nat → Int32 → Int32 → Nat → Nat → Int32 → Int32 → hq_S → Option (Int32 × hq_S)} {s : hq_S} {y : (Int32 × hq_S)} (e60 : ∀ (k1 : Nat) (a2 : Int32) (a3 : Int32) (k5 : Nat) (k6 : Nat) (a7 : Int32) (o8 : Option Value) (s : hq_S) (m1_ : hq_isS k1) (wk5 : k5 < 174) (wk6 : k6 < 174), q60 k1 a2 a3 k5 k6 a7 s = some y → hq_fx s y.2) (e86 : ∀ (k1 : Nat) (a2 : Int32) (a3 : Int32) (k5 : Nat) (k6 : Nat) (a7 : Int32) (a8 : Int32) (s : hq_S) (m1_ : hq_isS k1) (wk5 : k5 < 174) (wk6 : k6 < 174), q86 k1 a2 a3 k5 k6 a7 a8 s = some y → hq_fx s y.2) (m1_ : hq_isS k1) (wk5 : k5 < 174) (wk6 : k6 < 174) (h : f_X7_lanesOfRound_L86_B n q60 q86 k1 a2 a3 k5 k6 a7 a8 s = some y) : hq_fx s y.2 := by
  unfold f_X7_lanesOfRound_L86_B at h
  have bm1_ := hq_leS m1_
  have t := hq_fx_rf s
  by_cases c9 : a3 < a8
  · rw [if_pos c9] at h
    exact hq_fx_tr t (f_X7_lanesOfRound_L122_fr e60 m1_ (by first | decide | omega) (by first | decide | omega) h)
  · rw [if_neg c9] at h
    obtain ⟨x17, hx17, h⟩ := hq_bind h
    obtain ⟨z18, hz18, h⟩ := hq_bind h
    have t : hq_fx s z18 := by
      clear h
      have h := hz18
      by_cases c19 : x17 = 0
      · rw [if_pos c19] at h
        cases h
        exact t
      · rw [if_neg c19] at h
        obtain ⟨x20, hx20, h⟩ := hq_bind h
        obtain ⟨s21, hs21, h⟩ := hq_bind h
        have t := hq_fx_tr t (f_X7_goOn_fr m1_ (by first | decide | omega) hs21)
        cases h
        exact t
    exact hq_fx_tr t (e86 k1 a2 a3 k5 k6 a7 (a8 + (1 : Int32)) z18 m1_ (by first | decide | omega) (by first | decide | omega) h)
theorem f_X7_lanesOfRound_L86_fr {n m : Nat} {k1 : Nat} {a2 : Int32} {a3 : Int32} {k5 : Nat} {k6 : Nat} {a7 : Int32} {a8 : Int32} {q60 : Nat → Int32 → Int32 → Nat → Nat → Int32 → hq_S → Option (Int32 × hq_S)} {s : hq_S} {y : (Int32 × hq_S)} (e60 : ∀ (k1 : Nat) (a2 : Int32) (a3 : Int32) (k5 : Nat) (k6 : Nat) (a7 : Int32) (o8 : Option Value) (s : hq_S) (m1_ : hq_isS k1) (wk5 : k5 < 174) (wk6 : k6 < 174), q60 k1 a2 a3 k5 k6 a7 s = some y → hq_fx s y.2) (m1_ : hq_isS k1) (wk5 : k5 < 174) (wk6 : k6 < 174) (h : f_X7_lanesOfRound_L86 n q60 m k1 a2 a3 k5 k6 a7 a8 s = some y) : hq_fx s y.2 := by
  induction m generalizing k1 a2 a3 k5 k6 a7 a8 s with
  | zero => cases h
  | succ m ih => exact f_X7_lanesOfRound_L86_B_fr (n := n) (k1 := k1) (a2 := a2) (a3 := a3) (k5 := k5) (k6 := k6) (a7 := a7) (a8 := a8) (q86 := f_X7_lanesOfRound_L86 n q60 m) e60 (fun k1 a2 a3 k5 k6 a7 a8 s m1_ wk5 wk6 h => ih m1_ wk5 wk6 h) m1_ wk5 wk6 h
theorem f_X7_lanesOfRound_L60_B_fr {n : Nat} {k1 : Nat} {a2 : Int32} {a3 : Int32} {k5 : Nat} {k6 : Nat} {a7 : Int32} {q60 : Nat → Int32 → Int32 → Nat → Nat → Int32 → hq_S → Option (Int32 × hq_S)} {s : hq_S} {y : (Int32 × hq_S)} (e60 : ∀ (k1 : Nat) (a2 : Int32) (a3 : Int32) (k5 : Nat) (k6 : Nat) (a7 : Int32) (o8 : Option Value) (s : hq_S) (m1_ : hq_isS k1) (wk5 : k5 < 174) (wk6 : k6 < 174), q60 k1 a2 a3 k5 k6 a7 s = some y → hq_fx s y.2) (m1_ : hq_isS k1) (wk5 : k5 < 174) (wk6 : k6 < 174) (h : f_X7_lanesOfRound_L60_B n q60 k1 a2 a3 k5 k6 a7 s = some y) : hq_fx s y.2 := by
  unfold f_X7_lanesOfRound_L60_B at h
  have bm1_ := hq_leS m1_
  have t := hq_fx_rf s
  by_cases c5 : (100 : Int32) < a7
  · rw [if_pos c5] at h
    have h := Option.some.inj h
    subst h
    exact t
  · rw [if_neg c5] at h
    obtain ⟨x6, hx6, h⟩ := hq_bind h
    by_cases c7 : x6 = 0
    · rw [if_pos c7] at h
      obtain ⟨s8, hs8, h⟩ := hq_bind h
      have t := hq_fx_tr t (f_J7_fill_53178_fr (by first | decide | omega) hs8)
      exact hq_fx_tr t (f_X7_lanesOfRound_L86_fr e60 m1_ (by first | decide | omega) (by first | decide | omega) h)
    · rw [if_neg c7] at h
      have h := Option.some.inj h
      subst h
      exact t
theorem f_X7_lanesOfRound_L60_fr {n m : Nat} {k1 : Nat} {a2 : Int32} {a3 : Int32} {k5 : Nat} {k6 : Nat} {a7 : Int32} {s : hq_S} {y : (Int32 × hq_S)} (m1_ : hq_isS k1) (wk5 : k5 < 174) (wk6 : k6 < 174) (h : f_X7_lanesOfRound_L60 n m k1 a2 a3 k5 k6 a7 s = some y) : hq_fx s y.2 := by
  induction m generalizing k1 a2 a3 k5 k6 a7 s with
  | zero => cases h
  | succ m ih => exact f_X7_lanesOfRound_L60_B_fr (n := n) (k1 := k1) (a2 := a2) (a3 := a3) (k5 := k5) (k6 := k6) (a7 := a7) (q60 := f_X7_lanesOfRound_L60 n m) (fun k1 a2 a3 k5 k6 a7 _ s m1_ wk5 wk6 h => ih m1_ wk5 wk6 h) m1_ wk5 wk6 h
theorem f_X7_lanesOfRound_fr {n : Nat} {k1 : Nat} {a2 : Int32} {s : hq_S} {y : (Int32 × hq_S)} (m1_ : hq_isS k1) (h : f_X7_lanesOfRound n k1 a2 s = some y) : hq_fx s y.2 := by
  unfold f_X7_lanesOfRound at h
  have bm1_ := hq_leS m1_
  have t := hq_fx_rf s
  obtain ⟨s1, hs1, h⟩ := hq_bind h
  have t := hq_fx_tr t (f_J7_fill_53178_fr (by first | decide | omega) hs1)
  obtain ⟨s2, hs2, h⟩ := hq_bind h
  have t := hq_fx_tr t (f_J7_fill_53178_fr (by first | decide | omega) hs2)
  obtain ⟨s3, hs3, h⟩ := hq_bind h
  have t := hq_fx_tr t (hq_fx_st hs3 (by first | decide | omega))
  obtain ⟨s4, hs4, h⟩ := hq_bind h
  have t := hq_fx_tr t (hq_fx_st hs4 (by first | decide | omega))
  exact hq_fx_tr t (f_X7_lanesOfRound_L60_fr m1_ (by first | decide | omega) (by first | decide | omega) h)
theorem f_X8_measureFrom_L56_B_fr {n : Nat} {k0 : Nat} {a1 : Int32} {a2 : Int32} {a3 : Int32} {a4 : Int32} {a5 : Int32} {a6 : Int32} {q41 : Nat → Int32 → Int32 → Int32 → Int32 → Int32 → hq_S → Option hq_S} {q56 : Nat → Int32 → Int32 → Int32 → Int32 → Int32 → Int32 → hq_S → Option hq_S} {s : hq_S} {y : hq_S} (e41 : ∀ (k0 : Nat) (a1 : Int32) (a2 : Int32) (a3 : Int32) (a4 : Int32) (a5 : Int32) (o6 : Option Value) (s : hq_S) (m0_ : hq_isS k0), q41 k0 a1 a2 a3 a4 a5 s = some y → hq_fx s y) (e56 : ∀ (k0 : Nat) (a1 : Int32) (a2 : Int32) (a3 : Int32) (a4 : Int32) (a5 : Int32) (a6 : Int32) (s : hq_S) (m0_ : hq_isS k0), q56 k0 a1 a2 a3 a4 a5 a6 s = some y → hq_fx s y) (m0_ : hq_isS k0) (h : f_X8_measureFrom_L56_B n q41 q56 k0 a1 a2 a3 a4 a5 a6 s = some y) : hq_fx s y := by
  unfold f_X8_measureFrom_L56_B at h
  have bm0_ := hq_leS m0_
  have t := hq_fx_rf s
  by_cases c4 : a6 < (hq_gi s k0 0)
  · rw [if_pos c4] at h
    obtain ⟨z6, hz6, h⟩ := hq_bind h
    obtain ⟨s9, hs9, h⟩ := hq_bind h
    have t := hq_fx_tr t (hq_fx_st hs9 (by first | decide | omega))
    exact hq_fx_tr t (e56 k0 a1 a2 a3 a4 a5 (a6 + (1 : Int32)) s9 m0_ h)
  · rw [if_neg c4] at h
    obtain ⟨y5, hy5, h⟩ := hq_bind h
    have t := hq_fx_tr t (f_X8_nextToAny_fr m0_ hy5)
    exact hq_fx_tr t (e41 k0 a1 a2 (a3 ||| a4) (y5.1 &&& ((a3 ||| a4) ^^^ (-1 : Int32))) (a5 + (1 : Int32)) none y5.2 m0_ h)
theorem f_X8_measureFrom_L56_fr {n m : Nat} {k0 : Nat} {a1 : Int32} {a2 : Int32} {a3 : Int32} {a4 : Int32} {a5 : Int32} {a6 : Int32} {q41 : Nat → Int32 → Int32 → Int32 → Int32 → Int32 → hq_S → Option hq_S} {s : hq_S} {y : hq_S} (e41 : ∀ (k0 : Nat) (a1 : Int32) (a2 : Int32) (a3 : Int32) (a4 : Int32) (a5 : Int32) (o6 : Option Value) (s : hq_S) (m0_ : hq_isS k0), q41 k0 a1 a2 a3 a4 a5 s = some y → hq_fx s y) (m0_ : hq_isS k0) (h : f_X8_measureFrom_L56 n q41 m k0 a1 a2 a3 a4 a5 a6 s = some y) : hq_fx s y := by
  induction m generalizing k0 a1 a2 a3 a4 a5 a6 s with
  | zero => cases h
  | succ m ih => exact f_X8_measureFrom_L56_B_fr (n := n) (k0 := k0) (a1 := a1) (a2 := a2) (a3 := a3) (a4 := a4) (a5 := a5) (a6 := a6) (q56 := f_X8_measureFrom_L56 n q41 m) e41 (fun k0 a1 a2 a3 a4 a5 a6 s m0_ h => ih m0_ h) m0_ h
theorem f_X8_measureFrom_L41_B_fr {n : Nat} {k0 : Nat} {a1 : Int32} {a2 : Int32} {a3 : Int32} {a4 : Int32} {a5 : Int32} {q41 : Nat → Int32 → Int32 → Int32 → Int32 → Int32 → hq_S → Option hq_S} {s : hq_S} {y : hq_S} (e41 : ∀ (k0 : Nat) (a1 : Int32) (a2 : Int32) (a3 : Int32) (a4 : Int32) (a5 : Int32) (o6 : Option Value) (s : hq_S) (m0_ : hq_isS k0), q41 k0 a1 a2 a3 a4 a5 s = some y → hq_fx s y) (m0_ : hq_isS k0) (h : f_X8_measureFrom_L41_B n q41 k0 a1 a2 a3 a4 a5 s = some y) : hq_fx s y := by
  unfold f_X8_measureFrom_L41_B at h
  have bm0_ := hq_leS m0_
  have t := hq_fx_rf s
  by_cases c2 : a5 < (10 : Int32)
  · rw [if_pos c2] at h
    by_cases c3 : a4 = 0
    · rw [if_pos c3] at h
      have h := Option.some.inj h
      subst h
      exact t
    · rw [if_neg c3] at h
      exact hq_fx_tr t (f_X8_measureFrom_L56_fr e41 m0_ h)
  · rw [if_neg c2] at h
    have h := Option.some.inj h
    subst h
    exact t
theorem f_X8_measureFrom_L41_fr {n m : Nat} {k0 : Nat} {a1 : Int32} {a2 : Int32} {a3 : Int32} {a4 : Int32} {a5 : Int32} {s : hq_S} {y : hq_S} (m0_ : hq_isS k0) (h : f_X8_measureFrom_L41 n m k0 a1 a2 a3 a4 a5 s = some y) : hq_fx s y := by
  induction m generalizing k0 a1 a2 a3 a4 a5 s with
  | zero => cases h
  | succ m ih => exact f_X8_measureFrom_L41_B_fr (n := n) (k0 := k0) (a1 := a1) (a2 := a2) (a3 := a3) (a4 := a4) (a5 := a5) (q41 := f_X8_measureFrom_L41 n m) (fun k0 a1 a2 a3 a4 a5 _ s m0_ h => ih m0_ h) m0_ h
theorem f_X8_measureFrom_L7_B_fr {n : Nat} {k0 : Nat} {a1 : Int32} {a2 : Int32} {a3 : Int32} {q7 : Nat → Int32 → Int32 → Int32 → hq_S → Option hq_S} {s : hq_S} {y : hq_S} (e7 : ∀ (k0 : Nat) (a1 : Int32) (a2 : Int32) (a3 : Int32) (s : hq_S) (m0_ : hq_isS k0), q7 k0 a1 a2 a3 s = some y → hq_fx s y) (m0_ : hq_isS k0) (h : f_X8_measureFrom_L7_B n q7 k0 a1 a2 a3 s = some y) : hq_fx s y := by
  unfold f_X8_measureFrom_L7_B at h
  have bm0_ := hq_leS m0_
  have t := hq_fx_rf s
  by_cases c1 : a3 < (hq_gi s k0 0)
  · rw [if_pos c1] at h
    obtain ⟨s10, hs10, h⟩ := hq_bind h
    have t := hq_fx_tr t (hq_fx_st hs10 (by first | decide | omega))
    exact hq_fx_tr t (e7 k0 a1 a2 (a3 + (1 : Int32)) s10 m0_ h)
  · rw [if_neg c1] at h
    exact hq_fx_tr t (f_X8_measureFrom_L41_fr m0_ h)
theorem f_X8_measureFrom_L7_fr {n m : Nat} {k0 : Nat} {a1 : Int32} {a2 : Int32} {a3 : Int32} {s : hq_S} {y : hq_S} (m0_ : hq_isS k0) (h : f_X8_measureFrom_L7 n m k0 a1 a2 a3 s = some y) : hq_fx s y := by
  induction m generalizing k0 a1 a2 a3 s with
  | zero => cases h
  | succ m ih => exact f_X8_measureFrom_L7_B_fr (n := n) (k0 := k0) (a1 := a1) (a2 := a2) (a3 := a3) (q7 := f_X8_measureFrom_L7 n m) (fun k0 a1 a2 a3 s m0_ h => ih m0_ h) m0_ h
theorem f_X8_measureFrom_fr {n : Nat} {k0 : Nat} {a1 : Int32} {s : hq_S} {y : hq_S} (m0_ : hq_isS k0) (h : f_X8_measureFrom n k0 a1 s = some y) : hq_fx s y := by
  unfold f_X8_measureFrom at h
  have bm0_ := hq_leS m0_
  have t := hq_fx_rf s
  exact hq_fx_tr t (f_X8_measureFrom_L7_fr m0_ h)
theorem f_X8_build_L127_B_fr {n : Nat} {k0 : Nat} {k1 : Nat} {a2 : Int32} {a3 : Int32} {a4 : Int32} {q127 : Nat → Nat → Int32 → Int32 → Int32 → hq_S → Option hq_S} {s : hq_S} {y : hq_S} (e127 : ∀ (k0 : Nat) (k1 : Nat) (a2 : Int32) (a3 : Int32) (a4 : Int32) (o5 : Option Value) (s : hq_S) (m0_ : hq_isS k0) (m1_ : hq_isT k1), q127 k0 k1 a2 a3 a4 s = some y → hq_fx s y) (m0_ : hq_isS k0) (m1_ : hq_isT k1) (h : f_X8_build_L127_B n q127 k0 k1 a2 a3 a4 s = some y) : hq_fx s y := by
  unfold f_X8_build_L127_B at h
  have bm0_ := hq_leS m0_
  have bm1_ := hq_leT m1_
  have t := hq_fx_rf s
  by_cases c4 : a4 < (hq_gi s k0 0)
  · rw [if_pos c4] at h
    obtain ⟨s5, hs5, h⟩ := hq_bind h
    have t := hq_fx_tr t (f_X8_measureFrom_fr m0_ hs5)
    exact hq_fx_tr t (e127 k0 k1 a2 a3 (a4 + (1 : Int32)) none s5 m0_ m1_ h)
  · rw [if_neg c4] at h
    have h := Option.some.inj h
    subst h
    exact t
theorem f_X8_build_L127_fr {n m : Nat} {k0 : Nat} {k1 : Nat} {a2 : Int32} {a3 : Int32} {a4 : Int32} {s : hq_S} {y : hq_S} (m0_ : hq_isS k0) (m1_ : hq_isT k1) (h : f_X8_build_L127 n m k0 k1 a2 a3 a4 s = some y) : hq_fx s y := by
  induction m generalizing k0 k1 a2 a3 a4 s with
  | zero => cases h
  | succ m ih => exact f_X8_build_L127_B_fr (n := n) (k0 := k0) (k1 := k1) (a2 := a2) (a3 := a3) (a4 := a4) (q127 := f_X8_build_L127 n m) (fun k0 k1 a2 a3 a4 _ s m0_ m1_ h => ih m0_ m1_ h) m0_ m1_ h
theorem f_X8_build_J118_fr {n : Nat} {k0 : Nat} {k1 : Nat} {a2 : Int32} {a3 : Int32} {a4 : Int32} {q19 : Nat → Nat → Int32 → Int32 → Int32 → hq_S → Option hq_S} {s : hq_S} {y : hq_S} (e19 : ∀ (k0 : Nat) (k1 : Nat) (a2 : Int32) (a3 : Int32) (a4 : Int32) (o5 : Option Value) (s : hq_S) (m0_ : hq_isS k0) (m1_ : hq_isT k1), q19 k0 k1 a2 a3 a4 s = some y → hq_fx s y) (m0_ : hq_isS k0) (m1_ : hq_isT k1) (h : f_X8_build_J118 n q19 k0 k1 a2 a3 a4 s = some y) : hq_fx s y := by
  unfold f_X8_build_J118 at h
  have bm0_ := hq_leS m0_
  have bm1_ := hq_leT m1_
  have t := hq_fx_rf s
  exact hq_fx_tr t (e19 k0 k1 a2 a3 (a4 + (1 : Int32)) none s m0_ m1_ h)
theorem f_X8_build_J41_fr {n : Nat} {k0 : Nat} {k1 : Nat} {a2 : Int32} {a3 : Int32} {a4 : Int32} {q19 : Nat → Nat → Int32 → Int32 → Int32 → hq_S → Option hq_S} {s : hq_S} {y : hq_S} (e19 : ∀ (k0 : Nat) (k1 : Nat) (a2 : Int32) (a3 : Int32) (a4 : Int32) (o5 : Option Value) (s : hq_S) (m0_ : hq_isS k0) (m1_ : hq_isT k1), q19 k0 k1 a2 a3 a4 s = some y → hq_fx s y) (m0_ : hq_isS k0) (m1_ : hq_isT k1) (h : f_X8_build_J41 n q19 k0 k1 a2 a3 a4 s = some y) : hq_fx s y := by
  unfold f_X8_build_J41 at h
  have bm0_ := hq_leS m0_
  have bm1_ := hq_leT m1_
  have t := hq_fx_rf s
  obtain ⟨x8, hx8, h⟩ := hq_bind h
  obtain ⟨x9, hx9, h⟩ := hq_bind h
  obtain ⟨x10, hx10, h⟩ := hq_bind h
  obtain ⟨s11, hs11, h⟩ := hq_bind h
  have t := hq_fx_tr t (hq_fx_st hs11 (by first | decide | omega))
  obtain ⟨z12, hz12, h⟩ := hq_bind h
  have t : hq_fx s z12.2 := by
    clear h
    have h := hz12
    by_cases c13 : a3 = 0
    · rw [if_pos c13] at h
      obtain ⟨y14, hy14, h⟩ := hq_bind h
      have t := hq_fx_tr t (f_X10_isOneWay_fr m1_ hy14)
      by_cases c15 : y14.1 = 0
      · rw [if_pos c15] at h
        cases h
        exact t
      · rw [if_neg c15] at h
        cases h
        exact t
    · rw [if_neg c13] at h
      cases h
      exact t
  obtain ⟨x16, hx16, h⟩ := hq_bind h
  obtain ⟨x17, hx17, h⟩ := hq_bind h
  obtain ⟨z18, hz18, h⟩ := hq_bind h
  obtain ⟨s21, hs21, h⟩ := hq_bind h
  have t := hq_fx_tr t (hq_fx_st hs21 (by first | decide | omega))
  exact hq_fx_tr t (f_X8_build_J118_fr e19 m0_ m1_ h)
theorem f_X8_build_L19_B_fr {n : Nat} {k0 : Nat} {k1 : Nat} {a2 : Int32} {a3 : Int32} {a4 : Int32} {q19 : Nat → Nat → Int32 → Int32 → Int32 → hq_S → Option hq_S} {s : hq_S} {y : hq_S} (e19 : ∀ (k0 : Nat) (k1 : Nat) (a2 : Int32) (a3 : Int32) (a4 : Int32) (o5 : Option Value) (s : hq_S) (m0_ : hq_isS k0) (m1_ : hq_isT k1), q19 k0 k1 a2 a3 a4 s = some y → hq_fx s y) (m0_ : hq_isS k0) (m1_ : hq_isT k1) (h : f_X8_build_L19_B n q19 k0 k1 a2 a3 a4 s = some y) : hq_fx s y := by
  unfold f_X8_build_L19_B at h
  have bm0_ := hq_leS m0_
  have bm1_ := hq_leT m1_
  have t := hq_fx_rf s
  by_cases c3 : a4 < (hq_gi s k1 3)
  · rw [if_pos c3] at h
    by_cases c7 : a3 = 0
    · rw [if_pos c7] at h
      by_cases c22 : ((a2 >>> (a4 &&& 31)) &&& (1 : Int32)) = 0
      · rw [if_pos c22] at h
        exact hq_fx_tr t (f_X8_build_J41_fr e19 m0_ m1_ h)
      · rw [if_neg c22] at h
        exact hq_fx_tr t (f_X8_build_J118_fr e19 m0_ m1_ h)
    · rw [if_neg c7] at h
      exact hq_fx_tr t (f_X8_build_J41_fr e19 m0_ m1_ h)
  · rw [if_neg c3] at h
    exact hq_fx_tr t (f_X8_build_L127_fr m0_ m1_ h)
theorem f_X8_build_L19_fr {n m : Nat} {k0 : Nat} {k1 : Nat} {a2 : Int32} {a3 : Int32} {a4 : Int32} {s : hq_S} {y : hq_S} (m0_ : hq_isS k0) (m1_ : hq_isT k1) (h : f_X8_build_L19 n m k0 k1 a2 a3 a4 s = some y) : hq_fx s y := by
  induction m generalizing k0 k1 a2 a3 a4 s with
  | zero => cases h
  | succ m ih => exact f_X8_build_L19_B_fr (n := n) (k0 := k0) (k1 := k1) (a2 := a2) (a3 := a3) (a4 := a4) (q19 := f_X8_build_L19 n m) (fun k0 k1 a2 a3 a4 _ s m0_ m1_ h => ih m0_ m1_ h) m0_ m1_ h
theorem f_X8_build_fr {n : Nat} {k0 : Nat} {k1 : Nat} {a2 : Int32} {a3 : Int32} {s : hq_S} {y : hq_S} (m0_ : hq_isS k0) (m1_ : hq_isT k1) (h : f_X8_build n k0 k1 a2 a3 s = some y) : hq_fx s y := by
  unfold f_X8_build at h
  have bm0_ := hq_leS m0_
  have bm1_ := hq_leT m1_
  have t := hq_fx_rf s
  obtain ⟨s1, hs1, h⟩ := hq_bind h
  have t := hq_fx_tr t (hq_fx_pi hs1 (by first | decide | omega))
  obtain ⟨s2, hs2, h⟩ := hq_bind h
  have t := hq_fx_tr t (f_J7_fill_53178_fr (by first | decide | omega) hs2)
  exact hq_fx_tr t (f_X8_build_L19_fr m0_ m1_ h)
theorem f_X8_reached_L4_B_fr {n : Nat} {k0 : Nat} {a1 : Int32} {a2 : Int32} {a3 : Int32} {q4 : Nat → Int32 → Int32 → Int32 → hq_S → Option (Int32 × hq_S)} {s : hq_S} {y : (Int32 × hq_S)} (e4 : ∀ (k0 : Nat) (a1 : Int32) (a2 : Int32) (a3 : Int32) (s : hq_S) (m0_ : hq_isS k0), q4 k0 a1 a2 a3 s = some y → hq_fx s y.2) (m0_ : hq_isS k0) (h : f_X8_reached_L4_B n q4 k0 a1 a2 a3 s = some y) : hq_fx s y.2 := by
  unfold f_X8_reached_L4_B at h
  have bm0_ := hq_leS m0_
  have t := hq_fx_rf s
  by_cases c1 : a3 < (hq_gi s k0 0)
  · rw [if_pos c1] at h
    obtain ⟨y2, hy2, h⟩ := hq_bind h
    have t := hq_fx_tr t (f_X8_lanesBetween_fr m0_ hy2)
    obtain ⟨z3, hz3, h⟩ := hq_bind h
    exact hq_fx_tr t (e4 k0 a1 (a2 ||| z3) (a3 + (1 : Int32)) y2.2 m0_ h)
  · rw [if_neg c1] at h
    have h := Option.some.inj h
    subst h
    exact t
theorem f_X8_reached_L4_fr {n m : Nat} {k0 : Nat} {a1 : Int32} {a2 : Int32} {a3 : Int32} {s : hq_S} {y : (Int32 × hq_S)} (m0_ : hq_isS k0) (h : f_X8_reached_L4 n m k0 a1 a2 a3 s = some y) : hq_fx s y.2 := by
  induction m generalizing k0 a1 a2 a3 s with
  | zero => cases h
  | succ m ih => exact f_X8_reached_L4_B_fr (n := n) (k0 := k0) (a1 := a1) (a2 := a2) (a3 := a3) (q4 := f_X8_reached_L4 n m) (fun k0 a1 a2 a3 s m0_ h => ih m0_ h) m0_ h
theorem f_X8_reached_fr {n : Nat} {k0 : Nat} {a1 : Int32} {s : hq_S} {y : (Int32 × hq_S)} (m0_ : hq_isS k0) (h : f_X8_reached n k0 a1 s = some y) : hq_fx s y.2 := by
  unfold f_X8_reached at h
  have bm0_ := hq_leS m0_
  have t := hq_fx_rf s
  exact hq_fx_tr t (f_X8_reached_L4_fr m0_ h)
theorem f_X8_howManyParts_L17_B_fr {n : Nat} {k0 : Nat} {a1 : Int32} {a2 : Int32} {a3 : Int32} {a4 : Int32} {q4 : Nat → Int32 → Int32 → hq_S → Option (Int32 × hq_S)} {q17 : Nat → Int32 → Int32 → Int32 → Int32 → hq_S → Option (Int32 × hq_S)} {s : hq_S} {y : (Int32 × hq_S)} (e4 : ∀ (k0 : Nat) (a1 : Int32) (a2 : Int32) (o3 : Option Value) (o4 : Option Value) (s : hq_S) (m0_ : hq_isS k0), q4 k0 a1 a2 s = some y → hq_fx s y.2) (e17 : ∀ (k0 : Nat) (a1 : Int32) (a2 : Int32) (a3 : Int32) (a4 : Int32) (s : hq_S) (m0_ : hq_isS k0), q17 k0 a1 a2 a3 a4 s = some y → hq_fx s y.2) (m0_ : hq_isS k0) (h : f_X8_howManyParts_L17_B n q4 q17 k0 a1 a2 a3 a4 s = some y) : hq_fx s y.2 := by
  unfold f_X8_howManyParts_L17_B at h
  have bm0_ := hq_leS m0_
  have t := hq_fx_rf s
  by_cases c2 : a4 < a2
  · rw [if_pos c2] at h
    obtain ⟨y5, hy5, h⟩ := hq_bind h
    have t := hq_fx_tr t (f_X8_lanesBetween_fr m0_ hy5)
    obtain ⟨z6, hz6, h⟩ := hq_bind h
    have t : hq_fx s z6.2 := by
      clear h
      have h := hz6
      by_cases c7 : y5.1 = (99 : Int32)
      · rw [if_pos c7] at h
        cases h
        exact t
      · rw [if_neg c7] at h
        obtain ⟨y8, hy8, h⟩ := hq_bind h
        have t := hq_fx_tr t (f_X8_lanesBetween_fr m0_ hy8)
        by_cases c9 : y8.1 = (99 : Int32)
        · rw [if_pos c9] at h
          cases h
          exact t
        · rw [if_neg c9] at h
          cases h
          exact t
    exact hq_fx_tr t (e17 k0 a1 a2 (a3 &&& z6.1) (a4 + (1 : Int32)) z6.2 m0_ h)
  · rw [if_neg c2] at h
    obtain ⟨z3, hz3, h⟩ := hq_bind h
    exact hq_fx_tr t (e4 k0 (a1 + z3) (a2 + (1 : Int32)) none none s m0_ h)
theorem f_X8_howManyParts_L17_fr {n m : Nat} {k0 : Nat} {a1 : Int32} {a2 : Int32} {a3 : Int32} {a4 : Int32} {q4 : Nat → Int32 → Int32 → hq_S → Option (Int32 × hq_S)} {s : hq_S} {y : (Int32 × hq_S)} (e4 : ∀ (k0 : Nat) (a1 : Int32) (a2 : Int32) (o3 : Option Value) (o4 : Option Value) (s : hq_S) (m0_ : hq_isS k0), q4 k0 a1 a2 s = some y → hq_fx s y.2) (m0_ : hq_isS k0) (h : f_X8_howManyParts_L17 n q4 m k0 a1 a2 a3 a4 s = some y) : hq_fx s y.2 := by
  induction m generalizing k0 a1 a2 a3 a4 s with
  | zero => cases h
  | succ m ih => exact f_X8_howManyParts_L17_B_fr (n := n) (k0 := k0) (a1 := a1) (a2 := a2) (a3 := a3) (a4 := a4) (q17 := f_X8_howManyParts_L17 n q4 m) e4 (fun k0 a1 a2 a3 a4 s m0_ h => ih m0_ h) m0_ h
theorem f_X8_howManyParts_L4_B_fr {n : Nat} {k0 : Nat} {a1 : Int32} {a2 : Int32} {q4 : Nat → Int32 → Int32 → hq_S → Option (Int32 × hq_S)} {s : hq_S} {y : (Int32 × hq_S)} (e4 : ∀ (k0 : Nat) (a1 : Int32) (a2 : Int32) (o3 : Option Value) (o4 : Option Value) (s : hq_S) (m0_ : hq_isS k0), q4 k0 a1 a2 s = some y → hq_fx s y.2) (m0_ : hq_isS k0) (h : f_X8_howManyParts_L4_B n q4 k0 a1 a2 s = some y) : hq_fx s y.2 := by
  unfold f_X8_howManyParts_L4_B at h
  have bm0_ := hq_leS m0_
  have t := hq_fx_rf s
  by_cases c1 : a2 < (hq_gi s k0 0)
  · rw [if_pos c1] at h
    exact hq_fx_tr t (f_X8_howManyParts_L17_fr e4 m0_ h)
  · rw [if_neg c1] at h
    have h := Option.some.inj h
    subst h
    exact t
theorem f_X8_howManyParts_L4_fr {n m : Nat} {k0 : Nat} {a1 : Int32} {a2 : Int32} {s : hq_S} {y : (Int32 × hq_S)} (m0_ : hq_isS k0) (h : f_X8_howManyParts_L4 n m k0 a1 a2 s = some y) : hq_fx s y.2 := by
  induction m generalizing k0 a1 a2 s with
  | zero => cases h
  | succ m ih => exact f_X8_howManyParts_L4_B_fr (n := n) (k0 := k0) (a1 := a1) (a2 := a2) (q4 := f_X8_howManyParts_L4 n m) (fun k0 a1 a2 _ _ s m0_ h => ih m0_ h) m0_ h
theorem f_X8_howManyParts_fr {n : Nat} {k0 : Nat} {s : hq_S} {y : (Int32 × hq_S)} (m0_ : hq_isS k0) (h : f_X8_howManyParts n k0 s = some y) : hq_fx s y.2 := by
  unfold f_X8_howManyParts at h
  have bm0_ := hq_leS m0_
  have t := hq_fx_rf s
  exact hq_fx_tr t (f_X8_howManyParts_L4_fr m0_ h)
theorem f_J7_fill_d0a16_L6_B_fr {n : Nat} {k0 : Nat} {j1 : Int64} {a3 : Int32} {a4 : Int32} {q6 : Nat → Int64 → Int32 → Int32 → hq_S → Option hq_S} {s : hq_S} {y : hq_S} (e6 : ∀ (k0 : Nat) (j1 : Int64) (a3 : Int32) (a4 : Int32) (s : hq_S) (wk0 : k0 < 174), q6 k0 j1 a3 a4 s = some y → hq_fx s y) (wk0 : k0 < 174) (h : f_J7_fill_d0a16_L6_B n q6 k0 j1 a3 a4 s = some y) : hq_fx s y := by
  unfold f_J7_fill_d0a16_L6_B at h
  have t := hq_fx_rf s
  by_cases c2 : a3 < a4
  · rw [if_pos c2] at h
    obtain ⟨s3, hs3, h⟩ := hq_bind h
    have t := hq_fx_tr t (hq_fx_stjA hs3 (by first | decide | omega))
    exact hq_fx_tr t (e6 k0 j1 (a3 + (1 : Int32)) a4 s3 (by first | decide | omega) h)
  · rw [if_neg c2] at h
    have h := Option.some.inj h
    subst h
    exact t
theorem f_J7_fill_d0a16_L6_fr {n m : Nat} {k0 : Nat} {j1 : Int64} {a3 : Int32} {a4 : Int32} {s : hq_S} {y : hq_S} (wk0 : k0 < 174) (h : f_J7_fill_d0a16_L6 n m k0 j1 a3 a4 s = some y) : hq_fx s y := by
  induction m generalizing k0 j1 a3 a4 s with
  | zero => cases h
  | succ m ih => exact f_J7_fill_d0a16_L6_B_fr (n := n) (k0 := k0) (j1 := j1) (a3 := a3) (a4 := a4) (q6 := f_J7_fill_d0a16_L6 n m) (fun k0 j1 a3 a4 s wk0 h => ih wk0 h) wk0 h
theorem f_J7_fill_d0a16_fr {n : Nat} {k0 : Nat} {j1 : Int64} {s : hq_S} {y : hq_S} (wk0 : k0 < 174) (h : f_J7_fill_d0a16 n k0 j1 s = some y) : hq_fx s y := by
  unfold f_J7_fill_d0a16 at h
  have t := hq_fx_rf s
  obtain ⟨x1, hx1, h⟩ := hq_bind h
  exact hq_fx_tr t (f_J7_fill_d0a16_L6_fr (by first | decide | omega) h)
theorem f_X8_shareOut_L39_B_fr {n : Nat} {k0 : Nat} {a1 : Int32} {a2 : Int32} {a3 : Int32} {j4 : Int64} {a6 : Int32} {q39 : Nat → Int32 → Int32 → Int32 → Int64 → Int32 → hq_S → Option hq_S} {s : hq_S} {y : hq_S} (e39 : ∀ (k0 : Nat) (a1 : Int32) (a2 : Int32) (a3 : Int32) (j4 : Int64) (a6 : Int32) (s : hq_S) (m0_ : hq_isS k0), q39 k0 a1 a2 a3 j4 a6 s = some y → hq_fx s y) (m0_ : hq_isS k0) (h : f_X8_shareOut_L39_B n q39 k0 a1 a2 a3 j4 a6 s = some y) : hq_fx s y := by
  unfold f_X8_shareOut_L39_B at h
  have bm0_ := hq_leS m0_
  have t := hq_fx_rf s
  by_cases c6 : a6 < (hq_gi s k0 0)
  · rw [if_pos c6] at h
    obtain ⟨x7, hx7, h⟩ := hq_bind h
    obtain ⟨z8, hz8, h⟩ := hq_bind h
    obtain ⟨s10, hs10, h⟩ := hq_bind h
    have t := hq_fx_tr t (hq_fx_stj hs10 (by first | decide | omega))
    exact hq_fx_tr t (e39 k0 a1 a2 a3 j4 (a6 + (1 : Int32)) s10 m0_ h)
  · rw [if_neg c6] at h
    have h := Option.some.inj h
    subst h
    exact t
theorem f_X8_shareOut_L39_fr {n m : Nat} {k0 : Nat} {a1 : Int32} {a2 : Int32} {a3 : Int32} {j4 : Int64} {a6 : Int32} {s : hq_S} {y : hq_S} (m0_ : hq_isS k0) (h : f_X8_shareOut_L39 n m k0 a1 a2 a3 j4 a6 s = some y) : hq_fx s y := by
  induction m generalizing k0 a1 a2 a3 j4 a6 s with
  | zero => cases h
  | succ m ih => exact f_X8_shareOut_L39_B_fr (n := n) (k0 := k0) (a1 := a1) (a2 := a2) (a3 := a3) (j4 := j4) (a6 := a6) (q39 := f_X8_shareOut_L39 n m) (fun k0 a1 a2 a3 j4 a6 s m0_ h => ih m0_ h) m0_ h
theorem f_X8_shareOut_fr {n : Nat} {k0 : Nat} {a1 : Int32} {s : hq_S} {y : hq_S} (m0_ : hq_isS k0) (h : f_X8_shareOut n k0 a1 s = some y) : hq_fx s y := by
  unfold f_X8_shareOut at h
  have bm0_ := hq_leS m0_
  have t := hq_fx_rf s
  obtain ⟨x1, hx1, h⟩ := hq_bind h
  obtain ⟨y2, hy2, h⟩ := hq_bind h
  have t := hq_fx_tr t (f_J6_bitCount_0f7a4_fr hy2)
  by_cases c3 : y2.1 = 0
  · rw [if_pos c3] at h
    have h := Option.some.inj h
    subst h
    exact t
  · rw [if_neg c3] at h
    obtain ⟨x4, hx4, h⟩ := hq_bind h
    obtain ⟨x5, hx5, h⟩ := hq_bind h
    exact hq_fx_tr t (f_X8_shareOut_L39_fr m0_ h)
theorem f_X8_drunkWeight_L50_B_fr {n : Nat} {k0 : Nat} {a1 : Int32} {a2 : Int32} {a3 : Int32} {a4 : Int32} {a5 : Int32} {q18 : Nat → Int32 → Int32 → Int32 → Int32 → hq_S → Option (Int64 × hq_S)} {q50 : Nat → Int32 → Int32 → Int32 → Int32 → Int32 → hq_S → Option (Int64 × hq_S)} {s : hq_S} {y : (Int64 × hq_S)} (e18 : ∀ (k0 : Nat) (a1 : Int32) (a2 : Int32) (a3 : Int32) (a4 : Int32) (o5 : Option Value) (s : hq_S) (m0_ : hq_isS k0), q18 k0 a1 a2 a3 a4 s = some y → hq_fx s y.2) (e50 : ∀ (k0 : Nat) (a1 : Int32) (a2 : Int32) (a3 : Int32) (a4 : Int32) (a5 : Int32) (s : hq_S) (m0_ : hq_isS k0), q50 k0 a1 a2 a3 a4 a5 s = some y → hq_fx s y.2) (m0_ : hq_isS k0) (h : f_X8_drunkWeight_L50_B n q18 q50 k0 a1 a2 a3 a4 a5 s = some y) : hq_fx s y.2 := by
  unfold f_X8_drunkWeight_L50_B at h
  have bm0_ := hq_leS m0_
  have t := hq_fx_rf s
  by_cases c7 : a5 < (hq_gi s k0 0)
  · rw [if_pos c7] at h
    obtain ⟨s8, hs8, h⟩ := hq_bind h
    have t := hq_fx_tr t (f_X8_shareOut_fr m0_ hs8)
    exact hq_fx_tr t (e50 k0 a1 a2 a3 a4 (a5 + (1 : Int32)) s8 m0_ h)
  · rw [if_neg c7] at h
    exact hq_fx_tr t (e18 k0 a1 a2 a3 (a4 + (1 : Int32)) none s m0_ h)
theorem f_X8_drunkWeight_L50_fr {n m : Nat} {k0 : Nat} {a1 : Int32} {a2 : Int32} {a3 : Int32} {a4 : Int32} {a5 : Int32} {q18 : Nat → Int32 → Int32 → Int32 → Int32 → hq_S → Option (Int64 × hq_S)} {s : hq_S} {y : (Int64 × hq_S)} (e18 : ∀ (k0 : Nat) (a1 : Int32) (a2 : Int32) (a3 : Int32) (a4 : Int32) (o5 : Option Value) (s : hq_S) (m0_ : hq_isS k0), q18 k0 a1 a2 a3 a4 s = some y → hq_fx s y.2) (m0_ : hq_isS k0) (h : f_X8_drunkWeight_L50 n q18 m k0 a1 a2 a3 a4 a5 s = some y) : hq_fx s y.2 := by
  induction m generalizing k0 a1 a2 a3 a4 a5 s with
  | zero => cases h
  | succ m ih => exact f_X8_drunkWeight_L50_B_fr (n := n) (k0 := k0) (a1 := a1) (a2 := a2) (a3 := a3) (a4 := a4) (a5 := a5) (q50 := f_X8_drunkWeight_L50 n q18 m) e18 (fun k0 a1 a2 a3 a4 a5 s m0_ h => ih m0_ h) m0_ h
theorem f_X8_drunkWeight_L18_B_fr {n : Nat} {k0 : Nat} {a1 : Int32} {a2 : Int32} {a3 : Int32} {a4 : Int32} {q18 : Nat → Int32 → Int32 → Int32 → Int32 → hq_S → Option (Int64 × hq_S)} {s : hq_S} {y : (Int64 × hq_S)} (e18 : ∀ (k0 : Nat) (a1 : Int32) (a2 : Int32) (a3 : Int32) (a4 : Int32) (o5 : Option Value) (s : hq_S) (m0_ : hq_isS k0), q18 k0 a1 a2 a3 a4 s = some y → hq_fx s y.2) (m0_ : hq_isS k0) (h : f_X8_drunkWeight_L18_B n q18 k0 a1 a2 a3 a4 s = some y) : hq_fx s y.2 := by
  unfold f_X8_drunkWeight_L18_B at h
  have bm0_ := hq_leS m0_
  have t := hq_fx_rf s
  by_cases c3 : a4 < a3
  · rw [if_pos c3] at h
    obtain ⟨s5, hs5, h⟩ := hq_bind h
    have t := hq_fx_tr t (hq_fx_cpj hs5 (by first | decide | omega))
    obtain ⟨s6, hs6, h⟩ := hq_bind h
    have t := hq_fx_tr t (f_J7_fill_d0a16_fr (by first | decide | omega) hs6)
    exact hq_fx_tr t (f_X8_drunkWeight_L50_fr e18 m0_ h)
  · rw [if_neg c3] at h
    obtain ⟨x4, hx4, h⟩ := hq_bind h
    have h := Option.some.inj h
    subst h
    exact t
theorem f_X8_drunkWeight_L18_fr {n m : Nat} {k0 : Nat} {a1 : Int32} {a2 : Int32} {a3 : Int32} {a4 : Int32} {s : hq_S} {y : (Int64 × hq_S)} (m0_ : hq_isS k0) (h : f_X8_drunkWeight_L18 n m k0 a1 a2 a3 a4 s = some y) : hq_fx s y.2 := by
  induction m generalizing k0 a1 a2 a3 a4 s with
  | zero => cases h
  | succ m ih => exact f_X8_drunkWeight_L18_B_fr (n := n) (k0 := k0) (a1 := a1) (a2 := a2) (a3 := a3) (a4 := a4) (q18 := f_X8_drunkWeight_L18 n m) (fun k0 a1 a2 a3 a4 _ s m0_ h => ih m0_ h) m0_ h
theorem f_X8_drunkWeight_fr {n : Nat} {k0 : Nat} {a1 : Int32} {a2 : Int32} {a3 : Int32} {s : hq_S} {y : (Int64 × hq_S)} (m0_ : hq_isS k0) (h : f_X8_drunkWeight n k0 a1 a2 a3 s = some y) : hq_fx s y.2 := by
  unfold f_X8_drunkWeight at h
  have bm0_ := hq_leS m0_
  have t := hq_fx_rf s
  obtain ⟨s1, hs1, h⟩ := hq_bind h
  have t := hq_fx_tr t (f_J7_fill_d0a16_fr (by first | decide | omega) hs1)
  obtain ⟨s2, hs2, h⟩ := hq_bind h
  have t := hq_fx_tr t (hq_fx_stj hs2 (by first | decide | omega))
  exact hq_fx_tr t (f_X8_drunkWeight_L18_fr m0_ h)
theorem f_X10_lanesOutOf_L5_B_fr {n : Nat} {k0 : Nat} {a1 : Int32} {a2 : Int32} {a3 : Int32} {a4 : Int32} {q5 : Nat → Int32 → Int32 → Int32 → Int32 → hq_S → Option (Int32 × hq_S)} {s : hq_S} {y : (Int32 × hq_S)} (e5 : ∀ (k0 : Nat) (a1 : Int32) (a2 : Int32) (a3 : Int32) (a4 : Int32) (o5 : Option Value) (o6 : Option Value) (o7 : Option Value) (s : hq_S) (m0_ : hq_isT k0), q5 k0 a1 a2 a3 a4 s = some y → hq_fx s y.2) (m0_ : hq_isT k0) (h : f_X10_lanesOutOf_L5_B n q5 k0 a1 a2 a3 a4 s = some y) : hq_fx s y.2 := by
  unfold f_X10_lanesOutOf_L5_B at h
  have bm0_ := hq_leT m0_
  have t := hq_fx_rf s
  by_cases c1 : a4 < (hq_gi s k0 3)
  · rw [if_pos c1] at h
    obtain ⟨x2, hx2, h⟩ := hq_bind h
    obtain ⟨z3, hz3, h⟩ := hq_bind h
    obtain ⟨x5, hx5, h⟩ := hq_bind h
    obtain ⟨z6, hz6, h⟩ := hq_bind h
    obtain ⟨z8, hz8, h⟩ := hq_bind h
    have t : hq_fx s z8.2 := by
      clear h
      have h := hz8
      by_cases c9 : z3 = 0
      · rw [if_pos c9] at h
        by_cases c10 : z6 = 0
        · rw [if_pos c10] at h
          cases h
          exact t
        · rw [if_neg c10] at h
          by_cases c11 : z3 = 0
          · rw [if_pos c11] at h
            obtain ⟨y12, hy12, h⟩ := hq_bind h
            have t := hq_fx_tr t (f_X10_isOneWay_fr m0_ hy12)
            by_cases c13 : y12.1 = 0
            · rw [if_pos c13] at h
              cases h
              exact t
            · rw [if_neg c13] at h
              cases h
              exact t
          · rw [if_neg c11] at h
            cases h
            exact t
      · rw [if_neg c9] at h
        by_cases c14 : z6 = 0
        · rw [if_pos c14] at h
          cases h
          exact t
        · rw [if_neg c14] at h
          by_cases c15 : z6 = 0
          · rw [if_pos c15] at h
            cases h
            exact t
          · rw [if_neg c15] at h
            by_cases c16 : z3 = 0
            · rw [if_pos c16] at h
              obtain ⟨y17, hy17, h⟩ := hq_bind h
              have t := hq_fx_tr t (f_X10_isOneWay_fr m0_ hy17)
              by_cases c18 : y17.1 = 0
              · rw [if_pos c18] at h
                cases h
                exact t
              · rw [if_neg c18] at h
                cases h
                exact t
            · rw [if_neg c16] at h
              cases h
              exact t
    obtain ⟨z19, hz19, h⟩ := hq_bind h
    exact hq_fx_tr t (e5 k0 a1 a2 (a3 + z19) (a4 + (1 : Int32)) none none none z8.2 m0_ h)
  · rw [if_neg c1] at h
    have h := Option.some.inj h
    subst h
    exact t
theorem f_X10_lanesOutOf_L5_fr {n m : Nat} {k0 : Nat} {a1 : Int32} {a2 : Int32} {a3 : Int32} {a4 : Int32} {s : hq_S} {y : (Int32 × hq_S)} (m0_ : hq_isT k0) (h : f_X10_lanesOutOf_L5 n m k0 a1 a2 a3 a4 s = some y) : hq_fx s y.2 := by
  induction m generalizing k0 a1 a2 a3 a4 s with
  | zero => cases h
  | succ m ih => exact f_X10_lanesOutOf_L5_B_fr (n := n) (k0 := k0) (a1 := a1) (a2 := a2) (a3 := a3) (a4 := a4) (q5 := f_X10_lanesOutOf_L5 n m) (fun k0 a1 a2 a3 a4 _ _ _ s m0_ h => ih m0_ h) m0_ h
theorem f_X10_lanesOutOf_fr {n : Nat} {k0 : Nat} {a1 : Int32} {a2 : Int32} {s : hq_S} {y : (Int32 × hq_S)} (m0_ : hq_isT k0) (h : f_X10_lanesOutOf n k0 a1 a2 s = some y) : hq_fx s y.2 := by
  unfold f_X10_lanesOutOf at h
  have bm0_ := hq_leT m0_
  have t := hq_fx_rf s
  exact hq_fx_tr t (f_X10_lanesOutOf_L5_fr m0_ h)
theorem f_X10_fewestBars_L7_B_fr {n : Nat} {k0 : Nat} {a1 : Int32} {a2 : Int32} {a3 : Int32} {a4 : Int32} {a5 : Int32} {q7 : Nat → Int32 → Int32 → Int32 → Int32 → Int32 → hq_S → Option (Int32 × hq_S)} {s : hq_S} {y : (Int32 × hq_S)} (e7 : ∀ (k0 : Nat) (a1 : Int32) (a2 : Int32) (a3 : Int32) (a4 : Int32) (a5 : Int32) (s : hq_S) (m0_ : hq_isT k0), q7 k0 a1 a2 a3 a4 a5 s = some y → hq_fx s y.2) (m0_ : hq_isT k0) (h : f_X10_fewestBars_L7_B n q7 k0 a1 a2 a3 a4 a5 s = some y) : hq_fx s y.2 := by
  unfold f_X10_fewestBars_L7_B at h
  have bm0_ := hq_leT m0_
  have t := hq_fx_rf s
  by_cases c1 : a5 < ((1 : Int32) <<< ((hq_gi s k0 0) &&& 31))
  · rw [if_pos c1] at h
    obtain ⟨z2, hz2, h⟩ := hq_bind h
    have t : hq_fx s z2.2 := by
      clear h
      have h := hz2
      by_cases c3 : ((a5 >>> (a2 &&& 31)) &&& (1 : Int32)) = (1 : Int32)
      · rw [if_pos c3] at h
        by_cases c4 : ((a5 >>> (a3 &&& 31)) &&& (1 : Int32)) = 0
        · rw [if_pos c4] at h
          obtain ⟨y5, hy5, h⟩ := hq_bind h
          have t := hq_fx_tr t (f_X10_lanesOutOf_fr m0_ hy5)
          cases h
          exact t
        · rw [if_neg c4] at h
          cases h
          exact t
      · rw [if_neg c3] at h
        cases h
        exact t
    exact hq_fx_tr t (e7 k0 a1 a2 a3 z2.1 (a5 + (1 : Int32)) z2.2 m0_ h)
  · rw [if_neg c1] at h
    have h := Option.some.inj h
    subst h
    exact t
theorem f_X10_fewestBars_L7_fr {n m : Nat} {k0 : Nat} {a1 : Int32} {a2 : Int32} {a3 : Int32} {a4 : Int32} {a5 : Int32} {s : hq_S} {y : (Int32 × hq_S)} (m0_ : hq_isT k0) (h : f_X10_fewestBars_L7 n m k0 a1 a2 a3 a4 a5 s = some y) : hq_fx s y.2 := by
  induction m generalizing k0 a1 a2 a3 a4 a5 s with
  | zero => cases h
  | succ m ih => exact f_X10_fewestBars_L7_B_fr (n := n) (k0 := k0) (a1 := a1) (a2 := a2) (a3 := a3) (a4 := a4) (a5 := a5) (q7 := f_X10_fewestBars_L7 n m) (fun k0 a1 a2 a3 a4 a5 s m0_ h => ih m0_ h) m0_ h
theorem f_X10_fewestBars_fr {n : Nat} {k0 : Nat} {a1 : Int32} {a2 : Int32} {a3 : Int32} {s : hq_S} {y : (Int32 × hq_S)} (m0_ : hq_isT k0) (h : f_X10_fewestBars n k0 a1 a2 a3 s = some y) : hq_fx s y.2 := by
  unfold f_X10_fewestBars at h
  have bm0_ := hq_leT m0_
  have t := hq_fx_rf s
  exact hq_fx_tr t (f_X10_fewestBars_L7_fr m0_ h)
theorem f_X11_putFour_L3_B_fr {n : Nat} {a1 : Int32} {a2 : Int32} {q3 : Int32 → Int32 → hq_S → Option hq_S} {s : hq_S} {y : hq_S} (e3 : ∀ (a1 : Int32) (a2 : Int32) (s : hq_S), q3 a1 a2 s = some y → hq_fx s y) (h : f_X11_putFour_L3_B n q3 a1 a2 s = some y) : hq_fx s y := by
  unfold f_X11_putFour_L3_B at h
  have t := hq_fx_rf s
  by_cases c1 : a2 < 0
  · rw [if_pos c1] at h
    have h := Option.some.inj h
    subst h
    exact t
  · rw [if_neg c1] at h
    by_cases c2 : (hq_gi s 0 1) < (700 : Int32)
    · rw [if_pos c2] at h
      obtain ⟨s3, hs3, h⟩ := hq_bind h
      have t := hq_fx_tr t (hq_fx_st hs3 (by first | decide | omega))
      obtain ⟨s4, hs4, h⟩ := hq_bind h
      have t := hq_fx_tr t (hq_fx_pi hs4 (by first | decide | omega))
      exact hq_fx_tr t (e3 a1 (a2 + Int32.ofInt (-8)) s4 h)
    · rw [if_neg c2] at h
      have h := Option.some.inj h
      subst h
      exact t
theorem f_X11_putFour_L3_fr {n m : Nat} {a1 : Int32} {a2 : Int32} {s : hq_S} {y : hq_S} (h : f_X11_putFour_L3 n m a1 a2 s = some y) : hq_fx s y := by
  induction m generalizing a1 a2 s with
  | zero => cases h
  | succ m ih => exact f_X11_putFour_L3_B_fr (n := n) (a1 := a1) (a2 := a2) (q3 := f_X11_putFour_L3 n m) (fun a1 a2 s h => ih h) h
theorem f_X11_putFour_fr {n : Nat} {a1 : Int32} {s : hq_S} {y : hq_S} (h : f_X11_putFour n a1 s = some y) : hq_fx s y := by
  unfold f_X11_putFour at h
  have t := hq_fx_rf s
  exact hq_fx_tr t (f_X11_putFour_L3_fr h)
theorem f_X11_feed_fr {n : Nat} {a1 : Int32} {a2 : Int32} {a3 : Int32} {a4 : Int32} {a5 : Int32} {s : hq_S} {y : (Int32 × hq_S)} (h : f_X11_feed n a1 a2 a3 a4 a5 s = some y) : hq_fx s y.2 := by
  unfold f_X11_feed at h
  have t := hq_fx_rf s
  by_cases c1 : (700 : Int32) < ((hq_gi s 0 1) + (20 : Int32))
  · rw [if_pos c1] at h
    have h := Option.some.inj h
    subst h
    exact t
  · rw [if_neg c1] at h
    obtain ⟨s2, hs2, h⟩ := hq_bind h
    have t := hq_fx_tr t (f_X11_putFour_fr hs2)
    obtain ⟨s3, hs3, h⟩ := hq_bind h
    have t := hq_fx_tr t (f_X11_putFour_fr hs3)
    obtain ⟨s4, hs4, h⟩ := hq_bind h
    have t := hq_fx_tr t (f_X11_putFour_fr hs4)
    obtain ⟨s5, hs5, h⟩ := hq_bind h
    have t := hq_fx_tr t (f_X11_putFour_fr hs5)
    obtain ⟨s6, hs6, h⟩ := hq_bind h
    have t := hq_fx_tr t (f_X11_putFour_fr hs6)
    have h := Option.some.inj h
    subst h
    exact t
theorem f_X11_text_fr {n : Nat} {a1 : Int32} {s : hq_S} {y : (Int32 × hq_S)} (h : f_X11_text n a1 s = some y) : hq_fx s y.2 := by
  unfold f_X11_text at h
  have t := hq_fx_rf s
  by_cases c1 : a1 < 0
  · rw [if_pos c1] at h
    have h := Option.some.inj h
    subst h
    exact t
  · rw [if_neg c1] at h
    by_cases c2 : (hq_gi s 0 1) < a1
    · rw [if_pos c2] at h
      have h := Option.some.inj h
      subst h
      exact t
    · rw [if_neg c2] at h
      obtain ⟨s3, hs3, h⟩ := hq_bind h
      have t := hq_fx_tr t (hq_fx_pi hs3 (by first | decide | omega))
      have m4 : hq_isT (hq_gr s3 0 3) := hq_ifT h
      have bm4 := hq_leT m4
      rw [if_pos m4] at h
      obtain ⟨y5, hy5, h⟩ := hq_bind h
      have t := hq_fx_tr t (f_X6_readText_fr m4 (by first | decide | omega) hy5)
      by_cases c6 : y5.1 = 0
      · rw [if_pos c6] at h
        have h := Option.some.inj h
        subst h
        exact t
      · rw [if_neg c6] at h
        have m7 : hq_isT (hq_gr y5.2 0 3) := hq_ifT h
        have bm7 := hq_leT m7
        rw [if_pos m7] at h
        have m8 : hq_isT (hq_gr y5.2 0 2) := hq_ifT h
        have bm8 := hq_leT m8
        rw [if_pos m8] at h
        obtain ⟨s9, hs9, h⟩ := hq_bind h
        have t := hq_fx_tr t (hq_fx_pr hs9 (by first | decide | omega))
        obtain ⟨s10, hs10, h⟩ := hq_bind h
        have t := hq_fx_tr t (hq_fx_pr hs10 (by first | decide | omega))
        have m11 : hq_isT (hq_gr s10 0 2) := hq_ifT h
        have bm11 := hq_leT m11
        rw [if_pos m11] at h
        obtain ⟨s12, hs12, h⟩ := hq_bind h
        have t := hq_fx_tr t (f_X5_copyFrom_fr (by decide) (hq_shT_m14 m11) hs12)
        have m13 : hq_isT (hq_gr s12 0 2) := hq_ifT h
        have bm13 := hq_leT m13
        rw [if_pos m13] at h
        obtain ⟨s14, hs14, h⟩ := hq_bind h
        have t := hq_fx_tr t (f_X8_build_fr (by decide) m13 hs14)
        obtain ⟨s15, hs15, h⟩ := hq_bind h
        have t := hq_fx_tr t (f_X2_clear_fr hs15)
        obtain ⟨s16, hs16, h⟩ := hq_bind h
        have t := hq_fx_tr t (f_X1_clear_fr hs16)
        obtain ⟨s17, hs17, h⟩ := hq_bind h
        have t := hq_fx_tr t (hq_fx_pi hs17 (by first | decide | omega))
        have h := Option.some.inj h
        subst h
        exact t
theorem f_X11_fault_fr {n : Nat} {a1 : Int32} {s : hq_S} {y : (Int32 × hq_S)} (h : f_X11_fault n a1 s = some y) : hq_fx s y.2 := by
  unfold f_X11_fault at h
  have t := hq_fx_rf s
  by_cases c1 : a1 = 0
  · rw [if_pos c1] at h
    have h := Option.some.inj h
    subst h
    exact t
  · rw [if_neg c1] at h
    by_cases c2 : a1 = (1 : Int32)
    · rw [if_pos c2] at h
      have h := Option.some.inj h
      subst h
      exact t
    · rw [if_neg c2] at h
      have h := Option.some.inj h
      subst h
      exact t
theorem f_X11_named_fr {n : Nat} {a1 : Int32} {a2 : Int32} {s : hq_S} {y : (Int32 × hq_S)} (h : f_X11_named n a1 a2 s = some y) : hq_fx s y.2 := by
  unfold f_X11_named at h
  have t := hq_fx_rf s
  by_cases c1 : a1 = 0
  · rw [if_pos c1] at h
    have m10 : hq_isT (hq_gr s 0 2) := hq_ifT h
    have bm10 := hq_leT m10
    rw [if_pos m10] at h
    have m11 : hq_isT (hq_gr s 0 2) := hq_ifT h
    have bm11 := hq_leT m11
    rw [if_pos m11] at h
    obtain ⟨y12, hy12, h⟩ := hq_bind h
    have t := hq_fx_tr t (f_X10_placeOf_fr (by first | decide | omega) hy12)
    have h := Option.some.inj h
    subst h
    exact t
  · rw [if_neg c1] at h
    by_cases c2 : a1 = (1 : Int32)
    · rw [if_pos c2] at h
      have m7 : hq_isT (hq_gr s 0 2) := hq_ifT h
      have bm7 := hq_leT m7
      rw [if_pos m7] at h
      have m8 : hq_isT (hq_gr s 0 2) := hq_ifT h
      have bm8 := hq_leT m8
      rw [if_pos m8] at h
      obtain ⟨y9, hy9, h⟩ := hq_bind h
      have t := hq_fx_tr t (f_X10_placeOf_fr (by first | decide | omega) hy9)
      have h := Option.some.inj h
      subst h
      exact t
    · rw [if_neg c2] at h
      by_cases c3 : a1 = (2 : Int32)
      · rw [if_pos c3] at h
        have m4 : hq_isT (hq_gr s 0 2) := hq_ifT h
        have bm4 := hq_leT m4
        rw [if_pos m4] at h
        have m5 : hq_isT (hq_gr s 0 2) := hq_ifT h
        have bm5 := hq_leT m5
        rw [if_pos m5] at h
        obtain ⟨y6, hy6, h⟩ := hq_bind h
        have t := hq_fx_tr t (f_X10_placeOf_fr (by first | decide | omega) hy6)
        have h := Option.some.inj h
        subst h
        exact t
      · rw [if_neg c3] at h
        have h := Option.some.inj h
        subst h
        exact t
theorem f_X11_isCorner_fr {n : Nat} {a1 : Int32} {s : hq_S} {y : (Int32 × hq_S)} (h : f_X11_isCorner n a1 s = some y) : hq_fx s y.2 := by
  unfold f_X11_isCorner at h
  have t := hq_fx_rf s
  by_cases c1 : a1 < 0
  · rw [if_pos c1] at h
    have h := Option.some.inj h
    subst h
    exact t
  · rw [if_neg c1] at h
    have m2 : hq_isT (hq_gr s 0 2) := hq_ifT h
    have bm2 := hq_leT m2
    rw [if_pos m2] at h
    by_cases c3 : a1 < (hq_gi s (hq_gr s 0 2) 0)
    · rw [if_pos c3] at h
      have h := Option.some.inj h
      subst h
      exact t
    · rw [if_neg c3] at h
      have h := Option.some.inj h
      subst h
      exact t
theorem f_X11_guardsAt_L4_B_fr {n : Nat} {a1 : Int32} {a2 : Int32} {a3 : Int32} {q4 : Int32 → Int32 → Int32 → hq_S → Option (Int32 × hq_S)} {s : hq_S} {y : (Int32 × hq_S)} (e4 : ∀ (a1 : Int32) (a2 : Int32) (a3 : Int32) (s : hq_S), q4 a1 a2 a3 s = some y → hq_fx s y.2) (h : f_X11_guardsAt_L4_B n q4 a1 a2 a3 s = some y) : hq_fx s y.2 := by
  unfold f_X11_guardsAt_L4_B at h
  have t := hq_fx_rf s
  have m1 : hq_isT (hq_gr s 0 2) := hq_ifT h
  have bm1 := hq_leT m1
  rw [if_pos m1] at h
  by_cases c2 : a3 < (hq_gi s (hq_gr s 0 2) 7)
  · rw [if_pos c2] at h
    obtain ⟨x3, hx3, h⟩ := hq_bind h
    obtain ⟨z4, hz4, h⟩ := hq_bind h
    exact hq_fx_tr t (e4 a1 (a2 ||| z4) (a3 + (1 : Int32)) s h)
  · rw [if_neg c2] at h
    have h := Option.some.inj h
    subst h
    exact t
theorem f_X11_guardsAt_L4_fr {n m : Nat} {a1 : Int32} {a2 : Int32} {a3 : Int32} {s : hq_S} {y : (Int32 × hq_S)} (h : f_X11_guardsAt_L4 n m a1 a2 a3 s = some y) : hq_fx s y.2 := by
  induction m generalizing a1 a2 a3 s with
  | zero => cases h
  | succ m ih => exact f_X11_guardsAt_L4_B_fr (n := n) (a1 := a1) (a2 := a2) (a3 := a3) (q4 := f_X11_guardsAt_L4 n m) (fun a1 a2 a3 s h => ih h) h
theorem f_X11_guardsAt_fr {n : Nat} {a1 : Int32} {s : hq_S} {y : (Int32 × hq_S)} (h : f_X11_guardsAt n a1 s = some y) : hq_fx s y.2 := by
  unfold f_X11_guardsAt at h
  have t := hq_fx_rf s
  exact hq_fx_tr t (f_X11_guardsAt_L4_fr h)
theorem f_X11_thievesAt_L4_B_fr {n : Nat} {a1 : Int32} {a2 : Int32} {a3 : Int32} {q4 : Int32 → Int32 → Int32 → hq_S → Option (Int32 × hq_S)} {s : hq_S} {y : (Int32 × hq_S)} (e4 : ∀ (a1 : Int32) (a2 : Int32) (a3 : Int32) (s : hq_S), q4 a1 a2 a3 s = some y → hq_fx s y.2) (h : f_X11_thievesAt_L4_B n q4 a1 a2 a3 s = some y) : hq_fx s y.2 := by
  unfold f_X11_thievesAt_L4_B at h
  have t := hq_fx_rf s
  have m1 : hq_isT (hq_gr s 0 2) := hq_ifT h
  have bm1 := hq_leT m1
  rw [if_pos m1] at h
  by_cases c2 : a3 < (hq_gi s (hq_gr s 0 2) 11)
  · rw [if_pos c2] at h
    obtain ⟨y3, hy3, h⟩ := hq_bind h
    have t := hq_fx_tr t (f_X5_isFree_fr (by decide) hy3)
    obtain ⟨z4, hz4, h⟩ := hq_bind h
    exact hq_fx_tr t (e4 a1 (a2 ||| z4) (a3 + (1 : Int32)) y3.2 h)
  · rw [if_neg c2] at h
    have h := Option.some.inj h
    subst h
    exact t
theorem f_X11_thievesAt_L4_fr {n m : Nat} {a1 : Int32} {a2 : Int32} {a3 : Int32} {s : hq_S} {y : (Int32 × hq_S)} (h : f_X11_thievesAt_L4 n m a1 a2 a3 s = some y) : hq_fx s y.2 := by
  induction m generalizing a1 a2 a3 s with
  | zero => cases h
  | succ m ih => exact f_X11_thievesAt_L4_B_fr (n := n) (a1 := a1) (a2 := a2) (a3 := a3) (q4 := f_X11_thievesAt_L4 n m) (fun a1 a2 a3 s h => ih h) h
theorem f_X11_thievesAt_fr {n : Nat} {a1 : Int32} {s : hq_S} {y : (Int32 × hq_S)} (h : f_X11_thievesAt n a1 s = some y) : hq_fx s y.2 := by
  unfold f_X11_thievesAt at h
  have t := hq_fx_rf s
  exact hq_fx_tr t (f_X11_thievesAt_L4_fr h)
theorem f_X11_isGuard_fr {n : Nat} {a1 : Int32} {s : hq_S} {y : (Int32 × hq_S)} (h : f_X11_isGuard n a1 s = some y) : hq_fx s y.2 := by
  unfold f_X11_isGuard at h
  have t := hq_fx_rf s
  by_cases c1 : a1 < 0
  · rw [if_pos c1] at h
    have h := Option.some.inj h
    subst h
    exact t
  · rw [if_neg c1] at h
    have m2 : hq_isT (hq_gr s 0 2) := hq_ifT h
    have bm2 := hq_leT m2
    rw [if_pos m2] at h
    by_cases c3 : a1 < (hq_gi s (hq_gr s 0 2) 7)
    · rw [if_pos c3] at h
      have h := Option.some.inj h
      subst h
      exact t
    · rw [if_neg c3] at h
      have h := Option.some.inj h
      subst h
      exact t
theorem f_X11_guard_fr {n : Nat} {a1 : Int32} {a2 : Int32} {s : hq_S} {y : (Int32 × hq_S)} (h : f_X11_guard n a1 a2 s = some y) : hq_fx s y.2 := by
  unfold f_X11_guard at h
  have t := hq_fx_rf s
  obtain ⟨y1, hy1, h⟩ := hq_bind h
  have t := hq_fx_tr t (f_X11_isGuard_fr hy1)
  by_cases c2 : y1.1 = 0
  · rw [if_pos c2] at h
    have h := Option.some.inj h
    subst h
    exact t
  · rw [if_neg c2] at h
    by_cases c3 : a2 = (0 : Int32)
    · rw [if_pos c3] at h
      obtain ⟨x4, hx4, h⟩ := hq_bind h
      have h := Option.some.inj h
      subst h
      exact t
    rw [if_neg c3] at h
    by_cases c5 : a2 = (1 : Int32)
    · rw [if_pos c5] at h
      have m6 : hq_isT (hq_gr y1.2 0 2) := hq_ifT h
      have bm6 := hq_leT m6
      rw [if_pos m6] at h
      obtain ⟨x7, hx7, h⟩ := hq_bind h
      by_cases c8 : x7 = 0
      · rw [if_pos c8] at h
        have h := Option.some.inj h
        subst h
        exact t
      · rw [if_neg c8] at h
        obtain ⟨x9, hx9, h⟩ := hq_bind h
        have h := Option.some.inj h
        subst h
        exact t
    rw [if_neg c5] at h
    by_cases c10 : a2 = (2 : Int32)
    · rw [if_pos c10] at h
      obtain ⟨x11, hx11, h⟩ := hq_bind h
      have h := Option.some.inj h
      subst h
      exact t
    rw [if_neg c10] at h
    have h := Option.some.inj h
    subst h
    exact t
theorem f_X11_isThief_fr {n : Nat} {a1 : Int32} {s : hq_S} {y : (Int32 × hq_S)} (h : f_X11_isThief n a1 s = some y) : hq_fx s y.2 := by
  unfold f_X11_isThief at h
  have t := hq_fx_rf s
  by_cases c1 : a1 < 0
  · rw [if_pos c1] at h
    have h := Option.some.inj h
    subst h
    exact t
  · rw [if_neg c1] at h
    have m2 : hq_isT (hq_gr s 0 2) := hq_ifT h
    have bm2 := hq_leT m2
    rw [if_pos m2] at h
    by_cases c3 : a1 < (hq_gi s (hq_gr s 0 2) 11)
    · rw [if_pos c3] at h
      have h := Option.some.inj h
      subst h
      exact t
    · rw [if_neg c3] at h
      have h := Option.some.inj h
      subst h
      exact t
theorem f_X11_thief_fr {n : Nat} {a1 : Int32} {a2 : Int32} {s : hq_S} {y : (Int32 × hq_S)} (h : f_X11_thief n a1 a2 s = some y) : hq_fx s y.2 := by
  unfold f_X11_thief at h
  have t := hq_fx_rf s
  obtain ⟨y1, hy1, h⟩ := hq_bind h
  have t := hq_fx_tr t (f_X11_isThief_fr hy1)
  by_cases c2 : y1.1 = 0
  · rw [if_pos c2] at h
    have h := Option.some.inj h
    subst h
    exact t
  · rw [if_neg c2] at h
    by_cases c3 : a2 = (0 : Int32)
    · rw [if_pos c3] at h
      obtain ⟨x4, hx4, h⟩ := hq_bind h
      have h := Option.some.inj h
      subst h
      exact t
    rw [if_neg c3] at h
    by_cases c5 : a2 = (1 : Int32)
    · rw [if_pos c5] at h
      obtain ⟨x6, hx6, h⟩ := hq_bind h
      have h := Option.some.inj h
      subst h
      exact t
    rw [if_neg c5] at h
    by_cases c7 : a2 = (2 : Int32)
    · rw [if_pos c7] at h
      obtain ⟨x8, hx8, h⟩ := hq_bind h
      have h := Option.some.inj h
      subst h
      exact t
    rw [if_neg c7] at h
    by_cases c9 : a2 = (3 : Int32)
    · rw [if_pos c9] at h
      obtain ⟨x10, hx10, h⟩ := hq_bind h
      have h := Option.some.inj h
      subst h
      exact t
    rw [if_neg c9] at h
    have h := Option.some.inj h
    subst h
    exact t
theorem f_X11_isLane_fr {n : Nat} {a1 : Int32} {s : hq_S} {y : (Int32 × hq_S)} (h : f_X11_isLane n a1 s = some y) : hq_fx s y.2 := by
  unfold f_X11_isLane at h
  have t := hq_fx_rf s
  by_cases c1 : a1 < 0
  · rw [if_pos c1] at h
    have h := Option.some.inj h
    subst h
    exact t
  · rw [if_neg c1] at h
    have m2 : hq_isT (hq_gr s 0 2) := hq_ifT h
    have bm2 := hq_leT m2
    rw [if_pos m2] at h
    by_cases c3 : a1 < (hq_gi s (hq_gr s 0 2) 3)
    · rw [if_pos c3] at h
      have h := Option.some.inj h
      subst h
      exact t
    · rw [if_neg c3] at h
      have h := Option.some.inj h
      subst h
      exact t
theorem f_X11_lane_fr {n : Nat} {a1 : Int32} {a2 : Int32} {s : hq_S} {y : (Int32 × hq_S)} (h : f_X11_lane n a1 a2 s = some y) : hq_fx s y.2 := by
  unfold f_X11_lane at h
  have t := hq_fx_rf s
  obtain ⟨y1, hy1, h⟩ := hq_bind h
  have t := hq_fx_tr t (f_X11_isLane_fr hy1)
  by_cases c2 : y1.1 = 0
  · rw [if_pos c2] at h
    have h := Option.some.inj h
    subst h
    exact t
  · rw [if_neg c2] at h
    by_cases c3 : a2 = (0 : Int32)
    · rw [if_pos c3] at h
      have m4 : hq_isT (hq_gr y1.2 0 2) := hq_ifT h
      have bm4 := hq_leT m4
      rw [if_pos m4] at h
      obtain ⟨x5, hx5, h⟩ := hq_bind h
      have h := Option.some.inj h
      subst h
      exact t
    rw [if_neg c3] at h
    by_cases c6 : a2 = (1 : Int32)
    · rw [if_pos c6] at h
      have m7 : hq_isT (hq_gr y1.2 0 2) := hq_ifT h
      have bm7 := hq_leT m7
      rw [if_pos m7] at h
      obtain ⟨x8, hx8, h⟩ := hq_bind h
      have h := Option.some.inj h
      subst h
      exact t
    rw [if_neg c6] at h
    by_cases c9 : a2 = (2 : Int32)
    · rw [if_pos c9] at h
      have m10 : hq_isT (hq_gr y1.2 0 2) := hq_ifT h
      have bm10 := hq_leT m10
      rw [if_pos m10] at h
      have h := Option.some.inj h
      subst h
      exact t
    rw [if_neg c9] at h
    by_cases c11 : a2 = (3 : Int32)
    · rw [if_pos c11] at h
      have h := Option.some.inj h
      subst h
      exact t
    rw [if_neg c11] at h
    have h := Option.some.inj h
    subst h
    exact t
theorem f_X11_law_J29_fr {n : Nat} {a1 : Int32} {a2 : Int32} {a3 : Int32} {s : hq_S} {y : (Int64 × hq_S)} (h : f_X11_law_J29 n a1 a2 a3 s = some y) : hq_fx s y.2 := by
  unfold f_X11_law_J29 at h
  have t := hq_fx_rf s
  have h := Option.some.inj h
  subst h
  exact t
theorem f_X11_law_J33_fr {n : Nat} {a1 : Int32} {a2 : Int32} {a3 : Int32} {s : hq_S} {y : (Int64 × hq_S)} (h : f_X11_law_J33 n a1 a2 a3 s = some y) : hq_fx s y.2 := by
  unfold f_X11_law_J33 at h
  have t := hq_fx_rf s
  have m6 : hq_isT (hq_gr s 0 2) := hq_ifT h
  have bm6 := hq_leT m6
  rw [if_pos m6] at h
  obtain ⟨s7, hs7, h⟩ := hq_bind h
  have t := hq_fx_tr t (f_X3_setUp_fr m6 (by decide) (by decide) hs7)
  obtain ⟨z8, hz8, h⟩ := hq_bind h
  obtain ⟨y11, hy11, h⟩ := hq_bind h
  have t := hq_fx_tr t (f_X3_lawValue_fr hy11)
  have h := Option.some.inj h
  subst h
  exact t
theorem f_X11_law_fr {n : Nat} {a1 : Int32} {a2 : Int32} {a3 : Int32} {s : hq_S} {y : (Int64 × hq_S)} (h : f_X11_law n a1 a2 a3 s = some y) : hq_fx s y.2 := by
  unfold f_X11_law at h
  have t := hq_fx_rf s
  by_cases c1 : a1 < 0
  · rw [if_pos c1] at h
    exact hq_fx_tr t (f_X11_law_J29_fr h)
  · rw [if_neg c1] at h
    by_cases c2 : (2 : Int32) < a1
    · rw [if_pos c2] at h
      exact hq_fx_tr t (f_X11_law_J29_fr h)
    · rw [if_neg c2] at h
      obtain ⟨y3, hy3, h⟩ := hq_bind h
      have t := hq_fx_tr t (f_X11_isThief_fr hy3)
      by_cases c4 : y3.1 = 0
      · rw [if_pos c4] at h
        exact hq_fx_tr t (f_X11_law_J29_fr h)
      · rw [if_neg c4] at h
        by_cases c5 : a1 = 0
        · rw [if_pos c5] at h
          obtain ⟨y12, hy12, h⟩ := hq_bind h
          have t := hq_fx_tr t (f_X11_isCorner_fr hy12)
          by_cases c13 : y12.1 = 0
          · rw [if_pos c13] at h
            exact hq_fx_tr t (f_X11_law_J29_fr h)
          · rw [if_neg c13] at h
            exact hq_fx_tr t (f_X11_law_J33_fr h)
        · rw [if_neg c5] at h
          exact hq_fx_tr t (f_X11_law_J33_fr h)
theorem f_X11_send_fr {n : Nat} {a1 : Int32} {a2 : Int32} {s : hq_S} {y : (Int32 × hq_S)} (h : f_X11_send n a1 a2 s = some y) : hq_fx s y.2 := by
  unfold f_X11_send at h
  have t := hq_fx_rf s
  obtain ⟨y1, hy1, h⟩ := hq_bind h
  have t := hq_fx_tr t (f_X11_isGuard_fr hy1)
  by_cases c2 : y1.1 = 0
  · rw [if_pos c2] at h
    have h := Option.some.inj h
    subst h
    exact t
  · rw [if_neg c2] at h
    obtain ⟨y3, hy3, h⟩ := hq_bind h
    have t := hq_fx_tr t (f_X11_isCorner_fr hy3)
    by_cases c4 : y3.1 = 0
    · rw [if_pos c4] at h
      have h := Option.some.inj h
      subst h
      exact t
    · rw [if_neg c4] at h
      obtain ⟨x5, hx5, h⟩ := hq_bind h
      obtain ⟨x6, hx6, h⟩ := hq_bind h
      by_cases c7 : ((x6 >>> (a2 &&& 31)) &&& (1 : Int32)) = 0
      · rw [if_pos c7] at h
        have h := Option.some.inj h
        subst h
        exact t
      · rw [if_neg c7] at h
        obtain ⟨s8, hs8, h⟩ := hq_bind h
        have t := hq_fx_tr t (f_X1_note_fr hs8)
        obtain ⟨s9, hs9, h⟩ := hq_bind h
        have t := hq_fx_tr t (hq_fx_st hs9 (by first | decide | omega))
        have h := Option.some.inj h
        subst h
        exact t
theorem f_X11_turnBar_fr {n : Nat} {a1 : Int32} {s : hq_S} {y : hq_S} (h : f_X11_turnBar n a1 s = some y) : hq_fx s y := by
  unfold f_X11_turnBar at h
  have t := hq_fx_rf s
  obtain ⟨s1, hs1, h⟩ := hq_bind h
  have t := hq_fx_tr t (hq_fx_pi hs1 (by first | decide | omega))
  have m2 : hq_isT (hq_gr s1 0 2) := hq_ifT h
  have bm2 := hq_leT m2
  rw [if_pos m2] at h
  obtain ⟨s3, hs3, h⟩ := hq_bind h
  have t := hq_fx_tr t (f_X8_build_fr (by decide) m2 hs3)
  have h := Option.some.inj h
  subst h
  exact t
theorem f_X11_bar_fr {n : Nat} {a1 : Int32} {s : hq_S} {y : (Int32 × hq_S)} (h : f_X11_bar n a1 s = some y) : hq_fx s y.2 := by
  unfold f_X11_bar at h
  have t := hq_fx_rf s
  obtain ⟨y1, hy1, h⟩ := hq_bind h
  have t := hq_fx_tr t (f_X11_isLane_fr hy1)
  by_cases c2 : y1.1 = 0
  · rw [if_pos c2] at h
    have h := Option.some.inj h
    subst h
    exact t
  · rw [if_neg c2] at h
    obtain ⟨s3, hs3, h⟩ := hq_bind h
    have t := hq_fx_tr t (f_X1_note_fr hs3)
    obtain ⟨s4, hs4, h⟩ := hq_bind h
    have t := hq_fx_tr t (f_X11_turnBar_fr hs4)
    have h := Option.some.inj h
    subst h
    exact t
theorem f_X11_drop_fr {n : Nat} {a1 : Int32} {a2 : Int32} {s : hq_S} {y : (Int32 × hq_S)} (h : f_X11_drop n a1 a2 s = some y) : hq_fx s y.2 := by
  unfold f_X11_drop at h
  have t := hq_fx_rf s
  obtain ⟨y1, hy1, h⟩ := hq_bind h
  have t := hq_fx_tr t (f_X11_isCorner_fr hy1)
  by_cases c2 : y1.1 = 0
  · rw [if_pos c2] at h
    have h := Option.some.inj h
    subst h
    exact t
  · rw [if_neg c2] at h
    by_cases c3 : a2 < (1 : Int32)
    · rw [if_pos c3] at h
      have h := Option.some.inj h
      subst h
      exact t
    · rw [if_neg c3] at h
      by_cases c4 : (999 : Int32) < a2
      · rw [if_pos c4] at h
        have h := Option.some.inj h
        subst h
        exact t
      · rw [if_neg c4] at h
        obtain ⟨x5, hx5, h⟩ := hq_bind h
        obtain ⟨s6, hs6, h⟩ := hq_bind h
        have t := hq_fx_tr t (f_X1_note_fr hs6)
        obtain ⟨x7, hx7, h⟩ := hq_bind h
        obtain ⟨s8, hs8, h⟩ := hq_bind h
        have t := hq_fx_tr t (hq_fx_st hs8 (by first | decide | omega))
        obtain ⟨x9, hx9, h⟩ := hq_bind h
        have h := Option.some.inj h
        subst h
        exact t
theorem f_X11_go_fr {n : Nat} {a1 : Int32} {s : hq_S} {y : (Int32 × hq_S)} (h : f_X11_go n a1 s = some y) : hq_fx s y.2 := by
  unfold f_X11_go at h
  have t := hq_fx_rf s
  by_cases c1 : a1 < 0
  · rw [if_pos c1] at h
    have h := Option.some.inj h
    subst h
    exact t
  · rw [if_neg c1] at h
    by_cases c2 : (200 : Int32) < a1
    · rw [if_pos c2] at h
      have h := Option.some.inj h
      subst h
      exact t
    · rw [if_neg c2] at h
      by_cases c3 : (9800 : Int32) < ((hq_gi s 76 0) + a1)
      · rw [if_pos c3] at h
        have h := Option.some.inj h
        subst h
        exact t
      · rw [if_neg c3] at h
        have m4 : hq_isT (hq_gr s 0 2) := hq_ifT h
        have bm4 := hq_leT m4
        rw [if_pos m4] at h
        obtain ⟨s5, hs5, h⟩ := hq_bind h
        have t := hq_fx_tr t (f_X3_setUp_fr m4 (by decide) (by decide) hs5)
        obtain ⟨s6, hs6, h⟩ := hq_bind h
        have t := hq_fx_tr t (f_X3_passMany_fr hs6)
        obtain ⟨z7, hz7, h⟩ := hq_bind h
        have t : hq_fx s z7 := by
          clear h
          have h := hz7
          by_cases c8 : 0 < a1
          · rw [if_pos c8] at h
            obtain ⟨s9, hs9, h⟩ := hq_bind h
            have t := hq_fx_tr t (f_X1_clear_fr hs9)
            cases h
            exact t
          · rw [if_neg c8] at h
            cases h
            exact t
        have h := Option.some.inj h
        subst h
        exact t
theorem f_X11_playAsItGoes_fr {n : Nat} {s : hq_S} {y : hq_S} (h : f_X11_playAsItGoes n s = some y) : hq_fx s y := by
  unfold f_X11_playAsItGoes at h
  have t := hq_fx_rf s
  obtain ⟨s1, hs1, h⟩ := hq_bind h
  have t := hq_fx_tr t (f_X5_copyFrom_fr (by decide) (by decide) hs1)
  have m2 : hq_isT (hq_gr s1 0 2) := hq_ifT h
  have bm2 := hq_leT m2
  rw [if_pos m2] at h
  obtain ⟨s3, hs3, h⟩ := hq_bind h
  have t := hq_fx_tr t (f_X3_setUp_fr m2 (by decide) (by decide) hs3)
  have h := Option.some.inj h
  subst h
  exact t
theorem f_X11_ahead_J65_fr {n : Nat} {a1 : Int32} {a2 : Int32} {a3 : Int32} {a4 : Int32} {s : hq_S} {y : (Int32 × hq_S)} (h : f_X11_ahead_J65 n a1 a2 a3 a4 s = some y) : hq_fx s y.2 := by
  unfold f_X11_ahead_J65 at h
  have t := hq_fx_rf s
  obtain ⟨s10, hs10, h⟩ := hq_bind h
  have t := hq_fx_tr t (f_X11_playAsItGoes_fr hs10)
  obtain ⟨s11, hs11, h⟩ := hq_bind h
  have t := hq_fx_tr t (f_X3_passMany_fr hs11)
  by_cases c12 : a2 = (0 : Int32)
  · rw [if_pos c12] at h
    have m13 : hq_isT (hq_gr s11 0 2) := hq_ifT h
    have bm13 := hq_leT m13
    rw [if_pos m13] at h
    obtain ⟨y14, hy14, h⟩ := hq_bind h
    have t := hq_fx_tr t (f_X5_howManyCaught_fr (by decide) hy14)
    have h := Option.some.inj h
    subst h
    exact t
  rw [if_neg c12] at h
  by_cases c15 : a2 = (1 : Int32)
  · rw [if_pos c15] at h
    obtain ⟨x16, hx16, h⟩ := hq_bind h
    have h := Option.some.inj h
    subst h
    exact t
  rw [if_neg c15] at h
  by_cases c17 : a2 = (2 : Int32)
  · rw [if_pos c17] at h
    have m18 : hq_isT (hq_gr s11 0 2) := hq_ifT h
    have bm18 := hq_leT m18
    rw [if_pos m18] at h
    obtain ⟨y19, hy19, h⟩ := hq_bind h
    have t := hq_fx_tr t (f_X5_lootOfAll_fr (by decide) hy19)
    have h := Option.some.inj h
    subst h
    exact t
  rw [if_neg c17] at h
  by_cases c20 : a2 = (3 : Int32)
  · rw [if_pos c20] at h
    obtain ⟨x21, hx21, h⟩ := hq_bind h
    have h := Option.some.inj h
    subst h
    exact t
  rw [if_neg c20] at h
  obtain ⟨x22, hx22, h⟩ := hq_bind h
  have h := Option.some.inj h
  subst h
  exact t
theorem f_X11_ahead_J50_fr {n : Nat} {a1 : Int32} {a2 : Int32} {a3 : Int32} {a4 : Int32} {s : hq_S} {y : (Int32 × hq_S)} (h : f_X11_ahead_J50 n a1 a2 a3 a4 s = some y) : hq_fx s y.2 := by
  unfold f_X11_ahead_J50 at h
  have t := hq_fx_rf s
  by_cases c9 : a2 = (3 : Int32)
  · rw [if_pos c9] at h
    obtain ⟨y23, hy23, h⟩ := hq_bind h
    have t := hq_fx_tr t (f_X11_isGuard_fr hy23)
    by_cases c24 : y23.1 = 0
    · rw [if_pos c24] at h
      have h := Option.some.inj h
      subst h
      exact t
    · rw [if_neg c24] at h
      exact hq_fx_tr t (f_X11_ahead_J65_fr h)
  · rw [if_neg c9] at h
    exact hq_fx_tr t (f_X11_ahead_J65_fr h)
theorem f_X11_ahead_fr {n : Nat} {a1 : Int32} {a2 : Int32} {a3 : Int32} {s : hq_S} {y : (Int32 × hq_S)} (h : f_X11_ahead n a1 a2 a3 s = some y) : hq_fx s y.2 := by
  unfold f_X11_ahead at h
  have t := hq_fx_rf s
  obtain ⟨z1, hz1, h⟩ := hq_bind h
  by_cases c4 : a1 < 0
  · rw [if_pos c4] at h
    have h := Option.some.inj h
    subst h
    exact t
  · rw [if_neg c4] at h
    by_cases c5 : (200 : Int32) < a1
    · rw [if_pos c5] at h
      have h := Option.some.inj h
      subst h
      exact t
    · rw [if_neg c5] at h
      by_cases c6 : a2 < 0
      · rw [if_pos c6] at h
        have h := Option.some.inj h
        subst h
        exact t
      · rw [if_neg c6] at h
        by_cases c7 : (4 : Int32) < a2
        · rw [if_pos c7] at h
          have h := Option.some.inj h
          subst h
          exact t
        · rw [if_neg c7] at h
          by_cases c8 : z1 = 0
          · rw [if_pos c8] at h
            exact hq_fx_tr t (f_X11_ahead_J50_fr h)
          · rw [if_neg c8] at h
            obtain ⟨y25, hy25, h⟩ := hq_bind h
            have t := hq_fx_tr t (f_X11_isThief_fr hy25)
            by_cases c26 : y25.1 = 0
            · rw [if_pos c26] at h
              have h := Option.some.inj h
              subst h
              exact t
            · rw [if_neg c26] at h
              exact hq_fx_tr t (f_X11_ahead_J50_fr h)
theorem f_X11_caught_L16_B_fr {n : Nat} {a1 : Int32} {a2 : Int32} {q16 : Int32 → Int32 → hq_S → Option (Int32 × hq_S)} {s : hq_S} {y : (Int32 × hq_S)} (e16 : ∀ (a1 : Int32) (a2 : Int32) (s : hq_S), q16 a1 a2 s = some y → hq_fx s y.2) (h : f_X11_caught_L16_B n q16 a1 a2 s = some y) : hq_fx s y.2 := by
  unfold f_X11_caught_L16_B at h
  have t := hq_fx_rf s
  by_cases c4 : a2 < (199 : Int32)
  · rw [if_pos c4] at h
    obtain ⟨y7, hy7, h⟩ := hq_bind h
    have t := hq_fx_tr t (f_X5_isFree_fr (by decide) hy7)
    by_cases c8 : y7.1 = 0
    · rw [if_pos c8] at h
      have h := Option.some.inj h
      subst h
      exact t
    · rw [if_neg c8] at h
      obtain ⟨s9, hs9, h⟩ := hq_bind h
      have t := hq_fx_tr t (f_X3_pass_fr hs9)
      exact hq_fx_tr t (e16 a1 (a2 + (1 : Int32)) s9 h)
  · rw [if_neg c4] at h
    obtain ⟨y5, hy5, h⟩ := hq_bind h
    have t := hq_fx_tr t (f_X5_isFree_fr (by decide) hy5)
    by_cases c6 : y5.1 = 0
    · rw [if_pos c6] at h
      have h := Option.some.inj h
      subst h
      exact t
    · rw [if_neg c6] at h
      have h := Option.some.inj h
      subst h
      exact t
theorem f_X11_caught_L16_fr {n m : Nat} {a1 : Int32} {a2 : Int32} {s : hq_S} {y : (Int32 × hq_S)} (h : f_X11_caught_L16 n m a1 a2 s = some y) : hq_fx s y.2 := by
  induction m generalizing a1 a2 s with
  | zero => cases h
  | succ m ih => exact f_X11_caught_L16_B_fr (n := n) (a1 := a1) (a2 := a2) (q16 := f_X11_caught_L16 n m) (fun a1 a2 s h => ih h) h
theorem f_X11_caught_fr {n : Nat} {a1 : Int32} {s : hq_S} {y : (Int32 × hq_S)} (h : f_X11_caught n a1 s = some y) : hq_fx s y.2 := by
  unfold f_X11_caught at h
  have t := hq_fx_rf s
  obtain ⟨y1, hy1, h⟩ := hq_bind h
  have t := hq_fx_tr t (f_X11_isThief_fr hy1)
  by_cases c2 : y1.1 = 0
  · rw [if_pos c2] at h
    have h := Option.some.inj h
    subst h
    exact t
  · rw [if_neg c2] at h
    obtain ⟨s3, hs3, h⟩ := hq_bind h
    have t := hq_fx_tr t (f_X11_playAsItGoes_fr hs3)
    exact hq_fx_tr t (f_X11_caught_L16_fr h)
theorem f_X11_far_fr {n : Nat} {a1 : Int32} {a2 : Int32} {s : hq_S} {y : (Int32 × hq_S)} (h : f_X11_far n a1 a2 s = some y) : hq_fx s y.2 := by
  unfold f_X11_far at h
  have t := hq_fx_rf s
  obtain ⟨y1, hy1, h⟩ := hq_bind h
  have t := hq_fx_tr t (f_X11_isCorner_fr hy1)
  by_cases c2 : y1.1 = 0
  · rw [if_pos c2] at h
    have h := Option.some.inj h
    subst h
    exact t
  · rw [if_neg c2] at h
    obtain ⟨y3, hy3, h⟩ := hq_bind h
    have t := hq_fx_tr t (f_X11_isCorner_fr hy3)
    by_cases c4 : y3.1 = 0
    · rw [if_pos c4] at h
      have h := Option.some.inj h
      subst h
      exact t
    · rw [if_neg c4] at h
      obtain ⟨y5, hy5, h⟩ := hq_bind h
      have t := hq_fx_tr t (f_X8_lanesBetween_fr (by decide) hy5)
      have h := Option.some.inj h
      subst h
      exact t
theorem f_X11_way_L55_B_fr {n : Nat} {a1 : Int32} {a2 : Int32} {a3 : Int32} {a4 : Int32} {a5 : Int32} {a6 : Int32} {q55 : Int32 → Int32 → Int32 → Int32 → Int32 → Int32 → hq_S → Option (Int32 × hq_S)} {s : hq_S} {y : (Int32 × hq_S)} (e55 : ∀ (a1 : Int32) (a2 : Int32) (a3 : Int32) (a4 : Int32) (a5 : Int32) (a6 : Int32) (s : hq_S), q55 a1 a2 a3 a4 a5 a6 s = some y → hq_fx s y.2) (h : f_X11_way_L55_B n q55 a1 a2 a3 a4 a5 a6 s = some y) : hq_fx s y.2 := by
  unfold f_X11_way_L55_B at h
  have t := hq_fx_rf s
  by_cases c9 : a6 < a3
  · rw [if_pos c9] at h
    by_cases c10 : a5 = (-1 : Int32)
    · rw [if_pos c10] at h
      have h := Option.some.inj h
      subst h
      exact t
    · rw [if_neg c10] at h
      obtain ⟨y11, hy11, h⟩ := hq_bind h
      have t := hq_fx_tr t (f_X8_onward_fr (by decide) hy11)
      exact hq_fx_tr t (e55 a1 a2 a3 a4 y11.1 (a6 + (1 : Int32)) y11.2 h)
  · rw [if_neg c9] at h
    have h := Option.some.inj h
    subst h
    exact t
theorem f_X11_way_L55_fr {n m : Nat} {a1 : Int32} {a2 : Int32} {a3 : Int32} {a4 : Int32} {a5 : Int32} {a6 : Int32} {s : hq_S} {y : (Int32 × hq_S)} (h : f_X11_way_L55 n m a1 a2 a3 a4 a5 a6 s = some y) : hq_fx s y.2 := by
  induction m generalizing a1 a2 a3 a4 a5 a6 s with
  | zero => cases h
  | succ m ih => exact f_X11_way_L55_B_fr (n := n) (a1 := a1) (a2 := a2) (a3 := a3) (a4 := a4) (a5 := a5) (a6 := a6) (q55 := f_X11_way_L55 n m) (fun a1 a2 a3 a4 a5 a6 s h => ih h) h
theorem f_X11_way_fr {n : Nat} {a1 : Int32} {a2 : Int32} {a3 : Int32} {s : hq_S} {y : (Int32 × hq_S)} (h : f_X11_way n a1 a2 a3 s = some y) : hq_fx s y.2 := by
  unfold f_X11_way at h
  have t := hq_fx_rf s
  obtain ⟨y1, hy1, h⟩ := hq_bind h
  have t := hq_fx_tr t (f_X11_isCorner_fr hy1)
  by_cases c2 : y1.1 = 0
  · rw [if_pos c2] at h
    have h := Option.some.inj h
    subst h
    exact t
  · rw [if_neg c2] at h
    obtain ⟨y3, hy3, h⟩ := hq_bind h
    have t := hq_fx_tr t (f_X11_isCorner_fr hy3)
    by_cases c4 : y3.1 = 0
    · rw [if_pos c4] at h
      have h := Option.some.inj h
      subst h
      exact t
    · rw [if_neg c4] at h
      by_cases c5 : a3 < 0
      · rw [if_pos c5] at h
        have h := Option.some.inj h
        subst h
        exact t
      · rw [if_neg c5] at h
        obtain ⟨y6, hy6, h⟩ := hq_bind h
        have t := hq_fx_tr t (f_X8_lanesBetween_fr (by decide) hy6)
        by_cases c7 : y6.1 = (99 : Int32)
        · rw [if_pos c7] at h
          have h := Option.some.inj h
          subst h
          exact t
        · rw [if_neg c7] at h
          by_cases c8 : y6.1 < a3
          · rw [if_pos c8] at h
            have h := Option.some.inj h
            subst h
            exact t
          · rw [if_neg c8] at h
            exact hq_fx_tr t (f_X11_way_L55_fr h)
theorem f_X11_reach_fr {n : Nat} {a1 : Int32} {s : hq_S} {y : (Int32 × hq_S)} (h : f_X11_reach n a1 s = some y) : hq_fx s y.2 := by
  unfold f_X11_reach at h
  have t := hq_fx_rf s
  obtain ⟨y1, hy1, h⟩ := hq_bind h
  have t := hq_fx_tr t (f_X11_isCorner_fr hy1)
  by_cases c2 : y1.1 = 0
  · rw [if_pos c2] at h
    have h := Option.some.inj h
    subst h
    exact t
  · rw [if_neg c2] at h
    obtain ⟨y3, hy3, h⟩ := hq_bind h
    have t := hq_fx_tr t (f_X8_reached_fr (by decide) hy3)
    have h := Option.some.inj h
    subst h
    exact t
theorem f_X11_parts_fr {n : Nat} {s : hq_S} {y : (Int32 × hq_S)} (h : f_X11_parts n s = some y) : hq_fx s y.2 := by
  unfold f_X11_parts at h
  have t := hq_fx_rf s
  obtain ⟨y1, hy1, h⟩ := hq_bind h
  have t := hq_fx_tr t (f_X8_howManyParts_fr (by decide) hy1)
  have h := Option.some.inj h
  subst h
  exact t
theorem f_X11_areGuards_fr {n : Nat} {a1 : Int32} {s : hq_S} {y : (Int32 × hq_S)} (h : f_X11_areGuards n a1 s = some y) : hq_fx s y.2 := by
  unfold f_X11_areGuards at h
  have t := hq_fx_rf s
  by_cases c1 : a1 < 0
  · rw [if_pos c1] at h
    have h := Option.some.inj h
    subst h
    exact t
  · rw [if_neg c1] at h
    have m2 : hq_isT (hq_gr s 0 2) := hq_ifT h
    have bm2 := hq_leT m2
    rw [if_pos m2] at h
    by_cases c3 : a1 < ((1 : Int32) <<< ((hq_gi s (hq_gr s 0 2) 7) &&& 31))
    · rw [if_pos c3] at h
      have h := Option.some.inj h
      subst h
      exact t
    · rw [if_neg c3] at h
      have h := Option.some.inj h
      subst h
      exact t
theorem f_X11_rowOf_L4_B_fr {n : Nat} {a1 : Int32} {a2 : Int32} {a3 : Int32} {q4 : Int32 → Int32 → Int32 → hq_S → Option (Int32 × hq_S)} {s : hq_S} {y : (Int32 × hq_S)} (e4 : ∀ (a1 : Int32) (a2 : Int32) (a3 : Int32) (s : hq_S), q4 a1 a2 a3 s = some y → hq_fx s y.2) (h : f_X11_rowOf_L4_B n q4 a1 a2 a3 s = some y) : hq_fx s y.2 := by
  unfold f_X11_rowOf_L4_B at h
  have t := hq_fx_rf s
  have m1 : hq_isT (hq_gr s 0 2) := hq_ifT h
  have bm1 := hq_leT m1
  rw [if_pos m1] at h
  by_cases c2 : a3 < (hq_gi s (hq_gr s 0 2) 7)
  · rw [if_pos c2] at h
    obtain ⟨z3, hz3, h⟩ := hq_bind h
    exact hq_fx_tr t (e4 a1 z3 (a3 + (1 : Int32)) s h)
  · rw [if_neg c2] at h
    have h := Option.some.inj h
    subst h
    exact t
theorem f_X11_rowOf_L4_fr {n m : Nat} {a1 : Int32} {a2 : Int32} {a3 : Int32} {s : hq_S} {y : (Int32 × hq_S)} (h : f_X11_rowOf_L4 n m a1 a2 a3 s = some y) : hq_fx s y.2 := by
  induction m generalizing a1 a2 a3 s with
  | zero => cases h
  | succ m ih => exact f_X11_rowOf_L4_B_fr (n := n) (a1 := a1) (a2 := a2) (a3 := a3) (q4 := f_X11_rowOf_L4 n m) (fun a1 a2 a3 s h => ih h) h
theorem f_X11_rowOf_fr {n : Nat} {a1 : Int32} {s : hq_S} {y : (Int32 × hq_S)} (h : f_X11_rowOf n a1 s = some y) : hq_fx s y.2 := by
  unfold f_X11_rowOf at h
  have t := hq_fx_rf s
  exact hq_fx_tr t (f_X11_rowOf_L4_fr h)
theorem f_X11_roundsOfChase_fr {n : Nat} {a1 : Int32} {a2 : Int32} {s : hq_S} {y : (Int32 × hq_S)} (h : f_X11_roundsOfChase n a1 a2 s = some y) : hq_fx s y.2 := by
  unfold f_X11_roundsOfChase at h
  have t := hq_fx_rf s
  by_cases c1 : a1 = 0
  · rw [if_pos c1] at h
    have h := Option.some.inj h
    subst h
    exact t
  · rw [if_neg c1] at h
    obtain ⟨y2, hy2, h⟩ := hq_bind h
    have t := hq_fx_tr t (f_J6_bitCount_0f7a4_fr hy2)
    obtain ⟨s3, hs3, h⟩ := hq_bind h
    have t := hq_fx_tr t (f_X0_solve_fr (by decide) hs3)
    obtain ⟨y4, hy4, h⟩ := hq_bind h
    have t := hq_fx_tr t (f_X11_rowOf_fr hy4)
    obtain ⟨y5, hy5, h⟩ := hq_bind h
    have t := hq_fx_tr t (f_X0_roundsFrom_fr hy5)
    have h := Option.some.inj h
    subst h
    exact t
theorem f_X11_chase_fr {n : Nat} {a1 : Int32} {a2 : Int32} {s : hq_S} {y : (Int32 × hq_S)} (h : f_X11_chase n a1 a2 s = some y) : hq_fx s y.2 := by
  unfold f_X11_chase at h
  have t := hq_fx_rf s
  obtain ⟨y1, hy1, h⟩ := hq_bind h
  have t := hq_fx_tr t (f_X11_areGuards_fr hy1)
  by_cases c2 : y1.1 = 0
  · rw [if_pos c2] at h
    have h := Option.some.inj h
    subst h
    exact t
  · rw [if_neg c2] at h
    obtain ⟨y3, hy3, h⟩ := hq_bind h
    have t := hq_fx_tr t (f_X11_isCorner_fr hy3)
    by_cases c4 : y3.1 = 0
    · rw [if_pos c4] at h
      have h := Option.some.inj h
      subst h
      exact t
    · rw [if_neg c4] at h
      obtain ⟨y5, hy5, h⟩ := hq_bind h
      have t := hq_fx_tr t (f_X11_roundsOfChase_fr hy5)
      by_cases c6 : y5.1 = (2147483647 : Int32)
      · rw [if_pos c6] at h
        have h := Option.some.inj h
        subst h
        exact t
      · rw [if_neg c6] at h
        have h := Option.some.inj h
        subst h
        exact t
theorem f_X11_firstGo_fr {n : Nat} {a1 : Int32} {a2 : Int32} {a3 : Int32} {s : hq_S} {y : (Int32 × hq_S)} (h : f_X11_firstGo n a1 a2 a3 s = some y) : hq_fx s y.2 := by
  unfold f_X11_firstGo at h
  have t := hq_fx_rf s
  obtain ⟨y1, hy1, h⟩ := hq_bind h
  have t := hq_fx_tr t (f_X11_areGuards_fr hy1)
  by_cases c2 : y1.1 = 0
  · rw [if_pos c2] at h
    have h := Option.some.inj h
    subst h
    exact t
  · rw [if_neg c2] at h
    obtain ⟨y3, hy3, h⟩ := hq_bind h
    have t := hq_fx_tr t (f_X11_isCorner_fr hy3)
    by_cases c4 : y3.1 = 0
    · rw [if_pos c4] at h
      have h := Option.some.inj h
      subst h
      exact t
    · rw [if_neg c4] at h
      obtain ⟨y5, hy5, h⟩ := hq_bind h
      have t := hq_fx_tr t (f_X11_isGuard_fr hy5)
      by_cases c6 : y5.1 = 0
      · rw [if_pos c6] at h
        have h := Option.some.inj h
        subst h
        exact t
      · rw [if_neg c6] at h
        obtain ⟨y7, hy7, h⟩ := hq_bind h
        have t := hq_fx_tr t (f_X11_roundsOfChase_fr hy7)
        by_cases c8 : y7.1 = 0
        · rw [if_pos c8] at h
          have h := Option.some.inj h
          subst h
          exact t
        · rw [if_neg c8] at h
          by_cases c9 : y7.1 = (2147483647 : Int32)
          · rw [if_pos c9] at h
            have h := Option.some.inj h
            subst h
            exact t
          · rw [if_neg c9] at h
            by_cases c10 : ((a1 >>> (a3 &&& 31)) &&& (1 : Int32)) = 0
            · rw [if_pos c10] at h
              have h := Option.some.inj h
              subst h
              exact t
            · rw [if_neg c10] at h
              obtain ⟨y11, hy11, h⟩ := hq_bind h
              have t := hq_fx_tr t (f_J6_bitCount_0f7a4_fr hy11)
              obtain ⟨y12, hy12, h⟩ := hq_bind h
              have t := hq_fx_tr t (f_X11_rowOf_fr hy12)
              obtain ⟨y13, hy13, h⟩ := hq_bind h
              have t := hq_fx_tr t (f_X0_firstRow_fr hy13)
              obtain ⟨y14, hy14, h⟩ := hq_bind h
              have t := hq_fx_tr t (f_X0_cornerIn_fr hy14)
              have h := Option.some.inj h
              subst h
              exact t
theorem f_X11_firstTurn_L2_B_fr {n : Nat} {a1 : Int32} {a2 : Int32} {q2 : Int32 → Int32 → hq_S → Option (Int32 × hq_S)} {s : hq_S} {y : (Int32 × hq_S)} (e2 : ∀ (a1 : Int32) (a2 : Int32) (s : hq_S), q2 a1 a2 s = some y → hq_fx s y.2) (h : f_X11_firstTurn_L2_B n q2 a1 a2 s = some y) : hq_fx s y.2 := by
  unfold f_X11_firstTurn_L2_B at h
  have t := hq_fx_rf s
  by_cases c1 : a2 < a1
  · rw [if_pos c1] at h
    obtain ⟨x2, hx2, h⟩ := hq_bind h
    by_cases c3 : ((x2 >>> (a2 &&& 31)) &&& (1 : Int32)) = (1 : Int32)
    · rw [if_pos c3] at h
      have h := Option.some.inj h
      subst h
      exact t
    · rw [if_neg c3] at h
      exact hq_fx_tr t (e2 a1 (a2 + (1 : Int32)) s h)
  · rw [if_neg c1] at h
    have h := Option.some.inj h
    subst h
    exact t
theorem f_X11_firstTurn_L2_fr {n m : Nat} {a1 : Int32} {a2 : Int32} {s : hq_S} {y : (Int32 × hq_S)} (h : f_X11_firstTurn_L2 n m a1 a2 s = some y) : hq_fx s y.2 := by
  induction m generalizing a1 a2 s with
  | zero => cases h
  | succ m ih => exact f_X11_firstTurn_L2_B_fr (n := n) (a1 := a1) (a2 := a2) (q2 := f_X11_firstTurn_L2 n m) (fun a1 a2 s h => ih h) h
theorem f_X11_firstTurn_fr {n : Nat} {a1 : Int32} {s : hq_S} {y : (Int32 × hq_S)} (h : f_X11_firstTurn n a1 s = some y) : hq_fx s y.2 := by
  unfold f_X11_firstTurn at h
  have t := hq_fx_rf s
  exact hq_fx_tr t (f_X11_firstTurn_L2_fr h)
theorem f_X11_flee_fr {n : Nat} {a1 : Int32} {a2 : Int32} {s : hq_S} {y : (Int32 × hq_S)} (h : f_X11_flee n a1 a2 s = some y) : hq_fx s y.2 := by
  unfold f_X11_flee at h
  have t := hq_fx_rf s
  obtain ⟨y1, hy1, h⟩ := hq_bind h
  have t := hq_fx_tr t (f_X11_areGuards_fr hy1)
  by_cases c2 : y1.1 = 0
  · rw [if_pos c2] at h
    have h := Option.some.inj h
    subst h
    exact t
  · rw [if_neg c2] at h
    obtain ⟨y3, hy3, h⟩ := hq_bind h
    have t := hq_fx_tr t (f_X11_isCorner_fr hy3)
    by_cases c4 : y3.1 = 0
    · rw [if_pos c4] at h
      have h := Option.some.inj h
      subst h
      exact t
    · rw [if_neg c4] at h
      obtain ⟨y5, hy5, h⟩ := hq_bind h
      have t := hq_fx_tr t (f_X11_roundsOfChase_fr hy5)
      by_cases c6 : y5.1 = 0
      · rw [if_pos c6] at h
        have h := Option.some.inj h
        subst h
        exact t
      · rw [if_neg c6] at h
        by_cases c7 : a1 = 0
        · rw [if_pos c7] at h
          obtain ⟨y10, hy10, h⟩ := hq_bind h
          have t := hq_fx_tr t (f_X11_firstTurn_fr hy10)
          have h := Option.some.inj h
          subst h
          exact t
        · rw [if_neg c7] at h
          obtain ⟨y8, hy8, h⟩ := hq_bind h
          have t := hq_fx_tr t (f_X11_rowOf_fr hy8)
          obtain ⟨y9, hy9, h⟩ := hq_bind h
          have t := hq_fx_tr t (f_X0_safest_fr hy9)
          have h := Option.some.inj h
          subst h
          exact t
theorem f_X11_takers_fr {n : Nat} {s : hq_S} {y : (Int32 × hq_S)} (h : f_X11_takers n s = some y) : hq_fx s y.2 := by
  unfold f_X11_takers at h
  have t := hq_fx_rf s
  have m1 : hq_isT (hq_gr s 0 2) := hq_ifT h
  have bm1 := hq_leT m1
  rw [if_pos m1] at h
  by_cases c2 : (hq_gi s (hq_gr s 0 2) 0) = 0
  · rw [if_pos c2] at h
    have h := Option.some.inj h
    subst h
    exact t
  · rw [if_neg c2] at h
    obtain ⟨s3, hs3, h⟩ := hq_bind h
    have t := hq_fx_tr t (f_X0_findPosts_fr (by decide) hs3)
    by_cases c4 : (hq_gi s3 152 10) = 0
    · rw [if_pos c4] at h
      have h := Option.some.inj h
      subst h
      exact t
    · rw [if_neg c4] at h
      have h := Option.some.inj h
      subst h
      exact t
theorem f_X11_post_fr {n : Nat} {a1 : Int32} {s : hq_S} {y : (Int32 × hq_S)} (h : f_X11_post n a1 s = some y) : hq_fx s y.2 := by
  unfold f_X11_post at h
  have t := hq_fx_rf s
  by_cases c1 : a1 < 0
  · rw [if_pos c1] at h
    have h := Option.some.inj h
    subst h
    exact t
  · rw [if_neg c1] at h
    obtain ⟨y2, hy2, h⟩ := hq_bind h
    have t := hq_fx_tr t (f_X11_takers_fr hy2)
    by_cases c3 : a1 < y2.1
    · rw [if_pos c3] at h
      obtain ⟨y4, hy4, h⟩ := hq_bind h
      have t := hq_fx_tr t (f_X0_cornerIn_fr hy4)
      have h := Option.some.inj h
      subst h
      exact t
    · rw [if_neg c3] at h
      have h := Option.some.inj h
      subst h
      exact t
theorem f_X11_sweep_fr {n : Nat} {a1 : Int32} {s : hq_S} {y : (Int32 × hq_S)} (h : f_X11_sweep n a1 s = some y) : hq_fx s y.2 := by
  unfold f_X11_sweep at h
  have t := hq_fx_rf s
  by_cases c1 : a1 < (1 : Int32)
  · rw [if_pos c1] at h
    have h := Option.some.inj h
    subst h
    exact t
  · rw [if_neg c1] at h
    by_cases c2 : (10 : Int32) < a1
    · rw [if_pos c2] at h
      have h := Option.some.inj h
      subst h
      exact t
    · rw [if_neg c2] at h
      obtain ⟨y3, hy3, h⟩ := hq_bind h
      have t := hq_fx_tr t (f_X7_nightsToSweep_fr (by decide) hy3)
      have h := Option.some.inj h
      subst h
      exact t
theorem f_X11_look_fr {n : Nat} {a1 : Int32} {s : hq_S} {y : (Int32 × hq_S)} (h : f_X11_look n a1 s = some y) : hq_fx s y.2 := by
  unfold f_X11_look at h
  have t := hq_fx_rf s
  by_cases c1 : a1 < (1 : Int32)
  · rw [if_pos c1] at h
    have h := Option.some.inj h
    subst h
    exact t
  · rw [if_neg c1] at h
    by_cases c2 : (10 : Int32) < a1
    · rw [if_pos c2] at h
      have h := Option.some.inj h
      subst h
      exact t
    · rw [if_neg c2] at h
      obtain ⟨y3, hy3, h⟩ := hq_bind h
      have t := hq_fx_tr t (f_X7_firstLook_fr (by decide) hy3)
      have h := Option.some.inj h
      subst h
      exact t
theorem f_X11_dark_L14_B_fr {n : Nat} {a1 : Int32} {q14 : Int32 → hq_S → Option (Int32 × hq_S)} {s : hq_S} {y : (Int32 × hq_S)} (e14 : ∀ (a1 : Int32) (s : hq_S), q14 a1 s = some y → hq_fx s y.2) (h : f_X11_dark_L14_B n q14 a1 s = some y) : hq_fx s y.2 := by
  unfold f_X11_dark_L14_B at h
  have t := hq_fx_rf s
  by_cases c3 : a1 < (10 : Int32)
  · rw [if_pos c3] at h
    obtain ⟨y4, hy4, h⟩ := hq_bind h
    have t := hq_fx_tr t (f_X7_nightsToSweep_fr (by decide) hy4)
    by_cases c5 : y4.1 = (-2 : Int32)
    · rw [if_pos c5] at h
      exact hq_fx_tr t (e14 (a1 + (1 : Int32)) y4.2 h)
    · rw [if_neg c5] at h
      have h := Option.some.inj h
      subst h
      exact t
  · rw [if_neg c3] at h
    have h := Option.some.inj h
    subst h
    exact t
theorem f_X11_dark_L14_fr {n m : Nat} {a1 : Int32} {s : hq_S} {y : (Int32 × hq_S)} (h : f_X11_dark_L14 n m a1 s = some y) : hq_fx s y.2 := by
  induction m generalizing a1 s with
  | zero => cases h
  | succ m ih => exact f_X11_dark_L14_B_fr (n := n) (a1 := a1) (q14 := f_X11_dark_L14 n m) (fun a1 s h => ih h) h
theorem f_X11_dark_fr {n : Nat} {s : hq_S} {y : (Int32 × hq_S)} (h : f_X11_dark n s = some y) : hq_fx s y.2 := by
  unfold f_X11_dark at h
  have t := hq_fx_rf s
  have m1 : hq_isT (hq_gr s 0 2) := hq_ifT h
  have bm1 := hq_leT m1
  rw [if_pos m1] at h
  by_cases c2 : (hq_gi s (hq_gr s 0 2) 0) = 0
  · rw [if_pos c2] at h
    have h := Option.some.inj h
    subst h
    exact t
  · rw [if_neg c2] at h
    exact hq_fx_tr t (f_X11_dark_L14_fr h)
theorem f_X11_could_L79_B_fr {n : Nat} {a1 : Int32} {a2 : Int32} {a3 : Int32} {a4 : Int32} {a5 : Int32} {q52 : Int32 → Int32 → Int32 → Int32 → hq_S → Option (Int32 × hq_S)} {q79 : Int32 → Int32 → Int32 → Int32 → Int32 → hq_S → Option (Int32 × hq_S)} {s : hq_S} {y : (Int32 × hq_S)} (e52 : ∀ (a1 : Int32) (a2 : Int32) (a3 : Int32) (a4 : Int32) (o5 : Option Value) (s : hq_S), q52 a1 a2 a3 a4 s = some y → hq_fx s y.2) (e79 : ∀ (a1 : Int32) (a2 : Int32) (a3 : Int32) (a4 : Int32) (a5 : Int32) (s : hq_S), q79 a1 a2 a3 a4 a5 s = some y → hq_fx s y.2) (h : f_X11_could_L79_B n q52 q79 a1 a2 a3 a4 a5 s = some y) : hq_fx s y.2 := by
  unfold f_X11_could_L79_B at h
  have t := hq_fx_rf s
  have m12 : hq_isT (hq_gr s 0 2) := hq_ifT h
  have bm12 := hq_leT m12
  rw [if_pos m12] at h
  by_cases c13 : a5 < (hq_gi s (hq_gr s 0 2) 7)
  · rw [if_pos c13] at h
    obtain ⟨x14, hx14, h⟩ := hq_bind h
    exact hq_fx_tr t (e79 a1 a2 (a3 &&& (((1 : Int32) <<< (x14 &&& 31)) ^^^ (-1 : Int32))) a4 (a5 + (1 : Int32)) s h)
  · rw [if_neg c13] at h
    exact hq_fx_tr t (e52 a1 a2 a3 (a4 + (1 : Int32)) none s h)
theorem f_X11_could_L79_fr {n m : Nat} {a1 : Int32} {a2 : Int32} {a3 : Int32} {a4 : Int32} {a5 : Int32} {q52 : Int32 → Int32 → Int32 → Int32 → hq_S → Option (Int32 × hq_S)} {s : hq_S} {y : (Int32 × hq_S)} (e52 : ∀ (a1 : Int32) (a2 : Int32) (a3 : Int32) (a4 : Int32) (o5 : Option Value) (s : hq_S), q52 a1 a2 a3 a4 s = some y → hq_fx s y.2) (h : f_X11_could_L79 n q52 m a1 a2 a3 a4 a5 s = some y) : hq_fx s y.2 := by
  induction m generalizing a1 a2 a3 a4 a5 s with
  | zero => cases h
  | succ m ih => exact f_X11_could_L79_B_fr (n := n) (a1 := a1) (a2 := a2) (a3 := a3) (a4 := a4) (a5 := a5) (q79 := f_X11_could_L79 n q52 m) e52 (fun a1 a2 a3 a4 a5 s h => ih h) h
theorem f_X11_could_L52_B_fr {n : Nat} {a1 : Int32} {a2 : Int32} {a3 : Int32} {a4 : Int32} {q52 : Int32 → Int32 → Int32 → Int32 → hq_S → Option (Int32 × hq_S)} {s : hq_S} {y : (Int32 × hq_S)} (e52 : ∀ (a1 : Int32) (a2 : Int32) (a3 : Int32) (a4 : Int32) (o5 : Option Value) (s : hq_S), q52 a1 a2 a3 a4 s = some y → hq_fx s y.2) (h : f_X11_could_L52_B n q52 a1 a2 a3 a4 s = some y) : hq_fx s y.2 := by
  unfold f_X11_could_L52_B at h
  have t := hq_fx_rf s
  by_cases c9 : a4 < a2
  · rw [if_pos c9] at h
    obtain ⟨s10, hs10, h⟩ := hq_bind h
    have t := hq_fx_tr t (f_X3_walkBeats_fr hs10)
    obtain ⟨y11, hy11, h⟩ := hq_bind h
    have t := hq_fx_tr t (f_X8_nextToAny_fr (by decide) hy11)
    exact hq_fx_tr t (f_X11_could_L79_fr e52 h)
  · rw [if_neg c9] at h
    have h := Option.some.inj h
    subst h
    exact t
theorem f_X11_could_L52_fr {n m : Nat} {a1 : Int32} {a2 : Int32} {a3 : Int32} {a4 : Int32} {s : hq_S} {y : (Int32 × hq_S)} (h : f_X11_could_L52 n m a1 a2 a3 a4 s = some y) : hq_fx s y.2 := by
  induction m generalizing a1 a2 a3 a4 s with
  | zero => cases h
  | succ m ih => exact f_X11_could_L52_B_fr (n := n) (a1 := a1) (a2 := a2) (a3 := a3) (a4 := a4) (q52 := f_X11_could_L52 n m) (fun a1 a2 a3 a4 _ s h => ih h) h
theorem f_X11_could_fr {n : Nat} {a1 : Int32} {a2 : Int32} {s : hq_S} {y : (Int32 × hq_S)} (h : f_X11_could n a1 a2 s = some y) : hq_fx s y.2 := by
  unfold f_X11_could at h
  have t := hq_fx_rf s
  obtain ⟨y1, hy1, h⟩ := hq_bind h
  have t := hq_fx_tr t (f_X11_isThief_fr hy1)
  by_cases c2 : y1.1 = 0
  · rw [if_pos c2] at h
    have h := Option.some.inj h
    subst h
    exact t
  · rw [if_neg c2] at h
    by_cases c3 : a2 < 0
    · rw [if_pos c3] at h
      have h := Option.some.inj h
      subst h
      exact t
    · rw [if_neg c3] at h
      by_cases c4 : (60 : Int32) < a2
      · rw [if_pos c4] at h
        have h := Option.some.inj h
        subst h
        exact t
      · rw [if_neg c4] at h
        obtain ⟨y5, hy5, h⟩ := hq_bind h
        have t := hq_fx_tr t (f_X5_isFree_fr (by decide) hy5)
        by_cases c6 : y5.1 = 0
        · rw [if_pos c6] at h
          have h := Option.some.inj h
          subst h
          exact t
        · rw [if_neg c6] at h
          obtain ⟨s7, hs7, h⟩ := hq_bind h
          have t := hq_fx_tr t (f_X11_playAsItGoes_fr hs7)
          obtain ⟨x8, hx8, h⟩ := hq_bind h
          exact hq_fx_tr t (f_X11_could_L52_fr h)
theorem f_X11_unseen_L21_B_fr {n : Nat} {a1 : Int32} {a2 : Int32} {a3 : Int32} {a4 : Int32} {q21 : Int32 → Int32 → Int32 → Int32 → hq_S → Option (Int32 × hq_S)} {s : hq_S} {y : (Int32 × hq_S)} (e21 : ∀ (a1 : Int32) (a2 : Int32) (a3 : Int32) (a4 : Int32) (s : hq_S), q21 a1 a2 a3 a4 s = some y → hq_fx s y.2) (h : f_X11_unseen_L21_B n q21 a1 a2 a3 a4 s = some y) : hq_fx s y.2 := by
  unfold f_X11_unseen_L21_B at h
  have t := hq_fx_rf s
  by_cases c4 : a4 < (60 : Int32)
  · rw [if_pos c4] at h
    obtain ⟨s5, hs5, h⟩ := hq_bind h
    have t := hq_fx_tr t (f_X3_walkBeats_fr hs5)
    obtain ⟨y6, hy6, h⟩ := hq_bind h
    have t := hq_fx_tr t (f_X3_nearest_fr hy6)
    obtain ⟨z7, hz7, h⟩ := hq_bind h
    exact hq_fx_tr t (e21 a1 (hq_max a2 z7) z7 (a4 + (1 : Int32)) y6.2 h)
  · rw [if_neg c4] at h
    have h := Option.some.inj h
    subst h
    exact t
theorem f_X11_unseen_L21_fr {n m : Nat} {a1 : Int32} {a2 : Int32} {a3 : Int32} {a4 : Int32} {s : hq_S} {y : (Int32 × hq_S)} (h : f_X11_unseen_L21 n m a1 a2 a3 a4 s = some y) : hq_fx s y.2 := by
  induction m generalizing a1 a2 a3 a4 s with
  | zero => cases h
  | succ m ih => exact f_X11_unseen_L21_B_fr (n := n) (a1 := a1) (a2 := a2) (a3 := a3) (a4 := a4) (q21 := f_X11_unseen_L21 n m) (fun a1 a2 a3 a4 s h => ih h) h
theorem f_X11_unseen_fr {n : Nat} {a1 : Int32} {s : hq_S} {y : (Int32 × hq_S)} (h : f_X11_unseen n a1 s = some y) : hq_fx s y.2 := by
  unfold f_X11_unseen at h
  have t := hq_fx_rf s
  obtain ⟨y1, hy1, h⟩ := hq_bind h
  have t := hq_fx_tr t (f_X11_isCorner_fr hy1)
  by_cases c2 : y1.1 = 0
  · rw [if_pos c2] at h
    have h := Option.some.inj h
    subst h
    exact t
  · rw [if_neg c2] at h
    obtain ⟨s3, hs3, h⟩ := hq_bind h
    have t := hq_fx_tr t (f_X11_playAsItGoes_fr hs3)
    exact hq_fx_tr t (f_X11_unseen_L21_fr h)
theorem f_X11_round_fr {n : Nat} {a1 : Int32} {s : hq_S} {y : (Int32 × hq_S)} (h : f_X11_round n a1 s = some y) : hq_fx s y.2 := by
  unfold f_X11_round at h
  have t := hq_fx_rf s
  obtain ⟨y1, hy1, h⟩ := hq_bind h
  have t := hq_fx_tr t (f_X11_isCorner_fr hy1)
  by_cases c2 : y1.1 = 0
  · rw [if_pos c2] at h
    have h := Option.some.inj h
    subst h
    exact t
  · rw [if_neg c2] at h
    obtain ⟨y3, hy3, h⟩ := hq_bind h
    have t := hq_fx_tr t (f_X7_lanesOfRound_fr (by decide) hy3)
    have h := Option.some.inj h
    subst h
    exact t
theorem f_X11_wall_fr {n : Nat} {a1 : Int32} {a2 : Int32} {s : hq_S} {y : (Int32 × hq_S)} (h : f_X11_wall n a1 a2 s = some y) : hq_fx s y.2 := by
  unfold f_X11_wall at h
  have t := hq_fx_rf s
  obtain ⟨y1, hy1, h⟩ := hq_bind h
  have t := hq_fx_tr t (f_X11_isCorner_fr hy1)
  by_cases c2 : y1.1 = 0
  · rw [if_pos c2] at h
    have h := Option.some.inj h
    subst h
    exact t
  · rw [if_neg c2] at h
    obtain ⟨y3, hy3, h⟩ := hq_bind h
    have t := hq_fx_tr t (f_X11_isCorner_fr hy3)
    by_cases c4 : y3.1 = 0
    · rw [if_pos c4] at h
      have h := Option.some.inj h
      subst h
      exact t
    · rw [if_neg c4] at h
      by_cases c5 : a1 = a2
      · rw [if_pos c5] at h
        have h := Option.some.inj h
        subst h
        exact t
      · rw [if_neg c5] at h
        have m6 : hq_isT (hq_gr y3.2 0 2) := hq_ifT h
        have bm6 := hq_leT m6
        rw [if_pos m6] at h
        obtain ⟨y7, hy7, h⟩ := hq_bind h
        have t := hq_fx_tr t (f_X10_fewestBars_fr m6 hy7)
        have h := Option.some.inj h
        subst h
        exact t
theorem f_X11_power_L5_B_fr {n : Nat} {j0 : Int64} {a2 : Int32} {j3 : Int64} {a5 : Int32} {q5 : Int64 → Int32 → Int64 → Int32 → hq_S → Option (Int64 × hq_S)} {s : hq_S} {y : (Int64 × hq_S)} (e5 : ∀ (j0 : Int64) (a2 : Int32) (j3 : Int64) (a5 : Int32) (s : hq_S), q5 j0 a2 j3 a5 s = some y → hq_fx s y.2) (h : f_X11_power_L5_B n q5 j0 a2 j3 a5 s = some y) : hq_fx s y.2 := by
  unfold f_X11_power_L5_B at h
  have t := hq_fx_rf s
  by_cases c1 : a5 < a2
  · rw [if_pos c1] at h
    exact hq_fx_tr t (e5 j0 a2 (j3 * j0) (a5 + (1 : Int32)) s h)
  · rw [if_neg c1] at h
    have h := Option.some.inj h
    subst h
    exact t
theorem f_X11_power_L5_fr {n m : Nat} {j0 : Int64} {a2 : Int32} {j3 : Int64} {a5 : Int32} {s : hq_S} {y : (Int64 × hq_S)} (h : f_X11_power_L5 n m j0 a2 j3 a5 s = some y) : hq_fx s y.2 := by
  induction m generalizing j0 a2 j3 a5 s with
  | zero => cases h
  | succ m ih => exact f_X11_power_L5_B_fr (n := n) (j0 := j0) (a2 := a2) (j3 := j3) (a5 := a5) (q5 := f_X11_power_L5 n m) (fun j0 a2 j3 a5 s h => ih h) h
theorem f_X11_power_fr {n : Nat} {j0 : Int64} {a2 : Int32} {s : hq_S} {y : (Int64 × hq_S)} (h : f_X11_power n j0 a2 s = some y) : hq_fx s y.2 := by
  unfold f_X11_power at h
  have t := hq_fx_rf s
  exact hq_fx_tr t (f_X11_power_L5_fr h)
theorem f_X11_inLeastTerms_J45_fr {n : Nat} {j0 : Int64} {j2 : Int64} {a4 : Int32} {j5 : Int64} {j7 : Int64} {a9 : Int32} {s : hq_S} {y : (Int64 × hq_S)} (h : f_X11_inLeastTerms_J45 n j0 j2 a4 j5 j7 a9 s = some y) : hq_fx s y.2 := by
  unfold f_X11_inLeastTerms_J45 at h
  have t := hq_fx_rf s
  by_cases c2 : (lg_cmp j5 (0 : Int64)) = 0
  · rw [if_pos c2] at h
    have h := Option.some.inj h
    subst h
    exact t
  · rw [if_neg c2] at h
    by_cases c3 : a4 = 0
    · rw [if_pos c3] at h
      obtain ⟨x5, hx5, h⟩ := hq_bind h
      have h := Option.some.inj h
      subst h
      exact t
    · rw [if_neg c3] at h
      obtain ⟨x4, hx4, h⟩ := hq_bind h
      have h := Option.some.inj h
      subst h
      exact t
theorem f_X11_inLeastTerms_L9_B_fr {n : Nat} {j0 : Int64} {j2 : Int64} {a4 : Int32} {j5 : Int64} {j7 : Int64} {a9 : Int32} {q9 : Int64 → Int64 → Int32 → Int64 → Int64 → Int32 → hq_S → Option (Int64 × hq_S)} {s : hq_S} {y : (Int64 × hq_S)} (e9 : ∀ (j0 : Int64) (j2 : Int64) (a4 : Int32) (j5 : Int64) (j7 : Int64) (a9 : Int32) (o10 : Option Value) (s : hq_S), q9 j0 j2 a4 j5 j7 a9 s = some y → hq_fx s y.2) (h : f_X11_inLeastTerms_L9_B n q9 j0 j2 a4 j5 j7 a9 s = some y) : hq_fx s y.2 := by
  unfold f_X11_inLeastTerms_L9_B at h
  have t := hq_fx_rf s
  by_cases c1 : a9 < (200 : Int32)
  · rw [if_pos c1] at h
    by_cases c6 : (lg_cmp j7 (0 : Int64)) = 0
    · rw [if_pos c6] at h
      exact hq_fx_tr t (f_X11_inLeastTerms_J45_fr h)
    · rw [if_neg c6] at h
      obtain ⟨x7, hx7, h⟩ := hq_bind h
      exact hq_fx_tr t (e9 j0 j2 a4 j7 x7 (a9 + (1 : Int32)) none s h)
  · rw [if_neg c1] at h
    exact hq_fx_tr t (f_X11_inLeastTerms_J45_fr h)
theorem f_X11_inLeastTerms_L9_fr {n m : Nat} {j0 : Int64} {j2 : Int64} {a4 : Int32} {j5 : Int64} {j7 : Int64} {a9 : Int32} {s : hq_S} {y : (Int64 × hq_S)} (h : f_X11_inLeastTerms_L9 n m j0 j2 a4 j5 j7 a9 s = some y) : hq_fx s y.2 := by
  induction m generalizing j0 j2 a4 j5 j7 a9 s with
  | zero => cases h
  | succ m ih => exact f_X11_inLeastTerms_L9_B_fr (n := n) (j0 := j0) (j2 := j2) (a4 := a4) (j5 := j5) (j7 := j7) (a9 := a9) (q9 := f_X11_inLeastTerms_L9 n m) (fun j0 j2 a4 j5 j7 a9 _ s h => ih h) h
theorem f_X11_inLeastTerms_fr {n : Nat} {j0 : Int64} {j2 : Int64} {a4 : Int32} {s : hq_S} {y : (Int64 × hq_S)} (h : f_X11_inLeastTerms n j0 j2 a4 s = some y) : hq_fx s y.2 := by
  unfold f_X11_inLeastTerms at h
  have t := hq_fx_rf s
  exact hq_fx_tr t (f_X11_inLeastTerms_L9_fr h)
theorem f_X11_drunk_J36_fr {n : Nat} {a1 : Int32} {a2 : Int32} {a3 : Int32} {a4 : Int32} {s : hq_S} {y : (Int64 × hq_S)} (h : f_X11_drunk_J36 n a1 a2 a3 a4 s = some y) : hq_fx s y.2 := by
  unfold f_X11_drunk_J36 at h
  have t := hq_fx_rf s
  have h := Option.some.inj h
  subst h
  exact t
theorem f_X11_drunk_fr {n : Nat} {a1 : Int32} {a2 : Int32} {a3 : Int32} {a4 : Int32} {s : hq_S} {y : (Int64 × hq_S)} (h : f_X11_drunk n a1 a2 a3 a4 s = some y) : hq_fx s y.2 := by
  unfold f_X11_drunk at h
  have t := hq_fx_rf s
  obtain ⟨y1, hy1, h⟩ := hq_bind h
  have t := hq_fx_tr t (f_X11_isCorner_fr hy1)
  by_cases c2 : y1.1 = 0
  · rw [if_pos c2] at h
    exact hq_fx_tr t (f_X11_drunk_J36_fr h)
  · rw [if_neg c2] at h
    obtain ⟨y3, hy3, h⟩ := hq_bind h
    have t := hq_fx_tr t (f_X11_isCorner_fr hy3)
    by_cases c4 : y3.1 = 0
    · rw [if_pos c4] at h
      exact hq_fx_tr t (f_X11_drunk_J36_fr h)
    · rw [if_neg c4] at h
      by_cases c5 : a3 < 0
      · rw [if_pos c5] at h
        exact hq_fx_tr t (f_X11_drunk_J36_fr h)
      · rw [if_neg c5] at h
        by_cases c6 : (4 : Int32) < a3
        · rw [if_pos c6] at h
          exact hq_fx_tr t (f_X11_drunk_J36_fr h)
        · rw [if_neg c6] at h
          by_cases c7 : a4 < 0
          · rw [if_pos c7] at h
            exact hq_fx_tr t (f_X11_drunk_J36_fr h)
          · rw [if_neg c7] at h
            by_cases c8 : (1 : Int32) < a4
            · rw [if_pos c8] at h
              exact hq_fx_tr t (f_X11_drunk_J36_fr h)
            · rw [if_neg c8] at h
              obtain ⟨y9, hy9, h⟩ := hq_bind h
              have t := hq_fx_tr t (f_X8_drunkWeight_fr (by decide) hy9)
              obtain ⟨y10, hy10, h⟩ := hq_bind h
              have t := hq_fx_tr t (f_X11_power_fr hy10)
              obtain ⟨y11, hy11, h⟩ := hq_bind h
              have t := hq_fx_tr t (f_X11_inLeastTerms_fr hy11)
              have h := Option.some.inj h
              subst h
              exact t
theorem f_X11_thiefInRow_fr {n : Nat} {a1 : Int32} {a2 : Int32} {s : hq_S} {y : (Int32 × hq_S)} (h : f_X11_thiefInRow n a1 a2 s = some y) : hq_fx s y.2 := by
  unfold f_X11_thiefInRow at h
  have t := hq_fx_rf s
  have m1 : hq_isT (hq_gr s 0 2) := hq_ifT h
  have bm1 := hq_leT m1
  rw [if_pos m1] at h
  obtain ⟨y2, hy2, h⟩ := hq_bind h
  have t := hq_fx_tr t (f_X11_power_fr hy2)
  by_cases c3 : y2.1.toInt32 = 0
  · rw [if_pos c3] at h
    have h := Option.some.inj h
    subst h
    exact t
  · rw [if_neg c3] at h
    obtain ⟨x4, hx4, h⟩ := hq_bind h
    obtain ⟨x5, hx5, h⟩ := hq_bind h
    have h := Option.some.inj h
    subst h
    exact t
theorem f_X11_matchScore_J118_fr {n : Nat} {a1 : Int32} {a2 : Int32} {a3 : Int32} {a4 : Int32} {a5 : Int32} {a6 : Int32} {q10 : Int32 → Int32 → Int32 → Int32 → Int32 → hq_S → Option (Int32 × hq_S)} {s : hq_S} {y : (Int32 × hq_S)} (e10 : ∀ (a1 : Int32) (a2 : Int32) (a3 : Int32) (a4 : Int32) (a5 : Int32) (o6 : Option Value) (s : hq_S), q10 a1 a2 a3 a4 a5 s = some y → hq_fx s y.2) (h : f_X11_matchScore_J118 n q10 a1 a2 a3 a4 a5 a6 s = some y) : hq_fx s y.2 := by
  unfold f_X11_matchScore_J118 at h
  have t := hq_fx_rf s
  exact hq_fx_tr t (e10 a1 a2 a3 a4 (a5 + (1 : Int32)) none s h)
theorem f_X11_matchScore_L10_B_fr {n : Nat} {a1 : Int32} {a2 : Int32} {a3 : Int32} {a4 : Int32} {a5 : Int32} {q10 : Int32 → Int32 → Int32 → Int32 → Int32 → hq_S → Option (Int32 × hq_S)} {s : hq_S} {y : (Int32 × hq_S)} (e10 : ∀ (a1 : Int32) (a2 : Int32) (a3 : Int32) (a4 : Int32) (a5 : Int32) (o6 : Option Value) (s : hq_S), q10 a1 a2 a3 a4 a5 s = some y → hq_fx s y.2) (h : f_X11_matchScore_L10_B n q10 a1 a2 a3 a4 a5 s = some y) : hq_fx s y.2 := by
  unfold f_X11_matchScore_L10_B at h
  have t := hq_fx_rf s
  have m1 : hq_isT (hq_gr s 0 2) := hq_ifT h
  have bm1 := hq_leT m1
  rw [if_pos m1] at h
  by_cases c2 : a5 < (hq_gi s (hq_gr s 0 2) 7)
  · rw [if_pos c2] at h
    obtain ⟨y3, hy3, h⟩ := hq_bind h
    have t := hq_fx_tr t (f_X11_thiefInRow_fr hy3)
    by_cases c4 : y3.1 = (4 : Int32)
    · rw [if_pos c4] at h
      exact hq_fx_tr t (f_X11_matchScore_J118_fr e10 h)
    · rw [if_neg c4] at h
      have m5 : hq_isT (hq_gr y3.2 0 2) := hq_ifT h
      have bm5 := hq_leT m5
      rw [if_pos m5] at h
      by_cases c6 : y3.1 < (hq_gi y3.2 (hq_gr y3.2 0 2) 11)
      · rw [if_pos c6] at h
        obtain ⟨y7, hy7, h⟩ := hq_bind h
        have t := hq_fx_tr t (f_X5_isFree_fr (by decide) hy7)
        by_cases c8 : y7.1 = 0
        · rw [if_pos c8] at h
          have h := Option.some.inj h
          subst h
          exact t
        · rw [if_neg c8] at h
          by_cases c9 : ((a2 >>> (y3.1 &&& 31)) &&& (1 : Int32)) = (1 : Int32)
          · rw [if_pos c9] at h
            have h := Option.some.inj h
            subst h
            exact t
          · rw [if_neg c9] at h
            obtain ⟨x10, hx10, h⟩ := hq_bind h
            obtain ⟨x11, hx11, h⟩ := hq_bind h
            obtain ⟨y12, hy12, h⟩ := hq_bind h
            have t := hq_fx_tr t (f_X8_lanesBetween_fr (by decide) hy12)
            exact hq_fx_tr t (f_X11_matchScore_J118_fr e10 h)
      · rw [if_neg c6] at h
        have h := Option.some.inj h
        subst h
        exact t
  · rw [if_neg c2] at h
    have h := Option.some.inj h
    subst h
    exact t
theorem f_X11_matchScore_L10_fr {n m : Nat} {a1 : Int32} {a2 : Int32} {a3 : Int32} {a4 : Int32} {a5 : Int32} {s : hq_S} {y : (Int32 × hq_S)} (h : f_X11_matchScore_L10 n m a1 a2 a3 a4 a5 s = some y) : hq_fx s y.2 := by
  induction m generalizing a1 a2 a3 a4 a5 s with
  | zero => cases h
  | succ m ih => exact f_X11_matchScore_L10_B_fr (n := n) (a1 := a1) (a2 := a2) (a3 := a3) (a4 := a4) (a5 := a5) (q10 := f_X11_matchScore_L10 n m) (fun a1 a2 a3 a4 a5 _ s h => ih h) h
theorem f_X11_matchScore_fr {n : Nat} {a1 : Int32} {s : hq_S} {y : (Int32 × hq_S)} (h : f_X11_matchScore n a1 s = some y) : hq_fx s y.2 := by
  unfold f_X11_matchScore at h
  have t := hq_fx_rf s
  exact hq_fx_tr t (f_X11_matchScore_L10_fr h)
theorem f_X11_bestMatch_L24_B_fr {n : Nat} {a1 : Int32} {a2 : Int32} {a3 : Int32} {a4 : Int32} {q24 : Int32 → Int32 → Int32 → Int32 → hq_S → Option (Int32 × hq_S)} {s : hq_S} {y : (Int32 × hq_S)} (e24 : ∀ (a1 : Int32) (a2 : Int32) (a3 : Int32) (a4 : Int32) (o5 : Option Value) (s : hq_S), q24 a1 a2 a3 a4 s = some y → hq_fx s y.2) (h : f_X11_bestMatch_L24_B n q24 a1 a2 a3 a4 s = some y) : hq_fx s y.2 := by
  unfold f_X11_bestMatch_L24_B at h
  have t := hq_fx_rf s
  by_cases c3 : a4 < a1
  · rw [if_pos c3] at h
    obtain ⟨y4, hy4, h⟩ := hq_bind h
    have t := hq_fx_tr t (f_X11_matchScore_fr hy4)
    obtain ⟨z5, hz5, h⟩ := hq_bind h
    exact hq_fx_tr t (e24 a1 z5.1 z5.2 (a4 + (1 : Int32)) none y4.2 h)
  · rw [if_neg c3] at h
    have h := Option.some.inj h
    subst h
    exact t
theorem f_X11_bestMatch_L24_fr {n m : Nat} {a1 : Int32} {a2 : Int32} {a3 : Int32} {a4 : Int32} {s : hq_S} {y : (Int32 × hq_S)} (h : f_X11_bestMatch_L24 n m a1 a2 a3 a4 s = some y) : hq_fx s y.2 := by
  induction m generalizing a1 a2 a3 a4 s with
  | zero => cases h
  | succ m ih => exact f_X11_bestMatch_L24_B_fr (n := n) (a1 := a1) (a2 := a2) (a3 := a3) (a4 := a4) (q24 := f_X11_bestMatch_L24 n m) (fun a1 a2 a3 a4 _ s h => ih h) h
theorem f_X11_bestMatch_fr {n : Nat} {s : hq_S} {y : (Int32 × hq_S)} (h : f_X11_bestMatch n s = some y) : hq_fx s y.2 := by
  unfold f_X11_bestMatch at h
  have t := hq_fx_rf s
  have m1 : hq_isT (hq_gr s 0 2) := hq_ifT h
  have bm1 := hq_leT m1
  rw [if_pos m1] at h
  obtain ⟨y2, hy2, h⟩ := hq_bind h
  have t := hq_fx_tr t (f_X11_power_fr hy2)
  exact hq_fx_tr t (f_X11_bestMatch_L24_fr h)
theorem f_X11_match_fr {n : Nat} {a1 : Int32} {s : hq_S} {y : (Int32 × hq_S)} (h : f_X11_match n a1 s = some y) : hq_fx s y.2 := by
  unfold f_X11_match at h
  have t := hq_fx_rf s
  by_cases c1 : a1 < 0
  · rw [if_pos c1] at h
    have h := Option.some.inj h
    subst h
    exact t
  · rw [if_neg c1] at h
    by_cases c2 : (4 : Int32) < a1
    · rw [if_pos c2] at h
      have h := Option.some.inj h
      subst h
      exact t
    · rw [if_neg c2] at h
      obtain ⟨y3, hy3, h⟩ := hq_bind h
      have t := hq_fx_tr t (f_X11_bestMatch_fr hy3)
      obtain ⟨y4, hy4, h⟩ := hq_bind h
      have t := hq_fx_tr t (f_X11_matchScore_fr hy4)
      by_cases c5 : a1 = (3 : Int32)
      · rw [if_pos c5] at h
        obtain ⟨x12, hx12, h⟩ := hq_bind h
        have h := Option.some.inj h
        subst h
        exact t
      · rw [if_neg c5] at h
        by_cases c6 : a1 = (4 : Int32)
        · rw [if_pos c6] at h
          obtain ⟨x11, hx11, h⟩ := hq_bind h
          have h := Option.some.inj h
          subst h
          exact t
        · rw [if_neg c6] at h
          have m7 : hq_isT (hq_gr y4.2 0 2) := hq_ifT h
          have bm7 := hq_leT m7
          rw [if_pos m7] at h
          by_cases c8 : a1 < (hq_gi y4.2 (hq_gr y4.2 0 2) 7)
          · rw [if_pos c8] at h
            obtain ⟨y9, hy9, h⟩ := hq_bind h
            have t := hq_fx_tr t (f_X11_thiefInRow_fr hy9)
            by_cases c10 : y9.1 = (4 : Int32)
            · rw [if_pos c10] at h
              have h := Option.some.inj h
              subst h
              exact t
            · rw [if_neg c10] at h
              have h := Option.some.inj h
              subst h
              exact t
          · rw [if_neg c8] at h
            have h := Option.some.inj h
            subst h
            exact t
theorem f_X11_gain_fr {n : Nat} {a1 : Int32} {a2 : Int32} {a3 : Int32} {a4 : Int32} {s : hq_S} {y : (Int32 × hq_S)} (h : f_X11_gain n a1 a2 a3 a4 s = some y) : hq_fx s y.2 := by
  unfold f_X11_gain at h
  have t := hq_fx_rf s
  by_cases c1 : a3 = 0
  · rw [if_pos c1] at h
    by_cases c6 : a4 = 0
    · rw [if_pos c6] at h
      obtain ⟨x7, hx7, h⟩ := hq_bind h
      obtain ⟨x8, hx8, h⟩ := hq_bind h
      have h := Option.some.inj h
      subst h
      exact t
    · rw [if_neg c6] at h
      have h := Option.some.inj h
      subst h
      exact t
  · rw [if_neg c1] at h
    by_cases c2 : a4 = 0
    · rw [if_pos c2] at h
      have h := Option.some.inj h
      subst h
      exact t
    · rw [if_neg c2] at h
      obtain ⟨x3, hx3, h⟩ := hq_bind h
      obtain ⟨x4, hx4, h⟩ := hq_bind h
      obtain ⟨x5, hx5, h⟩ := hq_bind h
      have h := Option.some.inj h
      subst h
      exact t
theorem f_X11_isRest_fr {n : Nat} {a1 : Int32} {a2 : Int32} {a3 : Int32} {s : hq_S} {y : (Int32 × hq_S)} (h : f_X11_isRest n a1 a2 a3 s = some y) : hq_fx s y.2 := by
  unfold f_X11_isRest at h
  have t := hq_fx_rf s
  obtain ⟨x1, hx1, h⟩ := hq_bind h
  obtain ⟨x2, hx2, h⟩ := hq_bind h
  obtain ⟨y3, hy3, h⟩ := hq_bind h
  have t := hq_fx_tr t (f_X11_gain_fr hy3)
  obtain ⟨y4, hy4, h⟩ := hq_bind h
  have t := hq_fx_tr t (f_X11_gain_fr hy4)
  by_cases c5 : y3.1 < y4.1
  · rw [if_pos c5] at h
    have h := Option.some.inj h
    subst h
    exact t
  · rw [if_neg c5] at h
    obtain ⟨y6, hy6, h⟩ := hq_bind h
    have t := hq_fx_tr t (f_X11_gain_fr hy6)
    obtain ⟨y7, hy7, h⟩ := hq_bind h
    have t := hq_fx_tr t (f_X11_gain_fr hy7)
    by_cases c8 : y6.1 < y7.1
    · rw [if_pos c8] at h
      have h := Option.some.inj h
      subst h
      exact t
    · rw [if_neg c8] at h
      have h := Option.some.inj h
      subst h
      exact t
theorem f_X11_rests_L28_B_fr {n : Nat} {a1 : Int32} {a2 : Int32} {a3 : Int32} {a4 : Int32} {q28 : Int32 → Int32 → Int32 → Int32 → hq_S → Option (Int32 × hq_S)} {s : hq_S} {y : (Int32 × hq_S)} (e28 : ∀ (a1 : Int32) (a2 : Int32) (a3 : Int32) (a4 : Int32) (s : hq_S), q28 a1 a2 a3 a4 s = some y → hq_fx s y.2) (h : f_X11_rests_L28_B n q28 a1 a2 a3 a4 s = some y) : hq_fx s y.2 := by
  unfold f_X11_rests_L28_B at h
  have t := hq_fx_rf s
  by_cases c6 : a4 < (4 : Int32)
  · rw [if_pos c6] at h
    obtain ⟨y7, hy7, h⟩ := hq_bind h
    have t := hq_fx_tr t (f_X11_isRest_fr hy7)
    obtain ⟨z8, hz8, h⟩ := hq_bind h
    exact hq_fx_tr t (e28 a1 a2 (a3 + z8) (a4 + (1 : Int32)) y7.2 h)
  · rw [if_neg c6] at h
    have h := Option.some.inj h
    subst h
    exact t
theorem f_X11_rests_L28_fr {n m : Nat} {a1 : Int32} {a2 : Int32} {a3 : Int32} {a4 : Int32} {s : hq_S} {y : (Int32 × hq_S)} (h : f_X11_rests_L28 n m a1 a2 a3 a4 s = some y) : hq_fx s y.2 := by
  induction m generalizing a1 a2 a3 a4 s with
  | zero => cases h
  | succ m ih => exact f_X11_rests_L28_B_fr (n := n) (a1 := a1) (a2 := a2) (a3 := a3) (a4 := a4) (q28 := f_X11_rests_L28 n m) (fun a1 a2 a3 a4 s h => ih h) h
theorem f_X11_rests_fr {n : Nat} {a1 : Int32} {a2 : Int32} {s : hq_S} {y : (Int32 × hq_S)} (h : f_X11_rests n a1 a2 s = some y) : hq_fx s y.2 := by
  unfold f_X11_rests at h
  have t := hq_fx_rf s
  obtain ⟨y1, hy1, h⟩ := hq_bind h
  have t := hq_fx_tr t (f_X11_isThief_fr hy1)
  by_cases c2 : y1.1 = 0
  · rw [if_pos c2] at h
    have h := Option.some.inj h
    subst h
    exact t
  · rw [if_neg c2] at h
    obtain ⟨y3, hy3, h⟩ := hq_bind h
    have t := hq_fx_tr t (f_X11_isThief_fr hy3)
    by_cases c4 : y3.1 = 0
    · rw [if_pos c4] at h
      have h := Option.some.inj h
      subst h
      exact t
    · rw [if_neg c4] at h
      by_cases c5 : a1 = a2
      · rw [if_pos c5] at h
        have h := Option.some.inj h
        subst h
        exact t
      · rw [if_neg c5] at h
        exact hq_fx_tr t (f_X11_rests_L28_fr h)
theorem f_X11_rest_J71_fr {n : Nat} {a1 : Int32} {a2 : Int32} {a3 : Int32} {a4 : Int32} {a5 : Int32} {q33 : Int32 → Int32 → Int32 → Int32 → Int32 → hq_S → Option (Int32 × hq_S)} {s : hq_S} {y : (Int32 × hq_S)} (e33 : ∀ (a1 : Int32) (a2 : Int32) (a3 : Int32) (a4 : Int32) (a5 : Int32) (s : hq_S), q33 a1 a2 a3 a4 a5 s = some y → hq_fx s y.2) (h : f_X11_rest_J71 n q33 a1 a2 a3 a4 a5 s = some y) : hq_fx s y.2 := by
  unfold f_X11_rest_J71 at h
  have t := hq_fx_rf s
  exact hq_fx_tr t (e33 a1 a2 a3 a4 (a5 + (1 : Int32)) s h)
theorem f_X11_rest_L33_B_fr {n : Nat} {a1 : Int32} {a2 : Int32} {a3 : Int32} {a4 : Int32} {a5 : Int32} {q33 : Int32 → Int32 → Int32 → Int32 → Int32 → hq_S → Option (Int32 × hq_S)} {s : hq_S} {y : (Int32 × hq_S)} (e33 : ∀ (a1 : Int32) (a2 : Int32) (a3 : Int32) (a4 : Int32) (a5 : Int32) (s : hq_S), q33 a1 a2 a3 a4 a5 s = some y → hq_fx s y.2) (h : f_X11_rest_L33_B n q33 a1 a2 a3 a4 a5 s = some y) : hq_fx s y.2 := by
  unfold f_X11_rest_L33_B at h
  have t := hq_fx_rf s
  by_cases c7 : a5 < (4 : Int32)
  · rw [if_pos c7] at h
    obtain ⟨y8, hy8, h⟩ := hq_bind h
    have t := hq_fx_tr t (f_X11_isRest_fr hy8)
    by_cases c9 : y8.1 = 0
    · rw [if_pos c9] at h
      exact hq_fx_tr t (f_X11_rest_J71_fr e33 h)
    · rw [if_neg c9] at h
      by_cases c10 : a4 = 0
      · rw [if_pos c10] at h
        obtain ⟨x11, hx11, h⟩ := hq_bind h
        obtain ⟨x12, hx12, h⟩ := hq_bind h
        have h := Option.some.inj h
        subst h
        exact t
      · rw [if_neg c10] at h
        exact hq_fx_tr t (f_X11_rest_J71_fr e33 h)
  · rw [if_neg c7] at h
    have h := Option.some.inj h
    subst h
    exact t
theorem f_X11_rest_L33_fr {n m : Nat} {a1 : Int32} {a2 : Int32} {a3 : Int32} {a4 : Int32} {a5 : Int32} {s : hq_S} {y : (Int32 × hq_S)} (h : f_X11_rest_L33 n m a1 a2 a3 a4 a5 s = some y) : hq_fx s y.2 := by
  induction m generalizing a1 a2 a3 a4 a5 s with
  | zero => cases h
  | succ m ih => exact f_X11_rest_L33_B_fr (n := n) (a1 := a1) (a2 := a2) (a3 := a3) (a4 := a4) (a5 := a5) (q33 := f_X11_rest_L33 n m) (fun a1 a2 a3 a4 a5 s h => ih h) h
theorem f_X11_rest_fr {n : Nat} {a1 : Int32} {a2 : Int32} {a3 : Int32} {s : hq_S} {y : (Int32 × hq_S)} (h : f_X11_rest n a1 a2 a3 s = some y) : hq_fx s y.2 := by
  unfold f_X11_rest at h
  have t := hq_fx_rf s
  obtain ⟨y1, hy1, h⟩ := hq_bind h
  have t := hq_fx_tr t (f_X11_isThief_fr hy1)
  by_cases c2 : y1.1 = 0
  · rw [if_pos c2] at h
    have h := Option.some.inj h
    subst h
    exact t
  · rw [if_neg c2] at h
    obtain ⟨y3, hy3, h⟩ := hq_bind h
    have t := hq_fx_tr t (f_X11_isThief_fr hy3)
    by_cases c4 : y3.1 = 0
    · rw [if_pos c4] at h
      have h := Option.some.inj h
      subst h
      exact t
    · rw [if_neg c4] at h
      by_cases c5 : a1 = a2
      · rw [if_pos c5] at h
        have h := Option.some.inj h
        subst h
        exact t
      · rw [if_neg c5] at h
        by_cases c6 : a3 < 0
        · rw [if_pos c6] at h
          have h := Option.some.inj h
          subst h
          exact t
        · rw [if_neg c6] at h
          exact hq_fx_tr t (f_X11_rest_L33_fr h)
theorem f_X11_holds_J19_fr {n : Nat} {a1 : Int32} {a2 : Int32} {s : hq_S} {y : (Int64 × hq_S)} (h : f_X11_holds_J19 n a1 a2 s = some y) : hq_fx s y.2 := by
  unfold f_X11_holds_J19 at h
  have t := hq_fx_rf s
  have h := Option.some.inj h
  subst h
  exact t
theorem f_X11_holds_fr {n : Nat} {a1 : Int32} {a2 : Int32} {s : hq_S} {y : (Int64 × hq_S)} (h : f_X11_holds n a1 a2 s = some y) : hq_fx s y.2 := by
  unfold f_X11_holds at h
  have t := hq_fx_rf s
  by_cases c1 : a1 < 0
  · rw [if_pos c1] at h
    exact hq_fx_tr t (f_X11_holds_J19_fr h)
  · rw [if_neg c1] at h
    by_cases c2 : (6 : Int32) < a1
    · rw [if_pos c2] at h
      exact hq_fx_tr t (f_X11_holds_J19_fr h)
    · rw [if_neg c2] at h
      by_cases c3 : a2 < 0
      · rw [if_pos c3] at h
        exact hq_fx_tr t (f_X11_holds_J19_fr h)
      · rw [if_neg c3] at h
        by_cases c4 : (1 : Int32) < a2
        · rw [if_pos c4] at h
          exact hq_fx_tr t (f_X11_holds_J19_fr h)
        · rw [if_neg c4] at h
          have m5 : hq_isT (hq_gr s 0 2) := hq_ifT h
          have bm5 := hq_leT m5
          rw [if_pos m5] at h
          obtain ⟨y6, hy6, h⟩ := hq_bind h
          have t := hq_fx_tr t (f_X11_power_fr hy6)
          obtain ⟨y7, hy7, h⟩ := hq_bind h
          have t := hq_fx_tr t (f_X11_power_fr hy7)
          obtain ⟨y8, hy8, h⟩ := hq_bind h
          have t := hq_fx_tr t (f_X11_inLeastTerms_fr hy8)
          have h := Option.some.inj h
          subst h
          exact t
theorem f_X11_see_fr {n : Nat} {a1 : Int32} {a2 : Int32} {a3 : Int32} {a4 : Int32} {s : hq_S} {y : (Int32 × hq_S)} (h : f_X11_see n a1 a2 a3 a4 s = some y) : hq_fx s y.2 := by
  unfold f_X11_see at h
  have t := hq_fx_rf s
  by_cases c1 : a1 < (1 : Int32)
  · rw [if_pos c1] at h
    have h := Option.some.inj h
    subst h
    exact t
  · rw [if_neg c1] at h
    by_cases c2 : (60 : Int32) < a1
    · rw [if_pos c2] at h
      have h := Option.some.inj h
      subst h
      exact t
    · rw [if_neg c2] at h
      obtain ⟨y3, hy3, h⟩ := hq_bind h
      have t := hq_fx_tr t (f_X11_isThief_fr hy3)
      by_cases c4 : y3.1 = 0
      · rw [if_pos c4] at h
        have h := Option.some.inj h
        subst h
        exact t
      · rw [if_neg c4] at h
        obtain ⟨y5, hy5, h⟩ := hq_bind h
        have t := hq_fx_tr t (f_X11_isCorner_fr hy5)
        by_cases c6 : y5.1 = 0
        · rw [if_pos c6] at h
          have h := Option.some.inj h
          subst h
          exact t
        · rw [if_neg c6] at h
          obtain ⟨y7, hy7, h⟩ := hq_bind h
          have t := hq_fx_tr t (f_X2_addSight_fr hy7)
          have h := Option.some.inj h
          subst h
          exact t
theorem f_X11_strike_fr {n : Nat} {a1 : Int32} {s : hq_S} {y : (Int32 × hq_S)} (h : f_X11_strike n a1 s = some y) : hq_fx s y.2 := by
  unfold f_X11_strike at h
  have t := hq_fx_rf s
  obtain ⟨y1, hy1, h⟩ := hq_bind h
  have t := hq_fx_tr t (f_X2_addStrike_fr hy1)
  have h := Option.some.inj h
  subst h
  exact t
theorem f_X11_known_fr {n : Nat} {a1 : Int32} {s : hq_S} {y : (Int32 × hq_S)} (h : f_X11_known n a1 s = some y) : hq_fx s y.2 := by
  unfold f_X11_known at h
  have t := hq_fx_rf s
  obtain ⟨y1, hy1, h⟩ := hq_bind h
  have t := hq_fx_tr t (f_X2_knowBy_fr hy1)
  have hr : mm_rfit (mm_ret mc_X11_known) y1.1 = true := hq_ifT h
  rw [if_pos hr] at h
  have h := Option.some.inj h
  subst h
  exact t
theorem f_X11_playFromText_fr {n : Nat} {s : hq_S} {y : hq_S} (h : f_X11_playFromText n s = some y) : hq_fx s y := by
  unfold f_X11_playFromText at h
  have t := hq_fx_rf s
  have m1 : hq_isT (hq_gr s 0 2) := hq_ifT h
  have bm1 := hq_leT m1
  rw [if_pos m1] at h
  obtain ⟨s2, hs2, h⟩ := hq_bind h
  have t := hq_fx_tr t (f_X8_build_fr (by decide) m1 hs2)
  have m3 : hq_isT (hq_gr s2 0 2) := hq_ifT h
  have bm3 := hq_leT m3
  rw [if_pos m3] at h
  obtain ⟨s4, hs4, h⟩ := hq_bind h
  have t := hq_fx_tr t (f_X3_setUp_fr m3 (by decide) (by decide) hs4)
  have h := Option.some.inj h
  subst h
  exact t
theorem f_X11_bolds_fr {n : Nat} {a1 : Int32} {s : hq_S} {y : (Int32 × hq_S)} (h : f_X11_bolds n a1 s = some y) : hq_fx s y.2 := by
  unfold f_X11_bolds at h
  have t := hq_fx_rf s
  obtain ⟨y1, hy1, h⟩ := hq_bind h
  have t := hq_fx_tr t (f_X11_isThief_fr hy1)
  by_cases c2 : y1.1 = 0
  · rw [if_pos c2] at h
    have h := Option.some.inj h
    subst h
    exact t
  · rw [if_neg c2] at h
    obtain ⟨s3, hs3, h⟩ := hq_bind h
    have t := hq_fx_tr t (f_X11_playFromText_fr hs3)
    have m4 : hq_isT (hq_gr s3 0 2) := hq_ifT h
    have bm4 := hq_leT m4
    rw [if_pos m4] at h
    obtain ⟨y5, hy5, h⟩ := hq_bind h
    have t := hq_fx_tr t (f_X2_lastHour_fr hy5)
    obtain ⟨y6, hy6, h⟩ := hq_bind h
    have t := hq_fx_tr t (f_X2_boldsOf_fr (hq_shT_m14 m4) hy6)
    have h := Option.some.inj h
    subst h
    exact t
theorem f_X11_ask_fr {n : Nat} {a1 : Int32} {a2 : Int32} {s : hq_S} {y : (Int32 × hq_S)} (h : f_X11_ask n a1 a2 s = some y) : hq_fx s y.2 := by
  unfold f_X11_ask at h
  have t := hq_fx_rf s
  obtain ⟨y1, hy1, h⟩ := hq_bind h
  have t := hq_fx_tr t (f_X11_isThief_fr hy1)
  by_cases c2 : y1.1 = 0
  · rw [if_pos c2] at h
    have h := Option.some.inj h
    subst h
    exact t
  · rw [if_neg c2] at h
    by_cases c3 : a2 < 0
    · rw [if_pos c3] at h
      have h := Option.some.inj h
      subst h
      exact t
    · rw [if_neg c3] at h
      by_cases c4 : (1 : Int32) < a2
      · rw [if_pos c4] at h
        have h := Option.some.inj h
        subst h
        exact t
      · rw [if_neg c4] at h
        obtain ⟨s5, hs5, h⟩ := hq_bind h
        have t := hq_fx_tr t (f_X11_playFromText_fr hs5)
        have m6 : hq_isT (hq_gr s5 0 2) := hq_ifT h
        have bm6 := hq_leT m6
        rw [if_pos m6] at h
        obtain ⟨y7, hy7, h⟩ := hq_bind h
        have t := hq_fx_tr t (f_X2_boldsOf_fr (hq_shT_m14 m6) hy7)
        obtain ⟨s8, hs8, h⟩ := hq_bind h
        have t := hq_fx_tr t (f_X2_chooseQuestion_fr hs8)
        by_cases c9 : a2 = 0
        · rw [if_pos c9] at h
          have h := Option.some.inj h
          subst h
          exact t
        · rw [if_neg c9] at h
          have h := Option.some.inj h
          subst h
          exact t
theorem f_X11_chance_L35_B_fr {n : Nat} {a1 : Int32} {a2 : Int32} {a3 : Int32} {a4 : Int32} {j5 : Int64} {a7 : Int32} {q35 : Int32 → Int32 → Int32 → Int32 → Int64 → Int32 → hq_S → Option (Int32 × hq_S)} {s : hq_S} {y : (Int32 × hq_S)} (e35 : ∀ (a1 : Int32) (a2 : Int32) (a3 : Int32) (a4 : Int32) (j5 : Int64) (a7 : Int32) (s : hq_S), q35 a1 a2 a3 a4 j5 a7 s = some y → hq_fx s y.2) (h : f_X11_chance_L35_B n q35 a1 a2 a3 a4 j5 a7 s = some y) : hq_fx s y.2 := by
  unfold f_X11_chance_L35_B at h
  have t := hq_fx_rf s
  by_cases c6 : a7 < (10 : Int32)
  · rw [if_pos c6] at h
    obtain ⟨s7, hs7, h⟩ := hq_bind h
    have t := hq_fx_tr t (f_X5_copyFrom_fr (by decide) (by decide) hs7)
    obtain ⟨s8, hs8, h⟩ := hq_bind h
    have t := hq_fx_tr t (hq_fx_pj hs8 (by first | decide | omega))
    have m9 : hq_isT (hq_gr s8 0 2) := hq_ifT h
    have bm9 := hq_leT m9
    rw [if_pos m9] at h
    obtain ⟨s10, hs10, h⟩ := hq_bind h
    have t := hq_fx_tr t (f_X3_setUp_fr m9 (by decide) (by decide) hs10)
    obtain ⟨s11, hs11, h⟩ := hq_bind h
    have t := hq_fx_tr t (f_X3_passMany_fr hs11)
    obtain ⟨y12, hy12, h⟩ := hq_bind h
    have t := hq_fx_tr t (f_X5_isFree_fr (by decide) hy12)
    obtain ⟨z13, hz13, h⟩ := hq_bind h
    exact hq_fx_tr t (e35 a1 a2 a3 (a4 + z13) (hq_gj s11 94 1) (a7 + (1 : Int32)) y12.2 h)
  · rw [if_neg c6] at h
    have h := Option.some.inj h
    subst h
    exact t
theorem f_X11_chance_L35_fr {n m : Nat} {a1 : Int32} {a2 : Int32} {a3 : Int32} {a4 : Int32} {j5 : Int64} {a7 : Int32} {s : hq_S} {y : (Int32 × hq_S)} (h : f_X11_chance_L35 n m a1 a2 a3 a4 j5 a7 s = some y) : hq_fx s y.2 := by
  induction m generalizing a1 a2 a3 a4 j5 a7 s with
  | zero => cases h
  | succ m ih => exact f_X11_chance_L35_B_fr (n := n) (a1 := a1) (a2 := a2) (a3 := a3) (a4 := a4) (j5 := j5) (a7 := a7) (q35 := f_X11_chance_L35 n m) (fun a1 a2 a3 a4 j5 a7 s h => ih h) h
theorem f_X11_chance_fr {n : Nat} {a1 : Int32} {a2 : Int32} {a3 : Int32} {s : hq_S} {y : (Int32 × hq_S)} (h : f_X11_chance n a1 a2 a3 s = some y) : hq_fx s y.2 := by
  unfold f_X11_chance at h
  have t := hq_fx_rf s
  by_cases c1 : a1 < 0
  · rw [if_pos c1] at h
    have h := Option.some.inj h
    subst h
    exact t
  · rw [if_neg c1] at h
    by_cases c2 : a2 < (1 : Int32)
    · rw [if_pos c2] at h
      have h := Option.some.inj h
      subst h
      exact t
    · rw [if_neg c2] at h
      by_cases c3 : (99 : Int32) < a2
      · rw [if_pos c3] at h
        have h := Option.some.inj h
        subst h
        exact t
      · rw [if_neg c3] at h
        obtain ⟨y4, hy4, h⟩ := hq_bind h
        have t := hq_fx_tr t (f_X11_isThief_fr hy4)
        by_cases c5 : y4.1 = 0
        · rw [if_pos c5] at h
          have h := Option.some.inj h
          subst h
          exact t
        · rw [if_neg c5] at h
          exact hq_fx_tr t (f_X11_chance_L35_fr h)
theorem f_X11_tried_J144_fr {n : Nat} {a1 : Int32} {a2 : Int32} {a3 : Int32} {s : hq_S} {y : (Int32 × hq_S)} (h : f_X11_tried_J144 n a1 a2 a3 s = some y) : hq_fx s y.2 := by
  unfold f_X11_tried_J144 at h
  have t := hq_fx_rf s
  obtain ⟨s10, hs10, h⟩ := hq_bind h
  have t := hq_fx_tr t (f_X3_passMany_fr hs10)
  have m11 : hq_isT (hq_gr s10 0 2) := hq_ifT h
  have bm11 := hq_leT m11
  rw [if_pos m11] at h
  obtain ⟨y12, hy12, h⟩ := hq_bind h
  have t := hq_fx_tr t (f_X5_hadByAll_fr (by decide) hy12)
  have h := Option.some.inj h
  subst h
  exact t
theorem f_X11_tried_J42_fr {n : Nat} {a1 : Int32} {a2 : Int32} {a3 : Int32} {s : hq_S} {y : (Int32 × hq_S)} (h : f_X11_tried_J42 n a1 a2 a3 s = some y) : hq_fx s y.2 := by
  unfold f_X11_tried_J42 at h
  have t := hq_fx_rf s
  obtain ⟨s7, hs7, h⟩ := hq_bind h
  have t := hq_fx_tr t (f_X11_playAsItGoes_fr hs7)
  by_cases c8 : a1 = (0 : Int32)
  · rw [if_pos c8] at h
    obtain ⟨s9, hs9, h⟩ := hq_bind h
    have t := hq_fx_tr t (hq_fx_pi hs9 (by first | decide | omega))
    exact hq_fx_tr t (f_X11_tried_J144_fr h)
  rw [if_neg c8] at h
  by_cases c13 : a1 = (1 : Int32)
  · rw [if_pos c13] at h
    obtain ⟨s14, hs14, h⟩ := hq_bind h
    have t := hq_fx_tr t (hq_fx_pi hs14 (by first | decide | omega))
    exact hq_fx_tr t (f_X11_tried_J144_fr h)
  rw [if_neg c13] at h
  by_cases c15 : a1 = (2 : Int32)
  · rw [if_pos c15] at h
    obtain ⟨s16, hs16, h⟩ := hq_bind h
    have t := hq_fx_tr t (hq_fx_pi hs16 (by first | decide | omega))
    exact hq_fx_tr t (f_X11_tried_J144_fr h)
  rw [if_neg c15] at h
  by_cases c17 : a1 = (3 : Int32)
  · rw [if_pos c17] at h
    obtain ⟨s18, hs18, h⟩ := hq_bind h
    have t := hq_fx_tr t (hq_fx_pi hs18 (by first | decide | omega))
    exact hq_fx_tr t (f_X11_tried_J144_fr h)
  rw [if_neg c17] at h
  have m19 : hq_isT (hq_gr s7 0 2) := hq_ifT h
  have bm19 := hq_leT m19
  rw [if_pos m19] at h
  obtain ⟨s20, hs20, h⟩ := hq_bind h
  have t := hq_fx_tr t (f_X8_build_fr (by decide) m19 hs20)
  obtain ⟨s21, hs21, h⟩ := hq_bind h
  have t := hq_fx_tr t (hq_fx_pr hs21 (by first | decide | omega))
  exact hq_fx_tr t (f_X11_tried_J144_fr h)
theorem f_X11_tried_fr {n : Nat} {a1 : Int32} {a2 : Int32} {a3 : Int32} {s : hq_S} {y : (Int32 × hq_S)} (h : f_X11_tried n a1 a2 a3 s = some y) : hq_fx s y.2 := by
  unfold f_X11_tried at h
  have t := hq_fx_rf s
  by_cases c1 : a1 < 0
  · rw [if_pos c1] at h
    have h := Option.some.inj h
    subst h
    exact t
  · rw [if_neg c1] at h
    by_cases c2 : (4 : Int32) < a1
    · rw [if_pos c2] at h
      have h := Option.some.inj h
      subst h
      exact t
    · rw [if_neg c2] at h
      by_cases c3 : a3 < 0
      · rw [if_pos c3] at h
        have h := Option.some.inj h
        subst h
        exact t
      · rw [if_neg c3] at h
        by_cases c4 : (200 : Int32) < a3
        · rw [if_pos c4] at h
          have h := Option.some.inj h
          subst h
          exact t
        · rw [if_neg c4] at h
          by_cases c5 : a1 = (2 : Int32)
          · rw [if_pos c5] at h
            obtain ⟨y22, hy22, h⟩ := hq_bind h
            have t := hq_fx_tr t (f_X11_isGuard_fr hy22)
            by_cases c23 : y22.1 = 0
            · rw [if_pos c23] at h
              have h := Option.some.inj h
              subst h
              exact t
            · rw [if_neg c23] at h
              exact hq_fx_tr t (f_X11_tried_J42_fr h)
          · rw [if_neg c5] at h
            by_cases c6 : a2 = 0
            · rw [if_pos c6] at h
              exact hq_fx_tr t (f_X11_tried_J42_fr h)
            · rw [if_neg c6] at h
              have h := Option.some.inj h
              subst h
              exact t
theorem f_X11_undo_J113_fr {n : Nat} {s : hq_S} {y : (Int32 × hq_S)} (h : f_X11_undo_J113 n s = some y) : hq_fx s y.2 := by
  unfold f_X11_undo_J113 at h
  have t := hq_fx_rf s
  have h := Option.some.inj h
  subst h
  exact t
theorem f_X11_undo_fr {n : Nat} {s : hq_S} {y : (Int32 × hq_S)} (h : f_X11_undo n s = some y) : hq_fx s y.2 := by
  unfold f_X11_undo at h
  have t := hq_fx_rf s
  by_cases c1 : (hq_gi s 170 0) = 0
  · rw [if_pos c1] at h
    have h := Option.some.inj h
    subst h
    exact t
  · rw [if_neg c1] at h
    obtain ⟨s2, hs2, h⟩ := hq_bind h
    have t := hq_fx_tr t (f_X1_takeLatest_fr hs2)
    by_cases c3 : (hq_gi s2 170 4) = (0 : Int32)
    · rw [if_pos c3] at h
      obtain ⟨s4, hs4, h⟩ := hq_bind h
      have t := hq_fx_tr t (hq_fx_st hs4 (by first | decide | omega))
      exact hq_fx_tr t (f_X11_undo_J113_fr h)
    rw [if_neg c3] at h
    by_cases c5 : (hq_gi s2 170 4) = (1 : Int32)
    · rw [if_pos c5] at h
      obtain ⟨s6, hs6, h⟩ := hq_bind h
      have t := hq_fx_tr t (f_X11_turnBar_fr hs6)
      exact hq_fx_tr t (f_X11_undo_J113_fr h)
    rw [if_neg c5] at h
    obtain ⟨s7, hs7, h⟩ := hq_bind h
    have t := hq_fx_tr t (hq_fx_st hs7 (by first | decide | omega))
    exact hq_fx_tr t (f_X11_undo_J113_fr h)
theorem f_X11_keep_fr {n : Nat} {s : hq_S} {y : (Int32 × hq_S)} (h : f_X11_keep n s = some y) : hq_fx s y.2 := by
  unfold f_X11_keep at h
  have t := hq_fx_rf s
  obtain ⟨s1, hs1, h⟩ := hq_bind h
  have t := hq_fx_tr t (f_X5_copyFrom_fr (by decide) (by decide) hs1)
  obtain ⟨s2, hs2, h⟩ := hq_bind h
  have t := hq_fx_tr t (hq_fx_pi hs2 (by first | decide | omega))
  have h := Option.some.inj h
  subst h
  exact t
theorem f_X11_back_fr {n : Nat} {s : hq_S} {y : (Int32 × hq_S)} (h : f_X11_back n s = some y) : hq_fx s y.2 := by
  unfold f_X11_back at h
  have t := hq_fx_rf s
  by_cases c1 : (hq_gi s 0 7) = 0
  · rw [if_pos c1] at h
    have h := Option.some.inj h
    subst h
    exact t
  · rw [if_neg c1] at h
    obtain ⟨s2, hs2, h⟩ := hq_bind h
    have t := hq_fx_tr t (f_X5_copyFrom_fr (by decide) (by decide) hs2)
    have m3 : hq_isT (hq_gr s2 0 2) := hq_ifT h
    have bm3 := hq_leT m3
    rw [if_pos m3] at h
    obtain ⟨s4, hs4, h⟩ := hq_bind h
    have t := hq_fx_tr t (f_X8_build_fr (by decide) m3 hs4)
    obtain ⟨s5, hs5, h⟩ := hq_bind h
    have t := hq_fx_tr t (f_X1_clear_fr hs5)
    have h := Option.some.inj h
    subst h
    exact t
theorem f_X11_count_fr {n : Nat} {a1 : Int32} {s : hq_S} {y : (Int32 × hq_S)} (h : f_X11_count n a1 s = some y) : hq_fx s y.2 := by
  unfold f_X11_count at h
  have t := hq_fx_rf s
  by_cases c1 : a1 = (0 : Int32)
  · rw [if_pos c1] at h
    have m2 : hq_isT (hq_gr s 0 2) := hq_ifT h
    have bm2 := hq_leT m2
    rw [if_pos m2] at h
    have h := Option.some.inj h
    subst h
    exact t
  rw [if_neg c1] at h
  by_cases c3 : a1 = (1 : Int32)
  · rw [if_pos c3] at h
    have m4 : hq_isT (hq_gr s 0 2) := hq_ifT h
    have bm4 := hq_leT m4
    rw [if_pos m4] at h
    have h := Option.some.inj h
    subst h
    exact t
  rw [if_neg c3] at h
  by_cases c5 : a1 = (2 : Int32)
  · rw [if_pos c5] at h
    have m6 : hq_isT (hq_gr s 0 2) := hq_ifT h
    have bm6 := hq_leT m6
    rw [if_pos m6] at h
    have h := Option.some.inj h
    subst h
    exact t
  rw [if_neg c5] at h
  by_cases c7 : a1 = (3 : Int32)
  · rw [if_pos c7] at h
    have m8 : hq_isT (hq_gr s 0 2) := hq_ifT h
    have bm8 := hq_leT m8
    rw [if_pos m8] at h
    have h := Option.some.inj h
    subst h
    exact t
  rw [if_neg c7] at h
  by_cases c9 : a1 = (4 : Int32)
  · rw [if_pos c9] at h
    have m10 : hq_isT (hq_gr s 0 2) := hq_ifT h
    have bm10 := hq_leT m10
    rw [if_pos m10] at h
    have h := Option.some.inj h
    subst h
    exact t
  rw [if_neg c9] at h
  by_cases c11 : a1 = (5 : Int32)
  · rw [if_pos c11] at h
    have h := Option.some.inj h
    subst h
    exact t
  rw [if_neg c11] at h
  by_cases c12 : a1 = (6 : Int32)
  · rw [if_pos c12] at h
    have m13 : hq_isT (hq_gr s 0 2) := hq_ifT h
    have bm13 := hq_leT m13
    rw [if_pos m13] at h
    obtain ⟨y14, hy14, h⟩ := hq_bind h
    have t := hq_fx_tr t (f_X5_howManyCaught_fr (by decide) hy14)
    have h := Option.some.inj h
    subst h
    exact t
  rw [if_neg c12] at h
  by_cases c15 : a1 = (7 : Int32)
  · rw [if_pos c15] at h
    have m16 : hq_isT (hq_gr s 0 2) := hq_ifT h
    have bm16 := hq_leT m16
    rw [if_pos m16] at h
    obtain ⟨y17, hy17, h⟩ := hq_bind h
    have t := hq_fx_tr t (f_X5_lootOfAll_fr (by decide) hy17)
    have h := Option.some.inj h
    subst h
    exact t
  rw [if_neg c15] at h
  by_cases c18 : a1 = (8 : Int32)
  · rw [if_pos c18] at h
    have m19 : hq_isT (hq_gr s 0 2) := hq_ifT h
    have bm19 := hq_leT m19
    rw [if_pos m19] at h
    obtain ⟨y20, hy20, h⟩ := hq_bind h
    have t := hq_fx_tr t (f_X5_hadByAll_fr (by decide) hy20)
    have h := Option.some.inj h
    subst h
    exact t
  rw [if_neg c18] at h
  by_cases c21 : a1 = (9 : Int32)
  · rw [if_pos c21] at h
    obtain ⟨y22, hy22, h⟩ := hq_bind h
    have t := hq_fx_tr t (f_J6_bitCount_0f7a4_fr hy22)
    have h := Option.some.inj h
    subst h
    exact t
  rw [if_neg c21] at h
  by_cases c23 : a1 = (10 : Int32)
  · rw [if_pos c23] at h
    have h := Option.some.inj h
    subst h
    exact t
  rw [if_neg c23] at h
  by_cases c24 : a1 = (11 : Int32)
  · rw [if_pos c24] at h
    obtain ⟨y25, hy25, h⟩ := hq_bind h
    have t := hq_fx_tr t (f_X2_knownBy_fr hy25)
    have h := Option.some.inj h
    subst h
    exact t
  rw [if_neg c24] at h
  by_cases c26 : a1 = (12 : Int32)
  · rw [if_pos c26] at h
    have h := Option.some.inj h
    subst h
    exact t
  rw [if_neg c26] at h
  have h := Option.some.inj h
  subst h
  exact t
theorem f_X12_thrown_fr {n : Nat} {s : hq_S} {y : (Int32 × hq_S)} (h : f_X12_thrown n s = some y) : hq_fm s y.2 := by
  unfold f_X12_thrown at h
  have t := hq_fm_rf s
  have h := Option.some.inj h
  subst h
  exact t
theorem f_X12_feed_L20_B_fr {n : Nat} {a1 : Int32} {a2 : Int32} {a3 : Int32} {a4 : Int32} {a5 : Int32} {a6 : Int32} {q20 : Int32 → Int32 → Int32 → Int32 → Int32 → Int32 → hq_S → Option (Int32 × hq_S)} {s : hq_S} {y : (Int32 × hq_S)} (e20 : ∀ (a1 : Int32) (a2 : Int32) (a3 : Int32) (a4 : Int32) (a5 : Int32) (a6 : Int32) (o7 : Option Value) (s : hq_S), q20 a1 a2 a3 a4 a5 a6 s = some y → hq_fm s y.2) (h : f_X12_feed_L20_B n q20 a1 a2 a3 a4 a5 a6 s = some y) : hq_fm s y.2 := by
  unfold f_X12_feed_L20_B at h
  have t := hq_fm_rf s
  by_cases c3 : a6 < (20 : Int32)
  · rw [if_pos c3] at h
    obtain ⟨z5, hz5, h⟩ := hq_bind h
    obtain ⟨x10, hx10, h⟩ := hq_bind h
    obtain ⟨s11, hs11, h⟩ := hq_bind h
    have t := hq_fm_tr t (hq_fm_st hs11 (by first | decide | omega))
    exact hq_fm_tr t (e20 a1 a2 a3 a4 a5 (a6 + (1 : Int32)) none s11 h)
  · rw [if_neg c3] at h
    obtain ⟨s4, hs4, h⟩ := hq_bind h
    have t := hq_fm_tr t (hq_fm_pi hs4 (by first | decide | omega))
    have h := Option.some.inj h
    subst h
    exact t
theorem f_X12_feed_L20_fr {n m : Nat} {a1 : Int32} {a2 : Int32} {a3 : Int32} {a4 : Int32} {a5 : Int32} {a6 : Int32} {s : hq_S} {y : (Int32 × hq_S)} (h : f_X12_feed_L20 n m a1 a2 a3 a4 a5 a6 s = some y) : hq_fm s y.2 := by
  induction m generalizing a1 a2 a3 a4 a5 a6 s with
  | zero => cases h
  | succ m ih => exact f_X12_feed_L20_B_fr (n := n) (a1 := a1) (a2 := a2) (a3 := a3) (a4 := a4) (a5 := a5) (a6 := a6) (q20 := f_X12_feed_L20 n m) (fun a1 a2 a3 a4 a5 a6 _ s h => ih h) h
theorem f_X12_feed_fr {n : Nat} {a1 : Int32} {a2 : Int32} {a3 : Int32} {a4 : Int32} {a5 : Int32} {s : hq_S} {y : (Int32 × hq_S)} (h : f_X12_feed n a1 a2 a3 a4 a5 s = some y) : hq_fm s y.2 := by
  unfold f_X12_feed at h
  have t := hq_fm_rf s
  obtain ⟨s1, hs1, h⟩ := hq_bind h
  have t := hq_fm_tr t (hq_fm_pi hs1 (by first | decide | omega))
  by_cases c2 : (680 : Int32) < (hq_gi s1 174 2)
  · rw [if_pos c2] at h
    have h := Option.some.inj h
    subst h
    exact t
  · rw [if_neg c2] at h
    exact hq_fm_tr t (f_X12_feed_L20_fr h)
theorem f_X12_here_fr {n : Nat} {s : hq_S} {y : (Int32 × hq_S)} (h : f_X12_here n s = some y) : hq_fm s y.2 := by
  unfold f_X12_here at h
  have t := hq_fm_rf s
  by_cases c1 : (hq_gi s 174 24) < (hq_gi s 174 23)
  · rw [if_pos c1] at h
    obtain ⟨x2, hx2, h⟩ := hq_bind h
    have h := Option.some.inj h
    subst h
    exact t
  · rw [if_neg c1] at h
    have h := Option.some.inj h
    subst h
    exact t
theorem f_X12_isSmall_fr {n : Nat} {a0 : Int32} {s : hq_S} {y : (Int32 × hq_S)} (h : f_X12_isSmall n a0 s = some y) : hq_fm s y.2 := by
  unfold f_X12_isSmall at h
  have t := hq_fm_rf s
  by_cases c1 : a0 < (97 : Int32)
  · rw [if_pos c1] at h
    have h := Option.some.inj h
    subst h
    exact t
  · rw [if_neg c1] at h
    by_cases c2 : (122 : Int32) < a0
    · rw [if_pos c2] at h
      have h := Option.some.inj h
      subst h
      exact t
    · rw [if_neg c2] at h
      have h := Option.some.inj h
      subst h
      exact t
theorem f_X12_isDigit_fr {n : Nat} {a0 : Int32} {s : hq_S} {y : (Int32 × hq_S)} (h : f_X12_isDigit n a0 s = some y) : hq_fm s y.2 := by
  unfold f_X12_isDigit at h
  have t := hq_fm_rf s
  by_cases c1 : a0 < (48 : Int32)
  · rw [if_pos c1] at h
    have h := Option.some.inj h
    subst h
    exact t
  · rw [if_neg c1] at h
    by_cases c2 : (57 : Int32) < a0
    · rw [if_pos c2] at h
      have h := Option.some.inj h
      subst h
      exact t
    · rw [if_neg c2] at h
      have h := Option.some.inj h
      subst h
      exact t
theorem f_X12_word_L97_B_fr {n : Nat} {a1 : Int32} {a2 : Int32} {a3 : Int32} {q4 : Int32 → Int32 → hq_S → Option (Int32 × hq_S)} {q97 : Int32 → Int32 → Int32 → hq_S → Option (Int32 × hq_S)} {s : hq_S} {y : (Int32 × hq_S)} (e4 : ∀ (a1 : Int32) (a2 : Int32) (o3 : Option Value) (s : hq_S), q4 a1 a2 s = some y → hq_fm s y.2) (e97 : ∀ (a1 : Int32) (a2 : Int32) (a3 : Int32) (s : hq_S), q97 a1 a2 a3 s = some y → hq_fm s y.2) (h : f_X12_word_L97_B n q4 q97 a1 a2 a3 s = some y) : hq_fm s y.2 := by
  unfold f_X12_word_L97_B at h
  have t := hq_fm_rf s
  obtain ⟨x6, hx6, h⟩ := hq_bind h
  by_cases c7 : x6 = (32 : Int32)
  · rw [if_pos c7] at h
    exact hq_fm_tr t (e4 (a1 + (1 : Int32)) (a2 + (1 : Int32)) none s h)
  · rw [if_neg c7] at h
    exact hq_fm_tr t (e97 a1 (a2 + (1 : Int32)) a3 s h)
theorem f_X12_word_L97_fr {n m : Nat} {a1 : Int32} {a2 : Int32} {a3 : Int32} {q4 : Int32 → Int32 → hq_S → Option (Int32 × hq_S)} {s : hq_S} {y : (Int32 × hq_S)} (e4 : ∀ (a1 : Int32) (a2 : Int32) (o3 : Option Value) (s : hq_S), q4 a1 a2 s = some y → hq_fm s y.2) (h : f_X12_word_L97 n q4 m a1 a2 a3 s = some y) : hq_fm s y.2 := by
  induction m generalizing a1 a2 a3 s with
  | zero => cases h
  | succ m ih => exact f_X12_word_L97_B_fr (n := n) (a1 := a1) (a2 := a2) (a3 := a3) (q97 := f_X12_word_L97 n q4 m) e4 (fun a1 a2 a3 s h => ih h) h
theorem f_X12_word_J69_fr {n : Nat} {a1 : Int32} {a2 : Int32} {a3 : Int32} {q4 : Int32 → Int32 → hq_S → Option (Int32 × hq_S)} {s : hq_S} {y : (Int32 × hq_S)} (e4 : ∀ (a1 : Int32) (a2 : Int32) (o3 : Option Value) (s : hq_S), q4 a1 a2 s = some y → hq_fm s y.2) (h : f_X12_word_J69 n q4 a1 a2 a3 s = some y) : hq_fm s y.2 := by
  unfold f_X12_word_J69 at h
  have t := hq_fm_rf s
  obtain ⟨x4, hx4, h⟩ := hq_bind h
  by_cases c5 : x4 = (32 : Int32)
  · rw [if_pos c5] at h
    by_cases c8 : ((hq_gi s 174 25) + a3) = (hq_gi s 174 24)
    · rw [if_pos c8] at h
      have h := Option.some.inj h
      subst h
      exact t
    · rw [if_neg c8] at h
      exact hq_fm_tr t (f_X12_word_L97_fr e4 h)
  · rw [if_neg c5] at h
    exact hq_fm_tr t (f_X12_word_L97_fr e4 h)
theorem f_X12_word_L15_B_fr {n : Nat} {a1 : Int32} {a2 : Int32} {a3 : Int32} {q4 : Int32 → Int32 → hq_S → Option (Int32 × hq_S)} {q15 : Int32 → Int32 → Int32 → hq_S → Option (Int32 × hq_S)} {s : hq_S} {y : (Int32 × hq_S)} (e4 : ∀ (a1 : Int32) (a2 : Int32) (o3 : Option Value) (s : hq_S), q4 a1 a2 s = some y → hq_fm s y.2) (e15 : ∀ (a1 : Int32) (a2 : Int32) (a3 : Int32) (s : hq_S), q15 a1 a2 a3 s = some y → hq_fm s y.2) (h : f_X12_word_L15_B n q4 q15 a1 a2 a3 s = some y) : hq_fm s y.2 := by
  unfold f_X12_word_L15_B at h
  have t := hq_fm_rf s
  obtain ⟨x2, hx2, h⟩ := hq_bind h
  by_cases c3 : x2 = (32 : Int32)
  · rw [if_pos c3] at h
    exact hq_fm_tr t (f_X12_word_J69_fr e4 h)
  · rw [if_neg c3] at h
    by_cases c9 : ((hq_gi s 174 25) + a3) < (hq_gi s 174 24)
    · rw [if_pos c9] at h
      obtain ⟨x10, hx10, h⟩ := hq_bind h
      obtain ⟨x11, hx11, h⟩ := hq_bind h
      by_cases c12 : x10 = x11
      · rw [if_pos c12] at h
        exact hq_fm_tr t (e15 a1 a2 (a3 + (1 : Int32)) s h)
      · rw [if_neg c12] at h
        exact hq_fm_tr t (f_X12_word_J69_fr e4 h)
    · rw [if_neg c9] at h
      exact hq_fm_tr t (f_X12_word_J69_fr e4 h)
theorem f_X12_word_L15_fr {n m : Nat} {a1 : Int32} {a2 : Int32} {a3 : Int32} {q4 : Int32 → Int32 → hq_S → Option (Int32 × hq_S)} {s : hq_S} {y : (Int32 × hq_S)} (e4 : ∀ (a1 : Int32) (a2 : Int32) (o3 : Option Value) (s : hq_S), q4 a1 a2 s = some y → hq_fm s y.2) (h : f_X12_word_L15 n q4 m a1 a2 a3 s = some y) : hq_fm s y.2 := by
  induction m generalizing a1 a2 a3 s with
  | zero => cases h
  | succ m ih => exact f_X12_word_L15_B_fr (n := n) (a1 := a1) (a2 := a2) (a3 := a3) (q15 := f_X12_word_L15 n q4 m) e4 (fun a1 a2 a3 s h => ih h) h
theorem f_X12_word_L4_B_fr {n : Nat} {a1 : Int32} {a2 : Int32} {q4 : Int32 → Int32 → hq_S → Option (Int32 × hq_S)} {s : hq_S} {y : (Int32 × hq_S)} (e4 : ∀ (a1 : Int32) (a2 : Int32) (o3 : Option Value) (s : hq_S), q4 a1 a2 s = some y → hq_fm s y.2) (h : f_X12_word_L4_B n q4 a1 a2 s = some y) : hq_fm s y.2 := by
  unfold f_X12_word_L4_B at h
  have t := hq_fm_rf s
  by_cases c1 : a2 < (112 : Int32)
  · rw [if_pos c1] at h
    exact hq_fm_tr t (f_X12_word_L15_fr e4 h)
  · rw [if_neg c1] at h
    have h := Option.some.inj h
    subst h
    exact t
theorem f_X12_word_L4_fr {n m : Nat} {a1 : Int32} {a2 : Int32} {s : hq_S} {y : (Int32 × hq_S)} (h : f_X12_word_L4 n m a1 a2 s = some y) : hq_fm s y.2 := by
  induction m generalizing a1 a2 s with
  | zero => cases h
  | succ m ih => exact f_X12_word_L4_B_fr (n := n) (a1 := a1) (a2 := a2) (q4 := f_X12_word_L4 n m) (fun a1 a2 _ s h => ih h) h
theorem f_X12_word_fr {n : Nat} {s : hq_S} {y : (Int32 × hq_S)} (h : f_X12_word n s = some y) : hq_fm s y.2 := by
  unfold f_X12_word at h
  have t := hq_fm_rf s
  exact hq_fm_tr t (f_X12_word_L4_fr h)
theorem f_X12_name_L7_B_fr {n : Nat} {a1 : Int32} {q7 : Int32 → hq_S → Option hq_S} {s : hq_S} {y : hq_S} (e7 : ∀ (a1 : Int32) (s : hq_S), q7 a1 s = some y → hq_fm s y) (h : f_X12_name_L7_B n q7 a1 s = some y) : hq_fm s y := by
  unfold f_X12_name_L7_B at h
  have t := hq_fm_rf s
  by_cases c2 : a1 < (6 : Int32)
  · rw [if_pos c2] at h
    obtain ⟨z3, hz3, h⟩ := hq_bind h
    obtain ⟨s6, hs6, h⟩ := hq_bind h
    have t := hq_fm_tr t (hq_fm_pi hs6 (by first | decide | omega))
    exact hq_fm_tr t (e7 (a1 + (1 : Int32)) s6 h)
  · rw [if_neg c2] at h
    have h := Option.some.inj h
    subst h
    exact t
theorem f_X12_name_L7_fr {n m : Nat} {a1 : Int32} {s : hq_S} {y : hq_S} (h : f_X12_name_L7 n m a1 s = some y) : hq_fm s y := by
  induction m generalizing a1 s with
  | zero => cases h
  | succ m ih => exact f_X12_name_L7_B_fr (n := n) (a1 := a1) (q7 := f_X12_name_L7 n m) (fun a1 s h => ih h) h
theorem f_X12_name_fr {n : Nat} {s : hq_S} {y : hq_S} (h : f_X12_name n s = some y) : hq_fm s y := by
  unfold f_X12_name at h
  have t := hq_fm_rf s
  obtain ⟨s1, hs1, h⟩ := hq_bind h
  have t := hq_fm_tr t (hq_fm_pi hs1 (by first | decide | omega))
  exact hq_fm_tr t (f_X12_name_L7_fr h)
theorem f_X12_sign_fr {n : Nat} {a1 : Int32} {s : hq_S} {y : hq_S} (h : f_X12_sign n a1 s = some y) : hq_fm s y := by
  unfold f_X12_sign at h
  have t := hq_fm_rf s
  obtain ⟨s1, hs1, h⟩ := hq_bind h
  have t := hq_fm_tr t (hq_fm_pi hs1 (by first | decide | omega))
  obtain ⟨z2, hz2, h⟩ := hq_bind h
  obtain ⟨s13, hs13, h⟩ := hq_bind h
  have t := hq_fm_tr t (hq_fm_pi hs13 (by first | decide | omega))
  obtain ⟨s14, hs14, h⟩ := hq_bind h
  have t := hq_fm_tr t (hq_fm_pi hs14 (by first | decide | omega))
  obtain ⟨z15, hz15, h⟩ := hq_bind h
  have t : hq_fm s z15 := by
    clear h
    have h := hz15
    by_cases c16 : a1 = (60 : Int32)
    · rw [if_pos c16] at h
      obtain ⟨y17, hy17, h⟩ := hq_bind h
      have t := hq_fm_tr t (f_X12_here_fr hy17)
      by_cases c18 : y17.1 = (61 : Int32)
      · rw [if_pos c18] at h
        obtain ⟨s19, hs19, h⟩ := hq_bind h
        have t := hq_fm_tr t (hq_fm_pi hs19 (by first | decide | omega))
        cases h
        exact t
      · rw [if_neg c18] at h
        cases h
        exact t
    · rw [if_neg c16] at h
      cases h
      exact t
  obtain ⟨z20, hz20, h⟩ := hq_bind h
  have t : hq_fm s z20 := by
    clear h
    have h := hz20
    by_cases c21 : a1 = (60 : Int32)
    · rw [if_pos c21] at h
      obtain ⟨y22, hy22, h⟩ := hq_bind h
      have t := hq_fm_tr t (f_X12_here_fr hy22)
      by_cases c23 : y22.1 = (62 : Int32)
      · rw [if_pos c23] at h
        obtain ⟨s24, hs24, h⟩ := hq_bind h
        have t := hq_fm_tr t (hq_fm_pi hs24 (by first | decide | omega))
        cases h
        exact t
      · rw [if_neg c23] at h
        cases h
        exact t
    · rw [if_neg c21] at h
      cases h
      exact t
  obtain ⟨z25, hz25, h⟩ := hq_bind h
  have t : hq_fm s z25 := by
    clear h
    have h := hz25
    by_cases c26 : a1 = (62 : Int32)
    · rw [if_pos c26] at h
      obtain ⟨y27, hy27, h⟩ := hq_bind h
      have t := hq_fm_tr t (f_X12_here_fr hy27)
      by_cases c28 : y27.1 = (61 : Int32)
      · rw [if_pos c28] at h
        obtain ⟨s29, hs29, h⟩ := hq_bind h
        have t := hq_fm_tr t (hq_fm_pi hs29 (by first | decide | omega))
        cases h
        exact t
      · rw [if_neg c28] at h
        cases h
        exact t
    · rw [if_neg c26] at h
      cases h
      exact t
  by_cases c30 : (hq_gi z25 174 27) < (256 : Int32)
  · rw [if_pos c30] at h
    have h := Option.some.inj h
    subst h
    exact t
  · rw [if_neg c30] at h
    obtain ⟨s31, hs31, h⟩ := hq_bind h
    have t := hq_fm_tr t (hq_fm_pi hs31 (by first | decide | omega))
    have h := Option.some.inj h
    subst h
    exact t
theorem f_X12_token_J18_fr {n : Nat} {q0 : hq_S → Option hq_S} {s : hq_S} {y : hq_S} (e0 : ∀ (s : hq_S), q0 s = some y → hq_fm s y) (h : f_X12_token_J18 n q0 s = some y) : hq_fm s y := by
  unfold f_X12_token_J18 at h
  have t := hq_fm_rf s
  obtain ⟨s3, hs3, h⟩ := hq_bind h
  have t := hq_fm_tr t (hq_fm_pi hs3 (by first | decide | omega))
  exact hq_fm_tr t (e0 s3 h)
theorem f_X12_token_L162_B_fr {n : Nat} {a1 : Int32} {q162 : Int32 → hq_S → Option hq_S} {s : hq_S} {y : hq_S} (e162 : ∀ (a1 : Int32) (s : hq_S), q162 a1 s = some y → hq_fm s y) (h : f_X12_token_L162_B n q162 a1 s = some y) : hq_fm s y := by
  unfold f_X12_token_L162_B at h
  have t := hq_fm_rf s
  obtain ⟨y16, hy16, h⟩ := hq_bind h
  have t := hq_fm_tr t (f_X12_here_fr hy16)
  obtain ⟨y17, hy17, h⟩ := hq_bind h
  have t := hq_fm_tr t (f_X12_isDigit_fr hy17)
  by_cases c18 : y17.1 = 0
  · rw [if_pos c18] at h
    have h := Option.some.inj h
    subst h
    exact t
  · rw [if_neg c18] at h
    obtain ⟨z19, hz19, h⟩ := hq_bind h
    have t : hq_fm s z19.2 := by
      clear h
      have h := hz19
      by_cases c20 : (99999 : Int32) < (hq_gi y17.2 174 27)
      · rw [if_pos c20] at h
        cases h
        exact t
      · rw [if_neg c20] at h
        obtain ⟨y21, hy21, h⟩ := hq_bind h
        have t := hq_fm_tr t (f_X12_here_fr hy21)
        cases h
        exact t
    obtain ⟨s22, hs22, h⟩ := hq_bind h
    have t := hq_fm_tr t (hq_fm_pi hs22 (by first | decide | omega))
    obtain ⟨s23, hs23, h⟩ := hq_bind h
    have t := hq_fm_tr t (hq_fm_pi hs23 (by first | decide | omega))
    exact hq_fm_tr t (e162 a1 s23 h)
theorem f_X12_token_L162_fr {n m : Nat} {a1 : Int32} {s : hq_S} {y : hq_S} (h : f_X12_token_L162 n m a1 s = some y) : hq_fm s y := by
  induction m generalizing a1 s with
  | zero => cases h
  | succ m ih => exact f_X12_token_L162_B_fr (n := n) (a1 := a1) (q162 := f_X12_token_L162 n m) (fun a1 s h => ih h) h
theorem f_X12_token_L64_B_fr {n : Nat} {a1 : Int32} {q64 : Int32 → hq_S → Option hq_S} {s : hq_S} {y : hq_S} (e64 : ∀ (a1 : Int32) (s : hq_S), q64 a1 s = some y → hq_fm s y) (h : f_X12_token_L64_B n q64 a1 s = some y) : hq_fm s y := by
  unfold f_X12_token_L64_B at h
  have t := hq_fm_rf s
  obtain ⟨y24, hy24, h⟩ := hq_bind h
  have t := hq_fm_tr t (f_X12_here_fr hy24)
  obtain ⟨y25, hy25, h⟩ := hq_bind h
  have t := hq_fm_tr t (f_X12_isSmall_fr hy25)
  by_cases c26 : y25.1 = 0
  · rw [if_pos c26] at h
    obtain ⟨y27, hy27, h⟩ := hq_bind h
    have t := hq_fm_tr t (f_X12_word_fr hy27)
    obtain ⟨s28, hs28, h⟩ := hq_bind h
    have t := hq_fm_tr t (hq_fm_pi hs28 (by first | decide | omega))
    obtain ⟨z29, hz29, h⟩ := hq_bind h
    obtain ⟨s32, hs32, h⟩ := hq_bind h
    have t := hq_fm_tr t (hq_fm_pi hs32 (by first | decide | omega))
    by_cases c33 : (hq_gi s32 174 26) = (1 : Int32)
    · rw [if_pos c33] at h
      obtain ⟨s34, hs34, h⟩ := hq_bind h
      have t := hq_fm_tr t (f_X12_name_fr hs34)
      have h := Option.some.inj h
      subst h
      exact t
    · rw [if_neg c33] at h
      have h := Option.some.inj h
      subst h
      exact t
  · rw [if_neg c26] at h
    obtain ⟨s35, hs35, h⟩ := hq_bind h
    have t := hq_fm_tr t (hq_fm_pi hs35 (by first | decide | omega))
    exact hq_fm_tr t (e64 a1 s35 h)
theorem f_X12_token_L64_fr {n m : Nat} {a1 : Int32} {s : hq_S} {y : hq_S} (h : f_X12_token_L64 n m a1 s = some y) : hq_fm s y := by
  induction m generalizing a1 s with
  | zero => cases h
  | succ m ih => exact f_X12_token_L64_B_fr (n := n) (a1 := a1) (q64 := f_X12_token_L64 n m) (fun a1 s h => ih h) h
theorem f_X12_token_L0_B_fr {n : Nat} {q0 : hq_S → Option hq_S} {s : hq_S} {y : hq_S} (e0 : ∀ (s : hq_S), q0 s = some y → hq_fm s y) (h : f_X12_token_L0_B n q0 s = some y) : hq_fm s y := by
  unfold f_X12_token_L0_B at h
  have t := hq_fm_rf s
  obtain ⟨y1, hy1, h⟩ := hq_bind h
  have t := hq_fm_tr t (f_X12_here_fr hy1)
  by_cases c2 : y1.1 = (10 : Int32)
  · rw [if_pos c2] at h
    exact hq_fm_tr t (f_X12_token_J18_fr e0 h)
  · rw [if_neg c2] at h
    obtain ⟨y4, hy4, h⟩ := hq_bind h
    have t := hq_fm_tr t (f_X12_here_fr hy4)
    by_cases c5 : y4.1 = (32 : Int32)
    · rw [if_pos c5] at h
      exact hq_fm_tr t (f_X12_token_J18_fr e0 h)
    · rw [if_neg c5] at h
      obtain ⟨s6, hs6, h⟩ := hq_bind h
      have t := hq_fm_tr t (hq_fm_pi hs6 (by first | decide | omega))
      obtain ⟨y7, hy7, h⟩ := hq_bind h
      have t := hq_fm_tr t (f_X12_here_fr hy7)
      by_cases c8 : y7.1 = (-1 : Int32)
      · rw [if_pos c8] at h
        obtain ⟨s36, hs36, h⟩ := hq_bind h
        have t := hq_fm_tr t (hq_fm_pi hs36 (by first | decide | omega))
        have h := Option.some.inj h
        subst h
        exact t
      · rw [if_neg c8] at h
        obtain ⟨y9, hy9, h⟩ := hq_bind h
        have t := hq_fm_tr t (f_X12_isSmall_fr hy9)
        by_cases c10 : y9.1 = 0
        · rw [if_pos c10] at h
          obtain ⟨y11, hy11, h⟩ := hq_bind h
          have t := hq_fm_tr t (f_X12_isDigit_fr hy11)
          by_cases c12 : y11.1 = 0
          · rw [if_pos c12] at h
            obtain ⟨s13, hs13, h⟩ := hq_bind h
            have t := hq_fm_tr t (f_X12_sign_fr hs13)
            have h := Option.some.inj h
            subst h
            exact t
          · rw [if_neg c12] at h
            obtain ⟨s14, hs14, h⟩ := hq_bind h
            have t := hq_fm_tr t (hq_fm_pi hs14 (by first | decide | omega))
            obtain ⟨s15, hs15, h⟩ := hq_bind h
            have t := hq_fm_tr t (hq_fm_pi hs15 (by first | decide | omega))
            exact hq_fm_tr t (f_X12_token_L162_fr h)
        · rw [if_neg c10] at h
          exact hq_fm_tr t (f_X12_token_L64_fr h)
theorem f_X12_token_L0_fr {n m : Nat} {s : hq_S} {y : hq_S} (h : f_X12_token_L0 n m s = some y) : hq_fm s y := by
  induction m generalizing s with
  | zero => cases h
  | succ m ih => exact f_X12_token_L0_B_fr (n := n) (q0 := f_X12_token_L0 n m) (fun s h => ih h) h
theorem f_X12_token_fr {n : Nat} {s : hq_S} {y : hq_S} (h : f_X12_token n s = some y) : hq_fm s y := by
  unfold f_X12_token at h
  have t := hq_fm_rf s
  exact hq_fm_tr t (f_X12_token_L0_fr h)
theorem f_X12_wrong_fr {n : Nat} {a1 : Int32} {s : hq_S} {y : hq_S} (h : f_X12_wrong n a1 s = some y) : hq_fm s y := by
  unfold f_X12_wrong at h
  have t := hq_fm_rf s
  by_cases c1 : (hq_gi s 174 28) = 0
  · rw [if_pos c1] at h
    obtain ⟨s2, hs2, h⟩ := hq_bind h
    have t := hq_fm_tr t (hq_fm_pi hs2 (by first | decide | omega))
    obtain ⟨s3, hs3, h⟩ := hq_bind h
    have t := hq_fm_tr t (hq_fm_pi hs3 (by first | decide | omega))
    have h := Option.some.inj h
    subst h
    exact t
  · rw [if_neg c1] at h
    have h := Option.some.inj h
    subst h
    exact t
theorem f_X12_isWord_fr {n : Nat} {a1 : Int32} {s : hq_S} {y : (Int32 × hq_S)} (h : f_X12_isWord n a1 s = some y) : hq_fm s y.2 := by
  unfold f_X12_isWord at h
  have t := hq_fm_rf s
  by_cases c1 : (hq_gi s 174 28) = 0
  · rw [if_pos c1] at h
    by_cases c2 : (hq_gi s 174 26) = 0
    · rw [if_pos c2] at h
      by_cases c3 : (hq_gi s 174 27) = a1
      · rw [if_pos c3] at h
        have h := Option.some.inj h
        subst h
        exact t
      · rw [if_neg c3] at h
        have h := Option.some.inj h
        subst h
        exact t
    · rw [if_neg c2] at h
      have h := Option.some.inj h
      subst h
      exact t
  · rw [if_neg c1] at h
    have h := Option.some.inj h
    subst h
    exact t
theorem f_X12_isSign_fr {n : Nat} {a1 : Int32} {s : hq_S} {y : (Int32 × hq_S)} (h : f_X12_isSign n a1 s = some y) : hq_fm s y.2 := by
  unfold f_X12_isSign at h
  have t := hq_fm_rf s
  by_cases c1 : (hq_gi s 174 28) = 0
  · rw [if_pos c1] at h
    by_cases c2 : (hq_gi s 174 26) = (3 : Int32)
    · rw [if_pos c2] at h
      by_cases c3 : (hq_gi s 174 27) = a1
      · rw [if_pos c3] at h
        have h := Option.some.inj h
        subst h
        exact t
      · rw [if_neg c3] at h
        have h := Option.some.inj h
        subst h
        exact t
    · rw [if_neg c2] at h
      have h := Option.some.inj h
      subst h
      exact t
  · rw [if_neg c1] at h
    have h := Option.some.inj h
    subst h
    exact t
theorem f_X12_goOn_fr {n : Nat} {s : hq_S} {y : hq_S} (h : f_X12_goOn n s = some y) : hq_fm s y := by
  unfold f_X12_goOn at h
  have t := hq_fm_rf s
  by_cases c1 : (hq_gi s 174 28) = 0
  · rw [if_pos c1] at h
    obtain ⟨s2, hs2, h⟩ := hq_bind h
    have t := hq_fm_tr t (f_X12_token_fr hs2)
    have h := Option.some.inj h
    subst h
    exact t
  · rw [if_neg c1] at h
    have h := Option.some.inj h
    subst h
    exact t
theorem f_X12_numeral_fr {n : Nat} {a1 : Int32} {a2 : Int32} {s : hq_S} {y : (Int32 × hq_S)} (h : f_X12_numeral n a1 a2 s = some y) : hq_fm s y.2 := by
  unfold f_X12_numeral at h
  have t := hq_fm_rf s
  by_cases c1 : (hq_gi s 174 28) = 0
  · rw [if_pos c1] at h
    obtain ⟨z2, hz2, h⟩ := hq_bind h
    have t : hq_fm s z2 := by
      clear h
      have h := hz2
      by_cases c3 : (hq_gi s 174 26) = (2 : Int32)
      · rw [if_pos c3] at h
        by_cases c4 : (hq_gi s 174 27) < a1
        · rw [if_pos c4] at h
          obtain ⟨s5, hs5, h⟩ := hq_bind h
          have t := hq_fm_tr t (f_X12_wrong_fr hs5)
          cases h
          exact t
        · rw [if_neg c4] at h
          by_cases c6 : a2 < (hq_gi s 174 27)
          · rw [if_pos c6] at h
            obtain ⟨s7, hs7, h⟩ := hq_bind h
            have t := hq_fm_tr t (f_X12_wrong_fr hs7)
            cases h
            exact t
          · rw [if_neg c6] at h
            cases h
            exact t
      · rw [if_neg c3] at h
        obtain ⟨s8, hs8, h⟩ := hq_bind h
        have t := hq_fm_tr t (f_X12_wrong_fr hs8)
        cases h
        exact t
    by_cases c9 : (hq_gi z2 174 28) = 0
    · rw [if_pos c9] at h
      obtain ⟨s10, hs10, h⟩ := hq_bind h
      have t := hq_fm_tr t (f_X12_token_fr hs10)
      have h := Option.some.inj h
      subst h
      exact t
    · rw [if_neg c9] at h
      have h := Option.some.inj h
      subst h
      exact t
  · rw [if_neg c1] at h
    have h := Option.some.inj h
    subst h
    exact t
theorem f_X12_found_L3_B_fr {n : Nat} {k0 : Nat} {a1 : Int32} {a2 : Int32} {a3 : Int32} {a4 : Int32} {q3 : Nat → Int32 → Int32 → Int32 → Int32 → hq_S → Option (Int32 × hq_S)} {s : hq_S} {y : (Int32 × hq_S)} (e3 : ∀ (k0 : Nat) (a1 : Int32) (a2 : Int32) (a3 : Int32) (a4 : Int32) (s : hq_S) (wk0 : 174 ≤ k0), q3 k0 a1 a2 a3 a4 s = some y → hq_fm s y.2) (wk0 : 174 ≤ k0) (h : f_X12_found_L3_B n q3 k0 a1 a2 a3 a4 s = some y) : hq_fm s y.2 := by
  unfold f_X12_found_L3_B at h
  have t := hq_fm_rf s
  by_cases c1 : a4 < a2
  · rw [if_pos c1] at h
    obtain ⟨x2, hx2, h⟩ := hq_bind h
    by_cases c3 : x2 = a3
    · rw [if_pos c3] at h
      have h := Option.some.inj h
      subst h
      exact t
    · rw [if_neg c3] at h
      exact hq_fm_tr t (e3 k0 a1 a2 a3 (a4 + (1 : Int32)) s (by first | decide | omega) h)
  · rw [if_neg c1] at h
    have h := Option.some.inj h
    subst h
    exact t
theorem f_X12_found_L3_fr {n m : Nat} {k0 : Nat} {a1 : Int32} {a2 : Int32} {a3 : Int32} {a4 : Int32} {s : hq_S} {y : (Int32 × hq_S)} (wk0 : 174 ≤ k0) (h : f_X12_found_L3 n m k0 a1 a2 a3 a4 s = some y) : hq_fm s y.2 := by
  induction m generalizing k0 a1 a2 a3 a4 s with
  | zero => cases h
  | succ m ih => exact f_X12_found_L3_B_fr (n := n) (k0 := k0) (a1 := a1) (a2 := a2) (a3 := a3) (a4 := a4) (q3 := f_X12_found_L3 n m) (fun k0 a1 a2 a3 a4 s wk0 h => ih wk0 h) wk0 h
theorem f_X12_found_fr {n : Nat} {k0 : Nat} {a1 : Int32} {a2 : Int32} {a3 : Int32} {s : hq_S} {y : (Int32 × hq_S)} (wk0 : 174 ≤ k0) (h : f_X12_found n k0 a1 a2 a3 s = some y) : hq_fm s y.2 := by
  unfold f_X12_found at h
  have t := hq_fm_rf s
  exact hq_fm_tr t (f_X12_found_L3_fr (by first | decide | omega) h)
theorem f_X12_fresh_fr {n : Nat} {k1 : Nat} {a2 : Int32} {a3 : Int32} {s : hq_S} {y : (Int32 × hq_S)} (wk1 : 174 ≤ k1) (h : f_X12_fresh n k1 a2 a3 s = some y) : hq_fm s y.2 := by
  unfold f_X12_fresh at h
  have t := hq_fm_rf s
  by_cases c1 : (hq_gi s 174 28) = 0
  · rw [if_pos c1] at h
    obtain ⟨z2, hz2, h⟩ := hq_bind h
    have t : hq_fm s z2 := by
      clear h
      have h := hz2
      by_cases c3 : (hq_gi s 174 26) = (1 : Int32)
      · rw [if_pos c3] at h
        obtain ⟨y4, hy4, h⟩ := hq_bind h
        have t := hq_fm_tr t (f_X12_found_fr (by first | decide | omega) hy4)
        by_cases c5 : y4.1 = (-1 : Int32)
        · rw [if_pos c5] at h
          cases h
          exact t
        · rw [if_neg c5] at h
          obtain ⟨s6, hs6, h⟩ := hq_bind h
          have t := hq_fm_tr t (f_X12_wrong_fr hs6)
          cases h
          exact t
      · rw [if_neg c3] at h
        obtain ⟨s7, hs7, h⟩ := hq_bind h
        have t := hq_fm_tr t (f_X12_wrong_fr hs7)
        cases h
        exact t
    by_cases c8 : (hq_gi z2 174 28) = 0
    · rw [if_pos c8] at h
      obtain ⟨s9, hs9, h⟩ := hq_bind h
      have t := hq_fm_tr t (f_X12_token_fr hs9)
      have h := Option.some.inj h
      subst h
      exact t
    · rw [if_neg c8] at h
      have h := Option.some.inj h
      subst h
      exact t
  · rw [if_neg c1] at h
    have h := Option.some.inj h
    subst h
    exact t
theorem f_X12_fresher_fr {n : Nat} {a1 : Int32} {s : hq_S} {y : (Int32 × hq_S)} (h : f_X12_fresher n a1 s = some y) : hq_fm s y.2 := by
  unfold f_X12_fresher at h
  have t := hq_fm_rf s
  obtain ⟨x1, hx1, h⟩ := hq_bind h
  have h := Option.some.inj h
  subst h
  exact t
theorem f_X12_reads_fr {n : Nat} {a1 : Int32} {a2 : Int32} {s : hq_S} {y : hq_S} (h : f_X12_reads n a1 a2 s = some y) : hq_fm s y := by
  unfold f_X12_reads at h
  have t := hq_fm_rf s
  obtain ⟨s1, hs1, h⟩ := hq_bind h
  have t := hq_fm_tr t (hq_fm_st hs1 (by first | decide | omega))
  have h := Option.some.inj h
  subst h
  exact t
theorem f_X12_atHand_fr {n : Nat} {k1 : Nat} {a2 : Int32} {a3 : Int32} {s : hq_S} {y : (Int32 × hq_S)} (wk1 : 174 ≤ k1) (h : f_X12_atHand n k1 a2 a3 s = some y) : hq_fm s y.2 := by
  unfold f_X12_atHand at h
  have t := hq_fm_rf s
  by_cases c1 : (hq_gi s 174 28) = 0
  · rw [if_pos c1] at h
    obtain ⟨z2, hz2, h⟩ := hq_bind h
    have t : hq_fm s z2 := by
      clear h
      have h := hz2
      by_cases c3 : (hq_gi s 174 26) = (1 : Int32)
      · rw [if_pos c3] at h
        cases h
        exact t
      · rw [if_neg c3] at h
        obtain ⟨s4, hs4, h⟩ := hq_bind h
        have t := hq_fm_tr t (f_X12_wrong_fr hs4)
        cases h
        exact t
    obtain ⟨z5, hz5, h⟩ := hq_bind h
    have t : hq_fm s z5.2 := by
      clear h
      have h := hz5
      by_cases c6 : (hq_gi z2 174 28) = 0
      · rw [if_pos c6] at h
        obtain ⟨y7, hy7, h⟩ := hq_bind h
        have t := hq_fm_tr t (f_X12_found_fr (by first | decide | omega) hy7)
        cases h
        exact t
      · rw [if_neg c6] at h
        cases h
        exact t
    obtain ⟨z8, hz8, h⟩ := hq_bind h
    have t : hq_fm s z8 := by
      clear h
      have h := hz8
      by_cases c9 : (hq_gi z5.2 174 28) = 0
      · rw [if_pos c9] at h
        by_cases c10 : z5.1 = (-1 : Int32)
        · rw [if_pos c10] at h
          obtain ⟨s11, hs11, h⟩ := hq_bind h
          have t := hq_fm_tr t (f_X12_wrong_fr hs11)
          cases h
          exact t
        · rw [if_neg c10] at h
          cases h
          exact t
      · rw [if_neg c9] at h
        cases h
        exact t
    by_cases c12 : (hq_gi z8 174 28) = 0
    · rw [if_pos c12] at h
      have h := Option.some.inj h
      subst h
      exact t
    · rw [if_neg c12] at h
      have h := Option.some.inj h
      subst h
      exact t
  · rw [if_neg c1] at h
    have h := Option.some.inj h
    subst h
    exact t
theorem f_X12_cornerAtHand_fr {n : Nat} {s : hq_S} {y : (Int32 × hq_S)} (h : f_X12_cornerAtHand n s = some y) : hq_fm s y.2 := by
  unfold f_X12_cornerAtHand at h
  have t := hq_fm_rf s
  obtain ⟨y1, hy1, h⟩ := hq_bind h
  have t := hq_fm_tr t (f_X12_fresher_fr hy1)
  obtain ⟨y2, hy2, h⟩ := hq_bind h
  have t := hq_fm_tr t (f_X12_atHand_fr (by first | decide | omega) hy2)
  have h := Option.some.inj h
  subst h
  exact t
theorem f_X12_cornerAhead_fr {n : Nat} {s : hq_S} {y : (Int32 × hq_S)} (h : f_X12_cornerAhead n s = some y) : hq_fm s y.2 := by
  unfold f_X12_cornerAhead at h
  have t := hq_fm_rf s
  obtain ⟨y1, hy1, h⟩ := hq_bind h
  have t := hq_fm_tr t (f_X12_cornerAtHand_fr hy1)
  obtain ⟨s2, hs2, h⟩ := hq_bind h
  have t := hq_fm_tr t (f_X12_goOn_fr hs2)
  have h := Option.some.inj h
  subst h
  exact t
theorem f_X12_isFull_fr {n : Nat} {a1 : Int32} {s : hq_S} {y : (Int32 × hq_S)} (h : f_X12_isFull n a1 s = some y) : hq_fm s y.2 := by
  unfold f_X12_isFull at h
  have t := hq_fm_rf s
  by_cases c1 : a1 = (0 : Int32)
  · rw [if_pos c1] at h
    obtain ⟨y2, hy2, h⟩ := hq_bind h
    have t := hq_fm_tr t (f_X12_fresher_fr hy2)
    by_cases c3 : y2.1 = (10 : Int32)
    · rw [if_pos c3] at h
      have h := Option.some.inj h
      subst h
      exact t
    · rw [if_neg c3] at h
      have h := Option.some.inj h
      subst h
      exact t
  rw [if_neg c1] at h
  by_cases c4 : a1 = (1 : Int32)
  · rw [if_pos c4] at h
    obtain ⟨y5, hy5, h⟩ := hq_bind h
    have t := hq_fm_tr t (f_X12_fresher_fr hy5)
    by_cases c6 : y5.1 = (20 : Int32)
    · rw [if_pos c6] at h
      have h := Option.some.inj h
      subst h
      exact t
    · rw [if_neg c6] at h
      have h := Option.some.inj h
      subst h
      exact t
  rw [if_neg c4] at h
  by_cases c7 : a1 = (2 : Int32)
  · rw [if_pos c7] at h
    obtain ⟨y8, hy8, h⟩ := hq_bind h
    have t := hq_fm_tr t (f_X12_fresher_fr hy8)
    by_cases c9 : y8.1 = (20 : Int32)
    · rw [if_pos c9] at h
      have h := Option.some.inj h
      subst h
      exact t
    · rw [if_neg c9] at h
      have h := Option.some.inj h
      subst h
      exact t
  rw [if_neg c7] at h
  by_cases c10 : a1 = (3 : Int32)
  · rw [if_pos c10] at h
    obtain ⟨y11, hy11, h⟩ := hq_bind h
    have t := hq_fm_tr t (f_X12_fresher_fr hy11)
    by_cases c12 : y11.1 = (3 : Int32)
    · rw [if_pos c12] at h
      have h := Option.some.inj h
      subst h
      exact t
    · rw [if_neg c12] at h
      have h := Option.some.inj h
      subst h
      exact t
  rw [if_neg c10] at h
  by_cases c13 : a1 = (4 : Int32)
  · rw [if_pos c13] at h
    have h := Option.some.inj h
    subst h
    exact t
  rw [if_neg c13] at h
  by_cases c14 : a1 = (5 : Int32)
  · rw [if_pos c14] at h
    obtain ⟨y15, hy15, h⟩ := hq_bind h
    have t := hq_fm_tr t (f_X12_fresher_fr hy15)
    by_cases c16 : y15.1 = (4 : Int32)
    · rw [if_pos c16] at h
      have h := Option.some.inj h
      subst h
      exact t
    · rw [if_neg c16] at h
      have h := Option.some.inj h
      subst h
      exact t
  rw [if_neg c14] at h
  have h := Option.some.inj h
  subst h
  exact t
theorem f_X12_laneLine_L66_B_fr {n : Nat} {a1 : Int32} {a2 : Int32} {a3 : Int32} {q66 : Int32 → Int32 → Int32 → hq_S → Option hq_S} {s : hq_S} {y : hq_S} (e66 : ∀ (a1 : Int32) (a2 : Int32) (a3 : Int32) (o4 : Option Value) (o5 : Option Value) (s : hq_S), q66 a1 a2 a3 s = some y → hq_fm s y) (h : f_X12_laneLine_L66_B n q66 a1 a2 a3 s = some y) : hq_fm s y := by
  unfold f_X12_laneLine_L66_B at h
  have t := hq_fm_rf s
  by_cases c13 : a3 < a2
  · rw [if_pos c13] at h
    obtain ⟨x17, hx17, h⟩ := hq_bind h
    obtain ⟨x18, hx18, h⟩ := hq_bind h
    obtain ⟨z19, hz19, h⟩ := hq_bind h
    obtain ⟨z24, hz24, h⟩ := hq_bind h
    obtain ⟨z32, hz32, h⟩ := hq_bind h
    have t : hq_fm s z32 := by
      clear h
      have h := hz32
      by_cases c33 : (hq_gi s 174 28) = 0
      · rw [if_pos c33] at h
        obtain ⟨x34, hx34, h⟩ := hq_bind h
        by_cases c35 : x34 = a1
        · rw [if_pos c35] at h
          by_cases c36 : z19 = 0
          · rw [if_pos c36] at h
            by_cases c38 : z24 = 0
            · rw [if_pos c38] at h
              cases h
              exact t
            · rw [if_neg c38] at h
              obtain ⟨s39, hs39, h⟩ := hq_bind h
              have t := hq_fm_tr t (f_X12_wrong_fr hs39)
              cases h
              exact t
          · rw [if_neg c36] at h
            obtain ⟨s37, hs37, h⟩ := hq_bind h
            have t := hq_fm_tr t (f_X12_wrong_fr hs37)
            cases h
            exact t
        · rw [if_neg c35] at h
          cases h
          exact t
      · rw [if_neg c33] at h
        cases h
        exact t
    exact hq_fm_tr t (e66 a1 a2 (a3 + (1 : Int32)) none none z32 h)
  · rw [if_neg c13] at h
    obtain ⟨s14, hs14, h⟩ := hq_bind h
    have t := hq_fm_tr t (f_X12_goOn_fr hs14)
    obtain ⟨y15, hy15, h⟩ := hq_bind h
    have t := hq_fm_tr t (f_X12_fresher_fr hy15)
    obtain ⟨s16, hs16, h⟩ := hq_bind h
    have t := hq_fm_tr t (f_X12_reads_fr hs16)
    have h := Option.some.inj h
    subst h
    exact t
theorem f_X12_laneLine_L66_fr {n m : Nat} {a1 : Int32} {a2 : Int32} {a3 : Int32} {s : hq_S} {y : hq_S} (h : f_X12_laneLine_L66 n m a1 a2 a3 s = some y) : hq_fm s y := by
  induction m generalizing a1 a2 a3 s with
  | zero => cases h
  | succ m ih => exact f_X12_laneLine_L66_B_fr (n := n) (a1 := a1) (a2 := a2) (a3 := a3) (q66 := f_X12_laneLine_L66 n m) (fun a1 a2 a3 _ _ s h => ih h) h
theorem f_X12_laneLine_fr {n : Nat} {a1 : Int32} {s : hq_S} {y : hq_S} (h : f_X12_laneLine n a1 s = some y) : hq_fm s y := by
  unfold f_X12_laneLine at h
  have t := hq_fm_rf s
  obtain ⟨y1, hy1, h⟩ := hq_bind h
  have t := hq_fm_tr t (f_X12_fresher_fr hy1)
  obtain ⟨y2, hy2, h⟩ := hq_bind h
  have t := hq_fm_tr t (f_X12_cornerAhead_fr hy2)
  obtain ⟨s3, hs3, h⟩ := hq_bind h
  have t := hq_fm_tr t (hq_fm_st hs3 (by first | decide | omega))
  obtain ⟨y4, hy4, h⟩ := hq_bind h
  have t := hq_fm_tr t (f_X12_cornerAtHand_fr hy4)
  obtain ⟨s5, hs5, h⟩ := hq_bind h
  have t := hq_fm_tr t (hq_fm_st hs5 (by first | decide | omega))
  obtain ⟨s6, hs6, h⟩ := hq_bind h
  have t := hq_fm_tr t (hq_fm_st hs6 (by first | decide | omega))
  obtain ⟨z7, hz7, h⟩ := hq_bind h
  have t : hq_fm s z7 := by
    clear h
    have h := hz7
    by_cases c8 : (hq_gi s6 174 28) = 0
    · rw [if_pos c8] at h
      obtain ⟨x9, hx9, h⟩ := hq_bind h
      obtain ⟨x10, hx10, h⟩ := hq_bind h
      by_cases c11 : x9 = x10
      · rw [if_pos c11] at h
        obtain ⟨s12, hs12, h⟩ := hq_bind h
        have t := hq_fm_tr t (f_X12_wrong_fr hs12)
        cases h
        exact t
      · rw [if_neg c11] at h
        cases h
        exact t
    · rw [if_neg c8] at h
      cases h
      exact t
  exact hq_fm_tr t (f_X12_laneLine_L66_fr h)
theorem f_X12_beatLine_L46_B_fr {n : Nat} {a1 : Int32} {a2 : Int32} {a3 : Int32} {q46 : Int32 → Int32 → Int32 → hq_S → Option hq_S} {s : hq_S} {y : hq_S} (e46 : ∀ (a1 : Int32) (a2 : Int32) (a3 : Int32) (o4 : Option Value) (s : hq_S), q46 a1 a2 a3 s = some y → hq_fm s y) (h : f_X12_beatLine_L46_B n q46 a1 a2 a3 s = some y) : hq_fm s y := by
  unfold f_X12_beatLine_L46_B at h
  have t := hq_fm_rf s
  by_cases c9 : (hq_gi s 174 28) = 0
  · rw [if_pos c9] at h
    by_cases c10 : a3 = 0
    · rw [if_pos c10] at h
      have h := Option.some.inj h
      subst h
      exact t
    · rw [if_neg c10] at h
      obtain ⟨z11, hz11, h⟩ := hq_bind h
      have t : hq_fm s z11 := by
        clear h
        have h := hz11
        by_cases c12 : a2 = (8 : Int32)
        · rw [if_pos c12] at h
          obtain ⟨s13, hs13, h⟩ := hq_bind h
          have t := hq_fm_tr t (f_X12_wrong_fr hs13)
          cases h
          exact t
        · rw [if_neg c12] at h
          cases h
          exact t
      obtain ⟨y14, hy14, h⟩ := hq_bind h
      have t := hq_fm_tr t (f_X12_cornerAhead_fr hy14)
      by_cases c15 : (hq_gi y14.2 174 28) = 0
      · rw [if_pos c15] at h
        obtain ⟨s16, hs16, h⟩ := hq_bind h
        have t := hq_fm_tr t (hq_fm_st hs16 (by first | decide | omega))
        obtain ⟨s17, hs17, h⟩ := hq_bind h
        have t := hq_fm_tr t (hq_fm_st hs17 (by first | decide | omega))
        obtain ⟨z18, hz18, h⟩ := hq_bind h
        exact hq_fm_tr t (e46 a1 (a2 + (1 : Int32)) z18 none s17 h)
      · rw [if_neg c15] at h
        have h := Option.some.inj h
        subst h
        exact t
  · rw [if_neg c9] at h
    have h := Option.some.inj h
    subst h
    exact t
theorem f_X12_beatLine_L46_fr {n m : Nat} {a1 : Int32} {a2 : Int32} {a3 : Int32} {s : hq_S} {y : hq_S} (h : f_X12_beatLine_L46 n m a1 a2 a3 s = some y) : hq_fm s y := by
  induction m generalizing a1 a2 a3 s with
  | zero => cases h
  | succ m ih => exact f_X12_beatLine_L46_B_fr (n := n) (a1 := a1) (a2 := a2) (a3 := a3) (q46 := f_X12_beatLine_L46 n m) (fun a1 a2 a3 _ s h => ih h) h
theorem f_X12_beatLine_fr {n : Nat} {s : hq_S} {y : hq_S} (h : f_X12_beatLine n s = some y) : hq_fm s y := by
  unfold f_X12_beatLine at h
  have t := hq_fm_rf s
  obtain ⟨y1, hy1, h⟩ := hq_bind h
  have t := hq_fm_tr t (f_X12_fresher_fr hy1)
  obtain ⟨y2, hy2, h⟩ := hq_bind h
  have t := hq_fm_tr t (f_X12_atHand_fr (by first | decide | omega) hy2)
  obtain ⟨z3, hz3, h⟩ := hq_bind h
  have t : hq_fm s z3 := by
    clear h
    have h := hz3
    by_cases c4 : (hq_gi y2.2 174 28) = 0
    · rw [if_pos c4] at h
      obtain ⟨x5, hx5, h⟩ := hq_bind h
      by_cases c6 : 0 < x5
      · rw [if_pos c6] at h
        obtain ⟨s7, hs7, h⟩ := hq_bind h
        have t := hq_fm_tr t (f_X12_wrong_fr hs7)
        cases h
        exact t
      · rw [if_neg c6] at h
        cases h
        exact t
    · rw [if_neg c4] at h
      cases h
      exact t
  obtain ⟨s8, hs8, h⟩ := hq_bind h
  have t := hq_fm_tr t (f_X12_goOn_fr hs8)
  exact hq_fm_tr t (f_X12_beatLine_L46_fr h)
theorem f_X12_knot_fr {n : Nat} {s : hq_S} {y : hq_S} (h : f_X12_knot n s = some y) : hq_fm s y := by
  unfold f_X12_knot at h
  have t := hq_fm_rf s
  by_cases c1 : (hq_gi s 174 28) = 0
  · rw [if_pos c1] at h
    by_cases c2 : (hq_gi s 174 33) = (64 : Int32)
    · rw [if_pos c2] at h
      obtain ⟨s4, hs4, h⟩ := hq_bind h
      have t := hq_fm_tr t (f_X12_wrong_fr hs4)
      have h := Option.some.inj h
      subst h
      exact t
    · rw [if_neg c2] at h
      obtain ⟨s3, hs3, h⟩ := hq_bind h
      have t := hq_fm_tr t (hq_fm_pi hs3 (by first | decide | omega))
      have h := Option.some.inj h
      subst h
      exact t
  · rw [if_neg c1] at h
    have h := Option.some.inj h
    subst h
    exact t
theorem f_X12_puts_fr {n : Nat} {a1 : Int32} {a2 : Int32} {s : hq_S} {y : hq_S} (h : f_X12_puts n a1 a2 s = some y) : hq_fm s y := by
  unfold f_X12_puts at h
  have t := hq_fm_rf s
  by_cases c1 : (hq_gi s 174 28) = 0
  · rw [if_pos c1] at h
    obtain ⟨y2, hy2, h⟩ := hq_bind h
    have t := hq_fm_tr t (f_X12_fresher_fr hy2)
    obtain ⟨s3, hs3, h⟩ := hq_bind h
    have t := hq_fm_tr t (hq_fm_st hs3 (by first | decide | omega))
    obtain ⟨y4, hy4, h⟩ := hq_bind h
    have t := hq_fm_tr t (f_X12_fresher_fr hy4)
    obtain ⟨s5, hs5, h⟩ := hq_bind h
    have t := hq_fm_tr t (hq_fm_st hs5 (by first | decide | omega))
    obtain ⟨y6, hy6, h⟩ := hq_bind h
    have t := hq_fm_tr t (f_X12_fresher_fr hy6)
    obtain ⟨s7, hs7, h⟩ := hq_bind h
    have t := hq_fm_tr t (f_X12_reads_fr hs7)
    have h := Option.some.inj h
    subst h
    exact t
  · rw [if_neg c1] at h
    have h := Option.some.inj h
    subst h
    exact t
