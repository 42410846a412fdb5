theorem f_X12_laysNights_L128_B_fr {n : Nat} {a1 : Int32} {a2 : Int32} {a3 : Int32} {a4 : Int32} {a5 : Int32} {q67 : Int32 → Int32 → Int32 → Int32 → hq_S → Option hq_S} {q128 : Int32 → Int32 → Int32 → Int32 → Int32 → hq_S → Option hq_S} {s : hq_S} {y : hq_S} (e67 : ∀ (a1 : Int32) (a2 : Int32) (a3 : Int32) (a4 : Int32) (o5 : Option Value) (s : hq_S), q67 a1 a2 a3 a4 s = some y → hq_fm s y) (e128 : ∀ (a1 : Int32) (a2 : Int32) (a3 : Int32) (a4 : Int32) (a5 : Int32) (s : hq_S), q128 a1 a2 a3 a4 a5 s = some y → hq_fm s y) (h : f_X12_laysNights_L128_B n q67 q128 a1 a2 a3 a4 a5 s = some y) : hq_fm s y := by
  unfold f_X12_laysNights_L128_B at h
  have t := hq_fm_rf s
  by_cases c5 : a2 < a5
  · rw [if_pos c5] at h
    exact hq_fm_tr t (e67 a1 a2 a3 (a4 + (1 : Int32)) none s h)
  · rw [if_neg c5] at h
    obtain ⟨x6, hx6, h⟩ := hq_bind h
    obtain ⟨z7, hz7, h⟩ := hq_bind h
    have t : hq_fm s z7 := by
      clear h
      have h := hz7
      by_cases c8 : x6 = (-a4)
      · rw [if_pos c8] at h
        obtain ⟨s9, hs9, h⟩ := hq_bind h
        have t := hq_fm_tr t (hq_fm_st hs9 (by first | decide | omega))
        cases h
        exact t
      · rw [if_neg c8] at h
        cases h
        exact t
    exact hq_fm_tr t (e128 a1 a2 a3 a4 (a5 + (1 : Int32)) z7 h)
theorem f_X12_laysNights_L128_fr {n m : Nat} {a1 : Int32} {a2 : Int32} {a3 : Int32} {a4 : Int32} {a5 : Int32} {q67 : Int32 → Int32 → Int32 → Int32 → hq_S → Option hq_S} {s : hq_S} {y : hq_S} (e67 : ∀ (a1 : Int32) (a2 : Int32) (a3 : Int32) (a4 : Int32) (o5 : Option Value) (s : hq_S), q67 a1 a2 a3 a4 s = some y → hq_fm s y) (h : f_X12_laysNights_L128 n q67 m a1 a2 a3 a4 a5 s = some y) : hq_fm s y := by
  induction m generalizing a1 a2 a3 a4 a5 s with
  | zero => cases h
  | succ m ih => exact f_X12_laysNights_L128_B_fr (n := n) (a1 := a1) (a2 := a2) (a3 := a3) (a4 := a4) (a5 := a5) (q128 := f_X12_laysNights_L128 n q67 m) e67 (fun a1 a2 a3 a4 a5 s h => ih h) h
theorem f_X12_laysNights_L76_B_fr {n : Nat} {a1 : Int32} {a2 : Int32} {a3 : Int32} {a4 : Int32} {a5 : Int32} {q67 : Int32 → Int32 → Int32 → Int32 → hq_S → Option hq_S} {q76 : Int32 → Int32 → Int32 → Int32 → Int32 → hq_S → Option hq_S} {s : hq_S} {y : hq_S} (e67 : ∀ (a1 : Int32) (a2 : Int32) (a3 : Int32) (a4 : Int32) (o5 : Option Value) (s : hq_S), q67 a1 a2 a3 a4 s = some y → hq_fm s y) (e76 : ∀ (a1 : Int32) (a2 : Int32) (a3 : Int32) (a4 : Int32) (a5 : Int32) (s : hq_S), q76 a1 a2 a3 a4 a5 s = some y → hq_fm s y) (h : f_X12_laysNights_L76_B n q67 q76 a1 a2 a3 a4 a5 s = some y) : hq_fm s y := by
  unfold f_X12_laysNights_L76_B at h
  have t := hq_fm_rf s
  by_cases c4 : a2 < a5
  · rw [if_pos c4] at h
    exact hq_fm_tr t (f_X12_laysNights_L128_fr e67 h)
  · rw [if_neg c4] at h
    obtain ⟨x10, hx10, h⟩ := hq_bind h
    obtain ⟨z11, hz11, h⟩ := hq_bind h
    have t : hq_fm s z11.2 := by
      clear h
      have h := hz11
      by_cases c12 : x10 = (-1 : Int32)
      · rw [if_pos c12] at h
        obtain ⟨y13, hy13, h⟩ := hq_bind h
        have t := hq_fm_tr t (f_X12_isSwept_fr hy13)
        by_cases c14 : y13.1 = 0
        · rw [if_pos c14] at h
          cases h
          exact t
        · rw [if_neg c14] at h
          obtain ⟨s15, hs15, h⟩ := hq_bind h
          have t := hq_fm_tr t (hq_fm_st hs15 (by first | decide | omega))
          cases h
          exact t
      · rw [if_neg c12] at h
        cases h
        exact t
    exact hq_fm_tr t (e76 a1 a2 z11.1 a4 (a5 + (1 : Int32)) z11.2 h)
theorem f_X12_laysNights_L76_fr {n m : Nat} {a1 : Int32} {a2 : Int32} {a3 : Int32} {a4 : Int32} {a5 : Int32} {q67 : Int32 → Int32 → Int32 → Int32 → hq_S → Option hq_S} {s : hq_S} {y : hq_S} (e67 : ∀ (a1 : Int32) (a2 : Int32) (a3 : Int32) (a4 : Int32) (o5 : Option Value) (s : hq_S), q67 a1 a2 a3 a4 s = some y → hq_fm s y) (h : f_X12_laysNights_L76 n q67 m a1 a2 a3 a4 a5 s = some y) : hq_fm s y := by
  induction m generalizing a1 a2 a3 a4 a5 s with
  | zero => cases h
  | succ m ih => exact f_X12_laysNights_L76_B_fr (n := n) (a1 := a1) (a2 := a2) (a3 := a3) (a4 := a4) (a5 := a5) (q76 := f_X12_laysNights_L76 n q67 m) e67 (fun a1 a2 a3 a4 a5 s h => ih h) h
theorem f_X12_laysNights_L67_B_fr {n : Nat} {a1 : Int32} {a2 : Int32} {a3 : Int32} {a4 : Int32} {q67 : Int32 → Int32 → Int32 → Int32 → hq_S → Option hq_S} {s : hq_S} {y : hq_S} (e67 : ∀ (a1 : Int32) (a2 : Int32) (a3 : Int32) (a4 : Int32) (o5 : Option Value) (s : hq_S), q67 a1 a2 a3 a4 s = some y → hq_fm s y) (h : f_X12_laysNights_L67_B n q67 a1 a2 a3 a4 s = some y) : hq_fm s y := by
  unfold f_X12_laysNights_L67_B at h
  have t := hq_fm_rf s
  by_cases c3 : a3 = 0
  · rw [if_pos c3] at h
    have h := Option.some.inj h
    subst h
    exact t
  · rw [if_neg c3] at h
    exact hq_fm_tr t (f_X12_laysNights_L76_fr e67 h)
theorem f_X12_laysNights_L67_fr {n m : Nat} {a1 : Int32} {a2 : Int32} {a3 : Int32} {a4 : Int32} {s : hq_S} {y : hq_S} (h : f_X12_laysNights_L67 n m a1 a2 a3 a4 s = some y) : hq_fm s y := by
  induction m generalizing a1 a2 a3 a4 s with
  | zero => cases h
  | succ m ih => exact f_X12_laysNights_L67_B_fr (n := n) (a1 := a1) (a2 := a2) (a3 := a3) (a4 := a4) (q67 := f_X12_laysNights_L67 n m) (fun a1 a2 a3 a4 _ s h => ih h) h
theorem f_X12_laysNights_L13_B_fr {n : Nat} {a1 : Int32} {a2 : Int32} {a3 : Int32} {q13 : Int32 → Int32 → Int32 → hq_S → Option hq_S} {s : hq_S} {y : hq_S} (e13 : ∀ (a1 : Int32) (a2 : Int32) (a3 : Int32) (s : hq_S), q13 a1 a2 a3 s = some y → hq_fm s y) (h : f_X12_laysNights_L13_B n q13 a1 a2 a3 s = some y) : hq_fm s y := by
  unfold f_X12_laysNights_L13_B at h
  have t := hq_fm_rf s
  by_cases c2 : a2 < a3
  · rw [if_pos c2] at h
    exact hq_fm_tr t (f_X12_laysNights_L67_fr h)
  · rw [if_neg c2] at h
    obtain ⟨y16, hy16, h⟩ := hq_bind h
    have t := hq_fm_tr t (f_X12_moved_fr hy16)
    obtain ⟨s17, hs17, h⟩ := hq_bind h
    have t := hq_fm_tr t (hq_fm_st hs17 (by first | decide | omega))
    obtain ⟨z18, hz18, h⟩ := hq_bind h
    have t : hq_fm s z18.2 := by
      clear h
      have h := hz18
      by_cases c19 : a3 = 0
      · rw [if_pos c19] at h
        cases h
        exact t
      · rw [if_neg c19] at h
        obtain ⟨y20, hy20, h⟩ := hq_bind h
        have t := hq_fm_tr t (f_X12_bitsOf_fr hy20)
        by_cases c21 : a1 < y20.1
        · rw [if_pos c21] at h
          cases h
          exact t
        · rw [if_neg c21] at h
          cases h
          exact t
    obtain ⟨s22, hs22, h⟩ := hq_bind h
    have t := hq_fm_tr t (hq_fm_st hs22 (by first | decide | omega))
    exact hq_fm_tr t (e13 a1 a2 (a3 + (1 : Int32)) s22 h)
theorem f_X12_laysNights_L13_fr {n m : Nat} {a1 : Int32} {a2 : Int32} {a3 : Int32} {s : hq_S} {y : hq_S} (h : f_X12_laysNights_L13 n m a1 a2 a3 s = some y) : hq_fm s y := by
  induction m generalizing a1 a2 a3 s with
  | zero => cases h
  | succ m ih => exact f_X12_laysNights_L13_B_fr (n := n) (a1 := a1) (a2 := a2) (a3 := a3) (q13 := f_X12_laysNights_L13 n m) (fun a1 a2 a3 s h => ih h) h
theorem f_X12_laysNights_fr {n : Nat} {a1 : Int32} {s : hq_S} {y : hq_S} (h : f_X12_laysNights n a1 s = some y) : hq_fm s y := by
  unfold f_X12_laysNights at h
  have t := hq_fm_rf s
  obtain ⟨x1, hx1, h⟩ := hq_bind h
  exact hq_fm_tr t (f_X12_laysNights_L13_fr h)
theorem f_X12_sweepOf_fr {n : Nat} {a1 : Int32} {s : hq_S} {y : (Int32 × hq_S)} (h : f_X12_sweepOf n a1 s = some y) : hq_fm s y.2 := by
  unfold f_X12_sweepOf at h
  have t := hq_fm_rf s
  obtain ⟨s1, hs1, h⟩ := hq_bind h
  have t := hq_fm_tr t (f_X12_lays_fr hs1)
  obtain ⟨s2, hs2, h⟩ := hq_bind h
  have t := hq_fm_tr t (f_X12_laysNights_fr hs2)
  obtain ⟨x3, hx3, h⟩ := hq_bind h
  obtain ⟨x4, hx4, h⟩ := hq_bind h
  have h := Option.some.inj h
  subst h
  exact t
theorem f_X12_sweep_fr {n : Nat} {a1 : Int32} {s : hq_S} {y : (Int32 × hq_S)} (h : f_X12_sweep n a1 s = some y) : hq_fm s y.2 := by
  unfold f_X12_sweep at h
  have t := hq_fm_rf s
  obtain ⟨s1, hs1, h⟩ := hq_bind h
  have t := hq_fm_tr t (hq_fm_pi hs1 (by first | decide | omega))
  by_cases c2 : a1 < (1 : Int32)
  · rw [if_pos c2] at h
    have h := Option.some.inj h
    subst h
    exact t
  · rw [if_neg c2] at h
    by_cases c3 : (10 : Int32) < a1
    · rw [if_pos c3] at h
      have h := Option.some.inj h
      subst h
      exact t
    · rw [if_neg c3] at h
      obtain ⟨y4, hy4, h⟩ := hq_bind h
      have t := hq_fm_tr t (f_X12_sweepOf_fr hy4)
      by_cases c5 : y4.1 = (-1 : Int32)
      · rw [if_pos c5] at h
        have h := Option.some.inj h
        subst h
        exact t
      · rw [if_neg c5] at h
        have h := Option.some.inj h
        subst h
        exact t
theorem f_X12_look_J111_fr {n : Nat} {a1 : Int32} {a2 : Int32} {a3 : Int32} {a4 : Int32} {q46 : Int32 → Int32 → Int32 → Int32 → hq_S → Option (Int32 × hq_S)} {s : hq_S} {y : (Int32 × hq_S)} (e46 : ∀ (a1 : Int32) (a2 : Int32) (a3 : Int32) (a4 : Int32) (o5 : Option Value) (s : hq_S), q46 a1 a2 a3 a4 s = some y → hq_fm s y.2) (h : f_X12_look_J111 n q46 a1 a2 a3 a4 s = some y) : hq_fm s y.2 := by
  unfold f_X12_look_J111 at h
  have t := hq_fm_rf s
  exact hq_fm_tr t (e46 a1 a2 a3 (a4 + (1 : Int32)) none s h)
theorem f_X12_look_L46_B_fr {n : Nat} {a1 : Int32} {a2 : Int32} {a3 : Int32} {a4 : Int32} {q46 : Int32 → Int32 → Int32 → Int32 → hq_S → Option (Int32 × hq_S)} {s : hq_S} {y : (Int32 × hq_S)} (e46 : ∀ (a1 : Int32) (a2 : Int32) (a3 : Int32) (a4 : Int32) (o5 : Option Value) (s : hq_S), q46 a1 a2 a3 a4 s = some y → hq_fm s y.2) (h : f_X12_look_L46_B n q46 a1 a2 a3 a4 s = some y) : hq_fm s y.2 := by
  unfold f_X12_look_L46_B at h
  have t := hq_fm_rf s
  by_cases c7 : a3 < a4
  · rw [if_pos c7] at h
    have h := Option.some.inj h
    subst h
    exact t
  · rw [if_neg c7] at h
    obtain ⟨y8, hy8, h⟩ := hq_bind h
    have t := hq_fm_tr t (f_X12_bitsOf_fr hy8)
    by_cases c9 : a1 < y8.1
    · rw [if_pos c9] at h
      exact hq_fm_tr t (f_X12_look_J111_fr e46 h)
    · rw [if_neg c9] at h
      by_cases c10 : (1 : Int32) < a2
      · rw [if_pos c10] at h
        obtain ⟨x11, hx11, h⟩ := hq_bind h
        obtain ⟨x12, hx12, h⟩ := hq_bind h
        by_cases c13 : x12 = (a2 - (1 : Int32))
        · rw [if_pos c13] at h
          by_cases c14 : (a3 &&& (a4 ^^^ (-1 : Int32))) = 0
          · rw [if_pos c14] at h
            exact hq_fm_tr t (f_X12_look_J111_fr e46 h)
          · rw [if_neg c14] at h
            have h := Option.some.inj h
            subst h
            exact t
        · rw [if_neg c13] at h
          exact hq_fm_tr t (f_X12_look_J111_fr e46 h)
      · rw [if_neg c10] at h
        by_cases c15 : (a3 &&& (a4 ^^^ (-1 : Int32))) = 0
        · rw [if_pos c15] at h
          have h := Option.some.inj h
          subst h
          exact t
        · rw [if_neg c15] at h
          exact hq_fm_tr t (f_X12_look_J111_fr e46 h)
theorem f_X12_look_L46_fr {n m : Nat} {a1 : Int32} {a2 : Int32} {a3 : Int32} {a4 : Int32} {s : hq_S} {y : (Int32 × hq_S)} (h : f_X12_look_L46 n m a1 a2 a3 a4 s = some y) : hq_fm s y.2 := by
  induction m generalizing a1 a2 a3 a4 s with
  | zero => cases h
  | succ m ih => exact f_X12_look_L46_B_fr (n := n) (a1 := a1) (a2 := a2) (a3 := a3) (a4 := a4) (q46 := f_X12_look_L46 n m) (fun a1 a2 a3 a4 _ s h => ih h) h
theorem f_X12_look_fr {n : Nat} {a1 : Int32} {s : hq_S} {y : (Int32 × hq_S)} (h : f_X12_look n a1 s = some y) : hq_fm s y.2 := by
  unfold f_X12_look at h
  have t := hq_fm_rf s
  obtain ⟨s1, hs1, h⟩ := hq_bind h
  have t := hq_fm_tr t (hq_fm_pi hs1 (by first | decide | omega))
  by_cases c2 : a1 < (1 : Int32)
  · rw [if_pos c2] at h
    have h := Option.some.inj h
    subst h
    exact t
  · rw [if_neg c2] at h
    by_cases c3 : (10 : Int32) < a1
    · rw [if_pos c3] at h
      have h := Option.some.inj h
      subst h
      exact t
    · rw [if_neg c3] at h
      obtain ⟨y4, hy4, h⟩ := hq_bind h
      have t := hq_fm_tr t (f_X12_sweepOf_fr hy4)
      by_cases c5 : y4.1 = (-1 : Int32)
      · rw [if_pos c5] at h
        have h := Option.some.inj h
        subst h
        exact t
      · rw [if_neg c5] at h
        obtain ⟨x6, hx6, h⟩ := hq_bind h
        exact hq_fm_tr t (f_X12_look_L46_fr h)
theorem f_X12_dark_L18_B_fr {n : Nat} {a1 : Int32} {q18 : Int32 → hq_S → Option (Int32 × hq_S)} {s : hq_S} {y : (Int32 × hq_S)} (e18 : ∀ (a1 : Int32) (s : hq_S), q18 a1 s = some y → hq_fm s y.2) (h : f_X12_dark_L18_B n q18 a1 s = some y) : hq_fm s y.2 := by
  unfold f_X12_dark_L18_B at h
  have t := hq_fm_rf s
  obtain ⟨y4, hy4, h⟩ := hq_bind h
  have t := hq_fm_tr t (f_X12_sweepOf_fr hy4)
  by_cases c5 : y4.1 = (-1 : Int32)
  · rw [if_pos c5] at h
    exact hq_fm_tr t (e18 (a1 + (1 : Int32)) y4.2 h)
  · rw [if_neg c5] at h
    have h := Option.some.inj h
    subst h
    exact t
theorem f_X12_dark_L18_fr {n m : Nat} {a1 : Int32} {s : hq_S} {y : (Int32 × hq_S)} (h : f_X12_dark_L18 n m a1 s = some y) : hq_fm s y.2 := by
  induction m generalizing a1 s with
  | zero => cases h
  | succ m ih => exact f_X12_dark_L18_B_fr (n := n) (a1 := a1) (q18 := f_X12_dark_L18 n m) (fun a1 s h => ih h) h
theorem f_X12_dark_fr {n : Nat} {s : hq_S} {y : (Int32 × hq_S)} (h : f_X12_dark n s = some y) : hq_fm s y.2 := by
  unfold f_X12_dark at h
  have t := hq_fm_rf s
  obtain ⟨s1, hs1, h⟩ := hq_bind h
  have t := hq_fm_tr t (hq_fm_pi hs1 (by first | decide | omega))
  obtain ⟨x2, hx2, h⟩ := hq_bind h
  by_cases c3 : x2 = 0
  · rw [if_pos c3] at h
    have h := Option.some.inj h
    subst h
    exact t
  · rw [if_neg c3] at h
    exact hq_fm_tr t (f_X12_dark_L18_fr h)
theorem f_X12_could_L118_B_fr {n : Nat} {a1 : Int32} {a2 : Int32} {a3 : Int32} {a4 : Int32} {a5 : Int32} {a6 : Int32} {q54 : Int32 → Int32 → Int32 → Int32 → hq_S → Option (Int32 × hq_S)} {q118 : Int32 → Int32 → Int32 → Int32 → Int32 → Int32 → hq_S → Option (Int32 × hq_S)} {s : hq_S} {y : (Int32 × hq_S)} (e54 : ∀ (a1 : Int32) (a2 : Int32) (a3 : Int32) (a4 : Int32) (o5 : Option Value) (o6 : Option Value) (s : hq_S), q54 a1 a2 a3 a4 s = some y → hq_fm s y.2) (e118 : ∀ (a1 : Int32) (a2 : Int32) (a3 : Int32) (a4 : Int32) (a5 : Int32) (a6 : Int32) (s : hq_S), q118 a1 a2 a3 a4 a5 a6 s = some y → hq_fm s y.2) (h : f_X12_could_L118_B n q54 q118 a1 a2 a3 a4 a5 a6 s = some y) : hq_fm s y.2 := by
  unfold f_X12_could_L118_B at h
  have t := hq_fm_rf s
  obtain ⟨x14, hx14, h⟩ := hq_bind h
  by_cases c15 : a6 < x14
  · rw [if_pos c15] at h
    obtain ⟨x16, hx16, h⟩ := hq_bind h
    exact hq_fm_tr t (e118 a1 a2 a3 a4 (a5 &&& (((1 : Int32) <<< (x16 &&& 31)) ^^^ (-1 : Int32))) (a6 + (1 : Int32)) s h)
  · rw [if_neg c15] at h
    exact hq_fm_tr t (e54 a1 a2 a5 (a4 + (1 : Int32)) none none s h)
theorem f_X12_could_L118_fr {n m : Nat} {a1 : Int32} {a2 : Int32} {a3 : Int32} {a4 : Int32} {a5 : Int32} {a6 : Int32} {q54 : Int32 → Int32 → Int32 → Int32 → hq_S → Option (Int32 × hq_S)} {s : hq_S} {y : (Int32 × hq_S)} (e54 : ∀ (a1 : Int32) (a2 : Int32) (a3 : Int32) (a4 : Int32) (o5 : Option Value) (o6 : Option Value) (s : hq_S), q54 a1 a2 a3 a4 s = some y → hq_fm s y.2) (h : f_X12_could_L118 n q54 m a1 a2 a3 a4 a5 a6 s = some y) : hq_fm s y.2 := by
  induction m generalizing a1 a2 a3 a4 a5 a6 s with
  | zero => cases h
  | succ m ih => exact f_X12_could_L118_B_fr (n := n) (a1 := a1) (a2 := a2) (a3 := a3) (a4 := a4) (a5 := a5) (a6 := a6) (q118 := f_X12_could_L118 n q54 m) e54 (fun a1 a2 a3 a4 a5 a6 s h => ih h) h
theorem f_X12_could_L72_B_fr {n : Nat} {a1 : Int32} {a2 : Int32} {a3 : Int32} {a4 : Int32} {a5 : Int32} {a6 : Int32} {q54 : Int32 → Int32 → Int32 → Int32 → hq_S → Option (Int32 × hq_S)} {q72 : Int32 → Int32 → Int32 → Int32 → Int32 → Int32 → hq_S → Option (Int32 × hq_S)} {s : hq_S} {y : (Int32 × hq_S)} (e54 : ∀ (a1 : Int32) (a2 : Int32) (a3 : Int32) (a4 : Int32) (o5 : Option Value) (o6 : Option Value) (s : hq_S), q54 a1 a2 a3 a4 s = some y → hq_fm s y.2) (e72 : ∀ (a1 : Int32) (a2 : Int32) (a3 : Int32) (a4 : Int32) (a5 : Int32) (a6 : Int32) (s : hq_S), q72 a1 a2 a3 a4 a5 a6 s = some y → hq_fm s y.2) (h : f_X12_could_L72_B n q54 q72 a1 a2 a3 a4 a5 a6 s = some y) : hq_fm s y.2 := by
  unfold f_X12_could_L72_B at h
  have t := hq_fm_rf s
  obtain ⟨x12, hx12, h⟩ := hq_bind h
  by_cases c13 : a6 < x12
  · rw [if_pos c13] at h
    obtain ⟨z17, hz17, h⟩ := hq_bind h
    exact hq_fm_tr t (e72 a1 a2 a3 a4 (a5 ||| z17) (a6 + (1 : Int32)) s h)
  · rw [if_neg c13] at h
    exact hq_fm_tr t (f_X12_could_L118_fr e54 h)
theorem f_X12_could_L72_fr {n m : Nat} {a1 : Int32} {a2 : Int32} {a3 : Int32} {a4 : Int32} {a5 : Int32} {a6 : Int32} {q54 : Int32 → Int32 → Int32 → Int32 → hq_S → Option (Int32 × hq_S)} {s : hq_S} {y : (Int32 × hq_S)} (e54 : ∀ (a1 : Int32) (a2 : Int32) (a3 : Int32) (a4 : Int32) (o5 : Option Value) (o6 : Option Value) (s : hq_S), q54 a1 a2 a3 a4 s = some y → hq_fm s y.2) (h : f_X12_could_L72 n q54 m a1 a2 a3 a4 a5 a6 s = some y) : hq_fm s y.2 := by
  induction m generalizing a1 a2 a3 a4 a5 a6 s with
  | zero => cases h
  | succ m ih => exact f_X12_could_L72_B_fr (n := n) (a1 := a1) (a2 := a2) (a3 := a3) (a4 := a4) (a5 := a5) (a6 := a6) (q72 := f_X12_could_L72 n q54 m) e54 (fun a1 a2 a3 a4 a5 a6 s h => ih h) h
theorem f_X12_could_L54_B_fr {n : Nat} {a1 : Int32} {a2 : Int32} {a3 : Int32} {a4 : Int32} {q54 : Int32 → Int32 → Int32 → Int32 → hq_S → Option (Int32 × hq_S)} {s : hq_S} {y : (Int32 × hq_S)} (e54 : ∀ (a1 : Int32) (a2 : Int32) (a3 : Int32) (a4 : Int32) (o5 : Option Value) (o6 : Option Value) (s : hq_S), q54 a1 a2 a3 a4 s = some y → hq_fm s y.2) (h : f_X12_could_L54_B n q54 a1 a2 a3 a4 s = some y) : hq_fm s y.2 := by
  unfold f_X12_could_L54_B at h
  have t := hq_fm_rf s
  by_cases c10 : a4 < a2
  · rw [if_pos c10] at h
    obtain ⟨s11, hs11, h⟩ := hq_bind h
    have t := hq_fm_tr t (f_X12_passes_fr hs11)
    exact hq_fm_tr t (f_X12_could_L72_fr e54 h)
  · rw [if_neg c10] at h
    have h := Option.some.inj h
    subst h
    exact t
theorem f_X12_could_L54_fr {n m : Nat} {a1 : Int32} {a2 : Int32} {a3 : Int32} {a4 : Int32} {s : hq_S} {y : (Int32 × hq_S)} (h : f_X12_could_L54 n m a1 a2 a3 a4 s = some y) : hq_fm s y.2 := by
  induction m generalizing a1 a2 a3 a4 s with
  | zero => cases h
  | succ m ih => exact f_X12_could_L54_B_fr (n := n) (a1 := a1) (a2 := a2) (a3 := a3) (a4 := a4) (q54 := f_X12_could_L54 n m) (fun a1 a2 a3 a4 _ _ s h => ih h) h
theorem f_X12_could_fr {n : Nat} {a1 : Int32} {a2 : Int32} {s : hq_S} {y : (Int32 × hq_S)} (h : f_X12_could n a1 a2 s = some y) : hq_fm s y.2 := by
  unfold f_X12_could at h
  have t := hq_fm_rf s
  obtain ⟨s1, hs1, h⟩ := hq_bind h
  have t := hq_fm_tr t (hq_fm_pi hs1 (by first | decide | omega))
  obtain ⟨y2, hy2, h⟩ := hq_bind h
  have t := hq_fm_tr t (f_X12_isThief_fr hy2)
  by_cases c3 : y2.1 = 0
  · rw [if_pos c3] at h
    have h := Option.some.inj h
    subst h
    exact t
  · rw [if_neg c3] at h
    by_cases c4 : a2 < 0
    · rw [if_pos c4] at h
      have h := Option.some.inj h
      subst h
      exact t
    · rw [if_neg c4] at h
      by_cases c5 : (60 : Int32) < a2
      · rw [if_pos c5] at h
        have h := Option.some.inj h
        subst h
        exact t
      · rw [if_neg c5] at h
        obtain ⟨y6, hy6, h⟩ := hq_bind h
        have t := hq_fm_tr t (f_X12_isFree_fr hy6)
        by_cases c7 : y6.1 = 0
        · rw [if_pos c7] at h
          have h := Option.some.inj h
          subst h
          exact t
        · rw [if_neg c7] at h
          obtain ⟨s8, hs8, h⟩ := hq_bind h
          have t := hq_fm_tr t (f_X12_copies_fr hs8)
          obtain ⟨x9, hx9, h⟩ := hq_bind h
          exact hq_fm_tr t (f_X12_could_L54_fr h)
theorem f_X12_unseen_L28_B_fr {n : Nat} {a1 : Int32} {a2 : Int32} {a3 : Int32} {a4 : Int32} {q28 : Int32 → Int32 → Int32 → Int32 → hq_S → Option (Int32 × hq_S)} {s : hq_S} {y : (Int32 × hq_S)} (e28 : ∀ (a1 : Int32) (a2 : Int32) (a3 : Int32) (a4 : Int32) (s : hq_S), q28 a1 a2 a3 a4 s = some y → hq_fm s y.2) (h : f_X12_unseen_L28_B n q28 a1 a2 a3 a4 s = some y) : hq_fm s y.2 := by
  unfold f_X12_unseen_L28_B at h
  have t := hq_fm_rf s
  by_cases c5 : a4 < (60 : Int32)
  · rw [if_pos c5] at h
    obtain ⟨s6, hs6, h⟩ := hq_bind h
    have t := hq_fm_tr t (f_X12_passes_fr hs6)
    obtain ⟨y7, hy7, h⟩ := hq_bind h
    have t := hq_fm_tr t (f_X12_farOf_fr hy7)
    obtain ⟨z8, hz8, h⟩ := hq_bind h
    exact hq_fm_tr t (e28 a1 (hq_max a2 z8) z8 (a4 + (1 : Int32)) y7.2 h)
  · rw [if_neg c5] at h
    have h := Option.some.inj h
    subst h
    exact t
theorem f_X12_unseen_L28_fr {n m : Nat} {a1 : Int32} {a2 : Int32} {a3 : Int32} {a4 : Int32} {s : hq_S} {y : (Int32 × hq_S)} (h : f_X12_unseen_L28 n m a1 a2 a3 a4 s = some y) : hq_fm s y.2 := by
  induction m generalizing a1 a2 a3 a4 s with
  | zero => cases h
  | succ m ih => exact f_X12_unseen_L28_B_fr (n := n) (a1 := a1) (a2 := a2) (a3 := a3) (a4 := a4) (q28 := f_X12_unseen_L28 n m) (fun a1 a2 a3 a4 s h => ih h) h
theorem f_X12_unseen_fr {n : Nat} {a1 : Int32} {s : hq_S} {y : (Int32 × hq_S)} (h : f_X12_unseen n a1 s = some y) : hq_fm s y.2 := by
  unfold f_X12_unseen at h
  have t := hq_fm_rf s
  obtain ⟨s1, hs1, h⟩ := hq_bind h
  have t := hq_fm_tr t (hq_fm_pi hs1 (by first | decide | omega))
  obtain ⟨y2, hy2, h⟩ := hq_bind h
  have t := hq_fm_tr t (f_X12_isCorner_fr hy2)
  by_cases c3 : y2.1 = 0
  · rw [if_pos c3] at h
    have h := Option.some.inj h
    subst h
    exact t
  · rw [if_neg c3] at h
    obtain ⟨s4, hs4, h⟩ := hq_bind h
    have t := hq_fm_tr t (f_X12_copies_fr hs4)
    exact hq_fm_tr t (f_X12_unseen_L28_fr h)
theorem f_X12_goesFrom_L5_B_fr {n : Nat} {a1 : Int32} {a2 : Int32} {a3 : Int32} {a4 : Int32} {q5 : Int32 → Int32 → Int32 → Int32 → hq_S → Option (Int32 × hq_S)} {s : hq_S} {y : (Int32 × hq_S)} (e5 : ∀ (a1 : Int32) (a2 : Int32) (a3 : Int32) (a4 : Int32) (o5 : Option Value) (s : hq_S), q5 a1 a2 a3 a4 s = some y → hq_fm s y.2) (h : f_X12_goesFrom_L5_B n q5 a1 a2 a3 a4 s = some y) : hq_fm s y.2 := by
  unfold f_X12_goesFrom_L5_B at h
  have t := hq_fm_rf s
  obtain ⟨x1, hx1, h⟩ := hq_bind h
  by_cases c2 : a4 < x1
  · rw [if_pos c2] at h
    obtain ⟨x3, hx3, h⟩ := hq_bind h
    obtain ⟨x4, hx4, h⟩ := hq_bind h
    obtain ⟨x5, hx5, h⟩ := hq_bind h
    obtain ⟨z6, hz6, h⟩ := hq_bind h
    have t : hq_fm s z6.2 := by
      clear h
      have h := hz6
      by_cases c7 : ((x5 >>> (a4 &&& 31)) &&& (1 : Int32)) = 0
      · rw [if_pos c7] at h
        cases h
        exact t
      · rw [if_neg c7] at h
        obtain ⟨x8, hx8, h⟩ := hq_bind h
        by_cases c9 : x8 = (-1 : Int32)
        · rw [if_pos c9] at h
          obtain ⟨s10, hs10, h⟩ := hq_bind h
          have t := hq_fm_tr t (hq_fm_st hs10 (by first | decide | omega))
          cases h
          exact t
        · rw [if_neg c9] at h
          cases h
          exact t
    exact hq_fm_tr t (e5 a1 a2 z6.1 (a4 + (1 : Int32)) none z6.2 h)
  · rw [if_neg c2] at h
    have hr : mm_rfit (mm_ret mc_X12_goesFrom) a3 = true := hq_ifT h
    rw [if_pos hr] at h
    have h := Option.some.inj h
    subst h
    exact t
theorem f_X12_goesFrom_L5_fr {n m : Nat} {a1 : Int32} {a2 : Int32} {a3 : Int32} {a4 : Int32} {s : hq_S} {y : (Int32 × hq_S)} (h : f_X12_goesFrom_L5 n m a1 a2 a3 a4 s = some y) : hq_fm s y.2 := by
  induction m generalizing a1 a2 a3 a4 s with
  | zero => cases h
  | succ m ih => exact f_X12_goesFrom_L5_B_fr (n := n) (a1 := a1) (a2 := a2) (a3 := a3) (a4 := a4) (q5 := f_X12_goesFrom_L5 n m) (fun a1 a2 a3 a4 _ s h => ih h) h
theorem f_X12_goesFrom_fr {n : Nat} {a1 : Int32} {a2 : Int32} {s : hq_S} {y : (Int32 × hq_S)} (h : f_X12_goesFrom n a1 a2 s = some y) : hq_fm s y.2 := by
  unfold f_X12_goesFrom at h
  have t := hq_fm_rf s
  exact hq_fm_tr t (f_X12_goesFrom_L5_fr h)
theorem f_X12_round_J136_fr {n : Nat} {a1 : Int32} {a2 : Int32} {a3 : Int32} {a4 : Int32} {a5 : Int32} {q73 : Int32 → Int32 → Int32 → Int32 → hq_S → Option (Int32 × hq_S)} {q82 : Int32 → Int32 → Int32 → Int32 → Int32 → hq_S → Option (Int32 × hq_S)} {s : hq_S} {y : (Int32 × hq_S)} (e73 : ∀ (a1 : Int32) (a2 : Int32) (a3 : Int32) (a4 : Int32) (o5 : Option Value) (s : hq_S), q73 a1 a2 a3 a4 s = some y → hq_fm s y.2) (e82 : ∀ (a1 : Int32) (a2 : Int32) (a3 : Int32) (a4 : Int32) (a5 : Int32) (s : hq_S), q82 a1 a2 a3 a4 a5 s = some y → hq_fm s y.2) (h : f_X12_round_J136 n q73 q82 a1 a2 a3 a4 a5 s = some y) : hq_fm s y.2 := by
  unfold f_X12_round_J136 at h
  have t := hq_fm_rf s
  exact hq_fm_tr t (e82 a1 a2 a3 a4 (a5 + (1 : Int32)) s h)
theorem f_X12_round_L82_B_fr {n : Nat} {a1 : Int32} {a2 : Int32} {a3 : Int32} {a4 : Int32} {a5 : Int32} {q73 : Int32 → Int32 → Int32 → Int32 → hq_S → Option (Int32 × hq_S)} {q82 : Int32 → Int32 → Int32 → Int32 → Int32 → hq_S → Option (Int32 × hq_S)} {s : hq_S} {y : (Int32 × hq_S)} (e73 : ∀ (a1 : Int32) (a2 : Int32) (a3 : Int32) (a4 : Int32) (o5 : Option Value) (s : hq_S), q73 a1 a2 a3 a4 s = some y → hq_fm s y.2) (e82 : ∀ (a1 : Int32) (a2 : Int32) (a3 : Int32) (a4 : Int32) (a5 : Int32) (s : hq_S), q82 a1 a2 a3 a4 a5 s = some y → hq_fm s y.2) (h : f_X12_round_L82_B n q73 q82 a1 a2 a3 a4 a5 s = some y) : hq_fm s y.2 := by
  unfold f_X12_round_L82_B at h
  have t := hq_fm_rf s
  obtain ⟨x9, hx9, h⟩ := hq_bind h
  by_cases c10 : a5 < ((1024 : Int32) * x9)
  · rw [if_pos c10] at h
    obtain ⟨x11, hx11, h⟩ := hq_bind h
    by_cases c12 : x11 = a4
    · rw [if_pos c12] at h
      obtain ⟨x13, hx13, h⟩ := hq_bind h
      by_cases c14 : x13 = a2
      · rw [if_pos c14] at h
        have h := Option.some.inj h
        subst h
        exact t
      · rw [if_neg c14] at h
        obtain ⟨y15, hy15, h⟩ := hq_bind h
        have t := hq_fm_tr t (f_X12_goesFrom_fr hy15)
        exact hq_fm_tr t (f_X12_round_J136_fr e73 e82 h)
    · rw [if_neg c12] at h
      exact hq_fm_tr t (f_X12_round_J136_fr e73 e82 h)
  · rw [if_neg c10] at h
    exact hq_fm_tr t (e73 a1 a2 a3 (a4 + (1 : Int32)) none s h)
theorem f_X12_round_L82_fr {n m : Nat} {a1 : Int32} {a2 : Int32} {a3 : Int32} {a4 : Int32} {a5 : Int32} {q73 : Int32 → Int32 → Int32 → Int32 → hq_S → Option (Int32 × hq_S)} {s : hq_S} {y : (Int32 × hq_S)} (e73 : ∀ (a1 : Int32) (a2 : Int32) (a3 : Int32) (a4 : Int32) (o5 : Option Value) (s : hq_S), q73 a1 a2 a3 a4 s = some y → hq_fm s y.2) (h : f_X12_round_L82 n q73 m a1 a2 a3 a4 a5 s = some y) : hq_fm s y.2 := by
  induction m generalizing a1 a2 a3 a4 a5 s with
  | zero => cases h
  | succ m ih => exact f_X12_round_L82_B_fr (n := n) (a1 := a1) (a2 := a2) (a3 := a3) (a4 := a4) (a5 := a5) (q82 := f_X12_round_L82 n q73 m) e73 (fun a1 a2 a3 a4 a5 s h => ih h) h
theorem f_X12_round_L73_B_fr {n : Nat} {a1 : Int32} {a2 : Int32} {a3 : Int32} {a4 : Int32} {q73 : Int32 → Int32 → Int32 → Int32 → hq_S → Option (Int32 × hq_S)} {s : hq_S} {y : (Int32 × hq_S)} (e73 : ∀ (a1 : Int32) (a2 : Int32) (a3 : Int32) (a4 : Int32) (o5 : Option Value) (s : hq_S), q73 a1 a2 a3 a4 s = some y → hq_fm s y.2) (h : f_X12_round_L73_B n q73 a1 a2 a3 a4 s = some y) : hq_fm s y.2 := by
  unfold f_X12_round_L73_B at h
  have t := hq_fm_rf s
  by_cases c8 : a3 = 0
  · rw [if_pos c8] at h
    have h := Option.some.inj h
    subst h
    exact t
  · rw [if_neg c8] at h
    exact hq_fm_tr t (f_X12_round_L82_fr e73 h)
theorem f_X12_round_L73_fr {n m : Nat} {a1 : Int32} {a2 : Int32} {a3 : Int32} {a4 : Int32} {s : hq_S} {y : (Int32 × hq_S)} (h : f_X12_round_L73 n m a1 a2 a3 a4 s = some y) : hq_fm s y.2 := by
  induction m generalizing a1 a2 a3 a4 s with
  | zero => cases h
  | succ m ih => exact f_X12_round_L73_B_fr (n := n) (a1 := a1) (a2 := a2) (a3 := a3) (a4 := a4) (q73 := f_X12_round_L73 n m) (fun a1 a2 a3 a4 _ s h => ih h) h
theorem f_X12_round_L33_B_fr {n : Nat} {a1 : Int32} {a2 : Int32} {a3 : Int32} {q33 : Int32 → Int32 → Int32 → hq_S → Option (Int32 × hq_S)} {s : hq_S} {y : (Int32 × hq_S)} (e33 : ∀ (a1 : Int32) (a2 : Int32) (a3 : Int32) (s : hq_S), q33 a1 a2 a3 s = some y → hq_fm s y.2) (h : f_X12_round_L33_B n q33 a1 a2 a3 s = some y) : hq_fm s y.2 := by
  unfold f_X12_round_L33_B at h
  have t := hq_fm_rf s
  by_cases c6 : a3 < (10240 : Int32)
  · rw [if_pos c6] at h
    obtain ⟨s16, hs16, h⟩ := hq_bind h
    have t := hq_fm_tr t (hq_fm_st hs16 (by first | decide | omega))
    exact hq_fm_tr t (e33 a1 a2 (a3 + (1 : Int32)) s16 h)
  · rw [if_neg c6] at h
    obtain ⟨s7, hs7, h⟩ := hq_bind h
    have t := hq_fm_tr t (hq_fm_st hs7 (by first | decide | omega))
    exact hq_fm_tr t (f_X12_round_L73_fr h)
theorem f_X12_round_L33_fr {n m : Nat} {a1 : Int32} {a2 : Int32} {a3 : Int32} {s : hq_S} {y : (Int32 × hq_S)} (h : f_X12_round_L33 n m a1 a2 a3 s = some y) : hq_fm s y.2 := by
  induction m generalizing a1 a2 a3 s with
  | zero => cases h
  | succ m ih => exact f_X12_round_L33_B_fr (n := n) (a1 := a1) (a2 := a2) (a3 := a3) (q33 := f_X12_round_L33 n m) (fun a1 a2 a3 s h => ih h) h
theorem f_X12_round_fr {n : Nat} {a1 : Int32} {s : hq_S} {y : (Int32 × hq_S)} (h : f_X12_round n a1 s = some y) : hq_fm s y.2 := by
  unfold f_X12_round at h
  have t := hq_fm_rf s
  obtain ⟨s1, hs1, h⟩ := hq_bind h
  have t := hq_fm_tr t (hq_fm_pi hs1 (by first | decide | omega))
  obtain ⟨y2, hy2, h⟩ := hq_bind h
  have t := hq_fm_tr t (f_X12_isCorner_fr hy2)
  by_cases c3 : y2.1 = 0
  · rw [if_pos c3] at h
    have h := Option.some.inj h
    subst h
    exact t
  · rw [if_neg c3] at h
    obtain ⟨s4, hs4, h⟩ := hq_bind h
    have t := hq_fm_tr t (f_X12_lays_fr hs4)
    obtain ⟨x5, hx5, h⟩ := hq_bind h
    exact hq_fm_tr t (f_X12_round_L33_fr h)
theorem f_X12_hasRoom_fr {n : Nat} {a1 : Int32} {a2 : Int32} {s : hq_S} {y : (Int32 × hq_S)} (h : f_X12_hasRoom n a1 a2 s = some y) : hq_fm s y.2 := by
  unfold f_X12_hasRoom at h
  have t := hq_fm_rf s
  obtain ⟨x1, hx1, h⟩ := hq_bind h
  by_cases c2 : ((x1 >>> (a1 &&& 31)) &&& (1 : Int32)) = (1 : Int32)
  · rw [if_pos c2] at h
    have h := Option.some.inj h
    subst h
    exact t
  · rw [if_neg c2] at h
    obtain ⟨x3, hx3, h⟩ := hq_bind h
    by_cases c4 : x3 = a2
    · rw [if_pos c4] at h
      obtain ⟨x12, hx12, h⟩ := hq_bind h
      by_cases c13 : x12 < (1 : Int32)
      · rw [if_pos c13] at h
        have h := Option.some.inj h
        subst h
        exact t
      · rw [if_neg c13] at h
        have h := Option.some.inj h
        subst h
        exact t
    · rw [if_neg c4] at h
      obtain ⟨x5, hx5, h⟩ := hq_bind h
      by_cases c6 : x5 = a2
      · rw [if_pos c6] at h
        obtain ⟨x7, hx7, h⟩ := hq_bind h
        obtain ⟨x8, hx8, h⟩ := hq_bind h
        obtain ⟨z9, hz9, h⟩ := hq_bind h
        by_cases c11 : z9 < x7
        · rw [if_pos c11] at h
          have h := Option.some.inj h
          subst h
          exact t
        · rw [if_neg c11] at h
          have h := Option.some.inj h
          subst h
          exact t
      · rw [if_neg c6] at h
        have h := Option.some.inj h
        subst h
        exact t
theorem f_X12_findsOne_J161_fr {n : Nat} {a1 : Int32} {a2 : Int32} {a3 : Int32} {a4 : Int32} {s : hq_S} {y : (Int32 × hq_S)} (h : f_X12_findsOne_J161 n a1 a2 a3 a4 s = some y) : hq_fm s y.2 := by
  unfold f_X12_findsOne_J161 at h
  have t := hq_fm_rf s
  by_cases c2 : ((a3 >>> (a2 &&& 31)) &&& (1 : Int32)) = (1 : Int32)
  · rw [if_pos c2] at h
    have h := Option.some.inj h
    subst h
    exact t
  · rw [if_neg c2] at h
    have h := Option.some.inj h
    subst h
    exact t
theorem f_X12_findsOne_L40_B_fr {n : Nat} {a1 : Int32} {a2 : Int32} {a3 : Int32} {a4 : Int32} {a5 : Int32} {a6 : Int32} {q7 : Int32 → Int32 → Int32 → Int32 → hq_S → Option (Int32 × hq_S)} {q26 : Int32 → Int32 → Int32 → Int32 → Int32 → hq_S → Option (Int32 × hq_S)} {q40 : Int32 → Int32 → Int32 → Int32 → Int32 → Int32 → hq_S → Option (Int32 × hq_S)} {s : hq_S} {y : (Int32 × hq_S)} (e7 : ∀ (a1 : Int32) (a2 : Int32) (a3 : Int32) (a4 : Int32) (o5 : Option Value) (o6 : Option Value) (o7 : Option Value) (o8 : Option Value) (s : hq_S), q7 a1 a2 a3 a4 s = some y → hq_fm s y.2) (e26 : ∀ (a1 : Int32) (a2 : Int32) (a3 : Int32) (a4 : Int32) (a5 : Int32) (o6 : Option Value) (o7 : Option Value) (o8 : Option Value) (s : hq_S), q26 a1 a2 a3 a4 a5 s = some y → hq_fm s y.2) (e40 : ∀ (a1 : Int32) (a2 : Int32) (a3 : Int32) (a4 : Int32) (a5 : Int32) (a6 : Int32) (o7 : Option Value) (o8 : Option Value) (s : hq_S), q40 a1 a2 a3 a4 a5 a6 s = some y → hq_fm s y.2) (h : f_X12_findsOne_L40_B n q7 q26 q40 a1 a2 a3 a4 a5 a6 s = some y) : hq_fm s y.2 := by
  unfold f_X12_findsOne_L40_B at h
  have t := hq_fm_rf s
  by_cases c6 : a6 < (2 : Int32)
  · rw [if_pos c6] at h
    obtain ⟨z7, hz7, h⟩ := hq_bind h
    obtain ⟨z11, hz11, h⟩ := hq_bind h
    obtain ⟨z15, hz15, h⟩ := hq_bind h
    have t : hq_fm s z15.2.2 := by
      clear h
      have h := hz15
      by_cases c16 : ((a3 >>> (z7 &&& 31)) &&& (1 : Int32)) = 0
      · rw [if_pos c16] at h
        cases h
        exact t
      · rw [if_neg c16] at h
        by_cases c17 : ((a3 >>> (z11 &&& 31)) &&& (1 : Int32)) = (1 : Int32)
        · rw [if_pos c17] at h
          cases h
          exact t
        · rw [if_neg c17] at h
          obtain ⟨y18, hy18, h⟩ := hq_bind h
          have t := hq_fm_tr t (f_X12_hasRoom_fr hy18)
          by_cases c19 : y18.1 = 0
          · rw [if_pos c19] at h
            cases h
            exact t
          · rw [if_neg c19] at h
            obtain ⟨s20, hs20, h⟩ := hq_bind h
            have t := hq_fm_tr t (hq_fm_st hs20 (by first | decide | omega))
            cases h
            exact t
    exact hq_fm_tr t (e40 a1 a2 z15.1 z15.2.1 a5 (a6 + (1 : Int32)) none none z15.2.2 h)
  · rw [if_neg c6] at h
    exact hq_fm_tr t (e26 a1 a2 a3 a4 (a5 + (1 : Int32)) none none none s h)
theorem f_X12_findsOne_L40_fr {n m : Nat} {a1 : Int32} {a2 : Int32} {a3 : Int32} {a4 : Int32} {a5 : Int32} {a6 : Int32} {q7 : Int32 → Int32 → Int32 → Int32 → hq_S → Option (Int32 × hq_S)} {q26 : Int32 → Int32 → Int32 → Int32 → Int32 → hq_S → Option (Int32 × hq_S)} {s : hq_S} {y : (Int32 × hq_S)} (e7 : ∀ (a1 : Int32) (a2 : Int32) (a3 : Int32) (a4 : Int32) (o5 : Option Value) (o6 : Option Value) (o7 : Option Value) (o8 : Option Value) (s : hq_S), q7 a1 a2 a3 a4 s = some y → hq_fm s y.2) (e26 : ∀ (a1 : Int32) (a2 : Int32) (a3 : Int32) (a4 : Int32) (a5 : Int32) (o6 : Option Value) (o7 : Option Value) (o8 : Option Value) (s : hq_S), q26 a1 a2 a3 a4 a5 s = some y → hq_fm s y.2) (h : f_X12_findsOne_L40 n q7 q26 m a1 a2 a3 a4 a5 a6 s = some y) : hq_fm s y.2 := by
  induction m generalizing a1 a2 a3 a4 a5 a6 s with
  | zero => cases h
  | succ m ih => exact f_X12_findsOne_L40_B_fr (n := n) (a1 := a1) (a2 := a2) (a3 := a3) (a4 := a4) (a5 := a5) (a6 := a6) (q40 := f_X12_findsOne_L40 n q7 q26 m) e7 e26 (fun a1 a2 a3 a4 a5 a6 _ _ s h => ih h) h
theorem f_X12_findsOne_L26_B_fr {n : Nat} {a1 : Int32} {a2 : Int32} {a3 : Int32} {a4 : Int32} {a5 : Int32} {q7 : Int32 → Int32 → Int32 → Int32 → hq_S → Option (Int32 × hq_S)} {q26 : Int32 → Int32 → Int32 → Int32 → Int32 → hq_S → Option (Int32 × hq_S)} {s : hq_S} {y : (Int32 × hq_S)} (e7 : ∀ (a1 : Int32) (a2 : Int32) (a3 : Int32) (a4 : Int32) (o5 : Option Value) (o6 : Option Value) (o7 : Option Value) (o8 : Option Value) (s : hq_S), q7 a1 a2 a3 a4 s = some y → hq_fm s y.2) (e26 : ∀ (a1 : Int32) (a2 : Int32) (a3 : Int32) (a4 : Int32) (a5 : Int32) (o6 : Option Value) (o7 : Option Value) (o8 : Option Value) (s : hq_S), q26 a1 a2 a3 a4 a5 s = some y → hq_fm s y.2) (h : f_X12_findsOne_L26_B n q7 q26 a1 a2 a3 a4 a5 s = some y) : hq_fm s y.2 := by
  unfold f_X12_findsOne_L26_B at h
  have t := hq_fm_rf s
  obtain ⟨x4, hx4, h⟩ := hq_bind h
  by_cases c5 : a5 < x4
  · rw [if_pos c5] at h
    exact hq_fm_tr t (f_X12_findsOne_L40_fr e7 e26 h)
  · rw [if_neg c5] at h
    exact hq_fm_tr t (e7 a1 a2 a3 a4 none none none none s h)
theorem f_X12_findsOne_L26_fr {n m : Nat} {a1 : Int32} {a2 : Int32} {a3 : Int32} {a4 : Int32} {a5 : Int32} {q7 : Int32 → Int32 → Int32 → Int32 → hq_S → Option (Int32 × hq_S)} {s : hq_S} {y : (Int32 × hq_S)} (e7 : ∀ (a1 : Int32) (a2 : Int32) (a3 : Int32) (a4 : Int32) (o5 : Option Value) (o6 : Option Value) (o7 : Option Value) (o8 : Option Value) (s : hq_S), q7 a1 a2 a3 a4 s = some y → hq_fm s y.2) (h : f_X12_findsOne_L26 n q7 m a1 a2 a3 a4 a5 s = some y) : hq_fm s y.2 := by
  induction m generalizing a1 a2 a3 a4 a5 s with
  | zero => cases h
  | succ m ih => exact f_X12_findsOne_L26_B_fr (n := n) (a1 := a1) (a2 := a2) (a3 := a3) (a4 := a4) (a5 := a5) (q26 := f_X12_findsOne_L26 n q7 m) e7 (fun a1 a2 a3 a4 a5 _ _ _ s h => ih h) h
theorem f_X12_findsOne_L7_B_fr {n : Nat} {a1 : Int32} {a2 : Int32} {a3 : Int32} {a4 : Int32} {q7 : Int32 → Int32 → Int32 → Int32 → hq_S → Option (Int32 × hq_S)} {s : hq_S} {y : (Int32 × hq_S)} (e7 : ∀ (a1 : Int32) (a2 : Int32) (a3 : Int32) (a4 : Int32) (o5 : Option Value) (o6 : Option Value) (o7 : Option Value) (o8 : Option Value) (s : hq_S), q7 a1 a2 a3 a4 s = some y → hq_fm s y.2) (h : f_X12_findsOne_L7_B n q7 a1 a2 a3 a4 s = some y) : hq_fm s y.2 := by
  unfold f_X12_findsOne_L7_B at h
  have t := hq_fm_rf s
  by_cases c1 : a4 = 0
  · rw [if_pos c1] at h
    exact hq_fm_tr t (f_X12_findsOne_J161_fr h)
  · rw [if_neg c1] at h
    by_cases c3 : ((a3 >>> (a2 &&& 31)) &&& (1 : Int32)) = 0
    · rw [if_pos c3] at h
      exact hq_fm_tr t (f_X12_findsOne_L26_fr e7 h)
    · rw [if_neg c3] at h
      exact hq_fm_tr t (f_X12_findsOne_J161_fr h)
theorem f_X12_findsOne_L7_fr {n m : Nat} {a1 : Int32} {a2 : Int32} {a3 : Int32} {a4 : Int32} {s : hq_S} {y : (Int32 × hq_S)} (h : f_X12_findsOne_L7 n m a1 a2 a3 a4 s = some y) : hq_fm s y.2 := by
  induction m generalizing a1 a2 a3 a4 s with
  | zero => cases h
  | succ m ih => exact f_X12_findsOne_L7_B_fr (n := n) (a1 := a1) (a2 := a2) (a3 := a3) (a4 := a4) (q7 := f_X12_findsOne_L7 n m) (fun a1 a2 a3 a4 _ _ _ _ s h => ih h) h
theorem f_X12_findsOne_fr {n : Nat} {a1 : Int32} {a2 : Int32} {s : hq_S} {y : (Int32 × hq_S)} (h : f_X12_findsOne n a1 a2 s = some y) : hq_fm s y.2 := by
  unfold f_X12_findsOne at h
  have t := hq_fm_rf s
  exact hq_fm_tr t (f_X12_findsOne_L7_fr h)
theorem f_X12_wall_L66_B_fr {n : Nat} {a1 : Int32} {a2 : Int32} {a3 : Int32} {a4 : Int32} {q51 : Int32 → Int32 → Int32 → hq_S → Option (Int32 × hq_S)} {q66 : Int32 → Int32 → Int32 → Int32 → hq_S → Option (Int32 × hq_S)} {s : hq_S} {y : (Int32 × hq_S)} (e51 : ∀ (a1 : Int32) (a2 : Int32) (a3 : Int32) (o4 : Option Value) (o5 : Option Value) (o6 : Option Value) (s : hq_S), q51 a1 a2 a3 s = some y → hq_fm s y.2) (e66 : ∀ (a1 : Int32) (a2 : Int32) (a3 : Int32) (a4 : Int32) (o5 : Option Value) (o6 : Option Value) (s : hq_S), q66 a1 a2 a3 a4 s = some y → hq_fm s y.2) (h : f_X12_wall_L66_B n q51 q66 a1 a2 a3 a4 s = some y) : hq_fm s y.2 := by
  unfold f_X12_wall_L66_B at h
  have t := hq_fm_rf s
  by_cases c10 : a4 = a1
  · rw [if_pos c10] at h
    exact hq_fm_tr t (e51 a1 a2 a3 none none none s h)
  · rw [if_neg c10] at h
    obtain ⟨x11, hx11, h⟩ := hq_bind h
    obtain ⟨x12, hx12, h⟩ := hq_bind h
    obtain ⟨z13, hz13, h⟩ := hq_bind h
    obtain ⟨x15, hx15, h⟩ := hq_bind h
    obtain ⟨z16, hz16, h⟩ := hq_bind h
    obtain ⟨s18, hs18, h⟩ := hq_bind h
    have t := hq_fm_tr t (hq_fm_st hs18 (by first | decide | omega))
    obtain ⟨z19, hz19, h⟩ := hq_bind h
    exact hq_fm_tr t (e66 a1 a2 a3 z19 none none s18 h)
theorem f_X12_wall_L66_fr {n m : Nat} {a1 : Int32} {a2 : Int32} {a3 : Int32} {a4 : Int32} {q51 : Int32 → Int32 → Int32 → hq_S → Option (Int32 × hq_S)} {s : hq_S} {y : (Int32 × hq_S)} (e51 : ∀ (a1 : Int32) (a2 : Int32) (a3 : Int32) (o4 : Option Value) (o5 : Option Value) (o6 : Option Value) (s : hq_S), q51 a1 a2 a3 s = some y → hq_fm s y.2) (h : f_X12_wall_L66 n q51 m a1 a2 a3 a4 s = some y) : hq_fm s y.2 := by
  induction m generalizing a1 a2 a3 a4 s with
  | zero => cases h
  | succ m ih => exact f_X12_wall_L66_B_fr (n := n) (a1 := a1) (a2 := a2) (a3 := a3) (a4 := a4) (q66 := f_X12_wall_L66 n q51 m) e51 (fun a1 a2 a3 a4 _ _ s h => ih h) h
theorem f_X12_wall_L51_B_fr {n : Nat} {a1 : Int32} {a2 : Int32} {a3 : Int32} {q51 : Int32 → Int32 → Int32 → hq_S → Option (Int32 × hq_S)} {s : hq_S} {y : (Int32 × hq_S)} (e51 : ∀ (a1 : Int32) (a2 : Int32) (a3 : Int32) (o4 : Option Value) (o5 : Option Value) (o6 : Option Value) (s : hq_S), q51 a1 a2 a3 s = some y → hq_fm s y.2) (h : f_X12_wall_L51_B n q51 a1 a2 a3 s = some y) : hq_fm s y.2 := by
  unfold f_X12_wall_L51_B at h
  have t := hq_fm_rf s
  obtain ⟨y8, hy8, h⟩ := hq_bind h
  have t := hq_fm_tr t (f_X12_findsOne_fr hy8)
  by_cases c9 : y8.1 = 0
  · rw [if_pos c9] at h
    have h := Option.some.inj h
    subst h
    exact t
  · rw [if_neg c9] at h
    exact hq_fm_tr t (f_X12_wall_L66_fr e51 h)
theorem f_X12_wall_L51_fr {n m : Nat} {a1 : Int32} {a2 : Int32} {a3 : Int32} {s : hq_S} {y : (Int32 × hq_S)} (h : f_X12_wall_L51 n m a1 a2 a3 s = some y) : hq_fm s y.2 := by
  induction m generalizing a1 a2 a3 s with
  | zero => cases h
  | succ m ih => exact f_X12_wall_L51_B_fr (n := n) (a1 := a1) (a2 := a2) (a3 := a3) (q51 := f_X12_wall_L51 n m) (fun a1 a2 a3 _ _ _ s h => ih h) h
theorem f_X12_wall_L30_B_fr {n : Nat} {a1 : Int32} {a2 : Int32} {a3 : Int32} {q30 : Int32 → Int32 → Int32 → hq_S → Option (Int32 × hq_S)} {s : hq_S} {y : (Int32 × hq_S)} (e30 : ∀ (a1 : Int32) (a2 : Int32) (a3 : Int32) (s : hq_S), q30 a1 a2 a3 s = some y → hq_fm s y.2) (h : f_X12_wall_L30_B n q30 a1 a2 a3 s = some y) : hq_fm s y.2 := by
  unfold f_X12_wall_L30_B at h
  have t := hq_fm_rf s
  by_cases c7 : a3 < (20 : Int32)
  · rw [if_pos c7] at h
    obtain ⟨s23, hs23, h⟩ := hq_bind h
    have t := hq_fm_tr t (hq_fm_st hs23 (by first | decide | omega))
    exact hq_fm_tr t (e30 a1 a2 (a3 + (1 : Int32)) s23 h)
  · rw [if_neg c7] at h
    exact hq_fm_tr t (f_X12_wall_L51_fr h)
theorem f_X12_wall_L30_fr {n m : Nat} {a1 : Int32} {a2 : Int32} {a3 : Int32} {s : hq_S} {y : (Int32 × hq_S)} (h : f_X12_wall_L30 n m a1 a2 a3 s = some y) : hq_fm s y.2 := by
  induction m generalizing a1 a2 a3 s with
  | zero => cases h
  | succ m ih => exact f_X12_wall_L30_B_fr (n := n) (a1 := a1) (a2 := a2) (a3 := a3) (q30 := f_X12_wall_L30 n m) (fun a1 a2 a3 s h => ih h) h
theorem f_X12_wall_fr {n : Nat} {a1 : Int32} {a2 : Int32} {s : hq_S} {y : (Int32 × hq_S)} (h : f_X12_wall n a1 a2 s = some y) : hq_fm s y.2 := by
  unfold f_X12_wall at h
  have t := hq_fm_rf s
  obtain ⟨s1, hs1, h⟩ := hq_bind h
  have t := hq_fm_tr t (hq_fm_pi hs1 (by first | decide | omega))
  obtain ⟨y2, hy2, h⟩ := hq_bind h
  have t := hq_fm_tr t (f_X12_isCorner_fr hy2)
  by_cases c3 : y2.1 = 0
  · rw [if_pos c3] at h
    have h := Option.some.inj h
    subst h
    exact t
  · rw [if_neg c3] at h
    obtain ⟨y4, hy4, h⟩ := hq_bind h
    have t := hq_fm_tr t (f_X12_isCorner_fr hy4)
    by_cases c5 : y4.1 = 0
    · rw [if_pos c5] at h
      have h := Option.some.inj h
      subst h
      exact t
    · rw [if_neg c5] at h
      by_cases c6 : a1 = a2
      · rw [if_pos c6] at h
        have h := Option.some.inj h
        subst h
        exact t
      · rw [if_neg c6] at h
        exact hq_fm_tr t (f_X12_wall_L30_fr h)
theorem f_X12_common_L6_B_fr {n : Nat} {j0 : Int64} {j2 : Int64} {j4 : Int64} {j6 : Int64} {q6 : Int64 → Int64 → Int64 → Int64 → hq_S → Option (Int64 × hq_S)} {s : hq_S} {y : (Int64 × hq_S)} (e6 : ∀ (j0 : Int64) (j2 : Int64) (j4 : Int64) (j6 : Int64) (o8 : Option Value) (s : hq_S), q6 j0 j2 j4 j6 s = some y → hq_fm s y.2) (h : f_X12_common_L6_B n q6 j0 j2 j4 j6 s = some y) : hq_fm s y.2 := by
  unfold f_X12_common_L6_B at h
  have t := hq_fm_rf s
  by_cases c1 : (lg_cmp j6 (0 : Int64)) = 0
  · rw [if_pos c1] at h
    have h := Option.some.inj h
    subst h
    exact t
  · rw [if_neg c1] at h
    obtain ⟨x2, hx2, h⟩ := hq_bind h
    exact hq_fm_tr t (e6 j0 j2 j6 x2 none s h)
theorem f_X12_common_L6_fr {n m : Nat} {j0 : Int64} {j2 : Int64} {j4 : Int64} {j6 : Int64} {s : hq_S} {y : (Int64 × hq_S)} (h : f_X12_common_L6 n m j0 j2 j4 j6 s = some y) : hq_fm s y.2 := by
  induction m generalizing j0 j2 j4 j6 s with
  | zero => cases h
  | succ m ih => exact f_X12_common_L6_B_fr (n := n) (j0 := j0) (j2 := j2) (j4 := j4) (j6 := j6) (q6 := f_X12_common_L6 n m) (fun j0 j2 j4 j6 _ s h => ih h) h
theorem f_X12_common_fr {n : Nat} {j0 : Int64} {j2 : Int64} {s : hq_S} {y : (Int64 × hq_S)} (h : f_X12_common n j0 j2 s = some y) : hq_fm s y.2 := by
  unfold f_X12_common at h
  have t := hq_fm_rf s
  exact hq_fm_tr t (f_X12_common_L6_fr h)
theorem f_X12_drunk_J41_fr {n : Nat} {a1 : Int32} {a2 : Int32} {a3 : Int32} {a4 : Int32} {s : hq_S} {y : (Int64 × hq_S)} (h : f_X12_drunk_J41 n a1 a2 a3 a4 s = some y) : hq_fm s y.2 := by
  unfold f_X12_drunk_J41 at h
  have t := hq_fm_rf s
  have h := Option.some.inj h
  subst h
  exact t
theorem f_X12_drunk_L232_B_fr {n : Nat} {a1 : Int32} {a2 : Int32} {a3 : Int32} {a4 : Int32} {j5 : Int64} {a7 : Int32} {a8 : Int32} {q90 : Int32 → Int32 → Int32 → Int32 → Int64 → Int32 → hq_S → Option (Int64 × hq_S)} {q232 : Int32 → Int32 → Int32 → Int32 → Int64 → Int32 → Int32 → hq_S → Option (Int64 × hq_S)} {s : hq_S} {y : (Int64 × hq_S)} (e90 : ∀ (a1 : Int32) (a2 : Int32) (a3 : Int32) (a4 : Int32) (j5 : Int64) (a7 : Int32) (o8 : Option Value) (o9 : Option Value) (o10 : Option Value) (o12 : Option Value) (s : hq_S), q90 a1 a2 a3 a4 j5 a7 s = some y → hq_fm s y.2) (e232 : ∀ (a1 : Int32) (a2 : Int32) (a3 : Int32) (a4 : Int32) (j5 : Int64) (a7 : Int32) (a8 : Int32) (o9 : Option Value) (o10 : Option Value) (o12 : Option Value) (s : hq_S), q232 a1 a2 a3 a4 j5 a7 a8 s = some y → hq_fm s y.2) (h : f_X12_drunk_L232_B n q90 q232 a1 a2 a3 a4 j5 a7 a8 s = some y) : hq_fm s y.2 := by
  unfold f_X12_drunk_L232_B at h
  have t := hq_fm_rf s
  by_cases c22 : a8 < (10 : Int32)
  · rw [if_pos c22] at h
    obtain ⟨x23, hx23, h⟩ := hq_bind h
    obtain ⟨s24, hs24, h⟩ := hq_bind h
    have t := hq_fm_tr t (hq_fm_stj hs24 (by first | decide | omega))
    exact hq_fm_tr t (e232 a1 a2 a3 a4 j5 a7 (a8 + (1 : Int32)) none none none s24 h)
  · rw [if_neg c22] at h
    exact hq_fm_tr t (e90 a1 a2 a3 a4 j5 (a7 + (1 : Int32)) none none none none s h)
theorem f_X12_drunk_L232_fr {n m : Nat} {a1 : Int32} {a2 : Int32} {a3 : Int32} {a4 : Int32} {j5 : Int64} {a7 : Int32} {a8 : Int32} {q90 : Int32 → Int32 → Int32 → Int32 → Int64 → Int32 → hq_S → Option (Int64 × hq_S)} {s : hq_S} {y : (Int64 × hq_S)} (e90 : ∀ (a1 : Int32) (a2 : Int32) (a3 : Int32) (a4 : Int32) (j5 : Int64) (a7 : Int32) (o8 : Option Value) (o9 : Option Value) (o10 : Option Value) (o12 : Option Value) (s : hq_S), q90 a1 a2 a3 a4 j5 a7 s = some y → hq_fm s y.2) (h : f_X12_drunk_L232 n q90 m a1 a2 a3 a4 j5 a7 a8 s = some y) : hq_fm s y.2 := by
  induction m generalizing a1 a2 a3 a4 j5 a7 a8 s with
  | zero => cases h
  | succ m ih => exact f_X12_drunk_L232_B_fr (n := n) (a1 := a1) (a2 := a2) (a3 := a3) (a4 := a4) (j5 := j5) (a7 := a7) (a8 := a8) (q232 := f_X12_drunk_L232 n q90 m) e90 (fun a1 a2 a3 a4 j5 a7 a8 _ _ _ s h => ih h) h
theorem f_X12_drunk_L176_B_fr {n : Nat} {a1 : Int32} {a2 : Int32} {a3 : Int32} {a4 : Int32} {j5 : Int64} {a7 : Int32} {a8 : Int32} {a9 : Int32} {j10 : Int64} {a12 : Int32} {q90 : Int32 → Int32 → Int32 → Int32 → Int64 → Int32 → hq_S → Option (Int64 × hq_S)} {q134 : Int32 → Int32 → Int32 → Int32 → Int64 → Int32 → Int32 → hq_S → Option (Int64 × hq_S)} {q176 : Int32 → Int32 → Int32 → Int32 → Int64 → Int32 → Int32 → Int32 → Int64 → Int32 → hq_S → Option (Int64 × hq_S)} {s : hq_S} {y : (Int64 × hq_S)} (e90 : ∀ (a1 : Int32) (a2 : Int32) (a3 : Int32) (a4 : Int32) (j5 : Int64) (a7 : Int32) (o8 : Option Value) (o9 : Option Value) (o10 : Option Value) (o12 : Option Value) (s : hq_S), q90 a1 a2 a3 a4 j5 a7 s = some y → hq_fm s y.2) (e134 : ∀ (a1 : Int32) (a2 : Int32) (a3 : Int32) (a4 : Int32) (j5 : Int64) (a7 : Int32) (a8 : Int32) (o9 : Option Value) (o10 : Option Value) (o12 : Option Value) (s : hq_S), q134 a1 a2 a3 a4 j5 a7 a8 s = some y → hq_fm s y.2) (e176 : ∀ (a1 : Int32) (a2 : Int32) (a3 : Int32) (a4 : Int32) (j5 : Int64) (a7 : Int32) (a8 : Int32) (a9 : Int32) (j10 : Int64) (a12 : Int32) (s : hq_S), q176 a1 a2 a3 a4 j5 a7 a8 a9 j10 a12 s = some y → hq_fm s y.2) (h : f_X12_drunk_L176_B n q90 q134 q176 a1 a2 a3 a4 j5 a7 a8 a9 j10 a12 s = some y) : hq_fm s y.2 := by
  unfold f_X12_drunk_L176_B at h
  have t := hq_fm_rf s
  obtain ⟨x29, hx29, h⟩ := hq_bind h
  by_cases c30 : a12 < x29
  · rw [if_pos c30] at h
    obtain ⟨x31, hx31, h⟩ := hq_bind h
    obtain ⟨z32, hz32, h⟩ := hq_bind h
    obtain ⟨s34, hs34, h⟩ := hq_bind h
    have t := hq_fm_tr t (hq_fm_stj hs34 (by first | decide | omega))
    exact hq_fm_tr t (e176 a1 a2 a3 a4 j5 a7 a8 a9 j10 (a12 + (1 : Int32)) s34 h)
  · rw [if_neg c30] at h
    exact hq_fm_tr t (e134 a1 a2 a3 a4 j5 a7 (a8 + (1 : Int32)) none none none s h)
theorem f_X12_drunk_L176_fr {n m : Nat} {a1 : Int32} {a2 : Int32} {a3 : Int32} {a4 : Int32} {j5 : Int64} {a7 : Int32} {a8 : Int32} {a9 : Int32} {j10 : Int64} {a12 : Int32} {q90 : Int32 → Int32 → Int32 → Int32 → Int64 → Int32 → hq_S → Option (Int64 × hq_S)} {q134 : Int32 → Int32 → Int32 → Int32 → Int64 → Int32 → Int32 → hq_S → Option (Int64 × hq_S)} {s : hq_S} {y : (Int64 × hq_S)} (e90 : ∀ (a1 : Int32) (a2 : Int32) (a3 : Int32) (a4 : Int32) (j5 : Int64) (a7 : Int32) (o8 : Option Value) (o9 : Option Value) (o10 : Option Value) (o12 : Option Value) (s : hq_S), q90 a1 a2 a3 a4 j5 a7 s = some y → hq_fm s y.2) (e134 : ∀ (a1 : Int32) (a2 : Int32) (a3 : Int32) (a4 : Int32) (j5 : Int64) (a7 : Int32) (a8 : Int32) (o9 : Option Value) (o10 : Option Value) (o12 : Option Value) (s : hq_S), q134 a1 a2 a3 a4 j5 a7 a8 s = some y → hq_fm s y.2) (h : f_X12_drunk_L176 n q90 q134 m a1 a2 a3 a4 j5 a7 a8 a9 j10 a12 s = some y) : hq_fm s y.2 := by
  induction m generalizing a1 a2 a3 a4 j5 a7 a8 a9 j10 a12 s with
  | zero => cases h
  | succ m ih => exact f_X12_drunk_L176_B_fr (n := n) (a1 := a1) (a2 := a2) (a3 := a3) (a4 := a4) (j5 := j5) (a7 := a7) (a8 := a8) (a9 := a9) (j10 := j10) (a12 := a12) (q176 := f_X12_drunk_L176 n q90 q134 m) e90 e134 (fun a1 a2 a3 a4 j5 a7 a8 a9 j10 a12 s h => ih h) h
theorem f_X12_drunk_L134_B_fr {n : Nat} {a1 : Int32} {a2 : Int32} {a3 : Int32} {a4 : Int32} {j5 : Int64} {a7 : Int32} {a8 : Int32} {q90 : Int32 → Int32 → Int32 → Int32 → Int64 → Int32 → hq_S → Option (Int64 × hq_S)} {q134 : Int32 → Int32 → Int32 → Int32 → Int64 → Int32 → Int32 → hq_S → Option (Int64 × hq_S)} {s : hq_S} {y : (Int64 × hq_S)} (e90 : ∀ (a1 : Int32) (a2 : Int32) (a3 : Int32) (a4 : Int32) (j5 : Int64) (a7 : Int32) (o8 : Option Value) (o9 : Option Value) (o10 : Option Value) (o12 : Option Value) (s : hq_S), q90 a1 a2 a3 a4 j5 a7 s = some y → hq_fm s y.2) (e134 : ∀ (a1 : Int32) (a2 : Int32) (a3 : Int32) (a4 : Int32) (j5 : Int64) (a7 : Int32) (a8 : Int32) (o9 : Option Value) (o10 : Option Value) (o12 : Option Value) (s : hq_S), q134 a1 a2 a3 a4 j5 a7 a8 s = some y → hq_fm s y.2) (h : f_X12_drunk_L134_B n q90 q134 a1 a2 a3 a4 j5 a7 a8 s = some y) : hq_fm s y.2 := by
  unfold f_X12_drunk_L134_B at h
  have t := hq_fm_rf s
  obtain ⟨x20, hx20, h⟩ := hq_bind h
  by_cases c21 : a8 < x20
  · rw [if_pos c21] at h
    obtain ⟨y25, hy25, h⟩ := hq_bind h
    have t := hq_fm_tr t (f_X12_stayOrGo_fr hy25)
    obtain ⟨x26, hx26, h⟩ := hq_bind h
    obtain ⟨y27, hy27, h⟩ := hq_bind h
    have t := hq_fm_tr t (f_X12_bitsOf_fr hy27)
    obtain ⟨x28, hx28, h⟩ := hq_bind h
    exact hq_fm_tr t (f_X12_drunk_L176_fr e90 e134 h)
  · rw [if_neg c21] at h
    exact hq_fm_tr t (f_X12_drunk_L232_fr e90 h)
theorem f_X12_drunk_L134_fr {n m : Nat} {a1 : Int32} {a2 : Int32} {a3 : Int32} {a4 : Int32} {j5 : Int64} {a7 : Int32} {a8 : Int32} {q90 : Int32 → Int32 → Int32 → Int32 → Int64 → Int32 → hq_S → Option (Int64 × hq_S)} {s : hq_S} {y : (Int64 × hq_S)} (e90 : ∀ (a1 : Int32) (a2 : Int32) (a3 : Int32) (a4 : Int32) (j5 : Int64) (a7 : Int32) (o8 : Option Value) (o9 : Option Value) (o10 : Option Value) (o12 : Option Value) (s : hq_S), q90 a1 a2 a3 a4 j5 a7 s = some y → hq_fm s y.2) (h : f_X12_drunk_L134 n q90 m a1 a2 a3 a4 j5 a7 a8 s = some y) : hq_fm s y.2 := by
  induction m generalizing a1 a2 a3 a4 j5 a7 a8 s with
  | zero => cases h
  | succ m ih => exact f_X12_drunk_L134_B_fr (n := n) (a1 := a1) (a2 := a2) (a3 := a3) (a4 := a4) (j5 := j5) (a7 := a7) (a8 := a8) (q134 := f_X12_drunk_L134 n q90 m) e90 (fun a1 a2 a3 a4 j5 a7 a8 _ _ _ s h => ih h) h
theorem f_X12_drunk_L107_B_fr {n : Nat} {a1 : Int32} {a2 : Int32} {a3 : Int32} {a4 : Int32} {j5 : Int64} {a7 : Int32} {a8 : Int32} {q90 : Int32 → Int32 → Int32 → Int32 → Int64 → Int32 → hq_S → Option (Int64 × hq_S)} {q107 : Int32 → Int32 → Int32 → Int32 → Int64 → Int32 → Int32 → hq_S → Option (Int64 × hq_S)} {s : hq_S} {y : (Int64 × hq_S)} (e90 : ∀ (a1 : Int32) (a2 : Int32) (a3 : Int32) (a4 : Int32) (j5 : Int64) (a7 : Int32) (o8 : Option Value) (o9 : Option Value) (o10 : Option Value) (o12 : Option Value) (s : hq_S), q90 a1 a2 a3 a4 j5 a7 s = some y → hq_fm s y.2) (e107 : ∀ (a1 : Int32) (a2 : Int32) (a3 : Int32) (a4 : Int32) (j5 : Int64) (a7 : Int32) (a8 : Int32) (o9 : Option Value) (o10 : Option Value) (o12 : Option Value) (s : hq_S), q107 a1 a2 a3 a4 j5 a7 a8 s = some y → hq_fm s y.2) (h : f_X12_drunk_L107_B n q90 q107 a1 a2 a3 a4 j5 a7 a8 s = some y) : hq_fm s y.2 := by
  unfold f_X12_drunk_L107_B at h
  have t := hq_fm_rf s
  by_cases c19 : a8 < (10 : Int32)
  · rw [if_pos c19] at h
    obtain ⟨s35, hs35, h⟩ := hq_bind h
    have t := hq_fm_tr t (hq_fm_stj hs35 (by first | decide | omega))
    exact hq_fm_tr t (e107 a1 a2 a3 a4 j5 a7 (a8 + (1 : Int32)) none none none s35 h)
  · rw [if_neg c19] at h
    exact hq_fm_tr t (f_X12_drunk_L134_fr e90 h)
theorem f_X12_drunk_L107_fr {n m : Nat} {a1 : Int32} {a2 : Int32} {a3 : Int32} {a4 : Int32} {j5 : Int64} {a7 : Int32} {a8 : Int32} {q90 : Int32 → Int32 → Int32 → Int32 → Int64 → Int32 → hq_S → Option (Int64 × hq_S)} {s : hq_S} {y : (Int64 × hq_S)} (e90 : ∀ (a1 : Int32) (a2 : Int32) (a3 : Int32) (a4 : Int32) (j5 : Int64) (a7 : Int32) (o8 : Option Value) (o9 : Option Value) (o10 : Option Value) (o12 : Option Value) (s : hq_S), q90 a1 a2 a3 a4 j5 a7 s = some y → hq_fm s y.2) (h : f_X12_drunk_L107 n q90 m a1 a2 a3 a4 j5 a7 a8 s = some y) : hq_fm s y.2 := by
  induction m generalizing a1 a2 a3 a4 j5 a7 a8 s with
  | zero => cases h
  | succ m ih => exact f_X12_drunk_L107_B_fr (n := n) (a1 := a1) (a2 := a2) (a3 := a3) (a4 := a4) (j5 := j5) (a7 := a7) (a8 := a8) (q107 := f_X12_drunk_L107 n q90 m) e90 (fun a1 a2 a3 a4 j5 a7 a8 _ _ _ s h => ih h) h
theorem f_X12_drunk_L90_B_fr {n : Nat} {a1 : Int32} {a2 : Int32} {a3 : Int32} {a4 : Int32} {j5 : Int64} {a7 : Int32} {q90 : Int32 → Int32 → Int32 → Int32 → Int64 → Int32 → hq_S → Option (Int64 × hq_S)} {s : hq_S} {y : (Int64 × hq_S)} (e90 : ∀ (a1 : Int32) (a2 : Int32) (a3 : Int32) (a4 : Int32) (j5 : Int64) (a7 : Int32) (o8 : Option Value) (o9 : Option Value) (o10 : Option Value) (o12 : Option Value) (s : hq_S), q90 a1 a2 a3 a4 j5 a7 s = some y → hq_fm s y.2) (h : f_X12_drunk_L90_B n q90 a1 a2 a3 a4 j5 a7 s = some y) : hq_fm s y.2 := by
  unfold f_X12_drunk_L90_B at h
  have t := hq_fm_rf s
  by_cases c12 : a7 < a3
  · rw [if_pos c12] at h
    exact hq_fm_tr t (f_X12_drunk_L107_fr e90 h)
  · rw [if_neg c12] at h
    obtain ⟨x13, hx13, h⟩ := hq_bind h
    obtain ⟨y14, hy14, h⟩ := hq_bind h
    have t := hq_fm_tr t (f_X12_common_fr hy14)
    by_cases c15 : a4 = 0
    · rw [if_pos c15] at h
      obtain ⟨x17, hx17, h⟩ := hq_bind h
      obtain ⟨x18, hx18, h⟩ := hq_bind h
      have h := Option.some.inj h
      subst h
      exact t
    · rw [if_neg c15] at h
      obtain ⟨x16, hx16, h⟩ := hq_bind h
      have h := Option.some.inj h
      subst h
      exact t
theorem f_X12_drunk_L90_fr {n m : Nat} {a1 : Int32} {a2 : Int32} {a3 : Int32} {a4 : Int32} {j5 : Int64} {a7 : Int32} {s : hq_S} {y : (Int64 × hq_S)} (h : f_X12_drunk_L90 n m a1 a2 a3 a4 j5 a7 s = some y) : hq_fm s y.2 := by
  induction m generalizing a1 a2 a3 a4 j5 a7 s with
  | zero => cases h
  | succ m ih => exact f_X12_drunk_L90_B_fr (n := n) (a1 := a1) (a2 := a2) (a3 := a3) (a4 := a4) (j5 := j5) (a7 := a7) (q90 := f_X12_drunk_L90 n m) (fun a1 a2 a3 a4 j5 a7 _ _ _ _ s h => ih h) h
theorem f_X12_drunk_L56_B_fr {n : Nat} {a1 : Int32} {a2 : Int32} {a3 : Int32} {a4 : Int32} {j5 : Int64} {a7 : Int32} {q56 : Int32 → Int32 → Int32 → Int32 → Int64 → Int32 → hq_S → Option (Int64 × hq_S)} {s : hq_S} {y : (Int64 × hq_S)} (e56 : ∀ (a1 : Int32) (a2 : Int32) (a3 : Int32) (a4 : Int32) (j5 : Int64) (a7 : Int32) (s : hq_S), q56 a1 a2 a3 a4 j5 a7 s = some y → hq_fm s y.2) (h : f_X12_drunk_L56_B n q56 a1 a2 a3 a4 j5 a7 s = some y) : hq_fm s y.2 := by
  unfold f_X12_drunk_L56_B at h
  have t := hq_fm_rf s
  by_cases c11 : a7 < (10 : Int32)
  · rw [if_pos c11] at h
    obtain ⟨z36, hz36, h⟩ := hq_bind h
    obtain ⟨s38, hs38, h⟩ := hq_bind h
    have t := hq_fm_tr t (hq_fm_stj hs38 (by first | decide | omega))
    exact hq_fm_tr t (e56 a1 a2 a3 a4 j5 (a7 + (1 : Int32)) s38 h)
  · rw [if_neg c11] at h
    exact hq_fm_tr t (f_X12_drunk_L90_fr h)
theorem f_X12_drunk_L56_fr {n m : Nat} {a1 : Int32} {a2 : Int32} {a3 : Int32} {a4 : Int32} {j5 : Int64} {a7 : Int32} {s : hq_S} {y : (Int64 × hq_S)} (h : f_X12_drunk_L56 n m a1 a2 a3 a4 j5 a7 s = some y) : hq_fm s y.2 := by
  induction m generalizing a1 a2 a3 a4 j5 a7 s with
  | zero => cases h
  | succ m ih => exact f_X12_drunk_L56_B_fr (n := n) (a1 := a1) (a2 := a2) (a3 := a3) (a4 := a4) (j5 := j5) (a7 := a7) (q56 := f_X12_drunk_L56 n m) (fun a1 a2 a3 a4 j5 a7 s h => ih h) h
theorem f_X12_drunk_fr {n : Nat} {a1 : Int32} {a2 : Int32} {a3 : Int32} {a4 : Int32} {s : hq_S} {y : (Int64 × hq_S)} (h : f_X12_drunk n a1 a2 a3 a4 s = some y) : hq_fm s y.2 := by
  unfold f_X12_drunk at h
  have t := hq_fm_rf s
  obtain ⟨s1, hs1, h⟩ := hq_bind h
  have t := hq_fm_tr t (hq_fm_pi hs1 (by first | decide | omega))
  obtain ⟨y2, hy2, h⟩ := hq_bind h
  have t := hq_fm_tr t (f_X12_isCorner_fr hy2)
  by_cases c3 : y2.1 = 0
  · rw [if_pos c3] at h
    exact hq_fm_tr t (f_X12_drunk_J41_fr h)
  · rw [if_neg c3] at h
    obtain ⟨y4, hy4, h⟩ := hq_bind h
    have t := hq_fm_tr t (f_X12_isCorner_fr hy4)
    by_cases c5 : y4.1 = 0
    · rw [if_pos c5] at h
      exact hq_fm_tr t (f_X12_drunk_J41_fr h)
    · rw [if_neg c5] at h
      by_cases c6 : a3 < 0
      · rw [if_pos c6] at h
        exact hq_fm_tr t (f_X12_drunk_J41_fr h)
      · rw [if_neg c6] at h
        by_cases c7 : (4 : Int32) < a3
        · rw [if_pos c7] at h
          exact hq_fm_tr t (f_X12_drunk_J41_fr h)
        · rw [if_neg c7] at h
          by_cases c8 : a4 < 0
          · rw [if_pos c8] at h
            exact hq_fm_tr t (f_X12_drunk_J41_fr h)
          · rw [if_neg c8] at h
            by_cases c9 : (1 : Int32) < a4
            · rw [if_pos c9] at h
              exact hq_fm_tr t (f_X12_drunk_J41_fr h)
            · rw [if_neg c9] at h
              obtain ⟨s10, hs10, h⟩ := hq_bind h
              have t := hq_fm_tr t (f_X12_lays_fr hs10)
              exact hq_fm_tr t (f_X12_drunk_L56_fr h)
theorem f_X12_matches_L80_B_fr {n : Nat} {R0 : Int32 → Int32 → Int32 → Int32 → hq_S → Option hq_S} {a1 : Int32} {a2 : Int32} {a3 : Int32} {a4 : Int32} {a5 : Int32} {q80 : Int32 → Int32 → Int32 → Int32 → Int32 → hq_S → Option hq_S} {s : hq_S} {y : hq_S} (E0 : ∀ (a1 : Int32) (a2 : Int32) (a3 : Int32) (a4 : Int32) (s : hq_S) (y : hq_S), R0 a1 a2 a3 a4 s = some y → hq_fm s y) (e80 : ∀ (a1 : Int32) (a2 : Int32) (a3 : Int32) (a4 : Int32) (a5 : Int32) (s : hq_S), q80 a1 a2 a3 a4 a5 s = some y → hq_fm s y) (h : f_X12_matches_L80_B n R0 q80 a1 a2 a3 a4 a5 s = some y) : hq_fm s y := by
  unfold f_X12_matches_L80_B at h
  have t := hq_fm_rf s
  obtain ⟨x3, hx3, h⟩ := hq_bind h
  by_cases c4 : a5 < x3
  · rw [if_pos c4] at h
    obtain ⟨z7, hz7, h⟩ := hq_bind h
    have t : hq_fm s z7 := by
      clear h
      have h := hz7
      by_cases c8 : ((a2 >>> (a5 &&& 31)) &&& (1 : Int32)) = (1 : Int32)
      · rw [if_pos c8] at h
        cases h
        exact t
      · rw [if_neg c8] at h
        obtain ⟨y9, hy9, h⟩ := hq_bind h
        have t := hq_fm_tr t (f_X12_isFree_fr hy9)
        by_cases c10 : y9.1 = 0
        · rw [if_pos c10] at h
          cases h
          exact t
        · rw [if_neg c10] at h
          obtain ⟨s11, hs11, h⟩ := hq_bind h
          have t := hq_fm_tr t (hq_fm_st hs11 (by first | decide | omega))
          obtain ⟨x12, hx12, h⟩ := hq_bind h
          obtain ⟨x13, hx13, h⟩ := hq_bind h
          obtain ⟨x14, hx14, h⟩ := hq_bind h
          obtain ⟨s15, hs15, h⟩ := hq_bind h
          have t := hq_fm_tr t (E0 (a1 + (1 : Int32)) (a2 ||| ((1 : Int32) <<< (a5 &&& 31))) (a3 + (1 : Int32)) (a4 + x14) _ _ hs15)
          cases h
          exact t
    exact hq_fm_tr t (e80 a1 a2 a3 a4 (a5 + (1 : Int32)) z7 h)
  · rw [if_neg c4] at h
    obtain ⟨s5, hs5, h⟩ := hq_bind h
    have t := hq_fm_tr t (hq_fm_st hs5 (by first | decide | omega))
    obtain ⟨s6, hs6, h⟩ := hq_bind h
    have t := hq_fm_tr t (E0 (a1 + (1 : Int32)) a2 a3 a4 _ _ hs6)
    have h := Option.some.inj h
    subst h
    exact t
theorem f_X12_matches_L80_fr {n m : Nat} {R0 : Int32 → Int32 → Int32 → Int32 → hq_S → Option hq_S} {a1 : Int32} {a2 : Int32} {a3 : Int32} {a4 : Int32} {a5 : Int32} {s : hq_S} {y : hq_S} (E0 : ∀ (a1 : Int32) (a2 : Int32) (a3 : Int32) (a4 : Int32) (s : hq_S) (y : hq_S), R0 a1 a2 a3 a4 s = some y → hq_fm s y) (h : f_X12_matches_L80 n R0 m a1 a2 a3 a4 a5 s = some y) : hq_fm s y := by
  induction m generalizing a1 a2 a3 a4 a5 s with
  | zero => cases h
  | succ m ih => exact f_X12_matches_L80_B_fr (n := n) (a1 := a1) (a2 := a2) (a3 := a3) (a4 := a4) (a5 := a5) (q80 := f_X12_matches_L80 n R0 m) E0 (fun a1 a2 a3 a4 a5 s h => ih h) h
theorem f_X12_matches_L50_B_fr {n : Nat} {R0 : Int32 → Int32 → Int32 → Int32 → hq_S → Option hq_S} {a1 : Int32} {a2 : Int32} {a3 : Int32} {a4 : Int32} {a5 : Int32} {q50 : Int32 → Int32 → Int32 → Int32 → Int32 → hq_S → Option hq_S} {s : hq_S} {y : hq_S} (E0 : ∀ (a1 : Int32) (a2 : Int32) (a3 : Int32) (a4 : Int32) (s : hq_S) (y : hq_S), R0 a1 a2 a3 a4 s = some y → hq_fm s y) (e50 : ∀ (a1 : Int32) (a2 : Int32) (a3 : Int32) (a4 : Int32) (a5 : Int32) (s : hq_S), q50 a1 a2 a3 a4 a5 s = some y → hq_fm s y) (h : f_X12_matches_L50_B n R0 q50 a1 a2 a3 a4 a5 s = some y) : hq_fm s y := by
  unfold f_X12_matches_L50_B at h
  have t := hq_fm_rf s
  by_cases c20 : a5 < a1
  · rw [if_pos c20] at h
    obtain ⟨x21, hx21, h⟩ := hq_bind h
    obtain ⟨s22, hs22, h⟩ := hq_bind h
    have t := hq_fm_tr t (hq_fm_st hs22 (by first | decide | omega))
    exact hq_fm_tr t (e50 a1 a2 a3 a4 (a5 + (1 : Int32)) s22 h)
  · rw [if_neg c20] at h
    have h := Option.some.inj h
    subst h
    exact t
theorem f_X12_matches_L50_fr {n m : Nat} {R0 : Int32 → Int32 → Int32 → Int32 → hq_S → Option hq_S} {a1 : Int32} {a2 : Int32} {a3 : Int32} {a4 : Int32} {a5 : Int32} {s : hq_S} {y : hq_S} (E0 : ∀ (a1 : Int32) (a2 : Int32) (a3 : Int32) (a4 : Int32) (s : hq_S) (y : hq_S), R0 a1 a2 a3 a4 s = some y → hq_fm s y) (h : f_X12_matches_L50 n R0 m a1 a2 a3 a4 a5 s = some y) : hq_fm s y := by
  induction m generalizing a1 a2 a3 a4 a5 s with
  | zero => cases h
  | succ m ih => exact f_X12_matches_L50_B_fr (n := n) (a1 := a1) (a2 := a2) (a3 := a3) (a4 := a4) (a5 := a5) (q50 := f_X12_matches_L50 n R0 m) E0 (fun a1 a2 a3 a4 a5 s h => ih h) h
theorem f_X12_matches_J36_fr {n : Nat} {R0 : Int32 → Int32 → Int32 → Int32 → hq_S → Option hq_S} {a1 : Int32} {a2 : Int32} {a3 : Int32} {a4 : Int32} {s : hq_S} {y : hq_S} (E0 : ∀ (a1 : Int32) (a2 : Int32) (a3 : Int32) (a4 : Int32) (s : hq_S) (y : hq_S), R0 a1 a2 a3 a4 s = some y → hq_fm s y) (h : f_X12_matches_J36 n R0 a1 a2 a3 a4 s = some y) : hq_fm s y := by
  unfold f_X12_matches_J36 at h
  have t := hq_fm_rf s
  obtain ⟨s18, hs18, h⟩ := hq_bind h
  have t := hq_fm_tr t (hq_fm_pi hs18 (by first | decide | omega))
  obtain ⟨s19, hs19, h⟩ := hq_bind h
  have t := hq_fm_tr t (hq_fm_pi hs19 (by first | decide | omega))
  exact hq_fm_tr t (f_X12_matches_L50_fr E0 h)
theorem f_X12_matches_S_fr {n : Nat} {R0 : Int32 → Int32 → Int32 → Int32 → hq_S → Option hq_S} {a1 : Int32} {a2 : Int32} {a3 : Int32} {a4 : Int32} {s : hq_S} {y : hq_S} (E0 : ∀ (a1 : Int32) (a2 : Int32) (a3 : Int32) (a4 : Int32) (s : hq_S) (y : hq_S), R0 a1 a2 a3 a4 s = some y → hq_fm s y) (h : f_X12_matches_S n R0 a1 a2 a3 a4 s = some y) : hq_fm s y := by
  unfold f_X12_matches_S at h
  have t := hq_fm_rf s
  obtain ⟨x1, hx1, h⟩ := hq_bind h
  by_cases c2 : a1 = x1
  · rw [if_pos c2] at h
    by_cases c16 : a3 < (hq_gi s 174 72)
    · rw [if_pos c16] at h
      have h := Option.some.inj h
      subst h
      exact t
    · rw [if_neg c16] at h
      by_cases c17 : a3 = (hq_gi s 174 72)
      · rw [if_pos c17] at h
        by_cases c23 : a4 < (hq_gi s 174 73)
        · rw [if_pos c23] at h
          exact hq_fm_tr t (f_X12_matches_J36_fr E0 h)
        · rw [if_neg c23] at h
          have h := Option.some.inj h
          subst h
          exact t
      · rw [if_neg c17] at h
        exact hq_fm_tr t (f_X12_matches_J36_fr E0 h)
  · rw [if_neg c2] at h
    exact hq_fm_tr t (f_X12_matches_L80_fr E0 h)
theorem f_X12_matches_G_fr {n : Nat} : ∀ k : Nat, (∀ (a1 : Int32) (a2 : Int32) (a3 : Int32) (a4 : Int32) (s : hq_S) (y : hq_S), f_X12_matches_G n k 0 a1 a2 a3 a4 s = some y → hq_fm s y) := by
  intro k
  induction k with
  | zero =>
    all_goals
      intros
      next h => cases h
  | succ k ih =>
    have I0 := ih
    · intro a1 a2 a3 a4 s y h
      exact f_X12_matches_S_fr I0 h
theorem f_X12_matches_fr {n : Nat} {a1 : Int32} {a2 : Int32} {a3 : Int32} {a4 : Int32} {s : hq_S} {y : hq_S} (h : f_X12_matches n a1 a2 a3 a4 s = some y) : hq_fm s y := (f_X12_matches_G_fr 10) a1 a2 a3 a4 s y h
theorem f_X12_match_fr {n : Nat} {a1 : Int32} {s : hq_S} {y : (Int32 × hq_S)} (h : f_X12_match n a1 s = some y) : hq_fm s y.2 := by
  unfold f_X12_match at h
  have t := hq_fm_rf s
  obtain ⟨s1, hs1, h⟩ := hq_bind h
  have t := hq_fm_tr t (hq_fm_pi hs1 (by first | decide | omega))
  by_cases c2 : a1 < 0
  · rw [if_pos c2] at h
    have h := Option.some.inj h
    subst h
    exact t
  · rw [if_neg c2] at h
    by_cases c3 : (4 : Int32) < a1
    · rw [if_pos c3] at h
      have h := Option.some.inj h
      subst h
      exact t
    · rw [if_neg c3] at h
      obtain ⟨s4, hs4, h⟩ := hq_bind h
      have t := hq_fm_tr t (f_X12_lays_fr hs4)
      obtain ⟨s5, hs5, h⟩ := hq_bind h
      have t := hq_fm_tr t (hq_fm_pi hs5 (by first | decide | omega))
      obtain ⟨s6, hs6, h⟩ := hq_bind h
      have t := hq_fm_tr t (hq_fm_pi hs6 (by first | decide | omega))
      obtain ⟨s7, hs7, h⟩ := hq_bind h
      have t := hq_fm_tr t (f_X12_matches_fr hs7)
      by_cases c8 : a1 = (3 : Int32)
      · rw [if_pos c8] at h
        have h := Option.some.inj h
        subst h
        exact t
      · rw [if_neg c8] at h
        by_cases c9 : a1 = (4 : Int32)
        · rw [if_pos c9] at h
          have h := Option.some.inj h
          subst h
          exact t
        · rw [if_neg c9] at h
          obtain ⟨x10, hx10, h⟩ := hq_bind h
          by_cases c11 : a1 < x10
          · rw [if_pos c11] at h
            obtain ⟨x12, hx12, h⟩ := hq_bind h
            have h := Option.some.inj h
            subst h
            exact t
          · rw [if_neg c11] at h
            have h := Option.some.inj h
            subst h
            exact t
theorem f_X12_hasOf_fr {n : Nat} {a1 : Int32} {a2 : Int32} {a3 : Int32} {a4 : Int32} {s : hq_S} {y : (Int32 × hq_S)} (h : f_X12_hasOf n a1 a2 a3 a4 s = some y) : hq_fm s y.2 := by
  unfold f_X12_hasOf at h
  have t := hq_fm_rf s
  by_cases c1 : a3 = 0
  · rw [if_pos c1] at h
    by_cases c6 : a4 = 0
    · rw [if_pos c6] at h
      obtain ⟨x7, hx7, h⟩ := hq_bind h
      obtain ⟨x8, hx8, h⟩ := hq_bind h
      have h := Option.some.inj h
      subst h
      exact t
    · rw [if_neg c6] at h
      have h := Option.some.inj h
      subst h
      exact t
  · rw [if_neg c1] at h
    by_cases c2 : a4 = 0
    · rw [if_pos c2] at h
      have h := Option.some.inj h
      subst h
      exact t
    · rw [if_neg c2] at h
      obtain ⟨x3, hx3, h⟩ := hq_bind h
      obtain ⟨x4, hx4, h⟩ := hq_bind h
      obtain ⟨x5, hx5, h⟩ := hq_bind h
      have h := Option.some.inj h
      subst h
      exact t
theorem f_X12_isRest_fr {n : Nat} {a1 : Int32} {a2 : Int32} {a3 : Int32} {s : hq_S} {y : (Int32 × hq_S)} (h : f_X12_isRest n a1 a2 a3 s = some y) : hq_fm s y.2 := by
  unfold f_X12_isRest at h
  have t := hq_fm_rf s
  obtain ⟨x1, hx1, h⟩ := hq_bind h
  obtain ⟨x2, hx2, h⟩ := hq_bind h
  obtain ⟨y3, hy3, h⟩ := hq_bind h
  have t := hq_fm_tr t (f_X12_hasOf_fr hy3)
  obtain ⟨y4, hy4, h⟩ := hq_bind h
  have t := hq_fm_tr t (f_X12_hasOf_fr hy4)
  by_cases c5 : y4.1 < y3.1
  · rw [if_pos c5] at h
    have h := Option.some.inj h
    subst h
    exact t
  · rw [if_neg c5] at h
    obtain ⟨y6, hy6, h⟩ := hq_bind h
    have t := hq_fm_tr t (f_X12_hasOf_fr hy6)
    obtain ⟨y7, hy7, h⟩ := hq_bind h
    have t := hq_fm_tr t (f_X12_hasOf_fr hy7)
    by_cases c8 : y7.1 < y6.1
    · rw [if_pos c8] at h
      have h := Option.some.inj h
      subst h
      exact t
    · rw [if_neg c8] at h
      have h := Option.some.inj h
      subst h
      exact t
theorem f_X12_restOf_J48_fr {n : Nat} {a1 : Int32} {a2 : Int32} {a3 : Int32} {a4 : Int32} {a5 : Int32} {q6 : Int32 → Int32 → Int32 → Int32 → Int32 → hq_S → Option (Int32 × hq_S)} {s : hq_S} {y : (Int32 × hq_S)} (e6 : ∀ (a1 : Int32) (a2 : Int32) (a3 : Int32) (a4 : Int32) (a5 : Int32) (s : hq_S), q6 a1 a2 a3 a4 a5 s = some y → hq_fm s y.2) (h : f_X12_restOf_J48 n q6 a1 a2 a3 a4 a5 s = some y) : hq_fm s y.2 := by
  unfold f_X12_restOf_J48 at h
  have t := hq_fm_rf s
  exact hq_fm_tr t (e6 a1 a2 a3 a4 (a5 + (1 : Int32)) s h)
theorem f_X12_restOf_L6_B_fr {n : Nat} {a1 : Int32} {a2 : Int32} {a3 : Int32} {a4 : Int32} {a5 : Int32} {q6 : Int32 → Int32 → Int32 → Int32 → Int32 → hq_S → Option (Int32 × hq_S)} {s : hq_S} {y : (Int32 × hq_S)} (e6 : ∀ (a1 : Int32) (a2 : Int32) (a3 : Int32) (a4 : Int32) (a5 : Int32) (s : hq_S), q6 a1 a2 a3 a4 a5 s = some y → hq_fm s y.2) (h : f_X12_restOf_L6_B n q6 a1 a2 a3 a4 a5 s = some y) : hq_fm s y.2 := by
  unfold f_X12_restOf_L6_B at h
  have t := hq_fm_rf s
  by_cases c1 : a5 < (4 : Int32)
  · rw [if_pos c1] at h
    obtain ⟨y3, hy3, h⟩ := hq_bind h
    have t := hq_fm_tr t (f_X12_isRest_fr hy3)
    by_cases c4 : y3.1 = 0
    · rw [if_pos c4] at h
      exact hq_fm_tr t (f_X12_restOf_J48_fr e6 h)
    · rw [if_neg c4] at h
      by_cases c5 : a4 = a3
      · rw [if_pos c5] at h
        obtain ⟨x6, hx6, h⟩ := hq_bind h
        obtain ⟨x7, hx7, h⟩ := hq_bind h
        have h := Option.some.inj h
        subst h
        exact t
      · rw [if_neg c5] at h
        exact hq_fm_tr t (f_X12_restOf_J48_fr e6 h)
  · rw [if_neg c1] at h
    by_cases c2 : a3 = (-1 : Int32)
    · rw [if_pos c2] at h
      have h := Option.some.inj h
      subst h
      exact t
    · rw [if_neg c2] at h
      have h := Option.some.inj h
      subst h
      exact t
theorem f_X12_restOf_L6_fr {n m : Nat} {a1 : Int32} {a2 : Int32} {a3 : Int32} {a4 : Int32} {a5 : Int32} {s : hq_S} {y : (Int32 × hq_S)} (h : f_X12_restOf_L6 n m a1 a2 a3 a4 a5 s = some y) : hq_fm s y.2 := by
  induction m generalizing a1 a2 a3 a4 a5 s with
  | zero => cases h
  | succ m ih => exact f_X12_restOf_L6_B_fr (n := n) (a1 := a1) (a2 := a2) (a3 := a3) (a4 := a4) (a5 := a5) (q6 := f_X12_restOf_L6 n m) (fun a1 a2 a3 a4 a5 s h => ih h) h
theorem f_X12_restOf_fr {n : Nat} {a1 : Int32} {a2 : Int32} {a3 : Int32} {s : hq_S} {y : (Int32 × hq_S)} (h : f_X12_restOf n a1 a2 a3 s = some y) : hq_fm s y.2 := by
  unfold f_X12_restOf at h
  have t := hq_fm_rf s
  exact hq_fm_tr t (f_X12_restOf_L6_fr h)
theorem f_X12_areTwo_fr {n : Nat} {a1 : Int32} {a2 : Int32} {s : hq_S} {y : (Int32 × hq_S)} (h : f_X12_areTwo n a1 a2 s = some y) : hq_fm s y.2 := by
  unfold f_X12_areTwo at h
  have t := hq_fm_rf s
  obtain ⟨y1, hy1, h⟩ := hq_bind h
  have t := hq_fm_tr t (f_X12_isThief_fr hy1)
  by_cases c2 : y1.1 = 0
  · rw [if_pos c2] at h
    have h := Option.some.inj h
    subst h
    exact t
  · rw [if_neg c2] at h
    obtain ⟨y3, hy3, h⟩ := hq_bind h
    have t := hq_fm_tr t (f_X12_isThief_fr hy3)
    by_cases c4 : y3.1 = 0
    · rw [if_pos c4] at h
      have h := Option.some.inj h
      subst h
      exact t
    · rw [if_neg c4] at h
      by_cases c5 : a1 = a2
      · rw [if_pos c5] at h
        have h := Option.some.inj h
        subst h
        exact t
      · rw [if_neg c5] at h
        have h := Option.some.inj h
        subst h
        exact t
theorem f_X12_rests_fr {n : Nat} {a1 : Int32} {a2 : Int32} {s : hq_S} {y : (Int32 × hq_S)} (h : f_X12_rests n a1 a2 s = some y) : hq_fm s y.2 := by
  unfold f_X12_rests at h
  have t := hq_fm_rf s
  obtain ⟨s1, hs1, h⟩ := hq_bind h
  have t := hq_fm_tr t (hq_fm_pi hs1 (by first | decide | omega))
  obtain ⟨y2, hy2, h⟩ := hq_bind h
  have t := hq_fm_tr t (f_X12_areTwo_fr hy2)
  by_cases c3 : y2.1 = 0
  · rw [if_pos c3] at h
    have h := Option.some.inj h
    subst h
    exact t
  · rw [if_neg c3] at h
    obtain ⟨y4, hy4, h⟩ := hq_bind h
    have t := hq_fm_tr t (f_X12_restOf_fr hy4)
    have h := Option.some.inj h
    subst h
    exact t
theorem f_X12_rest_fr {n : Nat} {a1 : Int32} {a2 : Int32} {a3 : Int32} {s : hq_S} {y : (Int32 × hq_S)} (h : f_X12_rest n a1 a2 a3 s = some y) : hq_fm s y.2 := by
  unfold f_X12_rest at h
  have t := hq_fm_rf s
  obtain ⟨s1, hs1, h⟩ := hq_bind h
  have t := hq_fm_tr t (hq_fm_pi hs1 (by first | decide | omega))
  obtain ⟨y2, hy2, h⟩ := hq_bind h
  have t := hq_fm_tr t (f_X12_areTwo_fr hy2)
  by_cases c3 : y2.1 = 0
  · rw [if_pos c3] at h
    have h := Option.some.inj h
    subst h
    exact t
  · rw [if_neg c3] at h
    by_cases c4 : a3 < 0
    · rw [if_pos c4] at h
      have h := Option.some.inj h
      subst h
      exact t
    · rw [if_neg c4] at h
      obtain ⟨y5, hy5, h⟩ := hq_bind h
      have t := hq_fm_tr t (f_X12_restOf_fr hy5)
      have h := Option.some.inj h
      subst h
      exact t
theorem f_X12_holds_J24_fr {n : Nat} {a1 : Int32} {a2 : Int32} {s : hq_S} {y : (Int64 × hq_S)} (h : f_X12_holds_J24 n a1 a2 s = some y) : hq_fm s y.2 := by
  unfold f_X12_holds_J24 at h
  have t := hq_fm_rf s
  have h := Option.some.inj h
  subst h
  exact t
theorem f_X12_holds_L36_B_fr {n : Nat} {a1 : Int32} {a2 : Int32} {j3 : Int64} {j5 : Int64} {a7 : Int32} {q36 : Int32 → Int32 → Int64 → Int64 → Int32 → hq_S → Option (Int64 × hq_S)} {s : hq_S} {y : (Int64 × hq_S)} (e36 : ∀ (a1 : Int32) (a2 : Int32) (j3 : Int64) (j5 : Int64) (a7 : Int32) (s : hq_S), q36 a1 a2 j3 j5 a7 s = some y → hq_fm s y.2) (h : f_X12_holds_L36_B n q36 a1 a2 j3 j5 a7 s = some y) : hq_fm s y.2 := by
  unfold f_X12_holds_L36_B at h
  have t := hq_fm_rf s
  by_cases c6 : a7 < a1
  · rw [if_pos c6] at h
    obtain ⟨x11, hx11, h⟩ := hq_bind h
    exact hq_fm_tr t (e36 a1 a2 (j3 * x11.toInt64) (j5 * (100 : Int64)) (a7 + (1 : Int32)) s h)
  · rw [if_neg c6] at h
    obtain ⟨y7, hy7, h⟩ := hq_bind h
    have t := hq_fm_tr t (f_X12_common_fr hy7)
    by_cases c8 : a2 = 0
    · rw [if_pos c8] at h
      obtain ⟨x10, hx10, h⟩ := hq_bind h
      have h := Option.some.inj h
      subst h
      exact t
    · rw [if_neg c8] at h
      obtain ⟨x9, hx9, h⟩ := hq_bind h
      have h := Option.some.inj h
      subst h
      exact t
theorem f_X12_holds_L36_fr {n m : Nat} {a1 : Int32} {a2 : Int32} {j3 : Int64} {j5 : Int64} {a7 : Int32} {s : hq_S} {y : (Int64 × hq_S)} (h : f_X12_holds_L36 n m a1 a2 j3 j5 a7 s = some y) : hq_fm s y.2 := by
  induction m generalizing a1 a2 j3 j5 a7 s with
  | zero => cases h
  | succ m ih => exact f_X12_holds_L36_B_fr (n := n) (a1 := a1) (a2 := a2) (j3 := j3) (j5 := j5) (a7 := a7) (q36 := f_X12_holds_L36 n m) (fun a1 a2 j3 j5 a7 s h => ih h) h
theorem f_X12_holds_fr {n : Nat} {a1 : Int32} {a2 : Int32} {s : hq_S} {y : (Int64 × hq_S)} (h : f_X12_holds n a1 a2 s = some y) : hq_fm s y.2 := by
  unfold f_X12_holds at h
  have t := hq_fm_rf s
  obtain ⟨s1, hs1, h⟩ := hq_bind h
  have t := hq_fm_tr t (hq_fm_pi hs1 (by first | decide | omega))
  by_cases c2 : a1 < 0
  · rw [if_pos c2] at h
    exact hq_fm_tr t (f_X12_holds_J24_fr h)
  · rw [if_neg c2] at h
    by_cases c3 : (6 : Int32) < a1
    · rw [if_pos c3] at h
      exact hq_fm_tr t (f_X12_holds_J24_fr h)
    · rw [if_neg c3] at h
      by_cases c4 : a2 < 0
      · rw [if_pos c4] at h
        exact hq_fm_tr t (f_X12_holds_J24_fr h)
      · rw [if_neg c4] at h
        by_cases c5 : (1 : Int32) < a2
        · rw [if_pos c5] at h
          exact hq_fm_tr t (f_X12_holds_J24_fr h)
        · rw [if_neg c5] at h
          exact hq_fm_tr t (f_X12_holds_L36_fr h)
theorem f_X12_see_fr {n : Nat} {a1 : Int32} {a2 : Int32} {a3 : Int32} {a4 : Int32} {s : hq_S} {y : (Int32 × hq_S)} (h : f_X12_see n a1 a2 a3 a4 s = some y) : hq_fm s y.2 := by
  unfold f_X12_see at h
  have t := hq_fm_rf s
  obtain ⟨s1, hs1, h⟩ := hq_bind h
  have t := hq_fm_tr t (hq_fm_pi hs1 (by first | decide | omega))
  by_cases c2 : a1 < (1 : Int32)
  · rw [if_pos c2] at h
    have h := Option.some.inj h
    subst h
    exact t
  · rw [if_neg c2] at h
    by_cases c3 : (60 : Int32) < a1
    · rw [if_pos c3] at h
      have h := Option.some.inj h
      subst h
      exact t
    · rw [if_neg c3] at h
      obtain ⟨y4, hy4, h⟩ := hq_bind h
      have t := hq_fm_tr t (f_X12_isThief_fr hy4)
      by_cases c5 : y4.1 = 0
      · rw [if_pos c5] at h
        have h := Option.some.inj h
        subst h
        exact t
      · rw [if_neg c5] at h
        obtain ⟨y6, hy6, h⟩ := hq_bind h
        have t := hq_fm_tr t (f_X12_isCorner_fr hy6)
        by_cases c7 : y6.1 = 0
        · rw [if_pos c7] at h
          have h := Option.some.inj h
          subst h
          exact t
        · rw [if_neg c7] at h
          by_cases c8 : (hq_gi y6.2 174 74) = (24 : Int32)
          · rw [if_pos c8] at h
            have h := Option.some.inj h
            subst h
            exact t
          · rw [if_neg c8] at h
            obtain ⟨s9, hs9, h⟩ := hq_bind h
            have t := hq_fm_tr t (hq_fm_st hs9 (by first | decide | omega))
            obtain ⟨s10, hs10, h⟩ := hq_bind h
            have t := hq_fm_tr t (hq_fm_st hs10 (by first | decide | omega))
            obtain ⟨s11, hs11, h⟩ := hq_bind h
            have t := hq_fm_tr t (hq_fm_st hs11 (by first | decide | omega))
            obtain ⟨s12, hs12, h⟩ := hq_bind h
            have t := hq_fm_tr t (hq_fm_st hs12 (by first | decide | omega))
            obtain ⟨s13, hs13, h⟩ := hq_bind h
            have t := hq_fm_tr t (hq_fm_st hs13 (by first | decide | omega))
            obtain ⟨s14, hs14, h⟩ := hq_bind h
            have t := hq_fm_tr t (hq_fm_pi hs14 (by first | decide | omega))
            have h := Option.some.inj h
            subst h
            exact t
theorem f_X12_strike_fr {n : Nat} {a1 : Int32} {s : hq_S} {y : (Int32 × hq_S)} (h : f_X12_strike n a1 s = some y) : hq_fm s y.2 := by
  unfold f_X12_strike at h
  have t := hq_fm_rf s
  obtain ⟨s1, hs1, h⟩ := hq_bind h
  have t := hq_fm_tr t (hq_fm_pi hs1 (by first | decide | omega))
  by_cases c2 : a1 < 0
  · rw [if_pos c2] at h
    have h := Option.some.inj h
    subst h
    exact t
  · rw [if_neg c2] at h
    by_cases c3 : a1 < (hq_gi s1 174 74)
    · rw [if_pos c3] at h
      by_cases c4 : (hq_gi s1 174 74) = (24 : Int32)
      · rw [if_pos c4] at h
        have h := Option.some.inj h
        subst h
        exact t
      · rw [if_neg c4] at h
        obtain ⟨s5, hs5, h⟩ := hq_bind h
        have t := hq_fm_tr t (hq_fm_st hs5 (by first | decide | omega))
        obtain ⟨s6, hs6, h⟩ := hq_bind h
        have t := hq_fm_tr t (hq_fm_pi hs6 (by first | decide | omega))
        have h := Option.some.inj h
        subst h
        exact t
    · rw [if_neg c3] at h
      have h := Option.some.inj h
      subst h
      exact t
theorem f_X12_known_fr {n : Nat} {a1 : Int32} {s : hq_S} {y : (Int32 × hq_S)} (h : f_X12_known n a1 s = some y) : hq_fm s y.2 := by
  unfold f_X12_known at h
  have t := hq_fm_rf s
  obtain ⟨s1, hs1, h⟩ := hq_bind h
  have t := hq_fm_tr t (hq_fm_pi hs1 (by first | decide | omega))
  by_cases c2 : a1 < (-1 : Int32)
  · rw [if_pos c2] at h
    have h := Option.some.inj h
    subst h
    exact t
  · rw [if_neg c2] at h
    by_cases c3 : (hq_gi s1 174 74) < a1
    · rw [if_pos c3] at h
      have h := Option.some.inj h
      subst h
      exact t
    · rw [if_neg c3] at h
      obtain ⟨s4, hs4, h⟩ := hq_bind h
      have t := hq_fm_tr t (hq_fm_pi hs4 (by first | decide | omega))
      have h := Option.some.inj h
      subst h
      exact t
theorem f_X12_knownMany_fr {n : Nat} {s : hq_S} {y : (Int32 × hq_S)} (h : f_X12_knownMany n s = some y) : hq_fm s y.2 := by
  unfold f_X12_knownMany at h
  have t := hq_fm_rf s
  by_cases c1 : (hq_gi s 174 75) = (-1 : Int32)
  · rw [if_pos c1] at h
    have h := Option.some.inj h
    subst h
    exact t
  · rw [if_neg c1] at h
    have h := Option.some.inj h
    subst h
    exact t
theorem f_X12_isSo_J80_fr {n : Nat} {a1 : Int32} {a2 : Int32} {q2 : Int32 → Int32 → hq_S → Option (Int32 × hq_S)} {s : hq_S} {y : (Int32 × hq_S)} (e2 : ∀ (a1 : Int32) (a2 : Int32) (s : hq_S), q2 a1 a2 s = some y → hq_fm s y.2) (h : f_X12_isSo_J80 n q2 a1 a2 s = some y) : hq_fm s y.2 := by
  unfold f_X12_isSo_J80 at h
  have t := hq_fm_rf s
  exact hq_fm_tr t (e2 a1 (a2 + (1 : Int32)) s h)
theorem f_X12_isSo_L2_B_fr {n : Nat} {a1 : Int32} {a2 : Int32} {q2 : Int32 → Int32 → hq_S → Option (Int32 × hq_S)} {s : hq_S} {y : (Int32 × hq_S)} (e2 : ∀ (a1 : Int32) (a2 : Int32) (s : hq_S), q2 a1 a2 s = some y → hq_fm s y.2) (h : f_X12_isSo_L2_B n q2 a1 a2 s = some y) : hq_fm s y.2 := by
  unfold f_X12_isSo_L2_B at h
  have t := hq_fm_rf s
  obtain ⟨y1, hy1, h⟩ := hq_bind h
  have t := hq_fm_tr t (f_X12_knownMany_fr hy1)
  by_cases c2 : a2 < y1.1
  · rw [if_pos c2] at h
    obtain ⟨x3, hx3, h⟩ := hq_bind h
    by_cases c4 : x3 = 0
    · rw [if_pos c4] at h
      obtain ⟨x5, hx5, h⟩ := hq_bind h
      by_cases c6 : x5 = (-1 : Int32)
      · rw [if_pos c6] at h
        obtain ⟨x7, hx7, h⟩ := hq_bind h
        by_cases c8 : x7 = a1
        · rw [if_pos c8] at h
          obtain ⟨x9, hx9, h⟩ := hq_bind h
          obtain ⟨x10, hx10, h⟩ := hq_bind h
          obtain ⟨x11, hx11, h⟩ := hq_bind h
          obtain ⟨z12, hz12, h⟩ := hq_bind h
          obtain ⟨x14, hx14, h⟩ := hq_bind h
          by_cases c15 : z12 = x14
          · rw [if_pos c15] at h
            exact hq_fm_tr t (f_X12_isSo_J80_fr e2 h)
          · rw [if_neg c15] at h
            have h := Option.some.inj h
            subst h
            exact t
        · rw [if_neg c8] at h
          exact hq_fm_tr t (f_X12_isSo_J80_fr e2 h)
      · rw [if_neg c6] at h
        exact hq_fm_tr t (f_X12_isSo_J80_fr e2 h)
    · rw [if_neg c4] at h
      exact hq_fm_tr t (f_X12_isSo_J80_fr e2 h)
  · rw [if_neg c2] at h
    have h := Option.some.inj h
    subst h
    exact t
theorem f_X12_isSo_L2_fr {n m : Nat} {a1 : Int32} {a2 : Int32} {s : hq_S} {y : (Int32 × hq_S)} (h : f_X12_isSo_L2 n m a1 a2 s = some y) : hq_fm s y.2 := by
  induction m generalizing a1 a2 s with
  | zero => cases h
  | succ m ih => exact f_X12_isSo_L2_B_fr (n := n) (a1 := a1) (a2 := a2) (q2 := f_X12_isSo_L2 n m) (fun a1 a2 s h => ih h) h
theorem f_X12_isSo_fr {n : Nat} {a1 : Int32} {s : hq_S} {y : (Int32 × hq_S)} (h : f_X12_isSo n a1 s = some y) : hq_fm s y.2 := by
  unfold f_X12_isSo at h
  have t := hq_fm_rf s
  exact hq_fm_tr t (f_X12_isSo_L2_fr h)
theorem f_X12_fitsBold_L7_B_fr {n : Nat} {a1 : Int32} {a2 : Int32} {q7 : Int32 → Int32 → hq_S → Option (Int32 × hq_S)} {s : hq_S} {y : (Int32 × hq_S)} (e7 : ∀ (a1 : Int32) (a2 : Int32) (s : hq_S), q7 a1 a2 s = some y → hq_fm s y.2) (h : f_X12_fitsBold_L7_B n q7 a1 a2 s = some y) : hq_fm s y.2 := by
  unfold f_X12_fitsBold_L7_B at h
  have t := hq_fm_rf s
  by_cases c2 : a1 < a2
  · rw [if_pos c2] at h
    have h := Option.some.inj h
    subst h
    exact t
  · rw [if_neg c2] at h
    obtain ⟨s3, hs3, h⟩ := hq_bind h
    have t := hq_fm_tr t (f_X12_passes_fr hs3)
    obtain ⟨y4, hy4, h⟩ := hq_bind h
    have t := hq_fm_tr t (f_X12_isSo_fr hy4)
    by_cases c5 : y4.1 = 0
    · rw [if_pos c5] at h
      have h := Option.some.inj h
      subst h
      exact t
    · rw [if_neg c5] at h
      exact hq_fm_tr t (e7 a1 (a2 + (1 : Int32)) y4.2 h)
theorem f_X12_fitsBold_L7_fr {n m : Nat} {a1 : Int32} {a2 : Int32} {s : hq_S} {y : (Int32 × hq_S)} (h : f_X12_fitsBold_L7 n m a1 a2 s = some y) : hq_fm s y.2 := by
  induction m generalizing a1 a2 s with
  | zero => cases h
  | succ m ih => exact f_X12_fitsBold_L7_B_fr (n := n) (a1 := a1) (a2 := a2) (q7 := f_X12_fitsBold_L7 n m) (fun a1 a2 s h => ih h) h
theorem f_X12_fitsBold_fr {n : Nat} {a1 : Int32} {s : hq_S} {y : (Int32 × hq_S)} (h : f_X12_fitsBold n a1 s = some y) : hq_fm s y.2 := by
  unfold f_X12_fitsBold at h
  have t := hq_fm_rf s
  obtain ⟨s1, hs1, h⟩ := hq_bind h
  have t := hq_fm_tr t (f_X12_starts_fr hs1)
  exact hq_fm_tr t (f_X12_fitsBold_L7_fr h)
theorem f_X12_boldsOf_L129_B_fr {n : Nat} {a1 : Int32} {a2 : Int32} {a3 : Int32} {a4 : Int32} {q129 : Int32 → Int32 → Int32 → Int32 → hq_S → Option (Int32 × hq_S)} {s : hq_S} {y : (Int32 × hq_S)} (e129 : ∀ (a1 : Int32) (a2 : Int32) (a3 : Int32) (a4 : Int32) (s : hq_S), q129 a1 a2 a3 a4 s = some y → hq_fm s y.2) (h : f_X12_boldsOf_L129_B n q129 a1 a2 a3 a4 s = some y) : hq_fm s y.2 := by
  unfold f_X12_boldsOf_L129_B at h
  have t := hq_fm_rf s
  by_cases c8 : a4 < (10 : Int32)
  · rw [if_pos c8] at h
    obtain ⟨s10, hs10, h⟩ := hq_bind h
    have t := hq_fm_tr t (hq_fm_pi hs10 (by first | decide | omega))
    obtain ⟨y11, hy11, h⟩ := hq_bind h
    have t := hq_fm_tr t (f_X12_fitsBold_fr hy11)
    obtain ⟨z12, hz12, h⟩ := hq_bind h
    exact hq_fm_tr t (e129 a1 a2 (a3 ||| z12) (a4 + (1 : Int32)) y11.2 h)
  · rw [if_neg c8] at h
    obtain ⟨s9, hs9, h⟩ := hq_bind h
    have t := hq_fm_tr t (hq_fm_pi hs9 (by first | decide | omega))
    have h := Option.some.inj h
    subst h
    exact t
theorem f_X12_boldsOf_L129_fr {n m : Nat} {a1 : Int32} {a2 : Int32} {a3 : Int32} {a4 : Int32} {s : hq_S} {y : (Int32 × hq_S)} (h : f_X12_boldsOf_L129 n m a1 a2 a3 a4 s = some y) : hq_fm s y.2 := by
  induction m generalizing a1 a2 a3 a4 s with
  | zero => cases h
  | succ m ih => exact f_X12_boldsOf_L129_B_fr (n := n) (a1 := a1) (a2 := a2) (a3 := a3) (a4 := a4) (q129 := f_X12_boldsOf_L129 n m) (fun a1 a2 a3 a4 s h => ih h) h
theorem f_X12_boldsOf_L75_B_fr {n : Nat} {a1 : Int32} {a2 : Int32} {a3 : Int32} {q75 : Int32 → Int32 → Int32 → hq_S → Option (Int32 × hq_S)} {s : hq_S} {y : (Int32 × hq_S)} (e75 : ∀ (a1 : Int32) (a2 : Int32) (a3 : Int32) (s : hq_S), q75 a1 a2 a3 s = some y → hq_fm s y.2) (h : f_X12_boldsOf_L75_B n q75 a1 a2 a3 s = some y) : hq_fm s y.2 := by
  unfold f_X12_boldsOf_L75_B at h
  have t := hq_fm_rf s
  obtain ⟨y5, hy5, h⟩ := hq_bind h
  have t := hq_fm_tr t (f_X12_knownMany_fr hy5)
  by_cases c6 : a3 < y5.1
  · rw [if_pos c6] at h
    obtain ⟨x14, hx14, h⟩ := hq_bind h
    obtain ⟨z15, hz15, h⟩ := hq_bind h
    exact hq_fm_tr t (e75 a1 z15 (a3 + (1 : Int32)) y5.2 h)
  · rw [if_neg c6] at h
    obtain ⟨s7, hs7, h⟩ := hq_bind h
    have t := hq_fm_tr t (hq_fm_pi hs7 (by first | decide | omega))
    exact hq_fm_tr t (f_X12_boldsOf_L129_fr h)
theorem f_X12_boldsOf_L75_fr {n m : Nat} {a1 : Int32} {a2 : Int32} {a3 : Int32} {s : hq_S} {y : (Int32 × hq_S)} (h : f_X12_boldsOf_L75 n m a1 a2 a3 s = some y) : hq_fm s y.2 := by
  induction m generalizing a1 a2 a3 s with
  | zero => cases h
  | succ m ih => exact f_X12_boldsOf_L75_B_fr (n := n) (a1 := a1) (a2 := a2) (a3 := a3) (q75 := f_X12_boldsOf_L75 n m) (fun a1 a2 a3 s h => ih h) h
theorem f_X12_boldsOf_L32_B_fr {n : Nat} {a1 : Int32} {a2 : Int32} {a3 : Int32} {q32 : Int32 → Int32 → Int32 → hq_S → Option (Int32 × hq_S)} {s : hq_S} {y : (Int32 × hq_S)} (e32 : ∀ (a1 : Int32) (a2 : Int32) (a3 : Int32) (s : hq_S), q32 a1 a2 a3 s = some y → hq_fm s y.2) (h : f_X12_boldsOf_L32_B n q32 a1 a2 a3 s = some y) : hq_fm s y.2 := by
  unfold f_X12_boldsOf_L32_B at h
  have t := hq_fm_rf s
  by_cases c4 : a3 < 0
  · rw [if_pos c4] at h
    exact hq_fm_tr t (f_X12_boldsOf_L75_fr h)
  · rw [if_neg c4] at h
    obtain ⟨x20, hx20, h⟩ := hq_bind h
    obtain ⟨z21, hz21, h⟩ := hq_bind h
    have t : hq_fm s z21 := by
      clear h
      have h := hz21
      by_cases c22 : x20 = 0
      · rw [if_pos c22] at h
        obtain ⟨x23, hx23, h⟩ := hq_bind h
        by_cases c24 : x23 = (-1 : Int32)
        · rw [if_pos c24] at h
          cases h
          exact t
        · rw [if_neg c24] at h
          obtain ⟨x25, hx25, h⟩ := hq_bind h
          obtain ⟨s26, hs26, h⟩ := hq_bind h
          have t := hq_fm_tr t (hq_fm_st hs26 (by first | decide | omega))
          cases h
          exact t
      · rw [if_neg c22] at h
        cases h
        exact t
    exact hq_fm_tr t (e32 a1 a2 (a3 + Int32.ofInt (-1)) z21 h)
theorem f_X12_boldsOf_L32_fr {n m : Nat} {a1 : Int32} {a2 : Int32} {a3 : Int32} {s : hq_S} {y : (Int32 × hq_S)} (h : f_X12_boldsOf_L32 n m a1 a2 a3 s = some y) : hq_fm s y.2 := by
  induction m generalizing a1 a2 a3 s with
  | zero => cases h
  | succ m ih => exact f_X12_boldsOf_L32_B_fr (n := n) (a1 := a1) (a2 := a2) (a3 := a3) (q32 := f_X12_boldsOf_L32 n m) (fun a1 a2 a3 s h => ih h) h
theorem f_X12_boldsOf_L4_B_fr {n : Nat} {a1 : Int32} {a2 : Int32} {a3 : Int32} {q4 : Int32 → Int32 → Int32 → hq_S → Option (Int32 × hq_S)} {s : hq_S} {y : (Int32 × hq_S)} (e4 : ∀ (a1 : Int32) (a2 : Int32) (a3 : Int32) (s : hq_S), q4 a1 a2 a3 s = some y → hq_fm s y.2) (h : f_X12_boldsOf_L4_B n q4 a1 a2 a3 s = some y) : hq_fm s y.2 := by
  unfold f_X12_boldsOf_L4_B at h
  have t := hq_fm_rf s
  obtain ⟨y1, hy1, h⟩ := hq_bind h
  have t := hq_fm_tr t (f_X12_knownMany_fr hy1)
  by_cases c2 : a3 < y1.1
  · rw [if_pos c2] at h
    obtain ⟨s27, hs27, h⟩ := hq_bind h
    have t := hq_fm_tr t (hq_fm_st hs27 (by first | decide | omega))
    exact hq_fm_tr t (e4 a1 a2 (a3 + (1 : Int32)) s27 h)
  · rw [if_neg c2] at h
    obtain ⟨y3, hy3, h⟩ := hq_bind h
    have t := hq_fm_tr t (f_X12_knownMany_fr hy3)
    exact hq_fm_tr t (f_X12_boldsOf_L32_fr h)
theorem f_X12_boldsOf_L4_fr {n m : Nat} {a1 : Int32} {a2 : Int32} {a3 : Int32} {s : hq_S} {y : (Int32 × hq_S)} (h : f_X12_boldsOf_L4 n m a1 a2 a3 s = some y) : hq_fm s y.2 := by
  induction m generalizing a1 a2 a3 s with
  | zero => cases h
  | succ m ih => exact f_X12_boldsOf_L4_B_fr (n := n) (a1 := a1) (a2 := a2) (a3 := a3) (q4 := f_X12_boldsOf_L4 n m) (fun a1 a2 a3 s h => ih h) h
theorem f_X12_boldsOf_fr {n : Nat} {a1 : Int32} {s : hq_S} {y : (Int32 × hq_S)} (h : f_X12_boldsOf n a1 s = some y) : hq_fm s y.2 := by
  unfold f_X12_boldsOf at h
  have t := hq_fm_rf s
  exact hq_fm_tr t (f_X12_boldsOf_L4_fr h)
theorem f_X12_bolds_fr {n : Nat} {a1 : Int32} {s : hq_S} {y : (Int32 × hq_S)} (h : f_X12_bolds n a1 s = some y) : hq_fm s y.2 := by
  unfold f_X12_bolds at h
  have t := hq_fm_rf s
  obtain ⟨s1, hs1, h⟩ := hq_bind h
  have t := hq_fm_tr t (hq_fm_pi hs1 (by first | decide | omega))
  obtain ⟨y2, hy2, h⟩ := hq_bind h
  have t := hq_fm_tr t (f_X12_isThief_fr hy2)
  by_cases c3 : y2.1 = 0
  · rw [if_pos c3] at h
    have h := Option.some.inj h
    subst h
    exact t
  · rw [if_neg c3] at h
    obtain ⟨y4, hy4, h⟩ := hq_bind h
    have t := hq_fm_tr t (f_X12_boldsOf_fr hy4)
    have h := Option.some.inj h
    subst h
    exact t
theorem f_X12_worstAt_L18_B_fr {n : Nat} {a1 : Int32} {a2 : Int32} {a3 : Int32} {a4 : Int32} {a5 : Int32} {a6 : Int32} {q5 : Int32 → Int32 → Int32 → Int32 → hq_S → Option (Int32 × hq_S)} {q18 : Int32 → Int32 → Int32 → Int32 → Int32 → Int32 → hq_S → Option (Int32 × hq_S)} {s : hq_S} {y : (Int32 × hq_S)} (e5 : ∀ (a1 : Int32) (a2 : Int32) (a3 : Int32) (a4 : Int32) (o5 : Option Value) (o6 : Option Value) (s : hq_S), q5 a1 a2 a3 a4 s = some y → hq_fm s y.2) (e18 : ∀ (a1 : Int32) (a2 : Int32) (a3 : Int32) (a4 : Int32) (a5 : Int32) (a6 : Int32) (s : hq_S), q18 a1 a2 a3 a4 a5 a6 s = some y → hq_fm s y.2) (h : f_X12_worstAt_L18_B n q5 q18 a1 a2 a3 a4 a5 a6 s = some y) : hq_fm s y.2 := by
  unfold f_X12_worstAt_L18_B at h
  have t := hq_fm_rf s
  by_cases c2 : a6 < (10 : Int32)
  · rw [if_pos c2] at h
    obtain ⟨z5, hz5, h⟩ := hq_bind h
    exact hq_fm_tr t (e18 a1 a2 a3 a4 (a5 + z5) (a6 + (1 : Int32)) s h)
  · rw [if_neg c2] at h
    obtain ⟨z3, hz3, h⟩ := hq_bind h
    exact hq_fm_tr t (e5 a1 a2 z3 (a4 + (1 : Int32)) none none s h)
theorem f_X12_worstAt_L18_fr {n m : Nat} {a1 : Int32} {a2 : Int32} {a3 : Int32} {a4 : Int32} {a5 : Int32} {a6 : Int32} {q5 : Int32 → Int32 → Int32 → Int32 → hq_S → Option (Int32 × hq_S)} {s : hq_S} {y : (Int32 × hq_S)} (e5 : ∀ (a1 : Int32) (a2 : Int32) (a3 : Int32) (a4 : Int32) (o5 : Option Value) (o6 : Option Value) (s : hq_S), q5 a1 a2 a3 a4 s = some y → hq_fm s y.2) (h : f_X12_worstAt_L18 n q5 m a1 a2 a3 a4 a5 a6 s = some y) : hq_fm s y.2 := by
  induction m generalizing a1 a2 a3 a4 a5 a6 s with
  | zero => cases h
  | succ m ih => exact f_X12_worstAt_L18_B_fr (n := n) (a1 := a1) (a2 := a2) (a3 := a3) (a4 := a4) (a5 := a5) (a6 := a6) (q18 := f_X12_worstAt_L18 n q5 m) e5 (fun a1 a2 a3 a4 a5 a6 s h => ih h) h
theorem f_X12_worstAt_L5_B_fr {n : Nat} {a1 : Int32} {a2 : Int32} {a3 : Int32} {a4 : Int32} {q5 : Int32 → Int32 → Int32 → Int32 → hq_S → Option (Int32 × hq_S)} {s : hq_S} {y : (Int32 × hq_S)} (e5 : ∀ (a1 : Int32) (a2 : Int32) (a3 : Int32) (a4 : Int32) (o5 : Option Value) (o6 : Option Value) (s : hq_S), q5 a1 a2 a3 a4 s = some y → hq_fm s y.2) (h : f_X12_worstAt_L5_B n q5 a1 a2 a3 a4 s = some y) : hq_fm s y.2 := by
  unfold f_X12_worstAt_L5_B at h
  have t := hq_fm_rf s
  by_cases c1 : a4 < (10 : Int32)
  · rw [if_pos c1] at h
    exact hq_fm_tr t (f_X12_worstAt_L18_fr e5 h)
  · rw [if_neg c1] at h
    have h := Option.some.inj h
    subst h
    exact t
theorem f_X12_worstAt_L5_fr {n m : Nat} {a1 : Int32} {a2 : Int32} {a3 : Int32} {a4 : Int32} {s : hq_S} {y : (Int32 × hq_S)} (h : f_X12_worstAt_L5 n m a1 a2 a3 a4 s = some y) : hq_fm s y.2 := by
  induction m generalizing a1 a2 a3 a4 s with
  | zero => cases h
  | succ m ih => exact f_X12_worstAt_L5_B_fr (n := n) (a1 := a1) (a2 := a2) (a3 := a3) (a4 := a4) (q5 := f_X12_worstAt_L5 n m) (fun a1 a2 a3 a4 _ _ s h => ih h) h
theorem f_X12_worstAt_fr {n : Nat} {a1 : Int32} {a2 : Int32} {s : hq_S} {y : (Int32 × hq_S)} (h : f_X12_worstAt n a1 a2 s = some y) : hq_fm s y.2 := by
  unfold f_X12_worstAt at h
  have t := hq_fm_rf s
  exact hq_fm_tr t (f_X12_worstAt_L5_fr h)
theorem f_X12_ask_L116_B_fr {n : Nat} {a1 : Int32} {a2 : Int32} {a3 : Int32} {a4 : Int32} {a5 : Int32} {q116 : Int32 → Int32 → Int32 → Int32 → Int32 → hq_S → Option (Int32 × hq_S)} {s : hq_S} {y : (Int32 × hq_S)} (e116 : ∀ (a1 : Int32) (a2 : Int32) (a3 : Int32) (a4 : Int32) (a5 : Int32) (s : hq_S), q116 a1 a2 a3 a4 a5 s = some y → hq_fm s y.2) (h : f_X12_ask_L116_B n q116 a1 a2 a3 a4 a5 s = some y) : hq_fm s y.2 := by
  unfold f_X12_ask_L116_B at h
  have t := hq_fm_rf s
  by_cases c10 : (60 : Int32) < a5
  · rw [if_pos c10] at h
    by_cases c11 : a2 = 0
    · rw [if_pos c11] at h
      have h := Option.some.inj h
      subst h
      exact t
    · rw [if_neg c11] at h
      obtain ⟨y12, hy12, h⟩ := hq_bind h
      have t := hq_fm_tr t (f_X12_worstAt_fr hy12)
      have h := Option.some.inj h
      subst h
      exact t
  · rw [if_neg c10] at h
    obtain ⟨y13, hy13, h⟩ := hq_bind h
    have t := hq_fm_tr t (f_X12_worstAt_fr hy13)
    obtain ⟨y14, hy14, h⟩ := hq_bind h
    have t := hq_fm_tr t (f_X12_worstAt_fr hy14)
    obtain ⟨z15, hz15, h⟩ := hq_bind h
    exact hq_fm_tr t (e116 a1 a2 a3 z15 (a5 + (1 : Int32)) y14.2 h)
theorem f_X12_ask_L116_fr {n m : Nat} {a1 : Int32} {a2 : Int32} {a3 : Int32} {a4 : Int32} {a5 : Int32} {s : hq_S} {y : (Int32 × hq_S)} (h : f_X12_ask_L116 n m a1 a2 a3 a4 a5 s = some y) : hq_fm s y.2 := by
  induction m generalizing a1 a2 a3 a4 a5 s with
  | zero => cases h
  | succ m ih => exact f_X12_ask_L116_B_fr (n := n) (a1 := a1) (a2 := a2) (a3 := a3) (a4 := a4) (a5 := a5) (q116 := f_X12_ask_L116 n m) (fun a1 a2 a3 a4 a5 s h => ih h) h
theorem f_X12_ask_L59_B_fr {n : Nat} {a1 : Int32} {a2 : Int32} {a3 : Int32} {a4 : Int32} {a5 : Int32} {q38 : Int32 → Int32 → Int32 → Int32 → hq_S → Option (Int32 × hq_S)} {q59 : Int32 → Int32 → Int32 → Int32 → Int32 → hq_S → Option (Int32 × hq_S)} {s : hq_S} {y : (Int32 × hq_S)} (e38 : ∀ (a1 : Int32) (a2 : Int32) (a3 : Int32) (a4 : Int32) (o5 : Option Value) (s : hq_S), q38 a1 a2 a3 a4 s = some y → hq_fm s y.2) (e59 : ∀ (a1 : Int32) (a2 : Int32) (a3 : Int32) (a4 : Int32) (a5 : Int32) (s : hq_S), q59 a1 a2 a3 a4 a5 s = some y → hq_fm s y.2) (h : f_X12_ask_L59_B n q38 q59 a1 a2 a3 a4 a5 s = some y) : hq_fm s y.2 := by
  unfold f_X12_ask_L59_B at h
  have t := hq_fm_rf s
  by_cases c19 : (60 : Int32) < a5
  · rw [if_pos c19] at h
    exact hq_fm_tr t (e38 a1 a2 a3 (a4 + (1 : Int32)) none s h)
  · rw [if_neg c19] at h
    obtain ⟨s20, hs20, h⟩ := hq_bind h
    have t := hq_fm_tr t (f_X12_passes_fr hs20)
    obtain ⟨x21, hx21, h⟩ := hq_bind h
    obtain ⟨s22, hs22, h⟩ := hq_bind h
    have t := hq_fm_tr t (hq_fm_st hs22 (by first | decide | omega))
    exact hq_fm_tr t (e59 a1 a2 a3 a4 (a5 + (1 : Int32)) s22 h)
theorem f_X12_ask_L59_fr {n m : Nat} {a1 : Int32} {a2 : Int32} {a3 : Int32} {a4 : Int32} {a5 : Int32} {q38 : Int32 → Int32 → Int32 → Int32 → hq_S → Option (Int32 × hq_S)} {s : hq_S} {y : (Int32 × hq_S)} (e38 : ∀ (a1 : Int32) (a2 : Int32) (a3 : Int32) (a4 : Int32) (o5 : Option Value) (s : hq_S), q38 a1 a2 a3 a4 s = some y → hq_fm s y.2) (h : f_X12_ask_L59 n q38 m a1 a2 a3 a4 a5 s = some y) : hq_fm s y.2 := by
  induction m generalizing a1 a2 a3 a4 a5 s with
  | zero => cases h
  | succ m ih => exact f_X12_ask_L59_B_fr (n := n) (a1 := a1) (a2 := a2) (a3 := a3) (a4 := a4) (a5 := a5) (q59 := f_X12_ask_L59 n q38 m) e38 (fun a1 a2 a3 a4 a5 s h => ih h) h
theorem f_X12_ask_L38_B_fr {n : Nat} {a1 : Int32} {a2 : Int32} {a3 : Int32} {a4 : Int32} {q38 : Int32 → Int32 → Int32 → Int32 → hq_S → Option (Int32 × hq_S)} {s : hq_S} {y : (Int32 × hq_S)} (e38 : ∀ (a1 : Int32) (a2 : Int32) (a3 : Int32) (a4 : Int32) (o5 : Option Value) (s : hq_S), q38 a1 a2 a3 a4 s = some y → hq_fm s y.2) (h : f_X12_ask_L38_B n q38 a1 a2 a3 a4 s = some y) : hq_fm s y.2 := by
  unfold f_X12_ask_L38_B at h
  have t := hq_fm_rf s
  by_cases c8 : a4 < (10 : Int32)
  · rw [if_pos c8] at h
    obtain ⟨s17, hs17, h⟩ := hq_bind h
    have t := hq_fm_tr t (hq_fm_pi hs17 (by first | decide | omega))
    obtain ⟨s18, hs18, h⟩ := hq_bind h
    have t := hq_fm_tr t (f_X12_starts_fr hs18)
    exact hq_fm_tr t (f_X12_ask_L59_fr e38 h)
  · rw [if_neg c8] at h
    obtain ⟨s9, hs9, h⟩ := hq_bind h
    have t := hq_fm_tr t (hq_fm_pi hs9 (by first | decide | omega))
    exact hq_fm_tr t (f_X12_ask_L116_fr h)
theorem f_X12_ask_L38_fr {n m : Nat} {a1 : Int32} {a2 : Int32} {a3 : Int32} {a4 : Int32} {s : hq_S} {y : (Int32 × hq_S)} (h : f_X12_ask_L38 n m a1 a2 a3 a4 s = some y) : hq_fm s y.2 := by
  induction m generalizing a1 a2 a3 a4 s with
  | zero => cases h
  | succ m ih => exact f_X12_ask_L38_B_fr (n := n) (a1 := a1) (a2 := a2) (a3 := a3) (a4 := a4) (q38 := f_X12_ask_L38 n m) (fun a1 a2 a3 a4 _ s h => ih h) h
theorem f_X12_ask_fr {n : Nat} {a1 : Int32} {a2 : Int32} {s : hq_S} {y : (Int32 × hq_S)} (h : f_X12_ask n a1 a2 s = some y) : hq_fm s y.2 := by
  unfold f_X12_ask at h
  have t := hq_fm_rf s
  obtain ⟨s1, hs1, h⟩ := hq_bind h
  have t := hq_fm_tr t (hq_fm_pi hs1 (by first | decide | omega))
  obtain ⟨y2, hy2, h⟩ := hq_bind h
  have t := hq_fm_tr t (f_X12_isThief_fr hy2)
  by_cases c3 : y2.1 = 0
  · rw [if_pos c3] at h
    have h := Option.some.inj h
    subst h
    exact t
  · rw [if_neg c3] at h
    by_cases c4 : a2 < 0
    · rw [if_pos c4] at h
      have h := Option.some.inj h
      subst h
      exact t
    · rw [if_neg c4] at h
      by_cases c5 : (1 : Int32) < a2
      · rw [if_pos c5] at h
        have h := Option.some.inj h
        subst h
        exact t
      · rw [if_neg c5] at h
        obtain ⟨y6, hy6, h⟩ := hq_bind h
        have t := hq_fm_tr t (f_X12_boldsOf_fr hy6)
        obtain ⟨s7, hs7, h⟩ := hq_bind h
        have t := hq_fm_tr t (hq_fm_pi hs7 (by first | decide | omega))
        exact hq_fm_tr t (f_X12_ask_L38_fr h)
theorem f_X12_chance_L63_B_fr {n : Nat} {a1 : Int32} {a2 : Int32} {a3 : Int32} {a4 : Int32} {a5 : Int32} {a6 : Int32} {a7 : Int32} {q39 : Int32 → Int32 → Int32 → Int32 → Int32 → Int32 → hq_S → Option (Int32 × hq_S)} {q63 : Int32 → Int32 → Int32 → Int32 → Int32 → Int32 → Int32 → hq_S → Option (Int32 × hq_S)} {s : hq_S} {y : (Int32 × hq_S)} (e39 : ∀ (a1 : Int32) (a2 : Int32) (a3 : Int32) (a4 : Int32) (a5 : Int32) (a6 : Int32) (o7 : Option Value) (s : hq_S), q39 a1 a2 a3 a4 a5 a6 s = some y → hq_fm s y.2) (e63 : ∀ (a1 : Int32) (a2 : Int32) (a3 : Int32) (a4 : Int32) (a5 : Int32) (a6 : Int32) (a7 : Int32) (s : hq_S), q63 a1 a2 a3 a4 a5 a6 a7 s = some y → hq_fm s y.2) (h : f_X12_chance_L63_B n q39 q63 a1 a2 a3 a4 a5 a6 a7 s = some y) : hq_fm s y.2 := by
  unfold f_X12_chance_L63_B at h
  have t := hq_fm_rf s
  by_cases c10 : a7 < a2
  · rw [if_pos c10] at h
    obtain ⟨s15, hs15, h⟩ := hq_bind h
    have t := hq_fm_tr t (f_X12_passes_fr hs15)
    exact hq_fm_tr t (e63 a1 a2 a3 a4 a5 a6 (a7 + (1 : Int32)) s15 h)
  · rw [if_neg c10] at h
    obtain ⟨x11, hx11, h⟩ := hq_bind h
    obtain ⟨y12, hy12, h⟩ := hq_bind h
    have t := hq_fm_tr t (f_X12_isFree_fr hy12)
    obtain ⟨z13, hz13, h⟩ := hq_bind h
    exact hq_fm_tr t (e39 a1 a2 a3 x11 (a5 + z13) (a6 + (1 : Int32)) none y12.2 h)
theorem f_X12_chance_L63_fr {n m : Nat} {a1 : Int32} {a2 : Int32} {a3 : Int32} {a4 : Int32} {a5 : Int32} {a6 : Int32} {a7 : Int32} {q39 : Int32 → Int32 → Int32 → Int32 → Int32 → Int32 → hq_S → Option (Int32 × hq_S)} {s : hq_S} {y : (Int32 × hq_S)} (e39 : ∀ (a1 : Int32) (a2 : Int32) (a3 : Int32) (a4 : Int32) (a5 : Int32) (a6 : Int32) (o7 : Option Value) (s : hq_S), q39 a1 a2 a3 a4 a5 a6 s = some y → hq_fm s y.2) (h : f_X12_chance_L63 n q39 m a1 a2 a3 a4 a5 a6 a7 s = some y) : hq_fm s y.2 := by
  induction m generalizing a1 a2 a3 a4 a5 a6 a7 s with
  | zero => cases h
  | succ m ih => exact f_X12_chance_L63_B_fr (n := n) (a1 := a1) (a2 := a2) (a3 := a3) (a4 := a4) (a5 := a5) (a6 := a6) (a7 := a7) (q63 := f_X12_chance_L63 n q39 m) e39 (fun a1 a2 a3 a4 a5 a6 a7 s h => ih h) h
theorem f_X12_chance_L39_B_fr {n : Nat} {a1 : Int32} {a2 : Int32} {a3 : Int32} {a4 : Int32} {a5 : Int32} {a6 : Int32} {q39 : Int32 → Int32 → Int32 → Int32 → Int32 → Int32 → hq_S → Option (Int32 × hq_S)} {s : hq_S} {y : (Int32 × hq_S)} (e39 : ∀ (a1 : Int32) (a2 : Int32) (a3 : Int32) (a4 : Int32) (a5 : Int32) (a6 : Int32) (o7 : Option Value) (s : hq_S), q39 a1 a2 a3 a4 a5 a6 s = some y → hq_fm s y.2) (h : f_X12_chance_L39_B n q39 a1 a2 a3 a4 a5 a6 s = some y) : hq_fm s y.2 := by
  unfold f_X12_chance_L39_B at h
  have t := hq_fm_rf s
  by_cases c7 : a6 < (10 : Int32)
  · rw [if_pos c7] at h
    obtain ⟨s8, hs8, h⟩ := hq_bind h
    have t := hq_fm_tr t (f_X12_copies_fr hs8)
    obtain ⟨s9, hs9, h⟩ := hq_bind h
    have t := hq_fm_tr t (hq_fm_st hs9 (by first | decide | omega))
    exact hq_fm_tr t (f_X12_chance_L63_fr e39 h)
  · rw [if_neg c7] at h
    have h := Option.some.inj h
    subst h
    exact t
theorem f_X12_chance_L39_fr {n m : Nat} {a1 : Int32} {a2 : Int32} {a3 : Int32} {a4 : Int32} {a5 : Int32} {a6 : Int32} {s : hq_S} {y : (Int32 × hq_S)} (h : f_X12_chance_L39 n m a1 a2 a3 a4 a5 a6 s = some y) : hq_fm s y.2 := by
  induction m generalizing a1 a2 a3 a4 a5 a6 s with
  | zero => cases h
  | succ m ih => exact f_X12_chance_L39_B_fr (n := n) (a1 := a1) (a2 := a2) (a3 := a3) (a4 := a4) (a5 := a5) (a6 := a6) (q39 := f_X12_chance_L39 n m) (fun a1 a2 a3 a4 a5 a6 _ s h => ih h) h
theorem f_X12_chance_fr {n : Nat} {a1 : Int32} {a2 : Int32} {a3 : Int32} {s : hq_S} {y : (Int32 × hq_S)} (h : f_X12_chance n a1 a2 a3 s = some y) : hq_fm s y.2 := by
  unfold f_X12_chance at h
  have t := hq_fm_rf s
  obtain ⟨s1, hs1, h⟩ := hq_bind h
  have t := hq_fm_tr t (hq_fm_pi hs1 (by first | decide | omega))
  by_cases c2 : a1 < 0
  · rw [if_pos c2] at h
    have h := Option.some.inj h
    subst h
    exact t
  · rw [if_neg c2] at h
    by_cases c3 : a2 < (1 : Int32)
    · rw [if_pos c3] at h
      have h := Option.some.inj h
      subst h
      exact t
    · rw [if_neg c3] at h
      by_cases c4 : (99 : Int32) < a2
      · rw [if_pos c4] at h
        have h := Option.some.inj h
        subst h
        exact t
      · rw [if_neg c4] at h
        obtain ⟨y5, hy5, h⟩ := hq_bind h
        have t := hq_fm_tr t (f_X12_isThief_fr hy5)
        by_cases c6 : y5.1 = 0
        · rw [if_pos c6] at h
          have h := Option.some.inj h
          subst h
          exact t
        · rw [if_neg c6] at h
          exact hq_fm_tr t (f_X12_chance_L39_fr h)
theorem f_X12_tried_fr {n : Nat} {a1 : Int32} {a2 : Int32} {a3 : Int32} {s : hq_S} {y : (Int32 × hq_S)} (h : f_X12_tried n a1 a2 a3 s = some y) : hq_fm s y.2 := by
  unfold f_X12_tried at h
  have t := hq_fm_rf s
  obtain ⟨s1, hs1, h⟩ := hq_bind h
  have t := hq_fm_tr t (hq_fm_pi hs1 (by first | decide | omega))
  obtain ⟨z2, hz2, h⟩ := hq_bind h
  have t : hq_fm s z2.2 := by
    clear h
    have h := hz2
    by_cases c3 : a1 = (2 : Int32)
    · rw [if_pos c3] at h
      obtain ⟨y7, hy7, h⟩ := hq_bind h
      have t := hq_fm_tr t (f_X12_isGuard_fr hy7)
      cases h
      exact t
    · rw [if_neg c3] at h
      by_cases c4 : a1 < 0
      · rw [if_pos c4] at h
        cases h
        exact t
      · rw [if_neg c4] at h
        by_cases c5 : (4 : Int32) < a1
        · rw [if_pos c5] at h
          cases h
          exact t
        · rw [if_neg c5] at h
          by_cases c6 : a2 = 0
          · rw [if_pos c6] at h
            cases h
            exact t
          · rw [if_neg c6] at h
            cases h
            exact t
  by_cases c8 : z2.1 = 0
  · rw [if_pos c8] at h
    have h := Option.some.inj h
    subst h
    exact t
  · rw [if_neg c8] at h
    by_cases c9 : a3 < 0
    · rw [if_pos c9] at h
      have h := Option.some.inj h
      subst h
      exact t
    · rw [if_neg c9] at h
      by_cases c10 : (200 : Int32) < a3
      · rw [if_pos c10] at h
        have h := Option.some.inj h
        subst h
        exact t
      · rw [if_neg c10] at h
        obtain ⟨s11, hs11, h⟩ := hq_bind h
        have t := hq_fm_tr t (f_X12_copies_fr hs11)
        obtain ⟨z12, hz12, h⟩ := hq_bind h
        obtain ⟨s14, hs14, h⟩ := hq_bind h
        have t := hq_fm_tr t (hq_fm_pi hs14 (by first | decide | omega))
        obtain ⟨s15, hs15, h⟩ := hq_bind h
        have t := hq_fm_tr t (hq_fm_pi hs15 (by first | decide | omega))
        obtain ⟨s16, hs16, h⟩ := hq_bind h
        have t := hq_fm_tr t (f_X12_goesOn_fr hs16)
        obtain ⟨s17, hs17, h⟩ := hq_bind h
        have t := hq_fm_tr t (hq_fm_pi hs17 (by first | decide | omega))
        obtain ⟨s18, hs18, h⟩ := hq_bind h
        have t := hq_fm_tr t (hq_fm_pi hs18 (by first | decide | omega))
        obtain ⟨y19, hy19, h⟩ := hq_bind h
        have t := hq_fm_tr t (f_X12_sumOf_fr (by first | decide | omega) hy19)
        have h := Option.some.inj h
        subst h
        exact t
theorem f_X12_undo_fr {n : Nat} {s : hq_S} {y : (Int32 × hq_S)} (h : f_X12_undo n s = some y) : hq_fm s y.2 := by
  unfold f_X12_undo at h
  have t := hq_fm_rf s
  obtain ⟨s1, hs1, h⟩ := hq_bind h
  have t := hq_fm_tr t (hq_fm_pi hs1 (by first | decide | omega))
  by_cases c2 : (hq_gi s1 174 48) = 0
  · rw [if_pos c2] at h
    have h := Option.some.inj h
    subst h
    exact t
  · rw [if_neg c2] at h
    obtain ⟨s3, hs3, h⟩ := hq_bind h
    have t := hq_fm_tr t (hq_fm_pi hs3 (by first | decide | omega))
    obtain ⟨s4, hs4, h⟩ := hq_bind h
    have t := hq_fm_tr t (f_X12_copies_fr hs4)
    have h := Option.some.inj h
    subst h
    exact t
theorem f_X12_keep_fr {n : Nat} {s : hq_S} {y : (Int32 × hq_S)} (h : f_X12_keep n s = some y) : hq_fm s y.2 := by
  unfold f_X12_keep at h
  have t := hq_fm_rf s
  obtain ⟨s1, hs1, h⟩ := hq_bind h
  have t := hq_fm_tr t (hq_fm_pi hs1 (by first | decide | omega))
  obtain ⟨s2, hs2, h⟩ := hq_bind h
  have t := hq_fm_tr t (f_X12_copies_fr hs2)
  obtain ⟨s3, hs3, h⟩ := hq_bind h
  have t := hq_fm_tr t (hq_fm_pi hs3 (by first | decide | omega))
  obtain ⟨x4, hx4, h⟩ := hq_bind h
  have h := Option.some.inj h
  subst h
  exact t
theorem f_X12_back_fr {n : Nat} {s : hq_S} {y : (Int32 × hq_S)} (h : f_X12_back n s = some y) : hq_fm s y.2 := by
  unfold f_X12_back at h
  have t := hq_fm_rf s
  obtain ⟨s1, hs1, h⟩ := hq_bind h
  have t := hq_fm_tr t (hq_fm_pi hs1 (by first | decide | omega))
  by_cases c2 : (hq_gi s1 174 47) = 0
  · rw [if_pos c2] at h
    have h := Option.some.inj h
    subst h
    exact t
  · rw [if_neg c2] at h
    obtain ⟨s3, hs3, h⟩ := hq_bind h
    have t := hq_fm_tr t (f_X12_copies_fr hs3)
    obtain ⟨s4, hs4, h⟩ := hq_bind h
    have t := hq_fm_tr t (hq_fm_pi hs4 (by first | decide | omega))
    obtain ⟨x5, hx5, h⟩ := hq_bind h
    have h := Option.some.inj h
    subst h
    exact t
theorem f_X12_count_fr {n : Nat} {a1 : Int32} {s : hq_S} {y : (Int32 × hq_S)} (h : f_X12_count n a1 s = some y) : hq_fm s y.2 := by
  unfold f_X12_count at h
  have t := hq_fm_rf s
  obtain ⟨s1, hs1, h⟩ := hq_bind h
  have t := hq_fm_tr t (hq_fm_pi hs1 (by first | decide | omega))
  by_cases c2 : a1 = (0 : Int32)
  · rw [if_pos c2] at h
    obtain ⟨x3, hx3, h⟩ := hq_bind h
    have h := Option.some.inj h
    subst h
    exact t
  rw [if_neg c2] at h
  by_cases c4 : a1 = (1 : Int32)
  · rw [if_pos c4] at h
    obtain ⟨x5, hx5, h⟩ := hq_bind h
    have h := Option.some.inj h
    subst h
    exact t
  rw [if_neg c4] at h
  by_cases c6 : a1 = (2 : Int32)
  · rw [if_pos c6] at h
    obtain ⟨x7, hx7, h⟩ := hq_bind h
    have h := Option.some.inj h
    subst h
    exact t
  rw [if_neg c6] at h
  by_cases c8 : a1 = (3 : Int32)
  · rw [if_pos c8] at h
    obtain ⟨x9, hx9, h⟩ := hq_bind h
    have h := Option.some.inj h
    subst h
    exact t
  rw [if_neg c8] at h
  by_cases c10 : a1 = (4 : Int32)
  · rw [if_pos c10] at h
    obtain ⟨x11, hx11, h⟩ := hq_bind h
    have h := Option.some.inj h
    subst h
    exact t
  rw [if_neg c10] at h
  by_cases c12 : a1 = (5 : Int32)
  · rw [if_pos c12] at h
    obtain ⟨x13, hx13, h⟩ := hq_bind h
    have h := Option.some.inj h
    subst h
    exact t
  rw [if_neg c12] at h
  by_cases c14 : a1 = (6 : Int32)
  · rw [if_pos c14] at h
    obtain ⟨y15, hy15, h⟩ := hq_bind h
    have t := hq_fm_tr t (f_X12_caughtOnes_fr hy15)
    have h := Option.some.inj h
    subst h
    exact t
  rw [if_neg c14] at h
  by_cases c16 : a1 = (7 : Int32)
  · rw [if_pos c16] at h
    obtain ⟨y17, hy17, h⟩ := hq_bind h
    have t := hq_fm_tr t (f_X12_sumOf_fr (by first | decide | omega) hy17)
    have h := Option.some.inj h
    subst h
    exact t
  rw [if_neg c16] at h
  by_cases c18 : a1 = (8 : Int32)
  · rw [if_pos c18] at h
    obtain ⟨y19, hy19, h⟩ := hq_bind h
    have t := hq_fm_tr t (f_X12_sumOf_fr (by first | decide | omega) hy19)
    have h := Option.some.inj h
    subst h
    exact t
  rw [if_neg c18] at h
  by_cases c20 : a1 = (9 : Int32)
  · rw [if_pos c20] at h
    obtain ⟨x21, hx21, h⟩ := hq_bind h
    obtain ⟨y22, hy22, h⟩ := hq_bind h
    have t := hq_fm_tr t (f_X12_bitsOf_fr hy22)
    have h := Option.some.inj h
    subst h
    exact t
  rw [if_neg c20] at h
  by_cases c23 : a1 = (10 : Int32)
  · rw [if_pos c23] at h
    have h := Option.some.inj h
    subst h
    exact t
  rw [if_neg c23] at h
  by_cases c24 : a1 = (11 : Int32)
  · rw [if_pos c24] at h
    obtain ⟨y25, hy25, h⟩ := hq_bind h
    have t := hq_fm_tr t (f_X12_knownMany_fr hy25)
    have h := Option.some.inj h
    subst h
    exact t
  rw [if_neg c24] at h
  by_cases c26 : a1 = (12 : Int32)
  · rw [if_pos c26] at h
    have h := Option.some.inj h
    subst h
    exact t
  rw [if_neg c26] at h
  have h := Option.some.inj h
  subst h
  exact t
