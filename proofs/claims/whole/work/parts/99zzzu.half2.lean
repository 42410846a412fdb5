/-! THE READER: a line keeps the reference's first halves -/
def w1_ : List (Nat × Option Nat) := [(174, some 21), (174, some 22), (174, some 24), (174, some 25), (174, some 26), (174, some 27), (174, some 28), (174, some 29), (174, some 32), (174, some 33), (177, none), (178, none), (179, none), (180, none), (181, none), (182, none), (183, none), (184, none), (185, none), (186, none), (187, none), (188, none), (189, none), (190, none), (191, none), (192, none), (193, none)]
theorem w1_176 {s t : hq_S} (u : hq_fc w1_ s t) (i : Nat) : hq_gi t 176 i = hq_gi s 176 i := (u 176 i rfl).1
section
variable {n : Nat} {s y : hq_S}
theorem f_X12_line_J16_hg (h : f_X12_line_J16 n s = some y) : hg s y := by
  unfold f_X12_line_J16 at h
  have t := hg_rf s
  obtain ⟨s2, hs2, h⟩ := hq_bind h
  have t := hg_tr t (hg_fw (by decide) (f_X12_wrong_fw hs2))
  have h := Option.some.inj h
  subst h
  exact t
theorem f_X12_line_J404_hg {a1 : Int32} (h : f_X12_line_J404 n a1 s = some y) : hg s y := by
  unfold f_X12_line_J404 at h
  have t := hg_rf s
  by_cases c28 : (hq_gi s 174 28) = 0
  · rw [if_pos c28] at h
    obtain ⟨y29, hy29, h⟩ := hq_bind h
    have t := hg_tr t (hg_fw (by decide) (f_X12_isSign_fw hy29))
    obtain ⟨z30, hz30, h⟩ := hq_bind h
    have t : hg s z30 := by
      clear h
      have h := hz30
      by_cases c31 : y29.1 = 0
      · rw [if_pos c31] at h
        obtain ⟨s33, hs33, h⟩ := hq_bind h
        have t := hg_tr t (hg_fw (by decide) (f_X12_wrong_fw hs33))
        cases h
        exact t
      · rw [if_neg c31] at h
        obtain ⟨s32, hs32, h⟩ := hq_bind h
        have t := hg_tr t (hg_fw (by decide) (f_X12_token_fw hs32))
        cases h
        exact t
    obtain ⟨s34, hs34, h⟩ := hq_bind h
    have t := hg_tr t (hg_pi hs34 (by decide))
    have h := Option.some.inj h
    subst h
    exact t
  · rw [if_neg c28] at h
    have h := Option.some.inj h
    subst h
    exact t
theorem hg_c0 {w : Int32} {s16 : hq_S} (h : ((f_X12_fresher n (0 : Int32) s16).bind fun y18 => (f_X12_fresher n (0 : Int32) y18.2).bind fun y19 => (f_X12_fresh n 177 (10 : Int32) y19.1 y19.2).bind fun y20 => (hq_st y20.2 177 20 ((10 : Int32) + y18.1) y20.1).bind fun s21 => (f_X12_numeral n (0 : Int32) (9 : Int32) s21).bind fun y22 => (hq_st y22.2 178 20 ((10 : Int32) + y18.1) y22.1).bind fun s23 => (f_X12_numeral n (0 : Int32) (999 : Int32) s23).bind fun y24 => (hq_st y24.2 179 20 ((10 : Int32) + y18.1) y24.1).bind fun s25 => (f_X12_fresher n (0 : Int32) s25).bind fun y26 => (f_X12_reads n (0 : Int32) (y26.1 + (1 : Int32)) y26.2).bind fun s27 => f_X12_line_J404 n w s27) = some y) : hg s16 y := by
  intro I
  obtain ⟨k, k1, k2⟩ := I 7 (by omega) (by omega) (by omega) (by omega)
  have k2' : hq_gi s16 176 (7 + 0) = Int32.ofNat k := k2
  rw [fresher_v (a := 0) (j := 0) rfl (by omega), k2'] at h
  simp only [ob] at h
  rw [fresher_v (a := 0) (j := 0) rfl (by omega), k2'] at h
  simp only [ob] at h
  rw [show (10 : Int32) = Int32.ofNat 10 from rfl, nb_add] at h
  have t := hg_rf s16
  have u := hq_fc_rf w1_ s16
  obtain ⟨a0, ha0, h⟩ := hq_bind h
  have t := hg_tr t (hg_fw (by decide) (f_X12_fresh_fw ha0))
  have u := hq_fc_tr u (hq_fc_mono (by decide) (f_X12_fresh_fw ha0))
  obtain ⟨b0, hb0, h⟩ := hq_bind h
  obtain ⟨t0, l0⟩ := hg_st hb0 (by omega) (by omega) (Nat.le_add_right _ _)
  have t := hg_tr t t0
  have u := hq_fc_tr u (hq_fc_st hb0 (by decide))
  obtain ⟨a1, ha1, h⟩ := hq_bind h
  have t := hg_tr t (hg_fw (by decide) (f_X12_numeral_fw ha1))
  have u := hq_fc_tr u (hq_fc_mono (by decide) (f_X12_numeral_fw ha1))
  obtain ⟨b1, hb1, h⟩ := hq_bind h
  obtain ⟨t1, l1⟩ := hg_st hb1 (by omega) (by omega) (Nat.le_add_right _ _)
  have t := hg_tr t t1
  have u := hq_fc_tr u (hq_fc_st hb1 (by decide))
  obtain ⟨a2, ha2, h⟩ := hq_bind h
  have t := hg_tr t (hg_fw (by decide) (f_X12_numeral_fw ha2))
  have u := hq_fc_tr u (hq_fc_mono (by decide) (f_X12_numeral_fw ha2))
  obtain ⟨b2, hb2, h⟩ := hq_bind h
  obtain ⟨t2, l2⟩ := hg_st hb2 (by omega) (by omega) (Nat.le_add_right _ _)
  have t := hg_tr t t2
  have u := hq_fc_tr u (hq_fc_st hb2 (by decide))
  rw [fresher_v (a := 0) (j := 0) rfl (by omega), w1_176 u, k2'] at h
  simp only [ob] at h
  rw [nn_succ] at h
  obtain ⟨s27, hs27, h⟩ := hq_bind h
  have t := hg_tr t (hg_reads (j := 0) hs27 rfl (by omega) (Or.inr ⟨k + 1, by omega, rfl⟩))
  exact hg_tr t (f_X12_line_J404_hg h) I
theorem hg_c3 {w : Int32} {s16 : hq_S} (h : ((f_X12_fresher n (2 : Int32) s16).bind fun y44 => (f_X12_fresher n (2 : Int32) y44.2).bind fun y45 => (f_X12_fresh n 183 (3 : Int32) y45.1 y45.2).bind fun y46 => (hq_st y46.2 183 6 ((3 : Int32) + y44.1) y46.1).bind fun s47 => (f_X12_cornerAhead n s47).bind fun y48 => (hq_st y48.2 184 6 ((3 : Int32) + y44.1) y48.1).bind fun s49 => (hq_st s49 185 6 ((3 : Int32) + y44.1) (0 : Int32)).bind fun s50 => (f_X12_fresher n (2 : Int32) s50).bind fun y51 => (f_X12_reads n (2 : Int32) (y51.1 + (1 : Int32)) y51.2).bind fun s52 => f_X12_line_J404 n w s52) = some y) : hg s16 y := by
  intro I
  obtain ⟨k, k1, k2⟩ := I 9 (by omega) (by omega) (by omega) (by omega)
  have k2' : hq_gi s16 176 (7 + 2) = Int32.ofNat k := k2
  rw [fresher_v (a := 2) (j := 2) rfl (by omega), k2'] at h
  simp only [ob] at h
  rw [fresher_v (a := 2) (j := 2) rfl (by omega), k2'] at h
  simp only [ob] at h
  rw [show (3 : Int32) = Int32.ofNat 3 from rfl, nb_add] at h
  have t := hg_rf s16
  have u := hq_fc_rf w1_ s16
  obtain ⟨a0, ha0, h⟩ := hq_bind h
  have t := hg_tr t (hg_fw (by decide) (f_X12_fresh_fw ha0))
  have u := hq_fc_tr u (hq_fc_mono (by decide) (f_X12_fresh_fw ha0))
  obtain ⟨b0, hb0, h⟩ := hq_bind h
  obtain ⟨t0, l0⟩ := hg_st hb0 (by omega) (by omega) (Nat.le_add_right _ _)
  have t := hg_tr t t0
  have u := hq_fc_tr u (hq_fc_st hb0 (by decide))
  obtain ⟨a1, ha1, h⟩ := hq_bind h
  have t := hg_tr t (hg_fw (by decide) (f_X12_cornerAhead_fw ha1))
  have u := hq_fc_tr u (hq_fc_mono (by decide) (f_X12_cornerAhead_fw ha1))
  obtain ⟨b1, hb1, h⟩ := hq_bind h
  obtain ⟨t1, l1⟩ := hg_st hb1 (by omega) (by omega) (Nat.le_add_right _ _)
  have t := hg_tr t t1
  have u := hq_fc_tr u (hq_fc_st hb1 (by decide))
  obtain ⟨b2, hb2, h⟩ := hq_bind h
  obtain ⟨t2, l2⟩ := hg_st hb2 (by omega) (by omega) (Nat.le_add_right _ _)
  have t := hg_tr t t2
  have u := hq_fc_tr u (hq_fc_st hb2 (by decide))
  rw [fresher_v (a := 2) (j := 2) rfl (by omega), w1_176 u, k2'] at h
  simp only [ob] at h
  rw [nn_succ] at h
  obtain ⟨s27, hs27, h⟩ := hq_bind h
  have t := hg_tr t (hg_reads (j := 2) hs27 rfl (by omega) (Or.inr ⟨k + 1, by omega, rfl⟩))
  exact hg_tr t (f_X12_line_J404_hg h) I
theorem hg_c5 {w : Int32} {s16 : hq_S} (h : ((f_X12_fresher n (3 : Int32) s16).bind fun y56 => (f_X12_fresher n (3 : Int32) y56.2).bind fun y57 => (f_X12_fresh n 187 (4 : Int32) y57.1 y57.2).bind fun y58 => (hq_st y58.2 187 8 ((4 : Int32) + y56.1) y58.1).bind fun s59 => (f_X12_cornerAhead n s59).bind fun y60 => (hq_st y60.2 188 8 ((4 : Int32) + y56.1) y60.1).bind fun s61 => (f_X12_numeral n (0 : Int32) (9 : Int32) s61).bind fun y62 => (hq_st y62.2 189 8 ((4 : Int32) + y56.1) y62.1).bind fun s63 => (f_X12_fresher n (3 : Int32) s63).bind fun y64 => (f_X12_reads n (3 : Int32) (y64.1 + (1 : Int32)) y64.2).bind fun s65 => f_X12_line_J404 n w s65) = some y) : hg s16 y := by
  intro I
  obtain ⟨k, k1, k2⟩ := I 10 (by omega) (by omega) (by omega) (by omega)
  have k2' : hq_gi s16 176 (7 + 3) = Int32.ofNat k := k2
  rw [fresher_v (a := 3) (j := 3) rfl (by omega), k2'] at h
  simp only [ob] at h
  rw [fresher_v (a := 3) (j := 3) rfl (by omega), k2'] at h
  simp only [ob] at h
  rw [show (4 : Int32) = Int32.ofNat 4 from rfl, nb_add] at h
  have t := hg_rf s16
  have u := hq_fc_rf w1_ s16
  obtain ⟨a0, ha0, h⟩ := hq_bind h
  have t := hg_tr t (hg_fw (by decide) (f_X12_fresh_fw ha0))
  have u := hq_fc_tr u (hq_fc_mono (by decide) (f_X12_fresh_fw ha0))
  obtain ⟨b0, hb0, h⟩ := hq_bind h
  obtain ⟨t0, l0⟩ := hg_st hb0 (by omega) (by omega) (Nat.le_add_right _ _)
  have t := hg_tr t t0
  have u := hq_fc_tr u (hq_fc_st hb0 (by decide))
  obtain ⟨a1, ha1, h⟩ := hq_bind h
  have t := hg_tr t (hg_fw (by decide) (f_X12_cornerAhead_fw ha1))
  have u := hq_fc_tr u (hq_fc_mono (by decide) (f_X12_cornerAhead_fw ha1))
  obtain ⟨b1, hb1, h⟩ := hq_bind h
  obtain ⟨t1, l1⟩ := hg_st hb1 (by omega) (by omega) (Nat.le_add_right _ _)
  have t := hg_tr t t1
  have u := hq_fc_tr u (hq_fc_st hb1 (by decide))
  obtain ⟨a2, ha2, h⟩ := hq_bind h
  have t := hg_tr t (hg_fw (by decide) (f_X12_numeral_fw ha2))
  have u := hq_fc_tr u (hq_fc_mono (by decide) (f_X12_numeral_fw ha2))
  obtain ⟨b2, hb2, h⟩ := hq_bind h
  obtain ⟨t2, l2⟩ := hg_st hb2 (by omega) (by omega) (Nat.le_add_right _ _)
  have t := hg_tr t t2
  have u := hq_fc_tr u (hq_fc_st hb2 (by decide))
  rw [fresher_v (a := 3) (j := 3) rfl (by omega), w1_176 u, k2'] at h
  simp only [ob] at h
  rw [nn_succ] at h
  obtain ⟨s27, hs27, h⟩ := hq_bind h
  have t := hg_tr t (hg_reads (j := 3) hs27 rfl (by omega) (Or.inr ⟨k + 1, by omega, rfl⟩))
  exact hg_tr t (f_X12_line_J404_hg h) I
theorem hg_L66 {a1 a2 : Int32} : ∀ (m : Nat) (a3 : Int32) (s : hq_S), (∃ k : Nat, k < 20 ∧ hq_gi s 176 8 = Int32.ofNat k) → f_X12_laneLine_L66 n m a1 a2 a3 s = some y → hg s y := by
  intro m
  induction m with
  | zero => intro a3 s hk h; cases h
  | succ m ih =>
    intro a3 s hk h
    obtain ⟨k, k1, k2⟩ := hk
    have h : f_X12_laneLine_L66_B n (f_X12_laneLine_L66 n m) a1 a2 a3 s = some y := h
    unfold f_X12_laneLine_L66_B at h
    have t := hg_rf s
    by_cases c13 : a3 < a2
    · rw [if_pos c13] at h
      obtain ⟨x17, hx17, h⟩ := hq_bind h
      obtain ⟨x18, hx18, h⟩ := hq_bind h
      obtain ⟨z19, hz19, h⟩ := hq_bind h
      obtain ⟨z24, hz24, h⟩ := hq_bind h
      obtain ⟨z32, hz32, h⟩ := hq_bind h
      have ku : hq_gi z32 176 8 = hq_gi s 176 8 := by
        clear h
        have h := hz32
        by_cases c33 : (hq_gi s 174 28) = 0
        · rw [if_pos c33] at h
          obtain ⟨x34, hx34, h⟩ := hq_bind h
          by_cases c35 : x34 = a1
          · rw [if_pos c35] at h
            by_cases c36 : z19 = 0
            · rw [if_pos c36] at h
              by_cases c38 : z24 = 0
              · rw [if_pos c38] at h
                cases h; rfl
              · rw [if_neg c38] at h
                obtain ⟨s39, hs39, h⟩ := hq_bind h
                cases h
                exact (f_X12_wrong_fw hs39 176 8 (by decide)).1
            · rw [if_neg c36] at h
              obtain ⟨s37, hs37, h⟩ := hq_bind h
              cases h
              exact (f_X12_wrong_fw hs37 176 8 (by decide)).1
          · rw [if_neg c35] at h
            cases h; rfl
        · rw [if_neg c33] at h
          cases h; rfl
      have t : hg s z32 := by
        clear h
        have h := hz32
        by_cases c33 : (hq_gi s 174 28) = 0
        · rw [if_pos c33] at h
          obtain ⟨x34, hx34, h⟩ := hq_bind h
          by_cases c35 : x34 = a1
          · rw [if_pos c35] at h
            by_cases c36 : z19 = 0
            · rw [if_pos c36] at h
              by_cases c38 : z24 = 0
              · rw [if_pos c38] at h
                cases h
                exact t
              · rw [if_neg c38] at h
                obtain ⟨s39, hs39, h⟩ := hq_bind h
                have t := hg_tr t (hg_fw (by decide) (f_X12_wrong_fw hs39))
                cases h
                exact t
            · rw [if_neg c36] at h
              obtain ⟨s37, hs37, h⟩ := hq_bind h
              have t := hg_tr t (hg_fw (by decide) (f_X12_wrong_fw hs37))
              cases h
              exact t
          · rw [if_neg c35] at h
            cases h
            exact t
        · rw [if_neg c33] at h
          cases h
          exact t
      exact hg_tr t (ih (a3 + (1 : Int32)) z32 ⟨k, k1, (ku.trans k2)⟩ h)
    · rw [if_neg c13] at h
      obtain ⟨s14, hs14, h⟩ := hq_bind h
      have t := hg_tr t (hg_fw (by decide) (f_X12_goOn_fw hs14))
      have e : hq_gi s14 176 (7 + 1) = Int32.ofNat k := ((f_X12_goOn_fw hs14) 176 8 (by decide)).1.trans k2
      rw [fresher_v (a := 1) (j := 1) rfl (by omega), e] at h
      simp only [ob] at h
      rw [nn_succ] at h
      obtain ⟨s16, hs16, h⟩ := hq_bind h
      have t := hg_tr t (hg_reads (j := 1) hs16 rfl (by omega) (Or.inr ⟨k + 1, by omega, rfl⟩))
      have h := Option.some.inj h
      subst h
      exact t
theorem hg_laneLine {a1 : Int32} (h : f_X12_laneLine n a1 s = some y) : hg s y := by
  unfold f_X12_laneLine at h
  intro I
  obtain ⟨k, k1, k2⟩ := I 8 (by omega) (by omega) (by omega) (by omega)
  have k2' : hq_gi s 176 (7 + 1) = Int32.ofNat k := k2
  rw [fresher_v (a := 1) (j := 1) rfl (by omega), k2'] at h
  simp only [ob] at h
  rw [show (20 : Int32) = Int32.ofNat 20 from rfl, nb_add] at h
  have t := hg_rf s
  have u := hq_fc_rf w1_ s
  obtain ⟨y2, hy2, h⟩ := hq_bind h
  have t := hg_tr t (hg_fw (by decide) (f_X12_cornerAhead_fw hy2))
  have u := hq_fc_tr u (hq_fc_mono (by decide) (f_X12_cornerAhead_fw hy2))
  obtain ⟨s3, hs3, h⟩ := hq_bind h
  obtain ⟨t3, l3⟩ := hg_st hs3 (by omega) (by omega) (Nat.le_add_right _ _)
  have t := hg_tr t t3
  have u := hq_fc_tr u (hq_fc_st hs3 (by decide))
  obtain ⟨y4, hy4, h⟩ := hq_bind h
  have t := hg_tr t (hg_fw (by decide) (f_X12_cornerAtHand_fw hy4))
  have u := hq_fc_tr u (hq_fc_mono (by decide) (f_X12_cornerAtHand_fw hy4))
  obtain ⟨s5, hs5, h⟩ := hq_bind h
  obtain ⟨t5, l5⟩ := hg_st hs5 (by omega) (by omega) (Nat.le_add_right _ _)
  have t := hg_tr t t5
  have u := hq_fc_tr u (hq_fc_st hs5 (by decide))
  obtain ⟨s6, hs6, h⟩ := hq_bind h
  obtain ⟨t6, l6⟩ := hg_st hs6 (by omega) (by omega) (Nat.le_add_right _ _)
  have t := hg_tr t t6
  have u := hq_fc_tr u (hq_fc_st hs6 (by decide))
  obtain ⟨z7, hz7, h⟩ := hq_bind h
  have tz : hg s6 z7 ∧ hq_gi z7 176 8 = hq_gi s6 176 8 := by
    clear h
    have h := hz7
    by_cases c8 : (hq_gi s6 174 28) = 0
    · rw [if_pos c8] at h
      obtain ⟨x9, hx9, h⟩ := hq_bind h
      obtain ⟨x10, hx10, h⟩ := hq_bind h
      by_cases c11 : x9 = x10
      · rw [if_pos c11] at h
        obtain ⟨s12, hs12, h⟩ := hq_bind h
        cases h
        exact ⟨hg_fw (by decide) (f_X12_wrong_fw hs12), (f_X12_wrong_fw hs12 176 8 (by decide)).1⟩
      · rw [if_neg c11] at h
        cases h
        exact ⟨hg_rf _, rfl⟩
    · rw [if_neg c8] at h
      cases h
      exact ⟨hg_rf _, rfl⟩
  exact hg_tr (hg_tr t tz.1) (hg_L66 _ _ _ ⟨k, by omega, tz.2.trans ((w1_176 u 8).trans k2)⟩ h) I
theorem fnd_n {k0 nn : Nat} {a1 a3 : Int32} (hn : nn ≤ 200) : ∀ (m j : Nat) (s : hq_S) (y : Int32 × hq_S), j ≤ nn → f_X12_found_L3 n m k0 a1 (Int32.ofNat nn) a3 (Int32.ofNat j) s = some y → y.1 = -1 ∨ ∃ g : Nat, g < nn ∧ y.1 = Int32.ofNat g := by
  intro m
  induction m with
  | zero => intro j s y hj h; cases h
  | succ m ih =>
    intro j s y hj h
    have h : f_X12_found_L3_B n (f_X12_found_L3 n m) k0 a1 (Int32.ofNat nn) a3 (Int32.ofNat j) s = some y := h
    unfold f_X12_found_L3_B at h
    by_cases c : j < nn
    · rw [ie (nb_ltp (by omega) (by omega)), if_pos c] at h
      obtain ⟨x, hx, h⟩ := hq_bind h
      by_cases e : x = a3
      · rw [if_pos e] at h
        cases h
        exact Or.inr ⟨j, c, rfl⟩
      · rw [if_neg e, nn_succ] at h
        exact ih (j + 1) s y (by omega) h
    · rw [ie (nb_ltp (by omega) (by omega)), if_neg c] at h
      cases h
      exact Or.inl rfl
theorem hand_n {k0 nn : Nat} {a2 : Int32} {y : Int32 × hq_S} (hn : nn ≤ 200) (h : f_X12_atHand n k0 a2 (Int32.ofNat nn) s = some y) : ∃ g : Nat, g ≤ 200 ∧ y.1 = Int32.ofNat g := by
  unfold f_X12_atHand at h
  by_cases c1 : hq_gi s 174 28 = 0
  · rw [if_pos c1] at h
    obtain ⟨z2, -, h⟩ := hq_bind h
    obtain ⟨z5, hz5, h⟩ := hq_bind h
    obtain ⟨z8, hz8, h⟩ := hq_bind h
    by_cases c8 : hq_gi z8 174 28 = 0
    · rw [if_pos c8] at h
      cases h
      show ∃ g : Nat, g ≤ 200 ∧ z5.1 = Int32.ofNat g
      have z5n : z5.1 = -1 ∨ ∃ g : Nat, g ≤ 200 ∧ z5.1 = Int32.ofNat g := by
        by_cases c2 : hq_gi z2 174 28 = 0
        · rw [if_pos c2] at hz5
          obtain ⟨y7, hy7, hz5⟩ := hq_bind hz5
          cases hz5
          unfold f_X12_found at hy7
          rcases fnd_n hn _ 0 _ _ (by omega) hy7 with q | ⟨g, g1, g2⟩
          · exact Or.inl q
          · exact Or.inr ⟨g, by omega, g2⟩
        · rw [if_neg c2] at hz5
          cases hz5
          exact Or.inr ⟨0, by omega, rfl⟩
      rcases z5n with q | q
      · exfalso
        by_cases c5 : hq_gi z5.2 174 28 = 0
        · rw [if_pos c5, if_pos q] at hz8
          obtain ⟨s11, hs11, hz8⟩ := hq_bind hz8
          rw [fail_m c5] at hs11
          cases hs11
          cases hz8
          exact fail_n (f := 4) (by decide) c8
        · rw [if_neg c5] at hz8
          cases hz8
          exact c5 c8
      · exact q
    · rw [if_neg c8] at h
      cases h
      exact ⟨0, by omega, rfl⟩
  · rw [if_neg c1] at h
    cases h
    exact ⟨0, by omega, rfl⟩
theorem hg_L46 {A : Nat} (hA : 3 ≤ A) (hA' : A ≤ 300) : ∀ (m c : Nat) (a3 : Int32) (s : hq_S), c ≤ 50 → f_X12_beatLine_L46 n m (Int32.ofNat A) (Int32.ofNat c) a3 s = some y → hg s y := by
  intro m
  induction m with
  | zero => intro c a3 s hc h; cases h
  | succ m ih =>
    intro c a3 s hc h
    have h : f_X12_beatLine_L46_B n (f_X12_beatLine_L46 n m) (Int32.ofNat A) (Int32.ofNat c) a3 s = some y := h
    unfold f_X12_beatLine_L46_B at h
    have t := hg_rf s
    by_cases c9 : (hq_gi s 174 28) = 0
    · rw [if_pos c9] at h
      by_cases c10 : a3 = 0
      · rw [if_pos c10] at h
        cases h
        exact t
      · rw [if_neg c10] at h
        obtain ⟨z11, hz11, h⟩ := hq_bind h
        have t : hg s z11 := by
          clear h
          have h := hz11
          by_cases c12 : Int32.ofNat c = (8 : Int32)
          · rw [if_pos c12] at h
            obtain ⟨s13, hs13, h⟩ := hq_bind h
            cases h
            exact hg_tr t (hg_fw (by decide) (f_X12_wrong_fw hs13))
          · rw [if_neg c12] at h
            cases h
            exact t
        obtain ⟨y14, hy14, h⟩ := hq_bind h
        have t := hg_tr t (hg_fw (by decide) (f_X12_cornerAhead_fw hy14))
        by_cases c15 : (hq_gi y14.2 174 28) = 0
        · rw [if_pos c15, show (8 : Int32) = Int32.ofNat 8 from rfl, nb_mul, nb_add, nn_succ] at h
          obtain ⟨s16, hs16, h⟩ := hq_bind h
          obtain ⟨t16, l16⟩ := hg_st hs16 (by omega) (by omega) (show 24 ≤ 8 * A + c by omega)
          have t := hg_tr t t16
          obtain ⟨s17, hs17, h⟩ := hq_bind h
          obtain ⟨t17, l17⟩ := hg_st hs17 (by omega) (by omega) (show 3 ≤ A by omega)
          have t := hg_tr t t17
          obtain ⟨z18, hz18, h⟩ := hq_bind h
          exact hg_tr t (ih (c + 1) z18 s17 (by omega) h)
        · rw [if_neg c15] at h
          cases h
          exact t
    · rw [if_neg c9] at h
      cases h
      exact t
theorem hg_beatLine (h : f_X12_beatLine n s = some y) : hg s y := by
  unfold f_X12_beatLine at h
  intro I
  obtain ⟨k, k1, k2⟩ := I 9 (by omega) (by omega) (by omega) (by omega)
  have k2' : hq_gi s 176 (7 + 2) = Int32.ofNat k := k2
  rw [fresher_v (a := 2) (j := 2) rfl (by omega), k2'] at h
  simp only [ob] at h
  obtain ⟨y2, hy2, h⟩ := hq_bind h
  have t := hg_fw (by decide) (f_X12_atHand_fw hy2)
  obtain ⟨g, g1, g2⟩ := hand_n k1 hy2
  obtain ⟨z3, hz3, h⟩ := hq_bind h
  have t : hg s z3 := by
    clear h
    have h := hz3
    by_cases c4 : (hq_gi y2.2 174 28) = 0
    · rw [if_pos c4] at h
      obtain ⟨x5, hx5, h⟩ := hq_bind h
      by_cases c6 : 0 < x5
      · rw [if_pos c6] at h
        obtain ⟨s7, hs7, h⟩ := hq_bind h
        cases h
        exact hg_tr t (hg_fw (by decide) (f_X12_wrong_fw hs7))
      · rw [if_neg c6] at h
        cases h
        exact t
    · rw [if_neg c4] at h
      cases h
      exact t
  obtain ⟨s8, hs8, h⟩ := hq_bind h
  have t := hg_tr t (hg_fw (by decide) (f_X12_goOn_fw hs8))
  rw [g2, show (3 : Int32) = Int32.ofNat 3 from rfl, nb_add] at h
  exact hg_tr t (hg_L46 (by omega) (by omega) _ 0 _ _ (by omega) h) I
theorem in_911 {x : Int32} (h1 : ¬ x < 9) (h2 : ¬ (11 : Int32) < x) : ∃ r : Nat, r < 3 ∧ x - 9 = Int32.ofNat r := by
  rw [Int32.lt_iff_toInt_lt] at h1 h2
  have e1 : (9 : Int32).toInt = 9 := rfl
  have e2 : (11 : Int32).toInt = 11 := rfl
  obtain ⟨j, j1, j2⟩ := nn_of (x := x) (by omega)
  rw [j2, nn_toInt (by omega)] at h1 h2
  refine ⟨j - 9, by omega, ?_⟩
  rw [j2]
  exact nb_sub (b := 9) (by omega)
theorem hg_lawLine (h : f_X12_lawLine n s = some y) : hg s y := by
  unfold f_X12_lawLine at h
  have t := hg_rf s
  obtain ⟨z1, hz1, h⟩ := hq_bind h
  have t : hg s z1 := by
    clear h
    have h := hz1
    by_cases c2 : (hq_gi s 174 26) = 0
    · rw [if_pos c2] at h
      by_cases c4 : (hq_gi s 174 27) < (9 : Int32)
      · rw [if_pos c4] at h
        obtain ⟨s5, hs5, h⟩ := hq_bind h
        have t := hg_tr t (hg_fw (by decide) (f_X12_wrong_fw hs5))
        cases h
        exact t
      · rw [if_neg c4] at h
        by_cases c6 : (11 : Int32) < (hq_gi s 174 27)
        · rw [if_pos c6] at h
          obtain ⟨s7, hs7, h⟩ := hq_bind h
          have t := hg_tr t (hg_fw (by decide) (f_X12_wrong_fw hs7))
          cases h
          exact t
        · rw [if_neg c6] at h
          cases h
          exact t
    · rw [if_neg c2] at h
      obtain ⟨s3, hs3, h⟩ := hq_bind h
      have t := hg_tr t (hg_fw (by decide) (f_X12_wrong_fw hs3))
      cases h
      exact t
  obtain ⟨z8, hz8, h⟩ := hq_bind h
  have t : hg s z8 := by
    clear h
    have h := hz8
    by_cases c9 : (hq_gi z1 174 28) = 0
    · rw [if_pos c9] at h
      by_cases c10 : (((hq_gi z1 174 21) >>> (((16 : Int32) + ((hq_gi z1 174 27) - (9 : Int32))) &&& 31)) &&& (1 : Int32)) = (1 : Int32)
      · rw [if_pos c10] at h
        obtain ⟨s11, hs11, h⟩ := hq_bind h
        have t := hg_tr t (hg_fw (by decide) (f_X12_wrong_fw hs11))
        cases h
        exact t
      · rw [if_neg c10] at h
        cases h
        exact t
    · rw [if_neg c9] at h
      cases h
      exact t
  by_cases c12 : (hq_gi z8 174 28) = 0
  · rw [if_pos c12] at h
    have ez : z8 = z1 ∧ hq_gi z1 174 28 = 0 := by
      clear h
      have h := hz8
      by_cases c9 : (hq_gi z1 174 28) = 0
      · rw [if_pos c9] at h
        by_cases c10 : (((hq_gi z1 174 21) >>> (((16 : Int32) + ((hq_gi z1 174 27) - (9 : Int32))) &&& 31)) &&& (1 : Int32)) = (1 : Int32)
        · rw [if_pos c10, fail_m c9] at h
          simp only [ob] at h
          cases h
          exact absurd c12 (fail_n (f := 3) (by decide))
        · rw [if_neg c10] at h
          cases h
          exact ⟨rfl, c9⟩
      · rw [if_neg c9] at h
        cases h
        exact absurd c12 c9
    have er : ∃ r : Nat, r < 3 ∧ hq_gi z1 174 27 - 9 = Int32.ofNat r := by
      clear h
      have h := hz1
      have f1 := ez.2
      have wn : ∀ {s s' : hq_S}, f_X12_wrong n 1 s = some s' → ¬ hq_gi s' 174 28 = 0 := fun {s s'} hw => by
        by_cases c : hq_gi s 174 28 = 0
        · rw [fail_m c] at hw
          cases hw
          exact fail_n (by decide)
        · unfold f_X12_wrong at hw
          rw [if_neg c] at hw
          cases hw
          exact c
      by_cases c2 : (hq_gi s 174 26) = 0
      · rw [if_pos c2] at h
        by_cases c4 : (hq_gi s 174 27) < (9 : Int32)
        · rw [if_pos c4] at h
          obtain ⟨s5, hs5, h⟩ := hq_bind h
          cases h
          exact absurd f1 (wn hs5)
        · rw [if_neg c4] at h
          by_cases c6 : (11 : Int32) < (hq_gi s 174 27)
          · rw [if_pos c6] at h
            obtain ⟨s7, hs7, h⟩ := hq_bind h
            cases h
            exact absurd f1 (wn hs7)
          · rw [if_neg c6] at h
            cases h
            exact in_911 c4 c6
      · rw [if_neg c2] at h
        obtain ⟨s3, hs3, h⟩ := hq_bind h
        cases h
        exact absurd f1 (wn hs3)
    obtain ⟨r, r1, r2⟩ := er
    rw [r2, show (3 : Int32) + Int32.ofNat r = Int32.ofNat (3 + r) from nb_add 3 r] at h
    obtain ⟨s13, hs13, h⟩ := hq_bind h
    have t := hg_tr t (hg_pi hs13 (by decide))
    obtain ⟨s14, hs14, h⟩ := hq_bind h
    have t := hg_tr t (hg_fw (by decide) (f_X12_token_fw hs14))
    obtain ⟨y15, hy15, h⟩ := hq_bind h
    have t := hg_tr t (hg_fw (by decide) (f_X12_fresher_fw hy15))
    obtain ⟨s16, hs16, h⟩ := hq_bind h
    have t := hg_tr t (hg_st hs16 (by omega) (by omega) (Nat.le_add_right _ _)).1
    obtain ⟨s17, hs17, h⟩ := hq_bind h
    have t := hg_tr t (f_X12_expression_hg hs17)
    obtain ⟨y18, hy18, h⟩ := hq_bind h
    have t := hg_tr t (hg_fw (by decide) (f_X12_fresher_fw hy18))
    obtain ⟨s19, hs19, h⟩ := hq_bind h
    have t := hg_tr t (hg_st hs19 (by omega) (by omega) (Nat.le_add_right _ _)).1
    have h := Option.some.inj h
    subst h
    exact t
  · rw [if_neg c12] at h
    have h := Option.some.inj h
    subst h
    exact t
theorem hg_line (h : f_X12_line n s = some y) : hg s y := by
  unfold f_X12_line at h
  have t := hg_rf s
  by_cases c1 : (hq_gi s 174 26) = 0
  · rw [if_pos c1] at h
    by_cases c3 : (8 : Int32) < (hq_gi s 174 27)
    · rw [if_pos c3] at h
      exact hg_tr t (f_X12_line_J16_hg h)
    · rw [if_neg c3] at h
      obtain ⟨y4, hy4, h⟩ := hq_bind h
      have t := hg_tr t (hg_fw (by decide) (f_X12_isFull_fw hy4))
      obtain ⟨z5, hz5, h⟩ := hq_bind h
      have t : hg s z5 := by
        clear h
        have h := hz5
        by_cases c6 : y4.1 = 0
        · rw [if_pos c6] at h
          by_cases c7 : (hq_gi s 174 27) = (6 : Int32)
          · rw [if_pos c7] at h
            by_cases c8 : (((hq_gi y4.2 174 21) >>> ((hq_gi s 174 27) &&& 31)) &&& (1 : Int32)) = (1 : Int32)
            · rw [if_pos c8] at h
              obtain ⟨s9, hs9, h⟩ := hq_bind h
              have t := hg_tr t (hg_fw (by decide) (f_X12_wrong_fw hs9))
              cases h
              exact t
            · rw [if_neg c8] at h
              cases h
              exact t
          · rw [if_neg c7] at h
            by_cases c10 : (hq_gi s 174 27) = (7 : Int32)
            · rw [if_pos c10] at h
              by_cases c11 : (((hq_gi y4.2 174 21) >>> ((hq_gi s 174 27) &&& 31)) &&& (1 : Int32)) = (1 : Int32)
              · rw [if_pos c11] at h
                obtain ⟨s12, hs12, h⟩ := hq_bind h
                have t := hg_tr t (hg_fw (by decide) (f_X12_wrong_fw hs12))
                cases h
                exact t
              · rw [if_neg c11] at h
                cases h
                exact t
            · rw [if_neg c10] at h
              cases h
              exact t
        · rw [if_neg c6] at h
          obtain ⟨s13, hs13, h⟩ := hq_bind h
          have t := hg_tr t (hg_fw (by decide) (f_X12_wrong_fw hs13))
          cases h
          exact t
      by_cases c14 : (hq_gi z5 174 28) = 0
      · rw [if_pos c14] at h
        obtain ⟨s15, hs15, h⟩ := hq_bind h
        have t := hg_tr t (hg_pi hs15 (by decide))
        obtain ⟨s16, hs16, h⟩ := hq_bind h
        have t := hg_tr t (hg_fw (by decide) (f_X12_token_fw hs16))
        by_cases c17 : (hq_gi s 174 27) = (0 : Int32)
        · rw [if_pos c17] at h
          exact hg_tr t (hg_c0 h)
        rw [if_neg c17] at h
        by_cases c35 : (hq_gi s 174 27) = (1 : Int32)
        · rw [if_pos c35] at h
          obtain ⟨z36, hz36, h⟩ := hq_bind h
          obtain ⟨s38, hs38, h⟩ := hq_bind h
          have t := hg_tr t (hg_laneLine hs38)
          exact hg_tr t (f_X12_line_J404_hg h)
        rw [if_neg c35] at h
        by_cases c39 : (hq_gi s 174 27) = (2 : Int32)
        · rw [if_pos c39] at h
          obtain ⟨z40, hz40, h⟩ := hq_bind h
          obtain ⟨s42, hs42, h⟩ := hq_bind h
          have t := hg_tr t (hg_laneLine hs42)
          exact hg_tr t (f_X12_line_J404_hg h)
        rw [if_neg c39] at h
        by_cases c43 : (hq_gi s 174 27) = (3 : Int32)
        · rw [if_pos c43] at h
          exact hg_tr t (hg_c3 h)
        rw [if_neg c43] at h
        by_cases c53 : (hq_gi s 174 27) = (4 : Int32)
        · rw [if_pos c53] at h
          obtain ⟨s54, hs54, h⟩ := hq_bind h
          have t := hg_tr t (hg_beatLine hs54)
          exact hg_tr t (f_X12_line_J404_hg h)
        rw [if_neg c53] at h
        by_cases c55 : (hq_gi s 174 27) = (5 : Int32)
        · rw [if_pos c55] at h
          exact hg_tr t (hg_c5 h)
        rw [if_neg c55] at h
        by_cases c66 : (hq_gi s 174 27) = (6 : Int32)
        · rw [if_pos c66] at h
          obtain ⟨y67, hy67, h⟩ := hq_bind h
          have t := hg_tr t (hg_fw (by decide) (f_X12_numeral_fw hy67))
          obtain ⟨s68, hs68, h⟩ := hq_bind h
          have t := hg_tr t (hg_reads (j := 4) hs68 rfl (by omega) (Or.inl (by omega)))
          exact hg_tr t (f_X12_line_J404_hg h)
        rw [if_neg c66] at h
        by_cases c69 : (hq_gi s 174 27) = (7 : Int32)
        · rw [if_pos c69] at h
          obtain ⟨y70, hy70, h⟩ := hq_bind h
          have t := hg_tr t (hg_fw (by decide) (f_X12_numeral_fw hy70))
          obtain ⟨s71, hs71, h⟩ := hq_bind h
          have t := hg_tr t (hg_reads (j := 5) hs71 rfl (by omega) (Or.inl (by omega)))
          exact hg_tr t (f_X12_line_J404_hg h)
        rw [if_neg c69] at h
        obtain ⟨s72, hs72, h⟩ := hq_bind h
        have t := hg_tr t (hg_lawLine hs72)
        exact hg_tr t (f_X12_line_J404_hg h)
      · rw [if_neg c14] at h
        have h := Option.some.inj h
        subst h
        exact t
  · rw [if_neg c1] at h
    exact hg_tr t (f_X12_line_J16_hg h)
end
