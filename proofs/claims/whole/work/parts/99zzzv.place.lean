/-! THE READER: a fault's place is written with a fault alone -/
def ph (c a b : Nat) (s s' : hq_S) : Prop := hq_gi s' c a = 0 → hq_gi s' c b = hq_gi s c b ∧ hq_gi s c a = 0
theorem ph_rf (c a b : Nat) (s : hq_S) : ph c a b s s := fun h => ⟨rfl, h⟩
theorem ph_tr {c a b : Nat} {s t u : hq_S} (h : ph c a b s t) (g : ph c a b t u) : ph c a b s u := fun k => ⟨(g k).1.trans (h (g k).2).1, (h (g k).2).2⟩
theorem ph_fw {c a b : Nat} {W : List (Nat × Option Nat)} {s t : hq_S} (h1 : hq_nw W c a = true) (h2 : hq_nw W c b = true) (f : hq_fc W s t) : ph c a b s t := fun k => ⟨(f c b h2).1, (f c a h1).1.symm.trans k⟩
theorem ph_no {c a b : Nat} {s t : hq_S} (h : ¬ hq_gi t c a = 0) : ph c a b s t := fun k => absurd k h
theorem ph_st {c a b : Nat} {s s1 : hq_S} {k L : Nat} {i x : Int32} (h : hq_st s k L i x = some s1) (hk : Nat.beq k c = false) : ph c a b s s1 := by
  have hk : ¬ c = k := fun e => by rw [e, Nat.beq_refl] at hk; cases hk
  unfold hq_st at h
  rcases mm_bif h with ⟨-, h⟩ | ⟨-, h⟩
  · cases h; exact fun q => ⟨nn_gk hk, (nn_gk hk).symm.trans q⟩
  · cases h
theorem ph_pi {c a b : Nat} {s s1 : hq_S} {k i d : Nat} {x : Int32} (h : hq_pi s k i d x = some s1) (hk : (Nat.beq k c && (Nat.beq i a || Nat.beq i b)) = false) : ph c a b s s1 := by
  have ha : ¬ (c = k ∧ a = i) := fun e => by rw [e.1, e.2, Nat.beq_refl, Nat.beq_refl] at hk; cases hk
  have hb : ¬ (c = k ∧ b = i) := fun e => by rw [e.1, e.2, Nat.beq_refl, Nat.beq_refl, Bool.or_true] at hk; cases hk
  unfold hq_pi at h
  rcases mm_bif h with ⟨-, h⟩ | ⟨-, h⟩
  · cases h; exact fun q => ⟨nn_n hb, (nn_n ha).symm.trans q⟩
  · cases h
theorem ph_pj {c a b : Nat} {s s1 : hq_S} {k i : Nat} {x : Int64} (h : hq_pj s k i x = some s1) : ph c a b s s1 := by
  cases h; exact fun q => ⟨rfl, q⟩
theorem ph_failed {n : Nat} {a1 : Int32} {s : hq_S} {y : Int32 × hq_S} (ha : ¬ a1 = 0) (h : f_X6_failed n a1 s = some y) : ph 48 7 8 s y.2 := by
  rw [fail_x] at h
  cases h
  refine ph_no ?_
  show ¬ hq_gi (hq_si (hq_si s 48 7 a1) 48 8 (hq_gi s 49 6)) 48 7 = 0
  rw [nn_n (by omega), nn_g1]
  exact ha
theorem ph_wrong {n : Nat} {a1 : Int32} {s y : hq_S} (ha : ¬ a1 = 0) (h : f_X12_wrong n a1 s = some y) : ph 174 28 29 s y := by
  by_cases c : hq_gi s 174 28 = 0
  · rw [fail_m c] at h
    cases h
    exact ph_no (fail_n ha)
  · unfold f_X12_wrong at h
    rw [if_neg c] at h
    cases h
    exact ph_no c
theorem f_X12_numeral_ph {n : Nat} {a1 : Int32} {a2 : Int32} {s : hq_S} {y : (Int32 × hq_S)} (h : f_X12_numeral n a1 a2 s = some y) : ph 174 28 29 s y.2 := by
  unfold f_X12_numeral at h
  have t := ph_rf 174 28 29 s
  by_cases c1 : (hq_gi s 174 28) = 0
  · rw [if_pos c1] at h
    obtain ⟨z2, hz2, h⟩ := hq_bind h
    have t : ph 174 28 29 s z2 := by
      clear h
      have h := hz2
      by_cases c3 : (hq_gi s 174 26) = (2 : Int32)
      · rw [if_pos c3] at h
        by_cases c4 : (hq_gi s 174 27) < a1
        · rw [if_pos c4] at h
          obtain ⟨s5, hs5, h⟩ := hq_bind h
          have t := ph_tr t (ph_wrong (by decide) hs5)
          cases h
          exact t
        · rw [if_neg c4] at h
          by_cases c6 : a2 < (hq_gi s 174 27)
          · rw [if_pos c6] at h
            obtain ⟨s7, hs7, h⟩ := hq_bind h
            have t := ph_tr t (ph_wrong (by decide) hs7)
            cases h
            exact t
          · rw [if_neg c6] at h
            cases h
            exact t
      · rw [if_neg c3] at h
        obtain ⟨s8, hs8, h⟩ := hq_bind h
        have t := ph_tr t (ph_wrong (by decide) hs8)
        cases h
        exact t
    by_cases c9 : (hq_gi z2 174 28) = 0
    · rw [if_pos c9] at h
      obtain ⟨s10, hs10, h⟩ := hq_bind h
      have t := ph_tr t (ph_fw (by decide) (by decide) (f_X12_token_fw hs10))
      have h := Option.some.inj h
      subst h
      exact t
    · rw [if_neg c9] at h
      have h := Option.some.inj h
      subst h
      exact t
  · rw [if_neg c1] at h
    have h := Option.some.inj h
    subst h
    exact t
theorem f_X12_fresh_ph {n : Nat} {k1 : Nat} {a2 : Int32} {a3 : Int32} {s : hq_S} {y : (Int32 × hq_S)} (h : f_X12_fresh n k1 a2 a3 s = some y) : ph 174 28 29 s y.2 := by
  unfold f_X12_fresh at h
  have t := ph_rf 174 28 29 s
  by_cases c1 : (hq_gi s 174 28) = 0
  · rw [if_pos c1] at h
    obtain ⟨z2, hz2, h⟩ := hq_bind h
    have t : ph 174 28 29 s z2 := by
      clear h
      have h := hz2
      by_cases c3 : (hq_gi s 174 26) = (1 : Int32)
      · rw [if_pos c3] at h
        obtain ⟨y4, hy4, h⟩ := hq_bind h
        have t := ph_tr t (ph_fw (by decide) (by decide) (f_X12_found_fw hy4))
        by_cases c5 : y4.1 = (-1 : Int32)
        · rw [if_pos c5] at h
          cases h
          exact t
        · rw [if_neg c5] at h
          obtain ⟨s6, hs6, h⟩ := hq_bind h
          have t := ph_tr t (ph_wrong (by decide) hs6)
          cases h
          exact t
      · rw [if_neg c3] at h
        obtain ⟨s7, hs7, h⟩ := hq_bind h
        have t := ph_tr t (ph_wrong (by decide) hs7)
        cases h
        exact t
    by_cases c8 : (hq_gi z2 174 28) = 0
    · rw [if_pos c8] at h
      obtain ⟨s9, hs9, h⟩ := hq_bind h
      have t := ph_tr t (ph_fw (by decide) (by decide) (f_X12_token_fw hs9))
      have h := Option.some.inj h
      subst h
      exact t
    · rw [if_neg c8] at h
      have h := Option.some.inj h
      subst h
      exact t
  · rw [if_neg c1] at h
    have h := Option.some.inj h
    subst h
    exact t
theorem f_X12_atHand_ph {n : Nat} {k1 : Nat} {a2 : Int32} {a3 : Int32} {s : hq_S} {y : (Int32 × hq_S)} (h : f_X12_atHand n k1 a2 a3 s = some y) : ph 174 28 29 s y.2 := by
  unfold f_X12_atHand at h
  have t := ph_rf 174 28 29 s
  by_cases c1 : (hq_gi s 174 28) = 0
  · rw [if_pos c1] at h
    obtain ⟨z2, hz2, h⟩ := hq_bind h
    have t : ph 174 28 29 s z2 := by
      clear h
      have h := hz2
      by_cases c3 : (hq_gi s 174 26) = (1 : Int32)
      · rw [if_pos c3] at h
        cases h
        exact t
      · rw [if_neg c3] at h
        obtain ⟨s4, hs4, h⟩ := hq_bind h
        have t := ph_tr t (ph_wrong (by decide) hs4)
        cases h
        exact t
    obtain ⟨z5, hz5, h⟩ := hq_bind h
    have t : ph 174 28 29 s z5.2 := by
      clear h
      have h := hz5
      by_cases c6 : (hq_gi z2 174 28) = 0
      · rw [if_pos c6] at h
        obtain ⟨y7, hy7, h⟩ := hq_bind h
        have t := ph_tr t (ph_fw (by decide) (by decide) (f_X12_found_fw hy7))
        cases h
        exact t
      · rw [if_neg c6] at h
        cases h
        exact t
    obtain ⟨z8, hz8, h⟩ := hq_bind h
    have t : ph 174 28 29 s z8 := by
      clear h
      have h := hz8
      by_cases c9 : (hq_gi z5.2 174 28) = 0
      · rw [if_pos c9] at h
        by_cases c10 : z5.1 = (-1 : Int32)
        · rw [if_pos c10] at h
          obtain ⟨s11, hs11, h⟩ := hq_bind h
          have t := ph_tr t (ph_wrong (by decide) hs11)
          cases h
          exact t
        · rw [if_neg c10] at h
          cases h
          exact t
      · rw [if_neg c9] at h
        cases h
        exact t
    by_cases c12 : (hq_gi z8 174 28) = 0
    · rw [if_pos c12] at h
      have h := Option.some.inj h
      subst h
      exact t
    · rw [if_neg c12] at h
      have h := Option.some.inj h
      subst h
      exact t
  · rw [if_neg c1] at h
    have h := Option.some.inj h
    subst h
    exact t
theorem f_X12_cornerAtHand_ph {n : Nat} {s : hq_S} {y : (Int32 × hq_S)} (h : f_X12_cornerAtHand n s = some y) : ph 174 28 29 s y.2 := by
  unfold f_X12_cornerAtHand at h
  have t := ph_rf 174 28 29 s
  obtain ⟨y1, hy1, h⟩ := hq_bind h
  have t := ph_tr t (ph_fw (by decide) (by decide) (f_X12_fresher_fw hy1))
  obtain ⟨y2, hy2, h⟩ := hq_bind h
  have t := ph_tr t (f_X12_atHand_ph hy2)
  have h := Option.some.inj h
  subst h
  exact t
theorem f_X12_cornerAhead_ph {n : Nat} {s : hq_S} {y : (Int32 × hq_S)} (h : f_X12_cornerAhead n s = some y) : ph 174 28 29 s y.2 := by
  unfold f_X12_cornerAhead at h
  have t := ph_rf 174 28 29 s
  obtain ⟨y1, hy1, h⟩ := hq_bind h
  have t := ph_tr t (f_X12_cornerAtHand_ph hy1)
  obtain ⟨s2, hs2, h⟩ := hq_bind h
  have t := ph_tr t (ph_fw (by decide) (by decide) (f_X12_goOn_fw hs2))
  have h := Option.some.inj h
  subst h
  exact t
theorem f_X12_laneLine_L66_B_ph {n : Nat} {a1 : Int32} {a2 : Int32} {a3 : Int32} {q66 : Int32 → Int32 → Int32 → hq_S → Option hq_S} {s : hq_S} {y : hq_S} (e66 : ∀ (a1 : Int32) (a2 : Int32) (a3 : Int32) (o4 : Option Value) (o5 : Option Value) (s : hq_S), q66 a1 a2 a3 s = some y → ph 174 28 29 s y) (h : f_X12_laneLine_L66_B n q66 a1 a2 a3 s = some y) : ph 174 28 29 s y := by
  unfold f_X12_laneLine_L66_B at h
  have t := ph_rf 174 28 29 s
  by_cases c13 : a3 < a2
  · rw [if_pos c13] at h
    obtain ⟨x17, hx17, h⟩ := hq_bind h
    obtain ⟨x18, hx18, h⟩ := hq_bind h
    obtain ⟨z19, hz19, h⟩ := hq_bind h
    obtain ⟨z24, hz24, h⟩ := hq_bind h
    obtain ⟨z32, hz32, h⟩ := hq_bind h
    have t : ph 174 28 29 s z32 := by
      clear h
      have h := hz32
      by_cases c33 : (hq_gi s 174 28) = 0
      · rw [if_pos c33] at h
        obtain ⟨x34, hx34, h⟩ := hq_bind h
        by_cases c35 : x34 = a1
        · rw [if_pos c35] at h
          by_cases c36 : z19 = 0
          · rw [if_pos c36] at h
            by_cases c38 : z24 = 0
            · rw [if_pos c38] at h
              cases h
              exact t
            · rw [if_neg c38] at h
              obtain ⟨s39, hs39, h⟩ := hq_bind h
              have t := ph_tr t (ph_wrong (by decide) hs39)
              cases h
              exact t
          · rw [if_neg c36] at h
            obtain ⟨s37, hs37, h⟩ := hq_bind h
            have t := ph_tr t (ph_wrong (by decide) hs37)
            cases h
            exact t
        · rw [if_neg c35] at h
          cases h
          exact t
      · rw [if_neg c33] at h
        cases h
        exact t
    exact ph_tr t (e66 a1 a2 (a3 + (1 : Int32)) none none z32 h)
  · rw [if_neg c13] at h
    obtain ⟨s14, hs14, h⟩ := hq_bind h
    have t := ph_tr t (ph_fw (by decide) (by decide) (f_X12_goOn_fw hs14))
    obtain ⟨y15, hy15, h⟩ := hq_bind h
    have t := ph_tr t (ph_fw (by decide) (by decide) (f_X12_fresher_fw hy15))
    obtain ⟨s16, hs16, h⟩ := hq_bind h
    have t := ph_tr t (ph_fw (by decide) (by decide) (f_X12_reads_fw hs16))
    have h := Option.some.inj h
    subst h
    exact t
theorem f_X12_laneLine_L66_ph {n m : Nat} {a1 : Int32} {a2 : Int32} {a3 : Int32} {s : hq_S} {y : hq_S} (h : f_X12_laneLine_L66 n m a1 a2 a3 s = some y) : ph 174 28 29 s y := by
  induction m generalizing a1 a2 a3 s with
  | zero => cases h
  | succ m ih => exact f_X12_laneLine_L66_B_ph (n := n) (a1 := a1) (a2 := a2) (a3 := a3) (q66 := f_X12_laneLine_L66 n m) (fun a1 a2 a3 _ _ s h => ih h) h
theorem f_X12_laneLine_ph {n : Nat} {a1 : Int32} {s : hq_S} {y : hq_S} (h : f_X12_laneLine n a1 s = some y) : ph 174 28 29 s y := by
  unfold f_X12_laneLine at h
  have t := ph_rf 174 28 29 s
  obtain ⟨y1, hy1, h⟩ := hq_bind h
  have t := ph_tr t (ph_fw (by decide) (by decide) (f_X12_fresher_fw hy1))
  obtain ⟨y2, hy2, h⟩ := hq_bind h
  have t := ph_tr t (f_X12_cornerAhead_ph hy2)
  obtain ⟨s3, hs3, h⟩ := hq_bind h
  have t := ph_tr t (ph_st hs3 (by decide))
  obtain ⟨y4, hy4, h⟩ := hq_bind h
  have t := ph_tr t (f_X12_cornerAtHand_ph hy4)
  obtain ⟨s5, hs5, h⟩ := hq_bind h
  have t := ph_tr t (ph_st hs5 (by decide))
  obtain ⟨s6, hs6, h⟩ := hq_bind h
  have t := ph_tr t (ph_st hs6 (by decide))
  obtain ⟨z7, hz7, h⟩ := hq_bind h
  have t : ph 174 28 29 s z7 := by
    clear h
    have h := hz7
    by_cases c8 : (hq_gi s6 174 28) = 0
    · rw [if_pos c8] at h
      obtain ⟨x9, hx9, h⟩ := hq_bind h
      obtain ⟨x10, hx10, h⟩ := hq_bind h
      by_cases c11 : x9 = x10
      · rw [if_pos c11] at h
        obtain ⟨s12, hs12, h⟩ := hq_bind h
        have t := ph_tr t (ph_wrong (by decide) hs12)
        cases h
        exact t
      · rw [if_neg c11] at h
        cases h
        exact t
    · rw [if_neg c8] at h
      cases h
      exact t
  exact ph_tr t (f_X12_laneLine_L66_ph h)
theorem f_X12_beatLine_L46_B_ph {n : Nat} {a1 : Int32} {a2 : Int32} {a3 : Int32} {q46 : Int32 → Int32 → Int32 → hq_S → Option hq_S} {s : hq_S} {y : hq_S} (e46 : ∀ (a1 : Int32) (a2 : Int32) (a3 : Int32) (o4 : Option Value) (s : hq_S), q46 a1 a2 a3 s = some y → ph 174 28 29 s y) (h : f_X12_beatLine_L46_B n q46 a1 a2 a3 s = some y) : ph 174 28 29 s y := by
  unfold f_X12_beatLine_L46_B at h
  have t := ph_rf 174 28 29 s
  by_cases c9 : (hq_gi s 174 28) = 0
  · rw [if_pos c9] at h
    by_cases c10 : a3 = 0
    · rw [if_pos c10] at h
      have h := Option.some.inj h
      subst h
      exact t
    · rw [if_neg c10] at h
      obtain ⟨z11, hz11, h⟩ := hq_bind h
      have t : ph 174 28 29 s z11 := by
        clear h
        have h := hz11
        by_cases c12 : a2 = (8 : Int32)
        · rw [if_pos c12] at h
          obtain ⟨s13, hs13, h⟩ := hq_bind h
          have t := ph_tr t (ph_wrong (by decide) hs13)
          cases h
          exact t
        · rw [if_neg c12] at h
          cases h
          exact t
      obtain ⟨y14, hy14, h⟩ := hq_bind h
      have t := ph_tr t (f_X12_cornerAhead_ph hy14)
      by_cases c15 : (hq_gi y14.2 174 28) = 0
      · rw [if_pos c15] at h
        obtain ⟨s16, hs16, h⟩ := hq_bind h
        have t := ph_tr t (ph_st hs16 (by decide))
        obtain ⟨s17, hs17, h⟩ := hq_bind h
        have t := ph_tr t (ph_st hs17 (by decide))
        obtain ⟨z18, hz18, h⟩ := hq_bind h
        exact ph_tr t (e46 a1 (a2 + (1 : Int32)) z18 none s17 h)
      · rw [if_neg c15] at h
        have h := Option.some.inj h
        subst h
        exact t
  · rw [if_neg c9] at h
    have h := Option.some.inj h
    subst h
    exact t
theorem f_X12_beatLine_L46_ph {n m : Nat} {a1 : Int32} {a2 : Int32} {a3 : Int32} {s : hq_S} {y : hq_S} (h : f_X12_beatLine_L46 n m a1 a2 a3 s = some y) : ph 174 28 29 s y := by
  induction m generalizing a1 a2 a3 s with
  | zero => cases h
  | succ m ih => exact f_X12_beatLine_L46_B_ph (n := n) (a1 := a1) (a2 := a2) (a3 := a3) (q46 := f_X12_beatLine_L46 n m) (fun a1 a2 a3 _ s h => ih h) h
theorem f_X12_beatLine_ph {n : Nat} {s : hq_S} {y : hq_S} (h : f_X12_beatLine n s = some y) : ph 174 28 29 s y := by
  unfold f_X12_beatLine at h
  have t := ph_rf 174 28 29 s
  obtain ⟨y1, hy1, h⟩ := hq_bind h
  have t := ph_tr t (ph_fw (by decide) (by decide) (f_X12_fresher_fw hy1))
  obtain ⟨y2, hy2, h⟩ := hq_bind h
  have t := ph_tr t (f_X12_atHand_ph hy2)
  obtain ⟨z3, hz3, h⟩ := hq_bind h
  have t : ph 174 28 29 s z3 := by
    clear h
    have h := hz3
    by_cases c4 : (hq_gi y2.2 174 28) = 0
    · rw [if_pos c4] at h
      obtain ⟨x5, hx5, h⟩ := hq_bind h
      by_cases c6 : 0 < x5
      · rw [if_pos c6] at h
        obtain ⟨s7, hs7, h⟩ := hq_bind h
        have t := ph_tr t (ph_wrong (by decide) hs7)
        cases h
        exact t
      · rw [if_neg c6] at h
        cases h
        exact t
    · rw [if_neg c4] at h
      cases h
      exact t
  obtain ⟨s8, hs8, h⟩ := hq_bind h
  have t := ph_tr t (ph_fw (by decide) (by decide) (f_X12_goOn_fw hs8))
  exact ph_tr t (f_X12_beatLine_L46_ph h)
theorem f_X12_knot_ph {n : Nat} {s : hq_S} {y : hq_S} (h : f_X12_knot n s = some y) : ph 174 28 29 s y := by
  unfold f_X12_knot at h
  have t := ph_rf 174 28 29 s
  by_cases c1 : (hq_gi s 174 28) = 0
  · rw [if_pos c1] at h
    by_cases c2 : (hq_gi s 174 33) = (64 : Int32)
    · rw [if_pos c2] at h
      obtain ⟨s4, hs4, h⟩ := hq_bind h
      have t := ph_tr t (ph_wrong (by decide) hs4)
      have h := Option.some.inj h
      subst h
      exact t
    · rw [if_neg c2] at h
      obtain ⟨s3, hs3, h⟩ := hq_bind h
      have t := ph_tr t (ph_pi hs3 (by decide))
      have h := Option.some.inj h
      subst h
      exact t
  · rw [if_neg c1] at h
    have h := Option.some.inj h
    subst h
    exact t
theorem f_X12_expression_L4_B_ph {n : Nat} {R0 : hq_S → Option hq_S} {R1 : hq_S → Option hq_S} {R2 : hq_S → Option hq_S} {R3 : hq_S → Option hq_S} {R4 : hq_S → Option hq_S} {R5 : hq_S → Option hq_S} {q4 : hq_S → Option hq_S} {s : hq_S} {y : hq_S} (E0 : ∀ (s : hq_S) (y : hq_S), R0 s = some y → ph 174 28 29 s y) (E1 : ∀ (s : hq_S) (y : hq_S), R1 s = some y → ph 174 28 29 s y) (E2 : ∀ (s : hq_S) (y : hq_S), R2 s = some y → ph 174 28 29 s y) (E3 : ∀ (s : hq_S) (y : hq_S), R3 s = some y → ph 174 28 29 s y) (E4 : ∀ (s : hq_S) (y : hq_S), R4 s = some y → ph 174 28 29 s y) (E5 : ∀ (s : hq_S) (y : hq_S), R5 s = some y → ph 174 28 29 s y) (e4 : ∀ (s : hq_S), q4 s = some y → ph 174 28 29 s y) (h : f_X12_expression_L4_B n R0 R1 R2 R3 R4 R5 q4 s = some y) : ph 174 28 29 s y := by
  unfold f_X12_expression_L4_B at h
  have t := ph_rf 174 28 29 s
  obtain ⟨y2, hy2, h⟩ := hq_bind h
  have t := ph_tr t (ph_fw (by decide) (by decide) (f_X12_isWord_fw hy2))
  by_cases c3 : y2.1 = 0
  · rw [if_pos c3] at h
    have h := Option.some.inj h
    subst h
    exact t
  · rw [if_neg c3] at h
    obtain ⟨s4, hs4, h⟩ := hq_bind h
    have t := ph_tr t (f_X12_knot_ph hs4)
    obtain ⟨s5, hs5, h⟩ := hq_bind h
    have t := ph_tr t (ph_fw (by decide) (by decide) (f_X12_goOn_fw hs5))
    obtain ⟨s6, hs6, h⟩ := hq_bind h
    have t := ph_tr t (E1 _ _ hs6)
    obtain ⟨s7, hs7, h⟩ := hq_bind h
    have t := ph_tr t (ph_fw (by decide) (by decide) (f_X12_puts_fw hs7))
    exact ph_tr t (e4 s7 h)
theorem f_X12_expression_L4_ph {n m : Nat} {R0 : hq_S → Option hq_S} {R1 : hq_S → Option hq_S} {R2 : hq_S → Option hq_S} {R3 : hq_S → Option hq_S} {R4 : hq_S → Option hq_S} {R5 : hq_S → Option hq_S} {s : hq_S} {y : hq_S} (E0 : ∀ (s : hq_S) (y : hq_S), R0 s = some y → ph 174 28 29 s y) (E1 : ∀ (s : hq_S) (y : hq_S), R1 s = some y → ph 174 28 29 s y) (E2 : ∀ (s : hq_S) (y : hq_S), R2 s = some y → ph 174 28 29 s y) (E3 : ∀ (s : hq_S) (y : hq_S), R3 s = some y → ph 174 28 29 s y) (E4 : ∀ (s : hq_S) (y : hq_S), R4 s = some y → ph 174 28 29 s y) (E5 : ∀ (s : hq_S) (y : hq_S), R5 s = some y → ph 174 28 29 s y) (h : f_X12_expression_L4 n R0 R1 R2 R3 R4 R5 m s = some y) : ph 174 28 29 s y := by
  induction m generalizing s with
  | zero => cases h
  | succ m ih => exact f_X12_expression_L4_B_ph (n := n) (q4 := f_X12_expression_L4 n R0 R1 R2 R3 R4 R5 m) E0 E1 E2 E3 E4 E5 (fun s h => ih h) h
theorem f_X12_expression_S_ph {n : Nat} {R0 : hq_S → Option hq_S} {R1 : hq_S → Option hq_S} {R2 : hq_S → Option hq_S} {R3 : hq_S → Option hq_S} {R4 : hq_S → Option hq_S} {R5 : hq_S → Option hq_S} {s : hq_S} {y : hq_S} (E0 : ∀ (s : hq_S) (y : hq_S), R0 s = some y → ph 174 28 29 s y) (E1 : ∀ (s : hq_S) (y : hq_S), R1 s = some y → ph 174 28 29 s y) (E2 : ∀ (s : hq_S) (y : hq_S), R2 s = some y → ph 174 28 29 s y) (E3 : ∀ (s : hq_S) (y : hq_S), R3 s = some y → ph 174 28 29 s y) (E4 : ∀ (s : hq_S) (y : hq_S), R4 s = some y → ph 174 28 29 s y) (E5 : ∀ (s : hq_S) (y : hq_S), R5 s = some y → ph 174 28 29 s y) (h : f_X12_expression_S n R0 R1 R2 R3 R4 R5 s = some y) : ph 174 28 29 s y := by
  unfold f_X12_expression_S at h
  have t := ph_rf 174 28 29 s
  obtain ⟨s1, hs1, h⟩ := hq_bind h
  have t := ph_tr t (E1 _ _ hs1)
  exact ph_tr t (f_X12_expression_L4_ph E0 E1 E2 E3 E4 E5 h)
theorem f_X12_conjunction_L4_B_ph {n : Nat} {R0 : hq_S → Option hq_S} {R1 : hq_S → Option hq_S} {R2 : hq_S → Option hq_S} {R3 : hq_S → Option hq_S} {R4 : hq_S → Option hq_S} {R5 : hq_S → Option hq_S} {q4 : hq_S → Option hq_S} {s : hq_S} {y : hq_S} (E0 : ∀ (s : hq_S) (y : hq_S), R0 s = some y → ph 174 28 29 s y) (E1 : ∀ (s : hq_S) (y : hq_S), R1 s = some y → ph 174 28 29 s y) (E2 : ∀ (s : hq_S) (y : hq_S), R2 s = some y → ph 174 28 29 s y) (E3 : ∀ (s : hq_S) (y : hq_S), R3 s = some y → ph 174 28 29 s y) (E4 : ∀ (s : hq_S) (y : hq_S), R4 s = some y → ph 174 28 29 s y) (E5 : ∀ (s : hq_S) (y : hq_S), R5 s = some y → ph 174 28 29 s y) (e4 : ∀ (s : hq_S), q4 s = some y → ph 174 28 29 s y) (h : f_X12_conjunction_L4_B n R0 R1 R2 R3 R4 R5 q4 s = some y) : ph 174 28 29 s y := by
  unfold f_X12_conjunction_L4_B at h
  have t := ph_rf 174 28 29 s
  obtain ⟨y2, hy2, h⟩ := hq_bind h
  have t := ph_tr t (ph_fw (by decide) (by decide) (f_X12_isWord_fw hy2))
  by_cases c3 : y2.1 = 0
  · rw [if_pos c3] at h
    have h := Option.some.inj h
    subst h
    exact t
  · rw [if_neg c3] at h
    obtain ⟨s4, hs4, h⟩ := hq_bind h
    have t := ph_tr t (f_X12_knot_ph hs4)
    obtain ⟨s5, hs5, h⟩ := hq_bind h
    have t := ph_tr t (ph_fw (by decide) (by decide) (f_X12_goOn_fw hs5))
    obtain ⟨s6, hs6, h⟩ := hq_bind h
    have t := ph_tr t (E2 _ _ hs6)
    obtain ⟨s7, hs7, h⟩ := hq_bind h
    have t := ph_tr t (ph_fw (by decide) (by decide) (f_X12_puts_fw hs7))
    exact ph_tr t (e4 s7 h)
theorem f_X12_conjunction_L4_ph {n m : Nat} {R0 : hq_S → Option hq_S} {R1 : hq_S → Option hq_S} {R2 : hq_S → Option hq_S} {R3 : hq_S → Option hq_S} {R4 : hq_S → Option hq_S} {R5 : hq_S → Option hq_S} {s : hq_S} {y : hq_S} (E0 : ∀ (s : hq_S) (y : hq_S), R0 s = some y → ph 174 28 29 s y) (E1 : ∀ (s : hq_S) (y : hq_S), R1 s = some y → ph 174 28 29 s y) (E2 : ∀ (s : hq_S) (y : hq_S), R2 s = some y → ph 174 28 29 s y) (E3 : ∀ (s : hq_S) (y : hq_S), R3 s = some y → ph 174 28 29 s y) (E4 : ∀ (s : hq_S) (y : hq_S), R4 s = some y → ph 174 28 29 s y) (E5 : ∀ (s : hq_S) (y : hq_S), R5 s = some y → ph 174 28 29 s y) (h : f_X12_conjunction_L4 n R0 R1 R2 R3 R4 R5 m s = some y) : ph 174 28 29 s y := by
  induction m generalizing s with
  | zero => cases h
  | succ m ih => exact f_X12_conjunction_L4_B_ph (n := n) (q4 := f_X12_conjunction_L4 n R0 R1 R2 R3 R4 R5 m) E0 E1 E2 E3 E4 E5 (fun s h => ih h) h
theorem f_X12_conjunction_S_ph {n : Nat} {R0 : hq_S → Option hq_S} {R1 : hq_S → Option hq_S} {R2 : hq_S → Option hq_S} {R3 : hq_S → Option hq_S} {R4 : hq_S → Option hq_S} {R5 : hq_S → Option hq_S} {s : hq_S} {y : hq_S} (E0 : ∀ (s : hq_S) (y : hq_S), R0 s = some y → ph 174 28 29 s y) (E1 : ∀ (s : hq_S) (y : hq_S), R1 s = some y → ph 174 28 29 s y) (E2 : ∀ (s : hq_S) (y : hq_S), R2 s = some y → ph 174 28 29 s y) (E3 : ∀ (s : hq_S) (y : hq_S), R3 s = some y → ph 174 28 29 s y) (E4 : ∀ (s : hq_S) (y : hq_S), R4 s = some y → ph 174 28 29 s y) (E5 : ∀ (s : hq_S) (y : hq_S), R5 s = some y → ph 174 28 29 s y) (h : f_X12_conjunction_S n R0 R1 R2 R3 R4 R5 s = some y) : ph 174 28 29 s y := by
  unfold f_X12_conjunction_S at h
  have t := ph_rf 174 28 29 s
  obtain ⟨s1, hs1, h⟩ := hq_bind h
  have t := ph_tr t (E2 _ _ hs1)
  exact ph_tr t (f_X12_conjunction_L4_ph E0 E1 E2 E3 E4 E5 h)
theorem f_X12_negation_J87_ph {n : Nat} {R0 : hq_S → Option hq_S} {R1 : hq_S → Option hq_S} {R2 : hq_S → Option hq_S} {R3 : hq_S → Option hq_S} {R4 : hq_S → Option hq_S} {R5 : hq_S → Option hq_S} {s : hq_S} {y : hq_S} (E0 : ∀ (s : hq_S) (y : hq_S), R0 s = some y → ph 174 28 29 s y) (E1 : ∀ (s : hq_S) (y : hq_S), R1 s = some y → ph 174 28 29 s y) (E2 : ∀ (s : hq_S) (y : hq_S), R2 s = some y → ph 174 28 29 s y) (E3 : ∀ (s : hq_S) (y : hq_S), R3 s = some y → ph 174 28 29 s y) (E4 : ∀ (s : hq_S) (y : hq_S), R4 s = some y → ph 174 28 29 s y) (E5 : ∀ (s : hq_S) (y : hq_S), R5 s = some y → ph 174 28 29 s y) (h : f_X12_negation_J87 n R0 R1 R2 R3 R4 R5 s = some y) : ph 174 28 29 s y := by
  unfold f_X12_negation_J87 at h
  have t := ph_rf 174 28 29 s
  obtain ⟨s7, hs7, h⟩ := hq_bind h
  have t := ph_tr t (f_X12_knot_ph hs7)
  obtain ⟨s8, hs8, h⟩ := hq_bind h
  have t := ph_tr t (ph_fw (by decide) (by decide) (f_X12_goOn_fw hs8))
  obtain ⟨s9, hs9, h⟩ := hq_bind h
  have t := ph_tr t (E3 _ _ hs9)
  obtain ⟨s10, hs10, h⟩ := hq_bind h
  have t := ph_tr t (ph_fw (by decide) (by decide) (f_X12_puts_fw hs10))
  have h := Option.some.inj h
  subst h
  exact t
theorem f_X12_negation_S_ph {n : Nat} {R0 : hq_S → Option hq_S} {R1 : hq_S → Option hq_S} {R2 : hq_S → Option hq_S} {R3 : hq_S → Option hq_S} {R4 : hq_S → Option hq_S} {R5 : hq_S → Option hq_S} {s : hq_S} {y : hq_S} (E0 : ∀ (s : hq_S) (y : hq_S), R0 s = some y → ph 174 28 29 s y) (E1 : ∀ (s : hq_S) (y : hq_S), R1 s = some y → ph 174 28 29 s y) (E2 : ∀ (s : hq_S) (y : hq_S), R2 s = some y → ph 174 28 29 s y) (E3 : ∀ (s : hq_S) (y : hq_S), R3 s = some y → ph 174 28 29 s y) (E4 : ∀ (s : hq_S) (y : hq_S), R4 s = some y → ph 174 28 29 s y) (E5 : ∀ (s : hq_S) (y : hq_S), R5 s = some y → ph 174 28 29 s y) (h : f_X12_negation_S n R0 R1 R2 R3 R4 R5 s = some y) : ph 174 28 29 s y := by
  unfold f_X12_negation_S at h
  have t := ph_rf 174 28 29 s
  obtain ⟨y1, hy1, h⟩ := hq_bind h
  have t := ph_tr t (ph_fw (by decide) (by decide) (f_X12_isWord_fw hy1))
  by_cases c2 : y1.1 = 0
  · rw [if_pos c2] at h
    obtain ⟨s3, hs3, h⟩ := hq_bind h
    have t := ph_tr t (E3 _ _ hs3)
    by_cases c4 : (hq_gi s3 174 28) = 0
    · rw [if_pos c4] at h
      by_cases c5 : (hq_gi s3 174 26) = (3 : Int32)
      · rw [if_pos c5] at h
        by_cases c6 : (hq_gi s3 174 27) = (60 : Int32)
        · rw [if_pos c6] at h
          exact ph_tr t (f_X12_negation_J87_ph E0 E1 E2 E3 E4 E5 h)
        · rw [if_neg c6] at h
          by_cases c11 : (hq_gi s3 174 27) = (62 : Int32)
          · rw [if_pos c11] at h
            exact ph_tr t (f_X12_negation_J87_ph E0 E1 E2 E3 E4 E5 h)
          · rw [if_neg c11] at h
            by_cases c12 : (hq_gi s3 174 27) = (61 : Int32)
            · rw [if_pos c12] at h
              exact ph_tr t (f_X12_negation_J87_ph E0 E1 E2 E3 E4 E5 h)
            · rw [if_neg c12] at h
              by_cases c13 : (hq_gi s3 174 27) < (256 : Int32)
              · rw [if_pos c13] at h
                have h := Option.some.inj h
                subst h
                exact t
              · rw [if_neg c13] at h
                exact ph_tr t (f_X12_negation_J87_ph E0 E1 E2 E3 E4 E5 h)
      · rw [if_neg c5] at h
        have h := Option.some.inj h
        subst h
        exact t
    · rw [if_neg c4] at h
      have h := Option.some.inj h
      subst h
      exact t
  · rw [if_neg c2] at h
    obtain ⟨s14, hs14, h⟩ := hq_bind h
    have t := ph_tr t (f_X12_knot_ph hs14)
    obtain ⟨s15, hs15, h⟩ := hq_bind h
    have t := ph_tr t (ph_fw (by decide) (by decide) (f_X12_goOn_fw hs15))
    obtain ⟨s16, hs16, h⟩ := hq_bind h
    have t := ph_tr t (E2 _ _ hs16)
    obtain ⟨s17, hs17, h⟩ := hq_bind h
    have t := ph_tr t (ph_fw (by decide) (by decide) (f_X12_puts_fw hs17))
    have h := Option.some.inj h
    subst h
    exact t
theorem f_X12_sum_J22_ph {n : Nat} {R0 : hq_S → Option hq_S} {R1 : hq_S → Option hq_S} {R2 : hq_S → Option hq_S} {R3 : hq_S → Option hq_S} {R4 : hq_S → Option hq_S} {R5 : hq_S → Option hq_S} {q4 : hq_S → Option hq_S} {s : hq_S} {y : hq_S} (E0 : ∀ (s : hq_S) (y : hq_S), R0 s = some y → ph 174 28 29 s y) (E1 : ∀ (s : hq_S) (y : hq_S), R1 s = some y → ph 174 28 29 s y) (E2 : ∀ (s : hq_S) (y : hq_S), R2 s = some y → ph 174 28 29 s y) (E3 : ∀ (s : hq_S) (y : hq_S), R3 s = some y → ph 174 28 29 s y) (E4 : ∀ (s : hq_S) (y : hq_S), R4 s = some y → ph 174 28 29 s y) (E5 : ∀ (s : hq_S) (y : hq_S), R5 s = some y → ph 174 28 29 s y) (e4 : ∀ (o1 : Option Value) (s : hq_S), q4 s = some y → ph 174 28 29 s y) (h : f_X12_sum_J22 n R0 R1 R2 R3 R4 R5 q4 s = some y) : ph 174 28 29 s y := by
  unfold f_X12_sum_J22 at h
  have t := ph_rf 174 28 29 s
  obtain ⟨s4, hs4, h⟩ := hq_bind h
  have t := ph_tr t (f_X12_knot_ph hs4)
  obtain ⟨s5, hs5, h⟩ := hq_bind h
  have t := ph_tr t (ph_fw (by decide) (by decide) (f_X12_goOn_fw hs5))
  obtain ⟨s6, hs6, h⟩ := hq_bind h
  have t := ph_tr t (E4 _ _ hs6)
  obtain ⟨s7, hs7, h⟩ := hq_bind h
  have t := ph_tr t (ph_fw (by decide) (by decide) (f_X12_puts_fw hs7))
  exact ph_tr t (e4 none s7 h)
theorem f_X12_sum_L4_B_ph {n : Nat} {R0 : hq_S → Option hq_S} {R1 : hq_S → Option hq_S} {R2 : hq_S → Option hq_S} {R3 : hq_S → Option hq_S} {R4 : hq_S → Option hq_S} {R5 : hq_S → Option hq_S} {q4 : hq_S → Option hq_S} {s : hq_S} {y : hq_S} (E0 : ∀ (s : hq_S) (y : hq_S), R0 s = some y → ph 174 28 29 s y) (E1 : ∀ (s : hq_S) (y : hq_S), R1 s = some y → ph 174 28 29 s y) (E2 : ∀ (s : hq_S) (y : hq_S), R2 s = some y → ph 174 28 29 s y) (E3 : ∀ (s : hq_S) (y : hq_S), R3 s = some y → ph 174 28 29 s y) (E4 : ∀ (s : hq_S) (y : hq_S), R4 s = some y → ph 174 28 29 s y) (E5 : ∀ (s : hq_S) (y : hq_S), R5 s = some y → ph 174 28 29 s y) (e4 : ∀ (o1 : Option Value) (s : hq_S), q4 s = some y → ph 174 28 29 s y) (h : f_X12_sum_L4_B n R0 R1 R2 R3 R4 R5 q4 s = some y) : ph 174 28 29 s y := by
  unfold f_X12_sum_L4_B at h
  have t := ph_rf 174 28 29 s
  obtain ⟨y2, hy2, h⟩ := hq_bind h
  have t := ph_tr t (ph_fw (by decide) (by decide) (f_X12_isSign_fw hy2))
  by_cases c3 : y2.1 = 0
  · rw [if_pos c3] at h
    obtain ⟨y8, hy8, h⟩ := hq_bind h
    have t := ph_tr t (ph_fw (by decide) (by decide) (f_X12_isSign_fw hy8))
    by_cases c9 : y8.1 = 0
    · rw [if_pos c9] at h
      have h := Option.some.inj h
      subst h
      exact t
    · rw [if_neg c9] at h
      exact ph_tr t (f_X12_sum_J22_ph E0 E1 E2 E3 E4 E5 e4 h)
  · rw [if_neg c3] at h
    exact ph_tr t (f_X12_sum_J22_ph E0 E1 E2 E3 E4 E5 e4 h)
theorem f_X12_sum_L4_ph {n m : Nat} {R0 : hq_S → Option hq_S} {R1 : hq_S → Option hq_S} {R2 : hq_S → Option hq_S} {R3 : hq_S → Option hq_S} {R4 : hq_S → Option hq_S} {R5 : hq_S → Option hq_S} {s : hq_S} {y : hq_S} (E0 : ∀ (s : hq_S) (y : hq_S), R0 s = some y → ph 174 28 29 s y) (E1 : ∀ (s : hq_S) (y : hq_S), R1 s = some y → ph 174 28 29 s y) (E2 : ∀ (s : hq_S) (y : hq_S), R2 s = some y → ph 174 28 29 s y) (E3 : ∀ (s : hq_S) (y : hq_S), R3 s = some y → ph 174 28 29 s y) (E4 : ∀ (s : hq_S) (y : hq_S), R4 s = some y → ph 174 28 29 s y) (E5 : ∀ (s : hq_S) (y : hq_S), R5 s = some y → ph 174 28 29 s y) (h : f_X12_sum_L4 n R0 R1 R2 R3 R4 R5 m s = some y) : ph 174 28 29 s y := by
  induction m generalizing s with
  | zero => cases h
  | succ m ih => exact f_X12_sum_L4_B_ph (n := n) (q4 := f_X12_sum_L4 n R0 R1 R2 R3 R4 R5 m) E0 E1 E2 E3 E4 E5 (fun _ s h => ih h) h
theorem f_X12_sum_S_ph {n : Nat} {R0 : hq_S → Option hq_S} {R1 : hq_S → Option hq_S} {R2 : hq_S → Option hq_S} {R3 : hq_S → Option hq_S} {R4 : hq_S → Option hq_S} {R5 : hq_S → Option hq_S} {s : hq_S} {y : hq_S} (E0 : ∀ (s : hq_S) (y : hq_S), R0 s = some y → ph 174 28 29 s y) (E1 : ∀ (s : hq_S) (y : hq_S), R1 s = some y → ph 174 28 29 s y) (E2 : ∀ (s : hq_S) (y : hq_S), R2 s = some y → ph 174 28 29 s y) (E3 : ∀ (s : hq_S) (y : hq_S), R3 s = some y → ph 174 28 29 s y) (E4 : ∀ (s : hq_S) (y : hq_S), R4 s = some y → ph 174 28 29 s y) (E5 : ∀ (s : hq_S) (y : hq_S), R5 s = some y → ph 174 28 29 s y) (h : f_X12_sum_S n R0 R1 R2 R3 R4 R5 s = some y) : ph 174 28 29 s y := by
  unfold f_X12_sum_S at h
  have t := ph_rf 174 28 29 s
  obtain ⟨s1, hs1, h⟩ := hq_bind h
  have t := ph_tr t (E4 _ _ hs1)
  exact ph_tr t (f_X12_sum_L4_ph E0 E1 E2 E3 E4 E5 h)
theorem f_X12_product_J22_ph {n : Nat} {R0 : hq_S → Option hq_S} {R1 : hq_S → Option hq_S} {R2 : hq_S → Option hq_S} {R3 : hq_S → Option hq_S} {R4 : hq_S → Option hq_S} {R5 : hq_S → Option hq_S} {q4 : hq_S → Option hq_S} {s : hq_S} {y : hq_S} (E0 : ∀ (s : hq_S) (y : hq_S), R0 s = some y → ph 174 28 29 s y) (E1 : ∀ (s : hq_S) (y : hq_S), R1 s = some y → ph 174 28 29 s y) (E2 : ∀ (s : hq_S) (y : hq_S), R2 s = some y → ph 174 28 29 s y) (E3 : ∀ (s : hq_S) (y : hq_S), R3 s = some y → ph 174 28 29 s y) (E4 : ∀ (s : hq_S) (y : hq_S), R4 s = some y → ph 174 28 29 s y) (E5 : ∀ (s : hq_S) (y : hq_S), R5 s = some y → ph 174 28 29 s y) (e4 : ∀ (o1 : Option Value) (s : hq_S), q4 s = some y → ph 174 28 29 s y) (h : f_X12_product_J22 n R0 R1 R2 R3 R4 R5 q4 s = some y) : ph 174 28 29 s y := by
  unfold f_X12_product_J22 at h
  have t := ph_rf 174 28 29 s
  obtain ⟨s4, hs4, h⟩ := hq_bind h
  have t := ph_tr t (f_X12_knot_ph hs4)
  obtain ⟨s5, hs5, h⟩ := hq_bind h
  have t := ph_tr t (ph_fw (by decide) (by decide) (f_X12_goOn_fw hs5))
  obtain ⟨s6, hs6, h⟩ := hq_bind h
  have t := ph_tr t (E5 _ _ hs6)
  obtain ⟨s7, hs7, h⟩ := hq_bind h
  have t := ph_tr t (ph_fw (by decide) (by decide) (f_X12_puts_fw hs7))
  exact ph_tr t (e4 none s7 h)
theorem f_X12_product_L4_B_ph {n : Nat} {R0 : hq_S → Option hq_S} {R1 : hq_S → Option hq_S} {R2 : hq_S → Option hq_S} {R3 : hq_S → Option hq_S} {R4 : hq_S → Option hq_S} {R5 : hq_S → Option hq_S} {q4 : hq_S → Option hq_S} {s : hq_S} {y : hq_S} (E0 : ∀ (s : hq_S) (y : hq_S), R0 s = some y → ph 174 28 29 s y) (E1 : ∀ (s : hq_S) (y : hq_S), R1 s = some y → ph 174 28 29 s y) (E2 : ∀ (s : hq_S) (y : hq_S), R2 s = some y → ph 174 28 29 s y) (E3 : ∀ (s : hq_S) (y : hq_S), R3 s = some y → ph 174 28 29 s y) (E4 : ∀ (s : hq_S) (y : hq_S), R4 s = some y → ph 174 28 29 s y) (E5 : ∀ (s : hq_S) (y : hq_S), R5 s = some y → ph 174 28 29 s y) (e4 : ∀ (o1 : Option Value) (s : hq_S), q4 s = some y → ph 174 28 29 s y) (h : f_X12_product_L4_B n R0 R1 R2 R3 R4 R5 q4 s = some y) : ph 174 28 29 s y := by
  unfold f_X12_product_L4_B at h
  have t := ph_rf 174 28 29 s
  obtain ⟨y2, hy2, h⟩ := hq_bind h
  have t := ph_tr t (ph_fw (by decide) (by decide) (f_X12_isSign_fw hy2))
  by_cases c3 : y2.1 = 0
  · rw [if_pos c3] at h
    obtain ⟨y8, hy8, h⟩ := hq_bind h
    have t := ph_tr t (ph_fw (by decide) (by decide) (f_X12_isSign_fw hy8))
    by_cases c9 : y8.1 = 0
    · rw [if_pos c9] at h
      have h := Option.some.inj h
      subst h
      exact t
    · rw [if_neg c9] at h
      exact ph_tr t (f_X12_product_J22_ph E0 E1 E2 E3 E4 E5 e4 h)
  · rw [if_neg c3] at h
    exact ph_tr t (f_X12_product_J22_ph E0 E1 E2 E3 E4 E5 e4 h)
theorem f_X12_product_L4_ph {n m : Nat} {R0 : hq_S → Option hq_S} {R1 : hq_S → Option hq_S} {R2 : hq_S → Option hq_S} {R3 : hq_S → Option hq_S} {R4 : hq_S → Option hq_S} {R5 : hq_S → Option hq_S} {s : hq_S} {y : hq_S} (E0 : ∀ (s : hq_S) (y : hq_S), R0 s = some y → ph 174 28 29 s y) (E1 : ∀ (s : hq_S) (y : hq_S), R1 s = some y → ph 174 28 29 s y) (E2 : ∀ (s : hq_S) (y : hq_S), R2 s = some y → ph 174 28 29 s y) (E3 : ∀ (s : hq_S) (y : hq_S), R3 s = some y → ph 174 28 29 s y) (E4 : ∀ (s : hq_S) (y : hq_S), R4 s = some y → ph 174 28 29 s y) (E5 : ∀ (s : hq_S) (y : hq_S), R5 s = some y → ph 174 28 29 s y) (h : f_X12_product_L4 n R0 R1 R2 R3 R4 R5 m s = some y) : ph 174 28 29 s y := by
  induction m generalizing s with
  | zero => cases h
  | succ m ih => exact f_X12_product_L4_B_ph (n := n) (q4 := f_X12_product_L4 n R0 R1 R2 R3 R4 R5 m) E0 E1 E2 E3 E4 E5 (fun _ s h => ih h) h
theorem f_X12_product_S_ph {n : Nat} {R0 : hq_S → Option hq_S} {R1 : hq_S → Option hq_S} {R2 : hq_S → Option hq_S} {R3 : hq_S → Option hq_S} {R4 : hq_S → Option hq_S} {R5 : hq_S → Option hq_S} {s : hq_S} {y : hq_S} (E0 : ∀ (s : hq_S) (y : hq_S), R0 s = some y → ph 174 28 29 s y) (E1 : ∀ (s : hq_S) (y : hq_S), R1 s = some y → ph 174 28 29 s y) (E2 : ∀ (s : hq_S) (y : hq_S), R2 s = some y → ph 174 28 29 s y) (E3 : ∀ (s : hq_S) (y : hq_S), R3 s = some y → ph 174 28 29 s y) (E4 : ∀ (s : hq_S) (y : hq_S), R4 s = some y → ph 174 28 29 s y) (E5 : ∀ (s : hq_S) (y : hq_S), R5 s = some y → ph 174 28 29 s y) (h : f_X12_product_S n R0 R1 R2 R3 R4 R5 s = some y) : ph 174 28 29 s y := by
  unfold f_X12_product_S at h
  have t := ph_rf 174 28 29 s
  obtain ⟨s1, hs1, h⟩ := hq_bind h
  have t := ph_tr t (E5 _ _ hs1)
  exact ph_tr t (f_X12_product_L4_ph E0 E1 E2 E3 E4 E5 h)
theorem f_X12_primary_S_ph {n : Nat} {R0 : hq_S → Option hq_S} {R1 : hq_S → Option hq_S} {R2 : hq_S → Option hq_S} {R3 : hq_S → Option hq_S} {R4 : hq_S → Option hq_S} {R5 : hq_S → Option hq_S} {s : hq_S} {y : hq_S} (E0 : ∀ (s : hq_S) (y : hq_S), R0 s = some y → ph 174 28 29 s y) (E1 : ∀ (s : hq_S) (y : hq_S), R1 s = some y → ph 174 28 29 s y) (E2 : ∀ (s : hq_S) (y : hq_S), R2 s = some y → ph 174 28 29 s y) (E3 : ∀ (s : hq_S) (y : hq_S), R3 s = some y → ph 174 28 29 s y) (E4 : ∀ (s : hq_S) (y : hq_S), R4 s = some y → ph 174 28 29 s y) (E5 : ∀ (s : hq_S) (y : hq_S), R5 s = some y → ph 174 28 29 s y) (h : f_X12_primary_S n R0 R1 R2 R3 R4 R5 s = some y) : ph 174 28 29 s y := by
  unfold f_X12_primary_S at h
  have t := ph_rf 174 28 29 s
  by_cases c1 : (hq_gi s 174 28) = 0
  · rw [if_pos c1] at h
    obtain ⟨y2, hy2, h⟩ := hq_bind h
    have t := ph_tr t (ph_fw (by decide) (by decide) (f_X12_isSign_fw hy2))
    by_cases c3 : y2.1 = 0
    · rw [if_pos c3] at h
      obtain ⟨z4, hz4, h⟩ := hq_bind h
      obtain ⟨z6, hz6, h⟩ := hq_bind h
      have t : ph 174 28 29 s z6 := by
        clear h
        have h := hz6
        by_cases c7 : z4 = 0
        · rw [if_pos c7] at h
          by_cases c8 : z4 = 0
          · rw [if_pos c8] at h
            by_cases c9 : (hq_gi y2.2 174 26) = 0
            · rw [if_pos c9] at h
              by_cases c11 : (hq_gi y2.2 174 27) < (15 : Int32)
              · rw [if_pos c11] at h
                obtain ⟨s12, hs12, h⟩ := hq_bind h
                have t := ph_tr t (ph_wrong (by decide) hs12)
                cases h
                exact t
              · rw [if_neg c11] at h
                cases h
                exact t
            · rw [if_neg c9] at h
              obtain ⟨s10, hs10, h⟩ := hq_bind h
              have t := ph_tr t (ph_wrong (by decide) hs10)
              cases h
              exact t
          · rw [if_neg c8] at h
            cases h
            exact t
        · rw [if_neg c7] at h
          by_cases c13 : (9999 : Int32) < (hq_gi y2.2 174 27)
          · rw [if_pos c13] at h
            obtain ⟨s19, hs19, h⟩ := hq_bind h
            have t := ph_tr t (ph_wrong (by decide) hs19)
            cases h
            exact t
          · rw [if_neg c13] at h
            by_cases c14 : z4 = 0
            · rw [if_pos c14] at h
              by_cases c15 : (hq_gi y2.2 174 26) = 0
              · rw [if_pos c15] at h
                by_cases c17 : (hq_gi y2.2 174 27) < (15 : Int32)
                · rw [if_pos c17] at h
                  obtain ⟨s18, hs18, h⟩ := hq_bind h
                  have t := ph_tr t (ph_wrong (by decide) hs18)
                  cases h
                  exact t
                · rw [if_neg c17] at h
                  cases h
                  exact t
              · rw [if_neg c15] at h
                obtain ⟨s16, hs16, h⟩ := hq_bind h
                have t := ph_tr t (ph_wrong (by decide) hs16)
                cases h
                exact t
            · rw [if_neg c14] at h
              cases h
              exact t
      obtain ⟨s20, hs20, h⟩ := hq_bind h
      have t := ph_tr t (f_X12_knot_ph hs20)
      obtain ⟨z21, hz21, h⟩ := hq_bind h
      obtain ⟨z23, hz23, h⟩ := hq_bind h
      obtain ⟨s25, hs25, h⟩ := hq_bind h
      have t := ph_tr t (ph_fw (by decide) (by decide) (f_X12_puts_fw hs25))
      obtain ⟨s26, hs26, h⟩ := hq_bind h
      have t := ph_tr t (ph_fw (by decide) (by decide) (f_X12_goOn_fw hs26))
      have h := Option.some.inj h
      subst h
      exact t
    · rw [if_neg c3] at h
      obtain ⟨z27, hz27, h⟩ := hq_bind h
      have t : ph 174 28 29 s z27 := by
        clear h
        have h := hz27
        by_cases c28 : (hq_gi y2.2 174 32) = (8 : Int32)
        · rw [if_pos c28] at h
          obtain ⟨s29, hs29, h⟩ := hq_bind h
          have t := ph_tr t (ph_wrong (by decide) hs29)
          cases h
          exact t
        · rw [if_neg c28] at h
          cases h
          exact t
      by_cases c30 : (hq_gi z27 174 28) = 0
      · rw [if_pos c30] at h
        obtain ⟨s31, hs31, h⟩ := hq_bind h
        have t := ph_tr t (ph_pi hs31 (by decide))
        obtain ⟨s32, hs32, h⟩ := hq_bind h
        have t := ph_tr t (ph_fw (by decide) (by decide) (f_X12_token_fw hs32))
        obtain ⟨s33, hs33, h⟩ := hq_bind h
        have t := ph_tr t (E0 _ _ hs33)
        obtain ⟨z34, hz34, h⟩ := hq_bind h
        have t : ph 174 28 29 s z34 := by
          clear h
          have h := hz34
          by_cases c35 : (hq_gi s33 174 28) = 0
          · rw [if_pos c35] at h
            obtain ⟨y36, hy36, h⟩ := hq_bind h
            have t := ph_tr t (ph_fw (by decide) (by decide) (f_X12_isSign_fw hy36))
            by_cases c37 : y36.1 = 0
            · rw [if_pos c37] at h
              obtain ⟨s38, hs38, h⟩ := hq_bind h
              have t := ph_tr t (ph_wrong (by decide) hs38)
              cases h
              exact t
            · rw [if_neg c37] at h
              cases h
              exact t
          · rw [if_neg c35] at h
            cases h
            exact t
        by_cases c39 : (hq_gi z34 174 28) = 0
        · rw [if_pos c39] at h
          obtain ⟨s40, hs40, h⟩ := hq_bind h
          have t := ph_tr t (ph_pi hs40 (by decide))
          obtain ⟨s41, hs41, h⟩ := hq_bind h
          have t := ph_tr t (ph_fw (by decide) (by decide) (f_X12_token_fw hs41))
          have h := Option.some.inj h
          subst h
          exact t
        · rw [if_neg c39] at h
          have h := Option.some.inj h
          subst h
          exact t
      · rw [if_neg c30] at h
        have h := Option.some.inj h
        subst h
        exact t
  · rw [if_neg c1] at h
    have h := Option.some.inj h
    subst h
    exact t
theorem f_X12_expression_G_ph {n : Nat} : ∀ k : Nat, (∀ (s : hq_S) (y : hq_S), f_X12_expression_G n k 0 s = some y → ph 174 28 29 s y) ∧ (∀ (s : hq_S) (y : hq_S), f_X12_expression_G n k 1 s = some y → ph 174 28 29 s y) ∧ (∀ (s : hq_S) (y : hq_S), f_X12_expression_G n k 2 s = some y → ph 174 28 29 s y) ∧ (∀ (s : hq_S) (y : hq_S), f_X12_expression_G n k 3 s = some y → ph 174 28 29 s y) ∧ (∀ (s : hq_S) (y : hq_S), f_X12_expression_G n k 4 s = some y → ph 174 28 29 s y) ∧ (∀ (s : hq_S) (y : hq_S), f_X12_expression_G n k 5 s = some y → ph 174 28 29 s y) := by
  intro k
  induction k with
  | zero =>
    refine ⟨?_, ?_, ?_, ?_, ?_, ?_⟩
    all_goals
      intros
      next h => cases h
  | succ k ih =>
    obtain ⟨I0, I1, I2, I3, I4, I5⟩ := ih
    refine ⟨?_, ?_, ?_, ?_, ?_, ?_⟩
    · intro s y h
      exact f_X12_expression_S_ph I0 I1 I2 I3 I4 I5 h
    · intro s y h
      exact f_X12_conjunction_S_ph I0 I1 I2 I3 I4 I5 h
    · intro s y h
      exact f_X12_negation_S_ph I0 I1 I2 I3 I4 I5 h
    · intro s y h
      exact f_X12_sum_S_ph I0 I1 I2 I3 I4 I5 h
    · intro s y h
      exact f_X12_product_S_ph I0 I1 I2 I3 I4 I5 h
    · intro s y h
      exact f_X12_primary_S_ph I0 I1 I2 I3 I4 I5 h
theorem f_X12_expression_ph {n : Nat} {s : hq_S} {y : hq_S} (h : f_X12_expression n s = some y) : ph 174 28 29 s y := (f_X12_expression_G_ph 200).1 s y h
theorem f_X12_conjunction_ph {n : Nat} {s : hq_S} {y : hq_S} (h : f_X12_conjunction n s = some y) : ph 174 28 29 s y := (f_X12_expression_G_ph 200).2.1 s y h
theorem f_X12_negation_ph {n : Nat} {s : hq_S} {y : hq_S} (h : f_X12_negation n s = some y) : ph 174 28 29 s y := (f_X12_expression_G_ph 200).2.2.1 s y h
theorem f_X12_sum_ph {n : Nat} {s : hq_S} {y : hq_S} (h : f_X12_sum n s = some y) : ph 174 28 29 s y := (f_X12_expression_G_ph 200).2.2.2.1 s y h
theorem f_X12_product_ph {n : Nat} {s : hq_S} {y : hq_S} (h : f_X12_product n s = some y) : ph 174 28 29 s y := (f_X12_expression_G_ph 200).2.2.2.2.1 s y h
theorem f_X12_primary_ph {n : Nat} {s : hq_S} {y : hq_S} (h : f_X12_primary n s = some y) : ph 174 28 29 s y := (f_X12_expression_G_ph 200).2.2.2.2.2 s y h
theorem f_X12_lawLine_ph {n : Nat} {s : hq_S} {y : hq_S} (h : f_X12_lawLine n s = some y) : ph 174 28 29 s y := by
  unfold f_X12_lawLine at h
  have t := ph_rf 174 28 29 s
  obtain ⟨z1, hz1, h⟩ := hq_bind h
  have t : ph 174 28 29 s z1 := by
    clear h
    have h := hz1
    by_cases c2 : (hq_gi s 174 26) = 0
    · rw [if_pos c2] at h
      by_cases c4 : (hq_gi s 174 27) < (9 : Int32)
      · rw [if_pos c4] at h
        obtain ⟨s5, hs5, h⟩ := hq_bind h
        have t := ph_tr t (ph_wrong (by decide) hs5)
        cases h
        exact t
      · rw [if_neg c4] at h
        by_cases c6 : (11 : Int32) < (hq_gi s 174 27)
        · rw [if_pos c6] at h
          obtain ⟨s7, hs7, h⟩ := hq_bind h
          have t := ph_tr t (ph_wrong (by decide) hs7)
          cases h
          exact t
        · rw [if_neg c6] at h
          cases h
          exact t
    · rw [if_neg c2] at h
      obtain ⟨s3, hs3, h⟩ := hq_bind h
      have t := ph_tr t (ph_wrong (by decide) hs3)
      cases h
      exact t
  obtain ⟨z8, hz8, h⟩ := hq_bind h
  have t : ph 174 28 29 s z8 := by
    clear h
    have h := hz8
    by_cases c9 : (hq_gi z1 174 28) = 0
    · rw [if_pos c9] at h
      by_cases c10 : (((hq_gi z1 174 21) >>> (((16 : Int32) + ((hq_gi z1 174 27) - (9 : Int32))) &&& 31)) &&& (1 : Int32)) = (1 : Int32)
      · rw [if_pos c10] at h
        obtain ⟨s11, hs11, h⟩ := hq_bind h
        have t := ph_tr t (ph_wrong (by decide) hs11)
        cases h
        exact t
      · rw [if_neg c10] at h
        cases h
        exact t
    · rw [if_neg c9] at h
      cases h
      exact t
  by_cases c12 : (hq_gi z8 174 28) = 0
  · rw [if_pos c12] at h
    obtain ⟨s13, hs13, h⟩ := hq_bind h
    have t := ph_tr t (ph_pi hs13 (by decide))
    obtain ⟨s14, hs14, h⟩ := hq_bind h
    have t := ph_tr t (ph_fw (by decide) (by decide) (f_X12_token_fw hs14))
    obtain ⟨y15, hy15, h⟩ := hq_bind h
    have t := ph_tr t (ph_fw (by decide) (by decide) (f_X12_fresher_fw hy15))
    obtain ⟨s16, hs16, h⟩ := hq_bind h
    have t := ph_tr t (ph_st hs16 (by decide))
    obtain ⟨s17, hs17, h⟩ := hq_bind h
    have t := ph_tr t (f_X12_expression_ph hs17)
    obtain ⟨y18, hy18, h⟩ := hq_bind h
    have t := ph_tr t (ph_fw (by decide) (by decide) (f_X12_fresher_fw hy18))
    obtain ⟨s19, hs19, h⟩ := hq_bind h
    have t := ph_tr t (ph_st hs19 (by decide))
    have h := Option.some.inj h
    subst h
    exact t
  · rw [if_neg c12] at h
    have h := Option.some.inj h
    subst h
    exact t
theorem f_X12_line_J16_ph {n : Nat} {s : hq_S} {y : hq_S} (h : f_X12_line_J16 n s = some y) : ph 174 28 29 s y := by
  unfold f_X12_line_J16 at h
  have t := ph_rf 174 28 29 s
  obtain ⟨s2, hs2, h⟩ := hq_bind h
  have t := ph_tr t (ph_wrong (by decide) hs2)
  have h := Option.some.inj h
  subst h
  exact t
theorem f_X12_line_J404_ph {n : Nat} {a1 : Int32} {s : hq_S} {y : hq_S} (h : f_X12_line_J404 n a1 s = some y) : ph 174 28 29 s y := by
  unfold f_X12_line_J404 at h
  have t := ph_rf 174 28 29 s
  by_cases c28 : (hq_gi s 174 28) = 0
  · rw [if_pos c28] at h
    obtain ⟨y29, hy29, h⟩ := hq_bind h
    have t := ph_tr t (ph_fw (by decide) (by decide) (f_X12_isSign_fw hy29))
    obtain ⟨z30, hz30, h⟩ := hq_bind h
    have t : ph 174 28 29 s z30 := by
      clear h
      have h := hz30
      by_cases c31 : y29.1 = 0
      · rw [if_pos c31] at h
        obtain ⟨s33, hs33, h⟩ := hq_bind h
        have t := ph_tr t (ph_wrong (by decide) hs33)
        cases h
        exact t
      · rw [if_neg c31] at h
        obtain ⟨s32, hs32, h⟩ := hq_bind h
        have t := ph_tr t (ph_fw (by decide) (by decide) (f_X12_token_fw hs32))
        cases h
        exact t
    obtain ⟨s34, hs34, h⟩ := hq_bind h
    have t := ph_tr t (ph_pi hs34 (by decide))
    have h := Option.some.inj h
    subst h
    exact t
  · rw [if_neg c28] at h
    have h := Option.some.inj h
    subst h
    exact t
theorem f_X12_line_ph {n : Nat} {s : hq_S} {y : hq_S} (h : f_X12_line n s = some y) : ph 174 28 29 s y := by
  unfold f_X12_line at h
  have t := ph_rf 174 28 29 s
  by_cases c1 : (hq_gi s 174 26) = 0
  · rw [if_pos c1] at h
    by_cases c3 : (8 : Int32) < (hq_gi s 174 27)
    · rw [if_pos c3] at h
      exact ph_tr t (f_X12_line_J16_ph h)
    · rw [if_neg c3] at h
      obtain ⟨y4, hy4, h⟩ := hq_bind h
      have t := ph_tr t (ph_fw (by decide) (by decide) (f_X12_isFull_fw hy4))
      obtain ⟨z5, hz5, h⟩ := hq_bind h
      have t : ph 174 28 29 s z5 := by
        clear h
        have h := hz5
        by_cases c6 : y4.1 = 0
        · rw [if_pos c6] at h
          by_cases c7 : (hq_gi s 174 27) = (6 : Int32)
          · rw [if_pos c7] at h
            by_cases c8 : (((hq_gi y4.2 174 21) >>> ((hq_gi s 174 27) &&& 31)) &&& (1 : Int32)) = (1 : Int32)
            · rw [if_pos c8] at h
              obtain ⟨s9, hs9, h⟩ := hq_bind h
              have t := ph_tr t (ph_wrong (by decide) hs9)
              cases h
              exact t
            · rw [if_neg c8] at h
              cases h
              exact t
          · rw [if_neg c7] at h
            by_cases c10 : (hq_gi s 174 27) = (7 : Int32)
            · rw [if_pos c10] at h
              by_cases c11 : (((hq_gi y4.2 174 21) >>> ((hq_gi s 174 27) &&& 31)) &&& (1 : Int32)) = (1 : Int32)
              · rw [if_pos c11] at h
                obtain ⟨s12, hs12, h⟩ := hq_bind h
                have t := ph_tr t (ph_wrong (by decide) hs12)
                cases h
                exact t
              · rw [if_neg c11] at h
                cases h
                exact t
            · rw [if_neg c10] at h
              cases h
              exact t
        · rw [if_neg c6] at h
          obtain ⟨s13, hs13, h⟩ := hq_bind h
          have t := ph_tr t (ph_wrong (by decide) hs13)
          cases h
          exact t
      by_cases c14 : (hq_gi z5 174 28) = 0
      · rw [if_pos c14] at h
        obtain ⟨s15, hs15, h⟩ := hq_bind h
        have t := ph_tr t (ph_pi hs15 (by decide))
        obtain ⟨s16, hs16, h⟩ := hq_bind h
        have t := ph_tr t (ph_fw (by decide) (by decide) (f_X12_token_fw hs16))
        by_cases c17 : (hq_gi s 174 27) = (0 : Int32)
        · rw [if_pos c17] at h
          obtain ⟨y18, hy18, h⟩ := hq_bind h
          have t := ph_tr t (ph_fw (by decide) (by decide) (f_X12_fresher_fw hy18))
          obtain ⟨y19, hy19, h⟩ := hq_bind h
          have t := ph_tr t (ph_fw (by decide) (by decide) (f_X12_fresher_fw hy19))
          obtain ⟨y20, hy20, h⟩ := hq_bind h
          have t := ph_tr t (f_X12_fresh_ph hy20)
          obtain ⟨s21, hs21, h⟩ := hq_bind h
          have t := ph_tr t (ph_st hs21 (by decide))
          obtain ⟨y22, hy22, h⟩ := hq_bind h
          have t := ph_tr t (f_X12_numeral_ph hy22)
          obtain ⟨s23, hs23, h⟩ := hq_bind h
          have t := ph_tr t (ph_st hs23 (by decide))
          obtain ⟨y24, hy24, h⟩ := hq_bind h
          have t := ph_tr t (f_X12_numeral_ph hy24)
          obtain ⟨s25, hs25, h⟩ := hq_bind h
          have t := ph_tr t (ph_st hs25 (by decide))
          obtain ⟨y26, hy26, h⟩ := hq_bind h
          have t := ph_tr t (ph_fw (by decide) (by decide) (f_X12_fresher_fw hy26))
          obtain ⟨s27, hs27, h⟩ := hq_bind h
          have t := ph_tr t (ph_fw (by decide) (by decide) (f_X12_reads_fw hs27))
          exact ph_tr t (f_X12_line_J404_ph h)
        rw [if_neg c17] at h
        by_cases c35 : (hq_gi s 174 27) = (1 : Int32)
        · rw [if_pos c35] at h
          obtain ⟨z36, hz36, h⟩ := hq_bind h
          obtain ⟨s38, hs38, h⟩ := hq_bind h
          have t := ph_tr t (f_X12_laneLine_ph hs38)
          exact ph_tr t (f_X12_line_J404_ph h)
        rw [if_neg c35] at h
        by_cases c39 : (hq_gi s 174 27) = (2 : Int32)
        · rw [if_pos c39] at h
          obtain ⟨z40, hz40, h⟩ := hq_bind h
          obtain ⟨s42, hs42, h⟩ := hq_bind h
          have t := ph_tr t (f_X12_laneLine_ph hs42)
          exact ph_tr t (f_X12_line_J404_ph h)
        rw [if_neg c39] at h
        by_cases c43 : (hq_gi s 174 27) = (3 : Int32)
        · rw [if_pos c43] at h
          obtain ⟨y44, hy44, h⟩ := hq_bind h
          have t := ph_tr t (ph_fw (by decide) (by decide) (f_X12_fresher_fw hy44))
          obtain ⟨y45, hy45, h⟩ := hq_bind h
          have t := ph_tr t (ph_fw (by decide) (by decide) (f_X12_fresher_fw hy45))
          obtain ⟨y46, hy46, h⟩ := hq_bind h
          have t := ph_tr t (f_X12_fresh_ph hy46)
          obtain ⟨s47, hs47, h⟩ := hq_bind h
          have t := ph_tr t (ph_st hs47 (by decide))
          obtain ⟨y48, hy48, h⟩ := hq_bind h
          have t := ph_tr t (f_X12_cornerAhead_ph hy48)
          obtain ⟨s49, hs49, h⟩ := hq_bind h
          have t := ph_tr t (ph_st hs49 (by decide))
          obtain ⟨s50, hs50, h⟩ := hq_bind h
          have t := ph_tr t (ph_st hs50 (by decide))
          obtain ⟨y51, hy51, h⟩ := hq_bind h
          have t := ph_tr t (ph_fw (by decide) (by decide) (f_X12_fresher_fw hy51))
          obtain ⟨s52, hs52, h⟩ := hq_bind h
          have t := ph_tr t (ph_fw (by decide) (by decide) (f_X12_reads_fw hs52))
          exact ph_tr t (f_X12_line_J404_ph h)
        rw [if_neg c43] at h
        by_cases c53 : (hq_gi s 174 27) = (4 : Int32)
        · rw [if_pos c53] at h
          obtain ⟨s54, hs54, h⟩ := hq_bind h
          have t := ph_tr t (f_X12_beatLine_ph hs54)
          exact ph_tr t (f_X12_line_J404_ph h)
        rw [if_neg c53] at h
        by_cases c55 : (hq_gi s 174 27) = (5 : Int32)
        · rw [if_pos c55] at h
          obtain ⟨y56, hy56, h⟩ := hq_bind h
          have t := ph_tr t (ph_fw (by decide) (by decide) (f_X12_fresher_fw hy56))
          obtain ⟨y57, hy57, h⟩ := hq_bind h
          have t := ph_tr t (ph_fw (by decide) (by decide) (f_X12_fresher_fw hy57))
          obtain ⟨y58, hy58, h⟩ := hq_bind h
          have t := ph_tr t (f_X12_fresh_ph hy58)
          obtain ⟨s59, hs59, h⟩ := hq_bind h
          have t := ph_tr t (ph_st hs59 (by decide))
          obtain ⟨y60, hy60, h⟩ := hq_bind h
          have t := ph_tr t (f_X12_cornerAhead_ph hy60)
          obtain ⟨s61, hs61, h⟩ := hq_bind h
          have t := ph_tr t (ph_st hs61 (by decide))
          obtain ⟨y62, hy62, h⟩ := hq_bind h
          have t := ph_tr t (f_X12_numeral_ph hy62)
          obtain ⟨s63, hs63, h⟩ := hq_bind h
          have t := ph_tr t (ph_st hs63 (by decide))
          obtain ⟨y64, hy64, h⟩ := hq_bind h
          have t := ph_tr t (ph_fw (by decide) (by decide) (f_X12_fresher_fw hy64))
          obtain ⟨s65, hs65, h⟩ := hq_bind h
          have t := ph_tr t (ph_fw (by decide) (by decide) (f_X12_reads_fw hs65))
          exact ph_tr t (f_X12_line_J404_ph h)
        rw [if_neg c55] at h
        by_cases c66 : (hq_gi s 174 27) = (6 : Int32)
        · rw [if_pos c66] at h
          obtain ⟨y67, hy67, h⟩ := hq_bind h
          have t := ph_tr t (f_X12_numeral_ph hy67)
          obtain ⟨s68, hs68, h⟩ := hq_bind h
          have t := ph_tr t (ph_fw (by decide) (by decide) (f_X12_reads_fw hs68))
          exact ph_tr t (f_X12_line_J404_ph h)
        rw [if_neg c66] at h
        by_cases c69 : (hq_gi s 174 27) = (7 : Int32)
        · rw [if_pos c69] at h
          obtain ⟨y70, hy70, h⟩ := hq_bind h
          have t := ph_tr t (f_X12_numeral_ph hy70)
          obtain ⟨s71, hs71, h⟩ := hq_bind h
          have t := ph_tr t (ph_fw (by decide) (by decide) (f_X12_reads_fw hs71))
          exact ph_tr t (f_X12_line_J404_ph h)
        rw [if_neg c69] at h
        obtain ⟨s72, hs72, h⟩ := hq_bind h
        have t := ph_tr t (f_X12_lawLine_ph hs72)
        exact ph_tr t (f_X12_line_J404_ph h)
      · rw [if_neg c14] at h
        have h := Option.some.inj h
        subst h
        exact t
  · rw [if_neg c1] at h
    exact ph_tr t (f_X12_line_J16_ph h)
theorem f_X6_passLineWord_ph {n : Nat} {a1 : Int32} {a2 : Int32} {s : hq_S} {y : (Int32 × hq_S)} (h : f_X6_passLineWord n a1 a2 s = some y) : ph 48 7 8 s y.2 := by
  unfold f_X6_passLineWord at h
  have t := ph_rf 48 7 8 s
  by_cases c1 : a1 < a2
  · rw [if_pos c1] at h
    obtain ⟨s2, hs2, h⟩ := hq_bind h
    have t := ph_tr t (ph_fw (by decide) (by decide) (f_X9_advance_fw hs2))
    have h := Option.some.inj h
    subst h
    exact t
  · rw [if_neg c1] at h
    obtain ⟨y3, hy3, h⟩ := hq_bind h
    have t := ph_tr t (ph_failed (by decide) hy3)
    have hr : mm_rfit (mm_ret mc_X6_passLineWord) y3.1 = true := hq_ifT h
    rw [if_pos hr] at h
    have h := Option.some.inj h
    subst h
    exact t
theorem f_X6_newName_ph {n : Nat} {k1 : Nat} {a2 : Int32} {s : hq_S} {y : (Int32 × hq_S)} (h : f_X6_newName n k1 a2 s = some y) : ph 48 7 8 s y.2 := by
  unfold f_X6_newName at h
  have t := ph_rf 48 7 8 s
  by_cases c1 : (hq_gi s 49 4) = (2 : Int32)
  · rw [if_pos c1] at h
    obtain ⟨y2, hy2, h⟩ := hq_bind h
    have t := ph_tr t (ph_fw (by decide) (by decide) (f_X10_placeOf_fw hy2))
    by_cases c3 : y2.1 = (-1 : Int32)
    · rw [if_pos c3] at h
      obtain ⟨s4, hs4, h⟩ := hq_bind h
      have t := ph_tr t (ph_fw (by decide) (by decide) (f_X9_advance_fw hs4))
      have h := Option.some.inj h
      subst h
      exact t
    · rw [if_neg c3] at h
      obtain ⟨y5, hy5, h⟩ := hq_bind h
      have t := ph_tr t (ph_failed (by decide) hy5)
      have h := Option.some.inj h
      subst h
      exact t
  · rw [if_neg c1] at h
    obtain ⟨y6, hy6, h⟩ := hq_bind h
    have t := ph_tr t (ph_failed (by decide) hy6)
    have h := Option.some.inj h
    subst h
    exact t
theorem f_X6_passNumber_ph {n : Nat} {a1 : Int32} {s : hq_S} {y : (Int32 × hq_S)} (h : f_X6_passNumber n a1 s = some y) : ph 48 7 8 s y.2 := by
  unfold f_X6_passNumber at h
  have t := ph_rf 48 7 8 s
  by_cases c1 : (hq_gi s 49 4) = (4 : Int32)
  · rw [if_pos c1] at h
    by_cases c2 : a1 < (hq_gi s 49 5)
    · rw [if_pos c2] at h
      obtain ⟨y4, hy4, h⟩ := hq_bind h
      have t := ph_tr t (ph_failed (by decide) hy4)
      have h := Option.some.inj h
      subst h
      exact t
    · rw [if_neg c2] at h
      obtain ⟨s3, hs3, h⟩ := hq_bind h
      have t := ph_tr t (ph_fw (by decide) (by decide) (f_X9_advance_fw hs3))
      have h := Option.some.inj h
      subst h
      exact t
  · rw [if_neg c1] at h
    obtain ⟨y5, hy5, h⟩ := hq_bind h
    have t := ph_tr t (ph_failed (by decide) hy5)
    have h := Option.some.inj h
    subst h
    exact t
theorem f_X6_toldOne_ph {n : Nat} {k1 : Nat} {a2 : Int32} {s : hq_S} {y : (Int32 × hq_S)} (h : f_X6_toldOne n k1 a2 s = some y) : ph 48 7 8 s y.2 := by
  unfold f_X6_toldOne at h
  have t := ph_rf 48 7 8 s
  by_cases c1 : (hq_gi s 49 4) = (2 : Int32)
  · rw [if_pos c1] at h
    obtain ⟨y2, hy2, h⟩ := hq_bind h
    have t := ph_tr t (ph_fw (by decide) (by decide) (f_X10_placeOf_fw hy2))
    by_cases c3 : y2.1 = (-1 : Int32)
    · rw [if_pos c3] at h
      obtain ⟨y4, hy4, h⟩ := hq_bind h
      have t := ph_tr t (ph_failed (by decide) hy4)
      have h := Option.some.inj h
      subst h
      exact t
    · rw [if_neg c3] at h
      have h := Option.some.inj h
      subst h
      exact t
  · rw [if_neg c1] at h
    obtain ⟨y5, hy5, h⟩ := hq_bind h
    have t := ph_tr t (ph_failed (by decide) hy5)
    have h := Option.some.inj h
    subst h
    exact t
theorem f_X6_passCorner_ph {n : Nat} {s : hq_S} {y : (Int32 × hq_S)} (h : f_X6_passCorner n s = some y) : ph 48 7 8 s y.2 := by
  unfold f_X6_passCorner at h
  have t := ph_rf 48 7 8 s
  have m1 : hq_isT (hq_gr s 48 1) := hq_ifT h
  skip
  rw [if_pos m1] at h
  have m2 : hq_isT (hq_gr s 48 1) := hq_ifT h
  skip
  rw [if_pos m2] at h
  obtain ⟨y3, hy3, h⟩ := hq_bind h
  have t := ph_tr t (f_X6_toldOne_ph hy3)
  by_cases c4 : y3.1 = (-1 : Int32)
  · rw [if_pos c4] at h
    have h := Option.some.inj h
    subst h
    exact t
  · rw [if_neg c4] at h
    obtain ⟨s5, hs5, h⟩ := hq_bind h
    have t := ph_tr t (ph_fw (by decide) (by decide) (f_X9_advance_fw hs5))
    have h := Option.some.inj h
    subst h
    exact t
theorem f_X6_passSign_ph {n : Nat} {a1 : Int32} {s : hq_S} {y : (Int32 × hq_S)} (h : f_X6_passSign n a1 s = some y) : ph 48 7 8 s y.2 := by
  unfold f_X6_passSign at h
  have t := ph_rf 48 7 8 s
  obtain ⟨y1, hy1, h⟩ := hq_bind h
  have t := ph_tr t (ph_fw (by decide) (by decide) (f_X9_isThisSign_fw hy1))
  by_cases c2 : y1.1 = 0
  · rw [if_pos c2] at h
    obtain ⟨y4, hy4, h⟩ := hq_bind h
    have t := ph_tr t (ph_failed (by decide) hy4)
    have hr : mm_rfit (mm_ret mc_X6_passSign) y4.1 = true := hq_ifT h
    rw [if_pos hr] at h
    have h := Option.some.inj h
    subst h
    exact t
  · rw [if_neg c2] at h
    obtain ⟨s3, hs3, h⟩ := hq_bind h
    have t := ph_tr t (ph_fw (by decide) (by decide) (f_X9_advance_fw hs3))
    have h := Option.some.inj h
    subst h
    exact t
theorem f_X6_readCorner_ph {n : Nat} {v : Nat} {s : hq_S} {y : (Int32 × hq_S)} (hv : v = 2 ∨ v = 25) (gv : hq_gr s 48 1 = v) (h : f_X6_readCorner n s = some y) : ph 48 7 8 s y.2 := by
  unfold f_X6_readCorner at h
  have t := ph_rf 48 7 8 s
  have m1 : hq_isT (hq_gr s 48 1) := hq_ifT h
  rw [if_pos m1] at h
  obtain ⟨y2, hy2, h⟩ := hq_bind h
  have q0 := f_X6_passLineWord_fw hy2
  have t := ph_tr t (f_X6_passLineWord_ph hy2)
  have gv := (q0 48 1 (by first | decide | (rcases hv with rfl | rfl <;> decide) | (rw [gv]; rcases hv with rfl | rfl <;> decide))).2.2.trans gv
  by_cases c3 : y2.1 = 0
  · rw [if_pos c3] at h
    have h := Option.some.inj h
    subst h
    exact t
  · rw [if_neg c3] at h
    have m4 : hq_isT (hq_gr y2.2 48 1) := hq_ifT h
    rw [if_pos m4] at h
    have m5 : hq_isT (hq_gr y2.2 48 1) := hq_ifT h
    rw [if_pos m5] at h
    obtain ⟨y6, hy6, h⟩ := hq_bind h
    have q0 := f_X6_newName_fw hy6
    have t := ph_tr t (f_X6_newName_ph hy6)
    have gv := (q0 48 1 (by first | decide | (rcases hv with rfl | rfl <;> decide) | (rw [gv]; rcases hv with rfl | rfl <;> decide))).2.2.trans gv
    obtain ⟨z7, hz7, h⟩ := hq_bind h
    have tg : ph 48 7 8 s z7.2 ∧ hq_gr z7.2 48 1 = v := by
      clear h
      have h := hz7
      by_cases c8 : y6.1 = (-1 : Int32)
      · rw [if_pos c8] at h
        cases h
        exact ⟨t, gv⟩
      · rw [if_neg c8] at h
        obtain ⟨y9, hy9, h⟩ := hq_bind h
        have q0 := f_X6_passNumber_fw hy9
        have t := ph_tr t (f_X6_passNumber_ph hy9)
        have gv := (q0 48 1 (by first | decide | (rcases hv with rfl | rfl <;> decide) | (rw [gv]; rcases hv with rfl | rfl <;> decide))).2.2.trans gv
        cases h
        exact ⟨t, gv⟩
    have t := tg.1
    have gv := tg.2
    obtain ⟨z10, hz10, h⟩ := hq_bind h
    have tg : ph 48 7 8 s z10.2 ∧ hq_gr z10.2 48 1 = v := by
      clear h
      have h := hz10
      by_cases c11 : z7.1 = (-1 : Int32)
      · rw [if_pos c11] at h
        cases h
        exact ⟨t, gv⟩
      · rw [if_neg c11] at h
        obtain ⟨y12, hy12, h⟩ := hq_bind h
        have q0 := f_X6_passNumber_fw hy12
        have t := ph_tr t (f_X6_passNumber_ph hy12)
        have gv := (q0 48 1 (by first | decide | (rcases hv with rfl | rfl <;> decide) | (rw [gv]; rcases hv with rfl | rfl <;> decide))).2.2.trans gv
        cases h
        exact ⟨t, gv⟩
    have t := tg.1
    have gv := tg.2
    by_cases c13 : z10.1 = (-1 : Int32)
    · rw [if_pos c13] at h
      have h := Option.some.inj h
      subst h
      exact t
    · rw [if_neg c13] at h
      have m14 : hq_isT (hq_gr z10.2 48 1) := hq_ifT h
      rw [if_pos m14] at h
      obtain ⟨y15, hy15, h⟩ := hq_bind h
      have q0 := f_X10_addCorner_fw m14 hy15
      have t := ph_tr t (ph_fw (by first | decide | (rcases hv with rfl | rfl <;> decide) | (rw [gv]; rcases hv with rfl | rfl <;> decide)) (by first | decide | (rcases hv with rfl | rfl <;> decide) | (rw [gv]; rcases hv with rfl | rfl <;> decide)) q0)
      have gv := (q0 48 1 (by first | decide | (rcases hv with rfl | rfl <;> decide) | (rw [gv]; rcases hv with rfl | rfl <;> decide))).2.2.trans gv
      by_cases c16 : y15.1 = 0
      · rw [if_pos c16] at h
        have h := Option.some.inj h
        subst h
        exact t
      · rw [if_neg c16] at h
        have h := Option.some.inj h
        subst h
        exact t
theorem f_X6_readLane_ph {n : Nat} {v : Nat} {s : hq_S} {y : (Int32 × hq_S)} (hv : v = 2 ∨ v = 25) (gv : hq_gr s 48 1 = v) (h : f_X6_readLane n s = some y) : ph 48 7 8 s y.2 := by
  unfold f_X6_readLane at h
  have t := ph_rf 48 7 8 s
  obtain ⟨z1, hz1, h⟩ := hq_bind h
  have m3 : hq_isT (hq_gr s 48 1) := hq_ifT h
  rw [if_pos m3] at h
  obtain ⟨y4, hy4, h⟩ := hq_bind h
  have q0 := f_X6_passLineWord_fw hy4
  have t := ph_tr t (f_X6_passLineWord_ph hy4)
  have gv := (q0 48 1 (by first | decide | (rcases hv with rfl | rfl <;> decide) | (rw [gv]; rcases hv with rfl | rfl <;> decide))).2.2.trans gv
  by_cases c5 : y4.1 = 0
  · rw [if_pos c5] at h
    have h := Option.some.inj h
    subst h
    exact t
  · rw [if_neg c5] at h
    obtain ⟨y6, hy6, h⟩ := hq_bind h
    have q0 := f_X6_passCorner_fw hy6
    have t := ph_tr t (f_X6_passCorner_ph hy6)
    have gv := (q0 48 1 (by first | decide | (rcases hv with rfl | rfl <;> decide) | (rw [gv]; rcases hv with rfl | rfl <;> decide))).2.2.trans gv
    obtain ⟨z7, hz7, h⟩ := hq_bind h
    have tg : ph 48 7 8 s z7.2 ∧ hq_gr z7.2 48 1 = v := by
      clear h
      have h := hz7
      by_cases c8 : y6.1 = (-1 : Int32)
      · rw [if_pos c8] at h
        cases h
        exact ⟨t, gv⟩
      · rw [if_neg c8] at h
        have m9 : hq_isT (hq_gr y6.2 48 1) := hq_ifT h
        rw [if_pos m9] at h
        have m10 : hq_isT (hq_gr y6.2 48 1) := hq_ifT h
        rw [if_pos m10] at h
        obtain ⟨y11, hy11, h⟩ := hq_bind h
        have q0 := f_X6_toldOne_fw hy11
        have t := ph_tr t (f_X6_toldOne_ph hy11)
        have gv := (q0 48 1 (by first | decide | (rcases hv with rfl | rfl <;> decide) | (rw [gv]; rcases hv with rfl | rfl <;> decide))).2.2.trans gv
        cases h
        exact ⟨t, gv⟩
    have t := tg.1
    have gv := tg.2
    by_cases c12 : z7.1 = (-1 : Int32)
    · rw [if_pos c12] at h
      have h := Option.some.inj h
      subst h
      exact t
    · rw [if_neg c12] at h
      have m13 : hq_isT (hq_gr z7.2 48 1) := hq_ifT h
      rw [if_pos m13] at h
      obtain ⟨y14, hy14, h⟩ := hq_bind h
      have q0 := f_X10_hasLane_fw m13 hy14
      have t := ph_tr t (ph_fw (by first | decide | (rcases hv with rfl | rfl <;> decide) | (rw [gv]; rcases hv with rfl | rfl <;> decide)) (by first | decide | (rcases hv with rfl | rfl <;> decide) | (rw [gv]; rcases hv with rfl | rfl <;> decide)) q0)
      have gv := (q0 48 1 (by first | decide | (rcases hv with rfl | rfl <;> decide) | (rw [gv]; rcases hv with rfl | rfl <;> decide))).2.2.trans gv
      by_cases c15 : y14.1 = 0
      · rw [if_pos c15] at h
        by_cases c16 : y6.1 = z7.1
        · rw [if_pos c16] at h
          obtain ⟨y20, hy20, h⟩ := hq_bind h
          have q0 := f_X6_failed_fw hy20
          have t := ph_tr t (ph_failed (by decide) hy20)
          have gv := (q0 48 1 (by first | decide | (rcases hv with rfl | rfl <;> decide) | (rw [gv]; rcases hv with rfl | rfl <;> decide))).2.2.trans gv
          have hr : mm_rfit (mm_ret mc_X6_readLane) y20.1 = true := hq_ifT h
          rw [if_pos hr] at h
          have h := Option.some.inj h
          subst h
          exact t
        · rw [if_neg c16] at h
          obtain ⟨s17, hs17, h⟩ := hq_bind h
          have q0 := f_X9_advance_fw hs17
          have t := ph_tr t (ph_fw (by first | decide | (rcases hv with rfl | rfl <;> decide) | (rw [gv]; rcases hv with rfl | rfl <;> decide)) (by first | decide | (rcases hv with rfl | rfl <;> decide) | (rw [gv]; rcases hv with rfl | rfl <;> decide)) q0)
          have gv := (q0 48 1 (by first | decide | (rcases hv with rfl | rfl <;> decide) | (rw [gv]; rcases hv with rfl | rfl <;> decide))).2.2.trans gv
          have m18 : hq_isT (hq_gr s17 48 1) := hq_ifT h
          rw [if_pos m18] at h
          obtain ⟨y19, hy19, h⟩ := hq_bind h
          have q0 := f_X10_addLane_fw m18 hy19
          have t := ph_tr t (ph_fw (by first | decide | (rcases hv with rfl | rfl <;> decide) | (rw [gv]; rcases hv with rfl | rfl <;> decide)) (by first | decide | (rcases hv with rfl | rfl <;> decide) | (rw [gv]; rcases hv with rfl | rfl <;> decide)) q0)
          have gv := (q0 48 1 (by first | decide | (rcases hv with rfl | rfl <;> decide) | (rw [gv]; rcases hv with rfl | rfl <;> decide))).2.2.trans gv
          have hr : mm_rfit (mm_ret mc_X6_readLane) y19.1 = true := hq_ifT h
          rw [if_pos hr] at h
          have h := Option.some.inj h
          subst h
          exact t
      · rw [if_neg c15] at h
        obtain ⟨y21, hy21, h⟩ := hq_bind h
        have q0 := f_X6_failed_fw hy21
        have t := ph_tr t (ph_failed (by decide) hy21)
        have gv := (q0 48 1 (by first | decide | (rcases hv with rfl | rfl <;> decide) | (rw [gv]; rcases hv with rfl | rfl <;> decide))).2.2.trans gv
        have hr : mm_rfit (mm_ret mc_X6_readLane) y21.1 = true := hq_ifT h
        rw [if_pos hr] at h
        have h := Option.some.inj h
        subst h
        exact t
theorem f_X6_readGuard_ph {n : Nat} {v : Nat} {s : hq_S} {y : (Int32 × hq_S)} (hv : v = 2 ∨ v = 25) (gv : hq_gr s 48 1 = v) (h : f_X6_readGuard n s = some y) : ph 48 7 8 s y.2 := by
  unfold f_X6_readGuard at h
  have t := ph_rf 48 7 8 s
  have m1 : hq_isT (hq_gr s 48 1) := hq_ifT h
  rw [if_pos m1] at h
  obtain ⟨y2, hy2, h⟩ := hq_bind h
  have q0 := f_X6_passLineWord_fw hy2
  have t := ph_tr t (f_X6_passLineWord_ph hy2)
  have gv := (q0 48 1 (by first | decide | (rcases hv with rfl | rfl <;> decide) | (rw [gv]; rcases hv with rfl | rfl <;> decide))).2.2.trans gv
  by_cases c3 : y2.1 = 0
  · rw [if_pos c3] at h
    have h := Option.some.inj h
    subst h
    exact t
  · rw [if_neg c3] at h
    have m4 : hq_isT (hq_gr y2.2 48 1) := hq_ifT h
    rw [if_pos m4] at h
    have m5 : hq_isT (hq_gr y2.2 48 1) := hq_ifT h
    rw [if_pos m5] at h
    obtain ⟨y6, hy6, h⟩ := hq_bind h
    have q0 := f_X6_newName_fw hy6
    have t := ph_tr t (f_X6_newName_ph hy6)
    have gv := (q0 48 1 (by first | decide | (rcases hv with rfl | rfl <;> decide) | (rw [gv]; rcases hv with rfl | rfl <;> decide))).2.2.trans gv
    obtain ⟨z7, hz7, h⟩ := hq_bind h
    have tg : ph 48 7 8 s z7.2 ∧ hq_gr z7.2 48 1 = v := by
      clear h
      have h := hz7
      by_cases c8 : y6.1 = (-1 : Int32)
      · rw [if_pos c8] at h
        cases h
        exact ⟨t, gv⟩
      · rw [if_neg c8] at h
        obtain ⟨y9, hy9, h⟩ := hq_bind h
        have q0 := f_X6_passCorner_fw hy9
        have t := ph_tr t (f_X6_passCorner_ph hy9)
        have gv := (q0 48 1 (by first | decide | (rcases hv with rfl | rfl <;> decide) | (rw [gv]; rcases hv with rfl | rfl <;> decide))).2.2.trans gv
        cases h
        exact ⟨t, gv⟩
    have t := tg.1
    have gv := tg.2
    by_cases c10 : z7.1 = (-1 : Int32)
    · rw [if_pos c10] at h
      have h := Option.some.inj h
      subst h
      exact t
    · rw [if_neg c10] at h
      have m11 : hq_isT (hq_gr z7.2 48 1) := hq_ifT h
      rw [if_pos m11] at h
      obtain ⟨y12, hy12, h⟩ := hq_bind h
      have q0 := f_X10_addGuard_fw m11 hy12
      have t := ph_tr t (ph_fw (by first | decide | (rcases hv with rfl | rfl <;> decide) | (rw [gv]; rcases hv with rfl | rfl <;> decide)) (by first | decide | (rcases hv with rfl | rfl <;> decide) | (rw [gv]; rcases hv with rfl | rfl <;> decide)) q0)
      have gv := (q0 48 1 (by first | decide | (rcases hv with rfl | rfl <;> decide) | (rw [gv]; rcases hv with rfl | rfl <;> decide))).2.2.trans gv
      by_cases c13 : y12.1 = 0
      · rw [if_pos c13] at h
        have h := Option.some.inj h
        subst h
        exact t
      · rw [if_neg c13] at h
        have h := Option.some.inj h
        subst h
        exact t
theorem f_X6_readBeat_L77_B_ph {n : Nat} {a1 : Int32} {a2 : Int32} {q77 : Int32 → Int32 → hq_S → Option (Int32 × hq_S)} {v : Nat} {s : hq_S} {y : (Int32 × hq_S)} (e77 : ∀ (a1 : Int32) (a2 : Int32) (o3 : Option Value) (s : hq_S), hq_gr s 48 1 = v → q77 a1 a2 s = some y → ph 48 7 8 s y.2) (hv : v = 2 ∨ v = 25) (gv : hq_gr s 48 1 = v) (h : f_X6_readBeat_L77_B n q77 a1 a2 s = some y) : ph 48 7 8 s y.2 := by
  unfold f_X6_readBeat_L77_B at h
  have t := ph_rf 48 7 8 s
  by_cases c11 : (8 : Int32) < a2
  · rw [if_pos c11] at h
    have h := Option.some.inj h
    subst h
    exact t
  · rw [if_neg c11] at h
    by_cases c12 : (hq_gi s 49 4) = (2 : Int32)
    · rw [if_pos c12] at h
      by_cases c13 : a2 = (8 : Int32)
      · rw [if_pos c13] at h
        obtain ⟨y18, hy18, h⟩ := hq_bind h
        have q0 := f_X6_failed_fw hy18
        have t := ph_tr t (ph_failed (by decide) hy18)
        have gv := (q0 48 1 (by first | decide | (rcases hv with rfl | rfl <;> decide) | (rw [gv]; rcases hv with rfl | rfl <;> decide))).2.2.trans gv
        have hr : mm_rfit (mm_ret mc_X6_readBeat) y18.1 = true := hq_ifT h
        rw [if_pos hr] at h
        have h := Option.some.inj h
        subst h
        exact t
      · rw [if_neg c13] at h
        obtain ⟨y14, hy14, h⟩ := hq_bind h
        have q0 := f_X6_passCorner_fw hy14
        have t := ph_tr t (f_X6_passCorner_ph hy14)
        have gv := (q0 48 1 (by first | decide | (rcases hv with rfl | rfl <;> decide) | (rw [gv]; rcases hv with rfl | rfl <;> decide))).2.2.trans gv
        by_cases c15 : y14.1 = (-1 : Int32)
        · rw [if_pos c15] at h
          have h := Option.some.inj h
          subst h
          exact t
        · rw [if_neg c15] at h
          have m16 : hq_isT (hq_gr y14.2 48 1) := hq_ifT h
          rw [if_pos m16] at h
          obtain ⟨s17, hs17, h⟩ := hq_bind h
          have q0 := f_X10_addPlace_fw m16 hs17
          have t := ph_tr t (ph_fw (by first | decide | (rcases hv with rfl | rfl <;> decide) | (rw [gv]; rcases hv with rfl | rfl <;> decide)) (by first | decide | (rcases hv with rfl | rfl <;> decide) | (rw [gv]; rcases hv with rfl | rfl <;> decide)) q0)
          have gv := (q0 48 1 (by first | decide | (rcases hv with rfl | rfl <;> decide) | (rw [gv]; rcases hv with rfl | rfl <;> decide))).2.2.trans gv
          exact ph_tr t (e77 a1 (a2 + (1 : Int32)) none s17 gv h)
    · rw [if_neg c12] at h
      have h := Option.some.inj h
      subst h
      exact t
theorem f_X6_readBeat_L77_ph {n m : Nat} {a1 : Int32} {a2 : Int32} {v : Nat} {s : hq_S} {y : (Int32 × hq_S)} (hv : v = 2 ∨ v = 25) (gv : hq_gr s 48 1 = v) (h : f_X6_readBeat_L77 n m a1 a2 s = some y) : ph 48 7 8 s y.2 := by
  induction m generalizing a1 a2 s with
  | zero => cases h
  | succ m ih => exact f_X6_readBeat_L77_B_ph (n := n) (a1 := a1) (a2 := a2) (q77 := f_X6_readBeat_L77 n m) (fun a1 a2 _ s gv h => ih gv h) hv gv h
theorem f_X6_readBeat_ph {n : Nat} {v : Nat} {s : hq_S} {y : (Int32 × hq_S)} (hv : v = 2 ∨ v = 25) (gv : hq_gr s 48 1 = v) (h : f_X6_readBeat n s = some y) : ph 48 7 8 s y.2 := by
  unfold f_X6_readBeat at h
  have t := ph_rf 48 7 8 s
  obtain ⟨s1, hs1, h⟩ := hq_bind h
  have q0 := f_X9_advance_fw hs1
  have t := ph_tr t (ph_fw (by first | decide | (rcases hv with rfl | rfl <;> decide) | (rw [gv]; rcases hv with rfl | rfl <;> decide)) (by first | decide | (rcases hv with rfl | rfl <;> decide) | (rw [gv]; rcases hv with rfl | rfl <;> decide)) q0)
  have gv := (q0 48 1 (by first | decide | (rcases hv with rfl | rfl <;> decide) | (rw [gv]; rcases hv with rfl | rfl <;> decide))).2.2.trans gv
  have m2 : hq_isT (hq_gr s1 48 1) := hq_ifT h
  rw [if_pos m2] at h
  have m3 : hq_isT (hq_gr s1 48 1) := hq_ifT h
  rw [if_pos m3] at h
  obtain ⟨y4, hy4, h⟩ := hq_bind h
  have q0 := f_X6_toldOne_fw hy4
  have t := ph_tr t (f_X6_toldOne_ph hy4)
  have gv := (q0 48 1 (by first | decide | (rcases hv with rfl | rfl <;> decide) | (rw [gv]; rcases hv with rfl | rfl <;> decide))).2.2.trans gv
  by_cases c5 : y4.1 = (-1 : Int32)
  · rw [if_pos c5] at h
    have h := Option.some.inj h
    subst h
    exact t
  · rw [if_neg c5] at h
    have m6 : hq_isT (hq_gr y4.2 48 1) := hq_ifT h
    rw [if_pos m6] at h
    obtain ⟨x7, hx7, h⟩ := hq_bind h
    by_cases c8 : 0 < x7
    · rw [if_pos c8] at h
      obtain ⟨y20, hy20, h⟩ := hq_bind h
      have q0 := f_X6_failed_fw hy20
      have t := ph_tr t (ph_failed (by decide) hy20)
      have gv := (q0 48 1 (by first | decide | (rcases hv with rfl | rfl <;> decide) | (rw [gv]; rcases hv with rfl | rfl <;> decide))).2.2.trans gv
      have hr : mm_rfit (mm_ret mc_X6_readBeat) y20.1 = true := hq_ifT h
      rw [if_pos hr] at h
      have h := Option.some.inj h
      subst h
      exact t
    · rw [if_neg c8] at h
      obtain ⟨s9, hs9, h⟩ := hq_bind h
      have q0 := f_X9_advance_fw hs9
      have t := ph_tr t (ph_fw (by first | decide | (rcases hv with rfl | rfl <;> decide) | (rw [gv]; rcases hv with rfl | rfl <;> decide)) (by first | decide | (rcases hv with rfl | rfl <;> decide) | (rw [gv]; rcases hv with rfl | rfl <;> decide)) q0)
      have gv := (q0 48 1 (by first | decide | (rcases hv with rfl | rfl <;> decide) | (rw [gv]; rcases hv with rfl | rfl <;> decide))).2.2.trans gv
      by_cases c10 : (hq_gi s9 49 4) = (2 : Int32)
      · rw [if_pos c10] at h
        exact ph_tr t (f_X6_readBeat_L77_ph hv gv h)
      · rw [if_neg c10] at h
        obtain ⟨y19, hy19, h⟩ := hq_bind h
        have q0 := f_X6_failed_fw hy19
        have t := ph_tr t (ph_failed (by decide) hy19)
        have gv := (q0 48 1 (by first | decide | (rcases hv with rfl | rfl <;> decide) | (rw [gv]; rcases hv with rfl | rfl <;> decide))).2.2.trans gv
        have hr : mm_rfit (mm_ret mc_X6_readBeat) y19.1 = true := hq_ifT h
        rw [if_pos hr] at h
        have h := Option.some.inj h
        subst h
        exact t
theorem f_X6_readThief_ph {n : Nat} {v : Nat} {s : hq_S} {y : (Int32 × hq_S)} (hv : v = 2 ∨ v = 25) (gv : hq_gr s 48 1 = v) (h : f_X6_readThief n s = some y) : ph 48 7 8 s y.2 := by
  unfold f_X6_readThief at h
  have t := ph_rf 48 7 8 s
  have m1 : hq_isT (hq_gr s 48 1) := hq_ifT h
  rw [if_pos m1] at h
  obtain ⟨y2, hy2, h⟩ := hq_bind h
  have q0 := f_X6_passLineWord_fw hy2
  have t := ph_tr t (f_X6_passLineWord_ph hy2)
  have gv := (q0 48 1 (by first | decide | (rcases hv with rfl | rfl <;> decide) | (rw [gv]; rcases hv with rfl | rfl <;> decide))).2.2.trans gv
  by_cases c3 : y2.1 = 0
  · rw [if_pos c3] at h
    have h := Option.some.inj h
    subst h
    exact t
  · rw [if_neg c3] at h
    have m4 : hq_isT (hq_gr y2.2 48 1) := hq_ifT h
    rw [if_pos m4] at h
    have m5 : hq_isT (hq_gr y2.2 48 1) := hq_ifT h
    rw [if_pos m5] at h
    obtain ⟨y6, hy6, h⟩ := hq_bind h
    have q0 := f_X6_newName_fw hy6
    have t := ph_tr t (f_X6_newName_ph hy6)
    have gv := (q0 48 1 (by first | decide | (rcases hv with rfl | rfl <;> decide) | (rw [gv]; rcases hv with rfl | rfl <;> decide))).2.2.trans gv
    obtain ⟨z7, hz7, h⟩ := hq_bind h
    have tg : ph 48 7 8 s z7.2 ∧ hq_gr z7.2 48 1 = v := by
      clear h
      have h := hz7
      by_cases c8 : y6.1 = (-1 : Int32)
      · rw [if_pos c8] at h
        cases h
        exact ⟨t, gv⟩
      · rw [if_neg c8] at h
        obtain ⟨y9, hy9, h⟩ := hq_bind h
        have q0 := f_X6_passCorner_fw hy9
        have t := ph_tr t (f_X6_passCorner_ph hy9)
        have gv := (q0 48 1 (by first | decide | (rcases hv with rfl | rfl <;> decide) | (rw [gv]; rcases hv with rfl | rfl <;> decide))).2.2.trans gv
        cases h
        exact ⟨t, gv⟩
    have t := tg.1
    have gv := tg.2
    obtain ⟨z10, hz10, h⟩ := hq_bind h
    have tg : ph 48 7 8 s z10.2 ∧ hq_gr z10.2 48 1 = v := by
      clear h
      have h := hz10
      by_cases c11 : z7.1 = (-1 : Int32)
      · rw [if_pos c11] at h
        cases h
        exact ⟨t, gv⟩
      · rw [if_neg c11] at h
        obtain ⟨y12, hy12, h⟩ := hq_bind h
        have q0 := f_X6_passNumber_fw hy12
        have t := ph_tr t (f_X6_passNumber_ph hy12)
        have gv := (q0 48 1 (by first | decide | (rcases hv with rfl | rfl <;> decide) | (rw [gv]; rcases hv with rfl | rfl <;> decide))).2.2.trans gv
        cases h
        exact ⟨t, gv⟩
    have t := tg.1
    have gv := tg.2
    by_cases c13 : z10.1 = (-1 : Int32)
    · rw [if_pos c13] at h
      have h := Option.some.inj h
      subst h
      exact t
    · rw [if_neg c13] at h
      have m14 : hq_isT (hq_gr z10.2 48 1) := hq_ifT h
      rw [if_pos m14] at h
      obtain ⟨y15, hy15, h⟩ := hq_bind h
      have q0 := f_X10_addThief_fw m14 hy15
      have t := ph_tr t (ph_fw (by first | decide | (rcases hv with rfl | rfl <;> decide) | (rw [gv]; rcases hv with rfl | rfl <;> decide)) (by first | decide | (rcases hv with rfl | rfl <;> decide) | (rw [gv]; rcases hv with rfl | rfl <;> decide)) q0)
      have gv := (q0 48 1 (by first | decide | (rcases hv with rfl | rfl <;> decide) | (rw [gv]; rcases hv with rfl | rfl <;> decide))).2.2.trans gv
      by_cases c16 : y15.1 = 0
      · rw [if_pos c16] at h
        have h := Option.some.inj h
        subst h
        exact t
      · rw [if_neg c16] at h
        have h := Option.some.inj h
        subst h
        exact t
theorem f_X6_readGrip_ph {n : Nat} {v : Nat} {s : hq_S} {y : (Int32 × hq_S)} (hv : v = 2 ∨ v = 25) (gv : hq_gr s 48 1 = v) (h : f_X6_readGrip n s = some y) : ph 48 7 8 s y.2 := by
  unfold f_X6_readGrip at h
  have t := ph_rf 48 7 8 s
  have m1 : hq_isT (hq_gr s 48 1) := hq_ifT h
  rw [if_pos m1] at h
  by_cases c2 : (hq_gi s (hq_gr s 48 1) 14) = 0
  · rw [if_pos c2] at h
    obtain ⟨s3, hs3, h⟩ := hq_bind h
    have q0 := f_X9_advance_fw hs3
    have t := ph_tr t (ph_fw (by first | decide | (rcases hv with rfl | rfl <;> decide) | (rw [gv]; rcases hv with rfl | rfl <;> decide)) (by first | decide | (rcases hv with rfl | rfl <;> decide) | (rw [gv]; rcases hv with rfl | rfl <;> decide)) q0)
    have gv := (q0 48 1 (by first | decide | (rcases hv with rfl | rfl <;> decide) | (rw [gv]; rcases hv with rfl | rfl <;> decide))).2.2.trans gv
    obtain ⟨y4, hy4, h⟩ := hq_bind h
    have q0 := f_X6_passNumber_fw hy4
    have t := ph_tr t (f_X6_passNumber_ph hy4)
    have gv := (q0 48 1 (by first | decide | (rcases hv with rfl | rfl <;> decide) | (rw [gv]; rcases hv with rfl | rfl <;> decide))).2.2.trans gv
    by_cases c5 : y4.1 = (-1 : Int32)
    · rw [if_pos c5] at h
      have h := Option.some.inj h
      subst h
      exact t
    · rw [if_neg c5] at h
      have m6 : hq_isT (hq_gr y4.2 48 1) := hq_ifT h
      rw [if_pos m6] at h
      obtain ⟨s7, hs7, h⟩ := hq_bind h
      have t := ph_tr t (ph_pi hs7 (by first | decide | (rcases hv with rfl | rfl <;> decide) | (rw [gv]; rcases hv with rfl | rfl <;> decide)))
      have gv := (hq_pi_gr hs7).trans gv
      have m8 : hq_isT (hq_gr s7 48 1) := hq_ifT h
      rw [if_pos m8] at h
      obtain ⟨s9, hs9, h⟩ := hq_bind h
      have t := ph_tr t (ph_pi hs9 (by first | decide | (rcases hv with rfl | rfl <;> decide) | (rw [gv]; rcases hv with rfl | rfl <;> decide)))
      have gv := (hq_pi_gr hs9).trans gv
      have h := Option.some.inj h
      subst h
      exact t
  · rw [if_neg c2] at h
    obtain ⟨y10, hy10, h⟩ := hq_bind h
    have q0 := f_X6_failed_fw hy10
    have t := ph_tr t (ph_failed (by decide) hy10)
    have gv := (q0 48 1 (by first | decide | (rcases hv with rfl | rfl <;> decide) | (rw [gv]; rcases hv with rfl | rfl <;> decide))).2.2.trans gv
    have hr : mm_rfit (mm_ret mc_X6_readGrip) y10.1 = true := hq_ifT h
    rw [if_pos hr] at h
    have h := Option.some.inj h
    subst h
    exact t
theorem f_X6_readSeed_ph {n : Nat} {v : Nat} {s : hq_S} {y : (Int32 × hq_S)} (hv : v = 2 ∨ v = 25) (gv : hq_gr s 48 1 = v) (h : f_X6_readSeed n s = some y) : ph 48 7 8 s y.2 := by
  unfold f_X6_readSeed at h
  have t := ph_rf 48 7 8 s
  have m1 : hq_isT (hq_gr s 48 1) := hq_ifT h
  rw [if_pos m1] at h
  by_cases c2 : (hq_gi s (hq_gr s 48 1) 15) = 0
  · rw [if_pos c2] at h
    obtain ⟨s3, hs3, h⟩ := hq_bind h
    have q0 := f_X9_advance_fw hs3
    have t := ph_tr t (ph_fw (by first | decide | (rcases hv with rfl | rfl <;> decide) | (rw [gv]; rcases hv with rfl | rfl <;> decide)) (by first | decide | (rcases hv with rfl | rfl <;> decide) | (rw [gv]; rcases hv with rfl | rfl <;> decide)) q0)
    have gv := (q0 48 1 (by first | decide | (rcases hv with rfl | rfl <;> decide) | (rw [gv]; rcases hv with rfl | rfl <;> decide))).2.2.trans gv
    obtain ⟨y4, hy4, h⟩ := hq_bind h
    have q0 := f_X6_passNumber_fw hy4
    have t := ph_tr t (f_X6_passNumber_ph hy4)
    have gv := (q0 48 1 (by first | decide | (rcases hv with rfl | rfl <;> decide) | (rw [gv]; rcases hv with rfl | rfl <;> decide))).2.2.trans gv
    by_cases c5 : y4.1 = (-1 : Int32)
    · rw [if_pos c5] at h
      have h := Option.some.inj h
      subst h
      exact t
    · rw [if_neg c5] at h
      have m6 : hq_isT (hq_gr y4.2 48 1) := hq_ifT h
      rw [if_pos m6] at h
      obtain ⟨s7, hs7, h⟩ := hq_bind h
      have t := ph_tr t (ph_pj hs7)
      have gv := (hq_pj_gr hs7).trans gv
      have m8 : hq_isT (hq_gr s7 48 1) := hq_ifT h
      rw [if_pos m8] at h
      obtain ⟨s9, hs9, h⟩ := hq_bind h
      have t := ph_tr t (ph_pi hs9 (by first | decide | (rcases hv with rfl | rfl <;> decide) | (rw [gv]; rcases hv with rfl | rfl <;> decide)))
      have gv := (hq_pi_gr hs9).trans gv
      have h := Option.some.inj h
      subst h
      exact t
  · rw [if_neg c2] at h
    obtain ⟨y10, hy10, h⟩ := hq_bind h
    have q0 := f_X6_failed_fw hy10
    have t := ph_tr t (ph_failed (by decide) hy10)
    have gv := (q0 48 1 (by first | decide | (rcases hv with rfl | rfl <;> decide) | (rw [gv]; rcases hv with rfl | rfl <;> decide))).2.2.trans gv
    have hr : mm_rfit (mm_ret mc_X6_readSeed) y10.1 = true := hq_ifT h
    rw [if_pos hr] at h
    have h := Option.some.inj h
    subst h
    exact t
theorem f_X6_passKnot_ph {n : Nat} {v : Nat} {s : hq_S} {y : (Int32 × hq_S)} (hv : v = 2 ∨ v = 25) (gv : hq_gr s 48 1 = v) (h : f_X6_passKnot n s = some y) : ph 48 7 8 s y.2 := by
  unfold f_X6_passKnot at h
  have t := ph_rf 48 7 8 s
  have m1 : hq_isT (hq_gr s 48 1) := hq_ifT h
  rw [if_pos m1] at h
  obtain ⟨y2, hy2, h⟩ := hq_bind h
  have q0 := f_X4_tellKnot_fw (hq_shT_m9 m1) hy2
  have t := ph_tr t (ph_fw (by first | decide | (rcases hv with rfl | rfl <;> decide) | (rw [gv]; rcases hv with rfl | rfl <;> decide)) (by first | decide | (rcases hv with rfl | rfl <;> decide) | (rw [gv]; rcases hv with rfl | rfl <;> decide)) q0)
  have gv := (q0 48 1 (by first | decide | (rcases hv with rfl | rfl <;> decide) | (rw [gv]; rcases hv with rfl | rfl <;> decide))).2.2.trans gv
  by_cases c3 : y2.1 = 0
  · rw [if_pos c3] at h
    obtain ⟨y5, hy5, h⟩ := hq_bind h
    have q0 := f_X6_failed_fw hy5
    have t := ph_tr t (ph_failed (by decide) hy5)
    have gv := (q0 48 1 (by first | decide | (rcases hv with rfl | rfl <;> decide) | (rw [gv]; rcases hv with rfl | rfl <;> decide))).2.2.trans gv
    have hr : mm_rfit (mm_ret mc_X6_passKnot) y5.1 = true := hq_ifT h
    rw [if_pos hr] at h
    have h := Option.some.inj h
    subst h
    exact t
  · rw [if_neg c3] at h
    obtain ⟨s4, hs4, h⟩ := hq_bind h
    have q0 := f_X9_advance_fw hs4
    have t := ph_tr t (ph_fw (by first | decide | (rcases hv with rfl | rfl <;> decide) | (rw [gv]; rcases hv with rfl | rfl <;> decide)) (by first | decide | (rcases hv with rfl | rfl <;> decide) | (rw [gv]; rcases hv with rfl | rfl <;> decide)) q0)
    have gv := (q0 48 1 (by first | decide | (rcases hv with rfl | rfl <;> decide) | (rw [gv]; rcases hv with rfl | rfl <;> decide))).2.2.trans gv
    have h := Option.some.inj h
    subst h
    exact t
theorem f_X6_readSide_J147_ph {n : Nat} {a1 : Int32} {v : Nat} {s : hq_S} {y : (Int32 × hq_S)} (hv : v = 2 ∨ v = 25) (gv : hq_gr s 48 1 = v) (h : f_X6_readSide_J147 n a1 s = some y) : ph 48 7 8 s y.2 := by
  unfold f_X6_readSide_J147 at h
  have t := ph_rf 48 7 8 s
  have m8 : hq_isT (hq_gr s 48 1) := hq_ifT h
  rw [if_pos m8] at h
  obtain ⟨z9, hz9, h⟩ := hq_bind h
  obtain ⟨s11, hs11, h⟩ := hq_bind h
  have q0 := f_X4_put_fw (hq_shT_m9 m8) hs11
  have t := ph_tr t (ph_fw (by first | decide | (rcases hv with rfl | rfl <;> decide) | (rw [gv]; rcases hv with rfl | rfl <;> decide)) (by first | decide | (rcases hv with rfl | rfl <;> decide) | (rw [gv]; rcases hv with rfl | rfl <;> decide)) q0)
  have gv := (q0 48 1 (by first | decide | (rcases hv with rfl | rfl <;> decide) | (rw [gv]; rcases hv with rfl | rfl <;> decide))).2.2.trans gv
  obtain ⟨s12, hs12, h⟩ := hq_bind h
  have t := ph_tr t (ph_pi hs12 (by first | decide | (rcases hv with rfl | rfl <;> decide) | (rw [gv]; rcases hv with rfl | rfl <;> decide)))
  have gv := (hq_pi_gr hs12).trans gv
  obtain ⟨y13, hy13, h⟩ := hq_bind h
  have q0 := f_X6_passKnot_fw hv gv hy13
  have t := ph_tr t (f_X6_passKnot_ph hv gv hy13)
  have gv := (q0 48 1 (by first | decide | (rcases hv with rfl | rfl <;> decide) | (rw [gv]; rcases hv with rfl | rfl <;> decide))).2.2.trans gv
  have hr : mm_rfit (mm_ret mc_X6_readSide) y13.1 = true := hq_ifT h
  rw [if_pos hr] at h
  have h := Option.some.inj h
  subst h
  exact t
theorem f_X6_readSide_J124_ph {n : Nat} {a1 : Int32} {v : Nat} {s : hq_S} {y : (Int32 × hq_S)} (hv : v = 2 ∨ v = 25) (gv : hq_gr s 48 1 = v) (h : f_X6_readSide_J124 n a1 s = some y) : ph 48 7 8 s y.2 := by
  unfold f_X6_readSide_J124 at h
  have t := ph_rf 48 7 8 s
  by_cases c7 : a1 = 0
  · rw [if_pos c7] at h
    exact ph_tr t (f_X6_readSide_J147_ph hv gv h)
  · rw [if_neg c7] at h
    by_cases c14 : (9999 : Int32) < (hq_gi s 49 5)
    · rw [if_pos c14] at h
      obtain ⟨y15, hy15, h⟩ := hq_bind h
      have q0 := f_X6_failed_fw hy15
      have t := ph_tr t (ph_failed (by decide) hy15)
      have gv := (q0 48 1 (by first | decide | (rcases hv with rfl | rfl <;> decide) | (rw [gv]; rcases hv with rfl | rfl <;> decide))).2.2.trans gv
      have hr : mm_rfit (mm_ret mc_X6_readSide) y15.1 = true := hq_ifT h
      rw [if_pos hr] at h
      have h := Option.some.inj h
      subst h
      exact t
    · rw [if_neg c14] at h
      exact ph_tr t (f_X6_readSide_J147_ph hv gv h)
theorem f_X6_readSide_J87_ph {n : Nat} {v : Nat} {s : hq_S} {y : (Int32 × hq_S)} (hv : v = 2 ∨ v = 25) (gv : hq_gr s 48 1 = v) (h : f_X6_readSide_J87 n s = some y) : ph 48 7 8 s y.2 := by
  unfold f_X6_readSide_J87 at h
  have t := ph_rf 48 7 8 s
  obtain ⟨z4, hz4, h⟩ := hq_bind h
  by_cases c6 : z4 = 0
  · rw [if_pos c6] at h
    obtain ⟨y16, hy16, h⟩ := hq_bind h
    have q0 := f_X9_isName_fw hy16
    have t := ph_tr t (ph_fw (by first | decide | (rcases hv with rfl | rfl <;> decide) | (rw [gv]; rcases hv with rfl | rfl <;> decide)) (by first | decide | (rcases hv with rfl | rfl <;> decide) | (rw [gv]; rcases hv with rfl | rfl <;> decide)) q0)
    have gv := (q0 48 1 (by first | decide | (rcases hv with rfl | rfl <;> decide) | (rw [gv]; rcases hv with rfl | rfl <;> decide))).2.2.trans gv
    by_cases c17 : y16.1 = 0
    · rw [if_pos c17] at h
      obtain ⟨y18, hy18, h⟩ := hq_bind h
      have q0 := f_X6_failed_fw hy18
      have t := ph_tr t (ph_failed (by decide) hy18)
      have gv := (q0 48 1 (by first | decide | (rcases hv with rfl | rfl <;> decide) | (rw [gv]; rcases hv with rfl | rfl <;> decide))).2.2.trans gv
      have hr : mm_rfit (mm_ret mc_X6_readSide) y18.1 = true := hq_ifT h
      rw [if_pos hr] at h
      have h := Option.some.inj h
      subst h
      exact t
    · rw [if_neg c17] at h
      exact ph_tr t (f_X6_readSide_J124_ph hv gv h)
  · rw [if_neg c6] at h
    exact ph_tr t (f_X6_readSide_J124_ph hv gv h)
theorem f_X6_readSide_ph {n : Nat} {v : Nat} {s : hq_S} {y : (Int32 × hq_S)} (hv : v = 2 ∨ v = 25) (gv : hq_gr s 48 1 = v) (h : f_X6_readSide n s = some y) : ph 48 7 8 s y.2 := by
  unfold f_X6_readSide at h
  have t := ph_rf 48 7 8 s
  obtain ⟨y1, hy1, h⟩ := hq_bind h
  have q0 := f_X9_isThisSign_fw hy1
  have t := ph_tr t (ph_fw (by first | decide | (rcases hv with rfl | rfl <;> decide) | (rw [gv]; rcases hv with rfl | rfl <;> decide)) (by first | decide | (rcases hv with rfl | rfl <;> decide) | (rw [gv]; rcases hv with rfl | rfl <;> decide)) q0)
  have gv := (q0 48 1 (by first | decide | (rcases hv with rfl | rfl <;> decide) | (rw [gv]; rcases hv with rfl | rfl <;> decide))).2.2.trans gv
  by_cases c2 : y1.1 = 0
  · rw [if_pos c2] at h
    by_cases c3 : (hq_gi y1.2 48 6) = 0
    · rw [if_pos c3] at h
      exact ph_tr t (f_X6_readSide_J87_ph hv gv h)
    · rw [if_neg c3] at h
      obtain ⟨y19, hy19, h⟩ := hq_bind h
      have q0 := f_X9_isKey_fw hy19
      have t := ph_tr t (ph_fw (by first | decide | (rcases hv with rfl | rfl <;> decide) | (rw [gv]; rcases hv with rfl | rfl <;> decide)) (by first | decide | (rcases hv with rfl | rfl <;> decide) | (rw [gv]; rcases hv with rfl | rfl <;> decide)) q0)
      have gv := (q0 48 1 (by first | decide | (rcases hv with rfl | rfl <;> decide) | (rw [gv]; rcases hv with rfl | rfl <;> decide))).2.2.trans gv
      by_cases c20 : y19.1 = 0
      · rw [if_pos c20] at h
        exact ph_tr t (f_X6_readSide_J87_ph hv gv h)
      · rw [if_neg c20] at h
        obtain ⟨s21, hs21, h⟩ := hq_bind h
        have q0 := f_X6_hang_fw hs21
        have t := ph_tr t (ph_fw (by first | decide | (rcases hv with rfl | rfl <;> decide) | (rw [gv]; rcases hv with rfl | rfl <;> decide)) (by first | decide | (rcases hv with rfl | rfl <;> decide) | (rw [gv]; rcases hv with rfl | rfl <;> decide)) q0)
        have gv := (q0 48 1 (by first | decide | (rcases hv with rfl | rfl <;> decide) | (rw [gv]; rcases hv with rfl | rfl <;> decide))).2.2.trans gv
        obtain ⟨y22, hy22, h⟩ := hq_bind h
        have q0 := f_X6_passKnot_fw hv gv hy22
        have t := ph_tr t (f_X6_passKnot_ph hv gv hy22)
        have gv := (q0 48 1 (by first | decide | (rcases hv with rfl | rfl <;> decide) | (rw [gv]; rcases hv with rfl | rfl <;> decide))).2.2.trans gv
        have hr : mm_rfit (mm_ret mc_X6_readSide) y22.1 = true := hq_ifT h
        rw [if_pos hr] at h
        have h := Option.some.inj h
        subst h
        exact t
  · rw [if_neg c2] at h
    by_cases c23 : (hq_gi y1.2 48 4) < (8 : Int32)
    · rw [if_pos c23] at h
      obtain ⟨s24, hs24, h⟩ := hq_bind h
      have t := ph_tr t (ph_pi hs24 (by first | decide | (rcases hv with rfl | rfl <;> decide) | (rw [gv]; rcases hv with rfl | rfl <;> decide)))
      have gv := (hq_pi_gr hs24).trans gv
      obtain ⟨s25, hs25, h⟩ := hq_bind h
      have t := ph_tr t (ph_pi hs25 (by first | decide | (rcases hv with rfl | rfl <;> decide) | (rw [gv]; rcases hv with rfl | rfl <;> decide)))
      have gv := (hq_pi_gr hs25).trans gv
      obtain ⟨s26, hs26, h⟩ := hq_bind h
      have q0 := f_X6_hang_fw hs26
      have t := ph_tr t (ph_fw (by first | decide | (rcases hv with rfl | rfl <;> decide) | (rw [gv]; rcases hv with rfl | rfl <;> decide)) (by first | decide | (rcases hv with rfl | rfl <;> decide) | (rw [gv]; rcases hv with rfl | rfl <;> decide)) q0)
      have gv := (q0 48 1 (by first | decide | (rcases hv with rfl | rfl <;> decide) | (rw [gv]; rcases hv with rfl | rfl <;> decide))).2.2.trans gv
      obtain ⟨s27, hs27, h⟩ := hq_bind h
      have q0 := f_X9_advance_fw hs27
      have t := ph_tr t (ph_fw (by first | decide | (rcases hv with rfl | rfl <;> decide) | (rw [gv]; rcases hv with rfl | rfl <;> decide)) (by first | decide | (rcases hv with rfl | rfl <;> decide) | (rw [gv]; rcases hv with rfl | rfl <;> decide)) q0)
      have gv := (q0 48 1 (by first | decide | (rcases hv with rfl | rfl <;> decide) | (rw [gv]; rcases hv with rfl | rfl <;> decide))).2.2.trans gv
      have h := Option.some.inj h
      subst h
      exact t
    · rw [if_neg c23] at h
      obtain ⟨y28, hy28, h⟩ := hq_bind h
      have q0 := f_X6_failed_fw hy28
      have t := ph_tr t (ph_failed (by decide) hy28)
      have gv := (q0 48 1 (by first | decide | (rcases hv with rfl | rfl <;> decide) | (rw [gv]; rcases hv with rfl | rfl <;> decide))).2.2.trans gv
      have hr : mm_rfit (mm_ret mc_X6_readSide) y28.1 = true := hq_ifT h
      rw [if_pos hr] at h
      have h := Option.some.inj h
      subst h
      exact t
theorem f_X6_readJoint_J100_ph {n : Nat} {a1 : Int32} {v : Nat} {s : hq_S} {y : (Int32 × hq_S)} (hv : v = 2 ∨ v = 25) (gv : hq_gr s 48 1 = v) (h : f_X6_readJoint_J100 n a1 s = some y) : ph 48 7 8 s y.2 := by
  unfold f_X6_readJoint_J100 at h
  have t := ph_rf 48 7 8 s
  obtain ⟨s8, hs8, h⟩ := hq_bind h
  have q0 := f_X6_settle_fw hv gv hs8
  have t := ph_tr t (ph_fw (by first | decide | (rcases hv with rfl | rfl <;> decide) | (rw [gv]; rcases hv with rfl | rfl <;> decide)) (by first | decide | (rcases hv with rfl | rfl <;> decide) | (rw [gv]; rcases hv with rfl | rfl <;> decide)) q0)
  have gv := (q0 48 1 (by first | decide | (rcases hv with rfl | rfl <;> decide) | (rw [gv]; rcases hv with rfl | rfl <;> decide))).2.2.trans gv
  by_cases c9 : 0 < (hq_gi s8 48 4)
  · rw [if_pos c9] at h
    obtain ⟨y10, hy10, h⟩ := hq_bind h
    have q0 := f_X6_failed_fw hy10
    have t := ph_tr t (ph_failed (by decide) hy10)
    have gv := (q0 48 1 (by first | decide | (rcases hv with rfl | rfl <;> decide) | (rw [gv]; rcases hv with rfl | rfl <;> decide))).2.2.trans gv
    by_cases c11 : y10.1 = 0
    · rw [if_pos c11] at h
      have h := Option.some.inj h
      subst h
      exact t
    · rw [if_neg c11] at h
      have h := Option.some.inj h
      subst h
      exact t
  · rw [if_neg c9] at h
    have h := Option.some.inj h
    subst h
    exact t
theorem f_X6_readJoint_J167_ph {n : Nat} {a1 : Int32} {v : Nat} {s : hq_S} {y : (Int32 × hq_S)} (hv : v = 2 ∨ v = 25) (gv : hq_gr s 48 1 = v) (h : f_X6_readJoint_J167 n a1 s = some y) : ph 48 7 8 s y.2 := by
  unfold f_X6_readJoint_J167 at h
  have t := ph_rf 48 7 8 s
  obtain ⟨s14, hs14, h⟩ := hq_bind h
  have q0 := f_X6_settle_fw hv gv hs14
  have t := ph_tr t (ph_fw (by first | decide | (rcases hv with rfl | rfl <;> decide) | (rw [gv]; rcases hv with rfl | rfl <;> decide)) (by first | decide | (rcases hv with rfl | rfl <;> decide) | (rw [gv]; rcases hv with rfl | rfl <;> decide)) q0)
  have gv := (q0 48 1 (by first | decide | (rcases hv with rfl | rfl <;> decide) | (rw [gv]; rcases hv with rfl | rfl <;> decide))).2.2.trans gv
  obtain ⟨s15, hs15, h⟩ := hq_bind h
  have q0 := f_X6_hang_fw hs15
  have t := ph_tr t (ph_fw (by first | decide | (rcases hv with rfl | rfl <;> decide) | (rw [gv]; rcases hv with rfl | rfl <;> decide)) (by first | decide | (rcases hv with rfl | rfl <;> decide) | (rw [gv]; rcases hv with rfl | rfl <;> decide)) q0)
  have gv := (q0 48 1 (by first | decide | (rcases hv with rfl | rfl <;> decide) | (rw [gv]; rcases hv with rfl | rfl <;> decide))).2.2.trans gv
  obtain ⟨s16, hs16, h⟩ := hq_bind h
  have t := ph_tr t (ph_pi hs16 (by first | decide | (rcases hv with rfl | rfl <;> decide) | (rw [gv]; rcases hv with rfl | rfl <;> decide)))
  have gv := (hq_pi_gr hs16).trans gv
  obtain ⟨z17, hz17, h⟩ := hq_bind h
  obtain ⟨s20, hs20, h⟩ := hq_bind h
  have t := ph_tr t (ph_pi hs20 (by first | decide | (rcases hv with rfl | rfl <;> decide) | (rw [gv]; rcases hv with rfl | rfl <;> decide)))
  have gv := (hq_pi_gr hs20).trans gv
  obtain ⟨y21, hy21, h⟩ := hq_bind h
  have q0 := f_X6_passKnot_fw hv gv hy21
  have t := ph_tr t (f_X6_passKnot_ph hv gv hy21)
  have gv := (q0 48 1 (by first | decide | (rcases hv with rfl | rfl <;> decide) | (rw [gv]; rcases hv with rfl | rfl <;> decide))).2.2.trans gv
  have hr : mm_rfit (mm_ret mc_X6_readJoint) y21.1 = true := hq_ifT h
  rw [if_pos hr] at h
  have h := Option.some.inj h
  subst h
  exact t
theorem f_X6_readJoint_J53_ph {n : Nat} {v : Nat} {s : hq_S} {y : (Int32 × hq_S)} (hv : v = 2 ∨ v = 25) (gv : hq_gr s 48 1 = v) (h : f_X6_readJoint_J53 n s = some y) : ph 48 7 8 s y.2 := by
  unfold f_X6_readJoint_J53 at h
  have t := ph_rf 48 7 8 s
  obtain ⟨z2, hz2, h⟩ := hq_bind h
  have tg : ph 48 7 8 s z2.2 ∧ hq_gr z2.2 48 1 = v := by
    clear h
    have h := hz2
    by_cases c3 : (hq_gi s 49 4) = (5 : Int32)
    · rw [if_pos c3] at h
      obtain ⟨y4, hy4, h⟩ := hq_bind h
      have q0 := f_X6_levelOf_fw hy4
      have t := ph_tr t (ph_fw (by first | decide | (rcases hv with rfl | rfl <;> decide) | (rw [gv]; rcases hv with rfl | rfl <;> decide)) (by first | decide | (rcases hv with rfl | rfl <;> decide) | (rw [gv]; rcases hv with rfl | rfl <;> decide)) q0)
      have gv := (q0 48 1 (by first | decide | (rcases hv with rfl | rfl <;> decide) | (rw [gv]; rcases hv with rfl | rfl <;> decide))).2.2.trans gv
      cases h
      exact ⟨t, gv⟩
    · rw [if_neg c3] at h
      by_cases c5 : (hq_gi s 49 4) = (3 : Int32)
      · rw [if_pos c5] at h
        obtain ⟨y6, hy6, h⟩ := hq_bind h
        have q0 := f_X6_levelOf_fw hy6
        have t := ph_tr t (ph_fw (by first | decide | (rcases hv with rfl | rfl <;> decide) | (rw [gv]; rcases hv with rfl | rfl <;> decide)) (by first | decide | (rcases hv with rfl | rfl <;> decide) | (rw [gv]; rcases hv with rfl | rfl <;> decide)) q0)
        have gv := (q0 48 1 (by first | decide | (rcases hv with rfl | rfl <;> decide) | (rw [gv]; rcases hv with rfl | rfl <;> decide))).2.2.trans gv
        cases h
        exact ⟨t, gv⟩
      · rw [if_neg c5] at h
        cases h
        exact ⟨t, gv⟩
  have t := tg.1
  have gv := tg.2
  by_cases c7 : z2.1 = (-1 : Int32)
  · rw [if_pos c7] at h
    exact ph_tr t (f_X6_readJoint_J100_ph hv gv h)
  · rw [if_neg c7] at h
    by_cases c12 : z2.1 = (2 : Int32)
    · rw [if_pos c12] at h
      exact ph_tr t (f_X6_readJoint_J100_ph hv gv h)
    · rw [if_neg c12] at h
      by_cases c13 : z2.1 = (3 : Int32)
      · rw [if_pos c13] at h
        obtain ⟨s22, hs22, h⟩ := hq_bind h
        have q0 := f_X6_settle_fw hv gv hs22
        have t := ph_tr t (ph_fw (by first | decide | (rcases hv with rfl | rfl <;> decide) | (rw [gv]; rcases hv with rfl | rfl <;> decide)) (by first | decide | (rcases hv with rfl | rfl <;> decide) | (rw [gv]; rcases hv with rfl | rfl <;> decide)) q0)
        have gv := (q0 48 1 (by first | decide | (rcases hv with rfl | rfl <;> decide) | (rw [gv]; rcases hv with rfl | rfl <;> decide))).2.2.trans gv
        by_cases c23 : 0 < (hq_gi s22 48 3)
        · rw [if_pos c23] at h
          obtain ⟨x24, hx24, h⟩ := hq_bind h
          obtain ⟨y25, hy25, h⟩ := hq_bind h
          have q0 := f_X6_levelOf_fw hy25
          have t := ph_tr t (ph_fw (by first | decide | (rcases hv with rfl | rfl <;> decide) | (rw [gv]; rcases hv with rfl | rfl <;> decide)) (by first | decide | (rcases hv with rfl | rfl <;> decide) | (rw [gv]; rcases hv with rfl | rfl <;> decide)) q0)
          have gv := (q0 48 1 (by first | decide | (rcases hv with rfl | rfl <;> decide) | (rw [gv]; rcases hv with rfl | rfl <;> decide))).2.2.trans gv
          by_cases c26 : y25.1 = (3 : Int32)
          · rw [if_pos c26] at h
            obtain ⟨y27, hy27, h⟩ := hq_bind h
            have q0 := f_X6_failed_fw hy27
            have t := ph_tr t (ph_failed (by decide) hy27)
            have gv := (q0 48 1 (by first | decide | (rcases hv with rfl | rfl <;> decide) | (rw [gv]; rcases hv with rfl | rfl <;> decide))).2.2.trans gv
            have hr : mm_rfit (mm_ret mc_X6_readJoint) y27.1 = true := hq_ifT h
            rw [if_pos hr] at h
            have h := Option.some.inj h
            subst h
            exact t
          · rw [if_neg c26] at h
            exact ph_tr t (f_X6_readJoint_J167_ph hv gv h)
        · rw [if_neg c23] at h
          exact ph_tr t (f_X6_readJoint_J167_ph hv gv h)
      · rw [if_neg c13] at h
        exact ph_tr t (f_X6_readJoint_J167_ph hv gv h)
theorem f_X6_readJoint_ph {n : Nat} {v : Nat} {s : hq_S} {y : (Int32 × hq_S)} (hv : v = 2 ∨ v = 25) (gv : hq_gr s 48 1 = v) (h : f_X6_readJoint n s = some y) : ph 48 7 8 s y.2 := by
  unfold f_X6_readJoint at h
  have t := ph_rf 48 7 8 s
  by_cases c1 : 0 < (hq_gi s 48 4)
  · rw [if_pos c1] at h
    obtain ⟨y28, hy28, h⟩ := hq_bind h
    have q0 := f_X9_isThisSign_fw hy28
    have t := ph_tr t (ph_fw (by first | decide | (rcases hv with rfl | rfl <;> decide) | (rw [gv]; rcases hv with rfl | rfl <;> decide)) (by first | decide | (rcases hv with rfl | rfl <;> decide) | (rw [gv]; rcases hv with rfl | rfl <;> decide)) q0)
    have gv := (q0 48 1 (by first | decide | (rcases hv with rfl | rfl <;> decide) | (rw [gv]; rcases hv with rfl | rfl <;> decide))).2.2.trans gv
    by_cases c29 : y28.1 = 0
    · rw [if_pos c29] at h
      exact ph_tr t (f_X6_readJoint_J53_ph hv gv h)
    · rw [if_neg c29] at h
      obtain ⟨s30, hs30, h⟩ := hq_bind h
      have q0 := f_X6_settle_fw hv gv hs30
      have t := ph_tr t (ph_fw (by first | decide | (rcases hv with rfl | rfl <;> decide) | (rw [gv]; rcases hv with rfl | rfl <;> decide)) (by first | decide | (rcases hv with rfl | rfl <;> decide) | (rw [gv]; rcases hv with rfl | rfl <;> decide)) q0)
      have gv := (q0 48 1 (by first | decide | (rcases hv with rfl | rfl <;> decide) | (rw [gv]; rcases hv with rfl | rfl <;> decide))).2.2.trans gv
      obtain ⟨s31, hs31, h⟩ := hq_bind h
      have t := ph_tr t (ph_pi hs31 (by first | decide | (rcases hv with rfl | rfl <;> decide) | (rw [gv]; rcases hv with rfl | rfl <;> decide)))
      have gv := (hq_pi_gr hs31).trans gv
      obtain ⟨s32, hs32, h⟩ := hq_bind h
      have t := ph_tr t (ph_pi hs32 (by first | decide | (rcases hv with rfl | rfl <;> decide) | (rw [gv]; rcases hv with rfl | rfl <;> decide)))
      have gv := (hq_pi_gr hs32).trans gv
      obtain ⟨s33, hs33, h⟩ := hq_bind h
      have q0 := f_X9_advance_fw hs33
      have t := ph_tr t (ph_fw (by first | decide | (rcases hv with rfl | rfl <;> decide) | (rw [gv]; rcases hv with rfl | rfl <;> decide)) (by first | decide | (rcases hv with rfl | rfl <;> decide) | (rw [gv]; rcases hv with rfl | rfl <;> decide)) q0)
      have gv := (q0 48 1 (by first | decide | (rcases hv with rfl | rfl <;> decide) | (rw [gv]; rcases hv with rfl | rfl <;> decide))).2.2.trans gv
      have h := Option.some.inj h
      subst h
      exact t
  · rw [if_neg c1] at h
    exact ph_tr t (f_X6_readJoint_J53_ph hv gv h)
theorem f_X6_readLaw_J42_ph {n : Nat} {a1 : Int32} {v : Nat} {s : hq_S} {y : (Int32 × hq_S)} (hv : v = 2 ∨ v = 25) (gv : hq_gr s 48 1 = v) (h : f_X6_readLaw_J42 n a1 s = some y) : ph 48 7 8 s y.2 := by
  unfold f_X6_readLaw_J42 at h
  have t := ph_rf 48 7 8 s
  obtain ⟨y5, hy5, h⟩ := hq_bind h
  have q0 := f_X6_failed_fw hy5
  have t := ph_tr t (ph_failed (by decide) hy5)
  have gv := (q0 48 1 (by first | decide | (rcases hv with rfl | rfl <;> decide) | (rw [gv]; rcases hv with rfl | rfl <;> decide))).2.2.trans gv
  have hr : mm_rfit (mm_ret mc_X6_readLaw) y5.1 = true := hq_ifT h
  rw [if_pos hr] at h
  have h := Option.some.inj h
  subst h
  exact t
theorem f_X6_readLaw_J146_ph {n : Nat} {a1 : Int32} {a2 : Int32} {a3 : Int32} {v : Nat} {s : hq_S} {y : (Int32 × hq_S)} (hv : v = 2 ∨ v = 25) (gv : hq_gr s 48 1 = v) (h : f_X6_readLaw_J146 n a1 a2 a3 s = some y) : ph 48 7 8 s y.2 := by
  unfold f_X6_readLaw_J146 at h
  have t := ph_rf 48 7 8 s
  by_cases c18 : (hq_gi s 48 7) = 0
  · rw [if_pos c18] at h
    have m19 : hq_isT (hq_gr s 48 1) := hq_ifT h
    rw [if_pos m19] at h
    obtain ⟨s20, hs20, h⟩ := hq_bind h
    have q0 := f_X4_close_fw (hq_shT_m9 m19) hs20
    have t := ph_tr t (ph_fw (by first | decide | (rcases hv with rfl | rfl <;> decide) | (rw [gv]; rcases hv with rfl | rfl <;> decide)) (by first | decide | (rcases hv with rfl | rfl <;> decide) | (rw [gv]; rcases hv with rfl | rfl <;> decide)) q0)
    have gv := (q0 48 1 (by first | decide | (rcases hv with rfl | rfl <;> decide) | (rw [gv]; rcases hv with rfl | rfl <;> decide))).2.2.trans gv
    have h := Option.some.inj h
    subst h
    exact t
  · rw [if_neg c18] at h
    have h := Option.some.inj h
    subst h
    exact t
theorem f_X6_readLaw_L110_B_ph {n : Nat} {a1 : Int32} {a2 : Int32} {a3 : Int32} {q110 : Int32 → Int32 → Int32 → hq_S → Option (Int32 × hq_S)} {v : Nat} {s : hq_S} {y : (Int32 × hq_S)} (e110 : ∀ (a1 : Int32) (a2 : Int32) (a3 : Int32) (s : hq_S), hq_gr s 48 1 = v → q110 a1 a2 a3 s = some y → ph 48 7 8 s y.2) (hv : v = 2 ∨ v = 25) (gv : hq_gr s 48 1 = v) (h : f_X6_readLaw_L110_B n q110 a1 a2 a3 s = some y) : ph 48 7 8 s y.2 := by
  unfold f_X6_readLaw_L110_B at h
  have t := ph_rf 48 7 8 s
  by_cases c17 : (700 : Int32) < a3
  · rw [if_pos c17] at h
    exact ph_tr t (f_X6_readLaw_J146_ph hv gv h)
  · rw [if_neg c17] at h
    by_cases c21 : a2 = 0
    · rw [if_pos c21] at h
      exact ph_tr t (f_X6_readLaw_J146_ph hv gv h)
    · rw [if_neg c21] at h
      obtain ⟨z22, hz22, h⟩ := hq_bind h
      have tg : ph 48 7 8 s z22.2 ∧ hq_gr z22.2 48 1 = v := by
        clear h
        have h := hz22
        by_cases c23 : (hq_gi s 48 5) = 0
        · rw [if_pos c23] at h
          obtain ⟨y24, hy24, h⟩ := hq_bind h
          have q0 := f_X6_readJoint_fw hv gv hy24
          have t := ph_tr t (f_X6_readJoint_ph hv gv hy24)
          have gv := (q0 48 1 (by first | decide | (rcases hv with rfl | rfl <;> decide) | (rw [gv]; rcases hv with rfl | rfl <;> decide))).2.2.trans gv
          cases h
          exact ⟨t, gv⟩
        · rw [if_neg c23] at h
          obtain ⟨y25, hy25, h⟩ := hq_bind h
          have q0 := f_X6_readSide_fw hv gv hy25
          have t := ph_tr t (f_X6_readSide_ph hv gv hy25)
          have gv := (q0 48 1 (by first | decide | (rcases hv with rfl | rfl <;> decide) | (rw [gv]; rcases hv with rfl | rfl <;> decide))).2.2.trans gv
          cases h
          exact ⟨t, gv⟩
      have t := tg.1
      have gv := tg.2
      exact ph_tr t (e110 a1 z22.1 (a3 + (1 : Int32)) z22.2 gv h)
theorem f_X6_readLaw_L110_ph {n m : Nat} {a1 : Int32} {a2 : Int32} {a3 : Int32} {v : Nat} {s : hq_S} {y : (Int32 × hq_S)} (hv : v = 2 ∨ v = 25) (gv : hq_gr s 48 1 = v) (h : f_X6_readLaw_L110 n m a1 a2 a3 s = some y) : ph 48 7 8 s y.2 := by
  induction m generalizing a1 a2 a3 s with
  | zero => cases h
  | succ m ih => exact f_X6_readLaw_L110_B_ph (n := n) (a1 := a1) (a2 := a2) (a3 := a3) (q110 := f_X6_readLaw_L110 n m) (fun a1 a2 a3 s gv h => ih gv h) hv gv h
theorem f_X6_readLaw_ph {n : Nat} {v : Nat} {s : hq_S} {y : (Int32 × hq_S)} (hv : v = 2 ∨ v = 25) (gv : hq_gr s 48 1 = v) (h : f_X6_readLaw n s = some y) : ph 48 7 8 s y.2 := by
  unfold f_X6_readLaw at h
  have t := ph_rf 48 7 8 s
  obtain ⟨s1, hs1, h⟩ := hq_bind h
  have q0 := f_X9_advance_fw hs1
  have t := ph_tr t (ph_fw (by first | decide | (rcases hv with rfl | rfl <;> decide) | (rw [gv]; rcases hv with rfl | rfl <;> decide)) (by first | decide | (rcases hv with rfl | rfl <;> decide) | (rw [gv]; rcases hv with rfl | rfl <;> decide)) q0)
  have gv := (q0 48 1 (by first | decide | (rcases hv with rfl | rfl <;> decide) | (rw [gv]; rcases hv with rfl | rfl <;> decide))).2.2.trans gv
  obtain ⟨z2, hz2, h⟩ := hq_bind h
  by_cases c4 : z2 < 0
  · rw [if_pos c4] at h
    exact ph_tr t (f_X6_readLaw_J42_ph hv gv h)
  · rw [if_neg c4] at h
    by_cases c6 : z2 < (3 : Int32)
    · rw [if_pos c6] at h
      have m7 : hq_isT (hq_gr s1 48 1) := hq_ifT h
      rw [if_pos m7] at h
      obtain ⟨y8, hy8, h⟩ := hq_bind h
      have q0 := f_X4_isTold_fw (hq_shT_m9 m7) hy8
      have t := ph_tr t (ph_fw (by first | decide | (rcases hv with rfl | rfl <;> decide) | (rw [gv]; rcases hv with rfl | rfl <;> decide)) (by first | decide | (rcases hv with rfl | rfl <;> decide) | (rw [gv]; rcases hv with rfl | rfl <;> decide)) q0)
      have gv := (q0 48 1 (by first | decide | (rcases hv with rfl | rfl <;> decide) | (rw [gv]; rcases hv with rfl | rfl <;> decide))).2.2.trans gv
      by_cases c9 : y8.1 = 0
      · rw [if_pos c9] at h
        obtain ⟨s10, hs10, h⟩ := hq_bind h
        have q0 := f_X9_advance_fw hs10
        have t := ph_tr t (ph_fw (by first | decide | (rcases hv with rfl | rfl <;> decide) | (rw [gv]; rcases hv with rfl | rfl <;> decide)) (by first | decide | (rcases hv with rfl | rfl <;> decide) | (rw [gv]; rcases hv with rfl | rfl <;> decide)) q0)
        have gv := (q0 48 1 (by first | decide | (rcases hv with rfl | rfl <;> decide) | (rw [gv]; rcases hv with rfl | rfl <;> decide))).2.2.trans gv
        have m11 : hq_isT (hq_gr s10 48 1) := hq_ifT h
        rw [if_pos m11] at h
        obtain ⟨s12, hs12, h⟩ := hq_bind h
        have q0 := f_X4_open_fw (hq_shT_m9 m11) hs12
        have t := ph_tr t (ph_fw (by first | decide | (rcases hv with rfl | rfl <;> decide) | (rw [gv]; rcases hv with rfl | rfl <;> decide)) (by first | decide | (rcases hv with rfl | rfl <;> decide) | (rw [gv]; rcases hv with rfl | rfl <;> decide)) q0)
        have gv := (q0 48 1 (by first | decide | (rcases hv with rfl | rfl <;> decide) | (rw [gv]; rcases hv with rfl | rfl <;> decide))).2.2.trans gv
        obtain ⟨s13, hs13, h⟩ := hq_bind h
        have t := ph_tr t (ph_pi hs13 (by first | decide | (rcases hv with rfl | rfl <;> decide) | (rw [gv]; rcases hv with rfl | rfl <;> decide)))
        have gv := (hq_pi_gr hs13).trans gv
        obtain ⟨s14, hs14, h⟩ := hq_bind h
        have t := ph_tr t (ph_pi hs14 (by first | decide | (rcases hv with rfl | rfl <;> decide) | (rw [gv]; rcases hv with rfl | rfl <;> decide)))
        have gv := (hq_pi_gr hs14).trans gv
        obtain ⟨s15, hs15, h⟩ := hq_bind h
        have t := ph_tr t (ph_pi hs15 (by first | decide | (rcases hv with rfl | rfl <;> decide) | (rw [gv]; rcases hv with rfl | rfl <;> decide)))
        have gv := (hq_pi_gr hs15).trans gv
        obtain ⟨s16, hs16, h⟩ := hq_bind h
        have t := ph_tr t (ph_pi hs16 (by first | decide | (rcases hv with rfl | rfl <;> decide) | (rw [gv]; rcases hv with rfl | rfl <;> decide)))
        have gv := (hq_pi_gr hs16).trans gv
        exact ph_tr t (f_X6_readLaw_L110_ph hv gv h)
      · rw [if_neg c9] at h
        obtain ⟨y26, hy26, h⟩ := hq_bind h
        have q0 := f_X6_failed_fw hy26
        have t := ph_tr t (ph_failed (by decide) hy26)
        have gv := (q0 48 1 (by first | decide | (rcases hv with rfl | rfl <;> decide) | (rw [gv]; rcases hv with rfl | rfl <;> decide))).2.2.trans gv
        have hr : mm_rfit (mm_ret mc_X6_readLaw) y26.1 = true := hq_ifT h
        rw [if_pos hr] at h
        have h := Option.some.inj h
        subst h
        exact t
    · rw [if_neg c6] at h
      exact ph_tr t (f_X6_readLaw_J42_ph hv gv h)
theorem f_X6_readLine_ph {n : Nat} {v : Nat} {s : hq_S} {y : (Int32 × hq_S)} (hv : v = 2 ∨ v = 25) (gv : hq_gr s 48 1 = v) (h : f_X6_readLine n s = some y) : ph 48 7 8 s y.2 := by
  unfold f_X6_readLine at h
  have t := ph_rf 48 7 8 s
  by_cases c1 : (hq_gi s 49 4) = (3 : Int32)
  · rw [if_pos c1] at h
    by_cases c2 : (hq_gi s 49 5) = (0 : Int32)
    · rw [if_pos c2] at h
      obtain ⟨y3, hy3, h⟩ := hq_bind h
      have q0 := f_X6_readCorner_fw hv gv hy3
      have t := ph_tr t (f_X6_readCorner_ph hv gv hy3)
      have gv := (q0 48 1 (by first | decide | (rcases hv with rfl | rfl <;> decide) | (rw [gv]; rcases hv with rfl | rfl <;> decide))).2.2.trans gv
      have hr : mm_rfit (mm_ret mc_X6_readLine) y3.1 = true := hq_ifT h
      rw [if_pos hr] at h
      have h := Option.some.inj h
      subst h
      exact t
    rw [if_neg c2] at h
    by_cases c4 : (hq_gi s 49 5) = (1 : Int32)
    · rw [if_pos c4] at h
      obtain ⟨y5, hy5, h⟩ := hq_bind h
      have q0 := f_X6_readLane_fw hv gv hy5
      have t := ph_tr t (f_X6_readLane_ph hv gv hy5)
      have gv := (q0 48 1 (by first | decide | (rcases hv with rfl | rfl <;> decide) | (rw [gv]; rcases hv with rfl | rfl <;> decide))).2.2.trans gv
      have hr : mm_rfit (mm_ret mc_X6_readLine) y5.1 = true := hq_ifT h
      rw [if_pos hr] at h
      have h := Option.some.inj h
      subst h
      exact t
    rw [if_neg c4] at h
    by_cases c6 : (hq_gi s 49 5) = (2 : Int32)
    · rw [if_pos c6] at h
      obtain ⟨y7, hy7, h⟩ := hq_bind h
      have q0 := f_X6_readLane_fw hv gv hy7
      have t := ph_tr t (f_X6_readLane_ph hv gv hy7)
      have gv := (q0 48 1 (by first | decide | (rcases hv with rfl | rfl <;> decide) | (rw [gv]; rcases hv with rfl | rfl <;> decide))).2.2.trans gv
      have hr : mm_rfit (mm_ret mc_X6_readLine) y7.1 = true := hq_ifT h
      rw [if_pos hr] at h
      have h := Option.some.inj h
      subst h
      exact t
    rw [if_neg c6] at h
    by_cases c8 : (hq_gi s 49 5) = (3 : Int32)
    · rw [if_pos c8] at h
      obtain ⟨y9, hy9, h⟩ := hq_bind h
      have q0 := f_X6_readGuard_fw hv gv hy9
      have t := ph_tr t (f_X6_readGuard_ph hv gv hy9)
      have gv := (q0 48 1 (by first | decide | (rcases hv with rfl | rfl <;> decide) | (rw [gv]; rcases hv with rfl | rfl <;> decide))).2.2.trans gv
      have hr : mm_rfit (mm_ret mc_X6_readLine) y9.1 = true := hq_ifT h
      rw [if_pos hr] at h
      have h := Option.some.inj h
      subst h
      exact t
    rw [if_neg c8] at h
    by_cases c10 : (hq_gi s 49 5) = (4 : Int32)
    · rw [if_pos c10] at h
      obtain ⟨y11, hy11, h⟩ := hq_bind h
      have q0 := f_X6_readBeat_fw hv gv hy11
      have t := ph_tr t (f_X6_readBeat_ph hv gv hy11)
      have gv := (q0 48 1 (by first | decide | (rcases hv with rfl | rfl <;> decide) | (rw [gv]; rcases hv with rfl | rfl <;> decide))).2.2.trans gv
      have hr : mm_rfit (mm_ret mc_X6_readLine) y11.1 = true := hq_ifT h
      rw [if_pos hr] at h
      have h := Option.some.inj h
      subst h
      exact t
    rw [if_neg c10] at h
    by_cases c12 : (hq_gi s 49 5) = (5 : Int32)
    · rw [if_pos c12] at h
      obtain ⟨y13, hy13, h⟩ := hq_bind h
      have q0 := f_X6_readThief_fw hv gv hy13
      have t := ph_tr t (f_X6_readThief_ph hv gv hy13)
      have gv := (q0 48 1 (by first | decide | (rcases hv with rfl | rfl <;> decide) | (rw [gv]; rcases hv with rfl | rfl <;> decide))).2.2.trans gv
      have hr : mm_rfit (mm_ret mc_X6_readLine) y13.1 = true := hq_ifT h
      rw [if_pos hr] at h
      have h := Option.some.inj h
      subst h
      exact t
    rw [if_neg c12] at h
    by_cases c14 : (hq_gi s 49 5) = (6 : Int32)
    · rw [if_pos c14] at h
      obtain ⟨y15, hy15, h⟩ := hq_bind h
      have q0 := f_X6_readGrip_fw hv gv hy15
      have t := ph_tr t (f_X6_readGrip_ph hv gv hy15)
      have gv := (q0 48 1 (by first | decide | (rcases hv with rfl | rfl <;> decide) | (rw [gv]; rcases hv with rfl | rfl <;> decide))).2.2.trans gv
      have hr : mm_rfit (mm_ret mc_X6_readLine) y15.1 = true := hq_ifT h
      rw [if_pos hr] at h
      have h := Option.some.inj h
      subst h
      exact t
    rw [if_neg c14] at h
    by_cases c16 : (hq_gi s 49 5) = (7 : Int32)
    · rw [if_pos c16] at h
      obtain ⟨y17, hy17, h⟩ := hq_bind h
      have q0 := f_X6_readSeed_fw hv gv hy17
      have t := ph_tr t (f_X6_readSeed_ph hv gv hy17)
      have gv := (q0 48 1 (by first | decide | (rcases hv with rfl | rfl <;> decide) | (rw [gv]; rcases hv with rfl | rfl <;> decide))).2.2.trans gv
      have hr : mm_rfit (mm_ret mc_X6_readLine) y17.1 = true := hq_ifT h
      rw [if_pos hr] at h
      have h := Option.some.inj h
      subst h
      exact t
    rw [if_neg c16] at h
    by_cases c18 : (hq_gi s 49 5) = (8 : Int32)
    · rw [if_pos c18] at h
      obtain ⟨y19, hy19, h⟩ := hq_bind h
      have q0 := f_X6_readLaw_fw hv gv hy19
      have t := ph_tr t (f_X6_readLaw_ph hv gv hy19)
      have gv := (q0 48 1 (by first | decide | (rcases hv with rfl | rfl <;> decide) | (rw [gv]; rcases hv with rfl | rfl <;> decide))).2.2.trans gv
      have hr : mm_rfit (mm_ret mc_X6_readLine) y19.1 = true := hq_ifT h
      rw [if_pos hr] at h
      have h := Option.some.inj h
      subst h
      exact t
    rw [if_neg c18] at h
    obtain ⟨y20, hy20, h⟩ := hq_bind h
    have q0 := f_X6_failed_fw hy20
    have t := ph_tr t (ph_failed (by decide) hy20)
    have gv := (q0 48 1 (by first | decide | (rcases hv with rfl | rfl <;> decide) | (rw [gv]; rcases hv with rfl | rfl <;> decide))).2.2.trans gv
    have hr : mm_rfit (mm_ret mc_X6_readLine) y20.1 = true := hq_ifT h
    rw [if_pos hr] at h
    have h := Option.some.inj h
    subst h
    exact t
  · rw [if_neg c1] at h
    obtain ⟨y21, hy21, h⟩ := hq_bind h
    have q0 := f_X6_failed_fw hy21
    have t := ph_tr t (ph_failed (by decide) hy21)
    have gv := (q0 48 1 (by first | decide | (rcases hv with rfl | rfl <;> decide) | (rw [gv]; rcases hv with rfl | rfl <;> decide))).2.2.trans gv
    have hr : mm_rfit (mm_ret mc_X6_readLine) y21.1 = true := hq_ifT h
    rw [if_pos hr] at h
    have h := Option.some.inj h
    subst h
    exact t
