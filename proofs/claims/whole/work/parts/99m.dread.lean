/-! DREAD AND STIR: both alike -/
section
variable {N nc nl ng nt t u k l : Nat} {nx : Nat → Nat} {fa : Nat → Nat → Nat} {bn : Int32} {o sx sm : hq_S}
theorem hh_dread (hN : 100 < N) (hl : l < 23) (C : hh_C nc nl ng nt t u k l nx fa bn o sx sm) {i c : Nat} (hi : i < nt) (hc : c < nc) : ∃ v sx' sm', f_X3_dread N (Int32.ofNat i) (Int32.ofNat c) sx = some (v, sx') ∧ f_X12_dreadOf N (Int32.ofNat l) (Int32.ofNat i) (Int32.ofNat c) sm = some (v, sm') ∧ hx_e t sx sx' ∧ hm_e sm sm' := by
  obtain ⟨v, sx', sm1, e1, e2, e3, e4, e5⟩ := hh_law (r := 0) hN hl C.1 C.2.1 (by omega) hi hc
  have e1 : f_X3_lawValue N 0 (Int32.ofNat i) (Int32.ofNat c) sx = some (v, sx') := e1
  have d10 : ¬ (1 : Int32) = 0 := by decide
  -- light less twice how far
  have base : ∀ sm2, hm_e sm sm2 → ∃ w, (if hq_isT (hq_gr sx' 113 0) then (hq_ld sx' ((hq_gr sx' 113 0) + 2) 10 (Int32.ofNat c)).bind fun x4 => (f_X3_nearest N (Int32.ofNat c) sx').bind fun y5 => some ((x4.toInt64 - ((2 : Int64) * y5.1.toInt64)), y5.2) else none) = some (w, sx') ∧ f_X12_dreadOf_J23 N (Int32.ofNat l) (Int32.ofNat i) (Int32.ofNat c) sm2 = some (w, sm2) := by
    intro sm2 h2
    obtain ⟨S, W, -⟩ := hh_C_e e2 h2 C
    obtain ⟨v, -, n1, n2⟩ := hh_near (N := N) (c := c) (by omega) hl S W hc
    obtain ⟨T, ⟨dt, du, dk⟩, ⟨r0, r1, r2⟩, -⟩ := S
    obtain ⟨⟨hnc, -⟩, -, tc, -⟩ := T
    obtain ⟨-, ⟨lt, hlt, lx, lm⟩, -⟩ := tc c hc
    have vx0 : hq_ld sx' (t + 2) 10 (Int32.ofNat c) = some (Int32.ofNat lt) := by rw [nn_ld (by omega) (by omega), lx]
    have vm0 : hq_ld sm2 178 20 (Int32.ofNat c) = some (Int32.ofNat lt) := by rw [nn_ld (by omega) (by omega), lm]
    refine ⟨(Int32.ofNat lt).toInt64 - (2 : Int64) * (Int32.ofNat v).toInt64, ?_, ?_⟩
    · rw [r0, if_pos (show hq_isT t from dt), vx0, Option.bind_some, n1]
      rfl
    · unfold f_X12_dreadOf_J23
      rw [vm0, Option.bind_some, n2]
      rfl
  have ers : (lg_cmp (-9223372036854775808 : Int64) (-9223372036854775808 : Int64) = 0) = True := eq_true (by rw [lg_cmp_eq])
  rcases e5 with ⟨h1, h2⟩ | ⟨h1, b, sm2, h2, h3, h4⟩
  · have h1 : f_X12_hasLaw N 0 sm1 = some (0, sm1) := h1
    obtain ⟨w, b1, b2⟩ := base sm1 e4
    refine ⟨w, sx', sm1, ?_, ?_, e2, e4⟩
    · unfold f_X3_dread
      rw [e1, h2, Option.bind_some]
      simp only [ers, if_true]
      exact b1
    · simp only [f_X12_dreadOf, e3, h1, Option.bind_some, if_true]
      exact b2
  · have h1 : f_X12_hasLaw N 0 sm1 = some (1, sm1) := h1
    have h2 : f_X12_goes N 0 sm1 = some (b, sm2) := h2
    rcases h4 with ⟨hb, hv⟩ | ⟨hb, hv, hw⟩
    · obtain ⟨w, b1, b2⟩ := base sm2 h3
      refine ⟨w, sx', sm2, ?_, ?_, e2, h3⟩
      · unfold f_X3_dread
        rw [e1, hv, Option.bind_some]
        simp only [ers, if_true]
        exact b1
      · simp only [f_X12_dreadOf, e3, h1, h2, hb, Option.bind_some, if_neg d10, if_true]
        exact b2
    · refine ⟨v, sx', sm2, ?_, ?_, e2, h3⟩
      · have nv : ¬ lg_cmp v (-9223372036854775808 : Int64) = 0 := by rw [lg_cmp_eq]; exact lb_err hv
        simp only [f_X3_dread, e1, Option.bind_some, if_neg nv]
      · have lw : hq_ldj sm2 195 64 0 = some v := by rw [nb_0, nb_ldj (by omega) (by omega), hw]
        simp only [f_X12_dreadOf, e3, h1, h2, hb, Option.bind_some, if_neg d10, lw]
theorem hh_does (hN : 100 < N) (hl : l < 23) (C : hh_C nc nl ng nt t u k l nx fa bn o sx sm) {i : Nat} (hi : i < nt) : ∃ (b : Int32) (sx' sm' : hq_S), (b = 0 ∨ b = 1) ∧ f_X3_stirs N (Int32.ofNat i) sx = some (b, sx') ∧ f_X12_doesStir N (Int32.ofNat l) (Int32.ofNat i) sm = some (b, sm') ∧ hx_e t sx sx' ∧ hm_e sm sm' := by
  obtain ⟨S, W, M, -⟩ := C
  have hnt := S.1.1.2.2.2
  have hnc := S.1.1.1
  obtain ⟨c, hc, c1, c2⟩ := (W.2.2.2.2.2.2.1 i hi).1
  obtain ⟨v, sx', sm1, e1, e2, e3, e4, e5⟩ := hh_law (r := 2) hN hl S W (by omega) hi hc
  have e1 : f_X3_lawValue N 2 (Int32.ofNat i) (Int32.ofNat c) sx = some (v, sx') := e1
  obtain ⟨T, ⟨dt, du, dk⟩, ⟨r0, r1, r2⟩, -⟩ := S
  have iN : hq_isN k := by rcases dk with rfl | rfl <;> decide
  have d10 : ¬ (1 : Int32) = 0 := by decide
  rcases M.1 with ⟨m1, m2⟩ | ⟨m1, m2⟩
  · refine ⟨0, sx, sm, Or.inl rfl, ?_, ?_, hx_e_rf t sx, hm_e_rf sm⟩
    · unfold f_X3_stirs
      rw [if_pos m1]
    · unfold f_X12_doesStir
      rw [if_pos m2]
  · have l1 : hq_ld sx (k + 5) 4 (Int32.ofNat i) = some (Int32.ofNat c) := by rw [nn_ld (by omega) (by omega), c1]
    have l2 : hq_ld sm 203 92 (Int32.ofNat (4 * l + i)) = some (Int32.ofNat c) := by rw [nn_ld (by omega) (by omega), c2]
    have m3 : ¬ hq_gi sx 113 5 = 0 := by rw [m1]; decide
    have xs : f_X3_stirs N (Int32.ofNat i) sx = if v = 0 then some (0, sx') else some (1, sx') := by
      simp only [f_X3_stirs, if_neg m3, r2, if_pos iN, l1, e1, Option.bind_some, lg_cmp_eq]
    have nz : ¬ (-9223372036854775808 : Int64) = 0 := by decide
    rcases e5 with ⟨h1, h2⟩ | ⟨h1, b, sm2, h2, h3, h4⟩
    · have h1 : f_X12_hasLaw N 2 sm1 = some (0, sm1) := h1
      rw [h2, if_neg nz] at xs
      refine ⟨1, sx', sm1, Or.inr rfl, xs, ?_, e2, e4⟩
      simp only [f_X12_doesStir, f_X12_doesStir_J53, if_neg m2, nb_m4, nb_add, l2, e3, h1, Option.bind_some, if_true]
    · have h1 : f_X12_hasLaw N 2 sm1 = some (1, sm1) := h1
      have h2 : f_X12_goes N 2 sm1 = some (b, sm2) := h2
      rcases h4 with ⟨hb, hv⟩ | ⟨hb, hv, hw⟩
      · rw [hv, if_neg nz] at xs
        refine ⟨1, sx', sm2, Or.inr rfl, xs, ?_, e2, h3⟩
        simp only [f_X12_doesStir, f_X12_doesStir_J53, if_neg m2, nb_m4, nb_add, l2, e3, h1, h2, hb, Option.bind_some, if_neg d10, if_true]
      · have lw : hq_ldj sm2 195 64 0 = some v := by rw [nb_0, nb_ldj (by omega) (by omega), hw]
        by_cases q : v = 0
        · rw [if_pos q] at xs
          refine ⟨0, sx', sm2, Or.inl rfl, xs, ?_, e2, h3⟩
          simp only [f_X12_doesStir, f_X12_doesStir_J53, if_neg m2, nb_m4, nb_add, l2, e3, h1, h2, hb, Option.bind_some, if_neg d10, lw, lg_cmp_eq, if_pos q]
        · rw [if_neg q] at xs
          refine ⟨1, sx', sm2, Or.inr rfl, xs, ?_, e2, h3⟩
          simp only [f_X12_doesStir, f_X12_doesStir_J53, if_neg m2, nb_m4, nb_add, l2, e3, h1, h2, hb, Option.bind_some, if_neg d10, lw, lg_cmp_eq, if_neg q]
/-- the corner of least dread is gone to -/
theorem hh_least (hN : 100 < N) (hl : l < 23) {i own : Nat} (hi : i < nt) (ho : own < nc) : ∀ (q j m m' best : Nat) (least : Int64) (sx sm : hq_S), hh_C nc nl ng nt t u k l nx fa bn o sx sm → j + q = nc → q < m → q < m' → best < nc → ∃ sx' sm', f_X3_goWhereDreadIsLeast_L23 N m (Int32.ofNat i) (Int32.ofNat own) (Int32.ofNat best) least (Int32.ofNat j) sx = some sx' ∧ f_X12_stirs_L46 N m' (Int32.ofNat l) (Int32.ofNat i) (Int32.ofNat (4 * l + i)) (Int32.ofNat best) least (Int32.ofNat (nx own)) (Int32.ofNat j) sm = some sm' ∧ hh_C nc nl ng nt t u k l nx fa bn o sx' sm' := by
  intro q
  induction q with
  | zero =>
    intro j m m' best least sx sm C hj hm hm' hb
    obtain ⟨m, rfl⟩ : ∃ k, m = k + 1 := ⟨m - 1, by omega⟩
    obtain ⟨m', rfl⟩ : ∃ k, m' = k + 1 := ⟨m' - 1, by omega⟩
    have C0 := C
    obtain ⟨S, W, M, -⟩ := C
    obtain ⟨T, ⟨dt, du, dk⟩, ⟨r0, r1, r2⟩, -⟩ := S
    obtain ⟨⟨hnc, -, -, hnt⟩, ⟨n1, n2, -⟩, -⟩ := T
    have iT : hq_isT t := dt
    have iN : hq_isN k := by rcases dk with rfl | rfl <;> decide
    have c : ¬ Int32.ofNat j < Int32.ofNat nc := by rw [nn_lt (by omega) (by omega)]; omega
    have l0 : hq_ld sm 176 14 0 = some (Int32.ofNat nc) := by rw [nb_0, nn_ld (by omega) (by omega), n2]
    have s1 : hq_st sx (k + 5) 4 (Int32.ofNat i) (Int32.ofNat best) = some (hq_si sx (k + 5) i (Int32.ofNat best)) := nn_st (by omega) (by omega)
    have s2 : hq_st sm 203 92 (Int32.ofNat (4 * l + i)) (Int32.ofNat best) = some (hq_si sm 203 (4 * l + i) (Int32.ofNat best)) := nn_st (by omega) (by omega)
    refine ⟨_, _, ?_, ?_, hh_C_w (by omega) (by omega) (by unfold hm_sl; omega) (hn_thief dk hi hb W) C0⟩
    · simp only [f_X3_goWhereDreadIsLeast_L23_s, f_X3_goWhereDreadIsLeast_L23_B, r0, if_pos iT, n1, if_neg c, r2, if_pos iN, s1, Option.bind_some]
    · simp only [f_X12_stirs_L46_s, f_X12_stirs_L46_B, l0, Option.bind_some, if_neg c, s2]
  | succ q ih =>
    intro j m m' best least sx sm C hj hm hm' hb
    obtain ⟨m, rfl⟩ : ∃ k, m = k + 1 := ⟨m - 1, by omega⟩
    obtain ⟨m', rfl⟩ : ∃ k, m' = k + 1 := ⟨m' - 1, by omega⟩
    have C0 := C
    obtain ⟨S, W, M, -⟩ := C
    obtain ⟨T, ⟨dt, du, dk⟩, ⟨r0, r1, r2⟩, ⟨hx, -⟩, X, R, -⟩ := S
    obtain ⟨⟨hnc, -, -, hnt⟩, ⟨n1, n2, -⟩, -⟩ := T
    have iT : hq_isT t := dt
    have iS : hq_isS u := du
    have c : Int32.ofNat j < Int32.ofNat nc := (nn_lt (by omega) (by omega)).mpr (by omega)
    have l0 : hq_ld sm 176 14 0 = some (Int32.ofNat nc) := by rw [nb_0, nn_ld (by omega) (by omega), n2]
    have l1 : hq_ld sx (u + 1) 10 (Int32.ofNat own) = some (Int32.ofNat (nx own)) := by rw [nn_ld (by omega) (by omega), X.2 own (by omega)]
    have hx1 := nb_1024 hnc (hx own)
    by_cases qb : (nx own).testBit j = true
    · obtain ⟨v, sx1, sm1, d1, d2, d3, d4⟩ := hh_dread (c := j) hN hl C0 hi (by omega)
      have qb' : ¬ (nx own).testBit j = false := by rw [qb]; decide
      have C1 := hh_C_e d3 d4 C0
      by_cases qv : v < least
      · obtain ⟨sx', sm', i1, i2, i3⟩ := ih (j + 1) m m' j v sx1 sm1 C1 (by omega) (by omega) (by omega) (by omega)
        have mn : hq_minj v least = v := by
          unfold hq_minj
          rw [if_neg (lg_lt_not qv)]
        refine ⟨sx', sm', ?_, ?_, i3⟩
        · simp only [f_X3_goWhereDreadIsLeast_L23_s, f_X3_goWhereDreadIsLeast_L23_B, f_X3_goWhereDreadIsLeast_J86, r0, if_pos iT, n1, if_pos c, r1, if_pos iS, l1, Option.bind_some, nb_bit1 (show nx own < 2147483648 by omega) (show j < 32 by omega), if_pos qb, d1, lg_cmp_lt, if_pos qv, mn, nn_succ]
          exact i1
        · simp only [f_X12_stirs_L46_s, f_X12_stirs_L46_B, f_X12_stirs_J99, l0, Option.bind_some, if_pos c, nb_bit0 (show nx own < 2147483648 by omega) (show j < 32 by omega), if_neg qb', d2, lg_cmp_lt, if_pos qv, nn_succ]
          exact i2
      · obtain ⟨sx', sm', i1, i2, i3⟩ := ih (j + 1) m m' best least sx1 sm1 C1 (by omega) (by omega) (by omega) hb
        have mn : hq_minj v least = least := by
          unfold hq_minj
          rcases lg_tri v least with h | h | h
          · exact absurd h qv
          · rw [h]; split <;> rfl
          · rw [if_pos h]
        refine ⟨sx', sm', ?_, ?_, i3⟩
        · simp only [f_X3_goWhereDreadIsLeast_L23_s, f_X3_goWhereDreadIsLeast_L23_B, f_X3_goWhereDreadIsLeast_J86, r0, if_pos iT, n1, if_pos c, r1, if_pos iS, l1, Option.bind_some, nb_bit1 (show nx own < 2147483648 by omega) (show j < 32 by omega), if_pos qb, d1, lg_cmp_lt, if_neg qv, mn, nn_succ]
          exact i1
        · simp only [f_X12_stirs_L46_s, f_X12_stirs_L46_B, f_X12_stirs_J99, l0, Option.bind_some, if_pos c, nb_bit0 (show nx own < 2147483648 by omega) (show j < 32 by omega), if_neg qb', d2, lg_cmp_lt, if_neg qv, nn_succ]
          exact i2
    · obtain ⟨sx', sm', i1, i2, i3⟩ := ih (j + 1) m m' best least sx sm C0 (by omega) (by omega) (by omega) hb
      have qb' : (nx own).testBit j = false := by cases h : (nx own).testBit j <;> simp_all
      refine ⟨sx', sm', ?_, ?_, i3⟩
      · simp only [f_X3_goWhereDreadIsLeast_L23_s, f_X3_goWhereDreadIsLeast_L23_B, f_X3_goWhereDreadIsLeast_J86, r0, if_pos iT, n1, if_pos c, r1, if_pos iS, l1, Option.bind_some, nb_bit1 (show nx own < 2147483648 by omega) (show j < 32 by omega), if_neg qb, nn_succ]
        exact i1
      · simp only [f_X12_stirs_L46_s, f_X12_stirs_L46_B, f_X12_stirs_J99, l0, Option.bind_some, if_pos c, nb_bit0 (show nx own < 2147483648 by omega) (show j < 32 by omega), if_pos qb', nn_succ]
        exact i2
theorem hh_stir (hN : 100 < N) (hl : l < 23) (C : hh_C nc nl ng nt t u k l nx fa bn o sx sm) {i : Nat} (hi : i < nt) : ∃ (b : Int32) (sx1 sx' sm' : hq_S), f_X3_stirs N (Int32.ofNat i) sx = some (b, sx1) ∧ ((b = 0 ∧ sx' = sx1) ∨ (b = 1 ∧ f_X3_goWhereDreadIsLeast N (Int32.ofNat i) sx1 = some sx')) ∧ f_X12_stirs N (Int32.ofNat l) (Int32.ofNat i) sm = some sm' ∧ hh_C nc nl ng nt t u k l nx fa bn o sx' sm' := by
  obtain ⟨b, sx1, sm1, hb, e1, e2, e3, e4⟩ := hh_does hN hl C hi
  have C1 := hh_C_e e3 e4 C
  rcases hb with rfl | rfl
  · refine ⟨0, sx1, sx1, sm1, e1, Or.inl ⟨rfl, rfl⟩, ?_, C1⟩
    simp only [f_X12_stirs, e2, Option.bind_some, if_true]
  · have C2 := C1
    obtain ⟨S, W, M, -⟩ := C1
    obtain ⟨own, ho, o1, o2⟩ := (W.2.2.2.2.2.2.1 i hi).1
    obtain ⟨v, sx2, sm2, d1, d2, d3, d4⟩ := hh_dread hN hl C2 hi ho
    have C3 := hh_C_e d3 d4 C2
    have hnt := S.1.1.2.2.2
    have hnc := S.1.1.1
    have r2 := S.2.2.1.2.2
    have iN : hq_isN k := by rcases S.2.1.2.2 with rfl | rfl <;> decide
    have l1 : hq_ld sx1 (k + 5) 4 (Int32.ofNat i) = some (Int32.ofNat own) := by rw [nn_ld (by omega) (by omega), o1]
    have l2 : hq_ld sm1 203 92 (Int32.ofNat (4 * l + i)) = some (Int32.ofNat own) := by rw [nn_ld (by omega) (by omega), o2]
    have l3 : hq_ld sm2 206 10 (Int32.ofNat own) = some (Int32.ofNat (nx own)) := by rw [nn_ld (by omega) (by omega), C3.1.2.2.2.2.2.1.2 own (by omega)]
    obtain ⟨sx', sm', i1, i2, i3⟩ := hh_least hN hl hi ho nc 0 N N own v sx2 sm2 C3 (by omega) (by omega) (by omega) ho
    have d10 : ¬ (1 : Int32) = 0 := by decide
    refine ⟨1, sx1, sx', sm', e1, Or.inr ⟨rfl, ?_⟩, ?_, i3⟩
    · simp only [f_X3_goWhereDreadIsLeast, r2, if_pos iN, l1, Option.bind_some, d1]
      exact i1
    · simp only [f_X12_stirs, e2, Option.bind_some, if_neg d10, nb_m4, nb_add, l2, d2, l3]
      exact i2
end
