/-! A LAW'S ROW OF KNOTS: both work through it alike -/
theorem nb_dec (a : Nat) : Int32.ofNat (a + 1) + Int32.ofInt (-1) = Int32.ofNat a := by
  rw [show Int32.ofInt (-1) = (-1 : Int32) from by decide]
  exact pk_m1 a
theorem nb_jget {s : hq_S} {k i k' i' : Nat} {x : Int64} (h : ¬ (k' = k ∧ i' = i)) : hq_gj (hq_sj s k i x) k' i' = hq_gj s k' i' := by rw [nb_jj, if_neg h]
theorem nb_jsame {s : hq_S} {k i : Nat} {x : Int64} : hq_gj (hq_sj s k i x) k i = x := by rw [nb_jj, if_pos ⟨rfl, rfl⟩]
theorem hx_e_sj {t i : Nat} {s : hq_S} {x : Int64} : hx_e t s (hq_sj s (t + 13) i x) := ⟨fun _ _ => rfl, fun _ _ => rfl, fun k i' h1 h2 => nb_jget fun q => h2 q.1⟩
theorem hx_e_sn {t i : Nat} {s : hq_S} {x : Int64} : hx_e t s (hq_sj s 151 i x) := ⟨fun _ _ => rfl, fun _ _ => rfl, fun k i' h1 h2 => nb_jget fun q => h1 q.1⟩
section
variable {N t r : Nat} {sx0 sm0 : hq_S} {nm : Nat → Int64}
/-- where both stand ahead of knot j: d values are on the stacks -/
def hg_I (t d : Nat) (nm : Nat → Int64) (sx0 sm0 sx sm : hq_S) : Prop := hx_e t sx0 sx ∧ hm_e sm0 sm ∧ hq_gi sm 174 36 = Int32.ofNat d ∧ (∀ i, i < 7 → hq_gj sx 151 i = nm i ∧ hq_gj sm 194 i = nm i) ∧ ∀ i, i < d → hq_gj sx (t + 13) i = hq_gj sm 195 i ∧ lb_ok (hq_gj sm 195 i)
theorem hg_push {d : Nat} {z : Int64} {sx sm : hq_S} (ht : t ≤ 25) (hz : lb_ok z) (h : hg_I t d nm sx0 sm0 sx sm) : hg_I t (d + 1) nm sx0 sm0 (hq_sj sx (t + 13) d z) (hq_si (hq_sj sm 195 d z) 174 36 (Int32.ofNat (d + 1))) := by
  obtain ⟨h1, h2, h3, h4, h5⟩ := h
  refine ⟨hx_e_tr h1 hx_e_sj, hm_e_tr h2 (fun k i hk => by rw [nb_ii, if_neg hk, nb_ji]), nn_g1, fun i hi => ?_, fun i hi => ?_⟩
  · rw [nb_jget (by omega), nb_ij, nb_jget (by omega)]
    exact h4 i hi
  · rw [nb_ij]
    by_cases q : i = d
    · subst q
      rw [nb_jsame, nb_jsame]
      exact ⟨rfl, hz⟩
    · rw [nb_jget (by omega), nb_jget (by omega)]
      exact h5 i (by omega)
theorem hg_set {d : Nat} {z : Int64} {sx sm : hq_S} (ht : t ≤ 25) (hz : lb_ok z) (h : hg_I t (d + 1) nm sx0 sm0 sx sm) : hg_I t (d + 1) nm sx0 sm0 (hq_sj sx (t + 13) d z) (hq_sj sm 195 d z) := by
  obtain ⟨h1, h2, h3, h4, h5⟩ := h
  refine ⟨hx_e_tr h1 hx_e_sj, hm_e_tr h2 (fun k i hk => by rw [nb_ji]), by rw [nb_ji]; exact h3, fun i hi => ?_, fun i hi => ?_⟩
  · rw [nb_jget (by omega), nb_jget (by omega)]
    exact h4 i hi
  · by_cases q : i = d
    · subst q
      rw [nb_jsame, nb_jsame]
      exact ⟨rfl, hz⟩
    · rw [nb_jget (by omega), nb_jget (by omega)]
      exact h5 i (by omega)
theorem hg_op {d : Nat} {z : Int64} {sx sm : hq_S} (ht : t ≤ 25) (hz : lb_ok z) (h : hg_I t (d + 2) nm sx0 sm0 sx sm) : hg_I t (d + 1) nm sx0 sm0 (hq_sj sx (t + 13) d z) (hq_sj (hq_si sm 174 36 (Int32.ofNat (d + 1))) 195 d z) := by
  obtain ⟨h1, h2, h3, h4, h5⟩ := h
  refine ⟨hx_e_tr h1 hx_e_sj, hm_e_tr h2 hj_e, by rw [nb_ji]; exact nn_g1, fun i hi => ?_, fun i hi => ?_⟩
  · rw [nb_jget (by omega), nb_jget (by omega), nb_ij]
    exact h4 i hi
  · by_cases q : i = d
    · subst q
      rw [nb_jsame, nb_jsame]
      exact ⟨rfl, hz⟩
    · rw [nb_jget (by omega), nb_jget (by omega), nb_ij]
      exact h5 i (by omega)
theorem hg_sign {x b : Int32} (h : (b = 261 ∧ x = 20019) ∨ (b = 262 ∧ x = 20020) ∨ ∃ v : Nat, (v = 42 ∨ v = 43 ∨ v = 45 ∨ v = 47 ∨ v = 60 ∨ v = 61 ∨ v = 62 ∨ v = 256 ∨ v = 257 ∨ v = 258) ∧ b = Int32.ofNat v ∧ x = Int32.ofNat (20000 + v)) : hj_sg (x - 20000) b ∧ ¬ b = 260 ∧ ¬ x = 20021 ∧ ¬ x < 20000 := by
  unfold hj_sg
  rcases h with ⟨rfl, rfl⟩ | ⟨rfl, rfl⟩ | ⟨v, hv, rfl, rfl⟩
  · decide
  · decide
  · rcases hv with rfl | rfl | rfl | rfl | rfl | rfl | rfl | rfl | rfl | rfl <;> decide
theorem hg_loop {f e : Nat} {D : Nat → Nat} (hr : r < 3) (ht : t = 2 ∨ t = 25) (he : e ≤ 64) (hfe : f ≤ e) (x1 : hq_gi sx0 (t + 12) r = Int32.ofNat e) (m1 : hq_gi sm0 191 r = Int32.ofNat e) (hk : ∀ j, f ≤ j → j < e → hr_knot (hq_gi sx0 (t + 10) j) (hq_gi sm0 192 j) (hq_gi sm0 193 j)) (hD0 : D f = 0) (hD1 : D e = 1) (hD : ∀ j, f ≤ j → j < e → hr_dep (hq_gi sm0 192 j) (hq_gi sm0 193 j) (D j) (D (j + 1))) (hnm : ∀ i, i < 7 → lb_ok (nm i)) :
    ∀ (q j m m' : Nat) (sx sm : hq_S), j + q = e → f ≤ j → q < m → q < m' → D j + f ≤ j → hg_I t (D j) nm sx0 sm0 sx sm → ∃ v sx' sm' b, f_X4_valueOf_L10 N m (t + 9) (Int32.ofNat r) 151 (Int32.ofNat (D j)) (Int32.ofNat j) sx = some (v, sx') ∧ f_X12_goes_L12 N m' (Int32.ofNat r) (Int32.ofNat j) sm = some (b, sm') ∧ hx_e t sx0 sx' ∧ hm_e sm0 sm' ∧ ((b = 0 ∧ v = (-9223372036854775808 : Int64)) ∨ (b = 1 ∧ lb_ok v ∧ hq_gj sm' 195 0 = v)) := by
  intro q
  induction q with
  | zero =>
    intro j m m' sx sm hj hfj hm hm' hDj I
    obtain ⟨m, rfl⟩ : ∃ k, m = k + 1 := ⟨m - 1, by omega⟩
    obtain ⟨m', rfl⟩ : ∃ k, m' = k + 1 := ⟨m' - 1, by omega⟩
    have hj : j = e := by omega
    subst hj
    rw [hD1] at I ⊢
    obtain ⟨I1, I2, I3, I4, I5⟩ := I
    have c : ¬ Int32.ofNat j < Int32.ofNat j := by rw [nn_lt (by omega) (by omega)]; omega
    have lx : hq_ld sx (t + 9 + 3) 3 (Int32.ofNat r) = some (Int32.ofNat j) := by rw [nn_ld hr (by omega), I1.1, show t + 9 + 3 = t + 12 by omega, x1]
    have lv : hq_ldj sx (t + 9 + 4) 64 0 = some (hq_gj sx (t + 13) 0) := by rw [nb_0, nb_ldj (by omega) (by omega)]
    have lm : hq_ld sm 191 6 (Int32.ofNat r) = some (Int32.ofNat j) := by rw [nn_ld (by omega) (by omega), I2 _ _ (by omega), m1]
    obtain ⟨h5, h6⟩ := I5 0 (by omega)
    refine ⟨hq_gj sx (t + 13) 0, sx, sm, 1, ?_, ?_, I1, I2, Or.inr ⟨rfl, by rw [h5]; exact h6, h5.symm⟩⟩
    · simp only [f_X4_valueOf_L10_s, f_X4_valueOf_L10_B, lx, Option.bind_some, if_neg c, lv]
      rfl
    · simp only [f_X12_goes_L12_s, f_X12_goes_L12_B, lm, Option.bind_some, if_neg c]
  | succ q ih =>
    intro j m m' sx sm hj hfj hm hm' hDj I
    obtain ⟨m, rfl⟩ : ∃ k, m = k + 1 := ⟨m - 1, by omega⟩
    obtain ⟨m', rfl⟩ : ∃ k, m' = k + 1 := ⟨m' - 1, by omega⟩
    have J := I
    obtain ⟨I1, I2, I3, I4, I5⟩ := J
    have c : Int32.ofNat j < Int32.ofNat e := (nn_lt (by omega) (by omega)).mpr (by omega)
    have lx : hq_ld sx (t + 9 + 3) 3 (Int32.ofNat r) = some (Int32.ofNat e) := by rw [nn_ld hr (by omega), I1.1, show t + 9 + 3 = t + 12 by omega, x1]
    have lk : hq_ld sx (t + 9 + 1) 64 (Int32.ofNat j) = some (hq_gi sx0 (t + 10) j) := by rw [nn_ld (by omega) (by omega), I1.1]
    have lm : hq_ld sm 191 6 (Int32.ofNat r) = some (Int32.ofNat e) := by rw [nn_ld (by omega) (by omega), I2 _ _ (by omega), m1]
    have la : hq_ld sm 192 128 (Int32.ofNat j) = some (hq_gi sm0 192 j) := by rw [nn_ld (by omega) (by omega), I2 _ _ (by omega)]
    have lb : hq_ld sm 193 128 (Int32.ofNat j) = some (hq_gi sm0 193 j) := by rw [nn_ld (by omega) (by omega), I2 _ _ (by omega)]
    have hdj := hD j hfj (by omega)
    have hkj := hk j hfj (by omega)
    -- a number or a name is put on both stacks
    have push : ∀ z : Int64, lb_ok z → D (j + 1) = D j + 1 → f_X4_valueOf_L10 N (m + 1) (t + 9) (Int32.ofNat r) 151 (Int32.ofNat (D j)) (Int32.ofNat j) sx = f_X4_valueOf_L10 N m (t + 9) (Int32.ofNat r) 151 (Int32.ofNat (D j + 1)) (Int32.ofNat (j + 1)) (hq_sj sx (t + 13) (D j) z) → f_X12_goes_L12 N (m' + 1) (Int32.ofNat r) (Int32.ofNat j) sm = f_X12_goes_L12 N m' (Int32.ofNat r) (Int32.ofNat (j + 1)) (hq_si (hq_sj sm 195 (D j) z) 174 36 (Int32.ofNat (D j + 1))) → ∃ v sx' sm' b, f_X4_valueOf_L10 N (m + 1) (t + 9) (Int32.ofNat r) 151 (Int32.ofNat (D j)) (Int32.ofNat j) sx = some (v, sx') ∧ f_X12_goes_L12 N (m' + 1) (Int32.ofNat r) (Int32.ofNat j) sm = some (b, sm') ∧ hx_e t sx0 sx' ∧ hm_e sm0 sm' ∧ ((b = 0 ∧ v = (-9223372036854775808 : Int64)) ∨ (b = 1 ∧ lb_ok v ∧ hq_gj sm' 195 0 = v)) := by
      intro z hz hd ex em
      have I' := hg_push (by omega) hz I
      rw [← hd] at I' ex em
      rw [ex, em]
      exact ih (j + 1) m m' _ _ (by omega) (by omega) (by omega) (by omega) (by omega) I'
    have hD64 : D j < 64 := by omega
    have stx : ∀ z : Int64, hq_stj sx (t + 9 + 4) 64 (Int32.ofNat (D j)) z = some (hq_sj sx (t + 13) (D j) z) := fun z => nb_stj hD64 (by omega)
    have stm : ∀ z : Int64, hq_stj sm 195 64 (hq_gi sm 174 36) z = some (hq_sj sm 195 (D j) z) := fun z => by rw [I3]; exact nb_stj hD64 (by omega)
    have w36 : ∀ z : Int64, hq_gi (hq_sj sm 195 (D j) z) 174 36 = Int32.ofNat (D j) := fun z => by rw [nb_ji]; exact I3
    rcases hkj with ⟨ka, v, hv, kb, kx⟩ | ⟨ka, v, hv, kb, kx⟩ | ⟨ka, ks⟩
    · have hd : D (j + 1) = D j + 1 := by
        rcases hdj with h | h | h
        · exact h.2
        · rw [ka] at h; exact absurd h.1 (by decide)
        · rw [ka] at h; exact absurd h.1 (by decide)
      have c1 : Int32.ofNat v < (20000 : Int32) := by rw [nb_lit 20000, nn_lt (by omega) (by omega)]; omega
      have c2 : Int32.ofNat v < (10000 : Int32) := by rw [nb_lit 10000, nn_lt (by omega) (by omega)]; omega
      refine push (Int32.ofNat v).toInt64 (lb_i _) hd ?_ ?_
      · simp only [f_X4_valueOf_L10_s, f_X4_valueOf_L10_B, f_X4_valueOf_J171, lx, lk, kx, Option.bind_some, if_pos c, if_pos c1, if_pos c2, stx, nn_succ]
      · have d02 : ¬ (0 : Int32) = 2 := by decide
        simp only [f_X12_goes_L12_s, f_X12_goes_L12_B, f_X12_goes_J96, lm, la, lb, ka, kb, Option.bind_some, if_pos c, if_neg d02, if_true, stm, w36, nn_pi, nn_succ]
    · have hd : D (j + 1) = D j + 1 := by
        rcases hdj with h | h | h
        · exact h.2
        · rw [ka] at h; exact absurd h.1 (by decide)
        · rw [ka] at h; exact absurd h.1 (by decide)
      have c1 : Int32.ofNat (10000 + v) < (20000 : Int32) := by rw [nb_lit 20000, nn_lt (by omega) (by omega)]; omega
      have c2 : ¬ Int32.ofNat (10000 + v) < (10000 : Int32) := by rw [nb_lit 10000, nn_lt (by omega) (by omega)]; omega
      have ln : hq_ldjA sx 151 (Int32.ofNat (10000 + v) - (10000 : Int32)) = some (nm v) := by
        rw [nb_lit 10000, nb_sub (by omega), show 10000 + v - 10000 = v by omega]
        unfold hq_ldjA
        rw [show hq_alJ 151 = some 7 from rfl, Option.bind_some, nb_ldj (by omega) (by omega), (I4 v hv).1]
      have lnm : hq_ldj sm 194 7 (Int32.ofNat v) = some (nm v) := by rw [nb_ldj (by omega) (by omega), (I4 v hv).2]
      refine push (nm v) (hnm v hv) hd ?_ ?_
      · simp only [f_X4_valueOf_L10_s, f_X4_valueOf_L10_B, f_X4_valueOf_J171, lx, lk, kx, Option.bind_some, if_pos c, if_pos c1, if_neg c2, ln, stx, nn_succ]
      · have d12 : ¬ (1 : Int32) = 2 := by decide
        have d10 : ¬ (1 : Int32) = 0 := by decide
        simp only [f_X12_goes_L12_s, f_X12_goes_L12_B, f_X12_goes_J96, lm, la, lb, lnm, ka, kb, Option.bind_some, if_pos c, if_neg d12, if_neg d10, stm, w36, nn_pi, nn_succ]
    · have d22 : (2 : Int32) = 2 := rfl
      rcases ks with ⟨kb, kx⟩ | ks
      · -- not
        obtain ⟨d, hd⟩ : ∃ d, D j = d + 1 := by
          rcases hdj with h | h | h
          · exact absurd ka h.1
          · exact ⟨D j - 1, by omega⟩
          · exact absurd kb h.2.1
        have hd1 : D (j + 1) = d + 1 := by
          rcases hdj with h | h | h
          · exact absurd ka h.1
          · omega
          · exact absurd kb h.2.1
        rw [hd] at I I3 hDj ⊢
        obtain ⟨h5, h6⟩ := I5 d (by omega)
        have lv : hq_ldj sx (t + 9 + 4) 64 (Int32.ofNat (d + 1) - (1 : Int32)) = some (hq_gj sm 195 d) := by rw [nn_pred, nb_ldj (by omega) (by omega)]; exact congrArg some h5
        have sv : ∀ z : Int64, hq_stj sx (t + 9 + 4) 64 (Int32.ofNat (d + 1) - (1 : Int32)) z = some (hq_sj sx (t + 13) d z) := fun z => by rw [nn_pred]; exact nb_stj (by omega) (by omega)
        have lw : hq_ldj sm 195 64 (hq_gi sm 174 36 - (1 : Int32)) = some (hq_gj sm 195 d) := by rw [I3, nn_pred, nb_ldj (by omega) (by omega)]
        have sw : ∀ z : Int64, hq_stj sm 195 64 (hq_gi sm 174 36 - (1 : Int32)) z = some (hq_sj sm 195 d z) := fun z => by rw [I3, nn_pred]; exact nb_stj (by omega) (by omega)
        have c3 : ¬ (20021 : Int32) < 20000 := by decide
        have c4 : (0 : Int32) < Int32.ofNat (d + 1) := by rw [nb_0, nn_lt (by omega) (by omega)]; omega
        by_cases z0 : hq_gj sm 195 d = 0
        · have I' := hg_set (z := 1) (by omega) lb_1 I
          rw [← hd1] at I'
          obtain ⟨v, sx', sm', b, r1, r2, r3⟩ := ih (j + 1) m m' _ _ (by omega) (by omega) (by omega) (by omega) (by omega) I'
          rw [hd1] at r1
          refine ⟨v, sx', sm', b, ?_, ?_, r3⟩
          · rw [← r1]
            simp only [f_X4_valueOf_L10_s, f_X4_valueOf_L10_B, f_X4_valueOf_J171, lx, lk, kx, Option.bind_some, if_pos c, if_neg c3, if_true, if_pos c4, lv, lg_cmp_eq, if_pos z0, sv, nn_succ]
          · rw [← r2]
            have hwk : f_X12_works N 260 sm = some (1, hq_sj sm 195 d 1) := by
              simp only [f_X12_works, f_X12_is, lw, Option.bind_some, if_true, lg_cmp_eq, if_pos z0, if_neg (show ¬ (1 : Int32) = 0 by decide), sw]
            have d10 : ¬ (1 : Int32) = 0 := by decide
            simp only [f_X12_goes_L12_s, f_X12_goes_L12_B, f_X12_goes_J96, lm, la, lb, ka, kb, Option.bind_some, if_pos c, if_true, hwk, if_neg d10, nn_succ]
        · have I' := hg_set (z := 0) (by omega) lb_0 I
          rw [← hd1] at I'
          obtain ⟨v, sx', sm', b, r1, r2, r3⟩ := ih (j + 1) m m' _ _ (by omega) (by omega) (by omega) (by omega) (by omega) I'
          rw [hd1] at r1
          refine ⟨v, sx', sm', b, ?_, ?_, r3⟩
          · rw [← r1]
            simp only [f_X4_valueOf_L10_s, f_X4_valueOf_L10_B, f_X4_valueOf_J171, lx, lk, kx, Option.bind_some, if_pos c, if_neg c3, if_true, if_pos c4, lv, lg_cmp_eq, if_neg z0, sv, nn_succ]
          · rw [← r2]
            have hwk : f_X12_works N 260 sm = some (1, hq_sj sm 195 d 0) := by
              simp only [f_X12_works, f_X12_is, lw, Option.bind_some, if_true, lg_cmp_eq, if_neg z0, sw]
            have d10 : ¬ (1 : Int32) = 0 := by decide
            simp only [f_X12_goes_L12_s, f_X12_goes_L12_B, f_X12_goes_J96, lm, la, lb, ka, kb, Option.bind_some, if_pos c, if_true, hwk, if_neg d10, nn_succ]
      · -- a sign with two sides
        obtain ⟨sg, nb, nx, n2⟩ := hg_sign ks
        obtain ⟨d, hd⟩ : ∃ d, D j = d + 2 := by
          rcases hdj with h | h | h
          · exact absurd ka h.1
          · exact absurd h.2.1 nb
          · exact ⟨D j - 2, by omega⟩
        have hd1 : D (j + 1) = d + 1 := by
          rcases hdj with h | h | h
          · exact absurd ka h.1
          · exact absurd h.2.1 nb
          · omega
        rw [hd] at I I3 hDj ⊢
        obtain ⟨h5, h6⟩ := I5 d (by omega)
        obtain ⟨h7, h8⟩ := I5 (d + 1) (by omega)
        obtain ⟨v, jv, jo⟩ := hj_join (N := N) (d := d) (sm := sm) (s := sx) sg (by omega) I3 rfl rfl h6 h8
        have a1 : Int32.ofNat (d + 2) + Int32.ofInt (-1) = Int32.ofNat (d + 1) := nb_dec (d + 1)
        have c5 : (1 : Int32) < Int32.ofNat (d + 2) := by rw [nb_lit 1, nn_lt (by omega) (by omega)]; omega
        have lv0 : hq_ldj sx (t + 9 + 4) 64 (Int32.ofNat d) = some (hq_gj sm 195 d) := by rw [nb_ldj (by omega) (by omega)]; exact congrArg some h5
        have lv1 : hq_ldj sx (t + 9 + 4) 64 (Int32.ofNat (d + 1)) = some (hq_gj sm 195 (d + 1)) := by rw [nb_ldj (by omega) (by omega)]; exact congrArg some h7
        have sv : ∀ z : Int64, hq_stj sx (t + 9 + 4) 64 (Int32.ofNat d) z = some (hq_sj sx (t + 13) d z) := fun z => nb_stj (by omega) (by omega)
        have lv2 : hq_ldj (hq_sj sx (t + 13) d v) (t + 9 + 4) 64 (Int32.ofNat d) = some v := by rw [nb_ldj (by omega) (by omega)]; exact congrArg some nb_jsame
        have bx : ∀ {w : Option (Int64 × hq_S)}, (if v = (-9223372036854775808 : Int64) then some ((-9223372036854775808 : Int64), hq_sj sx (t + 13) d v) else f_X4_valueOf_L10 N m (t + 9) (Int32.ofNat r) 151 (Int32.ofNat (d + 1)) (Int32.ofNat (j + 1)) (hq_sj sx (t + 13) d v)) = w → f_X4_valueOf_L10 N (m + 1) (t + 9) (Int32.ofNat r) 151 (Int32.ofNat (d + 2)) (Int32.ofNat j) sx = w := fun {w} hw => by
          rw [← hw]
          have jJ : f_X4_valueOf_J113 N (f_X4_valueOf_L10 N m) (t + 9) (Int32.ofNat r) 151 (Int32.ofNat (d + 2)) (Int32.ofNat j) (hq_gi sx0 (t + 10) j) sx = if v = (-9223372036854775808 : Int64) then some ((-9223372036854775808 : Int64), hq_sj sx (t + 13) d v) else f_X4_valueOf_L10 N m (t + 9) (Int32.ofNat r) 151 (Int32.ofNat (d + 1)) (Int32.ofNat (j + 1)) (hq_sj sx (t + 13) d v) := by
            simp only [f_X4_valueOf_J113, f_X4_valueOf_J171, if_pos c5, a1, nn_pred, lv0, lv1, Option.bind_some, jv, sv, lv2, lg_cmp_eq, nn_succ]
          simp only [f_X4_valueOf_L10_s, f_X4_valueOf_L10_B, lx, lk, Option.bind_some, if_pos c, if_neg n2, if_neg nx, jJ]
        rcases jo with ⟨ve, sm', w1, w2⟩ | ⟨vo, w1⟩
        · refine ⟨_, hq_sj sx (t + 13) d v, sm', 0, bx (if_pos ve), ?_, hx_e_tr I1 hx_e_sj, hm_e_tr I2 w2, Or.inl ⟨rfl, rfl⟩⟩
          simp only [f_X12_goes_L12_s, f_X12_goes_L12_B, lm, la, lb, ka, Option.bind_some, if_pos c, if_true, w1]
        · have I' := hg_op (by omega) vo I
          rw [← hd1] at I'
          obtain ⟨v', sx', sm', b, r1, r2, r3⟩ := ih (j + 1) m m' _ _ (by omega) (by omega) (by omega) (by omega) (by omega) I'
          rw [hd1] at r1 r2
          refine ⟨v', sx', sm', b, bx ((if_neg (lb_err vo)).trans r1), ?_, r3⟩
          rw [← r2]
          have d10 : ¬ (1 : Int32) = 0 := by decide
          simp only [f_X12_goes_L12_s, f_X12_goes_L12_B, f_X12_goes_J96, lm, la, lb, ka, Option.bind_some, if_pos c, if_true, w1, if_neg d10, nn_succ]
end
