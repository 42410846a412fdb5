/-! TAKING, WALKING: both alike -/
section
variable {N nc nl ng nt t u k l : Nat} {nx : Nat → Nat} {fa : Nat → Nat → Nat} {bn : Int32} {o sx sm : hq_S}
theorem hh_take (hN : 100 < N) (hl : l < 23) (C : hh_C nc nl ng nt t u k l nx fa bn o sx sm) {i : Nat} (hi : i < nt) : ∃ sx' sm', f_X3_takeLoot N (Int32.ofNat i) sx = some sx' ∧ f_X12_takes N (Int32.ofNat l) (Int32.ofNat i) sm = some sm' ∧ hh_C nc nl ng nt t u k l nx fa bn o sx' sm' := by
  have C0 := C
  obtain ⟨S, W, M, -⟩ := C
  obtain ⟨c, hc, c1, c2⟩ := (W.2.2.2.2.2.2.1 i hi).1
  obtain ⟨v, sx1, sm1, e1, e2, e3, e4, e5⟩ := hh_law (r := 1) hN hl S W (by omega) hi hc
  have e1 : f_X3_lawValue N 1 (Int32.ofNat i) (Int32.ofNat c) sx = some (v, sx1) := e1
  obtain ⟨bo, hbo, bx, bm⟩ := (W.2.2.2.2.2.2.1 i hi).2.1
  obtain ⟨lo, hlo, ox, om⟩ := W.2.2.2.1 c hc
  have dk := S.2.1.2.2
  have r2 := S.2.2.1.2.2
  have hnc := S.1.1.1
  have hnt := S.1.1.2.2.2
  have iN : hq_isN k := by rcases dk with rfl | rfl <;> decide
  have d10 : ¬ (1 : Int32) = 0 := by decide
  have l1 : hq_ld sx (k + 5) 4 (Int32.ofNat i) = some (Int32.ofNat c) := by rw [nn_ld (by omega) (by omega), c1]
  have l2 : hq_ld sm 203 92 (Int32.ofNat (4 * l + i)) = some (Int32.ofNat c) := by rw [nn_ld (by omega) (by omega), c2]
  have bof : f_X12_boldOf N (Int32.ofNat i) sm = some (Int32.ofNat bo, sm) := by rw [hh_bold (by omega), bm]
  -- behind the law both take as much
  have fin : ∀ (w : Nat) (sm2 : hq_S), w ≤ 99 → hm_e sm sm2 → ∃ sx' sm', (hq_st sx1 (k + 1) 10 (Int32.ofNat c) (Int32.ofNat lo - (hq_minj (Int64.ofNat w) (Int32.ofNat lo).toInt64).toInt32)).bind (fun s12 => if hq_isN (hq_gr s12 113 2) then (hq_ld s12 ((hq_gr s12 113 2) + 7) 4 (Int32.ofNat i)).bind fun x14 => (hq_st s12 ((hq_gr s12 113 2) + 7) 4 (Int32.ofNat i) (x14 + (hq_minj (Int64.ofNat w) (Int32.ofNat lo).toInt64).toInt32)).bind fun s15 => some s15 else none) = some sx' ∧ (hq_ld sm2 199 230 (((10 : Int32) * Int32.ofNat l) + Int32.ofNat c)).bind (fun x11 => (hq_ld sm2 199 230 (((10 : Int32) * Int32.ofNat l) + Int32.ofNat c)).bind fun x12 => (hq_st sm2 199 230 (((10 : Int32) * Int32.ofNat l) + Int32.ofNat c) (x12 - (hq_min (Int32.ofNat w) x11))).bind fun s13 => (hq_ld s13 204 92 (((4 : Int32) * Int32.ofNat l) + Int32.ofNat i)).bind fun x14 => (hq_st s13 204 92 (((4 : Int32) * Int32.ofNat l) + Int32.ofNat i) (x14 + (hq_min (Int32.ofNat w) x11))).bind fun s15 => some s15) = some sm' ∧ hh_C nc nl ng nt t u k l nx fa bn o sx' sm' := by
    intro w sm2 hw h2
    have C1 := hh_C_e e2 h2 C0
    have C2 := hh_C_w (bn := bn) (by omega) (by omega) (by unfold hm_sl; omega) (hn_loot (b := lo - min w lo) dk hnc hc (by omega) C1.2.1) C1
    have r2' := C2.1.2.2.1.2.2
    have C3 := hh_C_w (bn := bn) (by omega) (by omega) (by unfold hm_sl; omega) (hn_had (x := hq_gi (hq_si sm2 199 (10 * l + c) (Int32.ofNat (lo - min w lo))) 204 (4 * l + i) + Int32.ofNat (min w lo)) dk hnt hi C2.2.1) C2
    have hd := (C2.2.1.2.2.2.2.2.2.1 i hi).2.2.1
    have m1 : (hq_minj (Int64.ofNat w) (Int32.ofNat lo).toInt64).toInt32 = Int32.ofNat (min w lo) := by rw [nb_i64 (by omega), nl_min (by omega) (by omega), nl_i]
    have m2 : hq_min (Int32.ofNat w) (Int32.ofNat lo) = Int32.ofNat (min w lo) := nb_min (by omega) (by omega)
    have sb : Int32.ofNat lo - Int32.ofNat (min w lo) = Int32.ofNat (lo - min w lo) := nb_sub (by omega)
    have om2 : hq_ld sm2 199 230 (Int32.ofNat (10 * l + c)) = some (Int32.ofNat lo) := by rw [nn_ld (by omega) (by omega), h2 _ _ (by omega), om]
    have s1 : ∀ x, hq_st sx1 (k + 1) 10 (Int32.ofNat c) x = some (hq_si sx1 (k + 1) c x) := fun x => nn_st (by omega) (by omega)
    have s2 : ∀ x, hq_st sm2 199 230 (Int32.ofNat (10 * l + c)) x = some (hq_si sm2 199 (10 * l + c) x) := fun x => nn_st (by omega) (by omega)
    have l5 : hq_ld (hq_si sx1 (k + 1) c (Int32.ofNat (lo - min w lo))) (k + 7) 4 (Int32.ofNat i) = some (hq_gi (hq_si sm2 199 (10 * l + c) (Int32.ofNat (lo - min w lo))) 204 (4 * l + i)) := by rw [nn_ld (by omega) (by omega), hd]
    have l6 : hq_ld (hq_si sm2 199 (10 * l + c) (Int32.ofNat (lo - min w lo))) 204 92 (Int32.ofNat (4 * l + i)) = some (hq_gi (hq_si sm2 199 (10 * l + c) (Int32.ofNat (lo - min w lo))) 204 (4 * l + i)) := nn_ld (by omega) (by omega)
    have s3 : ∀ x, hq_st (hq_si sx1 (k + 1) c (Int32.ofNat (lo - min w lo))) (k + 7) 4 (Int32.ofNat i) x = some (hq_si (hq_si sx1 (k + 1) c (Int32.ofNat (lo - min w lo))) (k + 7) i x) := fun x => nn_st (by omega) (by omega)
    have s4 : ∀ x, hq_st (hq_si sm2 199 (10 * l + c) (Int32.ofNat (lo - min w lo))) 204 92 (Int32.ofNat (4 * l + i)) x = some (hq_si (hq_si sm2 199 (10 * l + c) (Int32.ofNat (lo - min w lo))) 204 (4 * l + i) x) := fun x => nn_st (by omega) (by omega)
    refine ⟨_, _, ?_, ?_, C3⟩
    · simp only [m1, sb, s1, Option.bind_some, r2', if_pos iN, l5, s3]
    · simp only [nb_m10, nb_m4, nb_add, om2, Option.bind_some, m2, sb, s2, l6, s4]
  have r2x : hq_gr sx1 113 2 = k := by rw [e2.2.1]; exact r2
  have lox : hq_ld sx1 (k + 1) 10 (Int32.ofNat c) = some (Int32.ofNat lo) := by rw [nn_ld (by omega) (by omega), e2.1, ox]
  have box : hq_ld sx1 (k + 6) 4 (Int32.ofNat i) = some (Int32.ofNat bo) := by rw [nn_ld (by omega) (by omega), e2.1, bx]
  have b64 : (Int32.ofNat bo + (1 : Int32)).toInt64 = Int64.ofNat (bo + 1) := by rw [nn_succ]; exact nb_i64 (by omega)
  have erX : ∀ {z : Option hq_S}, v = (-9223372036854775808 : Int64) → (hq_st sx1 (k + 1) 10 (Int32.ofNat c) (Int32.ofNat lo - (hq_minj (Int64.ofNat (bo + 1)) (Int32.ofNat lo).toInt64).toInt32)).bind (fun s12 => if hq_isN (hq_gr s12 113 2) then (hq_ld s12 ((hq_gr s12 113 2) + 7) 4 (Int32.ofNat i)).bind fun x14 => (hq_st s12 ((hq_gr s12 113 2) + 7) 4 (Int32.ofNat i) (x14 + (hq_minj (Int64.ofNat (bo + 1)) (Int32.ofNat lo).toInt64).toInt32)).bind fun s15 => some s15 else none) = z → f_X3_takeLoot N (Int32.ofNat i) sx = z := fun {z} hv hz => by
    have q0 : lg_cmp v (-9223372036854775808 : Int64) = 0 := by rw [lg_cmp_eq]; exact hv
    rw [← hz]
    simp only [f_X3_takeLoot, r2, if_pos iN, l1, Option.bind_some, e1, if_pos q0, r2x, box, b64, lox]
  rcases e5 with ⟨h1, h2⟩ | ⟨h1, b, sm2, h2, h3, h4⟩
  · have h1 : f_X12_hasLaw N 1 sm1 = some (0, sm1) := h1
    obtain ⟨sx', sm', f1, f2, f3⟩ := fin (bo + 1) sm1 (by omega) e4
    refine ⟨sx', sm', erX h2 f1, ?_, f3⟩
    rw [← f2]
    simp only [f_X12_takes, nb_m4, nb_add, l2, Option.bind_some, bof, e3, h1, if_true, nn_succ]
  · have h1 : f_X12_hasLaw N 1 sm1 = some (1, sm1) := h1
    have h2 : f_X12_goes N 1 sm1 = some (b, sm2) := h2
    rcases h4 with ⟨hb, hv⟩ | ⟨hb, hv, hw⟩
    · obtain ⟨sx', sm', f1, f2, f3⟩ := fin (bo + 1) sm2 (by omega) h3
      refine ⟨sx', sm', erX hv f1, ?_, f3⟩
      rw [← f2]
      simp only [f_X12_takes, nb_m4, nb_add, l2, Option.bind_some, bof, e3, h1, if_neg d10, h2, hb, if_true, nn_succ]
    · obtain ⟨w, hw1, hw2⟩ := nl_cl v
      obtain ⟨sx', sm', f1, f2, f3⟩ := fin w sm2 hw1 h3
      have lw : hq_ldj sm2 195 64 0 = some v := by rw [nb_0, nb_ldj (by omega) (by omega), hw]
      have nv : ¬ lg_cmp v (-9223372036854775808 : Int64) = 0 := by rw [lg_cmp_eq]; exact lb_err hv
      refine ⟨sx', sm', ?_, ?_, f3⟩
      · rw [← f1]
        simp only [f_X3_takeLoot, r2, if_pos iN, l1, Option.bind_some, e1, if_neg nv, hw2, r2x, lox]
      · rw [← f2]
        simp only [f_X12_takes, nb_m4, nb_add, l2, Option.bind_some, bof, e3, h1, if_neg d10, h2, hb, lw, hw2, nl_i]
/-- the first corner next from which it is less far -/
theorem hh_on (hN : 10 < N) (S : hh_S nc nl ng nt t u k nx fa sx sm) {a b : Nat} (ha : a < nc) (hb : b < nc) : (f_X8_onward N u (Int32.ofNat a) (Int32.ofNat b) sx = some (-1, sx) ∧ f_X12_nearer N (Int32.ofNat a) (Int32.ofNat b) sm = some (Int32.ofNat a, sm) ∧ ∀ c, c < nc → (nx a).testBit c = true → ¬ fa c b < fa a b) ∨ ∃ c, c < nc ∧ fa c b < fa a b ∧ (nx a).testBit c = true ∧ f_X8_onward N u (Int32.ofNat a) (Int32.ofNat b) sx = some (Int32.ofNat c, sx) ∧ f_X12_nearer N (Int32.ofNat a) (Int32.ofNat b) sm = some (Int32.ofNat c, sm) := by
  obtain ⟨T, ⟨dt, du, dk⟩, ⟨r0, r1, r2⟩, ⟨hx, hF⟩, X, R, fx, fm⟩ := S
  obtain ⟨⟨hnc, -⟩, ⟨n1, n2, -⟩, -⟩ := T
  have hxa := nb_1024 hnc (hx a)
  have la : hq_ld sx (u + 1) 10 (Int32.ofNat a) = some (Int32.ofNat (nx a)) := by rw [nn_ld (by omega) (by omega), X.2 a (by omega)]
  have lb : hq_ld sm 206 10 (Int32.ofNat a) = some (Int32.ofNat (nx a)) := by rw [nn_ld (by omega) (by omega), R.2 a (by omega)]
  have l0 : hq_ld sm 176 14 0 = some (Int32.ofNat nc) := by rw [nb_0, nn_ld (by omega) (by omega), n2]
  have lx : ∀ c, c < nc → hq_ld sx (u + 2) 100 (Int32.ofNat (10 * c + b)) = some (Int32.ofNat (fa c b)) := fun c hc => by rw [nn_ld (by omega) (by omega), fx c b hc hb]
  have lm : ∀ c, c < nc → hq_ld sm 207 100 (Int32.ofNat (10 * c + b)) = some (Int32.ofNat (fa c b)) := fun c hc => by rw [nn_ld (by omega) (by omega), fm c b hc hb]
  have key : ∀ (q j m m' : Nat), j + q = nc → q < m → q < m' → (∀ c, c < j → (nx a).testBit c = true → ¬ fa c b < fa a b) → (f_X8_onward_L2 N m u (Int32.ofNat a) (Int32.ofNat b) (Int32.ofNat j) sx = some (-1, sx) ∧ f_X12_nearer_L2 N m' (Int32.ofNat a) (Int32.ofNat b) (Int32.ofNat j) sm = some (Int32.ofNat a, sm) ∧ ∀ c, c < nc → (nx a).testBit c = true → ¬ fa c b < fa a b) ∨ ∃ c, c < nc ∧ fa c b < fa a b ∧ (nx a).testBit c = true ∧ f_X8_onward_L2 N m u (Int32.ofNat a) (Int32.ofNat b) (Int32.ofNat j) sx = some (Int32.ofNat c, sx) ∧ f_X12_nearer_L2 N m' (Int32.ofNat a) (Int32.ofNat b) (Int32.ofNat j) sm = some (Int32.ofNat c, sm) := by
    intro q
    induction q with
    | zero =>
      intro j m m' hj hm hm' hp
      obtain ⟨m, rfl⟩ : ∃ k, m = k + 1 := ⟨m - 1, by omega⟩
      obtain ⟨m', rfl⟩ : ∃ k, m' = k + 1 := ⟨m' - 1, by omega⟩
      have hj : j = nc := by omega
      subst hj
      have c : ¬ Int32.ofNat j < Int32.ofNat j := by rw [nn_lt (by omega) (by omega)]; omega
      refine Or.inl ⟨?_, ?_, hp⟩
      · simp only [f_X8_onward_L2_s, f_X8_onward_L2_B, X.1, if_neg c]
      · simp only [f_X12_nearer_L2_s, f_X12_nearer_L2_B, l0, Option.bind_some, if_neg c]
    | succ q ih =>
      intro j m m' hj hm hm' hp
      obtain ⟨m, rfl⟩ : ∃ k, m = k + 1 := ⟨m - 1, by omega⟩
      obtain ⟨m', rfl⟩ : ∃ k, m' = k + 1 := ⟨m' - 1, by omega⟩
      have c : Int32.ofNat j < Int32.ofNat nc := (nn_lt (by omega) (by omega)).mpr (by omega)
      have b1 := nb_bit1 (show nx a < 2147483648 by omega) (show j < 32 by omega)
      have h1 := hF j b
      have h2 := hF a b
      have lt1 := nb_ltp (show fa j b < 2147483648 by omega) (show fa a b < 2147483648 by omega)
      have lxj := lx j (by omega)
      have lxa := lx a ha
      have lmj := lm j (by omega)
      have lma := lm a ha
      have step : ¬ ((nx a).testBit j = true ∧ fa j b < fa a b) → f_X8_onward_L2 N (m + 1) u (Int32.ofNat a) (Int32.ofNat b) (Int32.ofNat j) sx = f_X8_onward_L2 N m u (Int32.ofNat a) (Int32.ofNat b) (Int32.ofNat (j + 1)) sx ∧ f_X12_nearer_L2 N (m' + 1) (Int32.ofNat a) (Int32.ofNat b) (Int32.ofNat j) sm = f_X12_nearer_L2 N m' (Int32.ofNat a) (Int32.ofNat b) (Int32.ofNat (j + 1)) sm := by
        intro hn
        by_cases q1 : (nx a).testBit j = true
        · have q2 : ¬ fa j b < fa a b := fun h => hn ⟨q1, h⟩
          constructor
          · simp only [f_X8_onward_L2_s, f_X8_onward_L2_B, f_X8_onward_J41, f_X8_lanesBetween, X.1, if_pos c, la, Option.bind_some, b1, if_pos q1, nb_10m, nb_add, lxj, lxa, lt1, if_neg q2, nn_succ]
          · simp only [f_X12_nearer_L2_s, f_X12_nearer_L2_B, f_X12_nearer_J53, l0, if_pos c, lb, Option.bind_some, b1, if_pos q1, nb_m10, nb_add, lmj, lma, lt1, if_neg q2, nn_succ]
        · constructor
          · simp only [f_X8_onward_L2_s, f_X8_onward_L2_B, f_X8_onward_J41, f_X8_lanesBetween, X.1, if_pos c, la, Option.bind_some, b1, if_neg q1, nn_succ]
          · simp only [f_X12_nearer_L2_s, f_X12_nearer_L2_B, f_X12_nearer_J53, l0, if_pos c, lb, Option.bind_some, b1, if_neg q1, nn_succ]
      by_cases q1 : (nx a).testBit j = true ∧ fa j b < fa a b
      · refine Or.inr ⟨j, by omega, q1.2, q1.1, ?_, ?_⟩
        · simp only [f_X8_onward_L2_s, f_X8_onward_L2_B, f_X8_onward_J41, f_X8_lanesBetween, X.1, if_pos c, la, Option.bind_some, b1, if_pos q1.1, nb_10m, nb_add, lxj, lxa, lt1, if_pos q1.2]
        · simp only [f_X12_nearer_L2_s, f_X12_nearer_L2_B, f_X12_nearer_J53, l0, if_pos c, lb, Option.bind_some, b1, if_pos q1.1, nb_m10, nb_add, lmj, lma, lt1, if_pos q1.2]
      · obtain ⟨s1, s2⟩ := step q1
        rw [s1, s2]
        exact ih (j + 1) m m' (by omega) (by omega) (by omega) (fun c hc ht => by
          by_cases q2 : c = j
          · subst q2
            exact fun h => q1 ⟨ht, h⟩
          · exact hp c (by omega) ht)
  exact key nc 0 N N (by omega) (by omega) (by omega) (fun c hc => by omega)
end
