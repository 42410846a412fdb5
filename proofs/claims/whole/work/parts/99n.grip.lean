/-! GRIPS AND TAKING: both alike -/
theorem nl_and (a b : Nat) : Int64.ofNat a &&& Int64.ofNat b = Int64.ofNat (a &&& b) := Int64.toBitVec_inj.mp (BitVec.ofNat_and (w := 64) (x := a) (y := b)).symm
theorem nl_div {a d : Nat} (ha : a < 2147483648) (h0 : 0 < d) (hd : d < 2147483648) : hq_ldiv (Int64.ofNat a) (Int64.ofNat d) = some (Int64.ofNat (a / d)) := by
  unfold hq_ldiv
  have e0 : (Int64.ofNat d).toInt = d := lN_toInt (by omega)
  have ea : (Int64.ofNat a).toInt = a := lN_toInt (by omega)
  rw [decide_eq_false (fun q => by rw [lb_zero, e0] at q; omega)]
  refine congrArg some (Int64.toInt_inj.mp ?_)
  have hq : a / d < 2147483648 := Nat.lt_of_le_of_lt (Nat.div_le_self a d) ha
  rw [lg_ldiv_nonneg (by omega) (by omega), ea, e0, show (Int64.ofNat (a / d)).toInt = ((a / d : Nat) : Int) from lN_toInt (by omega), Int.natCast_ediv]
theorem nl_rem {a d : Nat} (ha : a < 2147483648) (h0 : 0 < d) (hd : d < 2147483648) : hq_lrem (Int64.ofNat a) (Int64.ofNat d) = some (Int64.ofNat (a % d)) := by
  have h1 := nl_div ha h0 hd
  unfold hq_ldiv at h1
  unfold hq_lrem
  have e0 : (Int64.ofNat d).toInt = d := lN_toInt (by omega)
  have q0 : decide (Int64.ofNat d = 0) = false := decide_eq_false (fun q => by rw [lb_zero, e0] at q; omega)
  rw [q0, cond_false] at h1 ⊢
  rw [Option.some.inj h1]
  refine congrArg some ?_
  have e1 : Int64.ofNat (a / d) * Int64.ofNat d = Int64.ofNat (a / d * d) := lN_mul _ _
  have h2 : a / d * d ≤ a := Nat.div_mul_le_self a d
  have e2 : Int64.ofNat a - Int64.ofNat (a / d * d) = Int64.ofNat (a - a / d * d) := lN_sub h2
  rw [e1, e2]
  congr 1
  have := Nat.mod_add_div a d
  rw [Nat.mul_comm] at this
  omega
theorem nl_lt {a b : Nat} (ha : a < 2147483648) (hb : b < 2147483648) : Int64.ofNat a < Int64.ofNat b ↔ a < b := lN_lt (by omega) (by omega)
theorem nl_min {a b : Nat} (ha : a < 2147483648) (hb : b < 2147483648) : hq_minj (Int64.ofNat a) (Int64.ofNat b) = Int64.ofNat (min a b) := by
  unfold hq_minj
  by_cases q : b < a
  · rw [if_pos ((nl_lt hb ha).mpr q), Nat.min_eq_right (by omega)]
  · rw [if_neg (fun h => q ((nl_lt hb ha).mp h)), Nat.min_eq_left (by omega)]
theorem nl_i (a : Nat) : (Int64.ofNat a).toInt32 = Int32.ofNat a := lN_i a
theorem nl_cl (v : Int64) : ∃ w : Nat, w ≤ 99 ∧ hq_maxj 0 (hq_minj 99 v) = Int64.ofNat w := by
  have h0 : (0 : Int64).toInt = 0 := rfl
  have h99 : (99 : Int64).toInt = 99 := rfl
  unfold hq_maxj hq_minj
  by_cases q : v < 99
  · rw [if_pos q]
    by_cases q2 : v < 0
    · rw [if_pos q2]
      exact ⟨0, by omega, rfl⟩
    · rw [if_neg q2]
      rw [Int64.lt_iff_toInt_lt] at q q2
      refine ⟨v.toInt.toNat, by omega, Int64.toInt_inj.mp ?_⟩
      rw [show (Int64.ofNat v.toInt.toNat).toInt = ((v.toInt.toNat : Nat) : Int) from lN_toInt (by omega)]
      omega
  · rw [if_neg q, if_neg (by decide)]
    exact ⟨99, by omega, rfl⟩
theorem nd_draw {d : Nat} (hd : d < 2147483648) : ((Int64.ofNat d * (1103515245 : Int64)) + (12345 : Int64)) &&& (2147483647 : Int64) = Int64.ofNat ((d * 1103515245 + 12345) % 2147483648) ∧ ((Int32.ofNat d * (1103515245 : Int32)) + (12345 : Int32)) &&& (2147483647 : Int32) = Int32.ofNat ((d * 1103515245 + 12345) % 2147483648) := by
  have e1 : Int64.ofNat d * (1103515245 : Int64) = Int64.ofNat (d * 1103515245) := lN_mul d 1103515245
  have e2 : Int64.ofNat (d * 1103515245) + (12345 : Int64) = Int64.ofNat (d * 1103515245 + 12345) := lN_add _ 12345
  have e3 : Int32.ofNat d * (1103515245 : Int32) = Int32.ofNat (d * 1103515245) := nb_mul d 1103515245
  have e4 : Int32.ofNat (d * 1103515245) + (12345 : Int32) = Int32.ofNat (d * 1103515245 + 12345) := nb_add _ 12345
  have e5 : (d * 1103515245 + 12345) &&& 2147483647 = (d * 1103515245 + 12345) % 2147483648 := Nat.and_two_pow_sub_one_eq_mod _ 31
  constructor
  · rw [e1, e2, show (2147483647 : Int64) = Int64.ofNat 2147483647 from rfl, nl_and, e5]
  · rw [e3, e4, show (2147483647 : Int32) = Int32.ofNat 2147483647 from rfl, nb_and, e5]
theorem nd_div {e : Nat} (h : e < 2147483648) : hq_ldiv (Int64.ofNat e) 65536 = some (Int64.ofNat (e / 65536)) := by
  rw [show (65536 : Int64) = Int64.ofNat 65536 from rfl]
  exact nl_div h (by omega) (by omega)
theorem nd_rem {e : Nat} (h : e < 2147483648) : hq_lrem (Int64.ofNat e) 100 = some (Int64.ofNat (e % 100)) := by
  rw [show (100 : Int64) = Int64.ofNat 100 from rfl]
  exact nl_rem h (by omega) (by omega)
theorem nd_irem {e : Nat} (h : e < 2147483648) : hq_irem (Int32.ofNat e) 100 = some (Int32.ofNat (e % 100)) := by
  rw [show (100 : Int32) = Int32.ofNat 100 from rfl]
  exact nb_rem h (by omega) (by omega)
theorem nd_shr {e : Nat} (h : e < 2147483648) : Int32.ofNat e >>> ((16 : Int32) &&& 31) = Int32.ofNat (e / 65536) := by
  have h1 := nb_shr (i := 16) h (by omega)
  rw [show (2 : Nat) ^ 16 = 65536 from rfl] at h1
  rw [show (16 : Int32) = Int32.ofNat 16 from rfl]
  exact h1
section
variable {N nc nl ng nt t u k l : Nat} {nx : Nat → Nat} {fa : Nat → Nat → Nat} {bn : Int32} {o sx sm : hq_S}
theorem hh_grip (hl : l < 23) (C : hh_C nc nl ng nt t u k l nx fa bn o sx sm) : ∃ (b : Int32) (sx' sm' : hq_S), (b = 0 ∨ b = 1) ∧ f_X3_gripHolds N sx = some (b, sx') ∧ f_X12_doesGrip N (Int32.ofNat l) bn sm = some (b, sm') ∧ hh_C nc nl ng nt t u k l nx fa bn o sx' sm' := by
  have C0 := C
  obtain ⟨S, W, M, -⟩ := C
  have S0 := S
  obtain ⟨T, ⟨dt, du, dk⟩, ⟨r0, r1, r2⟩, -⟩ := S
  obtain ⟨-, -, -, -, -, -, -, ⟨gp, hgp, gx, gm⟩, -⟩ := T
  have iT : hq_isT t := dt
  have iN : hq_isN k := by rcases dk with rfl | rfl <;> decide
  obtain ⟨-, -, m3⟩ := M
  have l4 : hq_ld sm 176 14 4 = some (Int32.ofNat gp) := by rw [nb_lit 4, nn_ld (by omega) (by omega), gm]
  have d21 : ¬ (2 : Int32) = 1 := by decide
  have d31 : ¬ (3 : Int32) = 1 := by decide
  have d32 : ¬ (3 : Int32) = 2 := by decide
  have d01 : ¬ (0 : Int32) = 1 := by decide
  have d02 : ¬ (0 : Int32) = 2 := by decide
  have d03 : ¬ (0 : Int32) = 3 := by decide
  have d10 : ¬ (1 : Int32) = 0 := by decide
  rcases m3 with ⟨a1, a2⟩ | ⟨a1, a2⟩ | ⟨a2, a3, a4⟩
  · refine ⟨1, sx, sm, Or.inr rfl, ?_, ?_, C0⟩
    · simp only [f_X3_gripHolds, a1, if_neg d21, if_true]
    · simp only [f_X12_doesGrip, if_pos a2]
  · refine ⟨0, sx, sm, Or.inl rfl, ?_, ?_, C0⟩
    · simp only [f_X3_gripHolds, a1, if_neg d31, if_neg d32, if_true]
    · simp only [f_X12_doesGrip, a2, if_neg (show ¬ (1 : Int32) = 5 by decide), if_true]
  · rcases a4 with ⟨a1, rfl⟩ | ⟨a1, rfl⟩
    · by_cases q : Int32.ofNat gp < 50
      · refine ⟨0, sx, sm, Or.inl rfl, ?_, ?_, C0⟩
        · simp only [f_X3_gripHolds, a1, if_true, r0, if_pos iT, gx, if_pos q]
        · simp only [f_X12_doesGrip, f_X12_doesGrip_J41, if_neg a2, if_neg a3, l4, Option.bind_some, if_true, if_pos q]
      · refine ⟨1, sx, sm, Or.inr rfl, ?_, ?_, C0⟩
        · simp only [f_X3_gripHolds, a1, if_true, r0, if_pos iT, gx, if_neg q]
        · simp only [f_X12_doesGrip, f_X12_doesGrip_J41, if_neg a2, if_neg a3, l4, Option.bind_some, if_true, if_neg q]
    · by_cases q1 : gp = 100
      · have p1 : Int32.ofNat gp = 100 := by rw [q1]; rfl
        have p0 : ¬ (100 : Int32) = 0 := by decide
        have p5 : ¬ (100 : Int32) < 50 := by decide
        refine ⟨1, sx, sm, Or.inr rfl, ?_, ?_, C0⟩
        · simp only [f_X3_gripHolds, f_X3_gripHolds_J96, a1, if_neg d01, if_neg d02, if_neg d03, r0, if_pos iT, gx, p1, if_true]
        · simp only [f_X12_doesGrip, f_X12_doesGrip_J41, if_neg a2, if_neg a3, l4, p1, Option.bind_some, if_neg d10, if_neg p0, if_true, if_neg p5]
      · have p1 : ¬ Int32.ofNat gp = 100 := fun h => q1 ((nn_inj (by omega) (by omega : 100 < 2147483648)).mp h)
        by_cases q0 : gp = 0
        · have p0 : Int32.ofNat gp = 0 := by rw [q0]; rfl
          have p5 : (0 : Int32) < 50 := by decide
          have p00 : ¬ (0 : Int32) < 0 := by decide
          have p01 : ¬ (0 : Int32) = 100 := by decide
          refine ⟨0, sx, sm, Or.inl rfl, ?_, ?_, C0⟩
          · simp only [f_X3_gripHolds, f_X3_gripHolds_J96, a1, if_neg d01, if_neg d02, if_neg d03, r0, if_pos iT, gx, p0, if_neg p01, if_neg p00]
          · simp only [f_X12_doesGrip, f_X12_doesGrip_J41, if_neg a2, if_neg a3, l4, p0, Option.bind_some, if_neg d10, if_true, if_pos p5]
        · have p0 : ¬ Int32.ofNat gp = 0 := fun h => q0 ((nn_inj (by omega) (by omega : 0 < 2147483648)).mp h)
          have p00 : (0 : Int32) < Int32.ofNat gp := by rw [nb_0, nn_lt (by omega) (by omega)]; omega
          obtain ⟨d, hd, dx, dm⟩ := W.2.1
          obtain ⟨w1, w2⟩ := nd_draw hd
          have hnd : (d * 1103515245 + 12345) % 2147483648 < 2147483648 := Nat.mod_lt _ (by omega)
          generalize (d * 1103515245 + 12345) % 2147483648 = e at w1 w2 hnd
          have hq1 : e / 65536 < 2147483648 := Nat.lt_of_le_of_lt (Nat.div_le_self _ _) hnd
          have C1 : hh_C nc nl ng nt t u k l nx fa 1 o (hq_sj sx k 1 (Int64.ofNat e)) (hq_si sm 197 l (Int32.ofNat e)) := ⟨hh_S_f (sx := sx) (sm := sm) (fun _ _ _ => rfl) (fun _ _ => rfl) (fun i => nb_jget (by omega)) (fun a b q => nn_gk (by omega)) S0, hn_drawn dk hnd W, hh_M_f (fun _ => rfl) (nn_gk (by omega)) (nn_gk (by omega)) C0.2.2.1, hm_o_w (by unfold hm_sl; omega) C0.2.2.2⟩
          have dw : f_X3_draw N sx = some (Int64.ofNat (e / 65536), hq_sj sx k 1 (Int64.ofNat e)) := by
            have jr : ∀ (s : hq_S) (k i k' i' : Nat) (x : Int64), hq_gr (hq_sj s k i x) k' i' = hq_gr s k' i' := fun _ _ _ _ _ _ => rfl
            have pj : ∀ x : Int64, hq_pj sx k 1 x = some (hq_sj sx k 1 x) := fun _ => rfl
            have dv : hq_ldiv (Int64.ofNat e) 65536 = some (Int64.ofNat (e / 65536)) := nd_div hnd
            simp only [f_X3_draw, r2, if_pos iN, dx, w1, pj, Option.bind_some, jr, nb_jsame, dv]
          have rm : hq_lrem (Int64.ofNat (e / 65536)) 100 = some (Int64.ofNat (e / 65536 % 100)) := nd_rem hq1
          have g64 : (Int32.ofNat gp).toInt64 = Int64.ofNat gp := nb_i64 (by omega)
          have l7 : hq_ld sm 197 23 (Int32.ofNat l) = some (Int32.ofNat d) := by rw [nn_ld (by omega) (by omega), dm]
          have s7 : hq_st sm 197 23 (Int32.ofNat l) (Int32.ofNat e) = some (hq_si sm 197 l (Int32.ofNat e)) := nn_st (by omega) (by omega)
          have l8 : hq_ld (hq_si sm 197 l (Int32.ofNat e)) 197 23 (Int32.ofNat l) = some (Int32.ofNat e) := by rw [nn_ld (by omega) (by omega), nn_g1]
          have sh : Int32.ofNat e >>> ((16 : Int32) &&& 31) = Int32.ofNat (e / 65536) := nd_shr hnd
          have rm2 : hq_irem (Int32.ofNat (e / 65536)) 100 = some (Int32.ofNat (e / 65536 % 100)) := nd_irem hq1
          have jr : ∀ (s : hq_S) (k i k' i' : Nat) (x : Int64), hq_gr (hq_sj s k i x) k' i' = hq_gr s k' i' := fun _ _ _ _ _ _ => rfl
          have ji : ∀ (s : hq_S) (k i k' i' : Nat) (x : Int64), hq_gi (hq_sj s k i x) k' i' = hq_gi s k' i' := fun _ _ _ _ _ _ => rfl
          by_cases q2 : e / 65536 % 100 < gp
          · have b1 : Int64.ofNat (e / 65536 % 100) < Int64.ofNat gp := (nl_lt (by omega) (by omega)).mpr q2
            have b2 : Int32.ofNat (e / 65536 % 100) < Int32.ofNat gp := (nn_lt (by omega) (by omega)).mpr q2
            refine ⟨1, _, _, Or.inr rfl, ?_, ?_, C1⟩
            · simp only [f_X3_gripHolds, f_X3_gripHolds_J96, a1, if_neg d01, if_neg d02, if_neg d03, r0, if_pos iT, gx, if_neg p1, if_pos p00, dw, Option.bind_some, rm, jr, ji, g64, lg_cmp_lt, if_pos b1]
            · unfold f_X12_doesGrip
              rw [if_neg a2, if_neg a3, l4, Option.bind_some, if_neg d10, if_neg p0, if_neg p1, l7, Option.bind_some, w2, s7, Option.bind_some, l8, Option.bind_some, sh, rm2, Option.bind_some, if_pos b2]
          · have b1 : ¬ Int64.ofNat (e / 65536 % 100) < Int64.ofNat gp := fun h => q2 ((nl_lt (by omega) (by omega)).mp h)
            have b2 : ¬ Int32.ofNat (e / 65536 % 100) < Int32.ofNat gp := fun h => q2 ((nn_lt (by omega) (by omega)).mp h)
            refine ⟨0, _, _, Or.inl rfl, ?_, ?_, C1⟩
            · simp only [f_X3_gripHolds, f_X3_gripHolds_J96, a1, if_neg d01, if_neg d02, if_neg d03, r0, if_pos iT, gx, if_neg p1, if_pos p00, dw, Option.bind_some, rm, jr, ji, g64, lg_cmp_lt, if_neg b1]
            · unfold f_X12_doesGrip
              rw [if_neg a2, if_neg a3, l4, Option.bind_some, if_neg d10, if_neg p0, if_neg p1, l7, Option.bind_some, w2, s7, Option.bind_some, l8, Option.bind_some, sh, rm2, Option.bind_some, if_neg b2]
/-- whether a thief is free -/
theorem hh_free (hl : l < 23) (W : hn_N nc ng nt k l sx sm) (hng : ng ≤ 3) (hnt : nt ≤ 4) {i : Nat} (hi : i < nt) : ∃ b : Int32, (b = 0 ∨ b = 1) ∧ f_X5_isFree N k (Int32.ofNat i) sx = some (b, sx) ∧ f_X12_isFree N (Int32.ofNat l) (Int32.ofNat i) sm = some (b, sm) := by
  have l1 : hq_ld sx (k + 8) 4 (Int32.ofNat i) = some (hq_gi sx (k + 8) i) := nn_ld (by omega) (by omega)
  have l2 : hq_ld sm 205 92 (Int32.ofNat (4 * l + i)) = some (hq_gi sm 205 (4 * l + i)) := nn_ld (by omega) (by omega)
  rcases (W.2.2.2.2.2.2.1 i hi).2.2.2 with ⟨f1, f2⟩ | ⟨g, hg, f1, f2⟩
  · refine ⟨1, Or.inr rfl, ?_, ?_⟩
    · simp only [f_X5_isFree, l1, f1, Option.bind_some, if_true]
    · simp only [f_X12_isFree, nb_m4, nb_add, l2, f2, Option.bind_some, if_true]
  · have n1 : ¬ Int32.ofNat g = -2 := fun q => nn_nlt0 (a := g) (by omega) (by rw [q]; decide)
    have n2 : ¬ Int32.ofNat g = -1 := fun q => nn_nlt0 (a := g) (by omega) (by rw [q]; decide)
    refine ⟨0, Or.inl rfl, ?_, ?_⟩
    · simp only [f_X5_isFree, l1, f1, Option.bind_some, if_neg n1]
    · simp only [f_X12_isFree, nb_m4, nb_add, l2, f2, Option.bind_some, if_neg n2]
theorem hh_catch {g : Nat} {q64 : Int32 → Int32 → Int32 → hq_S → Option hq_S} (hl : l < 23) (hg : g < ng) : ∀ (q j m m' : Nat) (sx sm : hq_S), hh_C nc nl ng nt t u k l nx fa bn o sx sm → j + q = nt → q < m → q < m' → ∃ sx' sm', f_X3_catchBy_L2 N m (Int32.ofNat g) (Int32.ofNat j) sx = some sx' ∧ f_X12_passes_L77 N q64 m' (Int32.ofNat l) bn (Int32.ofNat g) (Int32.ofNat j) sm = q64 (Int32.ofNat l) bn (Int32.ofNat (g + 1)) sm' ∧ hh_C nc nl ng nt t u k l nx fa bn o sx' sm' := by
  intro q
  induction q with
  | zero =>
    intro j m m' sx sm C hj hm hm'
    obtain ⟨m, rfl⟩ : ∃ k, m = k + 1 := ⟨m - 1, by omega⟩
    obtain ⟨m', rfl⟩ : ∃ k, m' = k + 1 := ⟨m' - 1, by omega⟩
    have C0 := C
    obtain ⟨S, W, M, -⟩ := C
    obtain ⟨T, ⟨dt, du, dk⟩, ⟨r0, r1, r2⟩, -⟩ := S
    obtain ⟨⟨hnc, -, hng, hnt⟩, ⟨-, -, -, -, -, -, t1, t2⟩, -⟩ := T
    have iT : hq_isT t := dt
    have c : ¬ Int32.ofNat j < Int32.ofNat nt := by rw [nn_lt (by omega) (by omega)]; omega
    have l3 : hq_ld sm 176 14 3 = some (Int32.ofNat nt) := by rw [nb_lit 3, nn_ld (by omega) (by omega), t2]
    refine ⟨sx, sm, ?_, ?_, C0⟩
    · simp only [f_X3_catchBy_L2_s, f_X3_catchBy_L2_B, r0, if_pos iT, t1, if_neg c]
    · simp only [f_X12_passes_L77_s, f_X12_passes_L77_B, l3, Option.bind_some, if_neg c, nn_succ]
  | succ q ih =>
    intro j m m' sx sm C hj hm hm'
    obtain ⟨m, rfl⟩ : ∃ k, m = k + 1 := ⟨m - 1, by omega⟩
    obtain ⟨m', rfl⟩ : ∃ k, m' = k + 1 := ⟨m' - 1, by omega⟩
    have C0 := C
    obtain ⟨S, W, M, -⟩ := C
    obtain ⟨T, ⟨dt, du, dk⟩, ⟨r0, r1, r2⟩, -⟩ := S
    obtain ⟨⟨hnc, -, hng, hnt⟩, ⟨-, -, -, -, -, -, t1, t2⟩, -⟩ := T
    have iT : hq_isT t := dt
    have iN : hq_isN k := by rcases dk with rfl | rfl <;> decide
    have c : Int32.ofNat j < Int32.ofNat nt := (nn_lt (by omega) (by omega)).mpr (by omega)
    have l3 : hq_ld sm 176 14 3 = some (Int32.ofNat nt) := by rw [nb_lit 3, nn_ld (by omega) (by omega), t2]
    have d10 : ¬ (1 : Int32) = 0 := by decide
    obtain ⟨b, hb, f1, f2⟩ := hh_free (N := N) hl W hng hnt (show j < nt by omega)
    rcases hb with rfl | rfl
    · obtain ⟨sx', sm', i1, i2, i3⟩ := ih (j + 1) m m' sx sm C0 (by omega) (by omega) (by omega)
      refine ⟨sx', sm', ?_, ?_, i3⟩
      · simp only [f_X3_catchBy_L2_s, f_X3_catchBy_L2_B, r0, if_pos iT, t1, if_pos c, r2, if_pos iN, f1, Option.bind_some, if_true, nn_succ]
        exact i1
      · simp only [f_X12_passes_L77_s, f_X12_passes_L77_B, l3, Option.bind_some, if_pos c, f2, if_true, nn_succ]
        exact i2
    · obtain ⟨a, ha, a1, a2⟩ := (W.2.2.2.2.2.2.1 j (by omega)).1
      obtain ⟨e, he, e1, e2⟩ := (W.2.2.2.2.2.1 g hg).1
      have la : hq_ld sx (k + 5) 4 (Int32.ofNat j) = some (Int32.ofNat a) := by rw [nn_ld (by omega) (by omega), a1]
      have lb : hq_ld sm 203 92 (Int32.ofNat (4 * l + j)) = some (Int32.ofNat a) := by rw [nn_ld (by omega) (by omega), a2]
      have lc : hq_ld sx (k + 2) 3 (Int32.ofNat g) = some (Int32.ofNat e) := by rw [nn_ld (by omega) (by omega), e1]
      have ld : hq_ld sm 200 69 (Int32.ofNat (3 * l + g)) = some (Int32.ofNat e) := by rw [nn_ld (by omega) (by omega), e2]
      have eq := nb_eq (show a < 2147483648 by omega) (show e < 2147483648 by omega)
      by_cases qe : a = e
      · obtain ⟨b, sx1, sm1, hb, g1, g2, C1⟩ := hh_grip (N := N) hl C0
        rcases hb with rfl | rfl
        · obtain ⟨sx', sm', i1, i2, i3⟩ := ih (j + 1) m m' sx1 sm1 C1 (by omega) (by omega) (by omega)
          refine ⟨sx', sm', ?_, ?_, i3⟩
          · simp only [f_X3_catchBy_L2_s, f_X3_catchBy_L2_B, r0, if_pos iT, t1, if_pos c, r2, if_pos iN, f1, Option.bind_some, if_neg d10, la, lc, eq, if_pos qe, g1, if_true, nn_succ]
            exact i1
          · simp only [f_X12_passes_L77_s, f_X12_passes_L77_B, l3, Option.bind_some, if_pos c, f2, if_neg d10, nb_m4, nb_m3, nb_add, lb, ld, eq, if_pos qe, g2, if_true, nn_succ]
            exact i2
        · have r2' := C1.1.2.2.1.2.2
          have C2 := hh_C_w (bn := bn) (by omega) (by omega) (by unfold hm_sl; omega) (hn_caught dk (show j < nt by omega) hg C1.2.1) C1
          have cm := (C2.2.1.2.2.2.2.2.1 g hg).2.2
          have C3 := hh_C_w (bn := bn) (by omega) (by omega) (by unfold hm_sl; omega) (hn_catch (x := hq_gi (hq_si sm1 205 (4 * l + j) (Int32.ofNat g)) 202 (3 * l + g) + 1) dk hg C2.2.1) C2
          obtain ⟨sx', sm', i1, i2, i3⟩ := ih (j + 1) m m' _ _ C3 (by omega) (by omega) (by omega)
          have s1 : hq_st sx1 (k + 8) 4 (Int32.ofNat j) (Int32.ofNat g) = some (hq_si sx1 (k + 8) j (Int32.ofNat g)) := nn_st (by omega) (by omega)
          have s2 : hq_st sm1 205 92 (Int32.ofNat (4 * l + j)) (Int32.ofNat g) = some (hq_si sm1 205 (4 * l + j) (Int32.ofNat g)) := nn_st (by omega) (by omega)
          have ir : ∀ (s : hq_S) (k i k' i' : Nat) (x : Int32), hq_gr (hq_si s k i x) k' i' = hq_gr s k' i' := fun _ _ _ _ _ _ => rfl
          have l5 : hq_ld (hq_si sx1 (k + 8) j (Int32.ofNat g)) (k + 4) 3 (Int32.ofNat g) = some (hq_gi (hq_si sm1 205 (4 * l + j) (Int32.ofNat g)) 202 (3 * l + g)) := by rw [nn_ld (by omega) (by omega), cm]
          have l6 : hq_ld (hq_si sm1 205 (4 * l + j) (Int32.ofNat g)) 202 69 (Int32.ofNat (3 * l + g)) = some (hq_gi (hq_si sm1 205 (4 * l + j) (Int32.ofNat g)) 202 (3 * l + g)) := nn_ld (by omega) (by omega)
          have s3 : ∀ x, hq_st (hq_si sx1 (k + 8) j (Int32.ofNat g)) (k + 4) 3 (Int32.ofNat g) x = some (hq_si (hq_si sx1 (k + 8) j (Int32.ofNat g)) (k + 4) g x) := fun x => nn_st (by omega) (by omega)
          have s4 : ∀ x, hq_st (hq_si sm1 205 (4 * l + j) (Int32.ofNat g)) 202 69 (Int32.ofNat (3 * l + g)) x = some (hq_si (hq_si sm1 205 (4 * l + j) (Int32.ofNat g)) 202 (3 * l + g) x) := fun x => nn_st (by omega) (by omega)
          refine ⟨sx', sm', ?_, ?_, i3⟩
          · simp only [f_X3_catchBy_L2_s, f_X3_catchBy_L2_B, r0, if_pos iT, t1, if_pos c, r2, if_pos iN, f1, Option.bind_some, if_neg d10, la, lc, eq, if_pos qe, g1, r2', s1, ir, l5, s3, nn_succ]
            exact i1
          · simp only [f_X12_passes_L77_s, f_X12_passes_L77_B, l3, Option.bind_some, if_pos c, f2, if_neg d10, nb_m4, nb_m3, nb_add, lb, ld, eq, if_pos qe, g2, s2, l6, s4, nn_succ]
            exact i2
      · obtain ⟨sx', sm', i1, i2, i3⟩ := ih (j + 1) m m' sx sm C0 (by omega) (by omega) (by omega)
        refine ⟨sx', sm', ?_, ?_, i3⟩
        · simp only [f_X3_catchBy_L2_s, f_X3_catchBy_L2_B, r0, if_pos iT, t1, if_pos c, r2, if_pos iN, f1, Option.bind_some, if_neg d10, la, lc, eq, if_neg qe, if_true, nn_succ]
          exact i1
        · simp only [f_X12_passes_L77_s, f_X12_passes_L77_B, l3, Option.bind_some, if_pos c, f2, if_neg d10, nb_m4, nb_m3, nb_add, lb, ld, eq, if_neg qe, nn_succ]
          exact i2
end
