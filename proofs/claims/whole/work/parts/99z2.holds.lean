/-! IN LEAST TERMS; HOLDS -/
theorem nm_int {a : Nat} (h : a < 9223372036854775808) : (Int64.ofNat a).toInt = a := lg_ofNat_toInt (by omega)
theorem nm_eq0 {a : Nat} (h : a < 9223372036854775808) : Int64.ofNat a = 0 ↔ a = 0 := by
  rw [lb_zero, nm_int h]
  omega
theorem nm_div {a d : Nat} (ha : a < 9223372036854775808) (h0 : 0 < d) (hd : d < 9223372036854775808) : hq_ldiv (Int64.ofNat a) (Int64.ofNat d) = some (Int64.ofNat (a / d)) := by
  unfold hq_ldiv
  rw [decide_eq_false (fun q => by rw [nm_eq0 hd] at q; omega)]
  refine congrArg some (Int64.toInt_inj.mp ?_)
  have hq : a / d < 9223372036854775808 := Nat.lt_of_le_of_lt (Nat.div_le_self a d) ha
  rw [lg_ldiv_nonneg (by rw [nm_int ha]; omega) (by rw [nm_int hd]; omega), nm_int ha, nm_int hd, nm_int hq, Int.natCast_ediv]
theorem nm_rem {a d : Nat} (ha : a < 9223372036854775808) (h0 : 0 < d) (hd : d < 9223372036854775808) : hq_lrem (Int64.ofNat a) (Int64.ofNat d) = some (Int64.ofNat (a % d)) := by
  have h1 := nm_div ha h0 hd
  unfold hq_ldiv at h1
  unfold hq_lrem
  have q0 : decide (Int64.ofNat d = 0) = false := decide_eq_false (fun q => by rw [nm_eq0 hd] at q; omega)
  rw [q0, cond_false] at h1 ⊢
  rw [Option.some.inj h1]
  refine congrArg some ?_
  have e1 : Int64.ofNat (a / d) * Int64.ofNat d = Int64.ofNat (a / d * d) := lN_mul _ _
  have h2 : a / d * d ≤ a := Nat.div_mul_le_self a d
  have e2 : Int64.ofNat a - Int64.ofNat (a / d * d) = Int64.ofNat (a - a / d * d) := lN_sub h2
  rw [e1, e2]
  congr 1
  have := Nat.mod_add_div a d
  rw [Nat.mul_comm] at this
  omega
theorem nm_half {r n : Nat} (hn : 0 < n) (h : n ≤ r) : 2 * (r % n) < r := by
  have h1 := Nat.mod_lt r hn
  have h2 := Nat.mod_add_div r n
  have h3 : 1 ≤ r / n := Nat.div_pos h hn
  have h4 : n * 1 ≤ n * (r / n) := Nat.mul_le_mul_left n h3
  omega
section
variable {N : Nat} {s : hq_S}
/-- the class's way of it -/
theorem nm_X {j0 j2 : Int64} {a4 : Int32} : ∀ (k p d r m : Nat), r < 2 ^ k → d < 9223372036854775808 → r < 9223372036854775808 → p + (2 * k + 1) ≤ 200 → 2 * k + 1 < m → f_X11_inLeastTerms_L9 N m j0 j2 a4 (Int64.ofNat d) (Int64.ofNat r) (Int32.ofNat p) s = if Int64.ofNat (Nat.gcd d r) = 0 then some (-1, s) else if a4 = 0 then (hq_ldiv j0 (Int64.ofNat (Nat.gcd d r))).bind fun x5 => some (x5, s) else (hq_ldiv j2 (Int64.ofNat (Nat.gcd d r))).bind fun x4 => some (x4, s) := by
  have stop : ∀ (p d m : Nat), p < 200 → 0 < m → f_X11_inLeastTerms_L9 N m j0 j2 a4 (Int64.ofNat d) (Int64.ofNat 0) (Int32.ofNat p) s = if Int64.ofNat d = 0 then some (-1, s) else if a4 = 0 then (hq_ldiv j0 (Int64.ofNat d)).bind fun x5 => some (x5, s) else (hq_ldiv j2 (Int64.ofNat d)).bind fun x4 => some (x4, s) := fun p d m hp hm => by
    obtain ⟨m, rfl⟩ : ∃ k, m = k + 1 := ⟨m - 1, by omega⟩
    have c : Int32.ofNat p < (200 : Int32) := by rw [nb_lit 200, nn_lt (by omega) (by omega)]; omega
    have z : Int64.ofNat 0 = (0 : Int64) := rfl
    simp only [f_X11_inLeastTerms_L9_s, f_X11_inLeastTerms_L9_B, f_X11_inLeastTerms_J45, if_pos c, lg_cmp_eq, z, if_true]
  have step : ∀ (p d r m : Nat), p < 200 → 0 < r → d < 9223372036854775808 → r < 9223372036854775808 → f_X11_inLeastTerms_L9 N (m + 1) j0 j2 a4 (Int64.ofNat d) (Int64.ofNat r) (Int32.ofNat p) s = f_X11_inLeastTerms_L9 N m j0 j2 a4 (Int64.ofNat r) (Int64.ofNat (d % r)) (Int32.ofNat (p + 1)) s := fun p d r m hp hr hd hr2 => by
    have c : Int32.ofNat p < (200 : Int32) := by rw [nb_lit 200, nn_lt (by omega) (by omega)]; omega
    have z : ¬ Int64.ofNat r = (0 : Int64) := fun q => by rw [nm_eq0 hr2] at q; omega
    simp only [f_X11_inLeastTerms_L9_s, f_X11_inLeastTerms_L9_B, if_pos c, lg_cmp_eq, if_neg z, nm_rem hd hr hr2, Option.bind_some, nn_succ]
  intro k
  induction k with
  | zero =>
    intro p d r m hr hd hr2 hp hm
    have r0 : r = 0 := by omega
    subst r0
    rw [stop p d m (by omega) (by omega), Nat.gcd_zero_right]
  | succ k ih =>
    intro p d r m hr hd hr2 hp hm
    by_cases r0 : r = 0
    · subst r0
      rw [stop p d m (by omega) (by omega), Nat.gcd_zero_right]
    · obtain ⟨m, rfl⟩ : ∃ k, m = k + 1 := ⟨m - 1, by omega⟩
      rw [step p d r m (by omega) (by omega) hd hr2]
      have h1 := Nat.mod_lt d (show 0 < r by omega)
      have g1 : Nat.gcd d r = Nat.gcd r (d % r) := by rw [Nat.gcd_comm d r, Nat.gcd_rec r d, Nat.gcd_comm]
      rw [g1]
      by_cases s0 : d % r = 0
      · rw [s0, stop (p + 1) r m (by omega) (by omega), Nat.gcd_zero_right]
      · obtain ⟨m, rfl⟩ : ∃ k, m = k + 1 := ⟨m - 1, by omega⟩
        rw [step (p + 1) r (d % r) m (by omega) (by omega) hr2 (by omega)]
        have g2 : Nat.gcd r (d % r) = Nat.gcd (d % r) (r % (d % r)) := by rw [Nat.gcd_comm r, Nat.gcd_rec (d % r) r, Nat.gcd_comm]
        rw [g2]
        have h2 := nm_half (r := r) (n := d % r) (by omega) (by omega)
        have h3 : 2 ^ (k + 1) = 2 * 2 ^ k := by rw [Nat.pow_succ, Nat.mul_comm]
        exact ih (p + 1 + 1) (d % r) (r % (d % r)) m (by omega) (by omega) (by omega) (by omega) (by omega)
/-- the reference's way of it -/
theorem nm_M {j0 j2 : Int64} : ∀ (k x y m : Nat), y < 2 ^ k → x < 9223372036854775808 → y < 9223372036854775808 → 2 * k + 1 < m → f_X12_common_L6 N m j0 j2 (Int64.ofNat x) (Int64.ofNat y) s = some (Int64.ofNat (Nat.gcd x y), s) := by
  have stop : ∀ (x m : Nat), 0 < m → f_X12_common_L6 N m j0 j2 (Int64.ofNat x) (Int64.ofNat 0) s = some (Int64.ofNat x, s) := fun x m hm => by
    obtain ⟨m, rfl⟩ : ∃ k, m = k + 1 := ⟨m - 1, by omega⟩
    have z : Int64.ofNat 0 = (0 : Int64) := rfl
    simp only [f_X12_common_L6_s, f_X12_common_L6_B, lg_cmp_eq, z, if_true]
  have step : ∀ (x y m : Nat), 0 < y → x < 9223372036854775808 → y < 9223372036854775808 → f_X12_common_L6 N (m + 1) j0 j2 (Int64.ofNat x) (Int64.ofNat y) s = f_X12_common_L6 N m j0 j2 (Int64.ofNat y) (Int64.ofNat (x % y)) s := fun x y m hy hx hy2 => by
    have z : ¬ Int64.ofNat y = (0 : Int64) := fun q => by rw [nm_eq0 hy2] at q; omega
    simp only [f_X12_common_L6_s, f_X12_common_L6_B, lg_cmp_eq, if_neg z, nm_rem hx hy hy2, Option.bind_some]
  intro k
  induction k with
  | zero =>
    intro x y m hy hx hy2 hm
    have y0 : y = 0 := by omega
    subst y0
    rw [stop x m (by omega), Nat.gcd_zero_right]
  | succ k ih =>
    intro x y m hy hx hy2 hm
    by_cases y0 : y = 0
    · subst y0
      rw [stop x m (by omega), Nat.gcd_zero_right]
    · obtain ⟨m, rfl⟩ : ∃ k, m = k + 1 := ⟨m - 1, by omega⟩
      rw [step x y m (by omega) hx hy2]
      have h1 := Nat.mod_lt x (show 0 < y by omega)
      have g1 : Nat.gcd x y = Nat.gcd y (x % y) := by rw [Nat.gcd_comm x y, Nat.gcd_rec y x, Nat.gcd_comm]
      rw [g1]
      by_cases s0 : x % y = 0
      · rw [s0, stop y m (by omega), Nat.gcd_zero_right]
      · obtain ⟨m, rfl⟩ : ∃ k, m = k + 1 := ⟨m - 1, by omega⟩
        rw [step y (x % y) m (by omega) hy2 (by omega)]
        have g2 : Nat.gcd y (x % y) = Nat.gcd (x % y) (y % (x % y)) := by rw [Nat.gcd_comm y, Nat.gcd_rec (x % y) y, Nat.gcd_comm]
        rw [g2]
        have h2 := nm_half (r := y) (n := x % y) (by omega) (by omega)
        have h3 : 2 ^ (k + 1) = 2 * 2 ^ k := by rw [Nat.pow_succ, Nat.mul_comm]
        exact ih (x % y) (y % (x % y)) m (by omega) (by omega) (by omega) (by omega)
theorem nm_least {j0 j2 : Int64} {above below : Nat} {a4 : Int32} (hN : 300 < N) (ha : above < 9223372036854775808) (hb : below < 9223372036854775808) (h0 : 0 < below) (e0 : j0 = Int64.ofNat above) (e2 : j2 = Int64.ofNat below) : f_X11_inLeastTerms N j0 j2 a4 s = some (if a4 = 0 then Int64.ofNat (above / Nat.gcd above below) else Int64.ofNat (below / Nat.gcd above below), s) := by
  unfold f_X11_inLeastTerms
  subst e0 e2
  have hg : 0 < Nat.gcd below above := Nat.gcd_pos_of_pos_left _ h0
  have hg2 : Nat.gcd below above ≤ below := Nat.gcd_le_left _ h0
  have st := nm_X (N := N) (s := s) (j0 := Int64.ofNat above) (j2 := Int64.ofNat below) (a4 := a4) 63 0 below above N ha hb ha (by omega) (by omega)
  refine (show f_X11_inLeastTerms_L9 N N (Int64.ofNat above) (Int64.ofNat below) a4 (Int64.ofNat below) (Int64.ofNat above) 0 s = _ from st).trans ?_
  rw [if_neg (fun q => by rw [nm_eq0 (by omega)] at q; omega), nm_div ha hg (by omega), nm_div hb hg (by omega), Nat.gcd_comm below above]
  by_cases q : a4 = 0
  · rw [if_pos q, if_pos q]; rfl
  · rw [if_neg q, if_neg q]; rfl
theorem nm_common {above below : Nat} (hN : 300 < N) (ha : above < 9223372036854775808) (hb : below < 9223372036854775808) : f_X12_common N (Int64.ofNat above) (Int64.ofNat below) s = some (Int64.ofNat (Nat.gcd above below), s) := nm_M 63 above below N hb ha hb (by omega)
theorem nm_pow {b n : Nat} (hn : n < 100) : ∀ (q j m : Nat), j + q = n → q < m → f_X11_power_L5 N m (Int64.ofNat b) (Int32.ofNat n) (Int64.ofNat (b ^ j)) (Int32.ofNat j) s = some (Int64.ofNat (b ^ n), s) := by
  intro q
  induction q with
  | zero =>
    intro j m hj hm
    obtain ⟨m, rfl⟩ : ∃ k, m = k + 1 := ⟨m - 1, by omega⟩
    have hj : j = n := by omega
    subst hj
    have c : ¬ Int32.ofNat j < Int32.ofNat j := by rw [nn_lt (by omega) (by omega)]; omega
    simp only [f_X11_power_L5_s, f_X11_power_L5_B, if_neg c]
  | succ q ih =>
    intro j m hj hm
    obtain ⟨m, rfl⟩ : ∃ k, m = k + 1 := ⟨m - 1, by omega⟩
    have c : Int32.ofNat j < Int32.ofNat n := (nn_lt (by omega) (by omega)).mpr (by omega)
    have e : Int64.ofNat (b ^ j) * Int64.ofNat b = Int64.ofNat (b ^ (j + 1)) := by rw [Nat.pow_succ]; exact lN_mul _ _
    simp only [f_X11_power_L5_s, f_X11_power_L5_B, if_pos c, e, nn_succ]
    exact ih (j + 1) m (by omega) (by omega)
theorem nm_power {b n : Nat} (hN : 100 < N) (hn : n < 100) : f_X11_power N (Int64.ofNat b) (Int32.ofNat n) s = some (Int64.ofNat (b ^ n), s) := nm_pow hn n 0 N (by omega) (by omega)
end
section
variable {HC : hq_S → Prop} {N : Nat}
theorem hs_op_35 (hc : hc_loc HC) (hN : 300 < N) (a1 a2 : Int32) : hq_Sim (hR HC) (f_X11_holds N a1 a2) (f_X12_holds N a1 a2) := hs_mk hc (WX := w_X11_holds) (WM := w_X12_holds) (by decide) (by decide) (by decide) (fun _ _ => f_X11_holds_fw) (fun _ _ => f_X12_holds_fw) fun sx sm R => by
  obtain ⟨nc, nl, ng, nt, t, bar, fr, to, on, TT⟩ := R.2.2.2.2.2
  obtain ⟨I, T⟩ := hT_th 0 R.2.2.1 TT
  obtain ⟨⟨t1, t2, t3⟩, Te, -⟩ := T
  obtain ⟨gp, hgp, gx, gm⟩ := Te.2.2.2.2.2.2.2.1
  have iT : hq_isT t := t2
  have l4 : hq_ld (hq_si sm 174 0 0) 176 14 4 = some (Int32.ofNat gp) := by rw [nb_lit 4, nn_ld (by omega) (by omega), gm]
  have n6 : (6 : Int32) = Int32.ofNat 6 := rfl
  rcases nn_le (a := a1) (n := 6) (by omega) with ⟨n, hn, rfl, h0, h2⟩ | h0 | ⟨h0, h2⟩
  · rw [← n6] at h2
    by_cases k0 : a2 < 0
    · exact ⟨-1, sx, hq_si sm 174 0 0, by simp only [f_X11_holds, f_X11_holds_J19, if_neg h0, if_neg h2, if_pos k0], by simp only [f_X12_holds, f_X12_holds_J24, nn_pi, Option.bind_some, if_neg h0, if_neg h2, if_pos k0]⟩
    · by_cases k1 : (1 : Int32) < a2
      · exact ⟨-1, sx, hq_si sm 174 0 0, by simp only [f_X11_holds, f_X11_holds_J19, if_neg h0, if_neg h2, if_neg k0, if_pos k1], by simp only [f_X12_holds, f_X12_holds_J24, nn_pi, Option.bind_some, if_neg h0, if_neg h2, if_neg k0, if_pos k1]⟩
      · have pa : gp ^ n ≤ 1000000000000 := Nat.le_trans (Nat.pow_le_pow_left hgp n) (Nat.le_trans (Nat.pow_le_pow_right (by omega) hn) (by decide : 100 ^ 6 ≤ 1000000000000))
        have pb : 100 ^ n ≤ 1000000000000 := Nat.le_trans (Nat.pow_le_pow_right (by omega) hn) (by decide : 100 ^ 6 ≤ 1000000000000)
        have pb0 : 0 < 100 ^ n := Nat.pow_pos (by omega)
        have g64 : (Int32.ofNat gp).toInt64 = Int64.ofNat gp := nb_i64 (by omega)
        have hg : 0 < Nat.gcd (gp ^ n) (100 ^ n) := Nat.gcd_pos_of_pos_right _ pb0
        have hg2 : Nat.gcd (gp ^ n) (100 ^ n) ≤ 100 ^ n := Nat.gcd_le_right _ pb0
        have pw1 := nm_power (N := N) (s := sx) (b := gp) (n := n) (by omega) (by omega)
        have pw2 : f_X11_power N 100 (Int32.ofNat n) sx = some (Int64.ofNat (100 ^ n), sx) := nm_power (N := N) (s := sx) (b := 100) (n := n) (by omega) (by omega)
        have lt := nm_least (N := N) (s := sx) (a4 := a2) (above := gp ^ n) (below := 100 ^ n) hN (by omega) (by omega) pb0 rfl rfl
        have key : ∀ (q j m : Nat), j + q = n → q < m → f_X12_holds_L36 N m (Int32.ofNat n) a2 (Int64.ofNat (gp ^ j)) (Int64.ofNat (100 ^ j)) (Int32.ofNat j) (hq_si sm 174 0 0) = some (if a2 = 0 then Int64.ofNat (gp ^ n / Nat.gcd (gp ^ n) (100 ^ n)) else Int64.ofNat (100 ^ n / Nat.gcd (gp ^ n) (100 ^ n)), hq_si sm 174 0 0) := by
          intro q
          induction q with
          | zero =>
            intro j m hj hm
            obtain ⟨m, rfl⟩ : ∃ k, m = k + 1 := ⟨m - 1, by omega⟩
            have hj : j = n := by omega
            subst hj
            have c : ¬ Int32.ofNat j < Int32.ofNat j := by rw [nn_lt (by omega) (by omega)]; omega
            have cm := nm_common (N := N) (s := hq_si sm 174 0 0) (above := gp ^ j) (below := 100 ^ j) hN (by omega) (by omega)
            have d1 := nm_div (a := gp ^ j) (d := Nat.gcd (gp ^ j) (100 ^ j)) (by omega) hg (by omega)
            have d2 := nm_div (a := 100 ^ j) (d := Nat.gcd (gp ^ j) (100 ^ j)) (by omega) hg (by omega)
            simp only [f_X12_holds_L36_s, f_X12_holds_L36_B, if_neg c, cm, d1, d2, Option.bind_some]
            by_cases q : a2 = 0
            · rw [if_pos q, if_pos q]
            · rw [if_neg q, if_neg q]
          | succ q ih =>
            intro j m hj hm
            obtain ⟨m, rfl⟩ : ∃ k, m = k + 1 := ⟨m - 1, by omega⟩
            have c : Int32.ofNat j < Int32.ofNat n := (nn_lt (by omega) (by omega)).mpr (by omega)
            have ea : Int64.ofNat (gp ^ j) * Int64.ofNat gp = Int64.ofNat (gp ^ (j + 1)) := by rw [Nat.pow_succ]; exact lN_mul _ _
            have eb : Int64.ofNat (100 ^ j) * (100 : Int64) = Int64.ofNat (100 ^ (j + 1)) := by rw [Nat.pow_succ]; exact lN_mul _ 100
            simp only [f_X12_holds_L36_s, f_X12_holds_L36_B, if_pos c, l4, Option.bind_some, g64, ea, eb, nn_succ]
            exact ih (j + 1) m (by omega) (by omega)
        refine ⟨if a2 = 0 then Int64.ofNat (gp ^ n / Nat.gcd (gp ^ n) (100 ^ n)) else Int64.ofNat (100 ^ n / Nat.gcd (gp ^ n) (100 ^ n)), sx, hq_si sm 174 0 0, ?_, ?_⟩
        · simp only [f_X11_holds, if_neg h0, if_neg h2, if_neg k0, if_neg k1, t1, if_pos iT, gx, g64, pw1, pw2, lt, Option.bind_some]
        · simp only [f_X12_holds, nn_pi, Option.bind_some, if_neg h0, if_neg h2, if_neg k0, if_neg k1]
          exact key n 0 N (by omega) (by omega)
  · exact ⟨-1, sx, hq_si sm 174 0 0, by simp only [f_X11_holds, f_X11_holds_J19, if_pos h0], by simp only [f_X12_holds, f_X12_holds_J24, nn_pi, Option.bind_some, if_pos h0]⟩
  · rw [← n6] at h2
    exact ⟨-1, sx, hq_si sm 174 0 0, by simp only [f_X11_holds, f_X11_holds_J19, if_neg h0, if_pos h2], by simp only [f_X12_holds, f_X12_holds_J24, nn_pi, Option.bind_some, if_neg h0, if_pos h2]⟩
end
