/-! A LAW'S VALUE: both alike -/
section
variable {N nc nl ng nt t u k l : Nat} {nx : Nat → Nat} {fa : Nat → Nat → Nat} {sx sm : hq_S}
theorem hm_e_sj {s : hq_S} {k i : Nat} {x : Int64} : hm_e s (hq_sj s k i x) := fun _ _ _ => rfl
/-- seven names put into a row -/
def hh_F (a : Nat → Int64) (s : hq_S) (q : Nat) : hq_S := hq_sj (hq_sj (hq_sj (hq_sj (hq_sj (hq_sj (hq_sj s q 0 (a 0)) q 1 (a 1)) q 2 (a 2)) q 3 (a 3)) q 4 (a 4)) q 5 (a 5)) q 6 (a 6)
theorem hh_F_g {a : Nat → Int64} {s : hq_S} {q j : Nat} (hj : j < 7) : hq_gj (hh_F a s q) q j = a j := by
  unfold hh_F
  rcases (show j = 0 ∨ j = 1 ∨ j = 2 ∨ j = 3 ∨ j = 4 ∨ j = 5 ∨ j = 6 by omega) with rfl | rfl | rfl | rfl | rfl | rfl | rfl <;> simp [nb_jj]
theorem hh_F_x {a : Nat → Int64} {s : hq_S} {t : Nat} : hx_e t s (hh_F a s 151) := hx_e_tr (hx_e_tr (hx_e_tr (hx_e_tr (hx_e_tr (hx_e_tr hx_e_sn hx_e_sn) hx_e_sn) hx_e_sn) hx_e_sn) hx_e_sn) hx_e_sn
theorem hh_F_m {a : Nat → Int64} {s : hq_S} {q : Nat} : hm_e s (hh_F a s q) := hm_e_tr (hm_e_tr (hm_e_tr (hm_e_tr (hm_e_tr (hm_e_tr hm_e_sj hm_e_sj) hm_e_sj) hm_e_sj) hm_e_sj) hm_e_sj) hm_e_sj
/-- the names of a corner and a thief -/
theorem hh_names (hN : 100 < N) (hl : l < 23) (S : hh_S nc nl ng nt t u k nx fa sx sm) (W : hn_N nc ng nt k l sx sm) {i c : Nat} (hi : i < nt) (hc : c < nc) : ∃ (nm : Nat → Int64) (sm1 : hq_S), f_X12_calls N (Int32.ofNat l) (Int32.ofNat i) (Int32.ofNat c) sm = some sm1 ∧ hm_e sm sm1 ∧ (∀ j, j < 7 → hq_gj sm1 194 j = nm j ∧ lb_ok (nm j)) ∧ ∃ sx1, hx_e t sx sx1 ∧ (∀ j, j < 7 → hq_gj sx1 151 j = nm j) ∧ ∀ r : Int32, f_X3_lawValue_L24 N N r (Int32.ofNat i) (Int32.ofNat c) 0 0 sx = (f_X4_valueOf N (t + 9) r 151 sx1).bind fun y24 => some (y24.1, y24.2) := by
  have S0 := S
  obtain ⟨T, ⟨dt, du, dk⟩, ⟨r0, r1, r2⟩, -⟩ := S
  have T0 := T
  obtain ⟨⟨hnc, -, hng, hnt⟩, ⟨-, -, -, -, g1, g2, -⟩, tc, -⟩ := T
  have iT : hq_isT t := dt
  have iN : hq_isN k := by rcases dk with rfl | rfl <;> decide
  have W0 := W
  obtain ⟨wh, -, -, wl, -, -, wt, -⟩ := W
  obtain ⟨-, ⟨lt, hlt, lx, lm⟩, -⟩ := tc c hc
  obtain ⟨lo, hlo, ox, om⟩ := wl c hc
  obtain ⟨-, ⟨bo, hbo, bx, bm⟩, hx, -⟩ := wt i hi
  have vx0 : hq_ld sx (t + 2) 10 (Int32.ofNat c) = some (Int32.ofNat lt) := by rw [nn_ld (by omega) (by omega), lx]
  have vm0 : hq_ld sm 178 20 (Int32.ofNat c) = some (Int32.ofNat lt) := by rw [nn_ld (by omega) (by omega), lm]
  have vx2 : hq_ld sx (k + 1) 10 (Int32.ofNat c) = some (Int32.ofNat lo) := by rw [nn_ld (by omega) (by omega), ox]
  have vm2 : hq_ld sm 199 230 (Int32.ofNat (10 * l + c)) = some (Int32.ofNat lo) := by rw [nn_ld (by omega) (by omega), om]
  have vx3 : hq_ld sx (k + 6) 4 (Int32.ofNat i) = some (Int32.ofNat bo) := by rw [nn_ld (by omega) (by omega), bx]
  have vx4 : hq_ld sx (k + 7) 4 (Int32.ofNat i) = some (hq_gi sm 204 (4 * l + i)) := by rw [nn_ld (by omega) (by omega), hx]
  have vm4 : hq_ld sm 204 92 (Int32.ofNat (4 * l + i)) = some (hq_gi sm 204 (4 * l + i)) := nn_ld (by omega) (by omega)
  have vm6 : hq_ld sm 196 23 (Int32.ofNat l) = some (hq_gi sm 196 l) := nn_ld (by omega) (by omega)
  obtain ⟨v, hv, n1, n2⟩ := hh_near (N := N) (c := c) (by omega) hl (hh_S_e (hx_e_sn (i := 0) (x := (Int32.ofNat lt).toInt64)) (hm_e_sj (k := 194) (i := 0) (x := (Int32.ofNat lt).toInt64)) S0) (hn_N_e (by omega) (by omega) (by omega) (hx_e_sn (t := t) (i := 0) (x := (Int32.ofNat lt).toInt64)) (hm_e_sj (k := 194) (i := 0) (x := (Int32.ofNat lt).toInt64)) W0) hc
  have gp := gd_pop (ga_of l sm) c ng (by omega)
  have gm8 := gd_m_lt (ga_of l sm) c ng
  have gm9 : gd_m (ga_of l sm) c ng < 8 := Nat.lt_of_lt_of_le gm8 (Nat.pow_le_pow_right (by omega) hng : 2 ^ ng ≤ 2 ^ 3)
  have gat : ∀ s : hq_S, hm_e sm s → f_X12_guardsAt N (Int32.ofNat l) (Int32.ofNat c) s = some (Int32.ofNat (gd_m (ga_of l sm) c ng), s) := fun s hs => by
    have h1 := hh_gat (N := N) (c := c) (by omega) hl (hr_told_e (by omega) (hx_e_rf t sx) hs T0) (hn_N_e (t := t) (by omega) (by omega) (by omega) (hx_e_rf t sx) hs W0) hc
    rw [h1]
    have : ga_of l s = ga_of l sm := funext fun g => by unfold ga_of; rw [hs _ _ (by omega)]
    rw [this]
  have bof : ∀ s : hq_S, hm_e sm s → f_X12_boldOf N (Int32.ofNat i) s = some (Int32.ofNat bo, s) := fun s hs => by
    rw [hh_bold (by omega), ← bm]
    unfold hn_bold
    rw [hs _ _ (by omega), hs _ _ (by omega), hs _ _ (by omega)]
  have sj : ∀ {s : hq_S} {q j : Nat} {x : Int64}, j < 7 → hq_stj s q 7 (Int32.ofNat j) x = some (hq_sj s q j x) := fun {s q j x} h => nb_stj h (by omega)
  have sj0 : ∀ {s : hq_S} {q : Nat} {x : Int64}, hq_stj s q 7 0 x = some (hq_sj s q 0 x) := sj (j := 0) (by omega)
  have sj1 : ∀ {s : hq_S} {q : Nat} {x : Int64}, hq_stj s q 7 1 x = some (hq_sj s q 1 x) := sj (j := 1) (by omega)
  have sj2 : ∀ {s : hq_S} {q : Nat} {x : Int64}, hq_stj s q 7 2 x = some (hq_sj s q 2 x) := sj (j := 2) (by omega)
  have sj3 : ∀ {s : hq_S} {q : Nat} {x : Int64}, hq_stj s q 7 3 x = some (hq_sj s q 3 x) := sj (j := 3) (by omega)
  have sj4 : ∀ {s : hq_S} {q : Nat} {x : Int64}, hq_stj s q 7 4 x = some (hq_sj s q 4 x) := sj (j := 4) (by omega)
  have sj5 : ∀ {s : hq_S} {q : Nat} {x : Int64}, hq_stj s q 7 5 x = some (hq_sj s q 5 x) := sj (j := 5) (by omega)
  have sj6 : ∀ {s : hq_S} {q : Nat} {x : Int64}, hq_stj s q 7 6 x = some (hq_sj s q 6 x) := sj (j := 6) (by omega)
  have e6 : hq_gi sx k 0 = hq_gi sm 196 l := wh
  let nm : Nat → Int64 := fun j => match j with
    | 0 => (Int32.ofNat lt).toInt64
    | 1 => (Int32.ofNat v).toInt64
    | 2 => (Int32.ofNat lo).toInt64
    | 3 => (Int32.ofNat bo).toInt64
    | 4 => (hq_gi sm 204 (4 * l + i)).toInt64
    | 5 => (Int32.ofNat (gd_n (ga_of l sm) c ng)).toInt64
    | _ => (hq_gi sm 196 l).toInt64
  have okF : ∀ j, j < 7 → lb_ok (nm j) := fun j hj => by
    rcases (show j = 0 ∨ j = 1 ∨ j = 2 ∨ j = 3 ∨ j = 4 ∨ j = 5 ∨ j = 6 by omega) with rfl | rfl | rfl | rfl | rfl | rfl | rfl
    all_goals exact lb_i _
  refine ⟨nm, hh_F nm sm 194, ?_, hh_F_m, fun j hj => ⟨hh_F_g hj, okF j hj⟩, hh_F nm sx 151, hh_F_x, fun j hj => hh_F_g hj, fun r => ?_⟩
  · have bof3 : ∀ a b d : Int64, f_X12_boldOf N (Int32.ofNat i) (hq_sj (hq_sj (hq_sj sm 194 0 a) 194 1 b) 194 2 d) = some (Int32.ofNat bo, hq_sj (hq_sj (hq_sj sm 194 0 a) 194 1 b) 194 2 d) := fun a b d => bof _ (hm_e_tr (hm_e_tr hm_e_sj hm_e_sj) hm_e_sj)
    have gat5 : ∀ a b d e f : Int64, f_X12_guardsAt N (Int32.ofNat l) (Int32.ofNat c) (hq_sj (hq_sj (hq_sj (hq_sj (hq_sj sm 194 0 a) 194 1 b) 194 2 d) 194 3 e) 194 4 f) = some (Int32.ofNat (gd_m (ga_of l sm) c ng), hq_sj (hq_sj (hq_sj (hq_sj (hq_sj sm 194 0 a) 194 1 b) 194 2 d) 194 3 e) 194 4 f) := fun a b d e f => gat _ (hm_e_tr (hm_e_tr (hm_e_tr (hm_e_tr hm_e_sj hm_e_sj) hm_e_sj) hm_e_sj) hm_e_sj)
    have bts : ∀ s : hq_S, f_X12_bitsOf N (Int32.ofNat (gd_m (ga_of l sm) c ng)) s = some (Int32.ofNat (gd_n (ga_of l sm) c ng), s) := fun s => by rw [hb_bits (by omega) (by omega), gp]
    simp only [f_X12_calls, vm0, Option.bind_some, sj0, n2, sj1, nb_m10, nb_add, nb_ldsj, vm2, sj2, bof3, sj3, nb_m4, vm4, sj4, gat5, bts, sj5, vm6, sj6]
    rfl
  · obtain ⟨m2, e1⟩ := hh_cnt (N := N) (r := r) (i := Int32.ofNat i) (c := c) S0 W0 hc ng 0 N (by omega) (by omega)
    have cc : ¬ Int32.ofNat ng < Int32.ofNat ng := by rw [nn_lt (by omega) (by omega)]; omega
    rw [gd_n] at e1
    rw [nb_0, e1]
    have st : hh_F nm sx 151 = hq_sj (hq_sj (hq_sj (hq_sj (hq_sj (hq_sj (hq_sj sx 151 0 (Int32.ofNat lt).toInt64) 151 1 (Int32.ofNat v).toInt64) 151 2 (Int32.ofNat lo).toInt64) 151 3 (Int32.ofNat bo).toInt64) 151 4 (hq_gi sm 204 (4 * l + i)).toInt64) 151 5 (Int32.ofNat (gd_n (ga_of l sm) c ng)).toInt64) 151 6 (hq_gi sm 196 l).toInt64 := rfl
    have jr : ∀ (s : hq_S) (k i k' i' : Nat) (x : Int64), hq_gr (hq_sj s k i x) k' i' = hq_gr s k' i' := fun _ _ _ _ _ _ => rfl
    have ji : ∀ (s : hq_S) (k i k' i' : Nat) (x : Int64), hq_gi (hq_sj s k i x) k' i' = hq_gi s k' i' := fun _ _ _ _ _ _ => rfl
    have jl : ∀ (s : hq_S) (k i k' L : Nat) (x : Int64) (j : Int32), hq_ld (hq_sj s k i x) k' L j = hq_ld s k' L j := fun _ _ _ _ _ _ _ => rfl
    rw [st]
    unfold f_X3_lawValue_L24_B
    simp only [r0, if_pos iT, g1, if_neg cc, vx0, Option.bind_some, sj0, n1, sj1, jr, r2, if_pos iN, jl, vx2, sj2, vx3, sj3, vx4, sj4, sj5, ji, e6, sj6]
theorem hh_law (hN : 100 < N) (hl : l < 23) (S : hh_S nc nl ng nt t u k nx fa sx sm) (W : hn_N nc ng nt k l sx sm) {r i c : Nat} (hr : r < 3) (hi : i < nt) (hc : c < nc) : ∃ v sx' sm1, f_X3_lawValue N (Int32.ofNat r) (Int32.ofNat i) (Int32.ofNat c) sx = some (v, sx') ∧ hx_e t sx sx' ∧ f_X12_calls N (Int32.ofNat l) (Int32.ofNat i) (Int32.ofNat c) sm = some sm1 ∧ hm_e sm sm1 ∧ ((f_X12_hasLaw N (Int32.ofNat r) sm1 = some (0, sm1) ∧ v = (-9223372036854775808 : Int64)) ∨ (f_X12_hasLaw N (Int32.ofNat r) sm1 = some (1, sm1) ∧ ∃ b sm2, f_X12_goes N (Int32.ofNat r) sm1 = some (b, sm2) ∧ hm_e sm sm2 ∧ ((b = 0 ∧ v = (-9223372036854775808 : Int64)) ∨ (b = 1 ∧ lb_ok v ∧ hq_gj sm2 195 0 = v)))) := by
  obtain ⟨nm, sm1, c1, c2, c3, sx1, x1, x2, x3⟩ := hh_names hN hl S W hi hc
  obtain ⟨T, ⟨dt, du, dk⟩, ⟨r0, r1, r2⟩, -⟩ := S
  have iT : hq_isT t := dt
  have hrule : hr_rule t r sx sm := by
    have := T.2.2.2.2.2.2.2.2.2.2.2
    rcases (show r = 0 ∨ r = 1 ∨ r = 2 by omega) with rfl | rfl | rfl
    · exact this.1
    · exact this.2.1
    · exact this.2.2
  obtain ⟨f, e, hfe, he, a1, a2, a3, a4, a5, hk, hD⟩ := hrule
  have lx : hq_ld sx (t + 9 + 3) 3 (Int32.ofNat r) = some (Int32.ofNat e) := by rw [nn_ld hr (by omega)]; exact congrArg some a3
  have lf : hq_ld sm1 190 6 (Int32.ofNat r) = some (Int32.ofNat f) := by rw [nn_ld (by omega) (by omega), c2 _ _ (by omega), a2]
  have le : hq_ld sm1 191 6 (Int32.ofNat r) = some (Int32.ofNat e) := by rw [nn_ld (by omega) (by omega), c2 _ _ (by omega), a4]
  by_cases q : f < e
  · obtain ⟨D, d0, d1, dd⟩ := hD q
    have q1 : (0 : Int32) < Int32.ofNat e := by rw [nb_0, nn_lt (by omega) (by omega)]; omega
    have q2 : Int32.ofNat f < Int32.ofNat e := (nn_lt (by omega) (by omega)).mpr q
    have lf1 : hq_ld sx1 (t + 9 + 2) 3 (Int32.ofNat r) = some (Int32.ofNat f) := by rw [nn_ld hr (by omega), x1.1]; exact congrArg some a1
    have lf2 : hq_ld (hq_si sm1 174 36 0) 190 6 (Int32.ofNat r) = some (Int32.ofNat f) := by rw [nn_ld (by omega) (by omega), nn_gk (by omega), c2 _ _ (by omega), a2]
    have I : hg_I t (D f) nm sx sm sx1 (hq_si sm1 174 36 0) := by
      rw [d0]
      exact ⟨x1, hm_e_tr c2 (fun k i h => by rw [nb_ii, if_neg h]), nn_g1, fun j hj => ⟨x2 j hj, (c3 j hj).1⟩, fun j hj => absurd hj (by omega)⟩
    obtain ⟨v, sx', sm', b, e1, e2, e3, e4, e5⟩ := hg_loop (N := N) (r := r) (D := D) hr dt he hfe a3 a4 hk d0 d1 dd (fun j hj => (c3 j hj).2) (e - f) f N N sx1 (hq_si sm1 174 36 0) (by omega) (by omega) (by omega) (by omega) (by omega) I
    rw [d0] at e1
    refine ⟨v, sx', sm1, ?_, e3, c1, c2, Or.inr ⟨?_, b, sm', ?_, e4, e5⟩⟩
    · unfold f_X3_lawValue f_X4_isTold
      rw [if_pos (by rw [r0]; exact iT), r0, lx]
      simp only [Option.bind_some, if_pos q1, if_neg (show ¬ (1 : Int32) = 0 by decide)]
      rw [x3]
      unfold f_X4_valueOf
      rw [lf1]
      simp only [Option.bind_some]
      rw [nb_0, e1]
      rfl
    · unfold f_X12_hasLaw
      rw [le, lf]
      simp only [Option.bind_some, if_pos q2]
    · unfold f_X12_goes
      rw [nn_pi, Option.bind_some, lf2, Option.bind_some]
      exact e2
  · have e0 : e = 0 := a5 (by omega)
    have q1 : ¬ (0 : Int32) < Int32.ofNat e := by rw [nb_0, nn_lt (by omega) (by omega)]; omega
    have q2 : ¬ Int32.ofNat f < Int32.ofNat e := by rw [nn_lt (by omega) (by omega)]; exact q
    refine ⟨_, sx, sm1, ?_, hx_e_rf t sx, c1, c2, Or.inl ⟨?_, rfl⟩⟩
    · unfold f_X3_lawValue f_X4_isTold
      rw [if_pos (by rw [r0]; exact iT), r0, lx]
      simp only [Option.bind_some, if_neg q1, if_true]
    · unfold f_X12_hasLaw
      rw [le, lf]
      simp only [Option.bind_some, if_neg q2]
end
