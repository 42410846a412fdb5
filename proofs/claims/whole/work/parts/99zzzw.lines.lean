/-! THE READER: any line, its ;, all lines -/
def wRX (v : Nat) : List (Nat × Option Nat) := (48, some 9) :: w_X6_readLine v
section
variable {N L p pl q a b : Nat} {t : Nat → Nat} {sx sm : hq_S}
theorem lo_any (hN : 1000 < N) {v nc nl ng nt kn T ln : Nat} (h : rdl t L v nc nl ng nt kn T ln p pl q a b sx sm) (hq : ¬ q = 0) : lo N t L v ln pl sx sm := by
  obtain ⟨R, ⟨gv, hv⟩, To, I, ⟨fx, fm⟩, lx, lm⟩ := id h
  have k3 : (hq_gi sx 49 4 = 3) = (q = 3) := tk_kx R 3 (by omega)
  have m0 : (hq_gi sm 174 26 = 0) = (q = 3) := tk_km R 3 (by omega)
  by_cases h3 : q = 3
  · obtain ⟨la, hb⟩ := R.2.2.2.2.2.2.1.2.2.1 h3
    by_cases c : a < 9
    · have hb : b = a := hb.trans ((tkc_r a la).2.2 (by omega))
      rw [h3, hb] at h
      rcases (show a = 0 ∨ a = 1 ∨ a = 2 ∨ a = 3 ∨ a = 4 ∨ a = 5 ∨ a = 6 ∨ a = 7 ∨ a = 8 by omega) with e | e | e | e | e | e | e | e | e
      · rw [e] at h; exact ln_0 hN h
      · rw [e] at h; exact ln_L hN (w := 1) (one := 0) (Or.inl ⟨rfl, rfl⟩) h
      · rw [e] at h; exact ln_L hN (w := 2) (one := 1) (Or.inr ⟨rfl, rfl⟩) h
      · rw [e] at h; exact ln_3 hN h
      · rw [e] at h; exact ln_4 hN h
      · rw [e] at h; exact ln_5 hN h
      · rw [e] at h; exact ln_6 hN h
      · rw [e] at h; exact ln_7 hN h
      · rw [e] at h; exact ln_8 hN h
    · obtain ⟨v1, v2⟩ := R.2.2.2.2.2.2.2 (by omega)
      have ne : ∀ k, k < 9 → ¬ Int32.ofNat a = Int32.ofNat k := fun k hk => by rw [nn_inj (by omega) (by omega)]; omega
      have n0 : ¬ Int32.ofNat a = 0 := ne 0 (by omega)
      have n1 : ¬ Int32.ofNat a = 1 := ne 1 (by omega)
      have n2 : ¬ Int32.ofNat a = 2 := ne 2 (by omega)
      have n3 : ¬ Int32.ofNat a = 3 := ne 3 (by omega)
      have n4 : ¬ Int32.ofNat a = 4 := ne 4 (by omega)
      have n5 : ¬ Int32.ofNat a = 5 := ne 5 (by omega)
      have n6 : ¬ Int32.ofNat a = 6 := ne 6 (by omega)
      have n7 : ¬ Int32.ofNat a = 7 := ne 7 (by omega)
      have n8 : ¬ Int32.ofNat a = 8 := ne 8 (by omega)
      have lb : b < 22 := hb ▸ (kk_ok a la).2
      have nb : ¬ b < 9 := fun w => c ((tkc_r a la).1.mp (hb ▸ w))
      have rl : f_X6_readLine N sx = some (0, hq_si (hq_si sx 48 7 1) 48 8 (hq_gi sx 49 6)) := by
        unfold f_X6_readLine
        rw [ie k3, if_pos h3, v1, if_neg n0, if_neg n1, if_neg n2, if_neg n3, if_neg n4, if_neg n5, if_neg n6, if_neg n7, if_neg n8, fail_x]
        simp only [ob]
        rw [if_pos lrf0]
      have rm : f_X12_line N sm = some (hq_si (hq_si sm 174 28 1) 174 29 (hq_gi sm 174 25)) := by
        unfold f_X12_line
        rw [ie m0, if_pos h3, v2, ie (show ((8 : Int32) < Int32.ofNat b) = (8 < b) from nb_ltp (a := 8) (by omega) (by omega)), if_pos (by omega)]
        unfold f_X12_line_J16
        rw [fail_m fm]
        rfl
      exact Or.inr ⟨_, _, rl, rm, fail_b R (f := 1) (by omega) (by omega)⟩
  · have rl : f_X6_readLine N sx = some (0, hq_si (hq_si sx 48 7 1) 48 8 (hq_gi sx 49 6)) := by
      unfold f_X6_readLine
      rw [ie k3, if_neg h3, fail_x]
      simp only [ob]
      rw [if_pos lrf0]
    have rm : f_X12_line N sm = some (hq_si (hq_si sm 174 28 1) 174 29 (hq_gi sm 174 25)) := by
      unfold f_X12_line
      rw [ie m0, if_neg h3]
      unfold f_X12_line_J16
      rw [fail_m fm]
      rfl
    exact Or.inr ⟨_, _, rl, rm, fail_b R (f := 1) (by omega) (by omega)⟩
theorem rdl_ln {v nc nl ng nt kn T ln : Nat} (h : rdl t L v nc nl ng nt kn T ln p pl q a b sx sm) : rdl t L v nc nl ng nt kn T (ln + 1) p pl q a b (hq_si sx 48 9 (Int32.ofNat (ln + 1))) (hq_si sm 174 22 (Int32.ofNat (ln + 1))) := by
  obtain ⟨R, ⟨gv, hv⟩, To, I, ⟨fx, fm⟩, lx, lm⟩ := h
  obtain ⟨⟨I1, I2, I3, I4⟩, -, -, ⟨W, W1, W2⟩, I13⟩ := id I
  refine ⟨tk_R_X (tk_R_M R (fun i _ _ => nn_n (by omega)) (fun i => nn_n (by omega))) (fun i _ _ => nn_n (by omega)) (fun i => nn_n (by omega)) (fun i => nn_n (by omega)) rfl, ⟨gv, hv⟩, told_same To (fun k1 i h1 h2 => nn_n (by omega)) (fun k1 i h1 h2 => rfl) (fun k1 i h1 h2 => nn_n (by omega)), ?_, ⟨(nn_n (by omega)).trans fx, (nn_n (by omega)).trans fm⟩, nn_g1, nn_g1⟩
  exact rd_I_mk I I1 (fun _ _ => rfl) ((nn_n (by omega)).trans I2) ((nn_n (by omega)).trans I3) ((nn_n (by omega)).trans I4) (fun i => nn_n (by omega)) (fun i => nn_n (by omega)) (nn_n (by omega)) (nn_n (by omega)) (nn_n (by omega)) ⟨W, W1, (nn_n (by omega)).trans W2⟩ (fun i i1 i2 => (nn_n (by omega)).trans (I13 i i1 i2))
theorem pS_v (R : tk_R t L p pl q a b sx sm) : f_X6_passSign N 59 sx = if q = 5 ∧ a = 59 then (f_X9_advance N sx).bind fun s3 => some ((1 : Int32), s3) else some (0, hq_si (hq_si sx 48 7 1) 48 8 (hq_gi sx 49 6)) := by
  have k5 : (hq_gi sx 49 4 = 5) = (q = 5) := tk_kx R 5 (by omega)
  unfold f_X6_passSign f_X9_isThisSign
  rw [ie k5]
  by_cases c : q = 5
  · obtain ⟨v1, v2⟩ := R.2.2.2.2.2.2.2 (by omega)
    have sv := (R.2.2.2.2.2.2.1.2.2.2.2 c).2
    have la : a < 1000 := by
      rcases sv with g | g
      · unfold sgm at g
        simp only [Bool.or_eq_true, Nat.beq_eq] at g
        omega
      · omega
    have e9 : (hq_gi sx 49 5 = 59) = (a = 59) := by rw [v1]; exact nb_eq (b := 59) (by omega) (by omega)
    rw [if_pos c, ie e9]
    by_cases c2 : a = 59
    · rw [if_pos c2, if_pos ⟨c, c2⟩]
      simp only [ob]
      rw [if_neg (by decide)]
    · rw [if_neg c2, if_neg (fun w => c2 w.2)]
      simp only [ob]
      rw [if_pos trivial, fail_x]
      simp only [ob]
      rw [if_pos (show mm_rfit (mm_ret mc_X6_passSign) 0 = true from rfl)]
  · rw [if_neg c, if_neg (fun w => c w.1)]
    simp only [ob]
    rw [if_pos trivial, fail_x]
    simp only [ob]
    rw [if_pos (show mm_rfit (mm_ret mc_X6_passSign) 0 = true from rfl)]
theorem J404_yes {w : Int32} {sm' : hq_S} (R : tk_R t L p pl q a b sx sm) (f0 : hq_gi sm 174 28 = 0) (h : q = 5 ∧ a = 59) (e : f_X12_token N sm = some sm') : f_X12_line_J404 N w sm = some (hq_si sm' 174 22 (hq_gi sm' 174 22 + 1)) := by
  unfold f_X12_line_J404
  rw [if_pos f0, show (59 : Int32) = Int32.ofNat 59 from rfl, tsm R f0 (by omega), if_pos h]
  simp only [ob]
  rw [if_neg (by decide), e]
  simp only [ob]
  rw [nn_pi]
  rfl
theorem L127_bad {m : Nat} {b1 b2 : Int32} {s : hq_S} (h : ¬ hq_gi s 174 28 = 0) (hm : 0 < m) : f_X12_text_L127 N m b1 b2 s = f_X12_text_J149 N b1 b2 s := by
  obtain ⟨m, rfl⟩ : ∃ k, m = k + 1 := ⟨m - 1, by omega⟩
  rw [f_X12_text_L127_s]
  unfold f_X12_text_L127_B
  rw [if_neg h]
/-- all lines: both read them, or both find the same fault -/
theorem rl_all (hN : 1000 < N) {v k1 k3 : Nat} {a2 b1 b2 : Int32} : ∀ (r m m' pl ln : Nat) (sx sm : hq_S), RD t L v ln pl sx sm → ln ≤ pl → L < pl + r → r < m → r < m' →
    ∃ sx' sm', f_X12_text_L127 N m' b1 b2 sm = f_X12_text_J149 N b1 b2 sm' ∧ (hq_fc (wRX v) sx sx' ∧ hq_fc w_X12_line sm sm' ∧ hg sm sm' ∧ ph 48 7 8 sx sx' ∧ ph 174 28 29 sm sm') ∧ ((f_X6_readText_L36 N m k1 a2 k3 sx = some (1, sx') ∧ ∃ ln' pl', RD t L v ln' pl' sx' sm') ∨ (f_X6_readText_L36 N m k1 a2 k3 sx = some (0, sx') ∧ bad sx' sm')) := by
  intro r
  induction r with
  | zero =>
    intro m m' pl ln sx sm h h1 h2 h3 h4
    obtain ⟨nc, nl, ng, nt, kn, T, p, q, a, b, h⟩ := h
    have := h.1.2.2.1
    omega
  | succ r ih =>
    intro m m' pl ln sx sm h h1 h2 h3 h4
    have hRD := h
    obtain ⟨nc, nl, ng, nt, kn, T, p, q, a, b, h⟩ := h
    obtain ⟨R, ⟨gv, hv⟩, To, I, ⟨fx, fm⟩, lx, lm⟩ := id h
    obtain ⟨m, rfl⟩ : ∃ k, m = k + 1 := ⟨m - 1, by omega⟩
    obtain ⟨m', rfl⟩ : ∃ k, m' = k + 1 := ⟨m' - 1, by omega⟩
    have k0 : (hq_gi sx 49 4 = 0) = (q = 0) := tk_kx R 0 (by omega)
    have m4 : (hq_gi sm 174 26 = 4) = (q = 0) := tk_km R 0 (by omega)
    have hpl := R.2.2.1
    have hL7 : L ≤ 700 := R.1.1
    by_cases hq : q = 0
    · refine ⟨sx, sm, ?_, ⟨hq_fc_rf _ _, hq_fc_rf _ _, hg_rf _, ph_rf _ _ _ _, ph_rf _ _ _ _⟩, Or.inl ⟨?_, ln, pl, hRD⟩⟩
      · rw [f_X12_text_L127_s]
        unfold f_X12_text_L127_B
        rw [if_pos fm, ie m4, if_pos hq]
      · rw [f_X6_readText_L36_s]
        unfold f_X6_readText_L36_B
        rw [ie k0, if_pos hq]
        split <;> rfl
    · have hp := hpl.2.2 hq
      have s0 : hq_sub (w_X6_readLine v) (wRX v) = true := by rcases hv with rfl | rfl <;> decide
      have s1 : hq_sub w_X6_passSign (wRX v) = true := by rcases hv with rfl | rfl <;> decide
      have s2 : hq_has (wRX v) (48, some 9) = true := by rcases hv with rfl | rfl <;> decide
      have eX : f_X6_readText_L36 N (m + 1) k1 a2 k3 sx = (f_X6_readLine N sx).bind fun y10 => if y10.1 = 0 then some ((0 : Int32), y10.2) else (f_X6_passSign N (59 : Int32) y10.2).bind fun y12 => if y12.1 = 0 then some ((0 : Int32), y12.2) else (hq_pi y12.2 48 9 0 ((hq_gi y12.2 48 9) + (1 : Int32))).bind fun s14 => f_X6_readText_L36 N m k1 a2 k3 s14 := by
        rw [f_X6_readText_L36_s]
        unfold f_X6_readText_L36_B
        rw [lx, ie (show (Int32.ofNat ln < 700) = (ln < 700) from nb_ltp (b := 700) (by omega) (by omega)), if_pos (show ln < 700 by omega), ie k0, if_neg hq]
      have eM : f_X12_text_L127 N (m' + 1) b1 b2 sm = (f_X12_line N sm).bind fun s44 => f_X12_text_L127 N m' b1 b2 s44 := by
        rw [f_X12_text_L127_s]
        unfold f_X12_text_L127_B
        rw [if_pos fm, ie m4, if_neg hq]
      rw [eX, eM]
      rcases lo_any hN h hq with ⟨w, sx1, sm1, pl1, e1, e2, hR1, hlt⟩ | ⟨sx1, sm1, e1, e2, B⟩
      · rw [e1]
        simp only [ob]
        rw [if_neg (by decide)]
        have fx1 := hq_fc_mono (W := wRX v) s0 (f_X6_readLine_fw hv gv e1)
        obtain ⟨nc1, nl1, ng1, nt1, kn1, T1, p1, q1, a1, b1', h1'⟩ := hR1
        obtain ⟨R1, ⟨gv1, hv1⟩, To1, I1, ⟨fxx1, fm1⟩, lx1, lm1⟩ := id h1'
        have hpl1 := R1.2.2.1
        rw [pS_v R1]
        by_cases c : q1 = 5 ∧ a1 = 59
        · rw [if_pos c]
          obtain ⟨p2, pl2, q2, a2', b2', sx2, sm2, r1, r2, R2, r4, k2, k2'⟩ := tk_nx hN R1
          have h2' := rdl_k h1' R2 k2 k2'
          have e3 := e2.trans (J404_yes (w := w) R1 fm1 c r2)
          rw [r1, e3]
          simp only [ob]
          rw [if_neg (by decide), nn_pi, h2'.2.2.2.2.2.1, nn_succ, h2'.2.2.2.2.2.2, nn_succ]
          simp only [ob]
          have h3' := rdl_ln h2'
          obtain ⟨sx9, sm9, z1, ⟨z2, z3, z4, z6, z7⟩, z5⟩ := ih m m' pl2 (ln + 1) _ _ ⟨nc1, nl1, ng1, nt1, kn1, T1, p2, q2, a2', b2', h3'⟩ (by omega) (by omega) (by omega) (by omega)
          rw [h2'.2.2.2.2.2.2, nn_succ] at e3
          have ps : f_X6_passSign N 59 sx1 = some (1, sx2) := by rw [pS_v R1, if_pos c, r1]; rfl
          refine ⟨sx9, sm9, z1, ⟨hq_fc_tr (hq_fc_tr fx1 ?_) z2, hq_fc_tr (f_X12_line_fw e3) z3, hg_tr (hg_line e3) z4, ph_tr (ph_tr (f_X6_readLine_ph hv gv e1) (ph_tr (t := sx2) (f_X6_passSign_ph ps) (ph_pi (d := 0) nn_pi (by decide)))) z6, ph_tr (f_X12_line_ph e3) z7⟩, z5⟩
          refine hq_fc_tr (t := sx2) ?_ (hq_fc_pi (c := 0) nn_pi s2)
          exact hq_fc_mono (W := wRX v) s1 (f_X6_passSign_fw ps)
        · rw [if_neg c]
          simp only [ob]
          rw [if_pos trivial]
          obtain ⟨sm2, z1, z2, z3⟩ := J404_no (N := N) (w := w) R1 fm1 c
          have e3 := e2.trans z1
          rw [e3]
          simp only [ob]
          have ps : f_X6_passSign N 59 sx1 = some (0, hq_si (hq_si sx1 48 7 1) 48 8 (hq_gi sx1 49 6)) := by rw [pS_v R1, if_neg c]
          refine ⟨_, sm2, L127_bad (by rw [z2]; decide) (by omega), ⟨hq_fc_tr fx1 (hq_fc_mono (W := wRX v) s1 (f_X6_passSign_fw ps)), f_X12_line_fw e3, hg_line e3, ph_tr (f_X6_readLine_ph hv gv e1) (f_X6_passSign_ph ps), f_X12_line_ph e3⟩, Or.inr ⟨rfl, 1, by omega, by omega, ?_, z2, ?_⟩⟩
          · rw [nn_n (by omega), nn_g1]; rfl
          · rw [nn_g1, z3, R1.2.2.2.2.1.1, R1.2.2.2.2.1.2]
      · rw [e1, e2]
        simp only [ob]
        rw [if_pos trivial]
        exact ⟨sx1, sm1, L127_bad (bad_n B) (by omega), ⟨hq_fc_mono (W := wRX v) s0 (f_X6_readLine_fw hv gv e1), f_X12_line_fw e2, hg_line e2, f_X6_readLine_ph hv gv e1, f_X12_line_ph e2⟩, Or.inr ⟨rfl, B⟩⟩
end
