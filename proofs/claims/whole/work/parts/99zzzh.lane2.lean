/-! THE READER: the lane's line -/
section
variable {N L p pl q a b : Nat} {t : Nat → Nat} {sx sm : hq_S}
theorem lm_1 {nl T : Nat} (e6 : hq_gi sm 174 26 = 0) (e7 : hq_gi sm 174 27 = 1) (f0 : hq_gi sm 174 28 = 0) (hc : nl ≤ 20) (c : hq_gi sm 176 8 = Int32.ofNat nl) (eT : hq_gi sm 174 21 = Int32.ofNat T) : f_X12_line N sm = if nl = 20 then some (hq_si (hq_si sm 174 28 2) 174 29 (hq_gi sm 174 25)) else (f_X12_token N (hq_si sm 174 21 (Int32.ofNat (T ||| 2 ^ 1)))).bind fun s16 => (f_X12_laneLine N (Int32.ofNat 0) s16).bind fun s38 => f_X12_line_J404 N (Int32.ofNat 1) s38 := by
  unfold f_X12_line f_X12_isFull
  rw [e6, if_pos rfl, e7, if_neg (by decide), if_neg (by decide), if_pos rfl, fresher_v (a := 1) (j := 1) rfl (by omega), c]
  simp only [ob]
  have e10 : (Int32.ofNat nl = 20) = (nl = 20) := nb_eq (b := 20) (by omega) (by omega)
  by_cases q : nl = 20
  · rw [ie e10, if_pos q, if_pos q]
    simp only [ob]
    rw [if_neg (by decide), fail_m f0]
    simp only [ob]
    rw [if_neg (fail_n (f := 2) (by decide))]
  · rw [ie e10, if_neg q, if_neg q]
    simp only [ob]
    rw [if_pos trivial, if_neg (by decide), if_neg (by decide)]
    simp only [ob]
    rw [if_pos f0, eT, nn_pi]
    simp only [ob]
    rw [show (1 : Int32) <<< ((1 : Int32) &&& 31) = Int32.ofNat (2 ^ 1) from nb_one (i := 1) (by omega), nb_or]
    refine congrArg (Option.bind _) (funext fun s16 => ?_)
    rw [if_neg (by decide), if_pos trivial, if_neg (by decide)]
    simp only [ob]
    rfl
theorem lm_2 {nl T : Nat} (e6 : hq_gi sm 174 26 = 0) (e7 : hq_gi sm 174 27 = 2) (f0 : hq_gi sm 174 28 = 0) (hc : nl ≤ 20) (c : hq_gi sm 176 8 = Int32.ofNat nl) (eT : hq_gi sm 174 21 = Int32.ofNat T) : f_X12_line N sm = if nl = 20 then some (hq_si (hq_si sm 174 28 2) 174 29 (hq_gi sm 174 25)) else (f_X12_token N (hq_si sm 174 21 (Int32.ofNat (T ||| 2 ^ 2)))).bind fun s16 => (f_X12_laneLine N (Int32.ofNat 1) s16).bind fun s38 => f_X12_line_J404 N (Int32.ofNat 2) s38 := by
  unfold f_X12_line f_X12_isFull
  rw [e6, if_pos rfl, e7, if_neg (by decide), if_neg (by decide), if_neg (by decide), if_pos rfl, fresher_v (a := 1) (j := 1) rfl (by omega), c]
  simp only [ob]
  have e10 : (Int32.ofNat nl = 20) = (nl = 20) := nb_eq (b := 20) (by omega) (by omega)
  by_cases q : nl = 20
  · rw [ie e10, if_pos q, if_pos q]
    simp only [ob]
    rw [if_neg (by decide), fail_m f0]
    simp only [ob]
    rw [if_neg (fail_n (f := 2) (by decide))]
  · rw [ie e10, if_neg q, if_neg q]
    simp only [ob]
    rw [if_pos trivial, if_neg (by decide), if_neg (by decide)]
    simp only [ob]
    rw [if_pos f0, eT, nn_pi]
    simp only [ob]
    rw [show (1 : Int32) <<< ((2 : Int32) &&& 31) = Int32.ofNat (2 ^ 2) from nb_one (i := 2) (by omega), nb_or]
    refine congrArg (Option.bind _) (funext fun s16 => ?_)
    rw [if_neg (by decide), if_neg (by decide), if_pos trivial, if_pos trivial]
    simp only [ob]
    rfl
theorem lm_L {w one nl T : Nat} (hw : w = 1 ∧ one = 0 ∨ w = 2 ∧ one = 1) (e6 : hq_gi sm 174 26 = 0) (e7 : hq_gi sm 174 27 = Int32.ofNat w) (f0 : hq_gi sm 174 28 = 0) (hc : nl ≤ 20) (c : hq_gi sm 176 8 = Int32.ofNat nl) (eT : hq_gi sm 174 21 = Int32.ofNat T) : f_X12_line N sm = if nl = 20 then some (hq_si (hq_si sm 174 28 2) 174 29 (hq_gi sm 174 25)) else (f_X12_token N (hq_si sm 174 21 (Int32.ofNat (T ||| 2 ^ w)))).bind fun s16 => (f_X12_laneLine N (Int32.ofNat one) s16).bind fun s38 => f_X12_line_J404 N (Int32.ofNat w) s38 := by
  rcases hw with ⟨rfl, rfl⟩ | ⟨rfl, rfl⟩
  · exact lm_1 e6 e7 f0 hc c eT
  · exact lm_2 e6 e7 f0 hc c eT
theorem rl_L {w one : Nat} (hw : w = 1 ∧ one = 0 ∨ w = 2 ∧ one = 1) (x4 : hq_gi sx 49 4 = 3) (x5 : hq_gi sx 49 5 = Int32.ofNat w) : f_X6_readLine N sx = (f_X6_readLane N sx).bind (fun y3 => if mm_rfit (mm_ret mc_X6_readLine) y3.1 = true then some (y3.1, y3.2) else none) ∧ (if hq_gi sx 49 5 = (2 : Int32) then some (1 : Int32) else some (0 : Int32)) = some (Int32.ofNat one) := by
  unfold f_X6_readLine
  rcases hw with ⟨rfl, rfl⟩ | ⟨rfl, rfl⟩
  · rw [x4, if_pos rfl, show hq_gi sx 49 5 = 1 from x5, if_neg (by decide), if_pos rfl]
    exact ⟨rfl, rfl⟩
  · rw [x4, if_pos rfl, show hq_gi sx 49 5 = 2 from x5, if_neg (by decide), if_neg (by decide), if_pos rfl]
    exact ⟨rfl, rfl⟩
theorem lw_bits {W nl one : Nat} (hnl : nl < 20) (h1 : one = 0 ∨ one = 1) (hW : W < 2 ^ nl) : (W ||| one * 2 ^ nl) < 2 ^ (nl + 1) ∧ (∀ i, i < nl → (Int32.ofNat (W ||| one * 2 ^ nl) >>> Int32.ofNat i) &&& 1 = (Int32.ofNat W >>> Int32.ofNat i) &&& 1) ∧ (Int32.ofNat (W ||| one * 2 ^ nl) >>> Int32.ofNat nl) &&& 1 = Int32.ofNat one := by
  have p1 : 2 ^ (nl + 1) = 2 * 2 ^ nl := by rw [Nat.pow_succ, Nat.mul_comm]
  have p2 : 2 ^ (nl + 1) ≤ 2 ^ 20 := Nat.pow_le_pow_right (by omega) (by omega)
  have p3 : (2 : Nat) ^ 20 = 1048576 := by decide
  have hb : (W ||| one * 2 ^ nl) < 2 ^ (nl + 1) := by
    refine nb_lt_or (by omega) ?_
    rcases h1 with rfl | rfl <;> omega
  have tn : W.testBit nl = false := by
    cases e : W.testBit nl with
    | false => rfl
    | true => exact absurd (nb_tlt hW e) (by omega)
  have tb : ∀ i, (one * 2 ^ nl).testBit i = (decide (one = 1) && decide (nl = i)) := by
    intro i
    rcases h1 with rfl | rfl
    · rw [Nat.zero_mul, Nat.zero_testBit]; rfl
    · rw [Nat.one_mul, nb_2p]; rfl
  refine ⟨hb, fun i hi => ?_, ?_⟩
  · rw [← nn_m31 (show i < 20 by omega), nb_bit (by omega) (by omega), nb_bit (by omega) (by omega), Nat.testBit_or, tb, decide_eq_false (show ¬ nl = i by omega), Bool.and_false, Bool.or_false]
  · rw [← nn_m31 hnl, nb_bit (by omega) (by omega), Nat.testBit_or, tb, tn, decide_eq_true (show nl = nl from rfl), Bool.and_true, Bool.false_or]
    rcases h1 with rfl | rfl <;> rfl
theorem ln_L (hN : 1000 < N) {w one v nc nl ng nt kn T ln : Nat} (hw : w = 1 ∧ one = 0 ∨ w = 2 ∧ one = 1) (h : rdl t L v nc nl ng nt kn T ln p pl 3 w w sx sm) : lo N t L v ln pl sx sm := by
  obtain ⟨R, ⟨gv, hv⟩, To, I, ⟨fx, fm⟩, lx, lm⟩ := id h
  obtain ⟨⟨I1, I2, I3, I4⟩, -, -, ⟨W, W1, W2⟩, I13⟩ := id I
  obtain ⟨x4, x5, m6, m7⟩ := lx_w R
  have hT : hq_isT v := hv
  have b1 := To.1
  have h1 : one = 0 ∨ one = 1 := by omega
  have hw8 : w < 6 := by omega
  have ccx : hq_gi sx v 0 = Int32.ofNat nc := To.2.1.1
  have ccm : hq_gi sm 176 7 = Int32.ofNat nc := To.2.1.2.1
  have cx : hq_gi sx v 3 = Int32.ofNat nl := To.2.1.2.2.1
  have cm : hq_gi sm 176 8 = Int32.ofNat nl := To.2.1.2.2.2.1
  have hec : ∀ i, i < nc → hq_gi sx (v + 1) i = hq_gi sm 177 (10 + i) := fun i hi => (To.2.2.1 i hi).1
  have hla := To.2.2.2.2.1
  obtain ⟨rl, z1⟩ := rl_L (N := N) hw x4 x5
  unfold lo
  rw [rl, lm_L hw m6 m7 fm b1.2.1 cm I2]
  unfold f_X6_readLane
  rw [z1]
  simp only [ob]
  rw [gv, if_pos hT, cx, show (20 : Int32) = Int32.ofNat 20 from rfl, pass_v (by omega) (by omega)]
  by_cases full : nl = 20
  · rw [if_pos full, if_neg (by omega)]
    simp only [ob]
    rw [if_pos trivial]
    simp only [ob]
    rw [lrf0, if_pos rfl]
    exact Or.inr ⟨_, _, rfl, rfl, fail_b R (f := 2) (by omega) (by omega)⟩
  have hnl : nl < 20 := by omega
  rw [if_neg full, if_pos hnl]
  have R0 : tk_R t L p pl 3 w w sx (hq_si sm 174 21 (Int32.ofNat (T ||| 2 ^ w))) := tk_R_M R (fun i _ _ => nn_n (by omega)) (fun i => nn_n (by omega))
  obtain ⟨p1, pl1, q1, a1, b1', sx1, sm1, r1, r2, R1, r4, k1, k1'⟩ := tk_nx hN R0
  rw [r1, r2]
  simp only [ob]
  rw [if_neg (by decide)]
  unfold f_X12_laneLine
  have cm1 : hq_gi sm1 176 8 = Int32.ofNat nl := by rw [kz_ne k1' (by omega), nn_n (by omega)]; exact cm
  have f1 : hq_gi sm1 174 28 = 0 := by rw [kz_no k1' (by decide), nn_n (by omega)]; exact fm
  have gv1 : hq_gr sx1 48 1 = v := by rw [kz_gr k1]; exact gv
  rw [fresher_v (a := 1) (j := 1) rfl (by omega), cm1]
  simp only [ob]
  rw [show (20 : Int32) + Int32.ofNat nl = Int32.ofNat (20 + nl) from nb_add 20 nl]
  rcases rd_corner hN hv gv1 R1 f1 (nc := nc) b1.1 (by rw [kz_ne k1 (by omega)]; exact ccx) (by rw [kz_ne k1' (by omega), nn_n (by omega)]; exact ccm) (fun i hi => by rw [kz_ne k1 (by omega), kz_ne k1' (by omega), nn_n (by omega)]; exact hec i hi) with ⟨co, p2, pl2, q2, a2, b2, sx2, sm2, hco, g1, g2, R2, g3, k2, k2'⟩ | ⟨sx2, sm2, g1, g2, B⟩
  · rw [g1, g2]
    simp only [ob]
    have gv2 : hq_gr sx2 48 1 = v := by rw [kz_gr k2]; exact gv1
    have cx2 : hq_gi sx2 v 0 = Int32.ofNat nc := by rw [kz_ne k2 (by omega), kz_ne k1 (by omega)]; exact ccx
    have nx2 : hq_gi sx2 v 3 = Int32.ofNat nl := by rw [kz_ne k2 (by omega), kz_ne k1 (by omega)]; exact cx
    rw [if_neg (nn_nm1 (by omega)), gv2, if_pos hT, if_pos hT, cx2, nn_st (by omega) (by omega)]
    simp only [ob]
    have R2' : tk_R t L p2 pl2 q2 a2 b2 sx2 (hq_si sm2 180 (20 + nl) (Int32.ofNat co)) := tk_R_M R2 (fun i _ _ => nn_n (by omega)) (fun i => nn_n (by omega))
    have f2 : hq_gi (hq_si sm2 180 (20 + nl) (Int32.ofNat co)) 174 28 = 0 := by rw [nn_n (by omega), kz_no k2' (by decide)]; exact f1
    rcases rd_corner0 hN hv R2' f2 (nc := nc) b1.1 (by rw [nn_n (by omega), kz_ne k2' (by omega), kz_ne k1' (by omega), nn_n (by omega)]; exact ccm) (fun i hi => by rw [kz_ne k2 (by omega), kz_ne k1 (by omega), nn_n (by omega), kz_ne k2' (by omega), kz_ne k1' (by omega), nn_n (by omega)]; exact hec i hi) with ⟨d, hd, g4, g5⟩ | ⟨sx3, sm3, g4, g5, B⟩
    · rw [g4, g5]
      simp only [ob]
      rw [if_neg (nn_nm1 (by omega)), gv2, if_pos hT, nn_st (by omega) (by omega)]
      simp only [ob]
      rw [nn_st (by omega) (by omega)]
      simp only [ob]
      generalize es3 : hq_si (hq_si (hq_si sm2 180 (20 + nl) (Int32.ofNat co)) 181 (20 + nl) (Int32.ofNat d)) 182 (20 + nl) (Int32.ofNat one) = sm3
      have um3 : ∀ k i, ¬ (k = 180 ∧ i = 20 + nl) → ¬ (k = 181 ∧ i = 20 + nl) → ¬ (k = 182 ∧ i = 20 + nl) → hq_gi sm3 k i = hq_gi sm2 k i := fun k i n1 n2 n3 => by rw [← es3, nn_n n3, nn_n n2, nn_n n1]
      have s0 : hq_gi sm3 180 (20 + nl) = Int32.ofNat co := by rw [← es3, nn_n (by omega), nn_n (by omega), nn_g1]
      have s1 : hq_gi sm3 181 (20 + nl) = Int32.ofNat d := by rw [← es3, nn_n (by omega), nn_g1]
      have s2 : hq_gi sm3 182 (20 + nl) = Int32.ofNat one := by rw [← es3, nn_g1]
      have f3 : hq_gi sm3 174 28 = 0 := by rw [um3 _ _ (by omega) (by omega) (by omega), kz_no k2' (by decide)]; exact f1
      have m3 : ∀ k i, 176 ≤ k → k ≤ 193 → ¬ (k = 180 ∧ i = 20 + nl) → ¬ (k = 181 ∧ i = 20 + nl) → ¬ (k = 182 ∧ i = 20 + nl) → hq_gi sm3 k i = hq_gi sm k i := fun k i h1 h2 n1 n2 n3 => by rw [um3 k i n1 n2 n3, kz_ne k2' (by omega), kz_ne k1' (by omega), nn_n (by omega)]
      have R3 : tk_R t L p2 pl2 q2 a2 b2 sx2 sm3 := tk_R_M R2 (fun i _ _ => um3 _ _ (by omega) (by omega) (by omega)) (fun i => um3 _ _ (by omega) (by omega) (by omega))
      have x2 : ∀ k i, v ≤ k → k ≤ v + 22 → hq_gi sx2 k i = hq_gi sx k i := fun k i h1 h2 => by rw [kz_ne k2 (by omega), kz_ne k1 (by omega)]
      have hF : ∀ i, i < nl → hq_gi sx2 (v + 3) i = hq_gi sm3 180 (20 + i) := fun i hi => by
        obtain ⟨⟨c, -, e1, e2⟩, -⟩ := hla i hi
        rw [x2 _ _ (by omega) (by omega), m3 _ _ (by omega) (by omega) (by omega) (by omega) (by omega), e1]
        exact e2.symm
      have hG : ∀ i, i < nl → hq_gi sx2 (v + 4) i = hq_gi sm3 181 (20 + i) := fun i hi => by
        obtain ⟨-, ⟨c, -, e1, e2⟩, -⟩ := hla i hi
        rw [x2 _ _ (by omega) (by omega), m3 _ _ (by omega) (by omega) (by omega) (by omega) (by omega), e1]
        exact e2.symm
      have hO : ∀ i, i < nl → (hq_gi sx2 v 6 >>> Int32.ofNat i) &&& 1 = hq_gi sm3 182 (20 + i) ∧ (hq_gi sm3 182 (20 + i) = 0 ∨ hq_gi sm3 182 (20 + i) = 1) := fun i hi => by
        obtain ⟨-, -, -, e1, e2⟩ := hla i hi
        rw [x2 _ _ (by omega) (by omega), m3 _ _ (by omega) (by omega) (by omega) (by omega) (by omega)]
        exact ⟨e1, e2⟩
      have hne : ∀ i, i < nl → ¬ hq_gi sm3 180 (20 + i) = hq_gi sm3 181 (20 + i) := fun i hi => by
        obtain ⟨-, -, e1, -⟩ := hla i hi
        rw [m3 _ _ (by omega) (by omega) (by omega) (by omega) (by omega), m3 _ _ (by omega) (by omega) (by omega) (by omega) (by omega)]
        exact e1
      unfold f_X10_hasLane
      rw [if_pos f3, nn_ld (by omega) (by omega), nn_ld (by omega) (by omega), s0, s1]
      simp only [ob]
      rw [ie (nb_eq (show co < 2147483648 by omega) (show d < 2147483648 by omega))]
      obtain ⟨yB, yC⟩ := ly_B (N := N) (a := Int32.ofNat one) hnl nl 0 N sm3 (by omega) (by omega) f3 s0 s1
      rcases lx_has (N := N) (a := Int32.ofNat one) (f := Int32.ofNat co) (g := Int32.ofNat d) (v := v) (nl := nl) (by omega) nx2 hF hG hO nl 0 N (by omega) (by omega) with ⟨l1, l2⟩ | ⟨l1, l2⟩
      · have ncd : ¬ co = d := fun e => by
          obtain ⟨i, -, i2, -, i3⟩ := l2
          rw [e] at i3
          refine hne i i2 ?_
          rcases i3 with ⟨e1, e2⟩ | ⟨-, e1, e2⟩
          · exact e1.trans e2.symm
          · exact e1.trans e2.symm
        rw [show f_X10_hasLane_L3 N N v (Int32.ofNat co) (Int32.ofNat d) (Int32.ofNat one) 0 sx2 = some (1, sx2) from l1, if_neg ncd]
        simp only [ob]
        rw [if_neg (by decide), fail_x, show (20 : Int32) = Int32.ofNat (20 + 0) from rfl, yC l2]
        simp only [ob]
        rw [if_pos (show mm_rfit (mm_ret mc_X6_readLane) 0 = true from rfl)]
        simp only [ob]
        have B' := bad_k (sx' := hq_si (hq_si sx2 48 7 3) 48 8 (hq_gi sx2 49 6)) (sm' := hq_si (hq_si (hq_si sm3 174 28 3) 174 29 (hq_gi sm3 174 25)) 176 8 (hq_gi (hq_si (hq_si sm3 174 28 3) 174 29 (hq_gi sm3 174 25)) 176 8 + 1)) (fail_b R3 (f := 3) (by omega) (by omega)) rfl rfl (nn_n (by omega)) (nn_n (by omega))
        rw [lrf0, if_pos rfl, J404_f (bad_n B')]
        exact Or.inr ⟨_, _, rfl, rfl, B'⟩
      · rw [show f_X10_hasLane_L3 N N v (Int32.ofNat co) (Int32.ofNat d) (Int32.ofNat one) 0 sx2 = some (0, sx2) from l1]
        simp only [ob]
        rw [if_pos trivial, ie (nb_eq (show co < 2147483648 by omega) (show d < 2147483648 by omega))]
        by_cases cd : co = d
        · rw [if_pos cd, if_pos cd, fail_x, fail_m f3]
          simp only [ob]
          rw [show (20 : Int32) = Int32.ofNat (20 + 0) from rfl, ly_A hnl nl 0 N _ (by omega) (by omega) (fail_n (by decide))]
          simp only [ob]
          rw [if_pos (show mm_rfit (mm_ret mc_X6_readLane) 0 = true from rfl)]
          simp only [ob]
          have B' := bad_k (sx' := hq_si (hq_si sx2 48 7 5) 48 8 (hq_gi sx2 49 6)) (sm' := hq_si (hq_si (hq_si sm3 174 28 5) 174 29 (hq_gi sm3 174 25)) 176 8 (hq_gi (hq_si (hq_si sm3 174 28 5) 174 29 (hq_gi sm3 174 25)) 176 8 + 1)) (fail_b R3 (f := 5) (by omega) (by omega)) rfl rfl (nn_n (by omega)) (nn_n (by omega))
          rw [lrf0, if_pos rfl, J404_f (bad_n B')]
          exact Or.inr ⟨_, _, rfl, rfl, B'⟩
        · rw [if_neg cd, if_neg cd]
          simp only [ob]
          rw [show (20 : Int32) = Int32.ofNat (20 + 0) from rfl, yB l2]
          obtain ⟨p4, pl4, q4, a4, b4, sx4, sm4, t1, t2, R4, t4, k4, k4'⟩ := tk_nx hN R3
          unfold ly_end
          rw [t1, goOn_v f3 t2]
          simp only [ob]
          have gv4 : hq_gr sx4 48 1 = v := by rw [kz_gr k4]; exact gv2
          have cx4 : hq_gi sx4 v 3 = Int32.ofNat nl := by rw [kz_ne k4 (by omega)]; exact nx2
          have cm4 : hq_gi sm4 176 8 = Int32.ofNat nl := by rw [kz_ne k4' (by omega), um3 _ _ (by omega) (by omega) (by omega), kz_ne k2' (by omega)]; exact cm1
          have w4 : hq_gi sx4 v 6 = Int32.ofNat W := by rw [kz_ne k4 (by omega), x2 _ _ (by omega) (by omega)]; exact W2
          rw [gv4, if_pos hT, fresher_v (a := 1) (j := 1) rfl (by omega)]
          simp only [ob]
          rw [show hq_gi sm4 176 (7 + 1) = Int32.ofNat nl from cm4, nn_succ, reads_v (a := 1) (j := 1) rfl (by omega)]
          simp only [ob]
          have ad : f_X10_addLane N v (Int32.ofNat co) (Int32.ofNat d) (Int32.ofNat one) sx4 = some (1, hq_si (hq_si (hq_si (hq_si sx4 (v + 3) nl (Int32.ofNat co)) (v + 4) nl (Int32.ofNat d)) v 6 (Int32.ofNat (W ||| one * 2 ^ nl))) v 3 (Int32.ofNat (nl + 1))) := by
            have zo : (if Int32.ofNat one = 0 then some (0 : Int32) else some ((1 : Int32) <<< (Int32.ofNat nl &&& 31))) = some (Int32.ofNat (one * 2 ^ nl)) := by
              rw [nb_one (by omega)]
              rcases h1 with rfl | rfl
              · rw [Nat.zero_mul]; rfl
              · rw [Nat.one_mul]; rfl
            unfold f_X10_addLane
            rw [cx4, show (20 : Int32) = Int32.ofNat 20 from rfl, ie (nb_ltp (by omega) (by omega)), if_pos hnl, nn_st (by omega) (by omega)]
            simp only [ob]
            rw [nn_n (by omega), cx4, nn_st (by omega) (by omega)]
            simp only [ob]
            rw [nn_n (by omega), nn_n (by omega), cx4, zo]
            simp only [ob]
            rw [nn_pi, nn_n (by omega), nn_n (by omega), w4, nb_or]
            simp only [ob]
            rw [nn_pi, nn_n (by omega), nn_n (by omega), nn_n (by omega), cx4, nn_succ]
            rfl
          rw [ad]
          simp only [ob]
          rw [if_pos (show mm_rfit (mm_ret mc_X6_readLane) 1 = true from rfl)]
          simp only [ob]
          rw [lrf1, if_pos rfl]
          refine Or.inl ⟨_, _, _, pl4, rfl, rfl, ⟨nc, nl + 1, ng, nt, kn, T ||| 2 ^ w, p4, q4, a4, b4, ?_⟩, ?_⟩
          · obtain ⟨bb1, bb2, bb3⟩ := bits_or (w := w) I1 (by omega)
            obtain ⟨wb1, wb2, wb3⟩ := lw_bits hnl h1 W1
            have xs : ∀ k i, ¬ (k = v ∧ i = 3) → ¬ (k = v ∧ i = 6) → ¬ (k = v + 3 ∧ i = nl) → ¬ (k = v + 4 ∧ i = nl) → hq_gi (hq_si (hq_si (hq_si (hq_si sx4 (v + 3) nl (Int32.ofNat co)) (v + 4) nl (Int32.ofNat d)) v 6 (Int32.ofNat (W ||| one * 2 ^ nl))) v 3 (Int32.ofNat (nl + 1))) k i = hq_gi sx4 k i := fun k i n1 n2 n3 n4 => by rw [nn_n n1, nn_n n2, nn_n n4, nn_n n3]
            have xk : ∀ k i, v ≤ k → k ≤ v + 22 → ¬ (k = v ∧ i = 3) → ¬ (k = v ∧ i = 6) → ¬ (k = v + 3 ∧ i = nl) → ¬ (k = v + 4 ∧ i = nl) → hq_gi (hq_si (hq_si (hq_si (hq_si sx4 (v + 3) nl (Int32.ofNat co)) (v + 4) nl (Int32.ofNat d)) v 6 (Int32.ofNat (W ||| one * 2 ^ nl))) v 3 (Int32.ofNat (nl + 1))) k i = hq_gi sx k i := fun k i h1 h2 n1 n2 n3 n4 => by rw [xs k i n1 n2 n3 n4, kz_ne k4 (by omega), x2 k i h1 h2]
            have x4 : ∀ k i, (k = 48 ∨ k = 49 ∨ k = 50 ∨ k = 1) → hq_gi (hq_si (hq_si (hq_si (hq_si sx4 (v + 3) nl (Int32.ofNat co)) (v + 4) nl (Int32.ofNat d)) v 6 (Int32.ofNat (W ||| one * 2 ^ nl))) v 3 (Int32.ofNat (nl + 1))) k i = hq_gi sx4 k i := fun k i hk => xs k i (by omega) (by omega) (by omega) (by omega)
            have xm : ∀ k i, ¬ (k = 176 ∧ i = 8) → hq_gi (hq_si sm4 176 (7 + 1) (Int32.ofNat (nl + 1))) k i = hq_gi sm4 k i := fun k i n1 => nn_n n1
            have m4 : ∀ k i, 176 ≤ k → k ≤ 193 → hq_gi sm4 k i = hq_gi sm3 k i := fun k i h1 h2 => kz_ne k4' (by omega)
            have u7 : ∀ i, ¬ i = 21 → ¬ i ∈ FM → hq_gi sm4 174 i = hq_gi sm 174 i := fun i n1 n2 => by rw [kz_no k4' n2, um3 _ _ (by omega) (by omega) (by omega), kz_no k2' n2, kz_no k1' n2, nn_n (by omega)]
            have e21 : hq_gi sm4 174 21 = Int32.ofNat (T ||| 2 ^ w) := by rw [kz_no k4' (by decide), um3 _ _ (by omega) (by omega) (by omega), kz_no k2' (by decide), kz_no k1' (by decide), nn_g1]
            have g6 : hq_gi (hq_si (hq_si (hq_si (hq_si sx4 (v + 3) nl (Int32.ofNat co)) (v + 4) nl (Int32.ofNat d)) v 6 (Int32.ofNat (W ||| one * 2 ^ nl))) v 3 (Int32.ofNat (nl + 1))) v 6 = Int32.ofNat (W ||| one * 2 ^ nl) := by rw [nn_n (by omega), nn_g1]
            refine ⟨tk_R_X (tk_R_M R4 (fun i _ _ => xm _ _ (by omega)) (fun i => xm _ _ (by omega))) (fun i _ _ => x4 _ _ (by omega)) (fun i => x4 _ _ (by omega)) (fun i => x4 _ _ (by omega)) rfl, ⟨gv4, hv⟩, ?_, ?_, ⟨?_, ?_⟩, ?_, ?_⟩
            · refine told_lane To hnl xk (fun k i => ?_) (fun k i h1 h2 n1 n2 n3 n4 => by rw [xm k i n1, m4 k i h1 h2, m3 k i h1 h2 n2 n3 n4]) nn_g1 nn_g1 ⟨co, hco, ?_, ?_⟩ ⟨d, hd, ?_, ?_⟩ ?_ ?_ ?_ ?_
              · show hq_gj sx4 k i = _
                rw [kz_gj k4, kz_gj k2, kz_gj k1]
              · rw [nn_n (by omega), nn_n (by omega), nn_n (by omega), nn_g1]
              · rw [xm _ _ (by omega), m4 _ _ (by omega) (by omega)]; exact s0
              · rw [nn_n (by omega), nn_n (by omega), nn_g1]
              · rw [xm _ _ (by omega), m4 _ _ (by omega) (by omega)]; exact s1
              · rw [xm _ _ (by omega), m4 _ _ (by omega) (by omega), xm _ _ (by omega), m4 _ _ (by omega) (by omega), s0, s1, nb_eq (by omega) (by omega)]; exact cd
              · intro i hi
                rw [g6, W2]; exact wb2 i hi
              · rw [g6, xm _ _ (by omega), m4 _ _ (by omega) (by omega), s2]; exact wb3
              · rw [xm _ _ (by omega), m4 _ _ (by omega) (by omega), s2]
                rcases h1 with rfl | rfl
                · exact Or.inl rfl
                · exact Or.inr rfl
            · exact rd_I_mk I bb1 (fun j hj => bb3 j (by omega)) (by rw [xm _ _ (by omega)]; exact e21) (by rw [xk _ _ (by omega) (by omega) (by omega) (by omega) (by omega) (by omega), I3, bb3 6 (by omega)]) (by rw [xk _ _ (by omega) (by omega) (by omega) (by omega) (by omega) (by omega), I4, bb3 7 (by omega)]) (fun i => xk _ _ (by omega) (by omega) (by omega) (by omega) (by omega) (by omega)) (fun i => xk _ _ (by omega) (by omega) (by omega) (by omega) (by omega) (by omega)) (by rw [xm _ _ (by omega), m4 _ _ (by omega) (by omega), m3 _ _ (by omega) (by omega) (by omega) (by omega) (by omega)]) (by rw [xm _ _ (by omega), u7 _ (by omega) (by decide)]) (by rw [xm _ _ (by omega), u7 _ (by omega) (by decide)]) ⟨_, wb1, g6⟩ (fun i i1 i2 => by rw [xk _ _ (by omega) (by omega) (by omega) (by omega) (by omega) (by omega)]; exact I13 i i1 i2)
            · rw [x4 _ _ (by omega), kz_ne k4 (by omega), kz_ne k2 (by omega), kz_ne k1 (by omega)]; exact fx
            · rw [xm _ _ (by omega), u7 _ (by omega) (by decide)]; exact fm
            · rw [x4 _ _ (by omega), kz_ne k4 (by omega), kz_ne k2 (by omega), kz_ne k1 (by omega)]; exact lx
            · rw [xm _ _ (by omega), u7 _ (by omega) (by decide)]; exact lm
          · have := R.2.2.1.2.2 (by omega)
            have := R1.2.2.1
            have := R2.2.2.1
            omega
    · rw [g4, g5]
      simp only [ob]
      rw [if_pos trivial, nn_st (by omega) (by omega)]
      simp only [ob]
      rw [nn_st (by omega) (by omega)]
      simp only [ob]
      have B1 := bad_k (sx' := sx3) (sm' := hq_si (hq_si sm3 181 (20 + nl) 0) 182 (20 + nl) (Int32.ofNat one)) B rfl rfl (by rw [nn_n (by omega), nn_n (by omega)]) (by rw [nn_n (by omega), nn_n (by omega)])
      rw [if_neg (bad_n B1)]
      simp only [ob]
      rw [show (20 : Int32) = Int32.ofNat (20 + 0) from rfl, ly_A hnl nl 0 N _ (by omega) (by omega) (bad_n B1)]
      simp only [ob]
      have B' := bad_k (sx' := sx3) (sm' := hq_si (hq_si (hq_si sm3 181 (20 + nl) 0) 182 (20 + nl) (Int32.ofNat one)) 176 8 (hq_gi (hq_si (hq_si sm3 181 (20 + nl) 0) 182 (20 + nl) (Int32.ofNat one)) 176 8 + 1)) B1 rfl rfl (nn_n (by omega)) (nn_n (by omega))
      rw [lrf0, if_pos rfl, J404_f (bad_n B')]
      exact Or.inr ⟨_, _, rfl, rfl, B'⟩
  · rw [g1, g2]
    simp only [ob]
    rw [if_pos trivial, nn_st (by omega) (by omega)]
    simp only [ob]
    have B0 := bad_k (sx' := sx2) (sm' := hq_si sm2 180 (20 + nl) 0) B rfl rfl (nn_n (by omega)) (nn_n (by omega))
    rw [if_pos trivial, cornerAtHand_f (bad_n B0)]
    simp only [ob]
    rw [nn_st (by omega) (by omega)]
    simp only [ob]
    rw [nn_st (by omega) (by omega)]
    simp only [ob]
    have B1 := bad_k (sx' := sx2) (sm' := hq_si (hq_si (hq_si sm2 180 (20 + nl) 0) 181 (20 + nl) 0) 182 (20 + nl) (Int32.ofNat one)) B0 rfl rfl (by rw [nn_n (by omega), nn_n (by omega)]) (by rw [nn_n (by omega), nn_n (by omega)])
    rw [if_neg (bad_n B1)]
    simp only [ob]
    rw [show (20 : Int32) = Int32.ofNat (20 + 0) from rfl, ly_A hnl nl 0 N _ (by omega) (by omega) (bad_n B1)]
    simp only [ob]
    have B' := bad_k (sx' := sx2) (sm' := hq_si (hq_si (hq_si (hq_si sm2 180 (20 + nl) 0) 181 (20 + nl) 0) 182 (20 + nl) (Int32.ofNat one)) 176 8 (hq_gi (hq_si (hq_si (hq_si sm2 180 (20 + nl) 0) 181 (20 + nl) 0) 182 (20 + nl) (Int32.ofNat one)) 176 8 + 1)) B1 rfl rfl (nn_n (by omega)) (nn_n (by omega))
    rw [lrf0, if_pos rfl, J404_f (bad_n B')]
    exact Or.inr ⟨_, _, rfl, rfl, B'⟩
end
