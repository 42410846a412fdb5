/-! THE READER: grip and seed -/
theorem nn_pi1 {s : hq_S} {k b : Nat} : hq_pi s k b 1 1 = some (hq_si s k b 1) := rfl
theorem nn_pjv {s : hq_S} {k b : Nat} {x : Int64} : hq_pj s k b x = some (hq_sj s k b x) := rfl
section
variable {N L p pl q a b : Nat} {t : Nat → Nat} {sx sm sx' sm' : hq_S}
theorem rd_I_mk {v nl ng kn T nl' ng' T' : Nat} (h : rd_I v nl ng kn T sx sm) (b1 : T' < 1048576) (b3 : ∀ j, 16 ≤ j → T'.testBit j = T.testBit j) (e21 : hq_gi sm' 174 21 = Int32.ofNat T') (e14 : hq_gi sx' v 14 = (if T'.testBit 6 = true then 1 else 0)) (e15 : hq_gi sx' v 15 = (if T'.testBit 7 = true then 1 else 0)) (u12 : ∀ i, hq_gi sx' (v + 12) i = hq_gi sx (v + 12) i) (u9 : ∀ i, hq_gi sx' (v + 9) i = hq_gi sx (v + 9) i) (m13 : hq_gi sm' 176 13 = hq_gi sm 176 13) (m33 : hq_gi sm' 174 33 = hq_gi sm 174 33) (m32 : hq_gi sm' 174 32 = hq_gi sm 174 32) (W : ∃ W, W < 2 ^ nl' ∧ hq_gi sx' v 6 = Int32.ofNat W) (z : ∀ i, ng' ≤ i → i < 3 → hq_gi sx' (v + 7) i = 0) : rd_I v nl' ng' kn T' sx' sm' := by
  obtain ⟨⟨I1, I2, I3, I4⟩, I5, ⟨I6, I7, I8, I9, I10, I11⟩, I12, I13⟩ := h
  refine ⟨⟨b1, e21, e14, e15⟩, fun r hr => ?_, ⟨I6, (u9 0).trans I7, (u9 1).trans I8, m13.trans I9, m33.trans I10, m32.trans I11⟩, W, z⟩
  obtain ⟨e, e1, e2, e3⟩ := I5 r hr
  exact ⟨e, e1, (u12 r).trans e2, by rw [b3 _ (by omega)]; exact e3⟩
theorem lm_6 {T : Nat} (e6 : hq_gi sm 174 26 = 0) (e7 : hq_gi sm 174 27 = 6) (f0 : hq_gi sm 174 28 = 0) (hT : T < 1048576) (eT : hq_gi sm 174 21 = Int32.ofNat T) : f_X12_line N sm = if T.testBit 6 = true then some (hq_si (hq_si sm 174 28 3) 174 29 (hq_gi sm 174 25)) else (f_X12_token N (hq_si sm 174 21 (Int32.ofNat (T ||| 2 ^ 6)))).bind fun s16 => (f_X12_numeral N (0 : Int32) (100 : Int32) s16).bind fun y67 => (f_X12_reads N (4 : Int32) y67.1 y67.2).bind fun s68 => f_X12_line_J404 N 6 s68 := by
  have eb : ((Int32.ofNat T >>> ((6 : Int32) &&& 31)) &&& (1 : Int32) = 1) = (T.testBit 6 = true) := nb_bit1 (i := 6) (by omega) (by omega)
  unfold f_X12_line f_X12_isFull
  rw [e6, if_pos rfl, e7, if_neg (by decide), if_neg (by decide), if_neg (by decide), if_neg (by decide), if_neg (by decide), if_neg (by decide), if_neg (by decide)]
  simp only [ob]
  rw [if_pos trivial, if_pos trivial, eT, ie eb]
  by_cases q : T.testBit 6 = true
  · rw [if_pos q, if_pos q, fail_m f0]
    simp only [ob]
    rw [if_neg (fail_n (f := 3) (by decide))]
  · rw [if_neg q, if_neg q]
    simp only [ob]
    rw [if_pos f0, eT, nn_pi]
    simp only [ob]
    rw [show (1 : Int32) <<< ((6 : Int32) &&& 31) = Int32.ofNat (2 ^ 6) from nb_one (i := 6) (by omega), nb_or]
    refine congrArg (Option.bind _) (funext fun s16 => ?_)
    rw [if_neg (by decide), if_neg (by decide), if_neg (by decide), if_neg (by decide), if_neg (by decide), if_neg (by decide), if_pos trivial]
theorem ln_6 (hN : 1000 < N) {v nc nl ng nt kn T ln : Nat} (h : rdl t L v nc nl ng nt kn T ln p pl 3 6 6 sx sm) : lo N t L v ln pl sx sm := by
  obtain ⟨R, ⟨gv, hv⟩, To, I, ⟨fx, fm⟩, lx, lm⟩ := id h
  obtain ⟨⟨I1, I2, I3, I4⟩, -, -, I12, I13⟩ := id I
  obtain ⟨x4, x5, m6, m7⟩ := lx_w R
  have hT : hq_isT v := hv
  have rl : f_X6_readLine N sx = (f_X6_readGrip N sx).bind fun y3 => if mm_rfit (mm_ret mc_X6_readLine) y3.1 = true then some (y3.1, y3.2) else none := by
    unfold f_X6_readLine
    rw [x4, if_pos rfl, show hq_gi sx 49 5 = 6 from x5, if_neg (by decide), if_neg (by decide), if_neg (by decide), if_neg (by decide), if_neg (by decide), if_neg (by decide), if_pos rfl]
  unfold lo
  rw [rl, lm_6 m6 m7 fm I1 I2]
  unfold f_X6_readGrip
  rw [gv, if_pos hT, I3]
  by_cases q : T.testBit 6 = true
  · rw [if_pos q, if_pos q, if_neg (by decide), fail_x]
    simp only [ob]
    rw [if_pos (show mm_rfit (mm_ret mc_X6_readGrip) 0 = true from rfl)]
    simp only [ob]
    rw [lrf0, if_pos rfl]
    exact Or.inr ⟨_, _, rfl, rfl, fail_b R (f := 3) (by omega) (by omega)⟩
  rw [if_neg q, if_neg q, if_pos rfl]
  have R0 : tk_R t L p pl 3 6 6 sx (hq_si sm 174 21 (Int32.ofNat (T ||| 2 ^ 6))) := tk_R_M R (fun i _ _ => nn_n (by omega)) (fun i => nn_n (by omega))
  obtain ⟨p1, pl1, q1, a1, b1', sx1, sm1, r1, r2, R1, r4, k1, k1'⟩ := tk_nx hN R0
  rw [r1, r2]
  simp only [ob]
  have f1 : hq_gi sm1 174 28 = 0 := by rw [kz_no k1' (by decide), nn_n (by omega)]; exact fm
  rcases rd_num hN R1 f1 (most := 100) (by omega) with ⟨z, p2, pl2, q2, a2, b2, sx2, sm2, hz, g1, g2, R2, g3, k2, k2'⟩ | ⟨sx2, sm2, g1, g2, B⟩
  · rw [show (100 : Int32) = Int32.ofNat 100 from rfl, g1, g2]
    simp only [ob]
    have gv2 : hq_gr sx2 48 1 = v := by rw [kz_gr k2, kz_gr k1]; exact gv
    rw [if_neg (nn_nm1 (by omega)), gv2, if_pos hT, nn_pi]
    simp only [ob]
    rw [show hq_gr (hq_si sx2 v 13 (Int32.ofNat z)) 48 1 = v from gv2, if_pos hT, nn_pi1, reads_v (a := 4) (j := 4) rfl (by omega)]
    simp only [ob]
    rw [lrf1, if_pos rfl]
    refine Or.inl ⟨_, _, _, pl2, rfl, rfl, ⟨nc, nl, ng, nt, kn, T ||| 2 ^ 6, p2, q2, a2, b2, ?_⟩, ?_⟩
    · have ux : ∀ k i, v ≤ k → k ≤ v + 22 → hq_gi sx2 k i = hq_gi sx k i := fun k i h1 h2 => by rw [kz_ne k2 (by omega), kz_ne k1 (by omega)]
      have um : ∀ k i, 176 ≤ k → k ≤ 193 → hq_gi sm2 k i = hq_gi sm k i := fun k i h1 h2 => by rw [kz_ne k2' (by omega), kz_ne k1' (by omega), nn_n (by omega)]
      have u7 : ∀ i, ¬ i = 21 → ¬ i ∈ FM → hq_gi sm2 174 i = hq_gi sm 174 i := fun i n1 n2 => by rw [kz_no k2' n2, kz_no k1' n2, nn_n (by omega)]
      obtain ⟨bb1, bb2, bb3⟩ := bits_or (w := 6) I1 (by omega)
      have xs : ∀ k i, ¬ (k = v ∧ i = 13) → ¬ (k = v ∧ i = 14) → hq_gi (hq_si (hq_si sx2 v 13 (Int32.ofNat z)) v 14 1) k i = hq_gi sx2 k i := fun k i n1 n2 => by rw [nn_n n2, nn_n n1]
      have xk : ∀ k i, v ≤ k → k ≤ v + 22 → ¬ (k = v ∧ i = 13) → ¬ (k = v ∧ i = 14) → hq_gi (hq_si (hq_si sx2 v 13 (Int32.ofNat z)) v 14 1) k i = hq_gi sx k i := fun k i h1 h2 n1 n2 => by rw [xs k i n1 n2, ux k i h1 h2]
      have x4 : ∀ k i, (k = 48 ∨ k = 49 ∨ k = 50 ∨ k = 1) → hq_gi (hq_si (hq_si sx2 v 13 (Int32.ofNat z)) v 14 1) k i = hq_gi sx2 k i := fun k i hk => xs k i (by omega) (by omega)
      have xm : ∀ k i, ¬ (k = 176 ∧ i = 11) → hq_gi (hq_si sm2 176 (7 + 4) (Int32.ofNat z)) k i = hq_gi sm2 k i := fun k i n1 => nn_n n1
      have e21 : hq_gi sm2 174 21 = Int32.ofNat (T ||| 2 ^ 6) := by rw [kz_no k2' (by decide), kz_no k1' (by decide), nn_g1]
      refine ⟨tk_R_X (tk_R_M R2 (fun i _ _ => xm _ _ (by omega)) (fun i => xm _ _ (by omega))) (fun i _ _ => x4 _ _ (by omega)) (fun i => x4 _ _ (by omega)) (fun i => x4 _ _ (by omega)) rfl, ⟨gv2, hv⟩, ?_, ?_, ⟨?_, ?_⟩, ?_, ?_⟩
      · refine told_grip To xk (fun k i => ?_) (fun k i h1 h2 n1 => by rw [xm k i n1, um k i h1 h2]) ⟨z, hz, ?_, nn_g1⟩
        · show hq_gj sx2 k i = _
          rw [kz_gj k2, kz_gj k1]
        · rw [nn_n (by omega), nn_g1]
      · refine rd_I_mk I bb1 (fun j hj => bb3 j (by omega)) (by rw [xm _ _ (by omega)]; exact e21) (by rw [nn_g1, if_pos bb2]) (by rw [xk _ _ (by omega) (by omega) (by omega) (by omega), I4, bb3 7 (by omega)]) (fun i => xk _ _ (by omega) (by omega) (by omega) (by omega)) (fun i => xk _ _ (by omega) (by omega) (by omega) (by omega)) (by rw [xm _ _ (by omega), um _ _ (by omega) (by omega)]) (by rw [xm _ _ (by omega), u7 _ (by omega) (by decide)]) (by rw [xm _ _ (by omega), u7 _ (by omega) (by decide)]) ?_ (fun i i1 i2 => by rw [xk _ _ (by omega) (by omega) (by omega) (by omega)]; exact I13 i i1 i2)
        rw [xk _ _ (by omega) (by omega) (by omega) (by omega)]; exact I12
      · rw [x4 _ _ (by omega), kz_ne k2 (by omega), kz_ne k1 (by omega)]; exact fx
      · rw [xm _ _ (by omega), u7 _ (by omega) (by decide)]; exact fm
      · rw [x4 _ _ (by omega), kz_ne k2 (by omega), kz_ne k1 (by omega)]; exact lx
      · rw [xm _ _ (by omega), u7 _ (by omega) (by decide)]; exact lm
    · have := R.2.2.1.2.2 (by omega)
      have := R1.2.2.1
      omega
  · rw [show (100 : Int32) = Int32.ofNat 100 from rfl, g1, g2]
    simp only [ob]
    rw [if_pos trivial, reads_v (a := 4) (j := 4) rfl (by omega)]
    simp only [ob]
    have B' := bad_k (sx' := sx2) (sm' := hq_si sm2 176 (7 + 4) 0) B rfl rfl (by rw [nn_n (by omega)]) (by rw [nn_n (by omega)])
    rw [lrf0, if_pos rfl, J404_f (bad_n B')]
    exact Or.inr ⟨_, _, rfl, rfl, B'⟩
theorem lm_7 {T : Nat} (e6 : hq_gi sm 174 26 = 0) (e7 : hq_gi sm 174 27 = 7) (f0 : hq_gi sm 174 28 = 0) (hT : T < 1048576) (eT : hq_gi sm 174 21 = Int32.ofNat T) : f_X12_line N sm = if T.testBit 7 = true then some (hq_si (hq_si sm 174 28 3) 174 29 (hq_gi sm 174 25)) else (f_X12_token N (hq_si sm 174 21 (Int32.ofNat (T ||| 2 ^ 7)))).bind fun s16 => (f_X12_numeral N (0 : Int32) (99999 : Int32) s16).bind fun y67 => (f_X12_reads N (5 : Int32) y67.1 y67.2).bind fun s68 => f_X12_line_J404 N 7 s68 := by
  have eb : ((Int32.ofNat T >>> ((7 : Int32) &&& 31)) &&& (1 : Int32) = 1) = (T.testBit 7 = true) := nb_bit1 (i := 7) (by omega) (by omega)
  unfold f_X12_line f_X12_isFull
  rw [e6, if_pos rfl, e7, if_neg (by decide), if_neg (by decide), if_neg (by decide), if_neg (by decide), if_neg (by decide), if_neg (by decide), if_neg (by decide)]
  simp only [ob]
  rw [if_pos trivial, if_neg (by decide), if_pos trivial, eT, ie eb]
  by_cases q : T.testBit 7 = true
  · rw [if_pos q, if_pos q, fail_m f0]
    simp only [ob]
    rw [if_neg (fail_n (f := 3) (by decide))]
  · rw [if_neg q, if_neg q]
    simp only [ob]
    rw [if_pos f0, eT, nn_pi]
    simp only [ob]
    rw [show (1 : Int32) <<< ((7 : Int32) &&& 31) = Int32.ofNat (2 ^ 7) from nb_one (i := 7) (by omega), nb_or]
    refine congrArg (Option.bind _) (funext fun s16 => ?_)
    rw [if_neg (by decide), if_neg (by decide), if_neg (by decide), if_neg (by decide), if_neg (by decide), if_neg (by decide), if_neg (by decide), if_pos trivial]
theorem ln_7 (hN : 1000 < N) {v nc nl ng nt kn T ln : Nat} (h : rdl t L v nc nl ng nt kn T ln p pl 3 7 7 sx sm) : lo N t L v ln pl sx sm := by
  obtain ⟨R, ⟨gv, hv⟩, To, I, ⟨fx, fm⟩, lx, lm⟩ := id h
  obtain ⟨⟨I1, I2, I3, I4⟩, -, -, I12, I13⟩ := id I
  obtain ⟨x4, x5, m6, m7⟩ := lx_w R
  have hT : hq_isT v := hv
  have rl : f_X6_readLine N sx = (f_X6_readSeed N sx).bind fun y3 => if mm_rfit (mm_ret mc_X6_readLine) y3.1 = true then some (y3.1, y3.2) else none := by
    unfold f_X6_readLine
    rw [x4, if_pos rfl, show hq_gi sx 49 5 = 7 from x5, if_neg (by decide), if_neg (by decide), if_neg (by decide), if_neg (by decide), if_neg (by decide), if_neg (by decide), if_neg (by decide), if_pos rfl]
  unfold lo
  rw [rl, lm_7 m6 m7 fm I1 I2]
  unfold f_X6_readSeed
  rw [gv, if_pos hT, I4]
  by_cases q : T.testBit 7 = true
  · rw [if_pos q, if_pos q, if_neg (by decide), fail_x]
    simp only [ob]
    rw [if_pos (show mm_rfit (mm_ret mc_X6_readSeed) 0 = true from rfl)]
    simp only [ob]
    rw [lrf0, if_pos rfl]
    exact Or.inr ⟨_, _, rfl, rfl, fail_b R (f := 3) (by omega) (by omega)⟩
  rw [if_neg q, if_neg q, if_pos rfl]
  have R0 : tk_R t L p pl 3 7 7 sx (hq_si sm 174 21 (Int32.ofNat (T ||| 2 ^ 7))) := tk_R_M R (fun i _ _ => nn_n (by omega)) (fun i => nn_n (by omega))
  obtain ⟨p1, pl1, q1, a1, b1', sx1, sm1, r1, r2, R1, r4, k1, k1'⟩ := tk_nx hN R0
  rw [r1, r2]
  simp only [ob]
  have f1 : hq_gi sm1 174 28 = 0 := by rw [kz_no k1' (by decide), nn_n (by omega)]; exact fm
  rcases rd_num hN R1 f1 (most := 99999) (by omega) with ⟨z, p2, pl2, q2, a2, b2, sx2, sm2, hz, g1, g2, R2, g3, k2, k2'⟩ | ⟨sx2, sm2, g1, g2, B⟩
  · rw [show (99999 : Int32) = Int32.ofNat 99999 from rfl, g1, g2]
    simp only [ob]
    have gv2 : hq_gr sx2 48 1 = v := by rw [kz_gr k2, kz_gr k1]; exact gv
    rw [if_neg (nn_nm1 (by omega)), gv2, if_pos hT, nn_pjv]
    simp only [ob]
    rw [show hq_gr (hq_sj sx2 (v + 14) 1 (Int32.ofNat z).toInt64) 48 1 = v from gv2, if_pos hT, nn_pi1, reads_v (a := 5) (j := 5) rfl (by omega)]
    simp only [ob]
    rw [lrf1, if_pos rfl]
    refine Or.inl ⟨_, _, _, pl2, rfl, rfl, ⟨nc, nl, ng, nt, kn, T ||| 2 ^ 7, p2, q2, a2, b2, ?_⟩, ?_⟩
    · have ux : ∀ k i, v ≤ k → k ≤ v + 22 → hq_gi sx2 k i = hq_gi sx k i := fun k i h1 h2 => by rw [kz_ne k2 (by omega), kz_ne k1 (by omega)]
      have um : ∀ k i, 176 ≤ k → k ≤ 193 → hq_gi sm2 k i = hq_gi sm k i := fun k i h1 h2 => by rw [kz_ne k2' (by omega), kz_ne k1' (by omega), nn_n (by omega)]
      have u7 : ∀ i, ¬ i = 21 → ¬ i ∈ FM → hq_gi sm2 174 i = hq_gi sm 174 i := fun i n1 n2 => by rw [kz_no k2' n2, kz_no k1' n2, nn_n (by omega)]
      obtain ⟨bb1, bb2, bb3⟩ := bits_or (w := 7) I1 (by omega)
      have xs : ∀ k i, ¬ (k = v ∧ i = 15) → hq_gi (hq_si (hq_sj sx2 (v + 14) 1 (Int32.ofNat z).toInt64) v 15 1) k i = hq_gi sx2 k i := fun k i n1 => by rw [nn_n n1]; rfl
      have xk : ∀ k i, v ≤ k → k ≤ v + 22 → ¬ (k = v ∧ i = 15) → hq_gi (hq_si (hq_sj sx2 (v + 14) 1 (Int32.ofNat z).toInt64) v 15 1) k i = hq_gi sx k i := fun k i h1 h2 n1 => by rw [xs k i n1, ux k i h1 h2]
      have x4 : ∀ k i, (k = 48 ∨ k = 49 ∨ k = 50 ∨ k = 1) → hq_gi (hq_si (hq_sj sx2 (v + 14) 1 (Int32.ofNat z).toInt64) v 15 1) k i = hq_gi sx2 k i := fun k i hk => xs k i (by omega)
      have xm : ∀ k i, ¬ (k = 176 ∧ i = 12) → hq_gi (hq_si sm2 176 (7 + 5) (Int32.ofNat z)) k i = hq_gi sm2 k i := fun k i n1 => nn_n n1
      have e21 : hq_gi sm2 174 21 = Int32.ofNat (T ||| 2 ^ 7) := by rw [kz_no k2' (by decide), kz_no k1' (by decide), nn_g1]
      refine ⟨tk_R_X (tk_R_M R2 (fun i _ _ => xm _ _ (by omega)) (fun i => xm _ _ (by omega))) (fun i _ _ => x4 _ _ (by omega)) (fun i => x4 _ _ (by omega)) (fun i => x4 _ _ (by omega)) rfl, ⟨gv2, hv⟩, ?_, ?_, ⟨?_, ?_⟩, ?_, ?_⟩
      · refine told_seed (d := z) To xk (fun k i h1 h2 n1 => by rw [xm k i n1, um k i h1 h2]) (by omega) ?_ nn_g1
        show hq_gj (hq_sj sx2 (v + 14) 1 (Int32.ofNat z).toInt64) (v + 14) 1 = _
        rw [nb_jj, if_pos ⟨rfl, rfl⟩, nb_i64 (by omega)]
      · refine rd_I_mk I bb1 (fun j hj => bb3 j (by omega)) (by rw [xm _ _ (by omega)]; exact e21) (by rw [xk _ _ (by omega) (by omega) (by omega), I3, bb3 6 (by omega)]) (by rw [nn_g1, if_pos bb2]) (fun i => xk _ _ (by omega) (by omega) (by omega)) (fun i => xk _ _ (by omega) (by omega) (by omega)) (by rw [xm _ _ (by omega), um _ _ (by omega) (by omega)]) (by rw [xm _ _ (by omega), u7 _ (by omega) (by decide)]) (by rw [xm _ _ (by omega), u7 _ (by omega) (by decide)]) ?_ (fun i i1 i2 => by rw [xk _ _ (by omega) (by omega) (by omega)]; exact I13 i i1 i2)
        rw [xk _ _ (by omega) (by omega) (by omega)]; exact I12
      · rw [x4 _ _ (by omega), kz_ne k2 (by omega), kz_ne k1 (by omega)]; exact fx
      · rw [xm _ _ (by omega), u7 _ (by omega) (by decide)]; exact fm
      · rw [x4 _ _ (by omega), kz_ne k2 (by omega), kz_ne k1 (by omega)]; exact lx
      · rw [xm _ _ (by omega), u7 _ (by omega) (by decide)]; exact lm
    · have := R.2.2.1.2.2 (by omega)
      have := R1.2.2.1
      omega
  · rw [show (99999 : Int32) = Int32.ofNat 99999 from rfl, g1, g2]
    simp only [ob]
    rw [if_pos trivial, reads_v (a := 5) (j := 5) rfl (by omega)]
    simp only [ob]
    have B' := bad_k (sx' := sx2) (sm' := hq_si sm2 176 (7 + 5) 0) B rfl rfl (by rw [nn_n (by omega)]) (by rw [nn_n (by omega)])
    rw [lrf0, if_pos rfl, J404_f (bad_n B')]
    exact Or.inr ⟨_, _, rfl, rfl, B'⟩
end
