/-! THE READER: guards and thieves -/
section
variable {N L p pl q a b : Nat} {t : Nat → Nat} {sx sm : hq_S}
def lc_3 (n : Nat) (s16 : hq_S) : Option hq_S := (f_X12_fresher n (2 : Int32) s16).bind fun y44 => (f_X12_fresher n (2 : Int32) y44.2).bind fun y45 => (f_X12_fresh n 183 (3 : Int32) y45.1 y45.2).bind fun y46 => (hq_st y46.2 183 6 ((3 : Int32) + y44.1) y46.1).bind fun s47 => (f_X12_cornerAhead n s47).bind fun y48 => (hq_st y48.2 184 6 ((3 : Int32) + y44.1) y48.1).bind fun s49 => (hq_st s49 185 6 ((3 : Int32) + y44.1) (0 : Int32)).bind fun s50 => (f_X12_fresher n (2 : Int32) s50).bind fun y51 => (f_X12_reads n (2 : Int32) (y51.1 + (1 : Int32)) y51.2).bind fun s52 => f_X12_line_J404 n 3 s52
theorem lm_3 {ng T : Nat} (e6 : hq_gi sm 174 26 = 0) (e7 : hq_gi sm 174 27 = 3) (f0 : hq_gi sm 174 28 = 0) (hc : ng ≤ 3) (c : hq_gi sm 176 9 = Int32.ofNat ng) (eT : hq_gi sm 174 21 = Int32.ofNat T) : f_X12_line N sm = if ng = 3 then some (hq_si (hq_si sm 174 28 2) 174 29 (hq_gi sm 174 25)) else (f_X12_token N (hq_si sm 174 21 (Int32.ofNat (T ||| 2 ^ 3)))).bind fun s16 => lc_3 N s16 := by
  unfold f_X12_line f_X12_isFull
  rw [e6, if_pos rfl, e7, if_neg (by decide), if_neg (by decide), if_neg (by decide), if_neg (by decide), if_pos rfl, fresher_v (a := 2) (j := 2) rfl (by omega), c]
  simp only [ob]
  have e10 : (Int32.ofNat ng = 3) = (ng = 3) := nb_eq (b := 3) (by omega) (by omega)
  by_cases q : ng = 3
  · rw [ie e10, if_pos q, if_pos q]
    simp only [ob]
    rw [if_neg (by decide), fail_m f0]
    simp only [ob]
    rw [if_neg (fail_n (f := 2) (by decide))]
  · rw [ie e10, if_neg q, if_neg q]
    simp only [ob]
    rw [if_pos trivial, if_neg (by decide), if_neg (by decide)]
    simp only [ob]
    rw [if_pos f0, eT, nn_pi]
    simp only [ob]
    rw [show (1 : Int32) <<< ((3 : Int32) &&& 31) = Int32.ofNat (2 ^ 3) from nb_one (i := 3) (by omega), nb_or]
    refine congrArg (Option.bind _) (funext fun s16 => ?_)
    rw [if_neg (by decide), if_neg (by decide), if_neg (by decide), if_pos trivial]
    rfl
def lc_5 (n : Nat) (s16 : hq_S) : Option hq_S := (f_X12_fresher n (3 : Int32) s16).bind fun y56 => (f_X12_fresher n (3 : Int32) y56.2).bind fun y57 => (f_X12_fresh n 187 (4 : Int32) y57.1 y57.2).bind fun y58 => (hq_st y58.2 187 8 ((4 : Int32) + y56.1) y58.1).bind fun s59 => (f_X12_cornerAhead n s59).bind fun y60 => (hq_st y60.2 188 8 ((4 : Int32) + y56.1) y60.1).bind fun s61 => (f_X12_numeral n (0 : Int32) (9 : Int32) s61).bind fun y62 => (hq_st y62.2 189 8 ((4 : Int32) + y56.1) y62.1).bind fun s63 => (f_X12_fresher n (3 : Int32) s63).bind fun y64 => (f_X12_reads n (3 : Int32) (y64.1 + (1 : Int32)) y64.2).bind fun s65 => f_X12_line_J404 n 5 s65
theorem lm_5 {nt T : Nat} (e6 : hq_gi sm 174 26 = 0) (e7 : hq_gi sm 174 27 = 5) (f0 : hq_gi sm 174 28 = 0) (hc : nt ≤ 4) (c : hq_gi sm 176 10 = Int32.ofNat nt) (eT : hq_gi sm 174 21 = Int32.ofNat T) : f_X12_line N sm = if nt = 4 then some (hq_si (hq_si sm 174 28 2) 174 29 (hq_gi sm 174 25)) else (f_X12_token N (hq_si sm 174 21 (Int32.ofNat (T ||| 2 ^ 5)))).bind fun s16 => lc_5 N s16 := by
  unfold f_X12_line f_X12_isFull
  rw [e6, if_pos rfl, e7, if_neg (by decide), if_neg (by decide), if_neg (by decide), if_neg (by decide), if_neg (by decide), if_neg (by decide), if_pos rfl, fresher_v (a := 3) (j := 3) rfl (by omega), c]
  simp only [ob]
  have e10 : (Int32.ofNat nt = 4) = (nt = 4) := nb_eq (b := 4) (by omega) (by omega)
  by_cases q : nt = 4
  · rw [ie e10, if_pos q, if_pos q]
    simp only [ob]
    rw [if_neg (by decide), fail_m f0]
    simp only [ob]
    rw [if_neg (fail_n (f := 2) (by decide))]
  · rw [ie e10, if_neg q, if_neg q]
    simp only [ob]
    rw [if_pos trivial, if_neg (by decide), if_neg (by decide)]
    simp only [ob]
    rw [if_pos f0, eT, nn_pi]
    simp only [ob]
    rw [show (1 : Int32) <<< ((5 : Int32) &&& 31) = Int32.ofNat (2 ^ 5) from nb_one (i := 5) (by omega), nb_or]
    refine congrArg (Option.bind _) (funext fun s16 => ?_)
    rw [if_neg (by decide), if_neg (by decide), if_neg (by decide), if_neg (by decide), if_neg (by decide), if_pos trivial]
    rfl
theorem ln_3 (hN : 1000 < N) {v nc nl ng nt kn T ln : Nat} (h : rdl t L v nc nl ng nt kn T ln p pl 3 3 3 sx sm) : lo N t L v ln pl sx sm := by
  obtain ⟨R, ⟨gv, hv⟩, To, ⟨⟨I1, I2, I3, I4⟩, I5, ⟨I6, I7, I8, I9, I10, I11⟩, I12, I13⟩, ⟨fx, fm⟩, lx, lm⟩ := id h
  obtain ⟨x4, x5, m6, m7⟩ := lx_w R
  have hT : hq_isT v := hv
  have b1 := To.1
  have ccx : hq_gi sx v 0 = Int32.ofNat nc := To.2.1.1
  have ccm : hq_gi sm 176 7 = Int32.ofNat nc := To.2.1.2.1
  have cx : hq_gi sx v 7 = Int32.ofNat ng := To.2.1.2.2.2.2.1
  have cm : hq_gi sm 176 9 = Int32.ofNat ng := To.2.1.2.2.2.2.2.1
  have hec : ∀ i, i < nc → hq_gi sx (v + 1) i = hq_gi sm 177 (10 + i) := fun i hi => (To.2.2.1 i hi).1
  have he : ∀ i, i < ng → hq_gi sx (v + 5) i = hq_gi sm 183 (3 + i) := fun i hi => (To.2.2.2.2.2.1 i hi).1
  have al : hq_alI (v + 5) = some 3 ∧ hq_alA (v + 5) = some (Int32.ofNat 3) := by rcases hv with rfl | rfl <;> exact ⟨rfl, rfl⟩
  have rl : f_X6_readLine N sx = (f_X6_readGuard N sx).bind fun y3 => if mm_rfit (mm_ret mc_X6_readLine) y3.1 = true then some (y3.1, y3.2) else none := by
    unfold f_X6_readLine
    rw [x4, if_pos rfl, show hq_gi sx 49 5 = 3 from x5, if_neg (by decide), if_neg (by decide), if_neg (by decide), if_pos rfl]
  unfold lo
  rw [rl, lm_3 m6 m7 fm b1.2.2.1 cm I2]
  unfold f_X6_readGuard
  rw [gv, if_pos hT, cx, show (3 : Int32) = Int32.ofNat 3 from rfl, pass_v (by omega) (by omega)]
  by_cases full : ng = 3
  · rw [if_pos full, if_neg (by omega)]
    simp only [ob]
    rw [if_pos trivial]
    simp only [ob]
    rw [lrf0, if_pos rfl]
    exact Or.inr ⟨_, _, rfl, rfl, fail_b R (f := 2) (by omega) (by omega)⟩
  rw [if_neg full, if_pos (show ng < 3 by omega)]
  have R0 : tk_R t L p pl 3 3 3 sx (hq_si sm 174 21 (Int32.ofNat (T ||| 2 ^ 3))) := tk_R_M R (fun i _ _ => nn_n (by omega)) (fun i => nn_n (by omega))
  obtain ⟨p1, pl1, q1, a1, b1', sx1, sm1, r1, r2, R1, r4, k1, k1'⟩ := tk_nx hN R0
  rw [r1, r2]
  simp only [ob]
  rw [if_neg (by decide), kz_gr k1, gv, if_pos hT, if_pos hT, kz_ne k1 (show ¬ v = 49 by omega), cx]
  unfold lc_3
  have cm1 : hq_gi sm1 176 9 = Int32.ofNat ng := by rw [kz_ne k1' (by omega), nn_n (by omega)]; exact cm
  have f1 : hq_gi sm1 174 28 = 0 := by rw [kz_no k1' (by decide), nn_n (by omega)]; exact fm
  rw [fresher_v (a := 2) (j := 2) rfl (by omega), cm1]
  simp only [ob]
  rw [fresher_v (a := 2) (j := 2) rfl (by omega), cm1]
  simp only [ob]
  rw [show (3 : Int32) = Int32.ofNat 3 from rfl]
  rcases rd_new hN R1 f1 (kx := v + 5) (km := 183) (Lx := 3) (Lm := 6) (n := ng) (off := 3) al.1 al.2 rfl (by omega) (by omega) (by omega) (by omega) (fun i hi => by rw [kz_ne k1 (by omega), kz_ne k1' (by omega), nn_n (by omega)]; exact he i hi) with ⟨z, p2, pl2, q2, a2, b2, sx2, sm2, z1, g1, g2, R2, g3, k2, k2'⟩ | ⟨sx2, sm2, g1, g2, B⟩
  · rw [g1, g2]
    simp only [ob]
    rw [nb_add, nn_st (by omega) (by omega), if_neg (nn_nm1 (by omega))]
    simp only [ob]
    have R2' : tk_R t L p2 pl2 q2 a2 b2 sx2 (hq_si sm2 183 (3 + ng) (Int32.ofNat z)) := tk_R_M R2 (fun i _ _ => nn_n (by omega)) (fun i => nn_n (by omega))
    have f2 : hq_gi (hq_si sm2 183 (3 + ng) (Int32.ofNat z)) 174 28 = 0 := by rw [nn_n (by omega), kz_no k2' (by decide)]; exact f1
    rcases rd_corner hN hv (by rw [kz_gr k2, kz_gr k1]; exact gv) R2' f2 (nc := nc) b1.1 (by rw [kz_ne k2 (by omega), kz_ne k1 (by omega)]; exact ccx) (by rw [nn_n (by omega), kz_ne k2' (by omega), kz_ne k1' (by omega), nn_n (by omega)]; exact ccm) (fun i hi => by rw [kz_ne k2 (by omega), kz_ne k1 (by omega), nn_n (by omega), kz_ne k2' (by omega), kz_ne k1' (by omega), nn_n (by omega)]; exact hec i hi) with ⟨co, p4, pl4, q4, a4, b4, sx4, sm4, hco, g7, g8, R4, g9, k4, k4'⟩ | ⟨sx4, sm4, g7, g8, B⟩
    · rw [g7, g8]
      simp only [ob]
      have gv4 : hq_gr sx4 48 1 = v := by rw [kz_gr k4, kz_gr k2, kz_gr k1]; exact gv
      have cx4 : hq_gi sx4 v 7 = Int32.ofNat ng := by rw [kz_ne k4 (by omega), kz_ne k2 (by omega), kz_ne k1 (by omega)]; exact cx
      rw [nn_st (by omega) (by omega), if_neg (nn_nm1 (by omega)), gv4, if_pos hT]
      simp only [ob]
      rw [nn_st (by omega) (by omega)]
      simp only [ob]
      unfold f_X10_addGuard
      rw [cx4, show (3 : Int32) = Int32.ofNat 3 from rfl, ie (nb_ltp (by omega) (by omega)), if_pos (show ng < 3 by omega), nn_st (by omega) (by omega)]
      simp only [ob]
      rw [nn_n (by omega), cx4, nn_st (by omega) (by omega)]
      simp only [ob]
      rw [nn_pi, nn_n (by omega), nn_n (by omega), cx4, nn_succ]
      simp only [ob]
      have cm4 : hq_gi (hq_si (hq_si sm4 184 (3 + ng) (Int32.ofNat co)) 185 (3 + ng) 0) 176 9 = Int32.ofNat ng := by rw [nn_n (by omega), nn_n (by omega), kz_ne k4' (by omega), nn_n (by omega), kz_ne k2' (by omega)]; exact cm1
      rw [fresher_v (a := 2) (j := 2) rfl (by omega), cm4]
      simp only [ob]
      rw [nn_succ, reads_v (a := 2) (j := 2) rfl (by omega)]
      simp only [ob]
      rw [if_neg (by decide)]
      simp only [ob]
      rw [lrf1, if_pos rfl]
      refine Or.inl ⟨_, _, _, pl4, rfl, rfl, ⟨nc, nl, ng + 1, nt, kn, T ||| 2 ^ 3, p4, q4, a4, b4, ?_⟩, ?_⟩
      · have ux : ∀ k i, v ≤ k → k ≤ v + 22 → hq_gi sx4 k i = hq_gi sx k i := fun k i h1 h2 => by rw [kz_ne k4 (by omega), kz_ne k2 (by omega), kz_ne k1 (by omega)]
        have um : ∀ k i, 176 ≤ k → k ≤ 193 → ¬ (k = 183 ∧ i = 3 + ng) → hq_gi sm4 k i = hq_gi sm k i := fun k i h1 h2 n1 => by rw [kz_ne k4' (by omega), nn_n n1, kz_ne k2' (by omega), kz_ne k1' (by omega), nn_n (by omega)]
        have u7 : ∀ i, ¬ i = 21 → ¬ i ∈ FM → hq_gi sm4 174 i = hq_gi sm 174 i := fun i n1 n2 => by rw [kz_no k4' n2, nn_n (by omega), kz_no k2' n2, kz_no k1' n2, nn_n (by omega)]
        obtain ⟨bb1, bb2, bb3⟩ := bits_or (w := 3) I1 (by omega)
        have xk : ∀ k i, v ≤ k → k ≤ v + 22 → ¬ (k = v ∧ i = 7) → ¬ (k = v + 5 ∧ i = ng) → ¬ (k = v + 16 ∧ i = ng) → hq_gi (hq_si (hq_si (hq_si sx4 (v + 5) ng (Int32.ofNat z)) (v + 14 + 2) ng (Int32.ofNat co)) v 7 (Int32.ofNat (ng + 1))) k i = hq_gi sx k i := fun k i h1 h2 n1 n2 n3 => by
          rw [nn_n n1, nn_n n3, nn_n n2, ux k i h1 h2]
        have x4 : ∀ k i, (k = 48 ∨ k = 49 ∨ k = 50 ∨ k = 1) → hq_gi (hq_si (hq_si (hq_si sx4 (v + 5) ng (Int32.ofNat z)) (v + 14 + 2) ng (Int32.ofNat co)) v 7 (Int32.ofNat (ng + 1))) k i = hq_gi sx4 k i := fun k i hk => by
          rw [nn_n (by omega), nn_n (by omega), nn_n (by omega)]
        have xm : ∀ k i, ¬ (k = 176 ∧ i = 9) → ¬ (k = 184 ∧ i = 3 + ng) → ¬ (k = 185 ∧ i = 3 + ng) → hq_gi (hq_si (hq_si (hq_si sm4 184 (3 + ng) (Int32.ofNat co)) 185 (3 + ng) 0) 176 (7 + 2) (Int32.ofNat (ng + 1))) k i = hq_gi sm4 k i := fun k i n1 n2 n3 => by
          rw [nn_n n1, nn_n n3, nn_n n2]
        refine ⟨tk_R_X (tk_R_M R4 (fun i _ _ => xm _ _ (by omega) (by omega) (by omega)) (fun i => xm _ _ (by omega) (by omega) (by omega))) (fun i _ _ => x4 _ _ (by omega)) (fun i => x4 _ _ (by omega)) (fun i => x4 _ _ (by omega)) rfl, ⟨gv4, hv⟩, ?_, ⟨⟨bb1, ?_, ?_, ?_⟩, fun r hr => ?_, ⟨I6, ?_, ?_, ?_, ?_, ?_⟩, ?_, fun i i1 i2 => ?_⟩, ⟨?_, ?_⟩, ?_, ?_⟩
        · refine told_guard To (by omega) xk (fun k i => ?_) (fun k i h1 h2 n1 n2 n3 n4 => by rw [xm k i n1 n3 n4, um k i h1 h2 n2]) nn_g1 nn_g1 ?_ ⟨co, hco, ?_, ?_⟩ ?_ ?_
          · show hq_gj sx4 k i = _
            rw [kz_gj k4, kz_gj k2, kz_gj k1]
          · rw [nn_n (by omega), nn_n (by omega), nn_g1, xm _ _ (by omega) (by omega) (by omega), kz_ne k4' (by omega), nn_g1]
          · rw [nn_n (by omega), show v + 16 = v + 14 + 2 from rfl, nn_g1]
          · rw [nn_n (by omega), nn_n (by omega), nn_g1]
          · rw [xk _ _ (by omega) (by omega) (by omega) (by omega) (by omega)]; exact I13 ng (by omega) (by omega)
          · rw [nn_n (by omega), nn_g1]
        · rw [xm _ _ (by omega) (by omega) (by omega), kz_no k4' (by decide), nn_n (by omega), kz_no k2' (by decide), kz_no k1' (by decide), nn_g1]
        · rw [xk _ _ (by omega) (by omega) (by omega) (by omega) (by omega), I3, bb3 6 (by omega)]
        · rw [xk _ _ (by omega) (by omega) (by omega) (by omega) (by omega), I4, bb3 7 (by omega)]
        · obtain ⟨e, e1, e2, e3⟩ := I5 r hr
          refine ⟨e, e1, by rw [xk _ _ (by omega) (by omega) (by omega) (by omega) (by omega)]; exact e2, by rw [bb3 _ (by omega)]; exact e3⟩
        · rw [xk _ _ (by omega) (by omega) (by omega) (by omega) (by omega)]; exact I7
        · rw [xk _ _ (by omega) (by omega) (by omega) (by omega) (by omega)]; exact I8
        · rw [xm _ _ (by omega) (by omega) (by omega), um _ _ (by omega) (by omega) (by omega)]; exact I9
        · rw [xm _ _ (by omega) (by omega) (by omega), u7 _ (by omega) (by decide)]; exact I10
        · rw [xm _ _ (by omega) (by omega) (by omega), u7 _ (by omega) (by decide)]; exact I11
        · rw [xk _ _ (by omega) (by omega) (by omega) (by omega) (by omega)]; exact I12
        · rw [xk _ _ (by omega) (by omega) (by omega) (by omega) (by omega)]; exact I13 i (by omega) i2
        · rw [x4 _ _ (by omega), kz_ne k4 (by omega), kz_ne k2 (by omega), kz_ne k1 (by omega)]; exact fx
        · rw [xm _ _ (by omega) (by omega) (by omega), u7 _ (by omega) (by decide)]; exact fm
        · rw [x4 _ _ (by omega), kz_ne k4 (by omega), kz_ne k2 (by omega), kz_ne k1 (by omega)]; exact lx
        · rw [xm _ _ (by omega) (by omega) (by omega), u7 _ (by omega) (by decide)]; exact lm
      · have := R.2.2.1.2.2 (by omega)
        have := R1.2.2.1
        have := R2.2.2.1
        omega
    · rw [g7, g8]
      simp only [ob]
      rw [if_pos trivial, nn_st (by omega) (by omega)]
      simp only [ob]
      rw [nn_st (by omega) (by omega)]
      simp only [ob]
      rw [fresher_v (a := 2) (j := 2) rfl (by omega)]
      simp only [ob]
      rw [reads_v (a := 2) (j := 2) rfl (by omega)]
      simp only [ob]
      have B' := bad_k (sx' := sx4) (sm' := hq_si (hq_si (hq_si sm4 184 (3 + ng) 0) 185 (3 + ng) 0) 176 (7 + 2) (hq_gi (hq_si (hq_si sm4 184 (3 + ng) 0) 185 (3 + ng) 0) 176 (7 + 2) + 1)) B rfl rfl (by rw [nn_n (by omega), nn_n (by omega), nn_n (by omega)]) (by rw [nn_n (by omega), nn_n (by omega), nn_n (by omega)])
      rw [lrf0, if_pos rfl, J404_f (bad_n B')]
      exact Or.inr ⟨_, _, rfl, rfl, B'⟩
  · rw [g1, g2]
    simp only [ob]
    rw [if_pos trivial, nb_add, nn_st (by omega) (by omega)]
    simp only [ob]
    have B1 := bad_k (sx' := sx2) (sm' := hq_si sm2 183 (3 + ng) 0) B rfl rfl (by rw [nn_n (by omega)]) (by rw [nn_n (by omega)])
    rw [if_pos trivial, cornerAhead_f (bad_n B1)]
    simp only [ob]
    rw [nn_st (by omega) (by omega)]
    simp only [ob]
    rw [nn_st (by omega) (by omega)]
    simp only [ob]
    rw [fresher_v (a := 2) (j := 2) rfl (by omega)]
    simp only [ob]
    rw [reads_v (a := 2) (j := 2) rfl (by omega)]
    simp only [ob]
    have B' := bad_k (sx' := sx2) (sm' := hq_si (hq_si (hq_si (hq_si sm2 183 (3 + ng) 0) 184 (3 + ng) 0) 185 (3 + ng) 0) 176 (7 + 2) (hq_gi (hq_si (hq_si (hq_si sm2 183 (3 + ng) 0) 184 (3 + ng) 0) 185 (3 + ng) 0) 176 (7 + 2) + 1)) B1 rfl rfl (by rw [nn_n (by omega), nn_n (by omega), nn_n (by omega)]) (by rw [nn_n (by omega), nn_n (by omega), nn_n (by omega)])
    rw [lrf0, if_pos rfl, J404_f (bad_n B')]
    exact Or.inr ⟨_, _, rfl, rfl, B'⟩
theorem ln_5 (hN : 1000 < N) {v nc nl ng nt kn T ln : Nat} (h : rdl t L v nc nl ng nt kn T ln p pl 3 5 5 sx sm) : lo N t L v ln pl sx sm := by
  obtain ⟨R, ⟨gv, hv⟩, To, ⟨⟨I1, I2, I3, I4⟩, I5, ⟨I6, I7, I8, I9, I10, I11⟩, I12, I13⟩, ⟨fx, fm⟩, lx, lm⟩ := id h
  obtain ⟨x4, x5, m6, m7⟩ := lx_w R
  have hT : hq_isT v := hv
  have b1 := To.1
  have ccx : hq_gi sx v 0 = Int32.ofNat nc := To.2.1.1
  have ccm : hq_gi sm 176 7 = Int32.ofNat nc := To.2.1.2.1
  have cx : hq_gi sx v 11 = Int32.ofNat nt := To.2.1.2.2.2.2.2.2.1
  have cm : hq_gi sm 176 10 = Int32.ofNat nt := To.2.1.2.2.2.2.2.2.2
  have hec : ∀ i, i < nc → hq_gi sx (v + 1) i = hq_gi sm 177 (10 + i) := fun i hi => (To.2.2.1 i hi).1
  have he : ∀ i, i < nt → hq_gi sx (v + 8) i = hq_gi sm 187 (4 + i) := fun i hi => (To.2.2.2.2.2.2.1 i hi).1
  have al : hq_alI (v + 8) = some 4 ∧ hq_alA (v + 8) = some (Int32.ofNat 4) := by rcases hv with rfl | rfl <;> exact ⟨rfl, rfl⟩
  have rl : f_X6_readLine N sx = (f_X6_readThief N sx).bind fun y3 => if mm_rfit (mm_ret mc_X6_readLine) y3.1 = true then some (y3.1, y3.2) else none := by
    unfold f_X6_readLine
    rw [x4, if_pos rfl, show hq_gi sx 49 5 = 5 from x5, if_neg (by decide), if_neg (by decide), if_neg (by decide), if_neg (by decide), if_neg (by decide), if_pos rfl]
  unfold lo
  rw [rl, lm_5 m6 m7 fm b1.2.2.2 cm I2]
  unfold f_X6_readThief
  rw [gv, if_pos hT, cx, show (4 : Int32) = Int32.ofNat 4 from rfl, pass_v (by omega) (by omega)]
  by_cases full : nt = 4
  · rw [if_pos full, if_neg (by omega)]
    simp only [ob]
    rw [if_pos trivial]
    simp only [ob]
    rw [lrf0, if_pos rfl]
    exact Or.inr ⟨_, _, rfl, rfl, fail_b R (f := 2) (by omega) (by omega)⟩
  rw [if_neg full, if_pos (show nt < 4 by omega)]
  have R0 : tk_R t L p pl 3 5 5 sx (hq_si sm 174 21 (Int32.ofNat (T ||| 2 ^ 5))) := tk_R_M R (fun i _ _ => nn_n (by omega)) (fun i => nn_n (by omega))
  obtain ⟨p1, pl1, q1, a1, b1', sx1, sm1, r1, r2, R1, r4, k1, k1'⟩ := tk_nx hN R0
  rw [r1, r2]
  simp only [ob]
  rw [if_neg (by decide), kz_gr k1, gv, if_pos hT, if_pos hT, kz_ne k1 (show ¬ v = 49 by omega), cx]
  unfold lc_5
  have cm1 : hq_gi sm1 176 10 = Int32.ofNat nt := by rw [kz_ne k1' (by omega), nn_n (by omega)]; exact cm
  have f1 : hq_gi sm1 174 28 = 0 := by rw [kz_no k1' (by decide), nn_n (by omega)]; exact fm
  rw [fresher_v (a := 3) (j := 3) rfl (by omega), cm1]
  simp only [ob]
  rw [fresher_v (a := 3) (j := 3) rfl (by omega), cm1]
  simp only [ob]
  rw [show (4 : Int32) = Int32.ofNat 4 from rfl]
  rcases rd_new hN R1 f1 (kx := v + 8) (km := 187) (Lx := 4) (Lm := 8) (n := nt) (off := 4) al.1 al.2 rfl (by omega) (by omega) (by omega) (by omega) (fun i hi => by rw [kz_ne k1 (by omega), kz_ne k1' (by omega), nn_n (by omega)]; exact he i hi) with ⟨z, p2, pl2, q2, a2, b2, sx2, sm2, z1, g1, g2, R2, g3, k2, k2'⟩ | ⟨sx2, sm2, g1, g2, B⟩
  · rw [g1, g2]
    simp only [ob]
    rw [nb_add, nn_st (by omega) (by omega), if_neg (nn_nm1 (by omega))]
    simp only [ob]
    have R2' : tk_R t L p2 pl2 q2 a2 b2 sx2 (hq_si sm2 187 (4 + nt) (Int32.ofNat z)) := tk_R_M R2 (fun i _ _ => nn_n (by omega)) (fun i => nn_n (by omega))
    have f2 : hq_gi (hq_si sm2 187 (4 + nt) (Int32.ofNat z)) 174 28 = 0 := by rw [nn_n (by omega), kz_no k2' (by decide)]; exact f1
    rcases rd_corner hN hv (by rw [kz_gr k2, kz_gr k1]; exact gv) R2' f2 (nc := nc) b1.1 (by rw [kz_ne k2 (by omega), kz_ne k1 (by omega)]; exact ccx) (by rw [nn_n (by omega), kz_ne k2' (by omega), kz_ne k1' (by omega), nn_n (by omega)]; exact ccm) (fun i hi => by rw [kz_ne k2 (by omega), kz_ne k1 (by omega), nn_n (by omega), kz_ne k2' (by omega), kz_ne k1' (by omega), nn_n (by omega)]; exact hec i hi) with ⟨co, p3, pl3, q3, a3, b3, sx3, sm3, hco, g4, g5, R3, g6, k3, k3'⟩ | ⟨sx3, sm3, g4, g5, B⟩
    · rw [g4, g5]
      simp only [ob]
      rw [nn_st (by omega) (by omega), if_neg (nn_nm1 (by omega))]
      simp only [ob]
      have R3' : tk_R t L p3 pl3 q3 a3 b3 sx3 (hq_si sm3 188 (4 + nt) (Int32.ofNat co)) := tk_R_M R3 (fun i _ _ => nn_n (by omega)) (fun i => nn_n (by omega))
      have f3 : hq_gi (hq_si sm3 188 (4 + nt) (Int32.ofNat co)) 174 28 = 0 := by rw [nn_n (by omega), kz_no k3' (by decide)]; exact f2
      rcases rd_num hN R3' f3 (most := 9) (by omega) with ⟨lt, p4, pl4, q4, a4, b4, sx4, sm4, hlt, g7, g8, R4, g9, k4, k4'⟩ | ⟨sx4, sm4, g7, g8, B⟩
      · rw [show (9 : Int32) = Int32.ofNat 9 from rfl, g7, g8]
        simp only [ob]
        have gv4 : hq_gr sx4 48 1 = v := by rw [kz_gr k4, kz_gr k3, kz_gr k2, kz_gr k1]; exact gv
        have cx4 : hq_gi sx4 v 11 = Int32.ofNat nt := by rw [kz_ne k4 (by omega), kz_ne k3 (by omega), kz_ne k2 (by omega), kz_ne k1 (by omega)]; exact cx
        rw [nn_st (by omega) (by omega), if_neg (nn_nm1 (by omega)), gv4, if_pos hT]
        simp only [ob]
        unfold f_X10_addThief
        rw [cx4, show (4 : Int32) = Int32.ofNat 4 from rfl, ie (nb_ltp (by omega) (by omega)), if_pos (show nt < 4 by omega), nn_st (by omega) (by omega)]
        simp only [ob]
        rw [nn_n (by omega), cx4, nn_st (by omega) (by omega)]
        simp only [ob]
        rw [nn_n (by omega), nn_n (by omega), cx4, nn_st (by omega) (by omega)]
        simp only [ob]
        rw [nn_pi, nn_n (by omega), nn_n (by omega), nn_n (by omega), cx4, nn_succ]
        simp only [ob]
        have cm4 : hq_gi (hq_si sm4 189 (4 + nt) (Int32.ofNat lt)) 176 10 = Int32.ofNat nt := by rw [nn_n (by omega), kz_ne k4' (by omega), nn_n (by omega), kz_ne k3' (by omega), nn_n (by omega), kz_ne k2' (by omega)]; exact cm1
        rw [fresher_v (a := 3) (j := 3) rfl (by omega), cm4]
        simp only [ob]
        rw [nn_succ, reads_v (a := 3) (j := 3) rfl (by omega)]
        simp only [ob]
        rw [if_neg (by decide)]
        simp only [ob]
        rw [lrf1, if_pos rfl]
        refine Or.inl ⟨_, _, _, pl4, rfl, rfl, ⟨nc, nl, ng, nt + 1, kn, T ||| 2 ^ 5, p4, q4, a4, b4, ?_⟩, ?_⟩
        · have ux : ∀ k i, v ≤ k → k ≤ v + 22 → hq_gi sx4 k i = hq_gi sx k i := fun k i h1 h2 => by rw [kz_ne k4 (by omega), kz_ne k3 (by omega), kz_ne k2 (by omega), kz_ne k1 (by omega)]
          have um : ∀ k i, 176 ≤ k → k ≤ 193 → ¬ (k = 187 ∧ i = 4 + nt) → ¬ (k = 188 ∧ i = 4 + nt) → hq_gi sm4 k i = hq_gi sm k i := fun k i h1 h2 n1 n2 => by rw [kz_ne k4' (by omega), nn_n n2, kz_ne k3' (by omega), nn_n n1, kz_ne k2' (by omega), kz_ne k1' (by omega), nn_n (by omega)]
          have u7 : ∀ i, ¬ i = 21 → ¬ i ∈ FM → hq_gi sm4 174 i = hq_gi sm 174 i := fun i n1 n2 => by rw [kz_no k4' n2, nn_n (by omega), kz_no k3' n2, nn_n (by omega), kz_no k2' n2, kz_no k1' n2, nn_n (by omega)]
          obtain ⟨bb1, bb2, bb3⟩ := bits_or (w := 5) I1 (by omega)
          have xk : ∀ k i, v ≤ k → k ≤ v + 22 → ¬ (k = v ∧ i = 11) → ¬ (k = v + 8 ∧ i = nt) → ¬ (k = v + 19 ∧ i = nt) → ¬ (k = v + 20 ∧ i = nt) → hq_gi (hq_si (hq_si (hq_si (hq_si sx4 (v + 8) nt (Int32.ofNat z)) (v + 14 + 5) nt (Int32.ofNat co)) (v + 14 + 6) nt (Int32.ofNat lt)) v 11 (Int32.ofNat (nt + 1))) k i = hq_gi sx k i := fun k i h1 h2 n1 n2 n3 n4 => by
            rw [nn_n n1, nn_n n4, nn_n n3, nn_n n2, ux k i h1 h2]
          have x4 : ∀ k i, (k = 48 ∨ k = 49 ∨ k = 50 ∨ k = 1) → hq_gi (hq_si (hq_si (hq_si (hq_si sx4 (v + 8) nt (Int32.ofNat z)) (v + 14 + 5) nt (Int32.ofNat co)) (v + 14 + 6) nt (Int32.ofNat lt)) v 11 (Int32.ofNat (nt + 1))) k i = hq_gi sx4 k i := fun k i hk => by
            rw [nn_n (by omega), nn_n (by omega), nn_n (by omega), nn_n (by omega)]
          have xm : ∀ k i, ¬ (k = 176 ∧ i = 10) → ¬ (k = 189 ∧ i = 4 + nt) → hq_gi (hq_si (hq_si sm4 189 (4 + nt) (Int32.ofNat lt)) 176 (7 + 3) (Int32.ofNat (nt + 1))) k i = hq_gi sm4 k i := fun k i n1 n2 => by
            rw [nn_n n1, nn_n n2]
          refine ⟨tk_R_X (tk_R_M R4 (fun i _ _ => xm _ _ (by omega) (by omega)) (fun i => xm _ _ (by omega) (by omega))) (fun i _ _ => x4 _ _ (by omega)) (fun i => x4 _ _ (by omega)) (fun i => x4 _ _ (by omega)) rfl, ⟨gv4, hv⟩, ?_, ⟨⟨bb1, ?_, ?_, ?_⟩, fun r hr => ?_, ⟨I6, ?_, ?_, ?_, ?_, ?_⟩, ?_, fun i i1 i2 => ?_⟩, ⟨?_, ?_⟩, ?_, ?_⟩
          · refine told_thief To (by omega) xk (fun k i => ?_) (fun k i h1 h2 n1 n2 n3 n4 => by rw [xm k i n1 n4, um k i h1 h2 n2 n3]) nn_g1 nn_g1 ?_ ⟨co, hco, ?_, ?_⟩ ⟨lt, hlt, ?_, ?_⟩
            · show hq_gj sx4 k i = _
              rw [kz_gj k4, kz_gj k3, kz_gj k2, kz_gj k1]
            · rw [nn_n (by omega), nn_n (by omega), nn_n (by omega), nn_g1, xm _ _ (by omega) (by omega), kz_ne k4' (by omega), nn_n (by omega), kz_ne k3' (by omega), nn_g1]
            · rw [nn_n (by omega), nn_n (by omega), show v + 19 = v + 14 + 5 from rfl, nn_g1]
            · rw [xm _ _ (by omega) (by omega), kz_ne k4' (by omega), nn_g1]
            · rw [nn_n (by omega), show v + 20 = v + 14 + 6 from rfl, nn_g1]
            · rw [nn_n (by omega), nn_g1]
          · rw [xm _ _ (by omega) (by omega), kz_no k4' (by decide), nn_n (by omega), kz_no k3' (by decide), nn_n (by omega), kz_no k2' (by decide), kz_no k1' (by decide), nn_g1]
          · rw [xk _ _ (by omega) (by omega) (by omega) (by omega) (by omega) (by omega), I3, bb3 6 (by omega)]
          · rw [xk _ _ (by omega) (by omega) (by omega) (by omega) (by omega) (by omega), I4, bb3 7 (by omega)]
          · obtain ⟨e, e1, e2, e3⟩ := I5 r hr
            refine ⟨e, e1, by rw [xk _ _ (by omega) (by omega) (by omega) (by omega) (by omega) (by omega)]; exact e2, by rw [bb3 _ (by omega)]; exact e3⟩
          · rw [xk _ _ (by omega) (by omega) (by omega) (by omega) (by omega) (by omega)]; exact I7
          · rw [xk _ _ (by omega) (by omega) (by omega) (by omega) (by omega) (by omega)]; exact I8
          · rw [xm _ _ (by omega) (by omega), um _ _ (by omega) (by omega) (by omega) (by omega)]; exact I9
          · rw [xm _ _ (by omega) (by omega), u7 _ (by omega) (by decide)]; exact I10
          · rw [xm _ _ (by omega) (by omega), u7 _ (by omega) (by decide)]; exact I11
          · rw [xk _ _ (by omega) (by omega) (by omega) (by omega) (by omega) (by omega)]; exact I12
          · rw [xk _ _ (by omega) (by omega) (by omega) (by omega) (by omega) (by omega)]; exact I13 i i1 i2
          · rw [x4 _ _ (by omega), kz_ne k4 (by omega), kz_ne k3 (by omega), kz_ne k2 (by omega), kz_ne k1 (by omega)]; exact fx
          · rw [xm _ _ (by omega) (by omega), u7 _ (by omega) (by decide)]; exact fm
          · rw [x4 _ _ (by omega), kz_ne k4 (by omega), kz_ne k3 (by omega), kz_ne k2 (by omega), kz_ne k1 (by omega)]; exact lx
          · rw [xm _ _ (by omega) (by omega), u7 _ (by omega) (by decide)]; exact lm
        · have := R.2.2.1.2.2 (by omega)
          have := R1.2.2.1
          have := R2.2.2.1
          have := R3.2.2.1
          omega
      · rw [show (9 : Int32) = Int32.ofNat 9 from rfl, g7, g8]
        simp only [ob]
        rw [if_pos trivial, nn_st (by omega) (by omega)]
        simp only [ob]
        rw [fresher_v (a := 3) (j := 3) rfl (by omega)]
        simp only [ob]
        rw [reads_v (a := 3) (j := 3) rfl (by omega)]
        simp only [ob]
        have B' := bad_k (sx' := sx4) (sm' := hq_si (hq_si sm4 189 (4 + nt) 0) 176 (7 + 3) (hq_gi (hq_si sm4 189 (4 + nt) 0) 176 (7 + 3) + 1)) B rfl rfl (by rw [nn_n (by omega), nn_n (by omega)]) (by rw [nn_n (by omega), nn_n (by omega)])
        rw [lrf0, if_pos rfl, J404_f (bad_n B')]
        exact Or.inr ⟨_, _, rfl, rfl, B'⟩
    · rw [g4, g5]
      simp only [ob]
      rw [if_pos trivial, nn_st (by omega) (by omega)]
      simp only [ob]
      have B2 := bad_k (sx' := sx3) (sm' := hq_si sm3 188 (4 + nt) 0) B rfl rfl (by rw [nn_n (by omega)]) (by rw [nn_n (by omega)])
      rw [if_pos trivial, numeral_f (bad_n B2)]
      simp only [ob]
      rw [nn_st (by omega) (by omega)]
      simp only [ob]
      rw [fresher_v (a := 3) (j := 3) rfl (by omega)]
      simp only [ob]
      rw [reads_v (a := 3) (j := 3) rfl (by omega)]
      simp only [ob]
      have B' := bad_k (sx' := sx3) (sm' := hq_si (hq_si (hq_si sm3 188 (4 + nt) 0) 189 (4 + nt) 0) 176 (7 + 3) (hq_gi (hq_si (hq_si sm3 188 (4 + nt) 0) 189 (4 + nt) 0) 176 (7 + 3) + 1)) B2 rfl rfl (by rw [nn_n (by omega), nn_n (by omega)]) (by rw [nn_n (by omega), nn_n (by omega)])
      rw [lrf0, if_pos rfl, J404_f (bad_n B')]
      exact Or.inr ⟨_, _, rfl, rfl, B'⟩
  · rw [g1, g2]
    simp only [ob]
    rw [if_pos trivial, nb_add, nn_st (by omega) (by omega)]
    simp only [ob]
    have B1 := bad_k (sx' := sx2) (sm' := hq_si sm2 187 (4 + nt) 0) B rfl rfl (by rw [nn_n (by omega)]) (by rw [nn_n (by omega)])
    rw [if_pos trivial, cornerAhead_f (bad_n B1)]
    simp only [ob]
    rw [if_pos trivial, nn_st (by omega) (by omega)]
    simp only [ob]
    have B2 := bad_k (sx' := sx2) (sm' := hq_si (hq_si sm2 187 (4 + nt) 0) 188 (4 + nt) 0) B1 rfl rfl (by rw [nn_n (by omega)]) (by rw [nn_n (by omega)])
    rw [numeral_f (bad_n B2)]
    simp only [ob]
    rw [nn_st (by omega) (by omega)]
    simp only [ob]
    rw [fresher_v (a := 3) (j := 3) rfl (by omega)]
    simp only [ob]
    rw [reads_v (a := 3) (j := 3) rfl (by omega)]
    simp only [ob]
    have B' := bad_k (sx' := sx2) (sm' := hq_si (hq_si (hq_si (hq_si sm2 187 (4 + nt) 0) 188 (4 + nt) 0) 189 (4 + nt) 0) 176 (7 + 3) (hq_gi (hq_si (hq_si (hq_si sm2 187 (4 + nt) 0) 188 (4 + nt) 0) 189 (4 + nt) 0) 176 (7 + 3) + 1)) B2 rfl rfl (by rw [nn_n (by omega), nn_n (by omega)]) (by rw [nn_n (by omega), nn_n (by omega)])
    rw [lrf0, if_pos rfl, J404_f (bad_n B')]
    exact Or.inr ⟨_, _, rfl, rfl, B'⟩
end
