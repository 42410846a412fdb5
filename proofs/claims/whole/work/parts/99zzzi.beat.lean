/-! THE READER: beats -/
section
variable {N L p pl q a b : Nat} {t : Nat → Nat} {sx sm sx' sm' : hq_S}
theorem rdl_k {v nc nl ng nt kn T ln p' pl' q' a' b' : Nat} (h : rdl t L v nc nl ng nt kn T ln p pl q a b sx sm) (R' : tk_R t L p' pl' q' a' b' sx' sm') (k : kz 49 FX sx sx') (k' : kz 174 FM sm sm') : rdl t L v nc nl ng nt kn T ln p' pl' q' a' b' sx' sm' := by
  obtain ⟨R, ⟨gv, hv⟩, To, I, ⟨fx, fm⟩, lx, lm⟩ := h
  obtain ⟨⟨I1, I2, I3, I4⟩, -, -, ⟨W, W1, W2⟩, I13⟩ := id I
  refine ⟨R', ⟨(kz_gr k _ _).trans gv, hv⟩, told_same To (fun k1 i h1 h2 => kz_ne k (by omega)) (fun k1 i h1 h2 => kz_gj k _ _) (fun k1 i h1 h2 => kz_ne k' (by omega)), ?_, ⟨(kz_ne k (by omega)).trans fx, (kz_no k' (by decide)).trans fm⟩, (kz_ne k (by omega)).trans lx, (kz_no k' (by decide)).trans lm⟩
  exact rd_I_mk I I1 (fun _ _ => rfl) ((kz_no k' (by decide)).trans I2) ((kz_ne k (by omega)).trans I3) ((kz_ne k (by omega)).trans I4) (fun i => kz_ne k (by omega)) (fun i => kz_ne k (by omega)) (kz_ne k' (by omega)) (kz_no k' (by decide)) (kz_no k' (by decide)) ⟨W, W1, (kz_ne k (by omega)).trans W2⟩ (fun i i1 i2 => (kz_ne k (by omega)).trans (I13 i i1 i2))
theorem rdl_T {v nc nl ng nt kn T ln w : Nat} (h : rdl t L v nc nl ng nt kn T ln p pl q a b sx sm) (hw : w < 16) (h6 : ¬ w = 6) (h7 : ¬ w = 7) : rdl t L v nc nl ng nt kn (T ||| 2 ^ w) ln p pl q a b sx (hq_si sm 174 21 (Int32.ofNat (T ||| 2 ^ w))) := by
  obtain ⟨R, ⟨gv, hv⟩, To, I, ⟨fx, fm⟩, lx, lm⟩ := h
  obtain ⟨⟨I1, I2, I3, I4⟩, -, -, ⟨W, W1, W2⟩, I13⟩ := id I
  obtain ⟨bb1, bb2, bb3⟩ := bits_or (w := w) I1 (by omega)
  refine ⟨tk_R_M R (fun i _ _ => nn_n (by omega)) (fun i => nn_n (by omega)), ⟨gv, hv⟩, told_same To (fun k1 i h1 h2 => rfl) (fun k1 i h1 h2 => rfl) (fun k1 i h1 h2 => nn_n (by omega)), ?_, ⟨fx, (nn_n (by omega)).trans fm⟩, lx, (nn_n (by omega)).trans lm⟩
  exact rd_I_mk I bb1 (fun j hj => bb3 j (by omega)) nn_g1 (by rw [I3, bb3 6 h6]) (by rw [I4, bb3 7 h7]) (fun i => rfl) (fun i => rfl) (nn_n (by omega)) (nn_n (by omega)) (nn_n (by omega)) ⟨W, W1, W2⟩ I13
theorem lm_4 {T : Nat} (e6 : hq_gi sm 174 26 = 0) (e7 : hq_gi sm 174 27 = 4) (f0 : hq_gi sm 174 28 = 0) (eT : hq_gi sm 174 21 = Int32.ofNat T) : f_X12_line N sm = (f_X12_token N (hq_si sm 174 21 (Int32.ofNat (T ||| 2 ^ 4)))).bind fun s16 => (f_X12_beatLine N s16).bind fun s54 => f_X12_line_J404 N 4 s54 := by
  unfold f_X12_line f_X12_isFull
  rw [e6, if_pos rfl, e7, if_neg (by decide), if_neg (by decide), if_neg (by decide), if_neg (by decide), if_neg (by decide), if_pos rfl]
  simp only [ob]
  rw [if_pos trivial, if_neg (by decide), if_neg (by decide)]
  simp only [ob]
  rw [if_pos f0, eT, nn_pi]
  simp only [ob]
  rw [show (1 : Int32) <<< ((4 : Int32) &&& 31) = Int32.ofNat (2 ^ 4) from nb_one (i := 4) (by omega), nb_or]
  refine congrArg (Option.bind _) (funext fun s16 => ?_)
  rw [if_neg (by decide), if_neg (by decide), if_neg (by decide), if_neg (by decide), if_pos trivial]
/-- no word: the reference finds none at hand -/
theorem ca_no (R : tk_R t L p pl q a b sx sm) (f0 : hq_gi sm 174 28 = 0) (hq : ¬ q = 2) : f_X12_cornerAhead N sm = some (0, hq_si (hq_si sm 174 28 1) 174 29 (hq_gi sm 174 25)) := by
  have m2 : (hq_gi sm 174 26 = 1) = (q = 2) := tk_km R 2 (by omega)
  have fn : ¬ hq_gi (hq_si (hq_si sm 174 28 1) 174 29 (hq_gi sm 174 25)) 174 28 = 0 := fail_n (by decide)
  unfold f_X12_cornerAhead f_X12_cornerAtHand
  rw [fresher_v (a := 0) (j := 0) rfl (by omega)]
  simp only [ob]
  unfold f_X12_atHand
  rw [if_pos f0, ie m2, if_neg hq, fail_m f0]
  simp only [ob]
  rw [if_neg fn]
  simp only [ob]
  rw [if_neg fn]
  simp only [ob]
  rw [if_neg fn]
  simp only [ob]
  rw [goOn_f fn]
  rfl
/-- the places of a beat -/
theorem lb_loop (hN : 1000 < N) {v nc nl ng nt kn T ln g pl0 : Nat} (hg : g < ng) : ∀ (r w m m' p pl q a b : Nat) (sx sm : hq_S), w + r = 8 → r + 1 < m → r + 1 < m' → rdl t L v nc nl ng nt kn T ln p pl q a b sx sm → hq_gi sx (v + 7) g = Int32.ofNat w → pl0 < pl →
    (∃ sx' sm' pl', f_X6_readBeat_L77 N m (Int32.ofNat g) (Int32.ofNat w) sx = some (1, sx') ∧ f_X12_beatLine_L46 N m' (Int32.ofNat (3 + g)) (Int32.ofNat w) (if q = 2 then 1 else 0) sm = some sm' ∧ RD t L v ln pl' sx' sm' ∧ pl0 < pl') ∨ ∃ sx' sm', f_X6_readBeat_L77 N m (Int32.ofNat g) (Int32.ofNat w) sx = some (0, sx') ∧ f_X12_beatLine_L46 N m' (Int32.ofNat (3 + g)) (Int32.ofNat w) (if q = 2 then 1 else 0) sm = some sm' ∧ bad sx' sm' := by
  intro r
  induction r with
  | zero =>
    intro w m m' p pl q a b sx sm hw hm hm' h e hpl
    obtain ⟨R, ⟨gv, hv⟩, To, I, ⟨fx, fm⟩, lx, lm⟩ := id h
    obtain ⟨m, rfl⟩ : ∃ k, m = k + 1 := ⟨m - 1, by omega⟩
    obtain ⟨m', rfl⟩ : ∃ k, m' = k + 1 := ⟨m' - 1, by omega⟩
    have hw8 : w = 8 := by omega
    have e2 : (hq_gi sx 49 4 = 2) = (q = 2) := tk_kx R 2 (by omega)
    rw [f_X6_readBeat_L77_s, f_X12_beatLine_L46_s]
    unfold f_X6_readBeat_L77_B f_X12_beatLine_L46_B
    rw [ie (show ((8 : Int32) < Int32.ofNat w) = (8 < w) from nb_ltp (a := 8) (by omega) (by omega)), if_neg (show ¬ 8 < w by omega), ie e2, if_pos fm]
    have e8 : (Int32.ofNat w = 8) = (w = 8) := nb_eq (b := 8) (by omega) (by omega)
    by_cases hq : q = 2
    · rw [if_pos hq, if_pos hq, ie e8, ie e8, if_pos hw8, if_pos hw8, if_neg (by decide), fail_x, fail_m fm]
      simp only [ob]
      have fn : ¬ hq_gi (hq_si (hq_si sm 174 28 2) 174 29 (hq_gi sm 174 25)) 174 28 = 0 := fail_n (by decide)
      rw [cornerAhead_f fn]
      simp only [ob]
      rw [if_neg fn, if_pos (show mm_rfit (mm_ret mc_X6_readBeat) 0 = true from rfl)]
      exact Or.inr ⟨_, _, rfl, rfl, fail_b R (f := 2) (by omega) (by omega)⟩
    · rw [if_neg hq, if_neg hq, if_pos rfl]
      exact Or.inl ⟨_, _, pl, rfl, rfl, ⟨nc, nl, ng, nt, kn, T, p, q, a, b, h⟩, hpl⟩
  | succ r ih =>
    intro w m m' p pl q a b sx sm hw hm hm' h e hpl
    obtain ⟨R, ⟨gv, hv⟩, To, I, ⟨fx, fm⟩, lx, lm⟩ := id h
    obtain ⟨⟨I1, I2, I3, I4⟩, -, -, ⟨W, W1, W2⟩, I13⟩ := id I
    obtain ⟨m, rfl⟩ : ∃ k, m = k + 1 := ⟨m - 1, by omega⟩
    obtain ⟨m', rfl⟩ : ∃ k, m' = k + 1 := ⟨m' - 1, by omega⟩
    have hT : hq_isT v := hv
    have b1 := To.1
    have ccx : hq_gi sx v 0 = Int32.ofNat nc := To.2.1.1
    have ccm : hq_gi sm 176 7 = Int32.ofNat nc := To.2.1.2.1
    have hec : ∀ i, i < nc → hq_gi sx (v + 1) i = hq_gi sm 177 (10 + i) := fun i hi => (To.2.2.1 i hi).1
    have e2 : (hq_gi sx 49 4 = 2) = (q = 2) := tk_kx R 2 (by omega)
    rw [f_X6_readBeat_L77_s, f_X12_beatLine_L46_s]
    unfold f_X6_readBeat_L77_B f_X12_beatLine_L46_B
    rw [ie (show ((8 : Int32) < Int32.ofNat w) = (8 < w) from nb_ltp (a := 8) (by omega) (by omega)), if_neg (show ¬ 8 < w by omega), ie e2, if_pos fm]
    by_cases hq : q = 2
    · have e8 : (Int32.ofNat w = 8) = (w = 8) := nb_eq (b := 8) (by omega) (by omega)
      rw [if_pos hq, if_pos hq, ie e8, ie e8, if_neg (show ¬ w = 8 by omega), if_neg (show ¬ w = 8 by omega), if_neg (by decide)]
      simp only [ob]
      rcases rd_corner hN hv gv R fm (nc := nc) b1.1 ccx ccm hec with ⟨co, p2, pl2, q2, a2, b2, sx2, sm2, hco, g1, g2, R2, g3, k2, k2'⟩ | ⟨sx2, sm2, g1, g2, B⟩
      · rw [g1, g2]
        simp only [ob]
        obtain ⟨-, ⟨gv2, -⟩, To2, I2', ⟨fx2, fm2⟩, lx2, lm2⟩ := rdl_k h R2 k2 k2'
        have e' : hq_gi sx2 (v + 7) g = Int32.ofNat w := (kz_ne k2 (by omega)).trans e
        rw [if_neg (nn_nm1 (by omega)), gv2, if_pos hT, if_pos fm2]
        have ap : f_X10_addPlace N v (Int32.ofNat g) (Int32.ofNat co) sx2 = some (hq_si (hq_si sx2 (v + 6) (8 * g + w) (Int32.ofNat co)) (v + 7) g (Int32.ofNat (w + 1))) := by
          unfold f_X10_addPlace
          rw [nn_ld (by omega) (by omega), e']
          simp only [ob]
          rw [ie (show (Int32.ofNat w < (8 : Int32)) = (w < 8) from nb_ltp (b := 8) (by omega) (by omega)), if_pos (show w < 8 by omega), nb_8m, nb_add, nn_st (by omega) (by omega)]
          simp only [ob]
          rw [nn_ld (by omega) (by omega), nn_n (by omega), e']
          simp only [ob]
          rw [nn_succ, nn_st (by omega) (by omega)]
          rfl
        rw [ap, nb_m8, nb_add, nn_st (by omega) (by omega)]
        simp only [ob]
        rw [nn_succ, nn_st (by omega) (by omega)]
        simp only [ob]
        have mt : hq_gi (hq_si (hq_si sm2 186 (8 * (3 + g) + w) (Int32.ofNat co)) 185 (3 + g) (Int32.ofNat (w + 1))) 174 26 = hq_gi sm2 174 26 := by rw [nn_n (by omega), nn_n (by omega)]
        have m2 : (hq_gi sm2 174 26 = 1) = (q2 = 2) := tk_km R2 2 (by omega)
        rw [mt, ie m2]
        have z18 : (if q2 = 2 then some (1 : Int32) else some 0) = some (if q2 = 2 then 1 else 0) := by split <;> rfl
        rw [z18]
        simp only [ob]
        obtain ⟨⟨J1, J2, J3, J4⟩, -, -, ⟨W', W1', W2'⟩, J13⟩ := id I2'
        have xs : ∀ k i, ¬ (k = v + 6 ∧ i = 8 * g + w) → ¬ (k = v + 7 ∧ i = g) → hq_gi (hq_si (hq_si sx2 (v + 6) (8 * g + w) (Int32.ofNat co)) (v + 7) g (Int32.ofNat (w + 1))) k i = hq_gi sx2 k i := fun k i n1 n2 => by rw [nn_n n2, nn_n n1]
        have xm : ∀ k i, ¬ (k = 186 ∧ i = 24 + (8 * g + w)) → ¬ (k = 185 ∧ i = 3 + g) → hq_gi (hq_si (hq_si sm2 186 (8 * (3 + g) + w) (Int32.ofNat co)) 185 (3 + g) (Int32.ofNat (w + 1))) k i = hq_gi sm2 k i := fun k i n1 n2 => by rw [nn_n n2, nn_n (by omega)]
        have h' : rdl t L v nc nl ng nt kn T ln p2 pl2 q2 a2 b2 (hq_si (hq_si sx2 (v + 6) (8 * g + w) (Int32.ofNat co)) (v + 7) g (Int32.ofNat (w + 1))) (hq_si (hq_si sm2 186 (8 * (3 + g) + w) (Int32.ofNat co)) 185 (3 + g) (Int32.ofNat (w + 1))) := by
          refine ⟨tk_R_X (tk_R_M R2 (fun i _ _ => xm _ _ (by omega) (by omega)) (fun i => xm _ _ (by omega) (by omega))) (fun i _ _ => xs _ _ (by omega) (by omega)) (fun i => xs _ _ (by omega) (by omega)) (fun i => xs _ _ (by omega) (by omega)) rfl, ⟨gv2, hv⟩, ?_, ?_, ⟨(xs _ _ (by omega) (by omega)).trans fx2, (xm _ _ (by omega) (by omega)).trans fm2⟩, (xs _ _ (by omega) (by omega)).trans lx2, (xm _ _ (by omega) (by omega)).trans lm2⟩
          · refine told_beat To2 hg (show w < 8 by omega) e' (fun k i _ _ => xs k i) (fun k i => rfl) (fun k i _ _ => xm k i) nn_g1 nn_g1 ⟨co, hco, ?_, ?_⟩
            · rw [nn_n (by omega), nn_g1]
            · rw [nn_n (by omega), show 24 + (8 * g + w) = 8 * (3 + g) + w by omega, nn_g1]
          · exact rd_I_mk I2' J1 (fun _ _ => rfl) ((xm _ _ (by omega) (by omega)).trans J2) ((xs _ _ (by omega) (by omega)).trans J3) ((xs _ _ (by omega) (by omega)).trans J4) (fun i => xs _ _ (by omega) (by omega)) (fun i => xs _ _ (by omega) (by omega)) (xm _ _ (by omega) (by omega)) (xm _ _ (by omega) (by omega)) (xm _ _ (by omega) (by omega)) ⟨W', W1', (xs _ _ (by omega) (by omega)).trans W2'⟩ (fun i i1 i2 => (xs _ _ (by omega) (by omega)).trans (J13 i i1 i2))
        have := R.2.2.1
        exact ih (w + 1) m m' p2 pl2 q2 a2 b2 _ _ (by omega) (by omega) (by omega) h' nn_g1 (by omega)
      · rw [g1, g2]
        simp only [ob]
        rw [if_pos trivial, if_neg (bad_n B)]
        exact Or.inr ⟨_, _, rfl, rfl, B⟩
    · rw [if_neg hq, if_neg hq, if_pos rfl]
      exact Or.inl ⟨_, _, pl, rfl, rfl, ⟨nc, nl, ng, nt, kn, T, p, q, a, b, h⟩, hpl⟩
theorem L46_f {m : Nat} {x y z : Int32} {s : hq_S} (h : ¬ hq_gi s 174 28 = 0) : f_X12_beatLine_L46 N (m + 1) x y z s = some s := by
  rw [f_X12_beatLine_L46_s]
  unfold f_X12_beatLine_L46_B
  rw [if_neg h]
theorem ln_4 (hN : 1000 < N) {v nc nl ng nt kn T ln : Nat} (h : rdl t L v nc nl ng nt kn T ln p pl 3 4 4 sx sm) : lo N t L v ln pl sx sm := by
  obtain ⟨R, ⟨gv, hv⟩, To, I, ⟨fx, fm⟩, lx, lm⟩ := id h
  obtain ⟨x4, x5, m6, m7⟩ := lx_w R
  have hT : hq_isT v := hv
  obtain ⟨N', rfl⟩ : ∃ k, N = k + 1 := ⟨N - 1, by omega⟩
  have rl : f_X6_readLine (N' + 1) sx = (f_X6_readBeat (N' + 1) sx).bind fun y3 => if mm_rfit (mm_ret mc_X6_readLine) y3.1 = true then some (y3.1, y3.2) else none := by
    unfold f_X6_readLine
    rw [x4, if_pos rfl, show hq_gi sx 49 5 = 4 from x5, if_neg (by decide), if_neg (by decide), if_neg (by decide), if_neg (by decide), if_pos rfl]
  have h0 := rdl_T (w := 4) h (by omega) (by omega) (by omega)
  obtain ⟨p1, pl1, q1, a1, b1', sx1, sm1, r1, r2, R1, r4, k1, k1'⟩ := tk_nx hN h0.1
  have h1 := rdl_k h0 R1 k1 k1'
  obtain ⟨-, ⟨gv1, -⟩, To1, I1, ⟨fx1, fm1⟩, lx1, lm1⟩ := id h1
  have b1 := To1.1
  have cx : hq_gi sx1 v 7 = Int32.ofNat ng := To1.2.1.2.2.2.2.1
  have cm : hq_gi sm1 176 9 = Int32.ofNat ng := To1.2.1.2.2.2.2.2.1
  have he : ∀ i, i < ng → hq_gi sx1 (v + 5) i = hq_gi sm1 183 (3 + i) := fun i hi => (To1.2.2.2.2.2.1 i hi).1
  have al : hq_alI (v + 5) = some 3 ∧ hq_alA (v + 5) = some (Int32.ofNat 3) := by rcases hv with rfl | rfl <;> exact ⟨rfl, rfl⟩
  have hpl := R.2.2.1.2.2 (by omega)
  unfold lo
  rw [rl, lm_4 m6 m7 fm I.1.2.1]
  unfold f_X6_readBeat
  rw [r1, r2]
  simp only [ob]
  rw [gv1, if_pos hT, if_pos hT, cx]
  unfold f_X12_beatLine
  rw [fresher_v (a := 2) (j := 2) rfl (by omega), show hq_gi sm1 176 (7 + 2) = Int32.ofNat ng from cm]
  simp only [ob]
  rw [show f_X12_atHand (N' + 1) 183 (3 : Int32) = f_X12_atHand (N' + 1) 183 (Int32.ofNat 3) from rfl]
  rcases rd_told hN R1 fm1 (kx := v + 5) (km := 183) (Lx := 3) (Lm := 6) (n := ng) (off := 3) al.1 al.2 rfl b1.2.2.1 (by omega) (by omega) (by omega) he with ⟨g, hg, hq0, g1, g2⟩ | ⟨sx2, sm2, g1, g2, B⟩
  · rw [g1, g2]
    simp only [ob]
    obtain ⟨-, -, w, hw, w1, w2, -⟩ := To1.2.2.2.2.2.1 g hg
    have w2' : hq_gi sm1 185 (3 + g) = Int32.ofNat w := w2
    have l1 : hq_ld sm1 185 6 ((3 : Int32) + Int32.ofNat g) = some (Int32.ofNat w) := by rw [show (3 : Int32) + Int32.ofNat g = Int32.ofNat (3 + g) from nb_add 3 g, nn_ld (by omega) (by omega), w2']
    have l2 : ((0 : Int32) < Int32.ofNat w) = (0 < w) := nb_ltp (a := 0) (by omega) (by omega)
    rw [if_neg (nn_nm1 (by omega)), gv1, if_pos hT, nn_ld (by omega) (by omega), w1, if_pos fm1, l1]
    simp only [ob]
    rw [ie l2, ie l2]
    by_cases hw0 : 0 < w
    · rw [if_pos hw0, if_pos hw0, fail_x, fail_m fm1]
      simp only [ob]
      have B' := fail_b R1 (f := 3) (by omega) (by omega)
      have fn : ¬ hq_gi (hq_si (hq_si sm1 174 28 3) 174 29 (hq_gi sm1 174 25)) 174 28 = 0 := fail_n (by decide)
      rw [if_pos (show mm_rfit (mm_ret mc_X6_readBeat) 0 = true from rfl), goOn_f fn]
      simp only [ob]
      rw [L46_f fn]
      simp only [ob]
      rw [lrf0, if_pos rfl, J404_f fn]
      exact Or.inr ⟨_, _, rfl, rfl, B'⟩
    · have hw0' : w = 0 := by omega
      rw [if_neg hw0, if_neg hw0]
      simp only [ob]
      obtain ⟨p2, pl2, q2, a2, b2, sx2, sm2, t1, t2, R2, t4, k2, k2'⟩ := tk_nx hN R1
      have h2 := rdl_k h1 R2 k2 k2'
      have e2 : (hq_gi sx2 49 4 = 2) = (q2 = 2) := tk_kx R2 2 (by omega)
      have fm2 : hq_gi sm2 174 28 = 0 := h2.2.2.2.2.1.2
      rw [t1, goOn_v fm1 t2]
      simp only [ob]
      rw [ie e2]
      by_cases hq : q2 = 2
      · rw [if_pos hq]
        have hpl2 := R1.2.2.1
        rcases lb_loop hN hg 8 0 (N' + 1) (N' + 1) p2 pl2 q2 a2 b2 sx2 sm2 (by omega) (by omega) (by omega) h2 ((kz_ne k2 (by omega)).trans (w1.trans (by rw [hw0']))) (show pl < pl2 by omega) with ⟨sx3, sm3, pl3, c1, c2, c3, c4⟩ | ⟨sx3, sm3, c1, c2, c3⟩
        · rw [if_pos hq] at c2
          rw [show f_X6_readBeat_L77 (N' + 1) (N' + 1) (Int32.ofNat g) 0 sx2 = some (1, sx3) from c1, show f_X12_beatLine_L46 (N' + 1) (N' + 1) ((3 : Int32) + Int32.ofNat g) 0 1 sm2 = some sm3 by rw [show (3 : Int32) + Int32.ofNat g = Int32.ofNat (3 + g) from nb_add 3 g]; exact c2]
          simp only [ob]
          rw [lrf1, if_pos rfl]
          exact Or.inl ⟨_, _, _, pl3, rfl, rfl, c3, c4⟩
        · rw [if_pos hq] at c2
          rw [show f_X6_readBeat_L77 (N' + 1) (N' + 1) (Int32.ofNat g) 0 sx2 = some (0, sx3) from c1, show f_X12_beatLine_L46 (N' + 1) (N' + 1) ((3 : Int32) + Int32.ofNat g) 0 1 sm2 = some sm3 by rw [show (3 : Int32) + Int32.ofNat g = Int32.ofNat (3 + g) from nb_add 3 g]; exact c2]
          simp only [ob]
          rw [lrf0, if_pos rfl, J404_f (bad_n c3)]
          exact Or.inr ⟨_, _, rfl, rfl, c3⟩
      · rw [if_neg hq, fail_x]
        simp only [ob]
        rw [if_pos (show mm_rfit (mm_ret mc_X6_readBeat) 0 = true from rfl), f_X12_beatLine_L46_s]
        unfold f_X12_beatLine_L46_B
        have fn : ¬ hq_gi (hq_si (hq_si sm2 174 28 1) 174 29 (hq_gi sm2 174 25)) 174 28 = 0 := fail_n (by decide)
        rw [if_pos fm2, if_neg (by decide), if_neg (by decide)]
        simp only [ob]
        rw [ca_no R2 fm2 hq]
        simp only [ob]
        rw [if_neg fn]
        simp only [ob]
        rw [lrf0, if_pos rfl, J404_f fn]
        exact Or.inr ⟨_, _, rfl, rfl, fail_b R2 (f := 1) (by omega) (by omega)⟩
  · rw [g1, g2]
    simp only [ob]
    rw [if_pos trivial, if_neg (bad_n B)]
    simp only [ob]
    rw [goOn_f (bad_n B)]
    simp only [ob]
    rw [L46_f (bad_n B)]
    simp only [ob]
    rw [lrf0, if_pos rfl, J404_f (bad_n B)]
    exact Or.inr ⟨_, _, rfl, rfl, B⟩
end
