/-! THE READER: the law's line, read -/
section
variable {N L p pl q a b : Nat} {t : Nat → Nat} {sx sm : hq_S}
theorem lm_8 {T : Nat} (e6 : hq_gi sm 174 26 = 0) (e7 : hq_gi sm 174 27 = 8) (f0 : hq_gi sm 174 28 = 0) (eT : hq_gi sm 174 21 = Int32.ofNat T) : f_X12_line N sm = (f_X12_token N (hq_si sm 174 21 (Int32.ofNat (T ||| 2 ^ 8)))).bind fun s16 => (f_X12_lawLine N s16).bind fun s54 => f_X12_line_J404 N 8 s54 := by
  unfold f_X12_line f_X12_isFull
  rw [e6, if_pos rfl, e7, if_neg (by decide), if_neg (by decide), if_neg (by decide), if_neg (by decide), if_neg (by decide), if_neg (by decide), if_neg (by decide)]
  simp only [ob]
  rw [if_pos trivial, if_neg (by decide), if_neg (by decide)]
  simp only [ob]
  rw [if_pos f0, eT, nn_pi]
  simp only [ob]
  rw [show (1 : Int32) <<< ((8 : Int32) &&& 31) = Int32.ofNat (2 ^ 8) from nb_one (i := 8) (by omega), nb_or]
  refine congrArg (Option.bind _) (funext fun s16 => ?_)
  rw [if_neg (by decide), if_neg (by decide), if_neg (by decide), if_neg (by decide), if_neg (by decide), if_neg (by decide), if_neg (by decide), if_neg (by decide)]
theorem tkc_r : ∀ a, a < 22 → (tk_c a < 9 ↔ a < 9) ∧ (11 < tk_c a ↔ 11 < a) ∧ (a < 12 → tk_c a = a) := by decide
theorem J404_no {w : Int32} (R : tk_R t L p pl q a b sx sm) (f0 : hq_gi sm 174 28 = 0) (h : ¬ (q = 5 ∧ a = 59)) : ∃ sm', f_X12_line_J404 N w sm = some sm' ∧ hq_gi sm' 174 28 = 1 ∧ hq_gi sm' 174 29 = hq_gi sm 174 25 := by
  unfold f_X12_line_J404
  rw [if_pos f0, show (59 : Int32) = Int32.ofNat 59 from rfl, tsm R f0 (by omega), if_neg h]
  simp only [ob]
  rw [if_pos trivial, fail_m f0]
  simp only [ob]
  rw [nn_pi]
  exact ⟨_, rfl, by rw [nn_n (by omega), nn_n (by omega), nn_g1], by rw [nn_n (by omega), nn_g1]⟩
theorem law_fin {v nc nl ng nt kn T ln r pl1 p1 q1 a1 b1 p5 pl5 q5 a5 b5 due nf5 kt5 kn5 : Nat} {sx1 sm1 sx4 sm4 sx6 sm5 : hq_S} (hr3 : r < 3) (h1 : rdl t L v nc nl ng nt kn T ln p1 pl1 q1 a1 b1 sx1 sm1) (h6 : EX t L v kn sx4 sm4 [] [] p5 pl5 q5 a5 b5 due nf5 0 kt5 kn5 kn5 1 sx6 sm5)
    (A : ∀ k i, ¬ (k = 49 ∧ 3 ≤ i ∧ i ≤ 6) → ¬ (k = 48 ∧ 3 ≤ i ∧ i ≤ 6) → ¬ (k = v + 11 ∧ i = r) → hq_gi sx4 k i = hq_gi sx1 k i) (A2 : sx4.2 = sx1.2) (A3 : hq_gi sx4 (v + 11) r = Int32.ofNat kn)
    (B : ∀ k i, ¬ (k = 174 ∧ (24 ≤ i ∧ i ≤ 27 ∨ i = 21)) → ¬ (k = 190 ∧ i = 3 + r) → hq_gi sm4 k i = hq_gi sm1 k i) (B3 : hq_gi sm4 190 (3 + r) = Int32.ofNat kn) (B21 : hq_gi sm4 174 21 = Int32.ofNat (T ||| 2 ^ (16 + r))) :
    rdl t L v nc nl ng nt kn5 (T ||| 2 ^ (16 + r)) ln p5 pl5 q5 a5 b5 (hq_si sx6 (v + 9 + 3) r (Int32.ofNat kn5)) (hq_si sm5 191 (3 + r) (Int32.ofNat kn5)) := by
  obtain ⟨-, ⟨gv1, hv⟩, To1, ⟨⟨J1, J2, J3, J4⟩, J5, ⟨J6, -⟩, ⟨W, W1, W2⟩, J13⟩, ⟨fx1, fm1⟩, lx1, lm1⟩ := h1
  obtain ⟨R6, ⟨-, gv6⟩, -, ⟨-, -, -, -, o5⟩, -, ⟨c1', c2', c3'⟩, ⟨n1, n2, n3, n4, n5⟩, ⟨n6, -⟩, ⟨D, D1, D2, D3⟩, kx, km, -⟩ := h6
  have n3' : kn5 = kt5 := by simpa [sg] using n3
  have hlt : kn < kn5 := by
    by_cases w : kn = kn5
    · rw [← w] at D2; omega
    · omega
  obtain ⟨bb1, bb2, bb3⟩ := bits_or (w := 16 + r) J1 (by omega)
  have v2 : v ≤ 25 := by omega
  have v3 : 2 ≤ v := by omega
  have xk : ∀ k i, ¬ (k = 49 ∧ 3 ≤ i ∧ i ≤ 6) → ¬ (k = 48 ∧ 3 ≤ i ∧ i ≤ 6) → ¬ k = 75 → ¬ (k = v + 9 ∧ i < 2) → ¬ (k = v + 10 ∧ kn ≤ i) → ¬ (k = v + 11 ∧ i = r) → ¬ (k = v + 12 ∧ i = r) → hq_gi (hq_si sx6 (v + 9 + 3) r (Int32.ofNat kn5)) k i = hq_gi sx1 k i := fun k i g1 g2 g3 g4 g5 g6 g7 => by rw [nn_n g7, kx.1 k i g1 g2 g3 g4 g5, A k i g1 g2 g6]
  have mk : ∀ k i, ¬ (k = 174 ∧ (24 ≤ i ∧ i ≤ 27 ∨ i = 32 ∨ i = 33 ∨ i = 21)) → ¬ (k = 176 ∧ i = 13) → ¬ ((k = 192 ∨ k = 193) ∧ 64 + kn ≤ i) → ¬ (k = 190 ∧ i = 3 + r) → ¬ (k = 191 ∧ i = 3 + r) → hq_gi (hq_si sm5 191 (3 + r) (Int32.ofNat kn5)) k i = hq_gi sm1 k i := fun k i g1 g2 g3 g4 g5 => by rw [nn_n g5, km.1 k i (by clear xk; omega) g2 g3, B k i (by clear xk; omega) g4]
  refine ⟨tk_R_X (tk_R_M R6 (fun i _ _ => nn_n (by omega)) (fun i => nn_n (by omega))) (fun i _ _ => nn_n (by omega)) (fun i => nn_n (by omega)) (fun i => nn_n (by omega)) rfl, ⟨gv6, hv⟩, ?_, ⟨⟨bb1, ?_, ?_, ?_⟩, fun r' hr' => ?_, ⟨by omega, ?_, ?_, ?_, ?_, ?_⟩, ⟨W, W1, ?_⟩, fun i i1 i2 => ?_⟩, ⟨?_, ?_⟩, ?_, ?_⟩
  · refine told_law (k0 := kn) (r := r) To1 hr3 J6 (fun k i g1 g2 g3 g4 g5 g6 => xk k i (by omega) (by omega) (by omega) g3 g4 g5 g6) (fun k i => ?_) (fun k i g1 g2 g3 g4 g5 g6 => mk k i (by omega) g3 g4 g5 g6) (fun r' hr' => ?_) ⟨kn5, by omega, ?_, ?_⟩ ?_
    · show hq_gj sx6 k i = _
      have q1 : sx6.2 = sx1.2 := kx.2.trans A2
      unfold hq_gj
      rw [q1]
    · obtain ⟨e', w1, w2, -⟩ := J5 r' hr'
      exact ⟨e', w1, w2⟩
    · rw [nn_n (by omega), c2', n3']
    · rw [nn_n (by omega)]; exact n5
    · unfold hr_rule
      simp only [sh_190, sh_191, sh_192, sh_193]
      refine ⟨kn, kn5, by omega, by omega, ?_, ?_, ?_, ?_, fun w => by omega, fun j' j1 j2 => ?_, fun _ => ⟨D, D1, by omega, fun j' j1 j2 => ?_⟩⟩
      · rw [nn_n (by omega), kx.1 _ _ (by omega) (by omega) (by omega) (by omega) (by omega)]; exact A3
      · rw [nn_n (by omega), km.1 _ _ (by omega) (by omega) (by omega)]; exact B3
      · exact nn_g1
      · exact nn_g1
      · rw [nn_n (by omega), nn_n (by omega), nn_n (by omega)]; exact n6 j' j1 j2
      · rw [nn_n (by omega), nn_n (by omega)]; exact D3 j' j1 j2
  · rw [nn_n (by omega), km.1 _ _ (by omega) (by omega) (by omega)]; exact B21
  · rw [xk _ _ (by omega) (by omega) (by omega) (by omega) (by omega) (by omega) (by omega), J3, bb3 6 (by omega)]
  · rw [xk _ _ (by omega) (by omega) (by omega) (by omega) (by omega) (by omega) (by omega), J4, bb3 7 (by omega)]
  · by_cases w : r' = r
    · refine ⟨kn5, Nat.le_refl _, by rw [w]; exact nn_g1, by rw [w]; exact ⟨fun _ => by omega, fun _ => bb2⟩⟩
    · obtain ⟨e', w1, w2, w3⟩ := J5 r' hr'
      refine ⟨e', by omega, by rw [xk _ _ (by omega) (by omega) (by omega) (by omega) (by omega) (by omega) (by omega)]; exact w2, by rw [bb3 _ (by omega)]; exact w3⟩
  · rw [nn_n (by omega), c2', n3']
  · rw [nn_n (by omega)]; exact n4
  · rw [nn_n (by omega)]; exact n5
  · rw [nn_n (by omega), c3', n3']
  · rw [nn_n (by omega), o5]; rfl
  · rw [xk _ _ (by omega) (by omega) (by omega) (by omega) (by omega) (by omega) (by omega)]; exact W2
  · rw [xk _ _ (by omega) (by omega) (by omega) (by omega) (by omega) (by omega) (by omega)]; exact J13 i i1 i2
  · rw [xk _ _ (by omega) (by omega) (by omega) (by omega) (by omega) (by omega) (by omega)]; exact fx1
  · rw [mk _ _ (by omega) (by omega) (by omega) (by omega) (by omega)]; exact fm1
  · rw [xk _ _ (by omega) (by omega) (by omega) (by omega) (by omega) (by omega) (by omega)]; exact lx1
  · rw [mk _ _ (by omega) (by omega) (by omega) (by omega) (by omega)]; exact lm1
set_option maxHeartbeats 4000000 in
theorem ln_8 (hN : 1000 < N) {v nc nl ng nt kn T ln : Nat} (h : rdl t L v nc nl ng nt kn T ln p pl 3 8 8 sx sm) : lo N t L v ln pl sx sm := by
  obtain ⟨R, ⟨gv, hv⟩, To, I, ⟨fx, fm⟩, lx, lm⟩ := id h
  obtain ⟨x4, x5, m6, m7⟩ := lx_w R
  have hT : hq_isT v := hv
  have rl : f_X6_readLine N sx = (f_X6_readLaw N sx).bind fun y3 => if mm_rfit (mm_ret mc_X6_readLine) y3.1 = true then some (y3.1, y3.2) else none := by
    unfold f_X6_readLine
    rw [x4, if_pos rfl, show hq_gi sx 49 5 = 8 from x5, if_neg (by decide), if_neg (by decide), if_neg (by decide), if_neg (by decide), if_neg (by decide), if_neg (by decide), if_neg (by decide), if_neg (by decide), if_pos rfl]
  have h0 := rdl_T (w := 8) h (by omega) (by omega) (by omega)
  obtain ⟨p1, pl1, q1, a1, b1, sx1, sm1, r1, r2, R1, r4, k1, k1'⟩ := tk_nx hN h0.1
  have h1 := rdl_k h0 R1 k1 k1'
  obtain ⟨-, ⟨gv1, -⟩, To1, I1, ⟨fx1, fm1⟩, lx1, lm1⟩ := id h1
  obtain ⟨⟨J1, J2, J3, J4⟩, J5, ⟨J6, J7, J8, J9, J10, J11⟩, ⟨W, W1, W2⟩, J13⟩ := id I1
  have hpl := R.2.2.1.2.2 (by omega)
  have hL7 : L ≤ 700 := R.1.1
  have e3 : (hq_gi sx1 49 4 = 3) = (q1 = 3) := tk_kx R1 3 (by omega)
  have n0 : (hq_gi sm1 174 26 = 0) = (q1 = 3) := tk_km R1 3 (by omega)
  unfold lo
  rw [rl, lm_8 m6 m7 fm I.1.2.1]
  unfold f_X6_readLaw
  rw [r1, r2]
  simp only [ob]
  rw [ie e3]
  by_cases hw : q1 = 3 ∧ 9 ≤ a1 ∧ a1 ≤ 11
  · obtain ⟨hq, ha1, ha2⟩ := hw
    obtain ⟨v1, v2⟩ := R1.2.2.2.2.2.2.2 (by omega)
    obtain ⟨la, hab⟩ := R1.2.2.2.2.2.2.1.2.2.1 hq
    have hb : b1 = a1 := hab.trans ((tkc_r a1 la).2.2 (by omega))
    obtain ⟨r, hr⟩ : ∃ r, a1 = 9 + r := ⟨a1 - 9, by omega⟩
    have hr3 : r < 3 := by omega
    have vr : hq_gi sx1 49 5 - (9 : Int32) = Int32.ofNat r := by rw [v1, show Int32.ofNat a1 - (9 : Int32) = Int32.ofNat (a1 - 9) from nb_sub (b := 9) (by omega), show a1 - 9 = r by omega]
    have wr : hq_gi sm1 174 27 - (9 : Int32) = Int32.ofNat r := by rw [v2, hb, show Int32.ofNat a1 - (9 : Int32) = Int32.ofNat (a1 - 9) from nb_sub (b := 9) (by omega), show a1 - 9 = r by omega]
    obtain ⟨e, e1, e2, e3'⟩ := J5 r hr3
    -- the class ahead of the rule
    rw [if_pos hq]
    simp only [ob]
    rw [vr, if_neg (nn_nlt0 (by omega)), ie (show (Int32.ofNat r < 3) = (r < 3) from nb_ltp (b := 3) (by omega) (by omega)), if_pos hr3, gv1, if_pos hT]
    unfold f_X4_isTold
    rw [nn_ld (by omega) (by omega), e2]
    simp only [ob]
    rw [ie (show ((0 : Int32) < Int32.ofNat e) = (0 < e) from nb_ltp (a := 0) (by omega) (by omega))]
    -- the reference
    have lw : f_X12_lawLine N sm1 = if 0 < e then some (hq_si (hq_si sm1 174 28 3) 174 29 (hq_gi sm1 174 25)) else (f_X12_token N (hq_si sm1 174 21 (Int32.ofNat ((T ||| 2 ^ 8) ||| 2 ^ (16 + r))))).bind fun s14 => (f_X12_fresher N (6 : Int32) s14).bind fun y15 => (hq_st y15.2 190 6 (Int32.ofNat (3 + r)) y15.1).bind fun s16 => (f_X12_expression N s16).bind fun s17 => (f_X12_fresher N (6 : Int32) s17).bind fun y18 => (hq_st y18.2 191 6 (Int32.ofNat (3 + r)) y18.1).bind fun s19 => some s19 := by
      unfold f_X12_lawLine
      rw [ie n0, if_pos hq, v2, hb, ie (show (Int32.ofNat a1 < 9) = (a1 < 9) from nb_ltp (b := 9) (by omega) (by omega)), if_neg (by omega), ie (show ((11 : Int32) < Int32.ofNat a1) = (11 < a1) from nb_ltp (a := 11) (by omega) (by omega)), if_neg (by omega)]
      simp only [ob]
      rw [if_pos fm1, J2, wr, show (16 : Int32) + Int32.ofNat r = Int32.ofNat (16 + r) from nb_add 16 r, show (3 : Int32) + Int32.ofNat r = Int32.ofNat (3 + r) from nb_add 3 r, ie (nb_bit1 (m := T ||| 2 ^ 8) (i := 16 + r) (by omega) (by omega))]
      by_cases c : 0 < e
      · rw [if_pos (e3'.mpr c), if_pos c, fail_m fm1]
        simp only [ob]
        rw [if_neg (fail_n (f := 3) (by decide))]
      · rw [if_neg (fun w => c (e3'.mp w)), if_neg c]
        simp only [ob]
        rw [if_pos fm1, J2, nb_one (i := 16 + r) (by omega), nb_or, nn_pi]
        rfl
    rw [lw]
    by_cases c : 0 < e
    · rw [if_pos c, if_pos c]
      simp only [ob]
      rw [if_neg (by decide), fail_x]
      simp only [ob]
      rw [if_pos (show mm_rfit (mm_ret mc_X6_readLaw) 0 = true from rfl)]
      simp only [ob]
      have B := fail_b R1 (f := 3) (by omega) (by omega)
      rw [lrf0, if_pos rfl, J404_f (show ¬ hq_gi (hq_si (hq_si sm1 174 28 3) 174 29 (hq_gi sm1 174 25)) 174 28 = 0 from fail_n (by decide))]
      exact Or.inr ⟨_, _, rfl, rfl, B⟩
    · rw [if_neg c, if_neg c]
      simp only [ob]
      rw [if_pos trivial]
      have R2 : tk_R t L p1 pl1 q1 a1 b1 sx1 (hq_si sm1 174 21 (Int32.ofNat ((T ||| 2 ^ 8) ||| 2 ^ (16 + r)))) := tk_R_M R1 (fun i _ _ => nn_n (by omega)) (fun i => nn_n (by omega))
      obtain ⟨p3, pl3, q3, a3, b3, sx3, sm3, t1, t2, R3, t4, k3, k3'⟩ := tk_nx hN R2
      have X3 := kzx k3
      have M3 := kzm k3'
      have gv3 : hq_gr sx3 48 1 = v := (kz_gr k3 _ _).trans gv1
      rw [t1, t2]
      simp only [ob]
      rw [gv3, if_pos hT]
      unfold f_X4_open
      have put3 : hq_gi sx3 (v + 9) 1 = Int32.ofNat kn := (X3 _ _ (by omega)).trans J8
      have kn3 : hq_gi sm3 176 (7 + 6) = Int32.ofNat kn := (M3 _ _ (by omega)).trans ((nn_n (by omega)).trans J9)
      rw [put3, nn_st (by omega) (by omega), fresher_v (a := 6) (j := 6) rfl (by omega), kn3]
      simp only [ob]
      rw [nn_pi]
      simp only [ob]
      rw [nn_pi]
      simp only [ob]
      rw [nn_pi1]
      simp only [ob]
      rw [nn_pi1, nn_st (by omega) (by omega)]
      simp only [ob]
      generalize esx : hq_si (hq_si (hq_si (hq_si (hq_si sx3 (v + 9 + 2) r (Int32.ofNat kn)) 48 3 0) 48 4 0) 48 5 1) 48 6 1 = sx4
      generalize esm : hq_si sm3 190 (3 + r) (Int32.ofNat kn) = sm4
      have X4 : ∀ k i, ¬ (k = 48 ∧ 3 ≤ i ∧ i ≤ 6) → ¬ (k = v + 11 ∧ i = r) → hq_gi sx4 k i = hq_gi sx3 k i := fun k i n1 n2 => by rw [← esx, nn_n (by omega), nn_n (by omega), nn_n (by omega), nn_n (by omega), nn_n (by omega)]
      have M4 : ∀ k i, ¬ (k = 190 ∧ i = 3 + r) → hq_gi sm4 k i = hq_gi sm3 k i := fun k i n1 => by rw [← esm, nn_n n1]
      have hE : EX t L v kn sx4 sm4 [] [] p3 pl3 q3 a3 b3 1 1 0 kn kn kn 0 sx4 sm4 := by
        refine ⟨tk_R_X (tk_R_M R3 (fun i _ _ => M4 _ _ (by omega)) (fun i => M4 _ _ (by omega))) (fun i _ _ => X4 _ _ (by omega) (by omega)) (fun i => X4 _ _ (by omega) (by omega)) (fun i => X4 _ _ (by omega) (by omega)) (by rw [← esx]; rfl), ⟨hv, by rw [← esx]; exact gv3⟩, ⟨?_, trivial⟩, ⟨by omega, rfl, ge_nil, ?_, ?_⟩, ⟨?_, ?_⟩, ⟨J6, ?_, ?_⟩, ⟨Nat.le_refl _, rfl, by simp [sg], ?_, ?_⟩, ⟨fun j j1 j2 => by omega, trivial⟩, ⟨fun _ => 0, rfl, rfl, fun j j1 j2 => by omega⟩, ⟨fun _ _ _ _ _ _ _ => rfl, rfl⟩, ⟨fun _ _ _ _ _ => rfl, rfl⟩, ?_⟩
        · rw [← esx, nn_n (by omega), nn_n (by omega), nn_n (by omega), nn_g1]; rfl
        · rw [← esx, nn_n (by omega), nn_n (by omega), nn_g1]; rfl
        · rw [M4 _ _ (by omega), M3 _ _ (by omega), nn_n (by omega), J11]; rfl
        · rw [← esx, nn_n (by omega), nn_g1]; rfl
        · rw [← esx, nn_g1]; rfl
        · rw [X4 _ _ (by omega) (by omega), X3 _ _ (by omega)]; exact J7
        · rw [M4 _ _ (by omega), M3 _ _ (by omega), nn_n (by omega)]; exact J10
        · rw [X4 _ _ (by omega) (by omega)]; exact put3
        · rw [M4 _ _ (by omega)]; exact kn3
        · rw [M4 _ _ (by omega), M3 _ _ (by omega), nn_n (by omega)]; exact fm1
      have A : ∀ k i, ¬ (k = 49 ∧ 3 ≤ i ∧ i ≤ 6) → ¬ (k = 48 ∧ 3 ≤ i ∧ i ≤ 6) → ¬ (k = v + 11 ∧ i = r) → hq_gi sx4 k i = hq_gi sx1 k i := fun k i g1 g2 g3 => (X4 k i g2 g3).trans (X3 k i g1)
      have A2 : sx4.2 = sx1.2 := by rw [← esx]; exact k3.2
      have A3 : hq_gi sx4 (v + 11) r = Int32.ofNat kn := by
        rw [← esx, nn_n (by omega), nn_n (by omega), nn_n (by omega), nn_n (by omega)]
        exact nn_g1
      have B : ∀ k i, ¬ (k = 174 ∧ (24 ≤ i ∧ i ≤ 27 ∨ i = 21)) → ¬ (k = 190 ∧ i = 3 + r) → hq_gi sm4 k i = hq_gi sm1 k i := fun k i g1 g2 => by rw [M4 k i g2, M3 k i (by omega), nn_n (by omega)]
      have B3 : hq_gi sm4 190 (3 + r) = Int32.ofNat kn := by rw [← esm, nn_g1]
      have B21 : hq_gi sm4 174 21 = Int32.ofNat ((T ||| 2 ^ 8) ||| 2 ^ (16 + r)) := by rw [M4 _ _ (by omega), M3 _ _ (by omega), nn_g1]
      obtain ⟨sm5, g1, g2⟩ := G_all (t := t) (L := L) (v := v) (k0 := kn) (sx0 := sx4) (sm0 := sm4) hN 200 0 (by omega) [] p3 pl3 q3 a3 b3 1 0 kn kn 0 sx4 sm4 hE trivial (Or.inl ⟨by omega, rfl⟩) (by omega)
      rw [show f_X12_expression N sm4 = some sm5 from g1]
      simp only [ob]
      rw [fresher_v (a := 6) (j := 6) rfl (by omega)]
      simp only [ob]
      rw [nn_st (by omega) (by omega)]
      simp only [ob]
      rcases g2 with ⟨j, sx5, Q, p5, pl5, q5, a5, b5, nf5, kt5, pc5, kn5, c1, c2, c3, h5, c5, c6⟩ | ⟨j, sx5, sx6, c1, c2, c3, c4⟩
      · have hpl5 := EX_pl h5
        have hP3 := R3.2.2.1
        have hP1 := R1.2.2.1
        obtain ⟨M, rfl⟩ : ∃ m, N = m + 2 + j := ⟨N - 2 - j, by omega⟩
        rw [show f_X6_readLaw_L110 (M + 2 + j) (M + 2 + j) (Int32.ofNat r) 1 0 sx4 = f_X6_readLaw_L110 (M + 2 + j) (M + 2) (Int32.ofNat r) 1 (Int32.ofNat (0 + j)) sx5 from rch_run j (M + 2) 0 sx4 sx5 c1 (by omega)]
        obtain ⟨t6, t5, t4', t2', t1'⟩ := c6
        have l7 := tl_lt q5 a5
        have f5 := EX_f h5
        by_cases l4 : tl q5 a5 = 4
        · obtain ⟨sx6, d1, d2⟩ := rj_ct hN h5 l4 (t4' (by omega) l4)
          rw [rch_end ((stp_j h5).trans d1) (by omega)]
          unfold f_X6_readLaw_J146
          rw [if_neg (bad_x d2)]
          simp only [ob]
          obtain ⟨sm6, z1, z2, z3⟩ := J404_no (N := M + 2 + j) (w := 8) (sx := sx5) (sm := hq_si sm5 191 (3 + r) (hq_gi sm5 176 (7 + 6))) (tk_R_M h5.1 (fun i _ _ => nn_n (by omega)) (fun i => nn_n (by omega))) (by rw [nn_n (by omega)]; exact f5) (fun w => by rw [w.1, w.2] at l4; exact absurd l4 (by decide))
          rw [z1, lrf0, if_pos rfl]
          refine Or.inr ⟨_, _, rfl, rfl, bad_k d2 rfl rfl ?_ ?_⟩
          · rw [z2, nn_n (by omega), nn_g1]
          · rw [z3, nn_n (by omega), nn_g1]
        · have := t6 (by omega)
          have := t5 (by omega)
          have := t2' (by omega)
          have := t1' rfl
          rcases rj_end hN h5 (by omega) (Or.inr rfl) trivial with ⟨w, -⟩ | ⟨-, sx6, d1, h6⟩
          · omega
          rw [rch_end ((stp_j h5).trans d1) (by omega)]
          obtain ⟨R6, ⟨-, gv6⟩, -, ⟨-, -, -, -, o5⟩, -, ⟨c1', c2', c3'⟩, ⟨n1, n2, n3, n4, n5⟩, ⟨n6, -⟩, ⟨D, D1, D2, D3⟩, kx, km, -⟩ := id h6
          have n3' : kn5 = kt5 := by simpa [sg] using n3
          have hlt : kn < kn5 := by
            by_cases w : kn = kn5
            · rw [← w] at D2; omega
            · omega
          have fx6 : hq_gi sx6 48 7 = 0 := by rw [kx.1 _ _ (by omega) (by omega) (by omega) (by omega) (by omega), X4 _ _ (by omega) (by omega), X3 _ _ (by omega)]; exact fx1
          unfold f_X6_readLaw_J146 f_X4_close
          rw [if_pos fx6, gv6, if_pos hT, n4, nn_st (by omega) (by omega), show hq_gi sm5 176 (7 + 6) = Int32.ofNat kn5 from n5]
          simp only [ob]
          rw [lrf1, if_pos rfl]
          exact Or.inl ⟨8, _, _, pl5, rfl, rfl, ⟨nc, nl, ng, nt, kn5, (T ||| 2 ^ 8) ||| 2 ^ (16 + r), p5, q5, a5, b5, law_fin hr3 h1 h6 A A2 A3 B B3 B21⟩, by omega⟩
      · obtain ⟨M, rfl⟩ : ∃ m, N = m + 2 + j := ⟨N - 2 - j, by omega⟩
        rw [show f_X6_readLaw_L110 (M + 2 + j) (M + 2 + j) (Int32.ofNat r) 1 0 sx4 = f_X6_readLaw_L110 (M + 2 + j) (M + 2) (Int32.ofNat r) 1 (Int32.ofNat (0 + j)) sx5 from rch_run j (M + 2) 0 sx4 sx5 c1 (by omega), rch_end c2 (by omega)]
        unfold f_X6_readLaw_J146
        rw [if_neg (bad_x c3)]
        simp only [ob]
        have B := bad_k (sx' := sx6) (sm' := hq_si sm5 191 (3 + r) (hq_gi sm5 176 (7 + 6))) c3 rfl rfl (nn_n (by omega)) (nn_n (by omega))
        rw [lrf0, if_pos rfl, J404_f (bad_n B)]
        exact Or.inr ⟨_, _, rfl, rfl, B⟩
  · have cx : (if q1 = 3 then some (hq_gi sx1 49 5 - (9 : Int32)) else some (-1)).bind (fun z2 => if z2 < 0 then f_X6_readLaw_J42 N z2 sx1 else if z2 < (3 : Int32) then if hq_isT (hq_gr sx1 48 1) then (f_X4_isTold N ((hq_gr sx1 48 1) + 9) z2 sx1).bind fun y8 => if y8.1 = 0 then (f_X9_advance N y8.2).bind fun s10 => if hq_isT (hq_gr s10 48 1) then (f_X4_open N ((hq_gr s10 48 1) + 9) z2 s10).bind fun s12 => (hq_pi s12 48 3 0 (0 : Int32)).bind fun s13 => (hq_pi s13 48 4 0 (0 : Int32)).bind fun s14 => (hq_pi s14 48 5 1 (1 : Int32)).bind fun s15 => (hq_pi s15 48 6 1 (1 : Int32)).bind fun s16 => f_X6_readLaw_L110 N N z2 (1 : Int32) (0 : Int32) s16 else none else (f_X6_failed N (3 : Int32) y8.2).bind fun y26 => if mm_rfit (mm_ret mc_X6_readLaw) y26.1 = true then some (y26.1, y26.2) else none else none else f_X6_readLaw_J42 N z2 sx1) = some (0, hq_si (hq_si sx1 48 7 1) 48 8 (hq_gi sx1 49 6)) := by
      have j42 : ∀ z, f_X6_readLaw_J42 N z sx1 = some (0, hq_si (hq_si sx1 48 7 1) 48 8 (hq_gi sx1 49 6)) := fun z => by
        unfold f_X6_readLaw_J42
        rw [fail_x]
        simp only [ob]
        rw [if_pos (show mm_rfit (mm_ret mc_X6_readLaw) 0 = true from rfl)]
      by_cases hq : q1 = 3
      · obtain ⟨v1, v2⟩ := R1.2.2.2.2.2.2.2 (by omega)
        obtain ⟨la, hab⟩ := R1.2.2.2.2.2.2.1.2.2.1 hq
        rw [if_pos hq]
        simp only [ob]
        rw [v1]
        have neg : ∀ a, a < 9 → Int32.ofNat a - (9 : Int32) < 0 := by decide
        by_cases c : a1 < 9
        · rw [if_pos (neg a1 c), j42]
        · rw [show Int32.ofNat a1 - (9 : Int32) = Int32.ofNat (a1 - 9) from nb_sub (b := 9) (by omega), if_neg (nn_nlt0 (by omega)), ie (show (Int32.ofNat (a1 - 9) < 3) = (a1 - 9 < 3) from nb_ltp (b := 3) (by omega) (by omega)), if_neg (by omega), j42]
      · rw [if_neg hq]
        simp only [ob]
        rw [if_pos (by decide), j42]
    have cm : f_X12_lawLine N sm1 = some (hq_si (hq_si sm1 174 28 1) 174 29 (hq_gi sm1 174 25)) := by
      have fn : ¬ hq_gi (hq_si (hq_si sm1 174 28 1) 174 29 (hq_gi sm1 174 25)) 174 28 = 0 := fail_n (by decide)
      have z1 : (if q1 = 3 then if (hq_gi sm1 174 27) < (9 : Int32) then (f_X12_wrong N (1 : Int32) sm1).bind fun s5 => some s5 else if (11 : Int32) < (hq_gi sm1 174 27) then (f_X12_wrong N (1 : Int32) sm1).bind fun s7 => some s7 else some sm1 else (f_X12_wrong N (1 : Int32) sm1).bind fun s3 => some s3) = some (hq_si (hq_si sm1 174 28 1) 174 29 (hq_gi sm1 174 25)) := by
        rw [fail_m fm1]
        simp only [ob]
        by_cases hq : q1 = 3
        · obtain ⟨v1, v2⟩ := R1.2.2.2.2.2.2.2 (by omega)
          obtain ⟨la, hab⟩ := R1.2.2.2.2.2.2.1.2.2.1 hq
          have lb : b1 < 22 := hab ▸ (kk_ok a1 la).2
          obtain ⟨w1, w2, -⟩ := tkc_r a1 la
          rw [if_pos hq, v2, ie (show (Int32.ofNat b1 < 9) = (b1 < 9) from nb_ltp (b := 9) (by omega) (by omega)), ie (show ((11 : Int32) < Int32.ofNat b1) = (11 < b1) from nb_ltp (a := 11) (by omega) (by omega))]
          rw [← hab] at w1 w2
          by_cases c : b1 < 9
          · rw [if_pos c]
          · rw [if_neg c, if_pos (w2.mpr (by omega))]
        · rw [if_neg hq]
      unfold f_X12_lawLine
      rw [ie n0, z1]
      simp only [ob]
      rw [if_neg fn]
      simp only [ob]
      rw [if_neg fn]
    rw [cx, cm]
    simp only [ob]
    have B := fail_b R1 (f := 1) (by omega) (by omega)
    rw [lrf0, if_pos rfl, J404_f (show ¬ hq_gi (hq_si (hq_si sm1 174 28 1) 174 29 (hq_gi sm1 174 25)) 174 28 = 0 from fail_n (by decide))]
    exact Or.inr ⟨_, _, rfl, rfl, B⟩
end
