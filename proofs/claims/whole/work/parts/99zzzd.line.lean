/-! THE READER: lines -/
theorem ob {α β : Type} (x : α) (f : α → Option β) : (some x).bind f = f x := by
  cases h : f x <;> simp [h]
theorem nn_n {s : hq_S} {k i k' i' : Nat} {x : Int32} (h : ¬ (k' = k ∧ i' = i)) : hq_gi (hq_si s k i x) k' i' = hq_gi s k' i' := if_neg h
/-- what holds besides, ahead of a line -/
def rd_I (v nl ng kn T : Nat) (sx sm : hq_S) : Prop :=
  (T < 1048576 ∧ hq_gi sm 174 21 = Int32.ofNat T ∧ hq_gi sx v 14 = (if T.testBit 6 = true then 1 else 0) ∧ hq_gi sx v 15 = (if T.testBit 7 = true then 1 else 0)) ∧
  (∀ r, r < 3 → ∃ e, e ≤ kn ∧ hq_gi sx (v + 12) r = Int32.ofNat e ∧ (T.testBit (16 + r) = true ↔ 0 < e)) ∧
  (kn ≤ 64 ∧ hq_gi sx (v + 9) 0 = Int32.ofNat kn ∧ hq_gi sx (v + 9) 1 = Int32.ofNat kn ∧ hq_gi sm 176 13 = Int32.ofNat kn ∧ hq_gi sm 174 33 = Int32.ofNat kn ∧ hq_gi sm 174 32 = 0) ∧
  (∃ W, W < 2 ^ nl ∧ hq_gi sx v 6 = Int32.ofNat W) ∧ ∀ i, ng ≤ i → i < 3 → hq_gi sx (v + 7) i = 0
def rdl (t : Nat → Nat) (L v nc nl ng nt kn T ln p pl q a b : Nat) (sx sm : hq_S) : Prop :=
  tk_R t L p pl q a b sx sm ∧ (hq_gr sx 48 1 = v ∧ (v = 2 ∨ v = 25)) ∧ hr_told nc nl ng nt v sx (sh sm) ∧ rd_I v nl ng kn T sx sm ∧ (hq_gi sx 48 7 = 0 ∧ hq_gi sm 174 28 = 0) ∧ (hq_gi sx 48 9 = Int32.ofNat ln ∧ hq_gi sm 174 22 = Int32.ofNat ln)
/-- ahead of a line, or of its ; -/
def RD (t : Nat → Nat) (L v ln pl : Nat) (sx sm : hq_S) : Prop := ∃ nc nl ng nt kn T p q a b, rdl t L v nc nl ng nt kn T ln p pl q a b sx sm
/-- a line's outcome: both read it, up to its ;, or both found the same fault -/
def lo (N : Nat) (t : Nat → Nat) (L v ln pl : Nat) (sx sm : hq_S) : Prop := (∃ w sx' sm' pl', f_X6_readLine N sx = some (1, sx') ∧ f_X12_line N sm = f_X12_line_J404 N w sm' ∧ RD t L v ln pl' sx' sm' ∧ pl < pl') ∨ ∃ sx' sm', f_X6_readLine N sx = some (0, sx') ∧ f_X12_line N sm = some sm' ∧ bad sx' sm'
theorem bits_or {T w : Nat} (hT : T < 1048576) (hw : w < 20) : T ||| 2 ^ w < 1048576 ∧ (T ||| 2 ^ w).testBit w = true ∧ ∀ j, ¬ w = j → (T ||| 2 ^ w).testBit j = T.testBit j := by
  refine ⟨nb_lt_or (k := 20) hT (nb_2lt hw), ?_, fun j hj => ?_⟩
  · rw [Nat.testBit_or, nb_2p, decide_eq_true rfl, Bool.or_true]
  · rw [Nat.testBit_or, nb_2p, decide_eq_false hj, Bool.or_false]
theorem lrf0 : mm_rfit (mm_ret mc_X6_readLine) 0 = true := rfl
theorem lrf1 : mm_rfit (mm_ret mc_X6_readLine) 1 = true := rfl
section
variable {N L p pl q a b : Nat} {t : Nat → Nat} {sx sm : hq_S}
theorem J404_f {w : Int32} {s : hq_S} (h : ¬ hq_gi s 174 28 = 0) : f_X12_line_J404 N w s = some s := by
  unfold f_X12_line_J404
  rw [if_neg h]
theorem pass_v {n m : Nat} {s : hq_S} (hn : n < 1000) (hm : m < 1000) : f_X6_passLineWord N (Int32.ofNat n) (Int32.ofNat m) s = if n < m then (f_X9_advance N s).bind fun s2 => some ((1 : Int32), s2) else some (0, hq_si (hq_si s 48 7 2) 48 8 (hq_gi s 49 6)) := by
  unfold f_X6_passLineWord
  rw [ie (nb_ltp (by omega) (by omega)), fail_x]
  rfl
/-- the class's part of a line -/
theorem lx_w (R : tk_R t L p pl 3 a b sx sm) : hq_gi sx 49 4 = 3 ∧ hq_gi sx 49 5 = Int32.ofNat a ∧ hq_gi sm 174 26 = 0 ∧ hq_gi sm 174 27 = Int32.ofNat b := ⟨R.2.2.2.2.2.1.1, (R.2.2.2.2.2.2.2 (by omega)).1, R.2.2.2.2.2.1.2, (R.2.2.2.2.2.2.2 (by omega)).2⟩
def lc_0 (n : Nat) (s16 : hq_S) : Option hq_S := (f_X12_fresher n (0 : Int32) s16).bind fun y18 => (f_X12_fresher n (0 : Int32) y18.2).bind fun y19 => (f_X12_fresh n 177 (10 : Int32) y19.1 y19.2).bind fun y20 => (hq_st y20.2 177 20 ((10 : Int32) + y18.1) y20.1).bind fun s21 => (f_X12_numeral n (0 : Int32) (9 : Int32) s21).bind fun y22 => (hq_st y22.2 178 20 ((10 : Int32) + y18.1) y22.1).bind fun s23 => (f_X12_numeral n (0 : Int32) (999 : Int32) s23).bind fun y24 => (hq_st y24.2 179 20 ((10 : Int32) + y18.1) y24.1).bind fun s25 => (f_X12_fresher n (0 : Int32) s25).bind fun y26 => (f_X12_reads n (0 : Int32) (y26.1 + (1 : Int32)) y26.2).bind fun s27 => f_X12_line_J404 n 0 s27
theorem lm_0 {nc T : Nat} (e6 : hq_gi sm 174 26 = 0) (e7 : hq_gi sm 174 27 = 0) (f0 : hq_gi sm 174 28 = 0) (hc : nc ≤ 10) (c : hq_gi sm 176 7 = Int32.ofNat nc) (eT : hq_gi sm 174 21 = Int32.ofNat T) : f_X12_line N sm = if nc = 10 then some (hq_si (hq_si sm 174 28 2) 174 29 (hq_gi sm 174 25)) else (f_X12_token N (hq_si sm 174 21 (Int32.ofNat (T ||| 2 ^ 0)))).bind fun s16 => lc_0 N s16 := by
  unfold f_X12_line f_X12_isFull
  rw [e6, if_pos rfl, e7, if_neg (by decide), if_pos rfl, fresher_v (a := 0) (j := 0) rfl (by omega), c]
  simp only [ob]
  have e10 : (Int32.ofNat nc = 10) = (nc = 10) := nb_eq (b := 10) (by omega) (by omega)
  by_cases q : nc = 10
  · rw [ie e10, if_pos q, if_pos q]
    simp only [ob]
    rw [if_neg (by decide), fail_m f0]
    simp only [ob]
    rw [if_neg (fail_n (f := 2) (by decide))]
  · rw [ie e10, if_neg q, if_neg q]
    simp only [ob]
    rw [if_pos trivial, if_neg (by decide), if_neg (by decide)]
    simp only [ob]
    rw [if_pos f0, eT, nn_pi]
    simp only [ob]
    rw [show (1 : Int32) <<< ((0 : Int32) &&& 31) = Int32.ofNat (2 ^ 0) from nb_one (i := 0) (by omega), nb_or]
    rfl
theorem ln_0 (hN : 1000 < N) {v nc nl ng nt kn T ln : Nat} (h : rdl t L v nc nl ng nt kn T ln p pl 3 0 0 sx sm) : lo N t L v ln pl sx sm := by
  obtain ⟨R, ⟨gv, hv⟩, To, ⟨⟨I1, I2, I3, I4⟩, I5, ⟨I6, I7, I8, I9, I10, I11⟩, I12, I13⟩, ⟨fx, fm⟩, lx, lm⟩ := id h
  obtain ⟨x4, x5, m6, m7⟩ := lx_w R
  have hT : hq_isT v := hv
  have b1 := To.1
  have cx : hq_gi sx v 0 = Int32.ofNat nc := To.2.1.1
  have cm : hq_gi sm 176 7 = Int32.ofNat nc := To.2.1.2.1
  have he : ∀ i, i < nc → hq_gi sx (v + 1) i = hq_gi sm 177 (10 + i) := fun i hi => (To.2.2.1 i hi).1
  have al : hq_alI (v + 1) = some 10 ∧ hq_alA (v + 1) = some (Int32.ofNat 10) := by rcases hv with rfl | rfl <;> exact ⟨rfl, rfl⟩
  have rl : f_X6_readLine N sx = (f_X6_readCorner N sx).bind fun y3 => if mm_rfit (mm_ret mc_X6_readLine) y3.1 = true then some (y3.1, y3.2) else none := by
    unfold f_X6_readLine
    rw [x4, if_pos rfl, show hq_gi sx 49 5 = 0 from x5, if_pos rfl]
  unfold lo
  rw [rl, lm_0 m6 m7 fm b1.1 cm I2]
  unfold f_X6_readCorner
  rw [gv, if_pos hT, cx, show (10 : Int32) = Int32.ofNat 10 from rfl, pass_v (by omega) (by omega)]
  by_cases full : nc = 10
  · rw [if_pos full, if_neg (by omega)]
    simp only [ob]
    rw [if_pos trivial]
    simp only [ob]
    rw [lrf0, if_pos rfl]
    exact Or.inr ⟨_, _, rfl, rfl, fail_b R (f := 2) (by omega) (by omega)⟩
  rw [if_neg full, if_pos (show nc < 10 by omega)]
  -- the word is passed
  have R0 : tk_R t L p pl 3 0 0 sx (hq_si sm 174 21 (Int32.ofNat (T ||| 2 ^ 0))) := tk_R_M R (fun i _ _ => nn_n (by omega)) (fun i => nn_n (by omega))
  obtain ⟨p1, pl1, q1, a1, b1', sx1, sm1, r1, r2, R1, r4, k1, k1'⟩ := tk_nx hN R0
  rw [r1, r2]
  simp only [ob]
  rw [if_neg (by decide), kz_gr k1, gv, if_pos hT, if_pos hT, kz_ne k1 (show ¬ v = 49 by omega), cx]
  unfold lc_0
  have cm1 : hq_gi sm1 176 7 = Int32.ofNat nc := by rw [kz_ne k1' (by omega), nn_n (by omega)]; exact cm
  have f1 : hq_gi sm1 174 28 = 0 := by rw [kz_no k1' (by decide), nn_n (by omega)]; exact fm
  rw [fresher_v (a := 0) (j := 0) rfl (by omega), cm1]
  simp only [ob]
  rw [fresher_v (a := 0) (j := 0) rfl (by omega), cm1]
  simp only [ob]
  rw [show (10 : Int32) = Int32.ofNat 10 from rfl]
  rcases rd_new hN R1 f1 (kx := v + 1) (km := 177) (Lx := 10) (Lm := 20) (n := nc) (off := 10) al.1 al.2 rfl (by omega) (by omega) (by omega) (by omega) (fun i hi => by rw [kz_ne k1 (by omega), kz_ne k1' (by omega), nn_n (by omega)]; exact he i hi) with ⟨z, p2, pl2, q2, a2, b2, sx2, sm2, z1, g1, g2, R2, g3, k2, k2'⟩ | ⟨sx2, sm2, g1, g2, B⟩
  · rw [g1, g2]
    simp only [ob]
    rw [nb_add, nn_st (by omega) (by omega), if_neg (nn_nm1 (by omega))]
    simp only [ob]
    -- the light
    have R2' : tk_R t L p2 pl2 q2 a2 b2 sx2 (hq_si sm2 177 (10 + nc) (Int32.ofNat z)) := tk_R_M R2 (fun i _ _ => nn_n (by omega)) (fun i => nn_n (by omega))
    have f2 : hq_gi (hq_si sm2 177 (10 + nc) (Int32.ofNat z)) 174 28 = 0 := by rw [nn_n (by omega), kz_no k2' (by decide)]; exact f1
    rcases rd_num hN R2' f2 (most := 9) (by omega) with ⟨li, p3, pl3, q3, a3, b3, sx3, sm3, hli, g4, g5, R3, g6, k3, k3'⟩ | ⟨sx3, sm3, g4, g5, B⟩
    · rw [show (9 : Int32) = Int32.ofNat 9 from rfl, g4, g5]
      simp only [ob]
      rw [nn_st (by omega) (by omega), if_neg (nn_nm1 (by omega))]
      simp only [ob]
      have R3' : tk_R t L p3 pl3 q3 a3 b3 sx3 (hq_si sm3 178 (10 + nc) (Int32.ofNat li)) := tk_R_M R3 (fun i _ _ => nn_n (by omega)) (fun i => nn_n (by omega))
      have f3 : hq_gi (hq_si sm3 178 (10 + nc) (Int32.ofNat li)) 174 28 = 0 := by rw [nn_n (by omega), kz_no k3' (by decide)]; exact f2
      rcases rd_num hN R3' f3 (most := 999) (by omega) with ⟨lt, p4, pl4, q4, a4, b4, sx4, sm4, hlt, g7, g8, R4, g9, k4, k4'⟩ | ⟨sx4, sm4, g7, g8, B⟩
      · rw [show (999 : Int32) = Int32.ofNat 999 from rfl, g7, g8]
        simp only [ob]
        have gv4 : hq_gr sx4 48 1 = v := by rw [kz_gr k4, kz_gr k3, kz_gr k2, kz_gr k1]; exact gv
        have cx4 : hq_gi sx4 v 0 = Int32.ofNat nc := by rw [kz_ne k4 (by omega), kz_ne k3 (by omega), kz_ne k2 (by omega), kz_ne k1 (by omega)]; exact cx
        rw [nn_st (by omega) (by omega), if_neg (nn_nm1 (by omega)), gv4, if_pos hT]
        simp only [ob]
        unfold f_X10_addCorner
        rw [cx4, show (10 : Int32) = Int32.ofNat 10 from rfl, ie (nb_ltp (by omega) (by omega)), if_pos (show nc < 10 by omega), nn_st (by omega) (by omega)]
        simp only [ob]
        rw [nn_n (by omega), cx4, nn_st (by omega) (by omega)]
        simp only [ob]
        rw [nn_n (by omega), nn_n (by omega), cx4, nn_st (by omega) (by omega)]
        simp only [ob]
        rw [nn_pi, nn_n (by omega), nn_n (by omega), nn_n (by omega), cx4, nn_succ]
        simp only [ob]
        have cm4 : hq_gi (hq_si sm4 179 (10 + nc) (Int32.ofNat lt)) 176 7 = Int32.ofNat nc := by rw [nn_n (by omega), kz_ne k4' (by omega), nn_n (by omega), kz_ne k3' (by omega), nn_n (by omega), kz_ne k2' (by omega)]; exact cm1
        rw [fresher_v (a := 0) (j := 0) rfl (by omega), cm4]
        simp only [ob]
        rw [nn_succ, reads_v (a := 0) (j := 0) rfl (by omega)]
        simp only [ob]
        rw [if_neg (by decide)]
        simp only [ob]
        rw [lrf1, if_pos rfl]
        refine Or.inl ⟨_, _, _, pl4, rfl, rfl, ⟨nc + 1, nl, ng, nt, kn, T ||| 2 ^ 0, p4, q4, a4, b4, ?_⟩, ?_⟩
        · have ux : ∀ k i, v ≤ k → k ≤ v + 22 → hq_gi sx4 k i = hq_gi sx k i := fun k i h1 h2 => by rw [kz_ne k4 (by omega), kz_ne k3 (by omega), kz_ne k2 (by omega), kz_ne k1 (by omega)]
          have um : ∀ k i, 176 ≤ k → k ≤ 193 → ¬ (k = 177 ∧ i = 10 + nc) → ¬ (k = 178 ∧ i = 10 + nc) → hq_gi sm4 k i = hq_gi sm k i := fun k i h1 h2 n1 n2 => by rw [kz_ne k4' (by omega), nn_n n2, kz_ne k3' (by omega), nn_n n1, kz_ne k2' (by omega), kz_ne k1' (by omega), nn_n (by omega)]
          have u7 : ∀ i, ¬ i = 21 → ¬ i ∈ FM → hq_gi sm4 174 i = hq_gi sm 174 i := fun i n1 n2 => by rw [kz_no k4' n2, nn_n (by omega), kz_no k3' n2, nn_n (by omega), kz_no k2' n2, kz_no k1' n2, nn_n (by omega)]
          obtain ⟨bb1, bb2, bb3⟩ := bits_or (w := 0) I1 (by omega)
          have xk : ∀ k i, v ≤ k → k ≤ v + 22 → ¬ (k = v ∧ i = 0) → ¬ (k = v + 1 ∧ i = nc) → ¬ (k = v + 2 ∧ i = nc) → ¬ (k = v + 15 ∧ i = nc) → hq_gi (hq_si (hq_si (hq_si (hq_si sx4 (v + 1) nc (Int32.ofNat z)) (v + 2) nc (Int32.ofNat li)) (v + 14 + 1) nc (Int32.ofNat lt)) v 0 (Int32.ofNat (nc + 1))) k i = hq_gi sx k i := fun k i h1 h2 n1 n2 n3 n4 => by
            rw [nn_n n1, nn_n n4, nn_n n3, nn_n n2, ux k i h1 h2]
          have x4 : ∀ k i, (k = 48 ∨ k = 49 ∨ k = 50 ∨ k = 1) → hq_gi (hq_si (hq_si (hq_si (hq_si sx4 (v + 1) nc (Int32.ofNat z)) (v + 2) nc (Int32.ofNat li)) (v + 14 + 1) nc (Int32.ofNat lt)) v 0 (Int32.ofNat (nc + 1))) k i = hq_gi sx4 k i := fun k i hk => by
            rw [nn_n (by omega), nn_n (by omega), nn_n (by omega), nn_n (by omega)]
          have xm : ∀ k i, ¬ (k = 176 ∧ i = 7) → ¬ (k = 179 ∧ i = 10 + nc) → hq_gi (hq_si (hq_si sm4 179 (10 + nc) (Int32.ofNat lt)) 176 (7 + 0) (Int32.ofNat (nc + 1))) k i = hq_gi sm4 k i := fun k i n1 n2 => by
            rw [nn_n n1, nn_n n2]
          refine ⟨tk_R_X (tk_R_M R4 (fun i _ _ => xm _ _ (by omega) (by omega)) (fun i => xm _ _ (by omega) (by omega))) (fun i _ _ => x4 _ _ (by omega)) (fun i => x4 _ _ (by omega)) (fun i => x4 _ _ (by omega)) rfl, ⟨gv4, hv⟩, ?_, ⟨⟨bb1, ?_, ?_, ?_⟩, fun r hr => ?_, ⟨I6, ?_, ?_, ?_, ?_, ?_⟩, ?_, fun i i1 i2 => ?_⟩, ⟨?_, ?_⟩, ?_, ?_⟩
          · refine told_corner To (by omega) xk (fun k i => ?_) (fun k i h1 h2 n1 n2 n3 n4 => by rw [xm k i n1 n4, um k i h1 h2 n2 n3]) nn_g1 nn_g1 ?_ ⟨li, hli, ?_, ?_⟩ ⟨lt, hlt, ?_, ?_⟩
            · show hq_gj sx4 k i = _
              rw [kz_gj k4, kz_gj k3, kz_gj k2, kz_gj k1]
            · rw [nn_n (by omega), nn_n (by omega), nn_n (by omega), nn_g1, xm _ _ (by omega) (by omega), kz_ne k4' (by omega), nn_n (by omega), kz_ne k3' (by omega), nn_g1]
            · rw [nn_n (by omega), nn_n (by omega), nn_g1]
            · rw [xm _ _ (by omega) (by omega), kz_ne k4' (by omega), nn_g1]
            · rw [nn_n (by omega), show v + 15 = v + 14 + 1 from rfl, nn_g1]
            · rw [nn_n (by omega), nn_g1]
          · rw [xm _ _ (by omega) (by omega), kz_no k4' (by decide), nn_n (by omega), kz_no k3' (by decide), nn_n (by omega), kz_no k2' (by decide), kz_no k1' (by decide), nn_g1]
          · rw [xk _ _ (by omega) (by omega) (by omega) (by omega) (by omega) (by omega), I3, bb3 6 (by omega)]
          · rw [xk _ _ (by omega) (by omega) (by omega) (by omega) (by omega) (by omega), I4, bb3 7 (by omega)]
          · obtain ⟨e, e1, e2, e3⟩ := I5 r hr
            refine ⟨e, e1, by rw [xk _ _ (by omega) (by omega) (by omega) (by omega) (by omega) (by omega)]; exact e2, by rw [bb3 _ (by omega)]; exact e3⟩
          · rw [xk _ _ (by omega) (by omega) (by omega) (by omega) (by omega) (by omega)]; exact I7
          · rw [xk _ _ (by omega) (by omega) (by omega) (by omega) (by omega) (by omega)]; exact I8
          · rw [xm _ _ (by omega) (by omega), um _ _ (by omega) (by omega) (by omega) (by omega)]; exact I9
          · rw [xm _ _ (by omega) (by omega), u7 _ (by omega) (by decide)]; exact I10
          · rw [xm _ _ (by omega) (by omega), u7 _ (by omega) (by decide)]; exact I11
          · rw [xk _ _ (by omega) (by omega) (by omega) (by omega) (by omega) (by omega)]; exact I12
          · rw [xk _ _ (by omega) (by omega) (by omega) (by omega) (by omega) (by omega)]; exact I13 i i1 i2
          · rw [x4 _ _ (by omega), kz_ne k4 (by omega), kz_ne k3 (by omega), kz_ne k2 (by omega), kz_ne k1 (by omega)]; exact fx
          · rw [xm _ _ (by omega) (by omega), u7 _ (by omega) (by decide)]; exact fm
          · rw [x4 _ _ (by omega), kz_ne k4 (by omega), kz_ne k3 (by omega), kz_ne k2 (by omega), kz_ne k1 (by omega)]; exact lx
          · rw [xm _ _ (by omega) (by omega), u7 _ (by omega) (by decide)]; exact lm
        · have := R.2.2.1.2.2 (by omega)
          have := R1.2.2.1
          have := R2.2.2.1
          have := R3.2.2.1
          omega
      · rw [show (999 : Int32) = Int32.ofNat 999 from rfl, g7, g8]
        simp only [ob]
        rw [if_pos trivial, nn_st (by omega) (by omega)]
        simp only [ob]
        rw [fresher_v (a := 0) (j := 0) rfl (by omega)]
        simp only [ob]
        rw [reads_v (a := 0) (j := 0) rfl (by omega)]
        simp only [ob]
        have B' := bad_k (sx' := sx4) (sm' := hq_si (hq_si sm4 179 (10 + nc) 0) 176 (7 + 0) (hq_gi (hq_si sm4 179 (10 + nc) 0) 176 (7 + 0) + 1)) B rfl rfl (by rw [nn_n (by omega), nn_n (by omega)]) (by rw [nn_n (by omega), nn_n (by omega)])
        rw [lrf0, if_pos rfl, J404_f (bad_n B')]
        exact Or.inr ⟨_, _, rfl, rfl, B'⟩
    · rw [show (9 : Int32) = Int32.ofNat 9 from rfl, g4, g5]
      simp only [ob]
      rw [if_pos trivial, nn_st (by omega) (by omega)]
      simp only [ob]
      have B2 := bad_k (sx' := sx3) (sm' := hq_si sm3 178 (10 + nc) 0) B rfl rfl (by rw [nn_n (by omega)]) (by rw [nn_n (by omega)])
      rw [if_pos trivial, numeral_f (bad_n B2)]
      simp only [ob]
      rw [nn_st (by omega) (by omega)]
      simp only [ob]
      rw [fresher_v (a := 0) (j := 0) rfl (by omega)]
      simp only [ob]
      rw [reads_v (a := 0) (j := 0) rfl (by omega)]
      simp only [ob]
      have B' := bad_k (sx' := sx3) (sm' := hq_si (hq_si (hq_si sm3 178 (10 + nc) 0) 179 (10 + nc) 0) 176 (7 + 0) (hq_gi (hq_si (hq_si sm3 178 (10 + nc) 0) 179 (10 + nc) 0) 176 (7 + 0) + 1)) B2 rfl rfl (by rw [nn_n (by omega), nn_n (by omega)]) (by rw [nn_n (by omega), nn_n (by omega)])
      rw [lrf0, if_pos rfl, J404_f (bad_n B')]
      exact Or.inr ⟨_, _, rfl, rfl, B'⟩
  · rw [g1, g2]
    simp only [ob]
    rw [if_pos trivial, nb_add, nn_st (by omega) (by omega)]
    simp only [ob]
    have B1 := bad_k (sx' := sx2) (sm' := hq_si sm2 177 (10 + nc) 0) B rfl rfl (by rw [nn_n (by omega)]) (by rw [nn_n (by omega)])
    rw [if_pos trivial, numeral_f (bad_n B1)]
    simp only [ob]
    rw [if_pos trivial, nn_st (by omega) (by omega)]
    simp only [ob]
    have B2 := bad_k (sx' := sx2) (sm' := hq_si (hq_si sm2 177 (10 + nc) 0) 178 (10 + nc) 0) B1 rfl rfl (by rw [nn_n (by omega)]) (by rw [nn_n (by omega)])
    rw [numeral_f (bad_n B2)]
    simp only [ob]
    rw [nn_st (by omega) (by omega)]
    simp only [ob]
    rw [fresher_v (a := 0) (j := 0) rfl (by omega)]
    simp only [ob]
    rw [reads_v (a := 0) (j := 0) rfl (by omega)]
    simp only [ob]
    have B' := bad_k (sx' := sx2) (sm' := hq_si (hq_si (hq_si (hq_si sm2 177 (10 + nc) 0) 178 (10 + nc) 0) 179 (10 + nc) 0) 176 (7 + 0) (hq_gi (hq_si (hq_si (hq_si sm2 177 (10 + nc) 0) 178 (10 + nc) 0) 179 (10 + nc) 0) 176 (7 + 0) + 1)) B2 rfl rfl (by rw [nn_n (by omega), nn_n (by omega)]) (by rw [nn_n (by omega), nn_n (by omega)])
    rw [lrf0, if_pos rfl, J404_f (bad_n B')]
    exact Or.inr ⟨_, _, rfl, rfl, B'⟩
end
