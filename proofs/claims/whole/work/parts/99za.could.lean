/-! COULD, UNSEEN -/
section
variable {HC : hq_S → Prop} {N nc nl ng nt t bar : Nat} {fr to on : Nat → Nat} {o sx sm : hq_S}
theorem hv_start (P : hh_P nc nl ng nt t 103 94 1 fr to on bar false 0 o sx sm) : hv_P nc nl ng nt t 103 94 1 fr to on bar false 0 o sx sm := ⟨⟨sx, P⟩, P.1, P.2.2.1, P.2.2.2.1, P.2.2.2.2.1, fun i hi => ⟨(P.2.2.2.2.2.2.1.2.2.2.2.2.1 i hi).1, (P.2.2.2.2.2.2.1.2.2.2.2.2.1 i hi).2.1⟩, P.2.2.2.2.2.2.2.1.2.1⟩
theorem hs_op_28 (hc : hc_loc HC) (hN : 300 < N) (a : Int32) : hq_Sim (hR HC) (f_X11_unseen N a) (f_X12_unseen N a) := hs_mk2 hc (WX := w_X11_unseen) (WM := w_X12_unseen) (by decide) (by decide) (fun _ _ => f_X11_unseen_fw) (fun _ _ => f_X12_unseen_fw) fun sx sm R => by
  obtain ⟨nc, nl, ng, nt, t, bar, fr, to, on, TT⟩ := R.2.2.2.2.2
  obtain ⟨I, T⟩ := hT_th 0 R.2.2.1 TT
  have T0 := T
  obtain ⟨⟨t1, t2, t3⟩, ⟨⟨b1, b2, b3, b4⟩, ⟨c1, c2, -⟩, -⟩, -⟩ := T
  have d10 : ¬ (1 : Int32) = 0 := by decide
  rcases hs_isCorner (N := N) (a := a) (by omega) t1 t2 c1 c2 with ⟨c, hcc, rfl, e1, e2⟩ | ⟨e1, e2⟩
  · obtain ⟨sx1, sm1, p1, p2, P, -⟩ := hp_asItGoes (N := N) (by omega) I T0
    have key : ∀ (q j m m' : Nat) (x y : Int32) (sxc smc : hq_S), hv_P nc nl ng nt t 103 94 1 fr to on bar false 0 (hq_si sm 174 0 0) sxc smc → j + q = 60 → q < m → q < m' → ∃ v sx' sm', f_X11_unseen_L21 N m (Int32.ofNat c) x y (Int32.ofNat j) sxc = some (v, sx') ∧ f_X12_unseen_L28 N m' (Int32.ofNat c) x y (Int32.ofNat j) smc = some (v, sm') ∧ hm_o 1 (hq_si sm 174 0 0) sm' := by
      intro q
      induction q with
      | zero =>
        intro j m m' x y sxc smc P hj hm hm'
        obtain ⟨m, rfl⟩ : ∃ k, m = k + 1 := ⟨m - 1, by omega⟩
        obtain ⟨m', rfl⟩ : ∃ k, m' = k + 1 := ⟨m' - 1, by omega⟩
        have cc : ¬ Int32.ofNat j < (60 : Int32) := by rw [nb_lit 60, nn_lt (by omega) (by omega)]; omega
        obtain ⟨⟨vx, V⟩, -⟩ := P
        exact ⟨x, sxc, smc, by simp only [f_X11_unseen_L21_s, f_X11_unseen_L21_B, if_neg cc], by simp only [f_X12_unseen_L28_s, f_X12_unseen_L28_B, if_neg cc], V.2.2.2.2.2.2.2.2⟩
      | succ q ih =>
        intro j m m' x y sxc smc P hj hm hm'
        obtain ⟨m, rfl⟩ : ∃ k, m = k + 1 := ⟨m - 1, by omega⟩
        obtain ⟨m', rfl⟩ : ∃ k, m' = k + 1 := ⟨m' - 1, by omega⟩
        have cc : Int32.ofNat j < (60 : Int32) := by rw [nb_lit 60, nn_lt (by omega) (by omega)]; omega
        obtain ⟨sx2, sm2, w1, w2, P2, S2⟩ := hv_walk (N := N) (l := 1) hN (by omega) P
        have w2 : f_X12_passes N 1 0 smc = some sm2 := w2
        obtain ⟨v, hv, n1, n2⟩ := hh_nearG (N := N) (l := 1) (c := c) (by omega) (by omega) S2 (fun i hi => (P2.2.2.2.2.2.1 i hi).1) hcc
        have n2 : f_X12_farOf N 1 (Int32.ofNat c) sm2 = some (Int32.ofNat v, sm2) := n2
        obtain ⟨v', sx', sm', i1, i2, i3⟩ := ih (j + 1) m m' (hq_max x (if Int32.ofNat v < 2 then 0 else y + 1)) (if Int32.ofNat v < 2 then 0 else y + 1) sx2 sm2 P2 (by omega) (by omega) (by omega)
        have ez : (if Int32.ofNat v < (2 : Int32) then some (0 : Int32) else some (y + 1)) = some (if Int32.ofNat v < 2 then 0 else y + 1) := by split <;> rfl
        refine ⟨v', sx', sm', ?_, ?_, i3⟩
        · simp only [f_X11_unseen_L21_s, f_X11_unseen_L21_B, if_pos cc, w1, Option.bind_some, n1, ez, nn_succ]
          exact i1
        · simp only [f_X12_unseen_L28_s, f_X12_unseen_L28_B, if_pos cc, w2, Option.bind_some, n2, ez, nn_succ]
          exact i2
    obtain ⟨v, sx', sm', k1, k2, k3⟩ := key 60 0 N N 0 0 sx1 sm1 (hv_start P) (by omega) (by omega) (by omega)
    refine ⟨v, sx', sm', ?_, ?_, hm_o_th k3⟩
    · simp only [f_X11_unseen, e1, Option.bind_some, if_neg d10, p1]
      exact k1
    · simp only [f_X12_unseen, nn_pi, e2, Option.bind_some, if_neg d10, p2]
      exact k2
  · exact ⟨-1, sx, hq_si sm 174 0 0, by simp only [f_X11_unseen, e1, Option.bind_some, if_true], by simp only [f_X12_unseen, nn_pi, e2, Option.bind_some, if_true], fun c i h1 h2 h3 => nn_gk (by omega)⟩
theorem hs_op_27 (hc : hc_loc HC) (hN : 300 < N) (a1 a2 : Int32) : hq_Sim (hR HC) (f_X11_could N a1 a2) (f_X12_could N a1 a2) := hs_mk2 hc (WX := w_X11_could) (WM := w_X12_could) (by decide) (by decide) (fun _ _ => f_X11_could_fw) (fun _ _ => f_X12_could_fw) fun sx sm R => by
  obtain ⟨nc, nl, ng, nt, t, bar, fr, to, on, TT⟩ := R.2.2.2.2.2
  obtain ⟨I, T⟩ := hT_th 0 R.2.2.1 TT
  have T0 := T
  obtain ⟨⟨t1, t2, t3⟩, ⟨⟨b1, b2, b3, b4⟩, ⟨c1, c2, -, -, g1, g2, d1, d2⟩, -⟩, -, W, -⟩ := T
  have d10 : ¬ (1 : Int32) = 0 := by decide
  have iT : hq_isT t := t2
  have oth : hm_o 1 sm (hq_si sm 174 0 0) := fun c i h1 h2 h3 => nn_gk (by omega)
  have n60 : (60 : Int32) = Int32.ofNat 60 := rfl
  rcases hs_isThief (N := N) (a := a1) (by omega) t1 t2 d1 d2 with ⟨i, hi, rfl, e1, e2⟩ | ⟨e1, e2⟩
  · rcases nn_le (a := a2) (n := 60) (by omega) with ⟨n, hn, rfl, h0, h2⟩ | h0 | ⟨h0, h2⟩
    · rw [← n60] at h2
      obtain ⟨b, hb, f1, f2⟩ := hh_free (N := N) (l := 0) (by omega) W b3 b4 hi
      have f2 : f_X12_isFree N 0 (Int32.ofNat i) (hq_si sm 174 0 0) = some (b, hq_si sm 174 0 0) := f2
      rcases hb with rfl | rfl
      · exact ⟨0, sx, hq_si sm 174 0 0, by simp only [f_X11_could, e1, Option.bind_some, if_neg d10, if_neg h0, if_neg h2, f1, if_true], by simp only [f_X12_could, nn_pi, e2, Option.bind_some, if_neg d10, if_neg h0, if_neg h2, f2, if_true], oth⟩
      · obtain ⟨sx1, sm1, p1, p2, P, r⟩ := hp_asItGoes (N := N) (by omega) I T0
        obtain ⟨c, hcc, x1, x2⟩ := (W.2.2.2.2.2.2.1 i hi).1
        rw [show 4 * 0 + i = i by omega] at x2
        have ld1 : hq_ld sx1 81 4 (Int32.ofNat i) = some (Int32.ofNat c) := by rw [nn_ld (by omega) (by omega), (f_X11_playAsItGoes_fw p1 81 i rfl).1]; exact congrArg some x1
        have ld2 : hq_ld sm1 203 92 (Int32.ofNat i) = some (Int32.ofNat c) := by
          obtain ⟨smk, c1', c2'⟩ := hk_copies (N := N) (a := 1) (b := 0) (by omega) (by omega) (by omega) (by omega) (hq_si sm 174 0 0)
          have c1' : f_X12_copies N 1 0 (hq_si sm 174 0 0) = some smk := c1'
          rw [p2] at c1'
          cases c1'
          rw [nn_ld (by omega) (by omega), c2'.1 203 i (by unfold hm_sl; omega)]
          exact congrArg some x2
        -- guards take their corners away
        have awX : ∀ (q52 : Int32 → Int32 → Int32 → Int32 → hq_S → Option (Int32 × hq_S)) (ga : Nat → Nat) (sxc : hq_S), hq_gr sxc 0 2 = t → hq_gi sxc t 7 = Int32.ofNat ng → (∀ g, g < ng → ga g < nc ∧ hq_gi sxc 96 g = Int32.ofNat (ga g)) → ∀ (q g m : Nat) (w : Nat) (a4 : Int32), g + q = ng → q < m → ∃ w', (∀ k, w < 2 ^ k → w' < 2 ^ k) ∧ (∀ (q54 : Int32 → Int32 → Int32 → Int32 → hq_S → Option (Int32 × hq_S)) (smc : hq_S) (a3 : Int32) (m' : Nat), hq_gi smc 176 2 = Int32.ofNat ng → (∀ g, g < ng → hq_gi smc 200 (3 + g) = Int32.ofNat (ga g)) → q < m' → f_X12_could_L118 N q54 m' (Int32.ofNat i) (Int32.ofNat n) a3 a4 (Int32.ofNat w) (Int32.ofNat g) smc = q54 (Int32.ofNat i) (Int32.ofNat n) (Int32.ofNat w') (a4 + 1) smc) ∧ f_X11_could_L79 N q52 m (Int32.ofNat i) (Int32.ofNat n) (Int32.ofNat w) a4 (Int32.ofNat g) sxc = q52 (Int32.ofNat i) (Int32.ofNat n) (Int32.ofNat w') (a4 + 1) sxc := by
          intro q52 ga sxc r0 gx hga q
          induction q with
          | zero =>
            intro g m w a4 hg hm
            obtain ⟨m, rfl⟩ : ∃ k, m = k + 1 := ⟨m - 1, by omega⟩
            have cc : ¬ Int32.ofNat g < Int32.ofNat ng := by rw [nn_lt (by omega) (by omega)]; omega
            refine ⟨w, fun k h => h, fun q54 smc a3 m' gm hgm hm' => ?_, ?_⟩
            · obtain ⟨m', rfl⟩ : ∃ k, m' = k + 1 := ⟨m' - 1, by omega⟩
              have l2 : hq_ld smc 176 14 2 = some (Int32.ofNat ng) := by rw [nb_lit 2, nn_ld (by omega) (by omega), gm]
              simp only [f_X12_could_L118_s, f_X12_could_L118_B, l2, Option.bind_some, if_neg cc]
            · simp only [f_X11_could_L79_s, f_X11_could_L79_B, r0, if_pos iT, gx, if_neg cc]
          | succ q ih =>
            intro g m w a4 hg hm
            obtain ⟨m, rfl⟩ : ∃ k, m = k + 1 := ⟨m - 1, by omega⟩
            have cc : Int32.ofNat g < Int32.ofNat ng := (nn_lt (by omega) (by omega)).mpr (by omega)
            obtain ⟨ha, xg⟩ := hga g (by omega)
            obtain ⟨w', w1, w2, w3⟩ := ih (g + 1) m (nb_df w (2 ^ ga g)) a4 (by omega) (by omega)
            have lx : hq_ld sxc 96 3 (Int32.ofNat g) = some (Int32.ofNat (ga g)) := by rw [nn_ld (by omega) (by omega), xg]
            refine ⟨w', fun k h => w1 k (nb_df_lt h), fun q54 smc a3 m' gm hgm hm' => ?_, ?_⟩
            · obtain ⟨m', rfl⟩ : ∃ k, m' = k + 1 := ⟨m' - 1, by omega⟩
              have l2 : hq_ld smc 176 14 2 = some (Int32.ofNat ng) := by rw [nb_lit 2, nn_ld (by omega) (by omega), gm]
              have lm : hq_ld smc 200 69 ((3 : Int32) + Int32.ofNat g) = some (Int32.ofNat (ga g)) := by rw [nb_lit 3, nb_add, nn_ld (by omega) (by omega), hgm g (by omega)]
              simp only [f_X12_could_L118_s, f_X12_could_L118_B, l2, Option.bind_some, if_pos cc, lm, nb_one (show ga g < 32 by omega), nb_not, nn_succ]
              exact w2 q54 smc a3 m' gm hgm (by omega)
            · simp only [f_X11_could_L79_s, f_X11_could_L79_B, r0, if_pos iT, gx, if_pos cc, lx, Option.bind_some, nb_one (show ga g < 32 by omega), nb_not, nn_succ]
              exact w3
        -- what is next comes to the reference's set, corner by corner
        have nxM : ∀ (nx : Nat → Nat) (q54 : Int32 → Int32 → Int32 → Int32 → hq_S → Option (Int32 × hq_S)) (smc : hq_S) (w : Nat) (a4 : Int32), hl_R nc nx smc → w < 2147483648 → ∀ (q j m : Nat), j + q = nc → q < m → f_X12_could_L72 N q54 m (Int32.ofNat i) (Int32.ofNat n) (Int32.ofNat w) a4 (Int32.ofNat (w ||| bf_any nx w j)) (Int32.ofNat j) smc = f_X12_could_L118 N q54 N (Int32.ofNat i) (Int32.ofNat n) (Int32.ofNat w) a4 (Int32.ofNat (w ||| bf_any nx w nc)) (Int32.ofNat 0) smc := by
          intro nx q54 smc w a4 hRn hw q
          have l0 : hq_ld smc 176 14 0 = some (Int32.ofNat nc) := by rw [nb_0, nn_ld (by omega) (by omega), hRn.1]
          induction q with
          | zero =>
            intro j m hj hm
            obtain ⟨m, rfl⟩ : ∃ k, m = k + 1 := ⟨m - 1, by omega⟩
            have hj : j = nc := by omega
            subst hj
            have cc : ¬ Int32.ofNat j < Int32.ofNat j := by rw [nn_lt (by omega) (by omega)]; omega
            simp only [f_X12_could_L72_s, f_X12_could_L72_B, l0, Option.bind_some, if_neg cc]
            rfl
          | succ q ih =>
            intro j m hj hm
            obtain ⟨m, rfl⟩ : ∃ k, m = k + 1 := ⟨m - 1, by omega⟩
            have cc : Int32.ofNat j < Int32.ofNat nc := (nn_lt (by omega) (by omega)).mpr (by omega)
            have ih := ih (j + 1) m (by omega) (by omega)
            have ln : hq_ld smc 206 10 (Int32.ofNat j) = some (Int32.ofNat (nx j)) := by rw [nn_ld (by omega) (by omega), hRn.2 j (by omega)]
            rw [bf_any] at ih
            by_cases qb : w.testBit j = true
            · rw [if_pos qb, ← Nat.or_assoc] at ih
              simp only [f_X12_could_L72_s, f_X12_could_L72_B, l0, Option.bind_some, if_pos cc, nb_bit1 hw (show j < 32 by omega), if_pos qb, ln, nb_or, nn_succ]
              exact ih
            · rw [if_neg qb, Nat.or_zero] at ih
              simp only [f_X12_could_L72_s, f_X12_could_L72_B, l0, Option.bind_some, if_pos cc, nb_bit1 hw (show j < 32 by omega), if_neg qb, Int32.or_zero, nn_succ]
              exact ih
        have key : ∀ (q j m m' w : Nat) (sxc smc : hq_S), hv_P nc nl ng nt t 103 94 1 fr to on bar false 0 (hq_si sm 174 0 0) sxc smc → hq_gr sxc 0 2 = t → w < 2 ^ nc → j + q = n → q < m → q < m' → ∃ v sx' sm', f_X11_could_L52 N m (Int32.ofNat i) (Int32.ofNat n) (Int32.ofNat w) (Int32.ofNat j) sxc = some (v, sx') ∧ f_X12_could_L54 N m' (Int32.ofNat i) (Int32.ofNat n) (Int32.ofNat w) (Int32.ofNat j) smc = some (v, sm') ∧ hm_o 1 (hq_si sm 174 0 0) sm' := by
          intro q
          induction q with
          | zero =>
            intro j m m' w sxc smc P r0 hw hj hm hm'
            obtain ⟨m, rfl⟩ : ∃ k, m = k + 1 := ⟨m - 1, by omega⟩
            obtain ⟨m', rfl⟩ : ∃ k, m' = k + 1 := ⟨m' - 1, by omega⟩
            have cc : ¬ Int32.ofNat j < Int32.ofNat n := by rw [nn_lt (by omega) (by omega)]; omega
            obtain ⟨⟨vx, V⟩, -⟩ := P
            exact ⟨Int32.ofNat w, sxc, smc, by simp only [f_X11_could_L52_s, f_X11_could_L52_B, if_neg cc], by simp only [f_X12_could_L54_s, f_X12_could_L54_B, if_neg cc], V.2.2.2.2.2.2.2.2⟩
          | succ q ih =>
            intro j m m' w sxc smc P r0 hw hj hm hm'
            obtain ⟨m, rfl⟩ : ∃ k, m = k + 1 := ⟨m - 1, by omega⟩
            obtain ⟨m', rfl⟩ : ∃ k, m' = k + 1 := ⟨m' - 1, by omega⟩
            have cc : Int32.ofNat j < Int32.ofNat n := (nn_lt (by omega) (by omega)).mpr (by omega)
            obtain ⟨sx2, sm2, w1, w2, P2, S2⟩ := hv_walk (N := N) (l := 1) hN (by omega) P
            have w2 : f_X12_passes N 1 0 smc = some sm2 := w2
            have hw' := nb_1024 b1 hw
            have any := hb_any (N := N) (e := w) (by omega) b1 (by omega) S2.2.2.2.2.1
            have r2 : hq_gr sx2 0 2 = t := by
              rw [(f_X3_walkBeats_fw (u := 94) (Or.inr rfl) P.2.2.1.2.2 w1 0 2 (by decide)).2.2]
              exact r0
            have gx := S2.1.2.1.2.2.2.2.1
            have gm := S2.1.2.1.2.2.2.2.2.1
            let ga : Nat → Nat := fun g => (hq_gi sx2 96 g).toNatClampNeg
            have hga : ∀ g, g < ng → ga g < nc ∧ hq_gi sx2 96 g = Int32.ofNat (ga g) ∧ hq_gi sm2 200 (3 + g) = Int32.ofNat (ga g) := fun g hg => by
              obtain ⟨y, hy, y1, y2⟩ := (P2.2.2.2.2.2.1 g hg).1
              have y1 : hq_gi sx2 96 g = Int32.ofNat y := y1
              have ey : ga g = y := by
                show (hq_gi sx2 96 g).toNatClampNeg = y
                rw [y1, nn_clamp (by omega)]
              rw [ey]
              exact ⟨hy, y1, y2⟩
            obtain ⟨w', v1, v2, v3⟩ := awX (f_X11_could_L52 N m) ga sx2 r2 gx (fun g hg => ⟨(hga g hg).1, (hga g hg).2.1⟩) ng 0 N (w ||| bf_any (ly_nx fr to on bar false nl) w nc) (Int32.ofNat j) (by omega) (by omega)
            obtain ⟨v, sx', sm', i1, i2, i3⟩ := ih (j + 1) m m' w' sx2 sm2 P2 r2 (v1 nc (nb_lt_or hw (bf_any_lt S2.2.2.2.1.1 nc))) (by omega) (by omega) (by omega)
            refine ⟨v, sx', sm', ?_, ?_, i3⟩
            · simp only [f_X11_could_L52_s, f_X11_could_L52_B, if_pos cc, w1, any, Option.bind_some, nb_or]
              rw [nb_0, v3, nn_succ]
              exact i1
            · have m1 := nxM (ly_nx fr to on bar false nl) (f_X12_could_L54 N m') sm2 w (Int32.ofNat j) S2.2.2.2.2.2.1 (by omega) nc 0 N (by omega) (by omega)
              rw [bf_any, Nat.or_zero] at m1
              simp only [f_X12_could_L54_s, f_X12_could_L54_B, if_pos cc, w2, Option.bind_some]
              rw [nb_0, m1, v2 (f_X12_could_L54 N m') sm2 (Int32.ofNat w) N gm (fun g hg => (hga g hg).2.2) (by omega), nn_succ]
              exact i2
        obtain ⟨v, sx', sm', k1, k2, k3⟩ := key n 0 N N (2 ^ c) sx1 sm1 (hv_start P) r (nb_2lt hcc) (by omega) (by omega) (by omega)
        have pc : (1 : Int32) <<< (Int32.ofNat c &&& 31) = Int32.ofNat (2 ^ c) := nb_one (by omega)
        refine ⟨v, sx', sm', ?_, ?_, hm_o_th k3⟩
        · simp only [f_X11_could, e1, Option.bind_some, if_neg d10, if_neg h0, if_neg h2, f1, p1, ld1, pc]
          exact k1
        · simp only [f_X12_could, nn_pi, e2, Option.bind_some, if_neg d10, if_neg h0, if_neg h2, f2, p2, ld2, pc]
          exact k2
    · exact ⟨-1, sx, hq_si sm 174 0 0, by simp only [f_X11_could, e1, Option.bind_some, if_neg d10, if_pos h0], by simp only [f_X12_could, nn_pi, e2, Option.bind_some, if_neg d10, if_pos h0], oth⟩
    · rw [← n60] at h2
      exact ⟨-1, sx, hq_si sm 174 0 0, by simp only [f_X11_could, e1, Option.bind_some, if_neg d10, if_neg h0, if_pos h2], by simp only [f_X12_could, nn_pi, e2, Option.bind_some, if_neg d10, if_neg h0, if_pos h2], oth⟩
  · exact ⟨-1, sx, hq_si sm 174 0 0, by simp only [f_X11_could, e1, Option.bind_some, if_true], by simp only [f_X12_could, nn_pi, e2, Option.bind_some, if_true], oth⟩
end
