/-! text -/
theorem hs_op_1 {N : Nat} {HC : hq_S → Prop} (hc : hc_loc HC) (hN : 1000 < N) (x : Int32) : hq_Sim (hR HC) (f_X11_text N x) (f_X12_text N x) := fun sx sm R => by
  obtain ⟨⟨p, p1, p2, p3, p4⟩, Fl, Id, K, H, nc, nl, ng, nt, t, bar, fr, to, on, T⟩ := id R
  by_cases c0 : x < 0
  · refine ⟨-2, sx, hq_si sm 174 0 0, ?_, ?_, ?_⟩
    · unfold f_X11_text
      rw [if_pos c0]
    · unfold f_X12_text
      rw [nn_pi]
      simp only [ob]
      rw [if_pos c0]
    · exact hR_k hc (fun _ _ _ => ⟨rfl, rfl, rfl⟩) (fun k i hk => ⟨nn_n (fun q => by rw [q.1, q.2] at hk; exact absurd hk (by decide)), rfl, rfl⟩) (fun c i h1 h2 _ => nn_gk (by omega)) R
  by_cases c1 : Int32.ofNat p < x
  · refine ⟨-2, sx, hq_si sm 174 0 0, ?_, ?_, ?_⟩
    · unfold f_X11_text
      rw [if_neg c0, p2, if_pos c1]
    · unfold f_X12_text
      rw [nn_pi]
      simp only [ob]
      rw [if_neg c0, nn_n (by omega), p3, if_pos c1]
    · exact hR_k hc (fun _ _ _ => ⟨rfl, rfl, rfl⟩) (fun k i hk => ⟨nn_n (fun q => by rw [q.1, q.2] at hk; exact absurd hk (by decide)), rfl, rfl⟩) (fun c i h1 h2 _ => nn_gk (by omega)) R
  obtain ⟨⟨t1, t2, t3⟩, TT⟩ := id T
  obtain ⟨L, l1, l2⟩ := nn_of (x := x) (by
    rw [Int32.lt_iff_toInt_lt] at c0
    have : (0 : Int32).toInt = 0 := rfl
    omega)
  subst l2
  have lp : L ≤ p := by
    rw [nn_lt (by omega) (by omega)] at c1
    omega
  have hv : 27 - t = 2 ∨ 27 - t = 25 := by omega
  have hTv : hq_isT (27 - t) := hv
  have ht : ∀ i, i < L → (hq_gi sm 175 i).toNatClampNeg < 256 ∧ hq_gi sx 1 i = sb ((hq_gi sm 175 i).toNatClampNeg) ∧ hq_gi sm 175 i = Int32.ofNat ((hq_gi sm 175 i).toNatClampNeg) := fun i hi => by
    obtain ⟨q1, q2⟩ := p4 i (by omega)
    obtain ⟨n, n1, n2, n3⟩ := sb_of q2
    rw [q1, n2, nn_clamp (by omega)]
    exact ⟨n1, n3, rfl⟩
  obtain ⟨s6, e6, c6, ⟨g1, g2, g3, g4, g5, g6, g7⟩, k6⟩ := tx_X (s := hq_si sx 0 1 0) hN hv (show L ≤ 700 by omega)
  obtain ⟨s14, e14, c14, x14, k14⟩ := tx_M (s := sm) hN c0 p3 c1
  have X : tkX (fun i => (hq_gi sm 175 i).toNatClampNeg) L s6 := ⟨by omega, g6, g2, fun i hi => ⟨(ht i hi).1, by rw [(k6 1 i (by omega) (by omega) (by omega) (by omega)).1, nn_n (by omega)]; exact (ht i hi).2.1⟩, fun i hi => by rw [(k6 50 i (by omega) (by omega) (by omega) (by omega)).1, nn_n (by omega)]; exact K i hi⟩
  have M : tkM (fun i => (hq_gi sm 175 i).toNatClampNeg) L s14 := ⟨x14, fun i hi => by rw [k14.1 175 i (by omega) (by omega)]; exact (ht i hi).2.2⟩
  obtain ⟨pl, sx1, sm1, r1, r2, hRD, z1, z2⟩ := tx_RD hN hv X M c6 c14 g1 g3 g5 g7
  obtain ⟨sx2, sm2, y1, ⟨y2, y3, y4, y6, y7⟩, y5⟩ := rl_all hN (k1 := 1) (k3 := 27 - t) (a2 := Int32.ofNat L) (b1 := Int32.ofNat L) (b2 := 6) (L + 1) N N pl 0 sx1 sm1 hRD (by omega) (by omega) (by omega) (by omega)
  have hgk := (y4 (hgI_RD hRD)).2
  have kx : kX (27 - t) (hq_si sx 0 1 0) sx2 := kX_tr k6 (kX_tr (kX_kz z1) (kX_fc (by rcases hv with e | e <;> rw [e] <;> decide) y2))
  have km : kM sm sm2 := kM_tr k14 (kM_tr (kM_kz z2) (kM_fc (by decide) y3 hgk))
  have m2 : hq_gi sm2 174 2 = 0 := by rw [(y3 174 2 (by decide)).1, kz_no z2 (by decide)]; exact c14.2.2.2.2.2.2.2.2.2
  have x01 : hq_gi sx2 0 1 = 0 := by rw [(kx 0 1 (by omega) (by omega) (by omega) (by omega)).1]; exact nn_g1
  have r02 : hq_gr sx2 0 2 = t := ((kx 0 2 (by omega) (by omega) (by omega) (by omega)).2.2).trans t1
  have r03 : hq_gr sx2 0 3 = 27 - t := ((kx 0 3 (by omega) (by omega) (by omega) (by omega)).2.2).trans t3
  have xk : ∀ i, i < 22 → hq_gi sx2 50 i = hq_gi hq_s0 50 i := fun i hi => by rw [(kx 50 i (by omega) (by omega) (by omega) (by omega)).1, nn_n (by omega)]; exact K i hi
  have xc : ∀ c i, 152 ≤ c → c ≤ 158 → hq_gi sx2 c i = hq_gi sx c i := fun c i h1 h2 => by rw [(kx c i (by omega) (by omega) (by omega) (by omega)).1, nn_n (by omega)]
  have eM : f_X12_text N (Int32.ofNat L) sm = f_X12_text_J149 N (Int32.ofNat L) 6 sm2 := by
    rw [e14, r2]
    simp only [ob]
    exact y1
  have eX : ∀ (y : Int32 × hq_S), f_X6_readText_L36 N N 1 (Int32.ofNat L) (27 - t) sx1 = some y → f_X6_readText N 1 (Int32.ofNat L) (27 - t) (hq_si sx 0 1 0) = some y := fun y hy => by
    rw [e6, r1]
    simp only [ob]
    exact hy
  have e0 : f_X11_text N (Int32.ofNat L) sx = (f_X6_readText N 1 (Int32.ofNat L) (27 - t) (hq_si sx 0 1 0)).bind fun y5 => if y5.1 = 0 then some ((-1 : Int32), y5.2) else if hq_isT (hq_gr y5.2 0 3) then if hq_isT (hq_gr y5.2 0 2) then (hq_pr y5.2 0 3 (hq_gr y5.2 0 2)).bind fun s9 => (hq_pr s9 0 2 (hq_gr y5.2 0 3)).bind fun s10 => if hq_isT (hq_gr s10 0 2) then (f_X5_copyFrom N 76 ((hq_gr s10 0 2) + 14) s10).bind fun s12 => if hq_isT (hq_gr s12 0 2) then (f_X8_build N 103 (hq_gr s12 0 2) (0 : Int32) (0 : Int32) s12).bind fun s14 => (f_X2_clear N s14).bind fun s15 => (f_X1_clear N s15).bind fun s16 => (hq_pi s16 0 7 1 (0 : Int32)).bind fun s17 => some ((hq_gi s17 48 9), s17) else none else none else none else none := by
    unfold f_X11_text
    rw [if_neg c0, p2, if_neg c1, nn_pi]
    simp only [ob]
    rw [show hq_gr (hq_si sx 0 1 0) 0 3 = 27 - t from t3, if_pos hTv]
  rcases y5 with ⟨w1, ln, pl', hR2⟩ | ⟨w1, B⟩
  · obtain ⟨nc', nl', ng', nt', kn', T', p', q', a', b', hR2⟩ := hR2
    obtain ⟨-, -, To, -, ⟨f7, f8⟩, lx, lm⟩ := hR2
    have pX := y6 f7
    have pM := y7 f8
    obtain ⟨sx', sm', w3, w4, w5⟩ := tx_fin (HC := HC) (b1 := Int32.ofNat L) (b2 := 6) (w := t) hN hv (by omega) To r02 r03 f7 (by rw [pX.1, kz_ne z1 (by omega)]; exact g4) f8 (by rw [pM.1, kz_no z2 (by decide)]; exact c14.2.2.2.2.2.2.1) (lx.trans lm.symm) x01 m2 xk (fun s hs => hc sx s (fun c i h1 h2 => (hs c i h1 h2).trans (xc c i h1 h2)) H) (idle_lo km Id)
    refine ⟨hq_gi sx2 48 9, sx', sm', ?_, ?_, w5⟩
    · rw [e0, eX _ w1]
      simp only [ob]
      rw [if_neg (by decide)]
      exact w3
    · rw [eM]; exact w4
  · have nb := bad_n B
    refine ⟨-1, sx2, hq_si (hq_si sm2 174 30 (hq_gi sm2 174 28)) 174 31 (hq_gi sm2 174 29), ?_, ?_, ?_⟩
    · rw [e0, eX _ w1]
      simp only [ob]
      rw [if_pos trivial]
    · rw [eM]
      unfold f_X12_text_J149
      rw [nn_pi]
      simp only [ob]
      rw [nn_n (by omega), nn_pi]
      simp only [ob]
      rw [if_neg (by rw [nn_n (by omega), nn_n (by omega)]; exact nb)]
    · have km' : kM sm (hq_si (hq_si sm2 174 30 (hq_gi sm2 174 28)) 174 31 (hq_gi sm2 174 29)) := kM_tr km ⟨fun k i h1 h2 => by rw [nn_n (by omega), nn_n (by omega)], fun k i h1 h2 _ => by rw [nn_n (by omega), nn_n (by omega)], fun i hi => by rw [nn_n (by omega), nn_n (by omega)]⟩
      obtain ⟨f, fa, fb, fc, fd, fe⟩ := B
      refine ⟨⟨0, by omega, x01, ?_, fun i hi => by omega⟩, ⟨?_, ?_⟩, idle_lo km' Id, xk, hc sx sx2 xc H, nc, nl, ng, nt, t, bar, fr, to, on, hr_T_lo Id kx km' T⟩
      · rw [nn_n (by omega), nn_n (by omega)]; exact m2
      · rw [nn_n (by omega), nn_g1, fc, fd]
      · rw [nn_g1, fe]
