/-! FIRST GO (20) -/
theorem nb_pop_shr (a k : Nat) : ∀ m, nb_pop (a / 2 ^ k) m + nb_pop a k = nb_pop a (k + m)
  | 0 => by rw [Nat.add_zero, nb_pop, Nat.zero_add]
  | m + 1 => by
    have ih := nb_pop_shr a k m
    rw [nb_pop, show k + (m + 1) = (k + m) + 1 by omega, nb_pop, Nat.testBit_div_two_pow, ← ih, Nat.add_comm m k]
    omega
theorem nb_pop_mono (a : Nat) : ∀ i k, i ≤ k → nb_pop a i ≤ nb_pop a k
  | i, 0, h => by rw [show i = 0 by omega]; exact Nat.le_refl _
  | i, k + 1, h => by
    by_cases e : i = k + 1
    · rw [e]; exact Nat.le_refl _
    · have := nb_pop_mono a i k (by omega)
      rw [nb_pop]
      omega
theorem gs_keep2 {G j : Nat} : ∀ k i, i ≤ k → j < nb_pop G i → gs G k j = gs G i j
  | 0, i, h, _ => by rw [show i = 0 by omega]
  | k + 1, i, h, hj => by
    by_cases e : i = k + 1
    · rw [e]
    · have := nb_pop_mono G i k (by omega)
      rw [gs_keep (by omega)]
      exact gs_keep2 k i (by omega) hj
theorem gs_rank {G d k : Nat} (hd : d < k) (hb : G.testBit d = true) : nb_pop G d < nb_pop G k ∧ gs G k (nb_pop G d) = d := by
  have h1 : nb_pop G (d + 1) = nb_pop G d + 1 := by rw [nb_pop, if_pos hb]
  have h2 := nb_pop_mono G (d + 1) k (by omega)
  exact ⟨by omega, by rw [gs_keep2 k (d + 1) (by omega) (by omega)]; exact gs_new hb⟩
theorem gs_bit {G : Nat} : ∀ i j, j < nb_pop G i → G.testBit (gs G i j) = true
  | 0, j, h => by rw [nb_pop] at h; omega
  | i + 1, j, h => by
    rw [nb_pop] at h
    rw [gs]
    by_cases q : G.testBit i = true
    · rw [if_pos q] at h
      by_cases e : j = nb_pop G i
      · rw [if_pos ⟨q, e⟩]; exact q
      · rw [if_neg (fun z => e z.2)]
        exact gs_bit i j (by omega)
    · rw [if_neg q] at h
      rw [if_neg (fun z => q z.1)]
      exact gs_bit i j (by omega)
section
variable {N n g : Nat} {nx : Nat → Nat}
theorem fg_65 {gi q : Nat → Nat} {d : Nat} {a1 a2 a4 : Int32} {s : hq_S} (hg : g ≤ 3) (hd : d < 3) (hgi : ∀ j, j < g → gi j < 3) (F : cm_F n g nx s) (W : ∀ j, j < g → hq_gi s 213 j = Int32.ofNat (gi j)) (D : ∀ j, j < g → hq_gi s 214 j = Int32.ofNat (q j)) : ∀ (r j m : Nat), j + r = g → r < m → (∀ i, i < j → ¬ gi i = d) → ((∃ i, i < g ∧ gi i = d ∧ (∀ i', i' < i → ¬ gi i' = d) ∧ f_X12_firstGo_L65 N m a1 a2 (Int32.ofNat d) a4 (Int32.ofNat j) s = some (Int32.ofNat (q i), s)) ∨ ((∀ i, i < g → ¬ gi i = d) ∧ f_X12_firstGo_L65 N m a1 a2 (Int32.ofNat d) a4 (Int32.ofNat j) s = some (-2, s))) := by
  intro r
  induction r with
  | zero =>
    intro j m hj hm no
    obtain ⟨m, rfl⟩ : ∃ x, m = x + 1 := ⟨m - 1, by omega⟩
    have cc : ¬ Int32.ofNat j < Int32.ofNat g := by rw [nn_lt (by omega) (by omega)]; omega
    refine Or.inr ⟨fun i hi => no i (by omega), ?_⟩
    rw [f_X12_firstGo_L65_s]
    unfold f_X12_firstGo_L65_B
    rw [F.2.1, if_neg cc]
  | succ r ih =>
    intro j m hj hm no
    obtain ⟨m, rfl⟩ : ∃ x, m = x + 1 := ⟨m - 1, by omega⟩
    have cc : Int32.ofNat j < Int32.ofNat g := (nn_lt (by omega) (by omega)).mpr (by omega)
    have hgj := hgi j (by omega)
    have l1 : hq_ld s 213 3 (Int32.ofNat j) = some (Int32.ofNat (gi j)) := by rw [nn_ld (by omega) (by omega), W j (by omega)]
    have l2 : hq_ld s 214 3 (Int32.ofNat j) = some (Int32.ofNat (q j)) := by rw [nn_ld (by omega) (by omega), D j (by omega)]
    have eq : (Int32.ofNat (gi j) = Int32.ofNat d) = (gi j = d) := nb_eq (by omega) (by omega)
    by_cases z : gi j = d
    · refine Or.inl ⟨j, by omega, z, no, ?_⟩
      have z1 : Int32.ofNat (gi j) = Int32.ofNat d := by rw [eq]; exact z
      rw [f_X12_firstGo_L65_s]
      unfold f_X12_firstGo_L65_B
      rw [F.2.1, if_pos cc, l1, Option.bind_some, if_pos z1, l2, Option.bind_some]
    · have z1 : ¬ Int32.ofNat (gi j) = Int32.ofNat d := by rw [eq]; exact z
      have st : f_X12_firstGo_L65 N (m + 1) a1 a2 (Int32.ofNat d) a4 (Int32.ofNat j) s = f_X12_firstGo_L65 N m a1 a2 (Int32.ofNat d) a4 (Int32.ofNat (j + 1)) s := by
        rw [f_X12_firstGo_L65_s]
        conv => lhs; unfold f_X12_firstGo_L65_B
        rw [F.2.1, if_pos cc, l1, Option.bind_some, if_neg z1, nn_succ]
      rw [st]
      exact ih (j + 1) m (by omega) (by omega) (fun i hi => by
        by_cases e : i = j
        · rw [e]; exact z
        · exact no i (by omega))
end
theorem hs_op_20 {N : Nat} (hN : 10300 < N) (a1 a2 a3 : Int32) : hq_Sim (hR hC) (f_X11_firstGo N a1 a2 a3) (f_X12_firstGo N a1 a2 a3) := fun sx sm R => by
  have R2 := hR_th hC_loc (x := 0) R
  have H := R.2.2.2.2.1
  obtain ⟨nc, nl, ng, nt, t, bar, fr, to, on, TT⟩ := R.2.2.2.2.2
  obtain ⟨I, T⟩ := hT_th 0 R.2.2.1 TT
  have T0 := T
  obtain ⟨⟨t1, t2, t3⟩, ⟨⟨b1, b2, b3, b4⟩, ⟨c1, c2, -, -, g1, g2, d1, d2⟩, -⟩, ⟨X, M0, S0, -⟩, -⟩ := T
  have hx := ly_nx_lt (fr := fr) (to := to) (on := on) (bar := bar) (both := false) (nc := nc) (n := nl) fun k hk => ⟨(M0.2.2.2.2 k hk).1, (M0.2.2.2.2 k hk).2.1⟩
  have d10 : ¬ (1 : Int32) = 0 := by decide
  have fin : ∀ v sx' sm', f_X11_firstGo N a1 a2 a3 sx = some (v, sx') → f_X12_firstGo N a1 a2 a3 sm = some (v, sm') → hC sx' → ∃ v sx' sm', f_X11_firstGo N a1 a2 a3 sx = some (v, sx') ∧ f_X12_firstGo N a1 a2 a3 sm = some (v, sm') ∧ hR hC sx' sm' := fun v sx' sm' ex em hC' => by
    have kx := f_X11_firstGo_fw ex
    have km := f_X12_firstGo_fw em
    exact ⟨v, sx', sm', ex, em, hR_kc (kx.kp (by decide)) (km.kp (by decide)) (hm_o_fc (by decide) km) hC' R⟩
  rcases hs_areGuards (N := N) (a := a1) b3 t1 t2 g1 g2 with ⟨G, hG, rfl, e1, e2⟩ | ⟨e1, e2⟩
  · rcases hs_isCorner (N := N) (a := a2) (by omega) t1 t2 c1 c2 with ⟨c, hc, rfl, e3, e4⟩ | ⟨e3, e4⟩
    · rcases hs_isGuard (N := N) (a := a3) (by omega) t1 t2 g1 g2 with ⟨d, hd, rfl, e5, e6⟩ | ⟨e5, e6⟩
      · obtain ⟨ga, sm1, p1, p2, p3, p4, p5, p6⟩ := ch_both (N := N) (G := G) hN (by omega) hG I H T0
        obtain ⟨s2, r1, r2, r3⟩ := rs_all (N := N) (c := c) (by omega) p2 (fun j hj => by have := p1 j hj; omega) (by omega) p4 p5
        have p8 : (2 : Nat) ^ ng ≤ 8 := Nat.pow_le_pow_right (by omega) (show ng ≤ 3 by omega)
        rcases p6 with rfl | ⟨q0, q1, K, K', sx1, M, k1, k2, bc, so, row, B, S, Fx, hC1, kk⟩
        · rw [nb_pop_0, if_pos rfl] at r1
          refine fin (-2) sx s2 ?_ ?_ H
          · have : f_X11_roundsOfChase N (Int32.ofNat 0) (Int32.ofNat c) sx = some (2147483647, sx) := by
              unfold f_X11_roundsOfChase
              rw [if_pos (show Int32.ofNat 0 = 0 from rfl)]
            unfold f_X11_firstGo
            rw [e1, Option.bind_some, if_neg d10, e3, Option.bind_some, if_neg d10, e5, Option.bind_some, if_neg d10, this, Option.bind_some, if_neg (show ¬ (2147483647 : Int32) = 0 by decide), if_pos rfl]
          · unfold f_X12_firstGo
            rw [nn_pi, Option.bind_some, e2, Option.bind_some, if_neg d10, e4, Option.bind_some, if_neg d10, e6, Option.bind_some, if_neg d10, p3, Option.bind_some, r1, Option.bind_some, if_neg (show ¬ (0 : Int32) < -1 by decide)]
        · have z0 : ¬ Int32.ofNat G = 0 := by rw [nb_eq0 (by omega)]; exact q0
          have rf := rf_all (N := N) (p := fun j => ga (gs G ng j)) B p1 hc S.1.1
          have an := cA_of b1 k1 k2 B S Fx M p1 hc
          rw [if_neg (by omega)] at r1
          have ro : f_X11_roundsOfChase N (Int32.ofNat G) (Int32.ofNat c) sx = some (hq_gi sx1 158 (enc nc (fun j => ga (gs G ng j)) (nb_pop G ng) * nc + c), sx1) := by
            unfold f_X11_roundsOfChase
            rw [if_neg z0, bc, Option.bind_some, so, Option.bind_some, row, Option.bind_some, rf, Option.bind_some]
          have v208 := r3 208 (enc 10 (pud (fun j => ga (gs G ng j)) (nb_pop G ng) c) (nb_pop G ng + 1)) (by omega)
          rw [v208] at r1
          have F2 : cm_F nc (nb_pop G ng) (ly_nx fr to on bar false nl) s2 := cm_F_k (fun c i h => r3 c i (by omega)) p4
          have M2 : cM nc (nb_pop G ng) (ly_nx fr to on bar false nl) K' s2 := ⟨F2, fun y hy => by rw [r3 _ _ (by omega)]; exact M.2.1 y hy, M.2.2⟩
          have W2 : cW (nb_pop G ng) (gs G ng) (fun j => ga (gs G ng j)) s2 := fun j hj => by rw [r3 _ _ (by omega), r3 _ _ (by omega)]; exact p5 j hj
          rcases an with ⟨j, j1, j2, j3, j4⟩ | ⟨j1, j2, j3⟩
          · by_cases j0 : j = 0
            · refine fin (-2) sx1 s2 ?_ ?_ hC1
              · unfold f_X11_firstGo
                rw [e1, Option.bind_some, if_neg d10, e3, Option.bind_some, if_neg d10, e5, Option.bind_some, if_neg d10, ro, Option.bind_some, if_pos (by rw [j3, j0]; rfl)]
              · unfold f_X12_firstGo
                rw [nn_pi, Option.bind_some, e2, Option.bind_some, if_neg d10, e4, Option.bind_some, if_neg d10, e6, Option.bind_some, if_neg d10, p3, Option.bind_some, r1, Option.bind_some, j4, j0, if_neg (show ¬ (0 : Int32) < Int32.ofNat 0 by decide)]
            · obtain ⟨k, rfl⟩ : ∃ k, j = k + 1 := ⟨j - 1, by omega⟩
              have x0 : ¬ hq_gi sx1 158 (enc nc (fun j => ga (gs G ng j)) (nb_pop G ng) * nc + c) = 0 := by rw [j3, nb_eq0 (by omega)]; omega
              have x1 : ¬ hq_gi sx1 158 (enc nc (fun j => ga (gs G ng j)) (nb_pop G ng) * nc + c) = 2147483647 := by rw [j3]; exact (mx_n (by omega)).1
              have y0 : (0 : Int32) < Int32.ofNat (k + 1) := by rw [nb_0, nn_lt (by omega) (by omega)]; omega
              -- there is such a row
              have ex : ∃ q, cRw nc (nb_pop G ng) (ly_nx fr to on bar false nl) k (fun j => ga (gs G ng j)) c q := by
                rcases cL_s.mp j2.1 with h | ⟨q, h1, h2⟩
                · exact absurd h (j2.2 k (by omega))
                · exact ⟨q, h1, h2, fun i hi z => j2.2 (i + 1) (by omega) (cL_s.mpr (Or.inr ⟨q, h1, z⟩))⟩
              obtain ⟨v, s3, l1, l2, -, l4⟩ := lr_all (N := N) (K := K') (k := k) (c := c) (p := fun j => ga (gs G ng j)) (gi := gs G ng) (by omega) b1 p2 hx k2 (by omega) p1 hc (nb_pop G ng) 0 10 (fun _ => 0) s2 (by omega) (by omega) M2 W2 (fun i hi => by omega) (fun i hi => by omega)
              have l1 : f_X12_laysRow N 0 (Int32.ofNat c) (Int32.ofNat (k + 1)) s2 = some (v, s3) := l1
              have okq : ∀ q, lr_ok nc (nb_pop G ng) (ly_nx fr to on bar false nl) k (fun j => ga (gs G ng j)) c 0 (fun _ => 0) q ↔ cRw nc (nb_pop G ng) (ly_nx fr to on bar false nl) k (fun j => ga (gs G ng j)) c q := fun q => ⟨fun h => ⟨fun i hi => h.2.1 i (by omega) hi, h.2.2⟩, fun h => ⟨fun i hi => by omega, fun i _ hi => h.1 i hi, h.2⟩⟩
              rcases l2 with ⟨rfl, q, h1, h2, h3⟩ | ⟨rfl, h1⟩
              · have F3 : cm_F nc (nb_pop G ng) (ly_nx fr to on bar false nl) s3 := cm_F_k (fun c i h => l4 c i (by omega)) F2
                have gl3 : ∀ j, j < nb_pop G ng → gs G ng j < 3 := fun j hj => (p5 j hj).1
                have fg := fg_65 (N := N) (gi := gs G ng) (q := q) (d := d) (a1 := Int32.ofNat G) (a2 := Int32.ofNat c) (a4 := Int32.ofNat (k + 1)) p2 (by omega) gl3 F3 (fun j hj => by rw [l4 _ _ (by omega)]; exact (W2 j hj).2.1) h2 (nb_pop G ng) 0 N (by omega) (by omega) (fun i hi => by omega)
                have em : ∀ w s', f_X12_firstGo_L65 N N (Int32.ofNat G) (Int32.ofNat c) (Int32.ofNat d) (Int32.ofNat (k + 1)) 0 s3 = some (w, s') → f_X12_firstGo N (Int32.ofNat G) (Int32.ofNat c) (Int32.ofNat d) sm = some (w, s') := fun w s' h => by
                  unfold f_X12_firstGo
                  rw [nn_pi, Option.bind_some, e2, Option.bind_some, if_neg d10, e4, Option.bind_some, if_neg d10, e6, Option.bind_some, if_neg d10, p3, Option.bind_some, r1, Option.bind_some, j4, if_pos y0, l1, Option.bind_some, if_neg d10, h]
                have bd := nb_bit0 (show G < 2147483648 by omega) (show d < 32 by omega)
                by_cases qb : G.testBit d = true
                · have nz : ¬ ((Int32.ofNat G >>> (Int32.ofNat d &&& 31)) &&& (1 : Int32)) = 0 := by rw [bd, qb]; decide
                  obtain ⟨rk1, rk2⟩ := gs_rank (k := ng) hd qb
                  -- the class's row
                  obtain ⟨r, a1', a2', a3', a4'⟩ := fr_12 (N := N) (k := k) (c := c) (by omega) hx k1 (by omega) B S Fx p1 hc ex (nc ^ nb_pop G ng) 0 N (by omega) (by have := (cB_M B).1; omega) (fun r' h => by omega)
                  rw [Nat.sub_self] at a2'
                  have a2' : f_X0_firstRow_L12 N N (Int32.ofNat (enc nc (fun j => ga (gs G ng j)) (nb_pop G ng))) (Int32.ofNat c) (Int32.ofNat k) 0 sx1 = some (Int32.ofNat r, sx1) := a2'
                  have qn : ∀ i, i < nb_pop G ng → q i < nc := fun i hi => (h1.2.1 i (by omega) hi).1
                  have er : enc nc q (nb_pop G ng) = r := by
                    have le1 := h3 _ ((okq _).mpr a3')
                    rw [enc_dgs (by omega) _ r a1'] at le1
                    by_cases lt : enc nc q (nb_pop G ng) < r
                    · exact absurd ((cRw_cg (dgs_enc _ qn)).mpr ((okq q).mp h1)) (a4' _ lt)
                    · omega
                  have eq : ∀ i, i < nb_pop G ng → dgs nc (nb_pop G ng) r i = q i := fun i hi => by rw [← er]; exact dgs_enc _ qn i hi
                  -- its corner
                  have sh : Int32.ofNat G >>> (Int32.ofNat d &&& 31) = Int32.ofNat (G / 2 ^ d) := nb_shr (by omega) (by omega)
                  have gd : G / 2 ^ d ≤ G := Nat.div_le_self _ _
                  have pp := nb_pop_shr G d 20
                  rw [nb_pop_eq hG (d + 20) (by omega)] at pp
                  have bc2 : f_J6_bitCount_0f7a4 N (Int32.ofNat (G / 2 ^ d)) sx1 = some (Int32.ofNat (nb_pop G ng - nb_pop G d), sx1) := by
                    have := hb_bc (N := N) (a := G / 2 ^ d) (s := sx1) (by omega)
                    rw [this]
                    congr 3
                    omega
                  have su : Int32.ofNat (nb_pop G ng - nb_pop G d) - 1 = Int32.ofNat (nb_pop G ng - nb_pop G d - 1) := by rw [nb_lit 1, nb_sub (by omega)]
                  have hM := cB_M B
                  have ci := ci_all (N := N) (b := nb_pop G ng - nb_pop G d - 1) (g := nb_pop G ng) (r := r) (s := sx1) (by omega) B.1 b1 (by omega) p2 (by omega) S.1.1
                  rw [show nb_pop G ng - 1 - (nb_pop G ng - nb_pop G d - 1) = nb_pop G d by omega, eq _ rk1] at ci
                  have pr : Int32.ofNat (k + 1) - 1 = Int32.ofNat k := nn_pred k
                  rcases fg with ⟨i, i1, i2, i3, i4⟩ | ⟨i1, -⟩
                  · have ei : i = nb_pop G d := by
                      by_cases lt : nb_pop G d < i
                      · exact absurd rk2 (i3 _ lt)
                      · by_cases lt2 : i < nb_pop G d
                        · have := gs_lt (G := G) d i lt2
                          rw [← gs_keep2 ng d (by omega) lt2, i2] at this
                          omega
                        · omega
                    rw [ei] at i4
                    refine fin (Int32.ofNat (q (nb_pop G d))) sx1 s3 ?_ (em _ _ i4) hC1
                    unfold f_X11_firstGo f_X0_firstRow
                    rw [e1, Option.bind_some, if_neg d10, e3, Option.bind_some, if_neg d10, e5, Option.bind_some, if_neg d10, ro, Option.bind_some, if_neg x0, if_neg x1, if_neg nz, sh, bc2, Option.bind_some, row, Option.bind_some, rf, Option.bind_some, j3, pr, a2', Option.bind_some, su, ci, Option.bind_some]
                  · exact absurd rk2 (i1 _ rk1)
                · have nz : ((Int32.ofNat G >>> (Int32.ofNat d &&& 31)) &&& (1 : Int32)) = 0 := by
                    rw [bd]
                    cases w : G.testBit d with
                    | true => exact absurd w qb
                    | false => rfl
                  rcases fg with ⟨i, i1, i2, -, -⟩ | ⟨-, i4⟩
                  · have := gs_bit (G := G) ng i i1
                    rw [i2] at this
                    exact absurd this qb
                  · refine fin (-2) sx1 s3 ?_ (em _ _ i4) hC1
                    unfold f_X11_firstGo
                    rw [e1, Option.bind_some, if_neg d10, e3, Option.bind_some, if_neg d10, e5, Option.bind_some, if_neg d10, ro, Option.bind_some, if_neg x0, if_neg x1, if_pos nz]
              · obtain ⟨q, hq⟩ := ex
                exact absurd ((okq q).mpr hq) (h1 q)
          · refine fin (-2) sx1 s2 ?_ ?_ hC1
            · unfold f_X11_firstGo
              rw [e1, Option.bind_some, if_neg d10, e3, Option.bind_some, if_neg d10, e5, Option.bind_some, if_neg d10, ro, Option.bind_some, j1, if_neg (show ¬ (2147483647 : Int32) = 0 by decide), if_pos rfl]
            · unfold f_X12_firstGo
              rw [nn_pi, Option.bind_some, e2, Option.bind_some, if_neg d10, e4, Option.bind_some, if_neg d10, e6, Option.bind_some, if_neg d10, p3, Option.bind_some, r1, Option.bind_some, j2, if_neg (show ¬ (0 : Int32) < -1 by decide)]
      · exact ⟨-1, sx, hq_si sm 174 0 0, by unfold f_X11_firstGo; rw [e1, Option.bind_some, if_neg d10, e3, Option.bind_some, if_neg d10, e5, Option.bind_some, if_pos rfl], by unfold f_X12_firstGo; rw [nn_pi, Option.bind_some, e2, Option.bind_some, if_neg d10, e4, Option.bind_some, if_neg d10, e6, Option.bind_some, if_pos rfl], R2⟩
    · exact ⟨-1, sx, hq_si sm 174 0 0, by unfold f_X11_firstGo; rw [e1, Option.bind_some, if_neg d10, e3, Option.bind_some, if_pos rfl], by unfold f_X12_firstGo; rw [nn_pi, Option.bind_some, e2, Option.bind_some, if_neg d10, e4, Option.bind_some, if_pos rfl], R2⟩
  · exact ⟨-1, sx, hq_si sm 174 0 0, by unfold f_X11_firstGo; rw [e1, Option.bind_some, if_pos rfl], by unfold f_X12_firstGo; rw [nn_pi, Option.bind_some, e2, Option.bind_some, if_pos rfl], R2⟩
