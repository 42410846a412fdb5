/-! FLEE (21) -/
theorem nb_pop_0 (m : Nat) : nb_pop 0 m = 0 := by
  induction m with
  | zero => rfl
  | succ m ih => rw [nb_pop, ih, Nat.zero_testBit]; rfl
theorem hs_op_21 {N : Nat} (hN : 10300 < N) (a1 a2 : Int32) : hq_Sim (hR hC) (f_X11_flee N a1 a2) (f_X12_flee N a1 a2) := fun sx sm R => by
  have R2 := hR_th hC_loc (x := 0) R
  have H := R.2.2.2.2.1
  obtain ⟨nc, nl, ng, nt, t, bar, fr, to, on, TT⟩ := R.2.2.2.2.2
  obtain ⟨I, T⟩ := hT_th 0 R.2.2.1 TT
  have T0 := T
  obtain ⟨⟨t1, t2, t3⟩, ⟨⟨b1, b2, b3, b4⟩, ⟨c1, c2, -, -, g1, g2, d1, d2⟩, -⟩, ⟨X, M0, S0, -⟩, -⟩ := T
  have hx := ly_nx_lt (fr := fr) (to := to) (on := on) (bar := bar) (both := false) (nc := nc) (n := nl) fun k hk => ⟨(M0.2.2.2.2 k hk).1, (M0.2.2.2.2 k hk).2.1⟩
  have d10 : ¬ (1 : Int32) = 0 := by decide
  have fin : ∀ v sx' sm', f_X11_flee N a1 a2 sx = some (v, sx') → f_X12_flee N a1 a2 sm = some (v, sm') → hC sx' → ∃ v sx' sm', f_X11_flee N a1 a2 sx = some (v, sx') ∧ f_X12_flee N a1 a2 sm = some (v, sm') ∧ hR hC sx' sm' := fun v sx' sm' ex em hC' => by
    have kx := f_X11_flee_fw ex
    have km := f_X12_flee_fw em
    exact ⟨v, sx', sm', ex, em, hR_kc (kx.kp (by decide)) (km.kp (by decide)) (hm_o_fc (by decide) km) hC' R⟩
  rcases hs_areGuards (N := N) (a := a1) b3 t1 t2 g1 g2 with ⟨G, hG, rfl, e1, e2⟩ | ⟨e1, e2⟩
  · rcases hs_isCorner (N := N) (a := a2) (by omega) t1 t2 c1 c2 with ⟨c, hc, rfl, e3, e4⟩ | ⟨e3, e4⟩
    · obtain ⟨ga, sm1, p1, p2, p3, p4, p5, p6⟩ := ch_both (N := N) (G := G) hN (by omega) hG I H T0
      obtain ⟨s2, r1, r2, r3⟩ := rs_all (N := N) (c := c) (by omega) p2 (fun j hj => by have := p1 j hj; omega) (by omega) p4 p5
      have F2 : cm_F nc (nb_pop G ng) (ly_nx fr to on bar false nl) s2 := cm_F_k (fun c i h => r3 c i (by omega)) p4
      obtain ⟨va, va1, va2⟩ := isAt_all (N := N) (p := fun j => ga (gs G ng j)) (c := c) (by omega) p2 (fun j hj => by have := p1 j hj; omega) (by omega) F2 r2
      have go := cm_go (N := N) (show c < 10 by omega) F2
      rcases p6 with rfl | ⟨q0, q1, K, K', sx1, M, k1, k2, bc, so, row, B, S, Fx, hC1, kk⟩
      · have pz := nb_pop_0 ng
        have va0 : va = 0 := by
          rcases va2 with ⟨-, i, hi, -⟩ | ⟨h, -⟩
          · omega
          · exact h
        subst va0
        rw [pz, if_pos rfl] at r1
        rw [pz] at F2
        obtain ⟨v, f1, f2⟩ := fl_free (N := N) (a1 := Int32.ofNat 0) (sx := sx) (by omega) b1 hx hc S0 c 0 N N s2 (by omega) (by omega) (by omega) F2 (fun c' h => by omega)
        have f1 : f_X11_firstTurn_L2 N N (Int32.ofNat c) 0 sx = some (v, sx) := f1
        have f2 : f_X12_flee_L60 N N (Int32.ofNat 0) (Int32.ofNat c) (Int32.ofNat (tnx (ly_nx fr to on bar false nl) c)) (-1) (-1) 0 s2 = some (v, s2) := f2
        refine fin v sx s2 ?_ ?_ H
        · have : f_X11_roundsOfChase N (Int32.ofNat 0) (Int32.ofNat c) sx = some (2147483647, sx) := by
            unfold f_X11_roundsOfChase
            rw [if_pos (show Int32.ofNat 0 = 0 from rfl)]
          unfold f_X11_flee f_X11_firstTurn
          rw [e1, Option.bind_some, if_neg d10, e3, Option.bind_some, if_neg d10, this, Option.bind_some, if_neg (show ¬ (2147483647 : Int32) = 0 by decide), if_pos (show Int32.ofNat 0 = 0 from rfl), f1, Option.bind_some]
        · unfold f_X12_flee
          rw [nn_pi, Option.bind_some, e2, Option.bind_some, if_neg d10, e4, Option.bind_some, if_neg d10, p3, Option.bind_some, r1, Option.bind_some, va1, Option.bind_some, if_pos rfl, go, Option.bind_some, f2]
      · have z0 : ¬ Int32.ofNat G = 0 := by rw [nb_eq0 (by have : (2 : Nat) ^ ng ≤ 8 := Nat.pow_le_pow_right (by omega) (show ng ≤ 3 by omega); omega)]; exact q0
        have rf := rf_all (N := N) (p := fun j => ga (gs G ng j)) B p1 hc S.1.1
        have an := cA_of b1 k1 k2 B S Fx M p1 hc
        have ro : f_X11_roundsOfChase N (Int32.ofNat G) (Int32.ofNat c) sx = some (hq_gi sx1 158 (enc nc (fun j => ga (gs G ng j)) (nb_pop G ng) * nc + c), sx1) := by
          unfold f_X11_roundsOfChase
          rw [if_neg z0, bc, Option.bind_some, so, Option.bind_some, row, Option.bind_some, rf, Option.bind_some]
        have M2 : cM nc (nb_pop G ng) (ly_nx fr to on bar false nl) K' s2 := ⟨F2, fun y hy => by rw [r3 _ _ (by omega)]; exact M.2.1 y hy, M.2.2⟩
        have W2 : cW (nb_pop G ng) (gs G ng) (fun j => ga (gs G ng j)) s2 := fun j hj => by rw [r3 _ _ (by omega), r3 _ _ (by omega)]; exact p5 j hj
        rcases va2 with ⟨rfl, va2⟩ | ⟨rfl, va2⟩
        · have x0 : hq_gi sx1 158 (enc nc (fun j => ga (gs G ng j)) (nb_pop G ng) * nc + c) = 0 := by
            rcases an with ⟨j, j1, j2, j3, j4⟩ | ⟨-, -, j3⟩
            · have : j = 0 := by
                by_cases z : j = 0
                · exact z
                · exact absurd va2 (j2.2 0 (by omega))
              rw [j3, this]; rfl
            · exact absurd va2 (j3 0)
          refine fin (-2) sx1 s2 ?_ ?_ hC1
          · unfold f_X11_flee
            rw [e1, Option.bind_some, if_neg d10, e3, Option.bind_some, if_neg d10, ro, Option.bind_some, if_pos x0]
          · unfold f_X12_flee
            rw [nn_pi, Option.bind_some, e2, Option.bind_some, if_neg d10, e4, Option.bind_some, if_neg d10, p3, Option.bind_some, r1, Option.bind_some, va1, Option.bind_some, if_neg d10]
        · have x0 : ¬ hq_gi sx1 158 (enc nc (fun j => ga (gs G ng j)) (nb_pop G ng) * nc + c) = 0 := fun z => by
            rcases an with ⟨j, j1, j2, j3, j4⟩ | ⟨j1, -, -⟩
            · rw [j3, nb_eq0 (by omega)] at z
              rw [z] at j2
              exact va2 j2.1
            · rw [j1] at z
              exact absurd z (by decide)
          obtain ⟨v, s', f1, f2⟩ := fl_both (N := N) (a1 := Int32.ofNat G) (gi := gs G ng) (c0 := c) (by omega) b1 hx k1 k2 B S Fx p1 hc nc 0 N N (Int32.ofNat c) (-1) (-1) (-1) s2 (by omega) (by omega) (by omega) M2 W2 r2 (Or.inl ⟨rfl, rfl, fun c' h => by omega⟩)
          have f1 : f_X0_safest_L8 N N (Int32.ofNat (enc nc (fun j => ga (gs G ng j)) (nb_pop G ng))) (Int32.ofNat c) (Int32.ofNat c) (-1) 0 sx1 = some (v, sx1) := f1
          have f2 : f_X12_flee_L60 N N (Int32.ofNat G) (Int32.ofNat c) (Int32.ofNat (tnx (ly_nx fr to on bar false nl) c)) (-1) (-1) 0 s2 = some (v, s') := f2
          refine fin v sx1 s' ?_ ?_ hC1
          · unfold f_X11_flee f_X0_safest
            rw [e1, Option.bind_some, if_neg d10, e3, Option.bind_some, if_neg d10, ro, Option.bind_some, if_neg x0, if_neg z0, row, Option.bind_some, f1, Option.bind_some]
          · unfold f_X12_flee
            rw [nn_pi, Option.bind_some, e2, Option.bind_some, if_neg d10, e4, Option.bind_some, if_neg d10, p3, Option.bind_some, r1, Option.bind_some, va1, Option.bind_some, if_pos rfl, go, Option.bind_some, f2]
    · exact ⟨-1, sx, hq_si sm 174 0 0, by unfold f_X11_flee; rw [e1, Option.bind_some, if_neg d10, e3, Option.bind_some, if_pos rfl], by unfold f_X12_flee; rw [nn_pi, Option.bind_some, e2, Option.bind_some, if_neg d10, e4, Option.bind_some, if_pos rfl], R2⟩
  · exact ⟨-1, sx, hq_si sm 174 0 0, by unfold f_X11_flee; rw [e1, Option.bind_some, if_pos rfl], by unfold f_X12_flee; rw [nn_pi, Option.bind_some, e2, Option.bind_some, if_pos rfl], R2⟩
