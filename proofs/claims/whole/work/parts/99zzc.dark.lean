/-! SWEEP, LOOK, DARK -/
section
variable {N nc nl bar n : Nat} {fr to on nx : Nat → Nat} {s : hq_S} {HC : hq_S → Prop}
theorem sm_of (hN : 1100 < N) (hn : n ≤ 10) (M : hl_M nl nc fr to on s) (B : hq_gi s 198 0 = Int32.ofNat bar) (Bl : bar < 2147483648) (n4 : ¬ hq_gi s 174 49 = 4) (ex : nx = ly_nx fr to on bar false nl) : ∃ K v s', 1 ≤ K ∧ K < 1100 ∧ f_X12_sweepOf N (Int32.ofNat n) s = some (v, s') ∧ (∀ S, S < 2 ^ nc → hq_gi s' 217 S = Int32.ofNat (mvs nx S nc)) ∧ (∀ S, S < 2 ^ nc → sv (fun S => mvs nx S nc) n K S (hq_gi s' 216 S)) ∧ (∀ c i, c < 206 → hq_gi s' c i = hq_gi s c i) ∧ ((∃ j, j ≤ K ∧ se (fun S => mvs nx S nc) n j (2 ^ nc - 1) ∧ v = Int32.ofNat j) ∨ (v = -1 ∧ ∀ i, sw (fun S => mvs nx S nc) n i (2 ^ nc - 1) = false)) := by
  have hnc := M.1
  have hx : ∀ c, nx c < 2 ^ nc := by
    rw [ex]
    exact ly_nx_lt (fr := fr) (to := to) (on := on) (bar := bar) (both := false) (nc := nc) (n := nl) fun k hk => ⟨(M.2.2.2.2 k hk).1, (M.2.2.2.2 k hk).2.1⟩
  have p10 : (2 : Nat) ^ nc ≤ 1024 := Nat.pow_le_pow_right (by omega) (show nc ≤ 10 by omega)
  have p0 : 0 < (2 : Nat) ^ nc := Nat.two_pow_pos nc
  obtain ⟨g, f, e1, e2, e3⟩ := hm_lays (N := N) (l := 0) (both := false) (by omega) (by omega) ⟨fun h => (by cases h), fun h => absurd h n4⟩ B Bl M
  have e1 : f_X12_lays N 0 s = some (hq_w (hq_w s 206 g) 207 f) := e1
  generalize hw : hq_w (hq_w s 206 g) 207 f = w at e1
  have w0 : ∀ c i, c < 206 → hq_gi w c i = hq_gi s c i := fun c i h => by rw [← hw, hw_n (by omega), hw_n (by omega)]
  have R : hl_R nc nx w := ⟨by rw [w0 _ _ (by omega)]; exact M.2.2.1, fun c hc => by rw [← hw, hw_n (by omega), hw_g, ex]; exact e2 c hc⟩
  obtain ⟨s1, f1, f2, f3⟩ := sm_13 (N := N) (n := n) hN hnc hn hx (2 ^ nc) 0 N w (by omega) (by omega) R (fun S hS => by omega)
  have f1 : f_X12_laysNights_L13 N N (Int32.ofNat n) (Int32.ofNat (2 ^ nc - 1)) 0 w = _ := f1
  have mv0 : ∀ S, S < 2 ^ nc → (fun S => mvs nx S nc) S < 2 ^ nc := fun S _ => mvs_lt hx nc (Nat.le_refl _)
  obtain ⟨K, s2, g0, g0', g1, g2, g3, g4⟩ := sm_67 (N := N) (n := n) (mv := fun S => mvs nx S nc) hN hnc hn mv0 1024 1 N s1 (by omega) (by omega) (by omega) (fun S hS => (f2 S hS).1) (fun S hS => (f2 S hS).2) (by
    have h := cn_lt (P := fun _ => false) (Q := sw (fun S => mvs nx S nc) n 1) (2 ^ nc) (fun i _ h => by cases h) ⟨0, p0, rfl, sw_00 1⟩
    omega)
  have g1 : f_X12_laysNights_L67 N N (Int32.ofNat n) (Int32.ofNat (2 ^ nc - 1)) 1 2 s1 = some s2 := g1
  have l0 : ∀ s' : hq_S, hq_gi s' 176 0 = Int32.ofNat nc → hq_ld s' 176 14 0 = some (Int32.ofNat nc) := fun s' h => by rw [nb_0, nn_ld (by omega) (by omega), h]
  have on1 : ((1 : Int32) <<< (Int32.ofNat nc &&& 31)) - 1 = Int32.ofNat (2 ^ nc - 1) := by rw [nb_one (by omega), nb_lit 1, nb_sub (by omega)]
  have k2 : ∀ c i, c < 206 → hq_gi s2 c i = hq_gi s c i := fun c i h => by rw [g3 _ _ (by omega), f3 _ _ (by omega) (by omega), w0 _ _ h]
  have c2 : hq_gi s2 176 0 = Int32.ofNat nc := by rw [k2 _ _ (by omega)]; exact M.2.2.1
  have ld : hq_ld s2 216 1024 (Int32.ofNat (2 ^ nc - 1)) = some (hq_gi s2 216 (2 ^ nc - 1)) := nn_ld (by omega) (by omega)
  refine ⟨K, hq_gi s2 216 (2 ^ nc - 1), s2, g0, g0', ?_, fun S hS => by rw [g3 _ _ (by omega)]; exact (f2 S hS).1, g2, k2, ?_⟩
  · simp only [f_X12_sweepOf, e1, Option.bind_some, f_X12_laysNights, l0 w R.1, on1, f1, g1, l0 s2 c2, ld]
  · rcases g2 (2 ^ nc - 1) (by omega) with h | ⟨h1, h2⟩
    · exact Or.inl h
    · exact Or.inr ⟨h1, fun i => sw_nf fun z => by rw [g4 i _ (by omega) z] at h2; cases h2⟩
/-- both answer alike -/
theorem sw_ans {mv : Nat → Nat} {K K' A : Nat} {v v' : Int32} (hK : K < 1100) (hK' : K' < 1100) (h : (∃ j, j ≤ K ∧ se mv n j A ∧ v = Int32.ofNat j) ∨ (v = -2 ∧ ∀ i, sw mv n i A = false)) (h' : (∃ j, j ≤ K' ∧ se mv n j A ∧ v' = Int32.ofNat j) ∨ (v' = -1 ∧ ∀ i, sw mv n i A = false)) : (∃ j, j ≤ K ∧ j ≤ K' ∧ se mv n j A ∧ v = Int32.ofNat j ∧ v' = Int32.ofNat j ∧ ¬ v = -2 ∧ ¬ v' = -1) ∨ (v = -2 ∧ v' = -1 ∧ ∀ i, sw mv n i A = false) := by
  have d2 : ∀ j : Nat, j < 2000 → ¬ Int32.ofNat j = -2 := fun j hj e => nn_nlt0 (a := j) (by omega) (by rw [e]; decide)
  rcases h with ⟨j, h1, h2, h3⟩ | ⟨h1, h2⟩ <;> rcases h' with ⟨j', g1, g2, g3⟩ | ⟨g1, g2⟩
  · have e := se_eq h2 g2
    subst e
    exact Or.inl ⟨j, h1, g1, h2, h3, g3, by rw [h3]; exact d2 j (by omega), by rw [g3]; exact sw_m1n (by omega)⟩
  · have := h2.1
    rw [g2 j] at this; cases this
  · have := g2.1
    rw [h2 j'] at this; cases this
  · exact Or.inr ⟨h1, g1, h2⟩
theorem nn_110 (a : Int32) : (∃ j : Nat, 1 ≤ j ∧ j ≤ 10 ∧ a = Int32.ofNat j ∧ ¬ a < 1 ∧ ¬ (10 : Int32) < a) ∨ a < 1 ∨ (¬ a < 1 ∧ (10 : Int32) < a) := by
  rcases nn_le (a := a) (n := 10) (by omega) with ⟨j, hj, rfl, h1, h2⟩ | h | ⟨h1, h2⟩
  · by_cases z : j = 0
    · subst z
      exact Or.inr (Or.inl (by decide))
    · have c : ¬ Int32.ofNat j < 1 := by rw [nb_lit 1, nn_lt (by omega) (by omega)]; omega
      exact Or.inl ⟨j, by omega, hj, rfl, c, h2⟩
  · refine Or.inr (Or.inl ?_)
    rw [Int32.lt_iff_toInt_lt] at h ⊢
    have z0 : (0 : Int32).toInt = 0 := by decide
    have z1 : (1 : Int32).toInt = 1 := by decide
    rw [z0] at h
    rw [z1]
    omega
  · by_cases z : a < 1
    · exact Or.inr (Or.inl z)
    · exact Or.inr (Or.inr ⟨z, h2⟩)
theorem hs_op_24 (hc : hc_loc HC) (hN : 1100 < N) (a1 : Int32) : hq_Sim (hR HC) (f_X11_sweep N a1) (f_X12_sweep N a1) := hs_mk hc (WX := w_X11_sweep) (WM := w_X12_sweep) (by decide) (by decide) (by decide) (fun _ _ => f_X11_sweep_fw) (fun _ _ => f_X12_sweep_fw) fun sx sm R => by
  obtain ⟨nc, nl, ng, nt, t, bar, fr, to, on, TT⟩ := R.2.2.2.2.2
  obtain ⟨I, T⟩ := hT_th 0 R.2.2.1 TT
  obtain ⟨-, ⟨⟨b1, b2, b3, b4⟩, -⟩, ⟨X, M, S, F, B, Bl⟩, -⟩ := T
  have hx := ly_nx_lt (fr := fr) (to := to) (on := on) (bar := bar) (both := false) (nc := nc) (n := nl) fun k hk => ⟨(M.2.2.2.2 k hk).1, (M.2.2.2.2 k hk).2.1⟩
  rcases nn_110 a1 with ⟨n, n1, n2, rfl, h1, h2⟩ | h1 | ⟨h1, h2⟩
  · obtain ⟨K, v, sx', k1, k2, -, -, -, k3⟩ := sw_X (N := N) (n := n) hN b1 n2 hx S
    obtain ⟨K', v', sm', -, k4, k5, -, -, -, k6⟩ := sm_of (N := N) (n := n) (nx := ly_nx fr to on bar false nl) hN n2 M B (by omega) (by rw [I.1]; decide) rfl
    rcases sw_ans k1 k4 k3 k6 with ⟨j, -, -, -, e1, e2, e3, e4⟩ | ⟨e1, e2, -⟩
    · exact ⟨v, sx', sm', by simp only [f_X11_sweep, if_neg h1, if_neg h2, k2, Option.bind_some], by rw [e1, ← e2]; simp only [f_X12_sweep, nn_pi, Option.bind_some, if_neg h1, if_neg h2, k5, if_neg e4]⟩
    · exact ⟨v, sx', sm', by simp only [f_X11_sweep, if_neg h1, if_neg h2, k2, Option.bind_some], by rw [e1]; simp only [f_X12_sweep, nn_pi, Option.bind_some, if_neg h1, if_neg h2, k5, if_pos e2]⟩
  · exact ⟨-1, sx, hq_si sm 174 0 0, by simp only [f_X11_sweep, if_pos h1], by simp only [f_X12_sweep, nn_pi, Option.bind_some, if_pos h1]⟩
  · exact ⟨-1, sx, hq_si sm 174 0 0, by simp only [f_X11_sweep, if_neg h1, if_pos h2], by simp only [f_X12_sweep, nn_pi, Option.bind_some, if_neg h1, if_pos h2]⟩
theorem lk_both {K K' its : Nat} {sx sm : hq_S} (hN : 1100 < N) (hnc : nc ≤ 10) (hn : n ≤ 10) (hx : ∀ c, nx c < 2 ^ nc) (hK : K < 1100) (hK' : K' < 1100) (i1 : its ≤ K) (i2 : its ≤ K') (hits : se (fun S => mvs nx S nc) n its (2 ^ nc - 1)) (x0 : ∀ S, S < 2 ^ nc → hq_gi sx 160 S = Int32.ofNat (mvs nx S nc)) (x1 : ∀ S, S < 2 ^ nc → sv (fun S => mvs nx S nc) n K S (hq_gi sx 161 S)) (m0 : ∀ S, S < 2 ^ nc → hq_gi sm 217 S = Int32.ofNat (mvs nx S nc)) (m1 : ∀ S, S < 2 ^ nc → sv (fun S => mvs nx S nc) n K' S (hq_gi sm 216 S)) : ∀ (q L m m' : Nat), L + q = 2 ^ nc → q < m → q < m' → ∃ v, f_X7_firstLook_L29 N m 103 (Int32.ofNat n) (Int32.ofNat its) (Int32.ofNat (2 ^ nc - 1)) (Int32.ofNat L) sx = some (v, sx) ∧ f_X12_look_L46 N m' (Int32.ofNat n) (Int32.ofNat its) (Int32.ofNat (2 ^ nc - 1)) (Int32.ofNat L) sm = some (v, sm) := by
  have p10 : (2 : Nat) ^ nc ≤ 1024 := Nat.pow_le_pow_right (by omega) (show nc ≤ 10 by omega)
  have p0 : 0 < (2 : Nat) ^ nc := Nat.two_pow_pos nc
  intro q
  induction q with
  | zero =>
    intro L m m' hL hm hm'
    obtain ⟨m, rfl⟩ : ∃ j, m = j + 1 := ⟨m - 1, by omega⟩
    obtain ⟨m', rfl⟩ : ∃ j, m' = j + 1 := ⟨m' - 1, by omega⟩
    have c : Int32.ofNat (2 ^ nc - 1) < Int32.ofNat L := (nn_lt (by omega) (by omega)).mpr (by omega)
    exact ⟨0, by simp only [f_X7_firstLook_L29_s, f_X7_firstLook_L29_B, if_pos c], by simp only [f_X12_look_L46_s, f_X12_look_L46_B, if_pos c]⟩
  | succ q ih =>
    intro L m m' hL hm hm'
    obtain ⟨m, rfl⟩ : ∃ j, m = j + 1 := ⟨m - 1, by omega⟩
    obtain ⟨m', rfl⟩ : ∃ j, m' = j + 1 := ⟨m' - 1, by omega⟩
    have c : ¬ Int32.ofNat (2 ^ nc - 1) < Int32.ofNat L := by rw [nn_lt (by omega) (by omega)]; omega
    have bx := hb_bc (N := N) (a := L) (s := sx) (by omega)
    have bm := hb_bits (N := N) (a := L) (s := sm) (by omega) (by omega)
    have pl := nb_pop_le L 20
    have lt : (Int32.ofNat n < Int32.ofNat (nb_pop L 20)) = (n < nb_pop L 20) := nb_ltp (by omega) (by omega)
    obtain ⟨v, v1, v2⟩ := ih (L + 1) m m' (by omega) (by omega) (by omega)
    have J1 : f_X7_firstLook_J71 N (f_X7_firstLook_L29 N m) 103 (Int32.ofNat n) (Int32.ofNat its) (Int32.ofNat (2 ^ nc - 1)) (Int32.ofNat L) sx = some (v, sx) := by rw [← v1]; simp only [f_X7_firstLook_J71, nn_succ]
    have J2 : f_X12_look_J111 N (f_X12_look_L46 N m') (Int32.ofNat n) (Int32.ofNat its) (Int32.ofNat (2 ^ nc - 1)) (Int32.ofNat L) sm = some (v, sm) := by rw [← v2]; simp only [f_X12_look_J111, nn_succ]
    by_cases q1 : n < nb_pop L 20
    · exact ⟨v, by simp only [f_X7_firstLook_L29_s, f_X7_firstLook_L29_B, if_neg c, bx, Option.bind_some, lt, if_pos q1, J1], by simp only [f_X12_look_L46_s, f_X12_look_L46_B, if_neg c, bm, Option.bind_some, lt, if_pos q1, J2]⟩
    · have dl := nb_df_lt (a := 2 ^ nc - 1) (b := L) (k := nc) (by omega)
      generalize hD : nb_df (2 ^ nc - 1) L = D at dl
      have no : Int32.ofNat (2 ^ nc - 1) &&& (Int32.ofNat L ^^^ (-1 : Int32)) = Int32.ofNat D := by rw [nb_not, hD]
      have ml := mvs_lt hx (S := D) nc (Nat.le_refl _)
      have m00 := mvs_00 (nx := nx) dl
      have l1 : hq_ld sx 160 1024 (Int32.ofNat D) = some (Int32.ofNat (mvs nx D nc)) := by rw [nn_ld (by omega) (by omega), x0 D dl]
      have l2 : hq_ld sx 161 1024 (Int32.ofNat (mvs nx D nc)) = some (hq_gi sx 161 (mvs nx D nc)) := nn_ld (by omega) (by omega)
      have l3 : hq_ld sm 217 1024 (Int32.ofNat D) = some (Int32.ofNat (mvs nx D nc)) := by rw [nn_ld (by omega) (by omega), m0 D dl]
      have l4 : hq_ld sm 216 1024 (Int32.ofNat (mvs nx D nc)) = some (hq_gi sm 216 (mvs nx D nc)) := nn_ld (by omega) (by omega)
      have z0 : (Int32.ofNat D = 0) = (D = 0) := nb_eq0 (by omega)
      have s0 : ∀ S, se (fun S => mvs nx S nc) n 0 S ↔ S = 0 := fun S => ⟨fun h => by have := h.1; rw [sw] at this; exact of_decide_eq_true this, fun h => ⟨by rw [sw]; exact decide_eq_true h, fun i hi => by omega⟩⟩
      by_cases i0 : its = 0
      · -- no corner at all
        have a0 : 2 ^ nc - 1 = 0 := by rw [i0] at hits; exact (s0 _).mp hits
        have D0 : D = 0 := by omega
        have L0 : L = 0 := by omega
        have q0 : q = 0 := by omega
        have e1 : ¬ hq_gi sx 161 (mvs nx D nc) = Int32.ofNat its - 1 := fun e => by
          have h := (sv_eq (i := 0) (by omega) (by omega) (x1 _ ml)).mpr ((s0 _).mpr (m00.mpr D0))
          rw [h, i0] at e
          exact absurd e (by decide)
        have e2 : ¬ (1 : Int32) < Int32.ofNat its := by rw [i0]; decide
        obtain ⟨m, rfl⟩ : ∃ j, m = j + 1 := ⟨m - 1, by omega⟩
        have v0 : v = 0 := by
          have c2 : Int32.ofNat (2 ^ nc - 1) < Int32.ofNat (L + 1) := (nn_lt (by omega) (by omega)).mpr (by omega)
          have h : f_X7_firstLook_L29 N (m + 1) 103 (Int32.ofNat n) (Int32.ofNat its) (Int32.ofNat (2 ^ nc - 1)) (Int32.ofNat (L + 1)) sx = some (0, sx) := by simp only [f_X7_firstLook_L29_s, f_X7_firstLook_L29_B, if_pos c2]
          rw [h] at v1
          exact (congrArg Prod.fst (Option.some.inj v1)).symm
        refine ⟨v, by simp only [f_X7_firstLook_L29_s, f_X7_firstLook_L29_B, if_neg c, bx, Option.bind_some, lt, if_neg q1, no, l1, l2, if_neg e1]; exact J1, ?_⟩
        rw [v0]
        simp only [f_X12_look_L46_s, f_X12_look_L46_B, if_neg c, bm, Option.bind_some, lt, if_neg q1, if_neg e2, no, z0, if_pos D0]
        rw [L0]; rfl
      · have pr : Int32.ofNat its - 1 = Int32.ofNat (its - 1) := by rw [nb_lit 1, nb_sub (by omega)]
        have t1 := sv_eq (i := its - 1) (by omega) (by omega) (x1 _ ml)
        have t2 := sv_eq (i := its - 1) (by omega) (by omega) (m1 _ ml)
        by_cases i1' : its = 1
        · have e2 : ¬ (1 : Int32) < Int32.ofNat its := by rw [i1']; decide
          have t3 : hq_gi sx 161 (mvs nx D nc) = Int32.ofNat (its - 1) ↔ D = 0 := by
            rw [t1, show its - 1 = 0 by omega, s0, m00]
          by_cases q2 : D = 0
          · have q3 := t3.mpr q2
            exact ⟨Int32.ofNat L, by simp only [f_X7_firstLook_L29_s, f_X7_firstLook_L29_B, if_neg c, bx, Option.bind_some, lt, if_neg q1, no, l1, l2, pr, if_pos q3], by simp only [f_X12_look_L46_s, f_X12_look_L46_B, if_neg c, bm, Option.bind_some, lt, if_neg q1, if_neg e2, no, z0, if_pos q2]⟩
          · have q3 : ¬ hq_gi sx 161 (mvs nx D nc) = Int32.ofNat (its - 1) := fun z => q2 (t3.mp z)
            exact ⟨v, by simp only [f_X7_firstLook_L29_s, f_X7_firstLook_L29_B, if_neg c, bx, Option.bind_some, lt, if_neg q1, no, l1, l2, pr, if_neg q3, J1], by simp only [f_X12_look_L46_s, f_X12_look_L46_B, if_neg c, bm, Option.bind_some, lt, if_neg q1, if_neg e2, no, z0, if_neg q2, J2]⟩
        · have e2 : (1 : Int32) < Int32.ofNat its := by rw [nb_lit 1, nn_lt (by omega) (by omega)]; omega
          by_cases q2 : se (fun S => mvs nx S nc) n (its - 1) (mvs nx D nc)
          · have q3 := t1.mpr q2
            have q4 := t2.mpr q2
            have q5 : ¬ D = 0 := fun z => by
              have h := q2.2 0 (by omega)
              rw [sw] at h
              exact absurd (m00.mpr z) (of_decide_eq_false h)
            exact ⟨Int32.ofNat L, by simp only [f_X7_firstLook_L29_s, f_X7_firstLook_L29_B, if_neg c, bx, Option.bind_some, lt, if_neg q1, no, l1, l2, pr, if_pos q3], by simp only [f_X12_look_L46_s, f_X12_look_L46_B, if_neg c, bm, Option.bind_some, lt, if_neg q1, if_pos e2, no, l3, l4, pr, if_pos q4, z0, if_neg q5]⟩
          · have q3 : ¬ hq_gi sx 161 (mvs nx D nc) = Int32.ofNat (its - 1) := fun z => q2 (t1.mp z)
            have q4 : ¬ hq_gi sm 216 (mvs nx D nc) = Int32.ofNat (its - 1) := fun z => q2 (t2.mp z)
            exact ⟨v, by simp only [f_X7_firstLook_L29_s, f_X7_firstLook_L29_B, if_neg c, bx, Option.bind_some, lt, if_neg q1, no, l1, l2, pr, if_neg q3, J1], by simp only [f_X12_look_L46_s, f_X12_look_L46_B, if_neg c, bm, Option.bind_some, lt, if_neg q1, if_pos e2, no, l3, l4, pr, if_neg q4, J2]⟩
theorem hs_op_25 (hc : hc_loc HC) (hN : 1100 < N) (a1 : Int32) : hq_Sim (hR HC) (f_X11_look N a1) (f_X12_look N a1) := hs_mk hc (WX := w_X11_look) (WM := w_X12_look) (by decide) (by decide) (by decide) (fun _ _ => f_X11_look_fw) (fun _ _ => f_X12_look_fw) fun sx sm R => by
  obtain ⟨nc, nl, ng, nt, t, bar, fr, to, on, TT⟩ := R.2.2.2.2.2
  obtain ⟨I, T⟩ := hT_th 0 R.2.2.1 TT
  obtain ⟨-, ⟨⟨b1, b2, b3, b4⟩, -⟩, ⟨X, M, S, F, B, Bl⟩, -⟩ := T
  have hx := ly_nx_lt (fr := fr) (to := to) (on := on) (bar := bar) (both := false) (nc := nc) (n := nl) fun k hk => ⟨(M.2.2.2.2 k hk).1, (M.2.2.2.2 k hk).2.1⟩
  rcases nn_110 a1 with ⟨n, n1, n2, rfl, h1, h2⟩ | h1 | ⟨h1, h2⟩
  · obtain ⟨K, v, sx', k1, k2, x1, x2, x3, k3⟩ := sw_X (N := N) (n := n) hN b1 n2 hx S
    obtain ⟨K', v', sm', -, k4, k5, m1, m2, m3, k6⟩ := sm_of (N := N) (n := n) (nx := ly_nx fr to on bar false nl) hN n2 M B (by omega) (by rw [I.1]; decide) rfl
    have onX : ((1 : Int32) <<< (hq_gi sx' 103 0 &&& 31)) - 1 = Int32.ofNat (2 ^ nc - 1) := by rw [x3 _ _ (by omega) (by omega), S.1, nb_one (by omega), nb_lit 1, nb_sub (Nat.two_pow_pos nc)]
    have l0 : hq_ld sm' 176 14 0 = some (Int32.ofNat nc) := by rw [nb_0, nn_ld (by omega) (by omega), m3 _ _ (by omega), M.2.2.1]
    have onM : ((1 : Int32) <<< (Int32.ofNat nc &&& 31)) - 1 = Int32.ofNat (2 ^ nc - 1) := by rw [nb_one (by omega), nb_lit 1, nb_sub (Nat.two_pow_pos nc)]
    rcases sw_ans k1 k4 k3 k6 with ⟨j, j1, j2, j3, e1, e2, e3, e4⟩ | ⟨e1, e2, -⟩
    · have p10 : (2 : Nat) ^ nc ≤ 1024 := Nat.pow_le_pow_right (by omega) (show nc ≤ 10 by omega)
      obtain ⟨w, w1, w2⟩ := lk_both (N := N) (n := n) hN b1 n2 hx k1 k4 j1 j2 j3 x1 x2 m1 m2 (2 ^ nc) 0 N N (by omega) (by omega) (by omega)
      have w1 : f_X7_firstLook_L29 N N 103 (Int32.ofNat n) (Int32.ofNat j) (Int32.ofNat (2 ^ nc - 1)) 0 sx' = some (w, sx') := w1
      have w2 : f_X12_look_L46 N N (Int32.ofNat n) (Int32.ofNat j) (Int32.ofNat (2 ^ nc - 1)) 0 sm' = some (w, sm') := w2
      rw [e1] at e3 k2
      rw [e2] at e4 k5
      exact ⟨w, sx', sm', by simp only [f_X11_look, f_X7_firstLook, if_neg h1, if_neg h2, k2, Option.bind_some, if_neg e3, onX, w1], by simp only [f_X12_look, nn_pi, Option.bind_some, if_neg h1, if_neg h2, k5, if_neg e4, l0, onM, w2]⟩
    · exact ⟨-2, sx', sm', by simp only [f_X11_look, f_X7_firstLook, if_neg h1, if_neg h2, k2, Option.bind_some, if_pos e1], by simp only [f_X12_look, nn_pi, Option.bind_some, if_neg h1, if_neg h2, k5, if_pos e2]⟩
  · exact ⟨-1, sx, hq_si sm 174 0 0, by simp only [f_X11_look, if_pos h1], by simp only [f_X12_look, nn_pi, Option.bind_some, if_pos h1]⟩
  · exact ⟨-1, sx, hq_si sm 174 0 0, by simp only [f_X11_look, if_neg h1, if_pos h2], by simp only [f_X12_look, nn_pi, Option.bind_some, if_neg h1, if_pos h2]⟩
theorem nb_pop_hi {a k : Nat} (ha : a < 2 ^ k) : ∀ m, nb_pop a m ≤ k
  | 0 => Nat.zero_le _
  | m + 1 => by
    by_cases q : m < k
    · have := nb_pop_le a (m + 1)
      omega
    · rw [nb_pop, Nat.testBit_lt_two_pow (Nat.lt_of_lt_of_le ha (Nat.pow_le_pow_right (by omega) (by omega))), if_neg (by decide)]
      exact nb_pop_hi ha m
theorem dk_both (hN : 1100 < N) (Bl : bar < 2147483648) (ex : nx = ly_nx fr to on bar false nl) : ∀ (q k m m' : Nat) (sx sm : hq_S), k + q = 10 → 1 ≤ k → q < m → q < m' → hl_S 103 nc nx sx → hl_M nl nc fr to on sm → hq_gi sm 198 0 = Int32.ofNat bar → ¬ hq_gi sm 174 49 = 4 → ∃ v sx' sm', f_X11_dark_L14 N m (Int32.ofNat k) sx = some (v, sx') ∧ f_X12_dark_L18 N m' (Int32.ofNat k) sm = some (v, sm') := by
  intro q
  induction q with
  | zero =>
    intro k m m' sx sm hk h1k hm hm' S M B n4
    obtain ⟨m, rfl⟩ : ∃ j, m = j + 1 := ⟨m - 1, by omega⟩
    obtain ⟨m', rfl⟩ : ∃ j, m' = j + 1 := ⟨m' - 1, by omega⟩
    have hk : k = 10 := by omega
    subst hk
    have c : ¬ Int32.ofNat 10 < (10 : Int32) := by decide
    obtain ⟨K', v', sm', -, k4, k5, -, -, -, k6⟩ := sm_of (N := N) (n := 10) (nx := nx) hN (by omega) M B Bl n4 ex
    have all : sw (fun S => mvs nx S nc) 10 1 (2 ^ nc - 1) = true := by
      have p0 : 0 < (2 : Nat) ^ nc := Nat.two_pow_pos nc
      have d0 : nb_df (2 ^ nc - 1) 0 = 2 ^ nc - 1 := nb_ext fun i => by rw [nb_df_t, Nat.zero_testBit, Bool.not_false, Bool.and_true]
      refine sw_s.mpr (Or.inr ⟨0, fun i hi => (by rw [Nat.zero_testBit] at hi; cases hi), ?_, ?_⟩)
      · rw [d0]
        have := nb_pop_hi (a := 2 ^ nc - 1) (k := nc) (by omega) 20
        have := M.1
        omega
      · rw [sw]
        exact decide_eq_true ((mvs_00 p0).mpr rfl)
    have e4 : ¬ v' = -1 := by
      rcases k6 with ⟨j, j1, -, j3⟩ | ⟨-, j⟩
      · rw [j3]; exact sw_m1n (by omega)
      · rw [j 1] at all; cases all
    exact ⟨10, sx, sm', by simp only [f_X11_dark_L14_s, f_X11_dark_L14_B, if_neg c], by simp only [f_X12_dark_L18_s, f_X12_dark_L18_B, k5, Option.bind_some, if_neg e4]; rfl⟩
  | succ q ih =>
    intro k m m' sx sm hk h1k hm hm' S M B n4
    obtain ⟨m, rfl⟩ : ∃ j, m = j + 1 := ⟨m - 1, by omega⟩
    obtain ⟨m', rfl⟩ : ∃ j, m' = j + 1 := ⟨m' - 1, by omega⟩
    have c : Int32.ofNat k < (10 : Int32) := by rw [nb_lit 10, nn_lt (by omega) (by omega)]; omega
    have hx : ∀ c, nx c < 2 ^ nc := by
      rw [ex]
      exact ly_nx_lt (fr := fr) (to := to) (on := on) (bar := bar) (both := false) (nc := nc) (n := nl) fun k hk => ⟨(M.2.2.2.2 k hk).1, (M.2.2.2.2 k hk).2.1⟩
    obtain ⟨K, v, sx', k1, k2, x1, x2, x3, k3⟩ := sw_X (N := N) (n := k) hN M.1 (by omega) hx S
    obtain ⟨K', v', sm', -, k4, k5, -, -, m3, k6⟩ := sm_of (N := N) (n := k) (nx := nx) hN (by omega) M B Bl n4 ex
    rcases sw_ans k1 k4 k3 k6 with ⟨j, j1, j2, j3, e1, e2, e3, e4⟩ | ⟨e1, e2, -⟩
    · exact ⟨Int32.ofNat k, sx', sm', by simp only [f_X11_dark_L14_s, f_X11_dark_L14_B, if_pos c, k2, Option.bind_some, if_neg e3], by simp only [f_X12_dark_L18_s, f_X12_dark_L18_B, k5, Option.bind_some, if_neg e4]⟩
    · obtain ⟨w, sx2, sm2, w1, w2⟩ := ih (k + 1) m m' sx' sm' (by omega) (by omega) (by omega) (by omega) ⟨by rw [x3 _ _ (by omega) (by omega)]; exact S.1, fun d hd => by rw [x3 _ _ (by omega) (by omega)]; exact S.2 d hd⟩ (by
        unfold hl_M at M ⊢
        simp (disch := omega) only [m3]
        exact M) (by rw [m3 _ _ (by omega)]; exact B) (by rw [m3 _ _ (by omega)]; exact n4)
      refine ⟨w, sx2, sm2, ?_, ?_⟩
      · rw [← w1]
        simp only [f_X11_dark_L14_s, f_X11_dark_L14_B, if_pos c, k2, Option.bind_some, if_pos e1, nn_succ]
      · rw [← w2]
        simp only [f_X12_dark_L18_s, f_X12_dark_L18_B, k5, Option.bind_some, if_pos e2, nn_succ]
theorem hs_op_26 (hc : hc_loc HC) (hN : 1100 < N) : hq_Sim (hR HC) (f_X11_dark N) (f_X12_dark N) := hs_mk hc (WX := w_X11_dark) (WM := w_X12_dark) (by decide) (by decide) (by decide) (fun _ _ => f_X11_dark_fw) (fun _ _ => f_X12_dark_fw) fun sx sm R => by
  obtain ⟨nc, nl, ng, nt, t, bar, fr, to, on, TT⟩ := R.2.2.2.2.2
  obtain ⟨I, T⟩ := hT_th 0 R.2.2.1 TT
  obtain ⟨⟨t1, t2, t3⟩, ⟨⟨b1, b2, b3, b4⟩, ⟨c1, c2, -⟩, -⟩, ⟨X, M, S, F, B, Bl⟩, -⟩ := T
  have iT : hq_isT t := t2
  have l0 : hq_ld (hq_si sm 174 0 0) 176 14 0 = some (Int32.ofNat nc) := by rw [nb_0, nn_ld (by omega) (by omega)]; exact congrArg some c2
  have n0 : (Int32.ofNat nc = 0) = (nc = 0) := nb_eq0 (by omega)
  by_cases z : nc = 0
  · exact ⟨0, sx, hq_si sm 174 0 0, by simp only [f_X11_dark, t1, if_pos iT, c1, n0, if_pos z], by simp only [f_X12_dark, nn_pi, Option.bind_some, l0, n0, if_pos z]⟩
  · obtain ⟨v, sx', sm', w1, w2⟩ := dk_both (N := N) (nx := ly_nx fr to on bar false nl) hN (show bar < 2147483648 by omega) rfl 9 1 N N sx (hq_si sm 174 0 0) (by omega) (by omega) (by omega) (by omega) S M B (by rw [I.1]; decide)
    have w1 : f_X11_dark_L14 N N 1 sx = some (v, sx') := w1
    have w2 : f_X12_dark_L18 N N 1 (hq_si sm 174 0 0) = some (v, sm') := w2
    exact ⟨v, sx', sm', by simp only [f_X11_dark, t1, if_pos iT, c1, n0, if_neg z, w1], by simp only [f_X12_dark, nn_pi, Option.bind_some, l0, n0, if_neg z, w2]⟩
end
