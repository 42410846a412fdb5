/-! GO, LAW -/
section
variable {HC : hq_S → Prop} {N : Nat}
theorem hq_kp_tr {D : List (Nat × Option Nat)} {s s' s2 : hq_S} (h : hq_kp D s s') (h' : hq_kp D s' s2) : hq_kp D s s2 := fun k i hk => ⟨(h' k i hk).1.trans (h k i hk).1, (h' k i hk).2.1.trans (h k i hk).2.1, (h' k i hk).2.2.trans (h k i hk).2.2⟩
theorem hp_su_fc {s : hq_S} {k1 k2 k3 : Nat} {g : Int32} (h1 : hq_isT k1) (h2 : hq_isS k2) (h3 : hq_isN k3) : hq_fc w_X3_setUp s (hp_su s k1 k2 k3 g) := f_X3_setUp_fw (n := 0) h1 h2 h3 hp_setUp
theorem hT_th {nc nl ng nt t bar : Nat} {fr to on : Nat → Nat} {sx sm : hq_S} (x : Int32) (I : hr_idle sm) (T : hr_T nc nl ng nt t bar fr to on sx sm) : hr_idle (hq_si sm 174 0 x) ∧ hr_T nc nl ng nt t bar fr to on sx (hq_si sm 174 0 x) := by
  have km : hq_fc [(174, some 0)] sm (hq_si sm 174 0 x) := fun k i hk => ⟨by
    rw [nb_ii, if_neg]
    rintro ⟨rfl, rfl⟩
    revert hk
    decide, rfl, rfl⟩
  exact ⟨hr_idle_kp (km.kp (by decide)) I, hr_T_k I (hq_kp_rf _ _) (km.kp (by decide)) (hm_o_fc (by decide) km) T⟩
theorem hR_put {nc nl ng nt t bar : Nat} {fr to on : Nat → Nat} {sx sx' sm sm' : hq_S} (hc : hc_loc HC) (h : hR HC sx sm) (Ta : hr_tape sx' sm') (Fl : hr_flt sx' sm') (Id : hr_idle sm') (hx : hq_kp hd_X3 sx sx') (Te : hr_T nc nl ng nt t bar fr to on sx' sm') : hR HC sx' sm' := by
  obtain ⟨h1, h2, h3, h4, h5, -⟩ := h
  refine ⟨Ta, Fl, Id, fun i hi => ?_, ?_, nc, nl, ng, nt, t, bar, fr, to, on, Te⟩
  · rw [(hx 50 i (hq_inA_spec (by decide) i)).1]; exact h4 i hi
  · refine hc sx sx' (fun c i h1 h2 => ?_) h5
    have := List.all_eq_true.mp (show ((List.range 7).all fun j => hq_inA hd_X3 (152 + j)) = true by decide) (c - 152) (List.mem_range.mpr (by omega))
    rw [show 152 + (c - 152) = c by omega] at this
    exact (hx c i (hq_inA_spec this i)).1
theorem hs_goL {nc nl ng nt t bar : Nat} {fr to on : Nat → Nat} {o : hq_S} (hN : 300 < N) {n : Nat} (hn : n ≤ 200) : ∀ (q j m m' : Nat) (sx sm : hq_S), hh_P nc nl ng nt t 103 76 0 fr to on bar false 1 o sx sm → j + q = n → q < m → q < m' → ∃ sx' sm', f_X3_passMany_L2 N m (Int32.ofNat n) (Int32.ofNat j) sx = some sx' ∧ f_X12_go_L43 N m' (Int32.ofNat n) (Int32.ofNat j) sm = some (hq_gi sm' 196 0, sm') ∧ hh_P nc nl ng nt t 103 76 0 fr to on bar false 1 o sx' sm' ∧ hq_gi sm' 174 48 = hq_gi sm 174 48 := by
  intro q
  induction q with
  | zero =>
    intro j m m' sx sm P hj hm hm'
    obtain ⟨m, rfl⟩ : ∃ k, m = k + 1 := ⟨m - 1, by omega⟩
    obtain ⟨m', rfl⟩ : ∃ k, m' = k + 1 := ⟨m' - 1, by omega⟩
    have c : ¬ Int32.ofNat j < Int32.ofNat n := by rw [nn_lt (by omega) (by omega)]; omega
    have lh : hq_ld sm 196 23 0 = some (hq_gi sm 196 0) := nn_ld (j := 0) (by omega) (by omega)
    refine ⟨sx, sm, ?_, ?_, P, rfl⟩
    · simp only [f_X3_passMany_L2_s, f_X3_passMany_L2_B, if_neg c]
    · simp only [f_X12_go_L43_s, f_X12_go_L43_B, if_neg c, lh, Option.bind_some]
  | succ q ih =>
    intro j m m' sx sm P hj hm hm'
    obtain ⟨m, rfl⟩ : ∃ k, m = k + 1 := ⟨m - 1, by omega⟩
    obtain ⟨m', rfl⟩ : ∃ k, m' = k + 1 := ⟨m' - 1, by omega⟩
    have c : Int32.ofNat j < Int32.ofNat n := (nn_lt (by omega) (by omega)).mpr (by omega)
    obtain ⟨sx1, sm1, p1, p2, P1⟩ := hh_pass (N := N) (l := 0) (by omega) (by omega) P
    have p2 : f_X12_passes N 0 1 sm = some sm1 := p2
    obtain ⟨sx', sm', i1, i2, i3, i4⟩ := ih (j + 1) m m' sx1 sm1 P1 (by omega) (by omega) (by omega)
    refine ⟨sx', sm', ?_, ?_, i3, i4.trans (f_X12_passes_fw p2 174 48 rfl).1⟩
    · simp only [f_X3_passMany_L2_s, f_X3_passMany_L2_B, if_pos c, p1, Option.bind_some, nn_succ]
      exact i1
    · simp only [f_X12_go_L43_s, f_X12_go_L43_B, if_pos c, p2, Option.bind_some, nn_succ]
      exact i2
theorem hs_op_12 (hc : hc_loc HC) (hN : 300 < N) (a : Int32) : hq_Sim (hR HC) (f_X11_go N a) (f_X12_go N a) := fun sx sm R => by
  have R2 := hR_th hc (x := 0) R
  obtain ⟨nc, nl, ng, nt, t, bar, fr, to, on, TT⟩ := R.2.2.2.2.2
  obtain ⟨I, T⟩ := hT_th 0 R.2.2.1 TT
  have hh : hq_gi sx 76 0 = hq_gi (hq_si sm 174 0 0) 196 0 := T.2.2.2.1.1
  have lh : hq_ld (hq_si sm 174 0 0) 196 23 0 = some (hq_gi (hq_si sm 174 0 0) 196 0) := nn_ld (j := 0) (by omega) (by omega)
  have n200 : (200 : Int32) = Int32.ofNat 200 := rfl
  rcases nn_le (a := a) (n := 200) (by omega) with ⟨n, hn, rfl, h0, h2⟩ | h0 | ⟨h0, h2⟩
  · rw [← n200] at h2
    by_cases h9 : (9800 : Int32) < hq_gi (hq_si sm 174 0 0) 196 0 + Int32.ofNat n
    · refine ⟨-1, sx, hq_si sm 174 0 0, ?_, ?_, R2⟩
      · simp only [f_X11_go, if_neg h0, if_neg h2, hh, if_pos h9]
      · simp only [f_X12_go, nn_pi, Option.bind_some, if_neg h0, if_neg h2, lh, if_pos h9]
    · have T0 := T
      obtain ⟨⟨t1, t2, t3⟩, Te, ⟨X, M, S, F, B, Bl⟩, W, Fa, Im, U⟩ := T
      have iT : hq_isT t := t2
      by_cases n0 : n = 0
      · subst n0
        have c : ¬ (0 : Int32) < Int32.ofNat 0 := by decide
        have pm : f_X3_passMany N (Int32.ofNat 0) (hp_su sx t 103 76 0) = some (hp_su sx t 103 76 0) := by
          obtain ⟨m, rfl⟩ : ∃ k, N = k + 1 := ⟨N - 1, by omega⟩
          unfold f_X3_passMany
          simp only [f_X3_passMany_L2_s, f_X3_passMany_L2_B, if_neg c]
        have gm : f_X12_go_L43 N N (Int32.ofNat 0) 0 (hq_si sm 174 0 0) = some (hq_gi (hq_si sm 174 0 0) 196 0, hq_si sm 174 0 0) := by
          obtain ⟨m, rfl⟩ : ∃ k, N = k + 1 := ⟨N - 1, by omega⟩
          simp only [f_X12_go_L43_s, f_X12_go_L43_B, if_neg c, lh, Option.bind_some]
        refine ⟨hq_gi (hq_si sm 174 0 0) 196 0, hp_su sx t 103 76 0, hq_si sm 174 0 0, ?_, ?_, hR_k (sx := sx) (sm := hq_si sm 174 0 0) hc ((hp_su_fc t2 (by decide) (by decide)).kp (by decide)) (hq_kp_rf _ _) (fun _ _ _ _ _ => rfl) R2⟩
        · simp only [f_X11_go, if_neg h0, if_neg h2, hh, if_neg h9, if_pos iT, t1, hp_setUp, Option.bind_some, pm, if_neg c, hp_su_i (show ¬ 76 = 113 by decide)]
        · simp only [f_X12_go, nn_pi, Option.bind_some, if_neg h0, if_neg h2, lh, if_neg h9, if_neg c]
          exact gm
      · have c : (0 : Int32) < Int32.ofNat n := by rw [nb_0, nn_lt (by omega) (by omega)]; omega
        have em : ∀ q i, ¬ q = 174 → hq_gi (hq_si (hq_si sm 174 0 0) 174 48 0) q i = hq_gi (hq_si sm 174 0 0) q i := fun q i hq => nn_gk hq
        have tw : hq_gi (hq_si (hq_si sm 174 0 0) 174 48 0) 174 49 = 0 := by rw [nn_gn (by omega)]; exact I.1
        have P0 : hh_P nc nl ng nt t 103 76 0 fr to on bar false 1 (hq_si (hq_si sm 174 0 0) 174 48 0) (hp_su sx t 103 76 0) (hq_si (hq_si sm 174 0 0) 174 48 0) := by
          refine hp_up (sx := sx) ?_ t2 (Or.inl rfl) (Or.inl rfl) S F ?_ ?_ (by omega) (by rw [tw]; decide) ?_ ?_ (fun _ _ _ _ _ => rfl)
          · exact hr_told_f t2 (fun _ _ _ => rfl) (fun _ _ _ => rfl) (fun q i h1 h2 => em q i (by omega)) Te
          · unfold hl_M at M ⊢
            simp (disch := decide) only [em]
            exact M
          · rw [em _ _ (by decide)]; exact B
          · have b := Te.1
            exact hn_N_k (by omega) (by omega) (by omega) (fun _ _ _ _ => rfl) rfl (fun q i h => by unfold hm_sl at h; exact em q i (by omega)) (fun i => em _ _ (by decide)) (fun i _ => by unfold hn_bold; rw [em 189 i (by decide), nn_gn (s := hq_si sm 174 0 0) (k := 174) (i := 48) (k' := 174) (i' := 53) (x := 0) (by omega), nn_gn (s := hq_si sm 174 0 0) (k := 174) (i := 48) (k' := 174) (i' := 54) (x := 0) (by omega)]) W
          · unfold hh_M
            rw [tw, hp_su_3.2.2.2.1, hp_su_3.2.2.2.2.1, hp_su_3.2.2.2.2.2]
            exact ⟨Or.inr ⟨rfl, by decide⟩, Or.inl ⟨rfl, by decide⟩, Or.inr (Or.inr ⟨by decide, by decide, Or.inr ⟨rfl, rfl⟩⟩)⟩
        obtain ⟨sx', sm', k1, k2, k3, k4⟩ := hs_goL (N := N) hN hn n 0 N N _ _ P0 (by omega) (by omega) (by omega)
        have k1 : f_X3_passMany N (Int32.ofNat n) (hp_su sx t 103 76 0) = some sx' := k1
        have cl : f_X1_clear N sx' = some (hq_si sx' 170 0 0) := rfl
        have e1 : f_X11_go N (Int32.ofNat n) sx = some (hq_gi sm' 196 0, hq_si sx' 170 0 0) := by
          simp only [f_X11_go, if_neg h0, if_neg h2, hh, if_neg h9, if_pos iT, t1, hp_setUp, Option.bind_some, k1, if_pos c, cl, nn_gk (show ¬ 76 = 170 by decide), k3.2.2.2.2.2.2.1.1]
        have e2 : f_X12_go N (Int32.ofNat n) sm = some (hq_gi sm' 196 0, sm') := by
          simp only [f_X12_go, nn_pi, Option.bind_some, if_neg h0, if_neg h2, lh, if_neg h9, if_pos c]
          exact k2
        have kx := f_X11_go_fw e1
        have km := f_X12_go_fw e2
        have Id := hr_idle_kp (km.kp (by decide)) R.2.2.1
        have ho : ∀ q i, 196 ≤ q → q ≤ 205 → ¬ hm_sl 0 q i → hq_gi sm' q i = hq_gi sm q i := fun q i h1 h2 h3 => (k3.2.2.2.2.2.2.2.2 q i h1 h2 h3).trans ((em q i (by omega)).trans (nn_gk (by omega)))
        have b := Te.1
        refine ⟨_, _, _, e1, e2, hR_put hc R (hr_tape_kp (kx.kp (by decide)) (km.kp (by decide)) R.1) (hr_flt_kp (kx.kp (by decide)) (km.kp (by decide)) R.2.1) Id (kx.kp (by decide)) (hr_T_new (bar' := bar) (kx.kp (by decide)) (km.kp (by decide)) TT ?_ ?_ ⟨k3.2.2.2.2.2.1.2.1, Bl⟩ ?_ (hr_facts_kp (kx.kp (by decide)) (km.kp (by decide)) TT.2.2.2.2.1) ?_ ⟨0, by omega, nn_g1, by rw [k4, nn_g1]; rfl, fun j hj => absurd hj (by omega)⟩)⟩
        · have q := k3.2.2.2.1
          unfold hl_S at q ⊢
          simp (disch := decide) only [nn_gk]
          exact q
        · intro a b ha hb
          rw [nn_gk (by decide)]
          exact k3.2.2.2.2.1 a b ha hb
        · exact hn_N_k (by omega) (by omega) (by omega) (fun q i h1 h2 => nn_gk (by omega)) rfl (fun _ _ _ => rfl) (fun _ => rfl) (fun _ _ => rfl) k3.2.2.2.2.2.2.1
        · have Im := TT.2.2.2.2.2.1
          unfold hr_img at Im ⊢
          rw [(kx 0 7 (by decide)).1, (km 174 47 (by decide)).1]
          rcases Im with h | ⟨h1, h2, h3⟩
          · exact Or.inl h
          · refine Or.inr ⟨h1, h2, hn_N_k (by omega) (by omega) (by omega) (fun q i h1 h2 => ?_) (kx 85 1 (by decide)).2.1 (fun q i h => ?_) (fun i => (km 185 i rfl).1) (fun i hi => ?_) h3⟩
            · have := kx.kp (D := hd_night_85) (by decide)
              rcases (show q = 85 ∨ q = 86 ∨ q = 87 ∨ q = 88 ∨ q = 89 ∨ q = 90 ∨ q = 91 ∨ q = 92 ∨ q = 93 by omega) with rfl | rfl | rfl | rfl | rfl | rfl | rfl | rfl | rfl
              all_goals exact (kx _ i rfl).1
            · unfold hm_sl at h
              exact ho q i (by omega) (by omega) (by unfold hm_sl; omega)
            · rw [hn_bold_i Id (by omega), hn_bold_i R.2.2.1 (by omega), (km 189 i rfl).1]
  · refine ⟨-1, sx, hq_si sm 174 0 0, ?_, ?_, R2⟩
    · simp only [f_X11_go, if_pos h0]
    · simp only [f_X12_go, nn_pi, Option.bind_some, if_pos h0]
  · rw [← n200] at h2
    refine ⟨-1, sx, hq_si sm 174 0 0, ?_, ?_, R2⟩
    · simp only [f_X11_go, if_neg h0, if_pos h2]
    · simp only [f_X12_go, nn_pi, Option.bind_some, if_neg h0, if_pos h2]
/-- whether a law is told, by the reference -/
theorem hh_has {nc nl ng nt t r : Nat} {sx sm sm' : hq_S} (T : hr_told nc nl ng nt t sx sm) (hr : r < 3) (e0 : hq_gi sm' 190 r = hq_gi sm 190 r) (e1 : hq_gi sm' 191 r = hq_gi sm 191 r) : ∃ b : Int32, (b = 0 ∨ b = 1) ∧ f_X12_hasLaw N (Int32.ofNat r) sm = some (b, sm) ∧ f_X12_hasLaw N (Int32.ofNat r) sm' = some (b, sm') := by
  have la : ∀ s : hq_S, hq_ld s 190 6 (Int32.ofNat r) = some (hq_gi s 190 r) := fun s => nn_ld (by omega) (by omega)
  have lb : ∀ s : hq_S, hq_ld s 191 6 (Int32.ofNat r) = some (hq_gi s 191 r) := fun s => nn_ld (by omega) (by omega)
  unfold f_X12_hasLaw
  simp only [la, lb, Option.bind_some, e0, e1]
  by_cases q : hq_gi sm 190 r < hq_gi sm 191 r
  · exact ⟨1, Or.inr rfl, by rw [if_pos q], by rw [if_pos q]⟩
  · exact ⟨0, Or.inl rfl, by rw [if_neg q], by rw [if_neg q]⟩
theorem hs_op_8 (hc : hc_loc HC) (hN : 300 < N) (a1 a2 a3 : Int32) : hq_Sim (hR HC) (f_X11_law N a1 a2 a3) (f_X12_law N a1 a2 a3) := hs_mk hc (WX := w_X11_law) (WM := w_X12_law) (by decide) (by decide) (by decide) (fun _ _ => f_X11_law_fw) (fun _ _ => f_X12_law_fw) fun sx sm R => by
  obtain ⟨nc, nl, ng, nt, t, bar, fr, to, on, TT⟩ := R.2.2.2.2.2
  obtain ⟨I, T⟩ := hT_th 0 R.2.2.1 TT
  obtain ⟨⟨t1, t2, t3⟩, Te, ⟨X, M, S, F, B, Bl⟩, W, Fa, Im, U⟩ := T
  have Te0 := Te
  obtain ⟨⟨b1, b2, b3, b4⟩, ⟨c1, c2, -, -, g1, g2, d1, d2⟩, -⟩ := Te
  have d10 : ¬ (1 : Int32) = 0 := by decide
  have n2 : (2 : Int32) = Int32.ofNat 2 := rfl
  rcases nn_le (a := a1) (n := 2) (by omega) with ⟨r, hr, rfl, h0, h2⟩ | h0 | ⟨h0, h2⟩
  · rw [← n2] at h2
    have tw := I.1
    have P : hh_P nc nl ng nt t 103 76 0 fr to on bar false 0 (hq_si sm 174 0 0) (hp_su sx t 103 76 1) (hq_si sm 174 0 0) := by
      refine hp_up (sx := sx) Te0 t2 (Or.inl rfl) (Or.inl rfl) S F M B (by omega) (by rw [tw]; decide) W ?_ (fun _ _ _ _ _ => rfl)
      unfold hh_M
      rw [tw, hp_su_3.2.2.2.1, hp_su_3.2.2.2.2.1, hp_su_3.2.2.2.2.2]
      exact ⟨Or.inr ⟨rfl, by decide⟩, Or.inl ⟨rfl, by decide⟩, Or.inr (Or.inr ⟨by decide, by decide, Or.inl ⟨rfl, rfl⟩⟩)⟩
    obtain ⟨sl, l1, C⟩ := hh_lay (N := N) (l := 0) (by omega) (by omega) P
    have l1 : f_X12_lays N 0 (hq_si sm 174 0 0) = some sl := l1
    have iT : hq_isT (hq_gr sx 0 2) := by rw [t1]; exact t2
    -- the law's value of a thief and a corner
    have val : ∀ i c : Nat, i < nt → c < nc → ∃ v sx', f_X3_lawValue N (Int32.ofNat r) (Int32.ofNat i) (Int32.ofNat c) (hp_su sx t 103 76 1) = some (v, sx') ∧ ((f_X12_hasLaw N (Int32.ofNat r) (hq_si sm 174 0 0) = some (0, hq_si sm 174 0 0) ∧ v = (-9223372036854775808 : Int64)) ∨ (f_X12_hasLaw N (Int32.ofNat r) (hq_si sm 174 0 0) = some (1, hq_si sm 174 0 0) ∧ ∃ s1 b s2, f_X12_calls N 0 (Int32.ofNat i) (Int32.ofNat c) sl = some s1 ∧ f_X12_goes N (Int32.ofNat r) s1 = some (b, s2) ∧ ((b = 0 ∧ v = (-9223372036854775808 : Int64)) ∨ (b = 1 ∧ hq_ldj s2 195 64 0 = some v)))) := fun i c hi hc' => by
      obtain ⟨v, sx', s1, e1, e2, e3, e4, e5⟩ := hh_law (N := N) (l := 0) (r := r) (by omega) (by omega) C.1 C.2.1 (by omega) hi hc'
      have fl := f_X12_lays_fw l1
      obtain ⟨b, hb, hs1, hs2⟩ := hh_has (N := N) (r := r) (sm' := s1) Te0 (by omega) (by rw [e4 _ _ (by omega), (fl 190 r rfl).1]) (by rw [e4 _ _ (by omega), (fl 191 r rfl).1])
      refine ⟨v, sx', e1, ?_⟩
      rcases e5 with ⟨h1, h2⟩ | ⟨h1, b', s2, h2, h3, h4⟩
      · rw [h1] at hs2
        cases hs2
        exact Or.inl ⟨hs1, h2⟩
      · rw [h1] at hs2
        cases hs2
        refine Or.inr ⟨hs1, s1, b', s2, e3, h2, ?_⟩
        rcases h4 with h | ⟨q1, q2, q3⟩
        · exact Or.inl h
        · exact Or.inr ⟨q1, by rw [nb_0, nb_ldj (by omega) (by omega), q3]⟩
    obtain ⟨b, hb, hs1, -⟩ := hh_has (N := N) (r := r) (sm' := hq_si sm 174 0 0) Te0 (by omega) rfl rfl
    rcases hs_isThief (N := N) (a := a2) (by omega) t1 t2 d1 d2 with ⟨i, hi, rfl, e1, e2⟩ | ⟨e1, e2⟩
    · -- behind the tests
      have fin : ∀ c z : Int32, ∀ p : Nat, p < nc → c = Int32.ofNat p → (if Int32.ofNat r = 0 then some z else (hq_ld (hp_su sx t 103 76 1) 81 4 (Int32.ofNat i)).bind fun x10 => some x10) = some c → (if Int32.ofNat r = 0 then some z else (hq_ld sl 203 92 (Int32.ofNat i)).bind fun x12 => some x12) = some c → ∃ v sx' sm', f_X11_law_J33 N (Int32.ofNat r) (Int32.ofNat i) z sx = some (v, sx') ∧ (if b = 0 then some ((-9223372036854775808 : Int64), hq_si sm 174 0 0) else f_X12_law_J46 N (Int32.ofNat r) (Int32.ofNat i) z (hq_si sm 174 0 0)) = some (v, sm') := by
        intro c z p hp hcp q1 q2
        obtain ⟨v, sx', v1, v2⟩ := val i p hi hp
        rw [← hcp] at v1 v2
        have j1 : f_X11_law_J33 N (Int32.ofNat r) (Int32.ofNat i) z sx = some (v, sx') := by
          unfold f_X11_law_J33
          rw [if_pos iT, t1, hp_setUp, Option.bind_some, q1, Option.bind_some, v1]
          rfl
        rcases v2 with ⟨w1, w2⟩ | ⟨w1, s1, b', s2, w2, w3, w4⟩
        · rw [hs1] at w1
          cases w1
          exact ⟨v, sx', hq_si sm 174 0 0, j1, by rw [if_pos rfl, w2]⟩
        · rw [hs1] at w1
          cases w1
          rcases w4 with ⟨w5, w6⟩ | ⟨w5, w6⟩
          · refine ⟨v, sx', s2, j1, ?_⟩
            rw [if_neg d10]
            unfold f_X12_law_J46
            rw [l1, Option.bind_some, q2, Option.bind_some, w2, Option.bind_some, w3, Option.bind_some, w5, w6]
            rfl
          · refine ⟨v, sx', s2, j1, ?_⟩
            rw [if_neg d10]
            unfold f_X12_law_J46
            rw [l1, Option.bind_some, q2, Option.bind_some, w2, Option.bind_some, w3, Option.bind_some, w5]
            simp only [if_neg d10, w6, Option.bind_some]
      by_cases r0 : Int32.ofNat r = 0
      · rcases hs_isCorner (N := N) (a := a3) (by omega) t1 t2 c1 c2 with ⟨p, hp, rfl, f1, f2⟩ | ⟨f1, f2⟩
        · obtain ⟨v, sx', sm', j1, j2⟩ := fin (Int32.ofNat p) (Int32.ofNat p) p hp rfl (by rw [if_pos r0]) (by rw [if_pos r0])
          refine ⟨v, sx', sm', ?_, ?_⟩
          · simp only [f_X11_law, if_neg h0, if_neg h2, e1, Option.bind_some, if_neg d10, if_pos r0, f1]
            exact j1
          · simp only [f_X12_law, f_X12_law_J42, nn_pi, if_neg h0, if_neg h2, hs1, e2, Option.bind_some, if_neg d10, if_pos r0, f2]
            exact j2
        · refine ⟨-9223372036854775808, sx, hq_si sm 174 0 0, ?_, ?_⟩
          · simp only [f_X11_law, f_X11_law_J29, if_neg h0, if_neg h2, e1, Option.bind_some, if_neg d10, if_pos r0, f1, if_true]
          · simp only [f_X12_law, f_X12_law_J42, nn_pi, if_neg h0, if_neg h2, hs1, e2, Option.bind_some, if_neg d10, if_pos r0, f2, if_true, ite_self]
      · obtain ⟨p, hp, x1, x2⟩ := (W.2.2.2.2.2.2.1 i hi).1
        have fl := f_X12_lays_fw l1
        obtain ⟨v, sx', sm', j1, j2⟩ := fin (Int32.ofNat p) a3 p hp rfl (by
          rw [if_neg r0, nn_ld (by omega) (by omega), hp_su_i (by decide)]
          exact congrArg some x1) (by
          rw [if_neg r0, nn_ld (by omega) (by omega), (fl 203 i rfl).1]
          have x2' : hq_gi (hq_si sm 174 0 0) 203 i = Int32.ofNat p := by
            rw [show 4 * 0 + i = i by omega] at x2
            exact x2
          exact congrArg some x2')
        refine ⟨v, sx', sm', ?_, ?_⟩
        · simp only [f_X11_law, if_neg h0, if_neg h2, e1, Option.bind_some, if_neg d10, if_neg r0]
          exact j1
        · simp only [f_X12_law, f_X12_law_J42, nn_pi, if_neg h0, if_neg h2, hs1, e2, Option.bind_some, if_neg d10, if_neg r0]
          exact j2
    · refine ⟨-9223372036854775808, sx, hq_si sm 174 0 0, ?_, ?_⟩
      · simp only [f_X11_law, f_X11_law_J29, if_neg h0, if_neg h2, e1, Option.bind_some, if_true]
      · simp only [f_X12_law, f_X12_law_J42, nn_pi, if_neg h0, if_neg h2, hs1, e2, Option.bind_some, if_true, ite_self]
  · refine ⟨-9223372036854775808, sx, hq_si sm 174 0 0, ?_, ?_⟩
    · simp only [f_X11_law, f_X11_law_J29, if_pos h0]
    · simp only [f_X12_law, f_X12_law_J42, nn_pi, Option.bind_some, if_pos h0]
  · rw [← n2] at h2
    refine ⟨-9223372036854775808, sx, hq_si sm 174 0 0, ?_, ?_⟩
    · simp only [f_X11_law, f_X11_law_J29, if_neg h0, if_pos h2]
    · simp only [f_X12_law, f_X12_law_J42, nn_pi, Option.bind_some, if_neg h0, if_pos h2]
end
