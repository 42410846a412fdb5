/-! DROP, KEEP, BACK -/
section
variable {N : Nat} {HC : hq_S → Prop}
theorem hs_op_11 (hc : hc_loc HC) (hN : 300 < N) (a1 a2 : Int32) : hq_Sim (hR HC) (f_X11_drop N a1 a2) (f_X12_drop N a1 a2) := fun sx sm R => by
  have R2 := hR_th hc (x := 0) R
  obtain ⟨nc, nl, ng, nt, t, bar, fr, to, on, TT⟩ := R.2.2.2.2.2
  obtain ⟨I, T⟩ := hT_th 0 R.2.2.1 TT
  obtain ⟨⟨t1, t2, t3⟩, Te, ⟨X, M, S, F, B, Bl⟩, W, Fa, Im, U⟩ := T
  obtain ⟨⟨b1, b2, b3, b4⟩, ⟨c1, c2, -, -, g1, g2, -⟩, -⟩ := Te
  have d10 : ¬ (1 : Int32) = 0 := by decide
  rcases hs_isCorner (N := N) (a := a1) (by omega) t1 t2 c1 c2 with ⟨p, hp, rfl, e1, e2⟩ | ⟨e1, e2⟩
  · by_cases h1 : a2 < (1 : Int32)
    · exact ⟨-1, sx, hq_si sm 174 0 0, by simp only [f_X11_drop, e1, Option.bind_some, if_neg d10, if_pos h1], by simp only [f_X12_drop, nn_pi, e2, Option.bind_some, if_neg d10, if_pos h1], R2⟩
    · by_cases h2 : (999 : Int32) < a2
      · exact ⟨-1, sx, hq_si sm 174 0 0, by simp only [f_X11_drop, e1, Option.bind_some, if_neg d10, if_neg h1, if_pos h2], by simp only [f_X12_drop, nn_pi, e2, Option.bind_some, if_neg d10, if_neg h1, if_pos h2], R2⟩
      · obtain ⟨v, hv, rfl⟩ : ∃ v : Nat, v ≤ 999 ∧ a2 = Int32.ofNat v := by
          rcases nn_le (a := a2) (n := 999) (by omega) with ⟨j, hj, e, -, -⟩ | h | ⟨-, h⟩
          · exact ⟨j, hj, e⟩
          · exact absurd (Int32.lt_trans h (by decide)) h1
          · exact absurd h h2
        obtain ⟨e, he, x1, x2⟩ := W.2.2.2.1 p hp
        rw [show 10 * 0 + p = p by omega] at x2
        have ld1 : hq_ld sx 77 10 (Int32.ofNat p) = some (Int32.ofNat e) := by rw [nn_ld (by omega) (by omega)]; exact congrArg some x1
        have mx : hq_min (Int32.ofNat e + Int32.ofNat v) 9999 = Int32.ofNat (min (e + v) 9999) := by rw [nb_add, nb_lit 9999, nb_min (by omega) (by omega)]
        have mm : hq_min 9999 (Int32.ofNat e + Int32.ofNat v) = Int32.ofNat (min (e + v) 9999) := by rw [nb_add, nb_lit 9999, nb_min (by omega) (by omega), Nat.min_comm]
        obtain ⟨sx1, sm1, n, hn, k1, k2, k3, k4, k5, k6, k7, k8, k9, k10, k11⟩ := hu_note (N := N) (k1 := 2) (w1 := Int32.ofNat p) (e1 := Int32.ofNat e) (by omega) b3 b1 U
        have ld2 : hq_ld sx1 77 10 (Int32.ofNat p) = some (Int32.ofNat e) := by rw [nn_ld (by omega) (by omega), k8 _ _ (by omega)]; exact congrArg some x1
        have c0 : ∀ c i, hm_sl 0 c i → hq_gi sm1 c i = hq_gi sm c i := fun c i h => (hu_cell (s := hq_si sm 174 0 0) (fun c i v => (k6 c i v).2.1) h).trans (nn_gk (by unfold hm_sl at h; omega))
        have c2 : ∀ c i, hm_sl 2 c i → hq_gi sm1 c i = hq_gi sm c i := fun c i h => (hu_cell (s := hq_si sm 174 0 0) (fun c i v => (k6 c i v).2.2) h).trans (nn_gk (by unfold hm_sl at h; omega))
        have x2' : hq_gi sm 199 p = Int32.ofNat e := by rw [nn_gk (by omega)] at x2; exact x2
        have ld3 : hq_ld sm1 199 230 (Int32.ofNat p) = some (Int32.ofNat e) := by rw [nn_ld (by omega) (by omega), c0 199 p (by unfold hm_sl; omega), x2']
        have st1 : ∀ x, hq_st sx1 77 10 (Int32.ofNat p) x = some (hq_si sx1 77 p x) := fun x => nn_st (by omega) (by omega)
        have st2 : ∀ x, hq_st sm1 199 230 (Int32.ofNat p) x = some (hq_si sm1 199 p x) := fun x => nn_st (by omega) (by omega)
        have ld4 : ∀ x, hq_ld (hq_si sx1 77 p x) 77 10 (Int32.ofNat p) = some x := fun x => by rw [nn_ld (by omega) (by omega), nn_g1]
        have ld5 : ∀ x, hq_ld (hq_si sm1 199 p x) 199 230 (Int32.ofNat p) = some x := fun x => by rw [nn_ld (by omega) (by omega), nn_g1]
        have r1 : f_X11_drop N (Int32.ofNat p) (Int32.ofNat v) sx = some (Int32.ofNat (min (e + v) 9999), hq_si sx1 77 p (Int32.ofNat (min (e + v) 9999))) := by
          simp only [f_X11_drop, e1, Option.bind_some, if_neg d10, if_neg h1, if_neg h2, ld1, k1, ld2, mx, st1, ld4]
        have r2 : f_X12_drop N (Int32.ofNat p) (Int32.ofNat v) sm = some (Int32.ofNat (min (e + v) 9999), hq_si sm1 199 p (Int32.ofNat (min (e + v) 9999))) := by
          simp only [f_X12_drop, nn_pi, e2, Option.bind_some, if_neg d10, if_neg h1, if_neg h2, k2, ld3, mm, st2, ld5]
        have kx := f_X11_drop_fw r1
        have km := f_X12_drop_fw r2
        have Id := hr_idle_kp (km.kp (by decide)) R.2.2.1
        have oo : ∀ c i, c < 196 → ¬ (c = 174 ∧ i = 48) → ¬ (c = 174 ∧ i = 0) → hq_gi sm1 c i = hq_gi sm c i := fun c i h1 h2 h3 => (k11 c i (by omega) h2).trans (by rw [nb_ii, if_neg h3])
        have W1 : hn_N nc ng nt 76 0 sx1 sm1 := hn_N_k (sx := sx) (sm := sm) b1 b3 b4 (fun q i h1 h2 => k8 q i (by omega)) (k9 76 1) c0 (fun i => oo 185 i (by omega) (by omega) (by omega)) (fun i _ => by
          unfold hn_bold
          rw [oo 174 53 (by omega) (by omega) (by omega), oo 174 54 (by omega) (by omega) (by omega), oo 189 i (by omega) (by omega) (by omega)]) TT.2.2.2.1
        have W2 := hn_loot (b := min (e + v) 9999) (Or.inl rfl) b1 hp (by omega) W1
        rw [show 10 * 0 + p = p by omega] at W2
        have SF := hr_str_k (sx' := hq_si sx1 77 p (Int32.ofNat (min (e + v) 9999))) (fun i => ⟨(kx 103 i rfl).1, (kx 104 i rfl).1, (kx 105 i rfl).1⟩) S F
        refine ⟨_, _, _, r1, r2, hR_put hc R (hr_tape_kp (kx.kp (by decide)) (km.kp (by decide)) R.1) (hr_flt_kp (kx.kp (by decide)) (km.kp (by decide)) R.2.1) Id (kx.kp (by decide)) (hr_T_new (bar' := bar) (kx.kp (by decide)) (km.kp (by decide)) TT SF.1 SF.2 ⟨?_, Bl⟩ W2 (hr_facts_kp (kx.kp (by decide)) (km.kp (by decide)) TT.2.2.2.2.1) ?_ ?_)⟩
        · rw [nn_gk (by omega), c0 198 0 (by unfold hm_sl; omega)]
          exact TT.2.2.1.2.2.2.2.1
        · refine hr_img_k b1 b3 b4 (fun q i h1 h2 => ?_) (kx 85 1 rfl).2.1 (kx 0 7 rfl).1 (fun q i h => ?_) ?_ (fun i => ?_) (fun i hi => ?_) TT.2.2.2.2.2.1
          · rw [nn_gk (by omega)]; exact k8 q i (by omega)
          · rw [nb_ii, if_neg (by unfold hm_sl at h; omega)]; exact c2 q i h
          · rw [nn_gk (by omega)]; exact oo 174 47 (by omega) (by omega) (by omega)
          · rw [nn_gk (by omega)]; exact oo 185 i (by omega) (by omega) (by omega)
          · rw [hn_bold_i Id (by omega), hn_bold_i R.2.2.1 (by omega), nn_gk (by omega)]; exact oo 189 i (by omega) (by omega) (by omega)
        · refine ⟨n + 1, by omega, by rw [nn_gk (by omega)]; exact k3, by rw [nn_gk (by omega)]; exact k4, fun j hj => ?_⟩
          by_cases qj : j = n
          · subst qj
            rw [if_neg (by omega)]
            refine Or.inr (Or.inr ⟨p, e, hp, he, by rw [nn_gk (by omega)]; exact k7.1, by rw [nn_gk (by omega)]; exact k7.2.1, by rw [nn_gk (by omega)]; exact k7.2.2, ?_, hu_slg.mpr fun c' i v ex => ?_⟩)
            · have h1 := (k6 199 p (Or.inr (Or.inl ⟨rfl, by omega⟩))).1
              rw [hu_g199, hu_g199, show 10 * 0 + p = p by omega, x2] at h1
              rw [nn_gn (by omega)]; exact h1
            · rw [hu_gw v (by omega) (by unfold hm_sl; omega), (k6 c' i v).1, ← (k6 c' i v).2.1]
              exact (hu_gx (d := 199) (e := p) v (by omega) ex (by rw [if_pos rfl]; omega)).symm
          · rw [if_pos (by omega)]
            exact hu_deed_t b3 b1 (nn_gk (by omega)) (nn_gk (by omega)) (nn_gk (by omega)) (fun c' i v => hu_gw v (by omega) (by unfold hm_sl; omega)) (fun c' i v => hu_gw v (by omega) (by unfold hm_sl; omega)) (k5 j (by omega))
  · exact ⟨-1, sx, hq_si sm 174 0 0, by simp only [f_X11_drop, e1, Option.bind_some, if_true], by simp only [f_X12_drop, nn_pi, e2, Option.bind_some, if_true], R2⟩
theorem hs_op_44 (hc : hc_loc HC) (hN : 300 < N) : hq_Sim (hR HC) (f_X11_keep N) (f_X12_keep N) := fun sx sm R => by
  obtain ⟨nc, nl, ng, nt, t, bar, fr, to, on, TT⟩ := R.2.2.2.2.2
  have TT0 := TT
  obtain ⟨⟨t1, t2, t3⟩, Te, ⟨X, M, S, F, B, Bl⟩, W, Fa, Im, U⟩ := TT
  obtain ⟨⟨b1, b2, b3, b4⟩, -⟩ := Te
  obtain ⟨sx1, e1, k1⟩ := hk_copyFrom (N := N) (a := 85) (b := 76) (by omega) sx
  obtain ⟨sm1, e2, k2⟩ := hk_copies (N := N) (a := 2) (b := 0) (by omega) (by omega) (by omega) (by omega) (hq_si sm 174 0 0)
  have e2 : f_X12_copies N 2 0 (hq_si sm 174 0 0) = some sm1 := e2
  have p7 : ∀ s : hq_S, hq_pi s 0 7 1 1 = some (hq_si s 0 7 1) := fun _ => rfl
  have p47 : ∀ s : hq_S, hq_pi s 174 47 1 1 = some (hq_si s 174 47 1) := fun _ => rfl
  have lh : hq_ld (hq_si sm1 174 47 1) 196 23 0 = some (hq_gi sm 196 0) := by
    rw [nb_0, nn_ld (by omega) (by omega), nn_gk (by omega), k2.1 _ _ (by unfold hm_sl; omega), nn_gk (by omega)]
  have hh : hq_gi (hq_si sx1 0 7 1) 76 0 = hq_gi sm 196 0 := by
    rw [nn_gk (by omega), k1.1 _ _ (by omega)]
    exact W.1
  have r1 : f_X11_keep N sx = some (hq_gi sm 196 0, hq_si sx1 0 7 1) := by simp only [f_X11_keep, e1, Option.bind_some, p7, hh]
  have r2 : f_X12_keep N sm = some (hq_gi sm 196 0, hq_si sm1 174 47 1) := by simp only [f_X12_keep, nn_pi, e2, Option.bind_some, p47, lh]
  have kx := f_X11_keep_fw r1
  have km := f_X12_keep_fw r2
  have Id := hr_idle_kp (km.kp (by decide)) R.2.2.1
  have SF := hr_str_k (sx' := hq_si sx1 0 7 1) (fun i => ⟨(kx 103 i rfl).1, (kx 104 i rfl).1, (kx 105 i rfl).1⟩) S F
  have mo : ∀ c i, ¬ hm_sl 2 c i → ¬ c = 174 → hq_gi (hq_si sm1 174 47 1) c i = hq_gi sm c i := fun c i h h2 => by rw [nn_gk h2, k2.1 c i h, nn_gk h2]
  have eb : ∀ i, i < nt → hn_bold (hq_si sm1 174 47 1) i = hn_bold sm i := fun i hi => by
    rw [hn_bold_i Id (by omega), hn_bold_i R.2.2.1 (by omega)]; exact mo 189 i (by unfold hm_sl; omega) (by omega)
  have W2 : hn_N nc ng nt 76 0 (hq_si sx1 0 7 1) (hq_si sm1 174 47 1) := hn_N_k (sx := sx) (sm := sm) b1 b3 b4 (fun q i h1 h2 => by rw [nn_gk (by omega)]; exact k1.1 q i (by omega)) (k1.2.1 76 1 (by omega)) (fun q i h => mo q i (by unfold hm_sl at h ⊢; omega) (by unfold hm_sl at h; omega)) (fun i => mo 185 i (by unfold hm_sl; omega) (by omega)) eb W
  have I1 := (hT_th 0 R.2.2.1 TT0).2
  have W3 : hn_N nc ng nt 85 2 (hq_si sx1 0 7 1) (hq_si sm1 174 47 1) := hn_N_k (sx := sx1) (sm := sm1) b1 b3 b4 (fun q i h1 h2 => nn_gk (by omega)) rfl (fun q i h => nn_gk (by unfold hm_sl at h; omega)) (fun i => nn_gk (by omega)) (fun i _ => by
    unfold hn_bold
    rw [nn_gn (s := sm1) (k := 174) (i := 47) (k' := 174) (i' := 53) (x := 1) (by omega), nn_gn (s := sm1) (k := 174) (i := 47) (k' := 174) (i' := 54) (x := 1) (by omega), nn_gk (s := sm1) (k := 174) (i := 47) (k' := 189) (i' := i) (x := 1) (by omega)]) (hn_copy b1 b3 b4 k1 k2 I1.2.2.2.1)
  refine ⟨_, _, _, r1, r2, hR_put hc R (hr_tape_kp (kx.kp (by decide)) (km.kp (by decide)) R.1) (hr_flt_kp (kx.kp (by decide)) (km.kp (by decide)) R.2.1) Id (kx.kp (by decide)) (hr_T_new (bar' := bar) (kx.kp (by decide)) (km.kp (by decide)) TT0 SF.1 SF.2 ⟨?_, Bl⟩ W2 (hr_facts_kp (kx.kp (by decide)) (km.kp (by decide)) Fa) (Or.inr ⟨nn_g1, nn_g1, W3⟩) ?_)⟩
  · rw [mo 198 0 (by unfold hm_sl; omega) (by omega)]; exact B
  · obtain ⟨n, hn, u1, u2, u3⟩ := U
    refine ⟨n, hn, by rw [(kx 170 0 rfl).1]; exact u1, by rw [(km 174 48 rfl).1]; exact u2, fun j hj => ?_⟩
    refine hu_deed_t b3 b1 (kx 171 j rfl).1 (kx 172 j rfl).1 (kx 173 j rfl).1 (fun c i v => hu_g_of v fun c' j' h => mo c' j' (by unfold hm_sl at h ⊢; omega) (by unfold hm_sl at h; omega)) (fun c i v => hu_g_of v fun c' j' h => mo c' j' ?_ (by unfold hm_sl at h; omega)) (u3 j hj)
    split at h
    · unfold hm_sl at h ⊢; omega
    · unfold hm_sl at h ⊢; omega
theorem hs_op_45 (hc : hc_loc HC) (hN : 300 < N) : hq_Sim (hR HC) (f_X11_back N) (f_X12_back N) := fun sx sm R => by
  have R2 := hR_th hc (x := 0) R
  obtain ⟨nc, nl, ng, nt, t, bar, fr, to, on, TT⟩ := R.2.2.2.2.2
  have TT0 := TT
  obtain ⟨⟨t1, t2, t3⟩, Te, ⟨X, M, S, F, B, Bl⟩, W, Fa, Im, U⟩ := TT
  obtain ⟨⟨b1, b2, b3, b4⟩, -⟩ := Te
  rcases Im with ⟨i1, i2⟩ | ⟨i1, i2, i3⟩
  · have j2 : hq_gi (hq_si sm 174 0 0) 174 47 = 0 := by rw [nn_gn (by omega)]; exact i2
    exact ⟨-1, sx, hq_si sm 174 0 0, by simp only [f_X11_back, if_pos i1], by simp only [f_X12_back, nn_pi, Option.bind_some, if_pos j2], R2⟩
  · have n1 : ¬ hq_gi sx 0 7 = 0 := by rw [i1]; decide
    have n2 : ¬ hq_gi (hq_si sm 174 0 0) 174 47 = 0 := by rw [nn_gn (by omega), i2]; decide
    obtain ⟨sx1, e1, k1⟩ := hk_copyFrom (N := N) (a := 76) (b := 85) (by omega) sx
    obtain ⟨sm1, e2, k2⟩ := hk_copies (N := N) (a := 0) (b := 2) (by omega) (by omega) (by omega) (by omega) (hq_si sm 174 0 0)
    have e2 : f_X12_copies N 0 2 (hq_si sm 174 0 0) = some sm1 := e2
    have im0 : hn_N nc ng nt 85 2 sx (hq_si sm 174 0 0) := by
      have q := (hT_th 0 R.2.2.1 TT0).2.2.2.2.2.2.1
      rcases q with ⟨q1, -⟩ | ⟨-, -, q⟩
      · exact absurd q1 n1
      · exact q
    have W1 : hn_N nc ng nt 76 0 sx1 sm1 := hn_copy b1 b3 b4 k1 k2 im0
    obtain ⟨d, hd, dx, dm⟩ := W1.2.2.1
    have X1 : hl_X t nl nc fr to on sx1 := by
      have ex : ∀ c i, c < 76 → hq_gi sx1 c i = hq_gi sx c i := fun c i hc => k1.1 c i (by omega)
      have ht : t ≤ 25 := by omega
      unfold hl_X at X ⊢
      simp (disch := omega) only [ex]
      exact X
    obtain ⟨g, f, bu, bg, bf⟩ := hb_build (N := N) (u := 103) (t := t) (both := false) (a3 := 0) (bar := d) (Or.inl rfl) t2 (by omega) rfl (by omega) X1
    have r0 : hq_gr sx1 0 2 = t := by rw [k1.2.2.1]; exact t1
    have iT : hq_isT t := t2
    have cl : ∀ s : hq_S, f_X1_clear N s = some (hq_si s 170 0 0) := fun _ => rfl
    have hh : hq_gi (hq_si (hq_w (hq_w (hq_si sx1 103 0 (Int32.ofNat nc)) (103 + 1) g) (103 + 2) f) 170 0 0) 76 0 = hq_gi sm1 196 0 := by
      rw [nn_gk (by omega), hw_n (by omega), hw_n (by omega), nn_gk (by omega)]
      exact W1.1
    have lh : hq_ld (hq_si sm1 174 48 0) 196 23 0 = some (hq_gi sm1 196 0) := by
      rw [nb_0, nn_ld (by omega) (by omega), nn_gk (by omega)]
    have r1 : f_X11_back N sx = some (hq_gi sm1 196 0, hq_si (hq_w (hq_w (hq_si sx1 103 0 (Int32.ofNat nc)) (103 + 1) g) (103 + 2) f) 170 0 0) := by
      simp only [f_X11_back, if_neg n1, e1, Option.bind_some, r0, if_pos iT, dx, bu, cl, hh]
    have r2 : f_X12_back N sm = some (hq_gi sm1 196 0, hq_si sm1 174 48 0) := by
      simp only [f_X12_back, nn_pi, Option.bind_some, if_neg n2, e2, lh]
    have kx := f_X11_back_fw r1
    have km := f_X12_back_fw r2
    have Id := hr_idle_kp (km.kp (by decide)) R.2.2.1
    have xo : ∀ c i, c < 103 → hq_gi (hq_si (hq_w (hq_w (hq_si sx1 103 0 (Int32.ofNat nc)) (103 + 1) g) (103 + 2) f) 170 0 0) c i = hq_gi sx1 c i := fun c i hc => by
      rw [nn_gk (by omega), hw_n (by omega), hw_n (by omega), nn_gk (by omega)]
    have eb : ∀ i, i < nt → hn_bold (hq_si sm1 174 48 0) i = hn_bold sm1 i := fun i _ => by
      unfold hn_bold
      rw [nn_gn (s := sm1) (k := 174) (i := 48) (k' := 174) (i' := 53) (x := 0) (by omega), nn_gn (s := sm1) (k := 174) (i := 48) (k' := 174) (i' := 54) (x := 0) (by omega), nn_gk (s := sm1) (k := 174) (i := 48) (k' := 189) (i' := i) (x := 0) (by omega)]
    have W2 := hn_N_k (sx' := hq_si (hq_w (hq_w (hq_si sx1 103 0 (Int32.ofNat nc)) (103 + 1) g) (103 + 2) f) 170 0 0) (sm' := hq_si sm1 174 48 0) b1 b3 b4 (fun q i h1 h2 => xo q i (by omega)) rfl (fun q i h => nn_gk (by unfold hm_sl at h; omega)) (fun i => nn_gk (by omega)) eb W1
    refine ⟨_, _, _, r1, r2, hR_put hc R (hr_tape_kp (kx.kp (by decide)) (km.kp (by decide)) R.1) (hr_flt_kp (kx.kp (by decide)) (km.kp (by decide)) R.2.1) Id (kx.kp (by decide)) (hr_T_new (bar' := d) (kx.kp (by decide)) (km.kp (by decide)) TT0 ⟨?_, fun c hc' => ?_⟩ (fun a b ha hb => ?_) ⟨?_, hd⟩ W2 (hr_facts_kp (kx.kp (by decide)) (km.kp (by decide)) Fa) ?_ ⟨0, by omega, nn_g1, nn_g1, fun j hj => absurd hj (by omega)⟩)⟩
    · rw [nn_gk (by omega), hw_n (by omega), hw_n (by omega), nn_g1]
    · rw [nn_gk (by omega), hw_n (by omega), hw_g]; exact bg c hc'
    · rw [nn_gk (by omega), show (105 : Nat) = 103 + 2 from rfl, hw_g]; exact bf a b ha hb
    · rw [nn_gk (by omega)]; exact dm
    · refine hr_img_k b1 b3 b4 (fun q i h1 h2 => ?_) (kx 85 1 rfl).2.1 (kx 0 7 rfl).1 (fun q i h => ?_) (km 174 47 rfl).1 (fun i => (km 185 i rfl).1) (fun i hi => ?_) (Or.inr ⟨i1, i2, i3⟩)
      · rw [xo q i (by omega)]; exact k1.1 q i (by omega)
      · rw [nn_gk (by unfold hm_sl at h; omega), k2.1 q i (by unfold hm_sl at h ⊢; omega), nn_gk (by unfold hm_sl at h; omega)]
      · rw [hn_bold_i Id (by omega), hn_bold_i R.2.2.1 (by omega), (km 189 i rfl).1]
end
