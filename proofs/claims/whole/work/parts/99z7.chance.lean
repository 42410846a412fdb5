/-! CHANCE, TRIED -/
section
variable {N nc nl ng nt t bar : Nat} {fr to on : Nat → Nat} {HC : hq_S → Prop}
theorem hc_L {u : Nat} {both : Bool} {o : hq_S} {q39 : Int32 → Int32 → Int32 → Int32 → Int32 → Int32 → hq_S → Option (Int32 × hq_S)} {a1 a3 a4 a5 a6 : Int32} (hN : 300 < N) {n : Nat} (hn : n ≤ 200) : ∀ (q j m m' : Nat) (sx sm : hq_S), hh_P nc nl ng nt t u 94 1 fr to on bar both 1 o sx sm → j + q = n → q < m → q < m' → ∃ sx' sm', f_X3_passMany_L2 N m (Int32.ofNat n) (Int32.ofNat j) sx = some sx' ∧ f_X12_chance_L63 N q39 m' a1 (Int32.ofNat n) a3 a4 a5 a6 (Int32.ofNat j) sm = ((hq_ld sm' 197 23 (1 : Int32)).bind fun x11 => (f_X12_isFree N (1 : Int32) a3 sm').bind fun y12 => (if y12.1 = 0 then some (1 : Int32) else some (0 : Int32)).bind fun z13 => q39 a1 (Int32.ofNat n) a3 x11 (a5 + z13) (a6 + (1 : Int32)) y12.2) ∧ hh_P nc nl ng nt t u 94 1 fr to on bar both 1 o sx' sm' ∧ hq_kp hd_M sm sm' := by
  intro q
  induction q with
  | zero =>
    intro j m m' sx sm P hj hm hm'
    obtain ⟨m, rfl⟩ : ∃ k, m = k + 1 := ⟨m - 1, by omega⟩
    obtain ⟨m', rfl⟩ : ∃ k, m' = k + 1 := ⟨m' - 1, by omega⟩
    have c : ¬ Int32.ofNat j < Int32.ofNat n := by rw [nn_lt (by omega) (by omega)]; omega
    refine ⟨sx, sm, ?_, ?_, P, hq_kp_rf _ _⟩
    · simp only [f_X3_passMany_L2_s, f_X3_passMany_L2_B, if_neg c]
    · simp only [f_X12_chance_L63_s, f_X12_chance_L63_B, if_neg c]
  | succ q ih =>
    intro j m m' sx sm P hj hm hm'
    obtain ⟨m, rfl⟩ : ∃ k, m = k + 1 := ⟨m - 1, by omega⟩
    obtain ⟨m', rfl⟩ : ∃ k, m' = k + 1 := ⟨m' - 1, by omega⟩
    have c : Int32.ofNat j < Int32.ofNat n := (nn_lt (by omega) (by omega)).mpr (by omega)
    obtain ⟨sx1, sm1, p1, p2, P1⟩ := hh_pass (N := N) (l := 1) (by omega) (by omega) P
    have p2 : f_X12_passes N 1 1 sm = some sm1 := p2
    obtain ⟨sx', sm', i1, i2, i3, i4⟩ := ih (j + 1) m m' sx1 sm1 P1 (by omega) (by omega) (by omega)
    refine ⟨sx', sm', ?_, ?_, i3, hq_kp_tr ((f_X12_passes_fw p2).kp (by decide)) i4⟩
    · simp only [f_X3_passMany_L2_s, f_X3_passMany_L2_B, if_pos c, p1, Option.bind_some, nn_succ]
      exact i1
    · simp only [f_X12_chance_L63_s, f_X12_chance_L63_B, if_pos c, p2, Option.bind_some, nn_succ]
      exact i2
theorem hs_op_41 (hc : hc_loc HC) (hN : 300 < N) (a1 a2 a3 : Int32) : hq_Sim (hR HC) (f_X11_chance N a1 a2 a3) (f_X12_chance N a1 a2 a3) := hs_mk2 hc (WX := w_X11_chance) (WM := w_X12_chance) (by decide) (by decide) (fun _ _ => f_X11_chance_fw) (fun _ _ => f_X12_chance_fw) fun sx sm R => by
  obtain ⟨nc, nl, ng, nt, t, bar, fr, to, on, TT⟩ := R.2.2.2.2.2
  obtain ⟨I, T⟩ := hT_th 0 R.2.2.1 TT
  have T0 := T
  obtain ⟨⟨t1, t2, t3⟩, ⟨⟨b1, b2, b3, b4⟩, ⟨-, -, -, -, -, -, d1, d2⟩, -⟩, -⟩ := T
  have oth : hm_o 1 sm (hq_si sm 174 0 0) := fun c i h1 h2 h3 => nn_gk (by omega)
  have d10 : ¬ (1 : Int32) = 0 := by decide
  by_cases h0 : a1 < 0
  · exact ⟨-1, sx, hq_si sm 174 0 0, by simp only [f_X11_chance, if_pos h0], by simp only [f_X12_chance, nn_pi, Option.bind_some, if_pos h0], oth⟩
  · by_cases h1 : a2 < (1 : Int32)
    · exact ⟨-1, sx, hq_si sm 174 0 0, by simp only [f_X11_chance, if_neg h0, if_pos h1], by simp only [f_X12_chance, nn_pi, Option.bind_some, if_neg h0, if_pos h1], oth⟩
    · by_cases h2 : (99 : Int32) < a2
      · exact ⟨-1, sx, hq_si sm 174 0 0, by simp only [f_X11_chance, if_neg h0, if_neg h1, if_pos h2], by simp only [f_X12_chance, nn_pi, Option.bind_some, if_neg h0, if_neg h1, if_pos h2], oth⟩
      · rcases hs_isThief (N := N) (a := a3) (by omega) t1 t2 d1 d2 with ⟨i, hi, rfl, e1, e2⟩ | ⟨e1, e2⟩
        · obtain ⟨n, hn, rfl⟩ : ∃ n : Nat, n ≤ 99 ∧ a2 = Int32.ofNat n := by
            rcases nn_le (a := a2) (n := 99) (by omega) with ⟨j, hj, e, -, -⟩ | h | ⟨-, h⟩
            · exact ⟨j, hj, e⟩
            · exact absurd (Int32.lt_trans h (by decide)) h1
            · exact absurd h h2
          obtain ⟨d0, hd0, rfl⟩ := nI_of h0
          have h0 : ¬ Int32.ofNat d0 < 0 := h0
          have key : ∀ (q j m m' d : Nat) (a5 : Int32) (sxc smc : hq_S), hr_T nc nl ng nt t bar fr to on sxc smc → hr_idle smc → hm_o 1 (hq_si sm 174 0 0) smc → d < 2147483648 → j + q = 10 → q < m → q < m' → ∃ v sx' sm', f_X11_chance_L35 N m (Int32.ofNat d0) (Int32.ofNat n) (Int32.ofNat i) a5 (Int64.ofNat d) (Int32.ofNat j) sxc = some (v, sx') ∧ f_X12_chance_L39 N m' (Int32.ofNat d0) (Int32.ofNat n) (Int32.ofNat i) (Int32.ofNat d) a5 (Int32.ofNat j) smc = some (v, sm') ∧ hm_o 1 (hq_si sm 174 0 0) sm' := by
            intro q
            induction q with
            | zero =>
              intro j m m' d a5 sxc smc T I O hd hj hm hm'
              obtain ⟨m, rfl⟩ : ∃ k, m = k + 1 := ⟨m - 1, by omega⟩
              obtain ⟨m', rfl⟩ : ∃ k, m' = k + 1 := ⟨m' - 1, by omega⟩
              have c : ¬ Int32.ofNat j < (10 : Int32) := by rw [nb_lit 10, nn_lt (by omega) (by omega)]; omega
              exact ⟨a5, sxc, smc, by simp only [f_X11_chance_L35_s, f_X11_chance_L35_B, if_neg c], by simp only [f_X12_chance_L39_s, f_X12_chance_L39_B, if_neg c], O⟩
            | succ q ih =>
              intro j m m' d a5 sxc smc T I O hd hj hm hm'
              obtain ⟨m, rfl⟩ : ∃ k, m = k + 1 := ⟨m - 1, by omega⟩
              obtain ⟨m', rfl⟩ : ∃ k, m' = k + 1 := ⟨m' - 1, by omega⟩
              have c : Int32.ofNat j < (10 : Int32) := by rw [nb_lit 10, nn_lt (by omega) (by omega)]; omega
              have iT : hq_isT t := t2
              obtain ⟨sx1, sm1, c1, c2, kx, km, O1, W, Te, S, F, M, B, Bl, tw, r, -⟩ := hp_play (N := N) (by omega) I T
              have W1 := hn_drawn (d := d) (Or.inr rfl) hd W
              have P : hh_P nc nl ng nt t 103 94 1 fr to on bar false 1 smc (hp_su (hq_sj sx1 94 1 (Int64.ofNat d)) t 103 94 0) (hq_si sm1 197 1 (Int32.ofNat d)) := by
                refine hp_up (sx := hq_sj sx1 94 1 (Int64.ofNat d)) (hr_told_f (sx := sx1) (sm := sm1) t2 (fun _ _ _ => rfl) (fun q i hq => nb_jget (by omega)) (fun q i h1 h2 => nn_gk (by omega)) Te) t2 (Or.inl rfl) (Or.inr rfl) S F ?_ ?_ Bl ?_ W1 ?_ (hm_o_w (by unfold hm_sl; omega) O1)
                · unfold hl_M at M ⊢
                  simp (disch := decide) only [nn_gk]
                  exact M
                · rw [nn_gk (by omega)]; exact B
                · rw [nn_gk (by omega), tw]; decide
                · unfold hh_M
                  rw [nn_gk (by omega), nn_gk (by omega), tw, hp_su_3.2.2.2.1, hp_su_3.2.2.2.2.1, hp_su_3.2.2.2.2.2]
                  exact ⟨Or.inr ⟨rfl, by decide⟩, Or.inl ⟨rfl, by decide⟩, Or.inr (Or.inr ⟨by decide, by decide, Or.inr ⟨rfl, rfl⟩⟩)⟩
              obtain ⟨sx2, sm2, p1, p2, P2, km2⟩ := hc_L (N := N) (q39 := f_X12_chance_L39 N m') (a1 := Int32.ofNat d0) (a3 := Int32.ofNat i) (a4 := Int32.ofNat d) (a5 := a5) (a6 := Int32.ofNat j) hN (n := n) (by omega) n 0 N N _ _ P (by omega) (by omega) (by omega)
              have p1 : f_X3_passMany N (Int32.ofNat n) (hp_su (hq_sj sx1 94 1 (Int64.ofNat d)) t 103 94 0) = some sx2 := p1
              obtain ⟨e, he, ex, em⟩ := P2.2.2.2.2.2.2.1.2.1
              obtain ⟨b, hb, f1, f2⟩ := hh_free (N := N) (l := 1) (by omega) P2.2.2.2.2.2.2.1 b3 b4 hi
              have f2 : f_X12_isFree N 1 (Int32.ofNat i) sm2 = some (b, sm2) := f2
              have ld : hq_ld sm2 197 23 1 = some (Int32.ofNat e) := by rw [nb_lit 1, nn_ld (by omega) (by omega), em]
              have st : hq_st sm1 197 23 1 (Int32.ofNat d) = some (hq_si sm1 197 1 (Int32.ofNat d)) := nn_st (j := 1) (by omega) (by omega)
              have ez : (if b = 0 then some (1 : Int32) else some 0) = some (if b = 0 then 1 else 0) := by split <;> rfl
              have pj : hq_pj sx1 94 1 (Int64.ofNat d) = some (hq_sj sx1 94 1 (Int64.ofNat d)) := rfl
              have rr : hq_gr (hq_sj sx1 94 1 (Int64.ofNat d)) 0 2 = t := r
              -- what stays
              have fx1 := f_X5_copyFrom_fw (n := N) (k0 := 94) (k1 := 76) (by decide) (by decide) c1
              have fm1 := f_X12_copies_fw c2
              have kX : hq_kp hd_X sxc sx2 := hq_kp_tr (fx1.kp (by decide)) (hq_kp_tr (s' := hq_sj sx1 94 1 (Int64.ofNat d)) (fun k i hk => ⟨rfl, nb_jget (by rintro ⟨rfl, rfl⟩; revert hk; decide), rfl⟩) (hq_kp_tr ((hp_su_fc t2 (by decide) (by decide)).kp (by decide)) ((f_X3_passMany_fw (u := 94) (Or.inr rfl) P.2.2.1.2.2 p1).kp (by decide))))
              have kM : hq_kp hd_M smc sm2 := hq_kp_tr (fm1.kp (by decide)) (hq_kp_tr (s' := hq_si sm1 197 1 (Int32.ofNat d)) (fun k i hk => ⟨by
                rw [nb_ii, if_neg]
                rintro ⟨rfl, rfl⟩
                revert hk
                decide, rfl, rfl⟩) km2)
              have O2 := P2.2.2.2.2.2.2.2.2
              have I2 : hr_idle sm2 := hr_idle_kp (fun k i hk => kM k i (hd_sub (D := hd_idle_m) (E := hd_M) (by decide) k i hk)) I
              have T2 := hr_T_k I kX kM O2 T
              obtain ⟨v, sx', sm', i1, i2, i3⟩ := ih (j + 1) m m' e (a5 + (if b = 0 then 1 else 0)) sx2 sm2 T2 I2 (fun q i h1 h2 h3 => (O2 q i h1 h2 h3).trans (O q i h1 h2 h3)) he (by omega) (by omega) (by omega)
              refine ⟨v, sx', sm', ?_, ?_, i3⟩
              · simp only [f_X11_chance_L35_s, f_X11_chance_L35_B, if_pos c, c1, Option.bind_some, pj, rr, if_pos iT, hp_setUp, p1, f1, ez, ex, nn_succ]
                exact i1
              · simp only [f_X12_chance_L39_s, f_X12_chance_L39_B, if_pos c, c2, Option.bind_some, st]
                rw [nb_0, p2]
                simp only [ld, f2, Option.bind_some, ez, nn_succ]
                exact i2
          obtain ⟨v, sx', sm', k1, k2, k3⟩ := key 10 0 N N d0 0 sx (hq_si sm 174 0 0) T0 I (fun _ _ _ _ _ => rfl) (by omega) (by omega) (by omega) (by omega)
          have s64 : (Int32.ofNat d0).toInt64 = Int64.ofNat d0 := nb_i64 (by omega)
          have r1 : f_X11_chance N (Int32.ofNat d0) (Int32.ofNat n) (Int32.ofNat i) sx = some (v, sx') := by
            simp only [f_X11_chance, if_neg h0, if_neg h1, if_neg h2, e1, Option.bind_some, if_neg d10, s64]
            exact k1
          have r2 : f_X12_chance N (Int32.ofNat d0) (Int32.ofNat n) (Int32.ofNat i) sm = some (v, sm') := by
            simp only [f_X12_chance, nn_pi, if_neg h0, if_neg h1, if_neg h2, e2, Option.bind_some, if_neg d10]
            exact k2
          exact ⟨v, sx', sm', r1, r2, hm_o_th k3⟩
        · exact ⟨-1, sx, hq_si sm 174 0 0, by simp only [f_X11_chance, if_neg h0, if_neg h1, if_neg h2, e1, Option.bind_some, if_true], by simp only [f_X12_chance, nn_pi, if_neg h0, if_neg h1, if_neg h2, e2, Option.bind_some, if_true], oth⟩
end
