/-! SEND, DROP, KEEP, BACK -/
section
variable {N nc nl ng nt t k l bar : Nat} {fr to on : Nat → Nat} {s s' sx sx' sm sm' : hq_S} {HC : hq_S → Prop}
theorem hu_cell {a c i : Nat} (h : ∀ c i, hu_v c i → hu_g s' a c i = hu_g s a c i) (hs : hm_sl a c i) : hq_gi s' c i = hq_gi s c i := by
  unfold hm_sl at hs
  rcases hs with ⟨v1, v2, v3⟩ | ⟨v1, v2, v3⟩ | ⟨v1, v2, v3, v4⟩ | ⟨v1, v2, v3, v4⟩
  · have := h c 0 (Or.inl ⟨v1, v2, rfl⟩)
    unfold hu_g at this
    rw [if_pos v2, if_pos v2] at this
    rw [v3]; exact this
  · have := h 199 (i - 10 * a) (Or.inr (Or.inl ⟨rfl, by omega⟩))
    unfold hu_g at this
    rw [if_neg (by omega), if_pos rfl, if_neg (by omega), if_pos rfl, show 10 * a + (i - 10 * a) = i by omega] at this
    rw [v1]; exact this
  · have := h c (i - 3 * a) (Or.inr (Or.inr (Or.inl ⟨v1, v2, by omega⟩)))
    unfold hu_g at this
    rw [if_neg (by omega), if_neg (by omega), if_pos v2, if_neg (by omega), if_neg (by omega), if_pos v2, show 3 * a + (i - 3 * a) = i by omega] at this
    exact this
  · have := h c (i - 4 * a) (Or.inr (Or.inr (Or.inr ⟨v1, v2, by omega⟩)))
    unfold hu_g at this
    rw [if_neg (by omega), if_neg (by omega), if_neg (by omega), if_neg (by omega), if_neg (by omega), if_neg (by omega), show 4 * a + (i - 4 * a) = i by omega] at this
    exact this
/-- the towns' places, cell by cell -/
theorem hu_g_of {a c i : Nat} (v : hu_v c i) (h : ∀ c j, hm_sl a c j → hq_gi s' c j = hq_gi s c j) : hu_g s' a c i = hu_g s a c i := by
  unfold hu_v at v
  unfold hu_g
  rcases v with ⟨v1, v2, v3⟩ | ⟨v1, v2⟩ | ⟨v1, v2, v3⟩ | ⟨v1, v2, v3⟩
  · rw [if_pos v2, if_pos v2]; exact h c a (by unfold hm_sl; omega)
  · rw [if_neg (by omega), if_pos v1, if_neg (by omega), if_pos v1]; exact h 199 _ (by unfold hm_sl; omega)
  · rw [if_neg (by omega), if_neg (by omega), if_pos v2, if_neg (by omega), if_neg (by omega), if_pos v2]; exact h c _ (by unfold hm_sl; omega)
  · rw [if_neg (by omega), if_neg (by omega), if_neg (by omega), if_neg (by omega), if_neg (by omega), if_neg (by omega)]; exact h c _ (by unfold hm_sl; omega)
/-- a write into town 0 leaves the others -/
theorem hu_gw {a c i d j : Nat} {x : Int32} (v : hu_v c i) (ha : ¬ a = 0) (hs : hm_sl 0 d j) : hu_g (hq_si s d j x) a c i = hu_g s a c i := hu_g_of v fun c' j' h => by
  rw [nb_ii, if_neg]
  unfold hm_sl at h hs
  omega
/-- a write into town 0 leaves its other places -/
theorem hu_gx {c i d j e : Nat} {x : Int32} (v : hu_v c i) (hd : (d = 199 ∧ e < 10) ∨ (d = 200 ∧ e < 3) ∨ (d = 198 ∧ e = 0)) (ex : ¬ (c = d ∧ i = e)) (hj : j = (if d = 199 then 10 * 0 + e else if d = 200 then 3 * 0 + e else 0)) : hu_g (hq_si s d j x) 0 c i = hu_g s 0 c i := by
  unfold hu_v at v
  unfold hu_g
  rcases hd with ⟨rfl, he⟩ | ⟨rfl, he⟩ | ⟨rfl, he⟩
  · rw [if_pos rfl] at hj
    rcases v with ⟨v1, v2, v3⟩ | ⟨v1, v2⟩ | ⟨v1, v2, v3⟩ | ⟨v1, v2, v3⟩
    · rw [if_pos v2, if_pos v2]; exact nn_gk (by omega)
    · rw [if_neg (by omega), if_pos v1, if_neg (by omega), if_pos v1]; exact nn_gn (by omega)
    · rw [if_neg (by omega), if_neg (by omega), if_pos v2, if_neg (by omega), if_neg (by omega), if_pos v2]; exact nn_gk (by omega)
    · rw [if_neg (by omega), if_neg (by omega), if_neg (by omega), if_neg (by omega), if_neg (by omega), if_neg (by omega)]; exact nn_gk (by omega)
  · rw [if_neg (by omega), if_pos rfl] at hj
    rcases v with ⟨v1, v2, v3⟩ | ⟨v1, v2⟩ | ⟨v1, v2, v3⟩ | ⟨v1, v2, v3⟩
    · rw [if_pos v2, if_pos v2]; exact nn_gk (by omega)
    · rw [if_neg (by omega), if_pos v1, if_neg (by omega), if_pos v1]; exact nn_gk (by omega)
    · rw [if_neg (by omega), if_neg (by omega), if_pos v2, if_neg (by omega), if_neg (by omega), if_pos v2, nb_ii, if_neg (by omega)]
    · rw [if_neg (by omega), if_neg (by omega), if_neg (by omega), if_neg (by omega), if_neg (by omega), if_neg (by omega)]; exact nn_gk (by omega)
  · rcases v with ⟨v1, v2, v3⟩ | ⟨v1, v2⟩ | ⟨v1, v2, v3⟩ | ⟨v1, v2, v3⟩
    · rw [if_pos v2, if_pos v2]; exact nn_gk (by omega)
    · rw [if_neg (by omega), if_pos v1, if_neg (by omega), if_pos v1]; exact nn_gk (by omega)
    · rw [if_neg (by omega), if_neg (by omega), if_pos v2, if_neg (by omega), if_neg (by omega), if_pos v2]; exact nn_gk (by omega)
    · rw [if_neg (by omega), if_neg (by omega), if_neg (by omega), if_neg (by omega), if_neg (by omega), if_neg (by omega)]; exact nn_gk (by omega)
theorem hr_img_k (hnc : nc ≤ 10) (hng : ng ≤ 3) (hnt : nt ≤ 4) (ex : ∀ c i, 85 ≤ c → c ≤ 93 → hq_gi sx' c i = hq_gi sx c i) (ej : hq_gj sx' 85 1 = hq_gj sx 85 1) (e7 : hq_gi sx' 0 7 = hq_gi sx 0 7) (em : ∀ c i, hm_sl 2 c i → hq_gi sm' c i = hq_gi sm c i) (e47 : hq_gi sm' 174 47 = hq_gi sm 174 47) (e5 : ∀ i, hq_gi sm' 185 i = hq_gi sm 185 i) (eb : ∀ i, i < nt → hn_bold sm' i = hn_bold sm i) (h : hr_img nc ng nt sx sm) : hr_img nc ng nt sx' sm' := by
  unfold hr_img at h ⊢
  rw [e7, e47]
  rcases h with h | ⟨h1, h2, h3⟩
  · exact Or.inl h
  · exact Or.inr ⟨h1, h2, hn_N_k hnc hng hnt (fun c i h1 h2 => ex c i (by omega) (by omega)) ej em e5 eb h3⟩
theorem hr_str_k (ex : ∀ i, hq_gi sx' 103 i = hq_gi sx 103 i ∧ hq_gi sx' 104 i = hq_gi sx 104 i ∧ hq_gi sx' 105 i = hq_gi sx 105 i) {nx : Nat → Nat} {fa : Nat → Nat → Nat} (S : hl_S 103 nc nx sx) (F : ∀ a b, a < nc → b < nc → hq_gi sx 105 (10 * a + b) = Int32.ofNat (fa a b)) : hl_S 103 nc nx sx' ∧ ∀ a b, a < nc → b < nc → hq_gi sx' 105 (10 * a + b) = Int32.ofNat (fa a b) := by
  refine ⟨⟨by rw [(ex 0).1]; exact S.1, fun c hc => ?_⟩, fun a b ha hb => by rw [(ex _).2.2]; exact F a b ha hb⟩
  have := (ex c).2.1
  show hq_gi sx' 104 c = _
  rw [this]; exact S.2 c hc
theorem hs_op_9 (hc : hc_loc HC) (hN : 300 < N) (a1 a2 : Int32) : hq_Sim (hR HC) (f_X11_send N a1 a2) (f_X12_send N a1 a2) := fun sx sm R => by
  have R2 := hR_th hc (x := 0) R
  obtain ⟨nc, nl, ng, nt, t, bar, fr, to, on, TT⟩ := R.2.2.2.2.2
  obtain ⟨I, T⟩ := hT_th 0 R.2.2.1 TT
  obtain ⟨sl, l1, lR, lF, lo⟩ := hp_lays (N := N) (by omega) I T
  have fl := f_X12_lays_fw l1
  have Rl : hR HC sx sl := hR_k (sx := sx) (sm := hq_si sm 174 0 0) hc (hq_kp_rf _ _) (fl.kp (by decide)) (hm_o_fc (by decide) fl) R2
  obtain ⟨⟨t1, t2, t3⟩, Te, ⟨X, M, S, F, B, Bl⟩, W, Fa, Im, U⟩ := T
  obtain ⟨⟨b1, b2, b3, b4⟩, ⟨c1, c2, -, -, g1, g2, -⟩, -⟩ := Te
  have d10 : ¬ (1 : Int32) = 0 := by decide
  rcases hs_isGuard (N := N) (a := a1) (by omega) t1 t2 g1 g2 with ⟨g, hg, rfl, e1, e2⟩ | ⟨e1, e2⟩
  · rcases hs_isCorner (N := N) (a := a2) (by omega) t1 t2 c1 c2 with ⟨c, hcc, rfl, f1, f2⟩ | ⟨f1, f2⟩
    · obtain ⟨e, he, x1, x2⟩ := (W.2.2.2.2.2.1 g hg).1
      rw [show 3 * 0 + g = g by omega] at x2
      have hx := nb_1024 b1 (ly_nx_lt (fr := fr) (to := to) (on := on) (bar := bar) (both := false) (nc := nc) (n := nl) (fun k hk => ⟨(M.2.2.2.2 k hk).1, (M.2.2.2.2 k hk).2.1⟩) e)
      have ld1 : hq_ld sx 78 3 (Int32.ofNat g) = some (Int32.ofNat e) := by rw [nn_ld (by omega) (by omega)]; exact congrArg some x1
      have ld2 : hq_ld sx 104 10 (Int32.ofNat e) = some (Int32.ofNat (ly_nx fr to on bar false nl e)) := by rw [nn_ld (by omega) (by omega)]; exact congrArg some (S.2 e (by omega))
      have ld3 : hq_ld sl 200 69 (Int32.ofNat g) = some (Int32.ofNat e) := by rw [nn_ld (by omega) (by omega), lo _ _ (by omega), x2]
      have ld4 : hq_ld sl 206 10 (Int32.ofNat e) = some (Int32.ofNat (ly_nx fr to on bar false nl e)) := by rw [nn_ld (by omega) (by omega), lR.2 e (by omega)]
      have bit := nb_bit0 (show ly_nx fr to on bar false nl e < 2147483648 by omega) (show c < 32 by omega)
      by_cases q : (ly_nx fr to on bar false nl e).testBit c = false
      · refine ⟨0, sx, sl, ?_, ?_, Rl⟩
        · simp only [f_X11_send, e1, f1, Option.bind_some, if_neg d10, ld1, ld2, bit, if_pos q]
        · simp only [f_X12_send, nn_pi, e2, f2, Option.bind_some, if_neg d10, l1, ld3, ld4, bit, if_pos q]
      · have Ul : hu_all nc nl ng sx sl := hu_all_k b3 b1 (fun _ _ _ _ => rfl) (lo _ _ (by omega)) (hm_o_fc (by decide) fl) U
        obtain ⟨sx1, sm1, n, hn, k1, k2, k3, k4, k5, k6, k7, k8, k9, k10, k11⟩ := hu_note (N := N) (k1 := 0) (w1 := Int32.ofNat g) (e1 := Int32.ofNat e) (by omega) b3 b1 Ul
        have st1 : hq_st sx1 78 3 (Int32.ofNat g) (Int32.ofNat c) = some (hq_si sx1 78 g (Int32.ofNat c)) := nn_st (by omega) (by omega)
        have st2 : hq_st sm1 200 69 (Int32.ofNat g) (Int32.ofNat c) = some (hq_si sm1 200 g (Int32.ofNat c)) := nn_st (by omega) (by omega)
        have r1 : f_X11_send N (Int32.ofNat g) (Int32.ofNat c) sx = some (1, hq_si sx1 78 g (Int32.ofNat c)) := by
          simp only [f_X11_send, e1, f1, Option.bind_some, if_neg d10, ld1, ld2, bit, if_neg q, k1, st1]
        have r2 : f_X12_send N (Int32.ofNat g) (Int32.ofNat c) sm = some (1, hq_si sm1 200 g (Int32.ofNat c)) := by
          simp only [f_X12_send, nn_pi, e2, f2, Option.bind_some, if_neg d10, l1, ld3, ld4, bit, if_neg q, k2, st2]
        have kx := f_X11_send_fw r1
        have km := f_X12_send_fw r2
        have Id := hr_idle_kp (km.kp (by decide)) R.2.2.1
        have c0 : ∀ c i, hm_sl 0 c i → hq_gi sm1 c i = hq_gi sm c i := fun c i h => (hu_cell (s := sl) (fun c i v => (k6 c i v).2.1) h).trans ((lo c i (by unfold hm_sl at h; omega)).trans (nn_gk (by unfold hm_sl at h; omega)))
        have c2 : ∀ c i, hm_sl 2 c i → hq_gi sm1 c i = hq_gi sm c i := fun c i h => (hu_cell (s := sl) (fun c i v => (k6 c i v).2.2) h).trans ((lo c i (by unfold hm_sl at h; omega)).trans (nn_gk (by unfold hm_sl at h; omega)))
        have oo : ∀ c i, c < 196 → ¬ (c = 174 ∧ i = 48) → ¬ (c = 174 ∧ i = 0) → hq_gi sm1 c i = hq_gi sm c i := fun c i h1 h2 h3 => (k11 c i (by omega) h2).trans ((lo c i (by omega)).trans (by rw [nb_ii, if_neg h3]))
        have W1 : hn_N nc ng nt 76 0 sx1 sm1 := hn_N_k (sx := sx) (sm := sm) b1 b3 b4 (fun q i h1 h2 => k8 q i (by omega)) (k9 76 1) c0 (fun i => oo 185 i (by omega) (by omega) (by omega)) (fun i _ => by
          unfold hn_bold
          rw [oo 174 53 (by omega) (by omega) (by omega), oo 174 54 (by omega) (by omega) (by omega), oo 189 i (by omega) (by omega) (by omega)]) TT.2.2.2.1
        have W2 := hn_guard (Or.inl rfl) hg hcc W1
        rw [show 3 * 0 + g = g by omega] at W2
        have SF := hr_str_k (sx' := hq_si sx1 78 g (Int32.ofNat c)) (fun i => ⟨(kx 103 i rfl).1, (kx 104 i rfl).1, (kx 105 i rfl).1⟩) S F
        refine ⟨_, _, _, r1, r2, hR_put hc R (hr_tape_kp (kx.kp (by decide)) (km.kp (by decide)) R.1) (hr_flt_kp (kx.kp (by decide)) (km.kp (by decide)) R.2.1) Id (kx.kp (by decide)) (hr_T_new (bar' := bar) (kx.kp (by decide)) (km.kp (by decide)) TT SF.1 SF.2 ⟨?_, Bl⟩ W2 (hr_facts_kp (kx.kp (by decide)) (km.kp (by decide)) TT.2.2.2.2.1) ?_ ?_)⟩
        · rw [nn_gk (by omega), c0 198 0 (by unfold hm_sl; omega)]
          exact TT.2.2.1.2.2.2.2.1
        · refine hr_img_k b1 b3 b4 (fun q i h1 h2 => ?_) (kx 85 1 rfl).2.1 (kx 0 7 rfl).1 (fun q i h => ?_) ?_ (fun i => ?_) (fun i hi => ?_) TT.2.2.2.2.2.1
          · rw [nn_gk (by omega)]; exact k8 q i (by omega)
          · rw [nb_ii, if_neg (by unfold hm_sl at h; omega)]; exact c2 q i h
          · rw [nn_gk (by omega)]; exact oo 174 47 (by omega) (by omega) (by omega)
          · rw [nn_gk (by omega)]; exact oo 185 i (by omega) (by omega) (by omega)
          · rw [hn_bold_i Id (by omega), hn_bold_i R.2.2.1 (by omega), nn_gk (by omega)]; exact oo 189 i (by omega) (by omega) (by omega)
        · refine ⟨n + 1, by omega, by rw [nn_gk (by omega)]; exact k3, by rw [nn_gk (by omega)]; exact k4, fun j hj => ?_⟩
          by_cases qj : j = n
          · subst qj
            rw [if_neg (by omega)]
            refine Or.inl ⟨g, e, hg, he, by rw [nn_gk (by omega)]; exact k7.1, by rw [nn_gk (by omega)]; exact k7.2.1, by rw [nn_gk (by omega)]; exact k7.2.2, ?_, hu_slg.mpr fun c' i v ex => ?_⟩
            · have h1 := (k6 200 g (Or.inr (Or.inr (Or.inl ⟨by omega, by omega, by omega⟩)))).1
              rw [hu_g200, hu_g200, show 3 * 0 + g = g by omega, lo _ _ (by omega), x2] at h1
              rw [nn_gn (by omega)]; exact h1
            · rw [hu_gw v (by omega) (by unfold hm_sl; omega), (k6 c' i v).1, ← (k6 c' i v).2.1]
              exact (hu_gx (d := 200) (e := g) v (by omega) ex (by rw [if_neg (by omega), if_pos rfl]; omega)).symm
          · rw [if_pos (by omega)]
            exact hu_deed_t b3 b1 (nn_gk (by omega)) (nn_gk (by omega)) (nn_gk (by omega)) (fun c' i v => hu_gw v (by omega) (by unfold hm_sl; omega)) (fun c' i v => hu_gw v (by omega) (by unfold hm_sl; omega)) (k5 j (by omega))
    · refine ⟨0, sx, hq_si sm 174 0 0, ?_, ?_, R2⟩
      · simp only [f_X11_send, e1, f1, Option.bind_some, if_neg d10, if_true]
      · simp only [f_X12_send, nn_pi, e2, f2, Option.bind_some, if_neg d10, if_true]
  · refine ⟨0, sx, hq_si sm 174 0 0, ?_, ?_, R2⟩
    · simp only [f_X11_send, e1, Option.bind_some, if_true]
    · simp only [f_X12_send, nn_pi, e2, Option.bind_some, if_true]
end
