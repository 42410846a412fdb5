/-! BAR, UNDO -/
section
variable {N nc nl ng nt t k l bar : Nat} {fr to on : Nat → Nat} {sx sx' sm sm' : hq_S} {HC : hq_S → Prop}
theorem hn_barred {d : Nat} (hk : k = 76 ∨ k = 94) (hd : d < 1048576) (h : hn_N nc ng nt k l sx sm) : hn_N nc ng nt k l (hq_si sx k 2 (Int32.ofNat d)) (hq_si sm 198 l (Int32.ofNat d)) := by
  unfold hn_N hn_bold at h ⊢
  simp (disch := omega) only [nn_gk, nn_gn, nb_ij]
  obtain ⟨h1, h2, h3, h4, h5, h6, h7, h8⟩ := h
  exact ⟨h1, h2, ⟨d, hd, nn_g1, nn_g1⟩, h4, h5, h6, h7, h8⟩
theorem nb_xx (a b : Nat) : (a ^^^ b) ^^^ b = a := by rw [Nat.xor_assoc, Nat.xor_self, Nat.xor_zero]
theorem nb_xlt {a w : Nat} (ha : a < 1048576) (hw : w < 20) : a ^^^ 2 ^ w < 1048576 := by
  have h : a ^^^ 2 ^ w < 2 ^ 20 := Nat.xor_lt_two_pow (by omega) (nb_2lt hw)
  omega
/-- the streets are built anew by other bars -/
theorem hs_turn (hN : 300 < N) {w d : Nat} (t1 : hq_gr sx 0 2 = t) (t2 : t = 2 ∨ t = 25) (X : hl_X t nl nc fr to on sx) (hd : d < 1048576) (e : hq_gi sx 76 2 ^^^ ((1 : Int32) <<< (Int32.ofNat w &&& 31)) = Int32.ofNat d) : ∃ g f, f_X11_turnBar N (Int32.ofNat w) sx = some (hq_w (hq_w (hq_si (hq_si sx 76 2 (Int32.ofNat d)) 103 0 (Int32.ofNat nc)) (103 + 1) g) (103 + 2) f) ∧ (∀ c, c < 10 → g c = Int32.ofNat (ly_nx fr to on d false nl c)) ∧ ∀ a b, a < nc → b < nc → f (10 * a + b) = Int32.ofNat (bf_far (ly_nx fr to on d false nl) nc a b) := by
  have X1 : hl_X t nl nc fr to on (hq_si sx 76 2 (Int32.ofNat d)) := by
    rw [hw_si]
    exact hl_X_w X (by omega) (by omega) (by omega)
  obtain ⟨g, f, bu, bg, bf⟩ := hb_build (N := N) (u := 103) (t := t) (both := false) (a3 := 0) (bar := d) (Or.inl rfl) t2 (by omega) rfl (by omega) X1
  refine ⟨g, f, ?_, bg, bf⟩
  have r0 : hq_gr (hq_si sx 76 2 (Int32.ofNat d)) 0 2 = t := t1
  have iT : hq_isT t := t2
  simp only [f_X11_turnBar, e, nn_pi, Option.bind_some, r0, if_pos iT, nn_g1, bu]
theorem hs_op_10 (hc : hc_loc HC) (hN : 300 < N) (a1 : Int32) : hq_Sim (hR HC) (f_X11_bar N a1) (f_X12_bar N a1) := fun sx sm R => by
  have R2 := hR_th hc (x := 0) R
  obtain ⟨nc, nl, ng, nt, t, bar, fr, to, on, TT⟩ := R.2.2.2.2.2
  obtain ⟨I, T⟩ := hT_th 0 R.2.2.1 TT
  obtain ⟨⟨t1, t2, t3⟩, Te, ⟨X, M, S, F, B, Bl⟩, W, Fa, Im, U⟩ := T
  obtain ⟨⟨b1, b2, b3, b4⟩, ⟨c1, c2, n1, n2, -⟩, -⟩ := Te
  have d10 : ¬ (1 : Int32) = 0 := by decide
  rcases hs_isLane (N := N) (a := a1) (by omega) t1 t2 n1 n2 with ⟨w, hw, rfl, e1, e2⟩ | ⟨e1, e2⟩
  · obtain ⟨d, hd, dx, dm⟩ := W.2.2.1
    have db : d = bar := by
      rw [B] at dm
      exact ((nn_inj (by omega) (by omega)).mp dm).symm
    subst db
    obtain ⟨sx1, sm1, n, hn, k1, k2, k3, k4, k5, k6, k7, k8, k9, k10, k11⟩ := hu_note (N := N) (k1 := 1) (w1 := Int32.ofNat w) (e1 := 0) (by omega) b3 b1 U
    have c0 : ∀ c i, hm_sl 0 c i → hq_gi sm1 c i = hq_gi sm c i := fun c i h => (hu_cell (s := hq_si sm 174 0 0) (fun c i v => (k6 c i v).2.1) h).trans (nn_gk (by unfold hm_sl at h; omega))
    have c2 : ∀ c i, hm_sl 2 c i → hq_gi sm1 c i = hq_gi sm c i := fun c i h => (hu_cell (s := hq_si sm 174 0 0) (fun c i v => (k6 c i v).2.2) h).trans (nn_gk (by unfold hm_sl at h; omega))
    have nl' := nb_xlt hd (show w < 20 by omega)
    have X1 : hl_X t nl nc fr to on sx1 := by
      have ex : ∀ c i, c < 76 → hq_gi sx1 c i = hq_gi sx c i := fun c i hc => k8 c i (by omega)
      have ht : t ≤ 25 := by omega
      unfold hl_X at X ⊢
      simp (disch := omega) only [ex]
      exact X
    have xe : hq_gi sx1 76 2 ^^^ ((1 : Int32) <<< (Int32.ofNat w &&& 31)) = Int32.ofNat (d ^^^ 2 ^ w) := by rw [k8 _ _ (by omega), dx, nb_one (by omega), nb_xor]
    obtain ⟨g, f, tb, bg, bf⟩ := hs_turn (N := N) (w := w) hN (by rw [k10]; exact t1) t2 X1 nl' xe
    have Bm : hq_gi sm 198 0 = Int32.ofNat d := TT.2.2.1.2.2.2.2.1
    have ld1 : hq_ld sm1 198 23 0 = some (Int32.ofNat d) := by rw [nb_0, nn_ld (by omega) (by omega), c0 198 0 (by unfold hm_sl; omega), Bm]
    have me : Int32.ofNat d ^^^ ((1 : Int32) <<< (Int32.ofNat w &&& 31)) = Int32.ofNat (d ^^^ 2 ^ w) := by rw [nb_one (by omega), nb_xor]
    have st1 : ∀ x, hq_st sm1 198 23 0 x = some (hq_si sm1 198 0 x) := fun x => nn_st (j := 0) (by omega) (by omega)
    have ld2 : ∀ x, hq_ld (hq_si sm1 198 0 x) 198 23 0 = some x := fun x => by rw [nb_0, nn_ld (by omega) (by omega), nn_g1]
    have x76 : hq_gi (hq_w (hq_w (hq_si (hq_si sx1 76 2 (Int32.ofNat (d ^^^ 2 ^ w))) 103 0 (Int32.ofNat nc)) (103 + 1) g) (103 + 2) f) 76 2 = Int32.ofNat (d ^^^ 2 ^ w) := by rw [hw_n (by omega), hw_n (by omega), nn_gk (by omega), nn_g1]
    have r1 : f_X11_bar N (Int32.ofNat w) sx = some ((Int32.ofNat (d ^^^ 2 ^ w) >>> (Int32.ofNat w &&& 31)) &&& 1, hq_w (hq_w (hq_si (hq_si sx1 76 2 (Int32.ofNat (d ^^^ 2 ^ w))) 103 0 (Int32.ofNat nc)) (103 + 1) g) (103 + 2) f) := by
      simp only [f_X11_bar, e1, Option.bind_some, if_neg d10, k1, tb, x76]
    have r2 : f_X12_bar N (Int32.ofNat w) sm = some ((Int32.ofNat (d ^^^ 2 ^ w) >>> (Int32.ofNat w &&& 31)) &&& 1, hq_si sm1 198 0 (Int32.ofNat (d ^^^ 2 ^ w))) := by
      simp only [f_X12_bar, nn_pi, e2, Option.bind_some, if_neg d10, k2, ld1, me, st1, ld2]
    have kx := f_X11_bar_fw r1
    have km := f_X12_bar_fw r2
    have Id := hr_idle_kp (km.kp (by decide)) R.2.2.1
    have oo : ∀ c i, c < 196 → ¬ (c = 174 ∧ i = 48) → ¬ (c = 174 ∧ i = 0) → hq_gi sm1 c i = hq_gi sm c i := fun c i h1 h2 h3 => (k11 c i (by omega) h2).trans (by rw [nb_ii, if_neg h3])
    have W1 : hn_N nc ng nt 76 0 sx1 sm1 := hn_N_k (sx := sx) (sm := sm) b1 b3 b4 (fun q i h1 h2 => k8 q i (by omega)) (k9 76 1) c0 (fun i => oo 185 i (by omega) (by omega) (by omega)) (fun i _ => by
      unfold hn_bold
      rw [oo 174 53 (by omega) (by omega) (by omega), oo 174 54 (by omega) (by omega) (by omega), oo 189 i (by omega) (by omega) (by omega)]) TT.2.2.2.1
    have W2 := hn_barred (Or.inl rfl) nl' W1
    have xo : ∀ c i, ¬ c = 103 → ¬ c = 104 → ¬ c = 105 → hq_gi (hq_w (hq_w (hq_si (hq_si sx1 76 2 (Int32.ofNat (d ^^^ 2 ^ w))) 103 0 (Int32.ofNat nc)) (103 + 1) g) (103 + 2) f) c i = hq_gi (hq_si sx1 76 2 (Int32.ofNat (d ^^^ 2 ^ w))) c i := fun c i h1 h2 h3 => by rw [hw_n h3, hw_n h2, nn_gk h1]
    have W3 := hn_N_k (sx' := hq_w (hq_w (hq_si (hq_si sx1 76 2 (Int32.ofNat (d ^^^ 2 ^ w))) 103 0 (Int32.ofNat nc)) (103 + 1) g) (103 + 2) f) (sm' := hq_si sm1 198 0 (Int32.ofNat (d ^^^ 2 ^ w))) b1 b3 b4 (fun q i h1 h2 => xo q i (by omega) (by omega) (by omega)) rfl (fun _ _ _ => rfl) (fun _ => rfl) (fun _ _ => rfl) W2
    refine ⟨_, _, _, r1, r2, hR_put hc R (hr_tape_kp (kx.kp (by decide)) (km.kp (by decide)) R.1) (hr_flt_kp (kx.kp (by decide)) (km.kp (by decide)) R.2.1) Id (kx.kp (by decide)) (hr_T_new (bar' := d ^^^ 2 ^ w) (kx.kp (by decide)) (km.kp (by decide)) TT ⟨?_, fun c hc' => ?_⟩ (fun a b ha hb => ?_) ⟨nn_g1, nl'⟩ W3 (hr_facts_kp (kx.kp (by decide)) (km.kp (by decide)) TT.2.2.2.2.1) ?_ ?_)⟩
    · rw [hw_n (by omega), hw_n (by omega), nn_g1]
    · rw [hw_n (by omega), hw_g]; exact bg c hc'
    · rw [show (105 : Nat) = 103 + 2 from rfl, hw_g]; exact bf a b ha hb
    · refine hr_img_k b1 b3 b4 (fun q i h1 h2 => ?_) (kx 85 1 rfl).2.1 (kx 0 7 rfl).1 (fun q i h => ?_) ?_ (fun i => ?_) (fun i hi => ?_) TT.2.2.2.2.2.1
      · rw [xo q i (by omega) (by omega) (by omega), nn_gk (by omega)]; exact k8 q i (by omega)
      · rw [nb_ii, if_neg (by unfold hm_sl at h; omega)]; exact c2 q i h
      · rw [nn_gk (by omega)]; exact oo 174 47 (by omega) (by omega) (by omega)
      · rw [nn_gk (by omega)]; exact oo 185 i (by omega) (by omega) (by omega)
      · rw [hn_bold_i Id (by omega), hn_bold_i R.2.2.1 (by omega), nn_gk (by omega)]; exact oo 189 i (by omega) (by omega) (by omega)
    · refine ⟨n + 1, by omega, by rw [xo _ _ (by omega) (by omega) (by omega), nn_gk (by omega)]; exact k3, by rw [nn_gk (by omega)]; exact k4, fun j hj => ?_⟩
      by_cases qj : j = n
      · subst qj
        rw [if_neg (by omega)]
        refine Or.inr (Or.inl ⟨w, d ^^^ 2 ^ w, hw, nl', by rw [xo _ _ (by omega) (by omega) (by omega), nn_gk (by omega)]; exact k7.1, by rw [xo _ _ (by omega) (by omega) (by omega), nn_gk (by omega)]; exact k7.2.1, ?_, nn_g1, hu_slg.mpr fun c' i v ex => ?_⟩)
        · have h1 := (k6 198 0 (Or.inl ⟨by omega, by omega, rfl⟩)).1
          rw [hu_g198, hu_g198, nn_gk (by omega), Bm] at h1
          rw [nn_gn (by omega), nb_xx]; exact h1
        · rw [hu_gw v (by omega) (by unfold hm_sl; omega), (k6 c' i v).1, ← (k6 c' i v).2.1]
          exact (hu_gx (d := 198) (e := 0) v (by omega) (fun h => ex h.1) rfl).symm
      · rw [if_pos (by omega)]
        exact hu_deed_t b3 b1 (by rw [xo _ _ (by omega) (by omega) (by omega), nn_gk (by omega)]) (by rw [xo _ _ (by omega) (by omega) (by omega), nn_gk (by omega)]) (by rw [xo _ _ (by omega) (by omega) (by omega), nn_gk (by omega)]) (fun c' i v => hu_gw v (by omega) (by unfold hm_sl; omega)) (fun c' i v => hu_gw v (by omega) (by unfold hm_sl; omega)) (k5 j (by omega))
  · exact ⟨-1, sx, hq_si sm 174 0 0, by simp only [f_X11_bar, e1, Option.bind_some, if_true], by simp only [f_X12_bar, nn_pi, e2, Option.bind_some, if_true], R2⟩
theorem hs_op_43 (hc : hc_loc HC) (hN : 300 < N) : hq_Sim (hR HC) (f_X11_undo N) (f_X12_undo N) := fun sx sm R => by
  have R2 := hR_th hc (x := 0) R
  obtain ⟨nc, nl, ng, nt, t, bar, fr, to, on, TT⟩ := R.2.2.2.2.2
  have TT0 := TT
  obtain ⟨⟨t1, t2, t3⟩, Te, ⟨X, M, S, F, B, Bl⟩, W, Fa, Im, n, hn, u1, u2, u3⟩ := TT
  obtain ⟨⟨b1, b2, b3, b4⟩, -⟩ := Te
  have v2 : hq_gi (hq_si sm 174 0 0) 174 48 = Int32.ofNat n := by rw [nn_gn (by omega)]; exact u2
  have z0 := nb_eq0 (show n < 2147483648 by omega)
  by_cases q0 : n = 0
  · exact ⟨-1, sx, hq_si sm 174 0 0, by simp only [f_X11_undo, u1, z0, if_pos q0], by simp only [f_X12_undo, nn_pi, Option.bind_some, v2, z0, if_pos q0], R2⟩
  · obtain ⟨m, rfl⟩ : ∃ m, n = m + 1 := ⟨n - 1, by omega⟩
    have c0 : (0 : Int32) < Int32.ofNat (m + 1) := by rw [nb_0, nn_lt (by omega) (by omega)]; omega
    -- the class takes the latest
    let z : hq_S := hq_si (hq_si (hq_si (hq_si sx 170 0 (Int32.ofNat m)) 170 4 (hq_gi sx 171 m)) 170 5 (hq_gi sx 172 m)) 170 6 (hq_gi sx 173 m)
    have tk : f_X1_takeLatest N sx = some z := by
      have ld : ∀ (s : hq_S) (c : Nat), hq_ld s c 20 (Int32.ofNat m) = some (hq_gi s c m) := fun s c => nn_ld (by omega) (by omega)
      simp only [f_X1_takeLatest, u1, if_pos c0, nn_pi, Option.bind_some, nn_pred, nn_g1, ld, nn_gk (show ¬ 171 = 170 by decide), nn_gk (show ¬ 172 = 170 by decide), nn_gk (show ¬ 173 = 170 by decide), nn_gn (show ¬ 0 = 4 by decide), nn_gn (show ¬ 0 = 5 by decide)]
      rfl
    have z4 : hq_gi z 170 4 = hq_gi sx 171 m := by show hq_gi (hq_si _ 170 6 _) 170 4 = _; rw [nn_gn (by omega), nn_gn (by omega), nn_g1]
    have z5 : hq_gi z 170 5 = hq_gi sx 172 m := by show hq_gi (hq_si _ 170 6 _) 170 5 = _; rw [nn_gn (by omega), nn_g1]
    have z6 : hq_gi z 170 6 = hq_gi sx 173 m := by show hq_gi (hq_si _ 170 6 _) 170 6 = _; rw [nn_g1]
    have zz : hq_gi z 170 0 = Int32.ofNat m := by show hq_gi (hq_si _ 170 6 _) 170 0 = _; rw [nn_gn (by omega), nn_gn (by omega), nn_gn (by omega), nn_g1]
    have zo : ∀ c i, ¬ c = 170 → hq_gi z c i = hq_gi sx c i := fun c i h => by show hq_gi (hq_si _ 170 6 _) c i = _; rw [nn_gk h, nn_gk h, nn_gk h, nn_gk h]
    -- the reference takes its town
    obtain ⟨sm1, e2, k2⟩ := hk_copies (N := N) (a := 0) (b := 3 + m) (by omega) (by omega) (by omega) (by omega) (hq_si (hq_si sm 174 0 0) 174 48 (Int32.ofNat m))
    have ea : (3 : Int32) + Int32.ofNat m = Int32.ofNat (3 + m) := nb_add 3 m
    have e2 : f_X12_copies N 0 (Int32.ofNat (3 + m)) (hq_si (hq_si sm 174 0 0) 174 48 (Int32.ofNat m)) = some sm1 := e2
    have e48 : hq_gi sm1 174 48 = Int32.ofNat m := by rw [k2.1 _ _ (by unfold hm_sl; omega), nn_g1]
    have nz : ¬ Int32.ofNat (m + 1) = 0 := by rw [z0]; omega
    have r2 : f_X12_undo N sm = some (Int32.ofNat m, sm1) := by
      simp only [f_X12_undo, nn_pi, Option.bind_some, v2, if_neg nz, nn_pred, nn_g1, ea, e2, e48]
    have km := f_X12_undo_fw r2
    have Id := hr_idle_kp (km.kp (by decide)) R.2.2.1
    have gb : ∀ a c i, hu_v c i → hu_g (hq_si (hq_si sm 174 0 0) 174 48 (Int32.ofNat m)) a c i = hu_g sm a c i := fun a c i v => hu_g_of v fun c' j' h => by rw [nn_gk (by unfold hm_sl at h; omega), nn_gk (by unfold hm_sl at h; omega)]
    have g0 : ∀ c i, hu_v c i → hu_g sm1 0 c i = hu_g sm (3 + m) c i := fun c i v => ((hu_gM k2 v).1).trans (gb _ c i v)
    have ga : ∀ a c i, ¬ a = 0 → hu_v c i → hu_g sm1 a c i = hu_g sm a c i := fun a c i h v => ((hu_gM k2 v).2 a h).trans (gb _ c i v)
    have eb : ∀ i, i < nt → hn_bold sm1 i = hn_bold sm i := fun i hi => by rw [hn_bold_i Id (by omega), hn_bold_i R.2.2.1 (by omega), (km 189 i rfl).1]
    -- all but what was undone, whatever it was
    have fin : ∀ (sxF : hq_S) (bar' : Nat), f_X11_undo N sx = some (Int32.ofNat m, sxF) → hl_S 103 nc (ly_nx fr to on bar' false nl) sxF → (∀ a b, a < nc → b < nc → hq_gi sxF 105 (10 * a + b) = Int32.ofNat (bf_far (ly_nx fr to on bar' false nl) nc a b)) → hq_gi sm1 198 0 = Int32.ofNat bar' → bar' < 1048576 → hn_N nc ng nt 76 0 sxF sm1 → hq_gi sxF 170 0 = Int32.ofNat m → (∀ c i, 171 ≤ c → c ≤ 173 → hq_gi sxF c i = hq_gi sx c i) → ∃ v sx' sm', f_X11_undo N sx = some (v, sx') ∧ f_X12_undo N sm = some (v, sm') ∧ hR HC sx' sm' := by
      intro sxF bar' r1 S' F' B' Bl' W' hd0 hdc
      have kx := f_X11_undo_fw r1
      refine ⟨_, _, _, r1, r2, hR_put hc R (hr_tape_kp (kx.kp (by decide)) (km.kp (by decide)) R.1) (hr_flt_kp (kx.kp (by decide)) (km.kp (by decide)) R.2.1) Id (kx.kp (by decide)) (hr_T_new (bar' := bar') (kx.kp (by decide)) (km.kp (by decide)) TT0 S' F' ⟨B', Bl'⟩ W' (hr_facts_kp (kx.kp (by decide)) (km.kp (by decide)) Fa) ?_ ?_)⟩
      · refine hr_img_k b1 b3 b4 (fun q i h1 h2 => ?_) (kx 85 1 rfl).2.1 (kx 0 7 rfl).1 (fun q i h => hu_cell (fun c i v => ga 2 c i (by omega) v) h) (km 174 47 rfl).1 (fun i => (km 185 i rfl).1) eb Im
        rcases (show q = 85 ∨ q = 86 ∨ q = 87 ∨ q = 88 ∨ q = 89 ∨ q = 90 ∨ q = 91 ∨ q = 92 ∨ q = 93 by omega) with rfl | rfl | rfl | rfl | rfl | rfl | rfl | rfl | rfl
        all_goals exact (kx _ i rfl).1
      · refine ⟨m, by omega, hd0, e48, fun j hj => ?_⟩
        have d := u3 j (by omega)
        rw [if_pos (by omega)] at d
        refine hu_deed_t b3 b1 (hdc 171 j (by omega) (by omega)) (hdc 172 j (by omega) (by omega)) (hdc 173 j (by omega) (by omega)) (fun c i v => ga _ c i (by omega) v) (fun c i v => ?_) d
        by_cases qj : j + 1 < m
        · rw [if_pos qj]; exact ga _ c i (by omega) v
        · rw [if_neg qj, g0 c i v, show 3 + m = 4 + j by omega]
    have d := u3 m (by omega)
    rw [if_neg (by omega)] at d
    have nz1 : ¬ hq_gi sx 170 0 = 0 := by rw [u1]; exact nz
    have Szz : ∀ (s : hq_S), (∀ i, hq_gi s 103 i = hq_gi sx 103 i ∧ hq_gi s 104 i = hq_gi sx 104 i ∧ hq_gi s 105 i = hq_gi sx 105 i) → hl_S 103 nc (ly_nx fr to on bar false nl) s ∧ ∀ a b, a < nc → b < nc → hq_gi s 105 (10 * a + b) = Int32.ofNat (bf_far (ly_nx fr to on bar false nl) nc a b) := fun s h => hr_str_k h S F
    rcases d with ⟨g, e, q1, q2, q3, q4, q5, q6, q7⟩ | ⟨w, d, q1, q2, q3, q4, q5, q6, q7⟩ | ⟨p, e, q1, q2, q3, q4, q5, q6, q7⟩
    · have st : hq_st z 78 3 (Int32.ofNat g) (Int32.ofNat e) = some (hq_si z 78 g (Int32.ofNat e)) := nn_st (by omega) (by omega)
      have r1 : f_X11_undo N sx = some (Int32.ofNat m, hq_si z 78 g (Int32.ofNat e)) := by
        simp only [f_X11_undo, f_X11_undo_J113, if_neg nz1, tk, Option.bind_some, z4, z5, z6, q3, q4, q5, if_true, st, nn_gk (show ¬ 170 = 78 by decide), zz]
      have SF := Szz (hq_si z 78 g (Int32.ofNat e)) (fun i => ⟨by rw [nn_gk (by omega)]; exact zo _ _ (by omega), by rw [nn_gk (by omega)]; exact zo _ _ (by omega), by rw [nn_gk (by omega)]; exact zo _ _ (by omega)⟩)
      have W1 := hn_guard (i := g) (b := e) (Or.inl rfl) q1 q2 W
      have gsl := hu_slg.mp q7
      have W2 : hn_N nc ng nt 76 0 (hq_si z 78 g (Int32.ofNat e)) sm1 := hn_N_k (sx := hq_si sx (76 + 2) g (Int32.ofNat e)) (sm := hq_si sm 200 (3 * 0 + g) (Int32.ofNat e)) b1 b3 b4 (fun q i h1 h2 => by
          rw [nb_ii (s := z), nb_ii (s := sx)]
          by_cases h : q = 78 ∧ i = g
          · rw [if_pos h, if_pos h]
          · rw [if_neg h, if_neg h]; exact zo q i (by omega)) rfl (fun c i h => hu_cell (s := hq_si sm 200 (3 * 0 + g) (Int32.ofNat e)) (fun c i v => by
          rw [g0 c i v]
          by_cases h : c = 200 ∧ i = g
          · rw [h.1, h.2, hu_g200, hu_g200, q6, nn_g1]
          · rw [gsl c i v h]
            exact (hu_gx (d := 200) (e := g) v (by omega) h (by rw [if_neg (by omega), if_pos rfl])).symm) h) (fun i => (km 185 i rfl).1.trans (nn_gk (by omega)).symm) (fun i hi => (eb i hi).trans (by
          unfold hn_bold
          rw [nn_gk (by omega), nn_gk (by omega), nn_gk (by omega)])) W1
      refine fin _ bar r1 SF.1 SF.2 ?_ Bl W2 (by rw [nn_gk (by omega)]; exact zz) (fun c i h1 h2 => by rw [nn_gk (by omega)]; exact zo c i (by omega))
      have h198 := g0 198 0 (Or.inl ⟨by omega, by omega, rfl⟩)
      rw [gsl 198 0 (Or.inl ⟨by omega, by omega, rfl⟩) (by omega), hu_g198, hu_g198] at h198
      rw [h198]; exact B
    · have db : d = bar := by
        rw [B] at q6
        exact ((nn_inj (by omega) (by omega)).mp q6).symm
      subst db
      have nl' := nb_xlt Bl (show w < 20 by omega)
      obtain ⟨d', hd', dx, dm⟩ := W.2.2.1
      have dd : d' = d := by
        rw [B] at dm
        exact ((nn_inj (by omega) (by omega)).mp dm).symm
      subst dd
      have X1 : hl_X t nl nc fr to on z := by
        have ex : ∀ c i, c < 76 → hq_gi z c i = hq_gi sx c i := fun c i hc => zo c i (by omega)
        have ht : t ≤ 25 := by omega
        unfold hl_X at X ⊢
        simp (disch := omega) only [ex]
        exact X
      have xe : hq_gi z 76 2 ^^^ ((1 : Int32) <<< (Int32.ofNat w &&& 31)) = Int32.ofNat (d' ^^^ 2 ^ w) := by rw [zo _ _ (by omega), dx, nb_one (by omega), nb_xor]
      obtain ⟨g, f, tb, bg, bf⟩ := hs_turn (N := N) (w := w) (sx := z) hN t1 t2 X1 nl' xe
      have x170 : hq_gi (hq_w (hq_w (hq_si (hq_si z 76 2 (Int32.ofNat (d' ^^^ 2 ^ w))) 103 0 (Int32.ofNat nc)) (103 + 1) g) (103 + 2) f) 170 0 = Int32.ofNat m := by rw [hw_n (by omega), hw_n (by omega), nn_gk (by omega), nn_gk (by omega)]; exact zz
      have d10 : ¬ (1 : Int32) = 0 := by decide
      have r1 : f_X11_undo N sx = some (Int32.ofNat m, hq_w (hq_w (hq_si (hq_si z 76 2 (Int32.ofNat (d' ^^^ 2 ^ w))) 103 0 (Int32.ofNat nc)) (103 + 1) g) (103 + 2) f) := by
        simp only [f_X11_undo, f_X11_undo_J113, if_neg nz1, tk, Option.bind_some, z4, z5, q3, q4, if_neg d10, if_true, tb, x170]
      have W1 := hn_barred (d := d' ^^^ 2 ^ w) (Or.inl rfl) nl' W
      have gsl := hu_slg.mp q7
      have xo : ∀ c i, ¬ c = 103 → ¬ c = 104 → ¬ c = 105 → hq_gi (hq_w (hq_w (hq_si (hq_si z 76 2 (Int32.ofNat (d' ^^^ 2 ^ w))) 103 0 (Int32.ofNat nc)) (103 + 1) g) (103 + 2) f) c i = hq_gi (hq_si z 76 2 (Int32.ofNat (d' ^^^ 2 ^ w))) c i := fun c i h1 h2 h3 => by rw [hw_n h3, hw_n h2, nn_gk h1]
      have W2 : hn_N nc ng nt 76 0 (hq_w (hq_w (hq_si (hq_si z 76 2 (Int32.ofNat (d' ^^^ 2 ^ w))) 103 0 (Int32.ofNat nc)) (103 + 1) g) (103 + 2) f) sm1 := hn_N_k (sx := hq_si sx 76 2 (Int32.ofNat (d' ^^^ 2 ^ w))) (sm := hq_si sm 198 0 (Int32.ofNat (d' ^^^ 2 ^ w))) b1 b3 b4 (fun q i h1 h2 => by
          rw [xo q i (by omega) (by omega) (by omega), nb_ii (s := z), nb_ii (s := sx)]
          by_cases h : q = 76 ∧ i = 2
          · rw [if_pos h, if_pos h]
          · rw [if_neg h, if_neg h]; exact zo q i (by omega)) rfl (fun c i h => hu_cell (s := hq_si sm 198 0 (Int32.ofNat (d' ^^^ 2 ^ w))) (fun c i v => by
          rw [g0 c i v]
          by_cases h : c = 198
          · rw [h, hu_g198, hu_g198, q5, nn_g1]
          · rw [gsl c i v h]
            exact (hu_gx (d := 198) (e := 0) v (by omega) (fun h' => h h'.1) rfl).symm) h) (fun i => (km 185 i rfl).1.trans (nn_gk (by omega)).symm) (fun i hi => (eb i hi).trans (by
          unfold hn_bold
          rw [nn_gk (by omega), nn_gk (by omega), nn_gk (by omega)])) W1
      refine fin _ (d' ^^^ 2 ^ w) r1 ⟨?_, fun c hc' => ?_⟩ (fun a b ha hb => ?_) ?_ nl' W2 x170 (fun c i h1 h2 => by rw [xo c i (by omega) (by omega) (by omega), nn_gk (by omega)]; exact zo c i (by omega))
      · rw [hw_n (by omega), hw_n (by omega), nn_g1]
      · rw [hw_n (by omega), hw_g]; exact bg c hc'
      · rw [show (105 : Nat) = 103 + 2 from rfl, hw_g]; exact bf a b ha hb
      · have h198 := g0 198 0 (Or.inl ⟨by omega, by omega, rfl⟩)
        rw [hu_g198, hu_g198, q5] at h198
        exact h198
    · have st : hq_st z 77 10 (Int32.ofNat p) (Int32.ofNat e) = some (hq_si z 77 p (Int32.ofNat e)) := nn_st (by omega) (by omega)
      have d20 : ¬ (2 : Int32) = 0 := by decide
      have d21 : ¬ (2 : Int32) = 1 := by decide
      have r1 : f_X11_undo N sx = some (Int32.ofNat m, hq_si z 77 p (Int32.ofNat e)) := by
        simp only [f_X11_undo, f_X11_undo_J113, if_neg nz1, tk, Option.bind_some, z4, z5, z6, q3, q4, q5, if_neg d20, if_neg d21, st, nn_gk (show ¬ 170 = 77 by decide), zz]
      have SF := Szz (hq_si z 77 p (Int32.ofNat e)) (fun i => ⟨by rw [nn_gk (by omega)]; exact zo _ _ (by omega), by rw [nn_gk (by omega)]; exact zo _ _ (by omega), by rw [nn_gk (by omega)]; exact zo _ _ (by omega)⟩)
      have W1 := hn_loot (i := p) (b := e) (Or.inl rfl) b1 q1 q2 W
      have gsl := hu_slg.mp q7
      have W2 : hn_N nc ng nt 76 0 (hq_si z 77 p (Int32.ofNat e)) sm1 := hn_N_k (sx := hq_si sx (76 + 1) p (Int32.ofNat e)) (sm := hq_si sm 199 (10 * 0 + p) (Int32.ofNat e)) b1 b3 b4 (fun q i h1 h2 => by
          rw [nb_ii (s := z), nb_ii (s := sx)]
          by_cases h : q = 77 ∧ i = p
          · rw [if_pos h, if_pos h]
          · rw [if_neg h, if_neg h]; exact zo q i (by omega)) rfl (fun c i h => hu_cell (s := hq_si sm 199 (10 * 0 + p) (Int32.ofNat e)) (fun c i v => by
          rw [g0 c i v]
          by_cases h : c = 199 ∧ i = p
          · rw [h.1, h.2, hu_g199, hu_g199, q6, nn_g1]
          · rw [gsl c i v h]
            exact (hu_gx (d := 199) (e := p) v (by omega) h (by rw [if_pos rfl])).symm) h) (fun i => (km 185 i rfl).1.trans (nn_gk (by omega)).symm) (fun i hi => (eb i hi).trans (by
          unfold hn_bold
          rw [nn_gk (by omega), nn_gk (by omega), nn_gk (by omega)])) W1
      refine fin _ bar r1 SF.1 SF.2 ?_ Bl W2 (by rw [nn_gk (by omega)]; exact zz) (fun c i h1 h2 => by rw [nn_gk (by omega)]; exact zo c i (by omega))
      have h198 := g0 198 0 (Or.inl ⟨by omega, by omega, rfl⟩)
      rw [gsl 198 0 (Or.inl ⟨by omega, by omega, rfl⟩) (by omega), hu_g198, hu_g198] at h198
      rw [h198]; exact B
end
