/-! NAMED: both look through the same rows -/
theorem nn_ldiA {s : hq_S} {k L j : Nat} (hk : hq_alI k = some L) (h : j < L) (hL : L < 2147483648) : hq_ldiA s k (Int32.ofNat j) = some (hq_gi s k j) := by
  unfold hq_ldiA
  rw [hk]
  exact nn_ld h hL
theorem hs_find {N n kx km Lx Lm : Nat} {x : Int32} {sx sm : hq_S} (hx : hq_alI kx = some Lx) (hx' : hq_alA kx = some (Int32.ofNat Lx)) (hm : hq_alI km = some Lm) (h1 : n ≤ Lx) (h2 : n ≤ Lm) (hLx : Lx < 2147483648) (hLm : Lm < 2147483648) (he : ∀ i, i < n → hq_gi sx kx i = hq_gi sm km i) :
    ∀ (r j m m' : Nat), j + r = n → r < m → r < m' → ∃ v, f_X10_placeOf_L2 N m x kx (Int32.ofNat n) (Int32.ofNat j) sx = some (v, sx) ∧ f_X12_found_L3 N m' km 0 (Int32.ofNat n) x (Int32.ofNat j) sm = some (v, sm) ∧ (v = -1 ∨ ∃ i, i < n ∧ v = Int32.ofNat i) := by
  intro r
  induction r with
  | zero =>
    intro j m m' hj hm1 hm2
    obtain ⟨m, rfl⟩ : ∃ k, m = k + 1 := ⟨m - 1, by omega⟩
    obtain ⟨m', rfl⟩ : ∃ k, m' = k + 1 := ⟨m' - 1, by omega⟩
    have hj : j = n := by omega
    subst hj
    have c : ¬ Int32.ofNat j < Int32.ofNat j := by rw [nn_lt (by omega) (by omega)]; omega
    refine ⟨-1, ?_, ?_, Or.inl rfl⟩
    · show f_X10_placeOf_L2_B N (f_X10_placeOf_L2 N m) x kx (Int32.ofNat j) (Int32.ofNat j) sx = _
      simp only [f_X10_placeOf_L2_B, if_neg c]
    · show f_X12_found_L3_B N (f_X12_found_L3 N m') km 0 (Int32.ofNat j) x (Int32.ofNat j) sm = _
      simp only [f_X12_found_L3_B, if_neg c]
  | succ r ih =>
    intro j m m' hj hm1 hm2
    obtain ⟨m, rfl⟩ : ∃ k, m = k + 1 := ⟨m - 1, by omega⟩
    obtain ⟨m', rfl⟩ : ∃ k, m' = k + 1 := ⟨m' - 1, by omega⟩
    have c : Int32.ofNat j < Int32.ofNat n := (nn_lt (by omega) (by omega)).mpr (by omega)
    have c2 : Int32.ofNat j < Int32.ofNat Lx := (nn_lt (by omega) (by omega)).mpr (by omega)
    have eX : f_X10_placeOf_L2 N (m + 1) x kx (Int32.ofNat n) (Int32.ofNat j) sx = if hq_gi sm km j = x then some (Int32.ofNat j, sx) else f_X10_placeOf_L2 N m x kx (Int32.ofNat n) (Int32.ofNat (j + 1)) sx := by
      show f_X10_placeOf_L2_B N (f_X10_placeOf_L2 N m) x kx (Int32.ofNat n) (Int32.ofNat j) sx = _
      simp only [f_X10_placeOf_L2_B, if_pos c, hx', Option.bind_some, if_pos c2, nn_ldiA hx (show j < Lx by omega) hLx, he j (by omega), nn_succ]
    have eM : f_X12_found_L3 N (m' + 1) km 0 (Int32.ofNat n) x (Int32.ofNat j) sm = if hq_gi sm km j = x then some (Int32.ofNat j, sm) else f_X12_found_L3 N m' km 0 (Int32.ofNat n) x (Int32.ofNat (j + 1)) sm := by
      show f_X12_found_L3_B N (f_X12_found_L3 N m') km 0 (Int32.ofNat n) x (Int32.ofNat j) sm = _
      simp only [f_X12_found_L3_B, if_pos c, Int32.zero_add, Option.bind_some, nn_ldiA hm (show j < Lm by omega) hLm, nn_succ]
    by_cases q : hq_gi sm km j = x
    · exact ⟨Int32.ofNat j, by rw [eX, if_pos q], by rw [eM, if_pos q], Or.inr ⟨j, by omega, rfl⟩⟩
    · obtain ⟨v, a1, a2, a3⟩ := ih (j + 1) m m' (by omega) (by omega) (by omega)
      exact ⟨v, by rw [eX, if_neg q]; exact a1, by rw [eM, if_neg q]; exact a2, a3⟩
theorem hs_named {N : Nat} (hN : 100 ≤ N) {sx sm : hq_S} (h : hr_town sx sm) (a b : Int32) : ∃ v sx' sm', f_X11_named N a b sx = some (v, sx') ∧ f_X12_named N a b sm = some (v, sm') := by
  obtain ⟨nc, nl, ng, nt, t, ht, h2, T, -⟩ := h
  obtain ⟨⟨hnc, -, hng, hnt⟩, ⟨n1, n2, -, -, g1, g2, t1, t2⟩, tc, -, -, tg, tt, -⟩ := T
  have hT : hq_isT (hq_gr sx 0 2) := by rw [ht]; exact h2
  have ld : ∀ {i : Int32} {j : Nat}, i = Int32.ofNat j → j < 14 → hq_ld (hq_si sm 174 0 0) 176 14 i = some (hq_gi sm 176 j) := fun {i j} hi hj => by
    rw [hi, nn_ld hj (by omega), hs_th (by omega)]
  have al : ∀ {d L : Nat}, (d = 1 ∧ L = 10) ∨ (d = 5 ∧ L = 3) ∨ (d = 8 ∧ L = 4) → hq_alI (t + d) = some L ∧ hq_alA (t + d) = some (Int32.ofNat L) := fun {d L} hd => by
    rcases h2 with rfl | rfl <;> rcases hd with ⟨rfl, rfl⟩ | ⟨rfl, rfl⟩ | ⟨rfl, rfl⟩ <;> exact ⟨rfl, rfl⟩
  by_cases q0 : a = 0
  · obtain ⟨v, e1, e2, -⟩ := hs_find (N := N) (x := b) (sx := sx) (sm := hq_si sm 174 0 0) (kx := t + 1) (km := 177) (n := nc) (al (Or.inl ⟨rfl, rfl⟩)).1 (al (Or.inl ⟨rfl, rfl⟩)).2 (show hq_alI 177 = some 20 from rfl) (by omega) (by omega) (by omega) (by omega) (fun i hi => by rw [hs_th (by omega)]; exact (tc i hi).1) nc 0 N N (by omega) (by omega) (by omega)
    refine ⟨v, sx, hq_si sm 174 0 0, ?_, ?_⟩
    · unfold f_X11_named f_X10_placeOf
      rw [if_pos q0, if_pos hT, if_pos hT, ht, n1]
      rw [show (0 : Int32) = Int32.ofNat 0 from rfl, e1]
      rfl
    · unfold f_X12_named f_X12_found
      rw [nn_pi]
      simp only [Option.bind_some]
      rw [if_pos q0, ld (i := 0) (j := 0) rfl (by omega), n2]
      simp only [Option.bind_some]
      rw [show f_X12_found_L3 N N 177 0 (Int32.ofNat nc) b 0 (hq_si sm 174 0 0) = some (v, hq_si sm 174 0 0) from e2]
      rfl
  by_cases q1 : a = 1
  · obtain ⟨v, e1, e2, -⟩ := hs_find (N := N) (x := b) (sx := sx) (sm := hq_si sm 174 0 0) (kx := t + 5) (km := 183) (n := ng) (al (Or.inr (Or.inl ⟨rfl, rfl⟩))).1 (al (Or.inr (Or.inl ⟨rfl, rfl⟩))).2 (show hq_alI 183 = some 6 from rfl) (by omega) (by omega) (by omega) (by omega) (fun i hi => by rw [hs_th (by omega)]; exact (tg i hi).1) ng 0 N N (by omega) (by omega) (by omega)
    refine ⟨v, sx, hq_si sm 174 0 0, ?_, ?_⟩
    · unfold f_X11_named f_X10_placeOf
      rw [if_neg q0, if_pos q1, if_pos hT, if_pos hT, ht, g1]
      rw [show f_X10_placeOf_L2 N N b (t + 5) (Int32.ofNat ng) 0 sx = some (v, sx) from e1]
      rfl
    · unfold f_X12_named f_X12_found
      rw [nn_pi]
      simp only [Option.bind_some]
      rw [if_neg q0, if_pos q1, ld (i := 2) (j := 2) rfl (by omega), g2]
      simp only [Option.bind_some]
      rw [show f_X12_found_L3 N N 183 0 (Int32.ofNat ng) b 0 (hq_si sm 174 0 0) = some (v, hq_si sm 174 0 0) from e2]
      rfl
  by_cases q2 : a = 2
  · obtain ⟨v, e1, e2, -⟩ := hs_find (N := N) (x := b) (sx := sx) (sm := hq_si sm 174 0 0) (kx := t + 8) (km := 187) (n := nt) (al (Or.inr (Or.inr ⟨rfl, rfl⟩))).1 (al (Or.inr (Or.inr ⟨rfl, rfl⟩))).2 (show hq_alI 187 = some 8 from rfl) (by omega) (by omega) (by omega) (by omega) (fun i hi => by rw [hs_th (by omega)]; exact (tt i hi).1) nt 0 N N (by omega) (by omega) (by omega)
    refine ⟨v, sx, hq_si sm 174 0 0, ?_, ?_⟩
    · unfold f_X11_named f_X10_placeOf
      rw [if_neg q0, if_neg q1, if_pos q2, if_pos hT, if_pos hT, ht, t1]
      rw [show f_X10_placeOf_L2 N N b (t + 8) (Int32.ofNat nt) 0 sx = some (v, sx) from e1]
      rfl
    · unfold f_X12_named f_X12_found
      rw [nn_pi]
      simp only [Option.bind_some]
      rw [if_neg q0, if_neg q1, if_pos q2, ld (i := 3) (j := 3) rfl (by omega), t2]
      simp only [Option.bind_some]
      rw [show f_X12_found_L3 N N 187 0 (Int32.ofNat nt) b 0 (hq_si sm 174 0 0) = some (v, hq_si sm 174 0 0) from e2]
      rfl
  · refine ⟨-1, sx, hq_si sm 174 0 0, ?_, ?_⟩
    · unfold f_X11_named
      rw [if_neg q0, if_neg q1, if_neg q2]
    · unfold f_X12_named
      rw [nn_pi]
      simp only [Option.bind_some]
      rw [if_neg q0, if_neg q1, if_neg q2]
