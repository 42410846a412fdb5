/-! FACTS: known, strike -/
theorem nn_get {s : hq_S} {k i k' i' : Nat} {x : Int32} : hq_gi (hq_si s k i x) k' i' = if k' = k ∧ i' = i then x else hq_gi s k' i' := rfl
theorem nn_pred (a : Nat) : Int32.ofNat (a + 1) - (1 : Int32) = Int32.ofNat a := by
  rw [← nn_succ, Int32.add_sub_cancel]
theorem hs_known {N nc nt : Nat} {sx sm : hq_S} (h : hr_facts nc nt sx sm) (a : Int32) : ∃ v sx' sm', f_X11_known N a sx = some (v, sx') ∧ f_X12_known N a sm = some (v, sm') ∧ hr_facts nc nt sx' sm' := by
  obtain ⟨k, hk, h1, h2, h3, h4⟩ := h
  have r0 : mm_rfit (mm_ret mc_X11_known) 0 = true := rfl
  have r1 : mm_rfit (mm_ret mc_X11_known) 1 = true := rfl
  have hth : hr_facts nc nt sx (hq_si sm 174 0 0) := ⟨k, hk, h1, by simp [nn_get, h2], by simpa [nn_get] using h3, fun i hi => by simpa [nn_get] using h4 i hi⟩
  by_cases c0 : a < -1
  · exact ⟨0, sx, hq_si sm 174 0 0, by simp [f_X11_known, f_X2_knowBy, c0, r0], by simp [f_X12_known, nn_pi, c0], hth⟩
  · by_cases c1 : Int32.ofNat k < a
    · exact ⟨0, sx, hq_si sm 174 0 0, by simp [f_X11_known, f_X2_knowBy, c0, c1, h1, r0], by simp [f_X12_known, nn_pi, nn_get, c0, c1, h2], hth⟩
    · refine ⟨1, hq_si sx 163 1 a, hq_si (hq_si sm 174 0 0) 174 75 a, by simp [f_X11_known, f_X2_knowBy, nn_pi, c0, c1, h1, r1], by simp [f_X12_known, nn_pi, nn_get, c0, c1, h2], k, hk, by simp [nn_get, h1], by simp [nn_get, h2], ?_, fun i hi => by simpa [nn_get] using h4 i hi⟩
      rw [nn_g1, nn_g1]
      have t0 : ¬ a.toInt < -1 := fun q => c0 (Int32.lt_iff_toInt_lt.mpr q)
      have t1 : ¬ (Int32.ofNat k).toInt < a.toInt := fun q => c1 (Int32.lt_iff_toInt_lt.mpr q)
      rw [nn_toInt (by omega)] at t1
      by_cases hm : a.toInt = -1
      · have : a = -1 := Int32.toInt_inj.mp hm
        exact Or.inl ⟨this, this⟩
      · obtain ⟨j, hj, rfl⟩ := nn_of (x := a) (by omega)
        rw [nn_toInt hj] at t1
        exact Or.inr ⟨j, by omega, rfl, rfl⟩
theorem hs_strike {N nc nt : Nat} {sx sm : hq_S} (h : hr_facts nc nt sx sm) (a : Int32) : ∃ v sx' sm', f_X11_strike N a sx = some (v, sx') ∧ f_X12_strike N a sm = some (v, sm') ∧ hr_facts nc nt sx' sm' := by
  obtain ⟨k, hk, h1, h2, h3, h4⟩ := h
  have hth : hr_facts nc nt sx (hq_si sm 174 0 0) := ⟨k, hk, h1, by simp [nn_get, h2], by simpa [nn_get] using h3, fun i hi => by simpa [nn_get] using h4 i hi⟩
  rcases nn_range (a := a) (n := k) (by omega) with ⟨j, hj, rfl, c0, c1⟩ | c0 | ⟨c0, c1⟩
  · by_cases c2 : k = 24
    · have d1 : ¬ Int32.ofNat k < 24 := by
        rw [show (24 : Int32) = Int32.ofNat 24 from rfl, nn_lt (by omega) (by omega)]; omega
      have d2 : Int32.ofNat k = 24 := by rw [c2]; rfl
      exact ⟨-1, sx, hq_si sm 174 0 0, by simp only [f_X11_strike, f_X2_addStrike, h1, if_neg c0, if_pos c1, if_neg d1, Option.bind_some], by simp only [f_X12_strike, nn_pi, Option.bind_some, nn_gn (show ¬ 74 = 0 by decide), h2, if_neg c0, if_pos c1, if_pos d2], hth⟩
    · have d1 : Int32.ofNat k < 24 := (nn_lt (by omega) (by omega : 24 < 2147483648)).mpr (by omega)
      have d2 : ¬ Int32.ofNat k = 24 := fun q => c2 ((nn_inj (by omega) (by omega : 24 < 2147483648)).mp q)
      have st1 : ∀ {s : hq_S} {q : Nat} {x : Int32}, hq_st s q 24 (Int32.ofNat k) x = some (hq_si s q k x) := fun {s q x} => nn_st (by omega) (by omega)
      refine ⟨Int32.ofNat k, hq_si (hq_si sx 168 k (Int32.ofNat j)) 163 0 (Int32.ofNat (k + 1)), hq_si (hq_si (hq_si sm 174 0 0) 228 k (Int32.ofNat j)) 174 74 (Int32.ofNat (k + 1)), ?_, ?_, k + 1, by omega, nn_g1, nn_g1, ?_, fun i hi => ?_⟩
      · simp only [f_X11_strike, f_X2_addStrike, h1, if_neg c0, if_pos c1, if_pos d1, st1, Option.bind_some, nn_pi, nn_g1, nn_gk (show ¬ 163 = 168 by decide), nn_succ, nn_pred]
      · simp only [f_X12_strike, nn_pi, Option.bind_some, nn_gn (show ¬ 74 = 0 by decide), h2, if_neg c0, if_pos c1, if_neg d2, st1, nn_g1, nn_gk (show ¬ 174 = 228 by decide), nn_succ, nn_pred]
      · have e : ∀ x : Int32, hq_gi (hq_si (hq_si sx 168 k x) 163 0 (Int32.ofNat (k + 1))) 163 1 = hq_gi sx 163 1 := fun x => by simp [nn_get]
        have e' : ∀ x : Int32, hq_gi (hq_si (hq_si (hq_si sm 174 0 0) 228 k x) 174 74 (Int32.ofNat (k + 1))) 174 75 = hq_gi sm 174 75 := fun x => by simp [nn_get]
        rw [e, e']
        rcases h3 with h3 | ⟨n, n1, n2, n3⟩
        · exact Or.inl h3
        · exact Or.inr ⟨n, by omega, n2, n3⟩
      · by_cases hik : i = k
        · subst hik
          exact Or.inl ⟨j, hj, by simp [nn_get], by simp [nn_get]⟩
        · simpa [nn_get, hik] using h4 i (by omega)
  · exact ⟨-1, sx, hq_si sm 174 0 0, by simp [f_X11_strike, f_X2_addStrike, c0], by simp [f_X12_strike, nn_pi, c0], hth⟩
  · exact ⟨-1, sx, hq_si sm 174 0 0, by simp [f_X11_strike, f_X2_addStrike, c0, c1, h1], by simp [f_X12_strike, nn_pi, nn_get, c0, c1, h2], hth⟩
