/-! SEE -/
theorem hs_addSight {N k : Nat} {sx : hq_S} {a1 a2 a3 a4 : Int32} (hk : k < 24) (h1 : hq_gi sx 163 0 = Int32.ofNat k) : f_X2_addSight N a1 a2 a3 a4 sx = some (Int32.ofNat k, hq_si (hq_si (hq_si (hq_si (hq_si (hq_si sx 164 k a1) 165 k a2) 166 k a3) 167 k (hq_nar .boolean a4)) 168 k (-1)) 163 0 (Int32.ofNat (k + 1))) := by
  have d1 : Int32.ofNat k < 24 := (nn_lt (by omega) (by omega : 24 < 2147483648)).mpr (by omega)
  have st1 : ∀ {s : hq_S} {q : Nat} {x : Int32}, hq_st s q 24 (Int32.ofNat k) x = some (hq_si s q k x) := fun {s q x} => nn_st (by omega) (by omega)
  have g : ∀ {s : hq_S} {q : Nat} {x : Int32}, ¬ 163 = q → hq_gi (hq_si s q k x) 163 0 = hq_gi s 163 0 := fun {s q x} hq => nn_gk hq
  simp only [f_X2_addSight, h1, if_pos d1, st1, Option.bind_some, nn_pi, g (show ¬ 163 = 164 by decide), g (show ¬ 163 = 165 by decide), g (show ¬ 163 = 166 by decide), g (show ¬ 163 = 167 by decide), g (show ¬ 163 = 168 by decide), nn_g1, nn_succ, nn_pred]
theorem hs_see {N nc nt t : Nat} {sx sm : hq_S} (hnc : nc ≤ 10) (hnt : nt ≤ 4) (ht : hq_gr sx 0 2 = t) (h2 : t = 2 ∨ t = 25) (c1 : hq_gi sx t 0 = Int32.ofNat nc) (c2 : hq_gi sm 176 0 = Int32.ofNat nc) (t1 : hq_gi sx t 11 = Int32.ofNat nt) (t2 : hq_gi sm 176 3 = Int32.ofNat nt) (h : hr_facts nc nt sx sm) (a1 a2 a3 a4 : Int32) (h4 : a4 = 0 ∨ a4 = 1) : ∃ v sx' sm', f_X11_see N a1 a2 a3 a4 sx = some (v, sx') ∧ f_X12_see N a1 a2 a3 a4 sm = some (v, sm') ∧ hr_facts nc nt sx' sm' := by
  obtain ⟨k, hk, k1, k2, k3, k4⟩ := h
  have hth : hr_facts nc nt sx (hq_si sm 174 0 0) := ⟨k, hk, k1, by simp [nn_get, k2], by simpa [nn_get] using k3, fun i hi => by simpa [nn_get] using k4 i hi⟩
  have iT := hs_isThief (N := N) (a := a2) (sx := sx) (sm := hq_si sm 174 0 0) (by omega) ht h2 t1 ((hs_th (by omega)).trans t2)
  have iC := hs_isCorner (N := N) (a := a3) (sx := sx) (sm := hq_si sm 174 0 0) (by omega) ht h2 c1 ((hs_th (by omega)).trans c2)
  have d0 : ¬ (1 : Int32) = 0 := by decide
  by_cases q1 : a1 < 1
  · exact ⟨-1, sx, _, by simp only [f_X11_see, if_pos q1], by simp only [f_X12_see, nn_pi, Option.bind_some, if_pos q1], hth⟩
  by_cases q2 : (60 : Int32) < a1
  · exact ⟨-1, sx, _, by simp only [f_X11_see, if_neg q1, if_pos q2], by simp only [f_X12_see, nn_pi, Option.bind_some, if_neg q1, if_pos q2], hth⟩
  rcases iT with ⟨j, hj, rfl, e1, e2⟩ | ⟨e1, e2⟩
  · rcases iC with ⟨l, hl, rfl, e3, e4⟩ | ⟨e3, e4⟩
    · by_cases q3 : k = 24
      · have d1 : ¬ Int32.ofNat k < 24 := by
          rw [show (24 : Int32) = Int32.ofNat 24 from rfl, nn_lt (by omega) (by omega)]; omega
        have d2 : Int32.ofNat k = 24 := by rw [q3]; rfl
        exact ⟨-1, sx, hq_si sm 174 0 0, by simp only [f_X11_see, f_X2_addSight, if_neg q1, if_neg q2, e1, Option.bind_some, if_neg d0, e3, k1, if_neg d1], by simp only [f_X12_see, nn_pi, Option.bind_some, if_neg q1, if_neg q2, e2, if_neg d0, e4, nn_gn (show ¬ 74 = 0 by decide), k2, if_pos d2], hth⟩
      · have d2 : ¬ Int32.ofNat k = 24 := fun q => q3 ((nn_inj (by omega) (by omega : 24 < 2147483648)).mp q)
        have st1 : ∀ {s : hq_S} {q : Nat} {x : Int32}, hq_st s q 24 (Int32.ofNat k) x = some (hq_si s q k x) := fun {s q x} => nn_st (by omega) (by omega)
        have g : ∀ {s : hq_S} {q : Nat} {x : Int32}, ¬ 174 = q → hq_gi (hq_si s q k x) 174 74 = hq_gi s 174 74 := fun {s q x} hq => nn_gk hq
        have b1 : 1 ≤ a1.toInt := by
          have : ¬ a1.toInt < (1 : Int32).toInt := fun q => q1 (Int32.lt_iff_toInt_lt.mpr q)
          rw [show (1 : Int32).toInt = 1 from rfl] at this
          omega
        have b2 : a1.toInt ≤ 60 := by
          have : ¬ (60 : Int32).toInt < a1.toInt := fun q => q2 (Int32.lt_iff_toInt_lt.mpr q)
          rw [show (60 : Int32).toInt = 60 from rfl] at this
          omega
        obtain ⟨a, ha, rfl⟩ := nn_of (x := a1) (by omega)
        rw [nn_toInt ha] at b1 b2
        refine ⟨Int32.ofNat k, hq_si (hq_si (hq_si (hq_si (hq_si (hq_si sx 164 k (Int32.ofNat a)) 165 k (Int32.ofNat j)) 166 k (Int32.ofNat l)) 167 k (hq_nar .boolean a4)) 168 k (-1)) 163 0 (Int32.ofNat (k + 1)), hq_si (hq_si (hq_si (hq_si (hq_si (hq_si (hq_si sm 174 0 0) 224 k (Int32.ofNat a)) 225 k (Int32.ofNat j)) 226 k (Int32.ofNat l)) 227 k (hq_nar .boolean a4)) 228 k (-1)) 174 74 (Int32.ofNat (k + 1)), ?_, ?_, k + 1, by omega, nn_g1, nn_g1, ?_, fun i hi => ?_⟩
        · simp only [f_X11_see, if_neg q1, if_neg q2, e1, Option.bind_some, if_neg d0, e3, hs_addSight (by omega) k1]
        · simp only [f_X12_see, nn_pi, Option.bind_some, if_neg q1, if_neg q2, e2, if_neg d0, e4, nn_gn (show ¬ 74 = 0 by decide), k2, if_neg d2, st1, g (show ¬ 174 = 224 by decide), g (show ¬ 174 = 225 by decide), g (show ¬ 174 = 226 by decide), g (show ¬ 174 = 227 by decide), g (show ¬ 174 = 228 by decide), nn_g1, nn_succ, nn_pred]
        · have r := k3
          rcases r with r | ⟨n, n1, n2, n3⟩
          · exact Or.inl (by simpa [nn_get] using r)
          · exact Or.inr ⟨n, by omega, by simpa [nn_get] using n2, by simpa [nn_get] using n3⟩
        · by_cases hik : i = k
          · subst hik
            refine Or.inr ⟨by simp [nn_get], by simp [nn_get], ⟨a, by omega, by omega, by simp [nn_get], by simp [nn_get]⟩, ⟨j, hj, by simp [nn_get], by simp [nn_get]⟩, ⟨l, hl, by simp [nn_get], by simp [nn_get]⟩, ?_⟩
            rcases h4 with rfl | rfl
            · exact ⟨0, by omega, by simp [nn_get]; rfl, by simp [nn_get]; rfl⟩
            · exact ⟨1, by omega, by simp [nn_get]; rfl, by simp [nn_get]; rfl⟩
          · simpa [nn_get, hik] using k4 i (by omega)
    · exact ⟨-1, sx, hq_si sm 174 0 0, by simp only [f_X11_see, if_neg q1, if_neg q2, e1, Option.bind_some, if_neg d0, e3, if_pos], by simp only [f_X12_see, nn_pi, Option.bind_some, if_neg q1, if_neg q2, e2, if_neg d0, e4, if_pos], hth⟩
  · exact ⟨-1, sx, hq_si sm 174 0 0, by simp only [f_X11_see, if_neg q1, if_neg q2, e1, Option.bind_some, if_pos], by simp only [f_X12_see, nn_pi, Option.bind_some, if_neg q1, if_neg q2, e2, if_pos], hth⟩
