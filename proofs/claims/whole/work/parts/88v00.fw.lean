theorem hq_st_gr {s s1 : hq_S} {k L : Nat} {i x : Int32} (h : hq_st s k L i x = some s1) {k' b' : Nat} : hq_gr s1 k' b' = hq_gr s k' b' := by
  unfold hq_st at h
  rcases mm_bif h with ⟨-, h⟩ | ⟨-, h⟩
  · cases h; rfl
  · cases h
theorem hq_stj_gr {s s1 : hq_S} {k L : Nat} {i : Int32} {x : Int64} (h : hq_stj s k L i x = some s1) {k' b' : Nat} : hq_gr s1 k' b' = hq_gr s k' b' := by
  unfold hq_stj at h
  rcases mm_bif h with ⟨-, h⟩ | ⟨-, h⟩
  · cases h; rfl
  · cases h
theorem hq_pi_gr {s s1 : hq_S} {k b c : Nat} {x : Int32} (h : hq_pi s k b c x = some s1) {k' b' : Nat} : hq_gr s1 k' b' = hq_gr s k' b' := by
  unfold hq_pi at h
  rcases mm_bif h with ⟨-, h⟩ | ⟨-, h⟩
  · cases h; rfl
  · cases h
theorem hq_cp_gr {s s1 : hq_S} {k Lk j Lj : Nat} {sp dp n : Int32} (h : hq_cp s k Lk j Lj sp dp n = some s1) {k' b' : Nat} : hq_gr s1 k' b' = hq_gr s k' b' := by
  unfold hq_cp at h
  rcases mm_bif h with ⟨-, h⟩ | ⟨-, h⟩
  · cases h; rfl
  · cases h
theorem hq_cpj_gr {s s1 : hq_S} {k Lk j Lj : Nat} {sp dp n : Int32} (h : hq_cpj s k Lk j Lj sp dp n = some s1) {k' b' : Nat} : hq_gr s1 k' b' = hq_gr s k' b' := by
  unfold hq_cpj at h
  rcases mm_bif h with ⟨-, h⟩ | ⟨-, h⟩
  · cases h; rfl
  · cases h
theorem hq_pj_gr {s s1 : hq_S} {k b : Nat} {x : Int64} (h : hq_pj s k b x = some s1) {k' b' : Nat} : hq_gr s1 k' b' = hq_gr s k' b' := by
  cases h; rfl
theorem hq_stiA_gr {s s1 : hq_S} {k : Nat} {i x : Int32} (h : hq_stiA s k i x = some s1) {k' b' : Nat} : hq_gr s1 k' b' = hq_gr s k' b' := by
  obtain ⟨L, -, h⟩ := hq_bind h
  exact hq_st_gr h
theorem hq_pr_gr {s s1 : hq_S} {k b x : Nat} (h : hq_pr s k b x = some s1) {k' b' : Nat} (hn : ¬ (k' = k ∧ b' = b)) : hq_gr s1 k' b' = hq_gr s k' b' := by
  cases h; exact if_neg hn
theorem hq_fc_stjA {W : List (Nat × Option Nat)} {s s1 : hq_S} {k : Nat} {i : Int32} {x : Int64} (h : hq_stjA s k i x = some s1) (hk : hq_has W (k, none) = true) : hq_fc W s s1 := by
  obtain ⟨L, -, h⟩ := hq_bind h
  exact hq_fc_stj h hk
theorem hq_pr_g {s s1 : hq_S} {k b x : Nat} (h : hq_pr s k b x = some s1) : hq_gr s1 k b = x := by
  cases h
  exact if_pos ⟨rfl, rfl⟩
theorem f_X3_setUp_g {n k1 k2 k3 : Nat} {a4 : Int32} {s s1 : hq_S} (h : f_X3_setUp n k1 k2 k3 a4 s = some s1) : hq_gr s1 113 2 = k3 := by
  unfold f_X3_setUp at h
  obtain ⟨t1, h1, h⟩ := hq_bind h
  obtain ⟨t2, h2, h⟩ := hq_bind h
  obtain ⟨t3, h3, h⟩ := hq_bind h
  obtain ⟨t4, h4, h⟩ := hq_bind h
  obtain ⟨t5, h5, h⟩ := hq_bind h
  obtain ⟨t6, h6, h⟩ := hq_bind h
  cases h
  have g := hq_pr_g h3
  have e : ∀ {s t : hq_S} {c : Nat} {b : Nat} {x : Int32}, hq_pi s 113 b c x = some t → hq_gr t 113 2 = hq_gr s 113 2 := fun {s t c b x} h => by
    unfold hq_pi at h
    rcases mm_bif h with ⟨-, h⟩ | ⟨-, h⟩
    · cases h; rfl
    · cases h
  rw [e h6, e h5, e h4, g]
def w_X5_copyFrom (k0 : Nat) : List (Nat × Option Nat) := [(k0, some 0), (k0, some 1), (k0, some 2), (k0 + 1, none), (k0 + 2, none), (k0 + 3, none), (k0 + 4, none), (k0 + 5, none), (k0 + 6, none), (k0 + 7, none), (k0 + 8, none)]
theorem f_X5_copyFrom_fw {n : Nat} {k0 : Nat} {k1 : Nat} {s : hq_S} {y : hq_S} (m0_ : hq_isN k0) (m1_ : hq_isN k1) (h : f_X5_copyFrom n k0 k1 s = some y) : hq_fc (w_X5_copyFrom k0) s y := by
  unfold f_X5_copyFrom at h
  have t := hq_fc_rf (w_X5_copyFrom k0) s
  obtain ⟨s1, hs1, h⟩ := hq_bind h
  have q := hq_fc_pi (W := (w_X5_copyFrom k0)) hs1 (by first | decide | (rcases m0_ with rfl | rfl | rfl | rfl | rfl <;> decide) | simp [hq_has, hq_sub, w_X5_copyFrom])
  have t := hq_fc_tr t q
  obtain ⟨s2, hs2, h⟩ := hq_bind h
  have q := hq_fc_pj (W := (w_X5_copyFrom k0)) hs2 (by first | decide | (rcases m0_ with rfl | rfl | rfl | rfl | rfl <;> decide) | simp [hq_has, hq_sub, w_X5_copyFrom])
  have t := hq_fc_tr t q
  obtain ⟨s3, hs3, h⟩ := hq_bind h
  have q := hq_fc_pi (W := (w_X5_copyFrom k0)) hs3 (by first | decide | (rcases m0_ with rfl | rfl | rfl | rfl | rfl <;> decide) | simp [hq_has, hq_sub, w_X5_copyFrom])
  have t := hq_fc_tr t q
  obtain ⟨s4, hs4, h⟩ := hq_bind h
  have q := hq_fc_cp (W := (w_X5_copyFrom k0)) hs4 (by first | decide | (rcases m0_ with rfl | rfl | rfl | rfl | rfl <;> decide) | simp [hq_has, hq_sub, w_X5_copyFrom])
  have t := hq_fc_tr t q
  obtain ⟨s5, hs5, h⟩ := hq_bind h
  have q := hq_fc_cp (W := (w_X5_copyFrom k0)) hs5 (by first | decide | (rcases m0_ with rfl | rfl | rfl | rfl | rfl <;> decide) | simp [hq_has, hq_sub, w_X5_copyFrom])
  have t := hq_fc_tr t q
  obtain ⟨s6, hs6, h⟩ := hq_bind h
  have q := hq_fc_cp (W := (w_X5_copyFrom k0)) hs6 (by first | decide | (rcases m0_ with rfl | rfl | rfl | rfl | rfl <;> decide) | simp [hq_has, hq_sub, w_X5_copyFrom])
  have t := hq_fc_tr t q
  obtain ⟨s7, hs7, h⟩ := hq_bind h
  have q := hq_fc_cp (W := (w_X5_copyFrom k0)) hs7 (by first | decide | (rcases m0_ with rfl | rfl | rfl | rfl | rfl <;> decide) | simp [hq_has, hq_sub, w_X5_copyFrom])
  have t := hq_fc_tr t q
  obtain ⟨s8, hs8, h⟩ := hq_bind h
  have q := hq_fc_cp (W := (w_X5_copyFrom k0)) hs8 (by first | decide | (rcases m0_ with rfl | rfl | rfl | rfl | rfl <;> decide) | simp [hq_has, hq_sub, w_X5_copyFrom])
  have t := hq_fc_tr t q
  obtain ⟨s9, hs9, h⟩ := hq_bind h
  have q := hq_fc_cp (W := (w_X5_copyFrom k0)) hs9 (by first | decide | (rcases m0_ with rfl | rfl | rfl | rfl | rfl <;> decide) | simp [hq_has, hq_sub, w_X5_copyFrom])
  have t := hq_fc_tr t q
  obtain ⟨s10, hs10, h⟩ := hq_bind h
  have q := hq_fc_cp (W := (w_X5_copyFrom k0)) hs10 (by first | decide | (rcases m0_ with rfl | rfl | rfl | rfl | rfl <;> decide) | simp [hq_has, hq_sub, w_X5_copyFrom])
  have t := hq_fc_tr t q
  obtain ⟨s11, hs11, h⟩ := hq_bind h
  have q := hq_fc_cp (W := (w_X5_copyFrom k0)) hs11 (by first | decide | (rcases m0_ with rfl | rfl | rfl | rfl | rfl <;> decide) | simp [hq_has, hq_sub, w_X5_copyFrom])
  have t := hq_fc_tr t q
  have h := Option.some.inj h
  subst h
  exact t
def w_X3_restart (u : Nat) : List (Nat × Option Nat) := [(u, some 0), (u, some 1), (u, some 2), (u + 1, none), (u + 2, none), (u + 3, none), (u + 4, none), (u + 5, none), (u + 6, none), (u + 7, none), (u + 8, none)]
theorem f_X3_restart_fw {n : Nat} {k1 : Nat} {a2 : Int32} {a3 : Int32} {u : Nat} {s : hq_S} {y : hq_S} (m1_ : hq_isN k1) (hu : u = 76 ∨ u = 94) (gu : hq_gr s 113 2 = u) (h : f_X3_restart n k1 a2 a3 s = some y) : hq_fc (w_X3_restart u) s y := by
  unfold f_X3_restart at h
  have t := hq_fc_rf (w_X3_restart u) s
  have m1 : hq_isN (hq_gr s 113 2) := hq_ifT h
  rw [if_pos m1] at h
  obtain ⟨s2, hs2, h⟩ := hq_bind h
  have q0 := f_X5_copyFrom_fw m1 m1_ hs2
  have t := hq_fc_tr t (hq_fc_mono (W := (w_X3_restart u)) (by first | decide | (rcases hu with rfl | rfl <;> decide) | (rw [gu]; rcases hu with rfl | rfl <;> decide) | simp [hq_has, hq_sub, w_X3_restart]) q0)
  have gu := (q0 113 2 (by first | decide | (rcases hu with rfl | rfl <;> decide) | (rw [gu]; rcases hu with rfl | rfl <;> decide))).2.2.trans gu
  have m3 : hq_isN (hq_gr s2 113 2) := hq_ifT h
  rw [if_pos m3] at h
  obtain ⟨s4, hs4, h⟩ := hq_bind h
  have q := hq_fc_st (W := (w_X3_restart u)) hs4 (by first | decide | (rcases hu with rfl | rfl <;> decide) | (rw [gu]; rcases hu with rfl | rfl <;> decide) | simp [hq_has, hq_sub, w_X3_restart])
  have t := hq_fc_tr t q
  have gu := (hq_st_gr hs4).trans gu
  have h := Option.some.inj h
  subst h
  exact t
def w_X3_walkBeat (u : Nat) : List (Nat × Option Nat) := [(u + 2, none), (u + 3, none)]
theorem f_X3_walkBeat_J93_fw {n : Nat} {a1 : Int32} {a2 : Int32} {u : Nat} {s : hq_S} {y : hq_S} (hu : u = 76 ∨ u = 94) (gu : hq_gr s 113 2 = u) (h : f_X3_walkBeat_J93 n a1 a2 s = some y) : hq_fc (w_X3_walkBeat u) s y := by
  unfold f_X3_walkBeat_J93 at h
  have t := hq_fc_rf (w_X3_walkBeat u) s
  have m9 : hq_isS (hq_gr s 113 1) := hq_ifT h
  rw [if_pos m9] at h
  have m10 : hq_isT (hq_gr s 113 0) := hq_ifT h
  rw [if_pos m10] at h
  have m11 : hq_isN (hq_gr s 113 2) := hq_ifT h
  rw [if_pos m11] at h
  obtain ⟨x12, hx12, h⟩ := hq_bind h
  obtain ⟨x13, hx13, h⟩ := hq_bind h
  obtain ⟨y14, hy14, h⟩ := hq_bind h
  have q0 := f_X8_onward_fw m9 hy14
  have t := hq_fc_tr t (hq_fc_mono (W := (w_X3_walkBeat u)) (by first | decide | (rcases hu with rfl | rfl <;> decide) | (rw [gu]; rcases hu with rfl | rfl <;> decide) | simp [hq_has, hq_sub, w_X3_walkBeat]) q0)
  have gu := (q0 113 2 (by first | decide | (rcases hu with rfl | rfl <;> decide) | (rw [gu]; rcases hu with rfl | rfl <;> decide))).2.2.trans gu
  have m15 : hq_isN (hq_gr y14.2 113 2) := hq_ifT h
  rw [if_pos m15] at h
  obtain ⟨z16, hz16, h⟩ := hq_bind h
  obtain ⟨s18, hs18, h⟩ := hq_bind h
  have q := hq_fc_st (W := (w_X3_walkBeat u)) hs18 (by first | decide | (rcases hu with rfl | rfl <;> decide) | (rw [gu]; rcases hu with rfl | rfl <;> decide) | simp [hq_has, hq_sub, w_X3_walkBeat])
  have t := hq_fc_tr t q
  have gu := (hq_st_gr hs18).trans gu
  have h := Option.some.inj h
  subst h
  exact t
theorem f_X3_walkBeat_fw {n : Nat} {a1 : Int32} {u : Nat} {s : hq_S} {y : hq_S} (hu : u = 76 ∨ u = 94) (gu : hq_gr s 113 2 = u) (h : f_X3_walkBeat n a1 s = some y) : hq_fc (w_X3_walkBeat u) s y := by
  unfold f_X3_walkBeat at h
  have t := hq_fc_rf (w_X3_walkBeat u) s
  have m1 : hq_isN (hq_gr s 113 2) := hq_ifT h
  rw [if_pos m1] at h
  obtain ⟨x2, hx2, h⟩ := hq_bind h
  have m3 : hq_isT (hq_gr s 113 0) := hq_ifT h
  rw [if_pos m3] at h
  have m4 : hq_isN (hq_gr s 113 2) := hq_ifT h
  rw [if_pos m4] at h
  obtain ⟨x5, hx5, h⟩ := hq_bind h
  obtain ⟨x6, hx6, h⟩ := hq_bind h
  by_cases c8 : x6 = x2
  · rw [if_pos c8] at h
    have m19 : hq_isN (hq_gr s 113 2) := hq_ifT h
    rw [if_pos m19] at h
    obtain ⟨x20, hx20, h⟩ := hq_bind h
    have m21 : hq_isT (hq_gr s 113 0) := hq_ifT h
    rw [if_pos m21] at h
    obtain ⟨x22, hx22, h⟩ := hq_bind h
    obtain ⟨z23, hz23, h⟩ := hq_bind h
    have m25 : hq_isN (hq_gr s 113 2) := hq_ifT h
    rw [if_pos m25] at h
    obtain ⟨z26, hz26, h⟩ := hq_bind h
    obtain ⟨s30, hs30, h⟩ := hq_bind h
    have q := hq_fc_st (W := (w_X3_walkBeat u)) hs30 (by first | decide | (rcases hu with rfl | rfl <;> decide) | (rw [gu]; rcases hu with rfl | rfl <;> decide) | simp [hq_has, hq_sub, w_X3_walkBeat])
    have t := hq_fc_tr t q
    have gu := (hq_st_gr hs30).trans gu
    exact hq_fc_tr t (f_X3_walkBeat_J93_fw hu gu h)
  · rw [if_neg c8] at h
    exact hq_fc_tr t (f_X3_walkBeat_J93_fw hu gu h)
def w_X3_walkBeats (u : Nat) : List (Nat × Option Nat) := [(u + 2, none), (u + 3, none)]
theorem f_X3_walkBeats_L2_B_fw {n : Nat} {a1 : Int32} {q2 : Int32 → hq_S → Option hq_S} {u : Nat} {s : hq_S} {y : hq_S} (e2 : ∀ (a1 : Int32) (s : hq_S), hq_gr s 113 2 = u → q2 a1 s = some y → hq_fc (w_X3_walkBeats u) s y) (hu : u = 76 ∨ u = 94) (gu : hq_gr s 113 2 = u) (h : f_X3_walkBeats_L2_B n q2 a1 s = some y) : hq_fc (w_X3_walkBeats u) s y := by
  unfold f_X3_walkBeats_L2_B at h
  have t := hq_fc_rf (w_X3_walkBeats u) s
  have m1 : hq_isT (hq_gr s 113 0) := hq_ifT h
  rw [if_pos m1] at h
  by_cases c2 : a1 < (hq_gi s (hq_gr s 113 0) 7)
  · rw [if_pos c2] at h
    have m3 : hq_isT (hq_gr s 113 0) := hq_ifT h
    rw [if_pos m3] at h
    obtain ⟨x4, hx4, h⟩ := hq_bind h
    obtain ⟨z5, hz5, h⟩ := hq_bind h
    have tg : hq_fc (w_X3_walkBeats u) s z5 ∧ hq_gr z5 113 2 = u := by
      clear h
      have h := hz5
      by_cases c6 : 0 < x4
      · rw [if_pos c6] at h
        by_cases c7 : a1 = (hq_gi s 113 4)
        · rw [if_pos c7] at h
          cases h
          exact ⟨t, gu⟩
        · rw [if_neg c7] at h
          obtain ⟨s8, hs8, h⟩ := hq_bind h
          have q0 := f_X3_walkBeat_fw hu gu hs8
          have t := hq_fc_tr t (hq_fc_mono (W := (w_X3_walkBeats u)) (by first | decide | (rcases hu with rfl | rfl <;> decide) | (rw [gu]; rcases hu with rfl | rfl <;> decide) | simp [hq_has, hq_sub, w_X3_walkBeats]) q0)
          have gu := (q0 113 2 (by first | decide | (rcases hu with rfl | rfl <;> decide) | (rw [gu]; rcases hu with rfl | rfl <;> decide))).2.2.trans gu
          cases h
          exact ⟨t, gu⟩
      · rw [if_neg c6] at h
        cases h
        exact ⟨t, gu⟩
    have t := tg.1
    have gu := tg.2
    exact hq_fc_tr t (e2 (a1 + (1 : Int32)) z5 gu h)
  · rw [if_neg c2] at h
    have h := Option.some.inj h
    subst h
    exact t
theorem f_X3_walkBeats_L2_fw {n m : Nat} {a1 : Int32} {u : Nat} {s : hq_S} {y : hq_S} (hu : u = 76 ∨ u = 94) (gu : hq_gr s 113 2 = u) (h : f_X3_walkBeats_L2 n m a1 s = some y) : hq_fc (w_X3_walkBeats u) s y := by
  induction m generalizing a1 s with
  | zero => cases h
  | succ m ih => exact f_X3_walkBeats_L2_B_fw (n := n) (a1 := a1) (q2 := f_X3_walkBeats_L2 n m) (fun a1 s gu h => ih gu h) hu gu h
theorem f_X3_walkBeats_fw {n : Nat} {u : Nat} {s : hq_S} {y : hq_S} (hu : u = 76 ∨ u = 94) (gu : hq_gr s 113 2 = u) (h : f_X3_walkBeats n s = some y) : hq_fc (w_X3_walkBeats u) s y := by
  unfold f_X3_walkBeats at h
  have t := hq_fc_rf (w_X3_walkBeats u) s
  exact hq_fc_tr t (f_X3_walkBeats_L2_fw hu gu h)
def w_X4_valueOf : List (Nat × Option Nat) := [(15, none), (38, none)]
theorem f_X4_valueOf_J171_fw {n : Nat} {k0 : Nat} {a1 : Int32} {k2 : Nat} {a3 : Int32} {a4 : Int32} {a5 : Int32} {q10 : Nat → Int32 → Nat → Int32 → Int32 → hq_S → Option (Int64 × hq_S)} {s : hq_S} {y : (Int64 × hq_S)} (e10 : ∀ (k0 : Nat) (a1 : Int32) (k2 : Nat) (a3 : Int32) (a4 : Int32) (o5 : Option Value) (s : hq_S) (m0_ : hq_isL k0), q10 k0 a1 k2 a3 a4 s = some y → hq_fc w_X4_valueOf s y.2) (m0_ : hq_isL k0) (h : f_X4_valueOf_J171 n q10 k0 a1 k2 a3 a4 a5 s = some y) : hq_fc w_X4_valueOf s y.2 := by
  unfold f_X4_valueOf_J171 at h
  have t := hq_fc_rf w_X4_valueOf s
  exact hq_fc_tr t (e10 k0 a1 k2 a3 (a4 + (1 : Int32)) none s m0_ h)
theorem f_X4_valueOf_J113_fw {n : Nat} {k0 : Nat} {a1 : Int32} {k2 : Nat} {a3 : Int32} {a4 : Int32} {a5 : Int32} {q10 : Nat → Int32 → Nat → Int32 → Int32 → hq_S → Option (Int64 × hq_S)} {s : hq_S} {y : (Int64 × hq_S)} (e10 : ∀ (k0 : Nat) (a1 : Int32) (k2 : Nat) (a3 : Int32) (a4 : Int32) (o5 : Option Value) (s : hq_S) (m0_ : hq_isL k0), q10 k0 a1 k2 a3 a4 s = some y → hq_fc w_X4_valueOf s y.2) (m0_ : hq_isL k0) (h : f_X4_valueOf_J113 n q10 k0 a1 k2 a3 a4 a5 s = some y) : hq_fc w_X4_valueOf s y.2 := by
  unfold f_X4_valueOf_J113 at h
  have t := hq_fc_rf w_X4_valueOf s
  by_cases c9 : (1 : Int32) < a3
  · rw [if_pos c9] at h
    obtain ⟨x10, hx10, h⟩ := hq_bind h
    obtain ⟨x11, hx11, h⟩ := hq_bind h
    obtain ⟨y12, hy12, h⟩ := hq_bind h
    have q0 := f_X4_joined_fw hy12
    have t := hq_fc_tr t (hq_fc_mono (W := w_X4_valueOf) (by first | decide | (rcases m0_ with rfl | rfl <;> decide) | simp [hq_has, hq_sub, w_X4_valueOf]) q0)
    obtain ⟨s13, hs13, h⟩ := hq_bind h
    have q := hq_fc_stj (W := w_X4_valueOf) hs13 (by first | decide | (rcases m0_ with rfl | rfl <;> decide) | simp [hq_has, hq_sub, w_X4_valueOf])
    have t := hq_fc_tr t q
    obtain ⟨x14, hx14, h⟩ := hq_bind h
    by_cases c15 : (lg_cmp x14 (-9223372036854775808 : Int64)) = 0
    · rw [if_pos c15] at h
      have h := Option.some.inj h
      subst h
      exact t
    · rw [if_neg c15] at h
      exact hq_fc_tr t (f_X4_valueOf_J171_fw e10 m0_ h)
  · rw [if_neg c9] at h
    exact hq_fc_tr t (f_X4_valueOf_J171_fw e10 m0_ h)
theorem f_X4_valueOf_L10_B_fw {n : Nat} {k0 : Nat} {a1 : Int32} {k2 : Nat} {a3 : Int32} {a4 : Int32} {q10 : Nat → Int32 → Nat → Int32 → Int32 → hq_S → Option (Int64 × hq_S)} {s : hq_S} {y : (Int64 × hq_S)} (e10 : ∀ (k0 : Nat) (a1 : Int32) (k2 : Nat) (a3 : Int32) (a4 : Int32) (o5 : Option Value) (s : hq_S) (m0_ : hq_isL k0), q10 k0 a1 k2 a3 a4 s = some y → hq_fc w_X4_valueOf s y.2) (m0_ : hq_isL k0) (h : f_X4_valueOf_L10_B n q10 k0 a1 k2 a3 a4 s = some y) : hq_fc w_X4_valueOf s y.2 := by
  unfold f_X4_valueOf_L10_B at h
  have t := hq_fc_rf w_X4_valueOf s
  obtain ⟨x2, hx2, h⟩ := hq_bind h
  by_cases c3 : a4 < x2
  · rw [if_pos c3] at h
    obtain ⟨x6, hx6, h⟩ := hq_bind h
    by_cases c7 : x6 < (20000 : Int32)
    · rw [if_pos c7] at h
      obtain ⟨z21, hz21, h⟩ := hq_bind h
      obtain ⟨s24, hs24, h⟩ := hq_bind h
      have q := hq_fc_stj (W := w_X4_valueOf) hs24 (by first | decide | (rcases m0_ with rfl | rfl <;> decide) | simp [hq_has, hq_sub, w_X4_valueOf])
      have t := hq_fc_tr t q
      exact hq_fc_tr t (f_X4_valueOf_J171_fw e10 m0_ h)
    · rw [if_neg c7] at h
      by_cases c8 : x6 = (20021 : Int32)
      · rw [if_pos c8] at h
        by_cases c16 : 0 < a3
        · rw [if_pos c16] at h
          obtain ⟨x17, hx17, h⟩ := hq_bind h
          obtain ⟨z18, hz18, h⟩ := hq_bind h
          obtain ⟨s20, hs20, h⟩ := hq_bind h
          have q := hq_fc_stj (W := w_X4_valueOf) hs20 (by first | decide | (rcases m0_ with rfl | rfl <;> decide) | simp [hq_has, hq_sub, w_X4_valueOf])
          have t := hq_fc_tr t q
          exact hq_fc_tr t (f_X4_valueOf_J171_fw e10 m0_ h)
        · rw [if_neg c16] at h
          exact hq_fc_tr t (f_X4_valueOf_J113_fw e10 m0_ h)
      · rw [if_neg c8] at h
        exact hq_fc_tr t (f_X4_valueOf_J113_fw e10 m0_ h)
  · rw [if_neg c3] at h
    by_cases c4 : a3 = (1 : Int32)
    · rw [if_pos c4] at h
      obtain ⟨x5, hx5, h⟩ := hq_bind h
      have h := Option.some.inj h
      subst h
      exact t
    · rw [if_neg c4] at h
      have h := Option.some.inj h
      subst h
      exact t
theorem f_X4_valueOf_L10_fw {n m : Nat} {k0 : Nat} {a1 : Int32} {k2 : Nat} {a3 : Int32} {a4 : Int32} {s : hq_S} {y : (Int64 × hq_S)} (m0_ : hq_isL k0) (h : f_X4_valueOf_L10 n m k0 a1 k2 a3 a4 s = some y) : hq_fc w_X4_valueOf s y.2 := by
  induction m generalizing k0 a1 k2 a3 a4 s with
  | zero => cases h
  | succ m ih => exact f_X4_valueOf_L10_B_fw (n := n) (k0 := k0) (a1 := a1) (k2 := k2) (a3 := a3) (a4 := a4) (q10 := f_X4_valueOf_L10 n m) (fun k0 a1 k2 a3 a4 _ s m0_ h => ih m0_ h) m0_ h
theorem f_X4_valueOf_fw {n : Nat} {k0 : Nat} {a1 : Int32} {k2 : Nat} {s : hq_S} {y : (Int64 × hq_S)} (m0_ : hq_isL k0) (h : f_X4_valueOf n k0 a1 k2 s = some y) : hq_fc w_X4_valueOf s y.2 := by
  unfold f_X4_valueOf at h
  have t := hq_fc_rf w_X4_valueOf s
  obtain ⟨x1, hx1, h⟩ := hq_bind h
  exact hq_fc_tr t (f_X4_valueOf_L10_fw m0_ h)
def w_X3_lawValue : List (Nat × Option Nat) := [(15, none), (38, none), (151, none)]
theorem f_X3_lawValue_L24_B_fw {n : Nat} {a1 : Int32} {a2 : Int32} {a3 : Int32} {a4 : Int32} {a5 : Int32} {q24 : Int32 → Int32 → Int32 → Int32 → Int32 → hq_S → Option (Int64 × hq_S)} {s : hq_S} {y : (Int64 × hq_S)} (e24 : ∀ (a1 : Int32) (a2 : Int32) (a3 : Int32) (a4 : Int32) (a5 : Int32) (s : hq_S), q24 a1 a2 a3 a4 a5 s = some y → hq_fc w_X3_lawValue s y.2) (h : f_X3_lawValue_L24_B n q24 a1 a2 a3 a4 a5 s = some y) : hq_fc w_X3_lawValue s y.2 := by
  unfold f_X3_lawValue_L24_B at h
  have t := hq_fc_rf w_X3_lawValue s
  have m4 : hq_isT (hq_gr s 113 0) := hq_ifT h
  rw [if_pos m4] at h
  by_cases c5 : a5 < (hq_gi s (hq_gr s 113 0) 7)
  · rw [if_pos c5] at h
    have m25 : hq_isN (hq_gr s 113 2) := hq_ifT h
    rw [if_pos m25] at h
    obtain ⟨x26, hx26, h⟩ := hq_bind h
    obtain ⟨z27, hz27, h⟩ := hq_bind h
    exact hq_fc_tr t (e24 a1 a2 a3 (a4 + z27) (a5 + (1 : Int32)) s h)
  · rw [if_neg c5] at h
    have m6 : hq_isT (hq_gr s 113 0) := hq_ifT h
    rw [if_pos m6] at h
    obtain ⟨x7, hx7, h⟩ := hq_bind h
    obtain ⟨s8, hs8, h⟩ := hq_bind h
    have q := hq_fc_stj (W := w_X3_lawValue) hs8 (by first | decide | simp [hq_has, hq_sub, w_X3_lawValue])
    have t := hq_fc_tr t q
    obtain ⟨y9, hy9, h⟩ := hq_bind h
    have q0 := f_X3_nearest_fw hy9
    have t := hq_fc_tr t (hq_fc_mono (W := w_X3_lawValue) (by first | decide | simp [hq_has, hq_sub, w_X3_lawValue]) q0)
    obtain ⟨s10, hs10, h⟩ := hq_bind h
    have q := hq_fc_stj (W := w_X3_lawValue) hs10 (by first | decide | simp [hq_has, hq_sub, w_X3_lawValue])
    have t := hq_fc_tr t q
    have m11 : hq_isN (hq_gr s10 113 2) := hq_ifT h
    rw [if_pos m11] at h
    obtain ⟨x12, hx12, h⟩ := hq_bind h
    obtain ⟨s13, hs13, h⟩ := hq_bind h
    have q := hq_fc_stj (W := w_X3_lawValue) hs13 (by first | decide | simp [hq_has, hq_sub, w_X3_lawValue])
    have t := hq_fc_tr t q
    have m14 : hq_isN (hq_gr s13 113 2) := hq_ifT h
    rw [if_pos m14] at h
    obtain ⟨x15, hx15, h⟩ := hq_bind h
    obtain ⟨s16, hs16, h⟩ := hq_bind h
    have q := hq_fc_stj (W := w_X3_lawValue) hs16 (by first | decide | simp [hq_has, hq_sub, w_X3_lawValue])
    have t := hq_fc_tr t q
    have m17 : hq_isN (hq_gr s16 113 2) := hq_ifT h
    rw [if_pos m17] at h
    obtain ⟨x18, hx18, h⟩ := hq_bind h
    obtain ⟨s19, hs19, h⟩ := hq_bind h
    have q := hq_fc_stj (W := w_X3_lawValue) hs19 (by first | decide | simp [hq_has, hq_sub, w_X3_lawValue])
    have t := hq_fc_tr t q
    obtain ⟨s20, hs20, h⟩ := hq_bind h
    have q := hq_fc_stj (W := w_X3_lawValue) hs20 (by first | decide | simp [hq_has, hq_sub, w_X3_lawValue])
    have t := hq_fc_tr t q
    have m21 : hq_isN (hq_gr s20 113 2) := hq_ifT h
    rw [if_pos m21] at h
    obtain ⟨s22, hs22, h⟩ := hq_bind h
    have q := hq_fc_stj (W := w_X3_lawValue) hs22 (by first | decide | simp [hq_has, hq_sub, w_X3_lawValue])
    have t := hq_fc_tr t q
    have m23 : hq_isT (hq_gr s22 113 0) := hq_ifT h
    rw [if_pos m23] at h
    obtain ⟨y24, hy24, h⟩ := hq_bind h
    have q0 := f_X4_valueOf_fw (hq_shT_m9 m23) hy24
    have t := hq_fc_tr t (hq_fc_mono (W := w_X3_lawValue) (by first | decide | simp [hq_has, hq_sub, w_X3_lawValue]) q0)
    have h := Option.some.inj h
    subst h
    exact t
theorem f_X3_lawValue_L24_fw {n m : Nat} {a1 : Int32} {a2 : Int32} {a3 : Int32} {a4 : Int32} {a5 : Int32} {s : hq_S} {y : (Int64 × hq_S)} (h : f_X3_lawValue_L24 n m a1 a2 a3 a4 a5 s = some y) : hq_fc w_X3_lawValue s y.2 := by
  induction m generalizing a1 a2 a3 a4 a5 s with
  | zero => cases h
  | succ m ih => exact f_X3_lawValue_L24_B_fw (n := n) (a1 := a1) (a2 := a2) (a3 := a3) (a4 := a4) (a5 := a5) (q24 := f_X3_lawValue_L24 n m) (fun a1 a2 a3 a4 a5 s h => ih h) h
theorem f_X3_lawValue_fw {n : Nat} {a1 : Int32} {a2 : Int32} {a3 : Int32} {s : hq_S} {y : (Int64 × hq_S)} (h : f_X3_lawValue n a1 a2 a3 s = some y) : hq_fc w_X3_lawValue s y.2 := by
  unfold f_X3_lawValue at h
  have t := hq_fc_rf w_X3_lawValue s
  have m1 : hq_isT (hq_gr s 113 0) := hq_ifT h
  rw [if_pos m1] at h
  obtain ⟨y2, hy2, h⟩ := hq_bind h
  have q0 := f_X4_isTold_fw (hq_shT_m9 m1) hy2
  have t := hq_fc_tr t (hq_fc_mono (W := w_X3_lawValue) (by first | decide | simp [hq_has, hq_sub, w_X3_lawValue]) q0)
  by_cases c3 : y2.1 = 0
  · rw [if_pos c3] at h
    have h := Option.some.inj h
    subst h
    exact t
  · rw [if_neg c3] at h
    exact hq_fc_tr t (f_X3_lawValue_L24_fw h)
def w_X3_stirs : List (Nat × Option Nat) := [(15, none), (38, none), (151, none)]
theorem f_X3_stirs_fw {n : Nat} {a1 : Int32} {s : hq_S} {y : (Int32 × hq_S)} (h : f_X3_stirs n a1 s = some y) : hq_fc w_X3_stirs s y.2 := by
  unfold f_X3_stirs at h
  have t := hq_fc_rf w_X3_stirs s
  by_cases c1 : (hq_gi s 113 5) = 0
  · rw [if_pos c1] at h
    have h := Option.some.inj h
    subst h
    exact t
  · rw [if_neg c1] at h
    have m2 : hq_isN (hq_gr s 113 2) := hq_ifT h
    rw [if_pos m2] at h
    obtain ⟨x3, hx3, h⟩ := hq_bind h
    obtain ⟨y4, hy4, h⟩ := hq_bind h
    have q0 := f_X3_lawValue_fw hy4
    have t := hq_fc_tr t (hq_fc_mono (W := w_X3_stirs) (by first | decide | simp [hq_has, hq_sub, w_X3_stirs]) q0)
    by_cases c5 : (lg_cmp y4.1 (0 : Int64)) = 0
    · rw [if_pos c5] at h
      have h := Option.some.inj h
      subst h
      exact t
    · rw [if_neg c5] at h
      have h := Option.some.inj h
      subst h
      exact t
def w_X3_dread : List (Nat × Option Nat) := [(15, none), (38, none), (151, none)]
theorem f_X3_dread_fw {n : Nat} {a1 : Int32} {a2 : Int32} {s : hq_S} {y : (Int64 × hq_S)} (h : f_X3_dread n a1 a2 s = some y) : hq_fc w_X3_dread s y.2 := by
  unfold f_X3_dread at h
  have t := hq_fc_rf w_X3_dread s
  obtain ⟨y1, hy1, h⟩ := hq_bind h
  have q0 := f_X3_lawValue_fw hy1
  have t := hq_fc_tr t (hq_fc_mono (W := w_X3_dread) (by first | decide | simp [hq_has, hq_sub, w_X3_dread]) q0)
  by_cases c2 : (lg_cmp y1.1 (-9223372036854775808 : Int64)) = 0
  · rw [if_pos c2] at h
    have m3 : hq_isT (hq_gr y1.2 113 0) := hq_ifT h
    rw [if_pos m3] at h
    obtain ⟨x4, hx4, h⟩ := hq_bind h
    obtain ⟨y5, hy5, h⟩ := hq_bind h
    have q0 := f_X3_nearest_fw hy5
    have t := hq_fc_tr t (hq_fc_mono (W := w_X3_dread) (by first | decide | simp [hq_has, hq_sub, w_X3_dread]) q0)
    have h := Option.some.inj h
    subst h
    exact t
  · rw [if_neg c2] at h
    have h := Option.some.inj h
    subst h
    exact t
def w_X3_goWhereDreadIsLeast (u : Nat) : List (Nat × Option Nat) := [(15, none), (38, none), (151, none), (u + 5, none)]
theorem f_X3_goWhereDreadIsLeast_J86_fw {n : Nat} {a1 : Int32} {a2 : Int32} {a3 : Int32} {j4 : Int64} {a6 : Int32} {q23 : Int32 → Int32 → Int32 → Int64 → Int32 → hq_S → Option hq_S} {u : Nat} {s : hq_S} {y : hq_S} (e23 : ∀ (a1 : Int32) (a2 : Int32) (a3 : Int32) (j4 : Int64) (a6 : Int32) (o7 : Option Value) (s : hq_S), hq_gr s 113 2 = u → q23 a1 a2 a3 j4 a6 s = some y → hq_fc (w_X3_goWhereDreadIsLeast u) s y) (hu : u = 76 ∨ u = 94) (gu : hq_gr s 113 2 = u) (h : f_X3_goWhereDreadIsLeast_J86 n q23 a1 a2 a3 j4 a6 s = some y) : hq_fc (w_X3_goWhereDreadIsLeast u) s y := by
  unfold f_X3_goWhereDreadIsLeast_J86 at h
  have t := hq_fc_rf (w_X3_goWhereDreadIsLeast u) s
  exact hq_fc_tr t (e23 a1 a2 a3 j4 (a6 + (1 : Int32)) none s gu h)
theorem f_X3_goWhereDreadIsLeast_L23_B_fw {n : Nat} {a1 : Int32} {a2 : Int32} {a3 : Int32} {j4 : Int64} {a6 : Int32} {q23 : Int32 → Int32 → Int32 → Int64 → Int32 → hq_S → Option hq_S} {u : Nat} {s : hq_S} {y : hq_S} (e23 : ∀ (a1 : Int32) (a2 : Int32) (a3 : Int32) (j4 : Int64) (a6 : Int32) (o7 : Option Value) (s : hq_S), hq_gr s 113 2 = u → q23 a1 a2 a3 j4 a6 s = some y → hq_fc (w_X3_goWhereDreadIsLeast u) s y) (hu : u = 76 ∨ u = 94) (gu : hq_gr s 113 2 = u) (h : f_X3_goWhereDreadIsLeast_L23_B n q23 a1 a2 a3 j4 a6 s = some y) : hq_fc (w_X3_goWhereDreadIsLeast u) s y := by
  unfold f_X3_goWhereDreadIsLeast_L23_B at h
  have t := hq_fc_rf (w_X3_goWhereDreadIsLeast u) s
  have m4 : hq_isT (hq_gr s 113 0) := hq_ifT h
  rw [if_pos m4] at h
  by_cases c5 : a6 < (hq_gi s (hq_gr s 113 0) 0)
  · rw [if_pos c5] at h
    have m8 : hq_isS (hq_gr s 113 1) := hq_ifT h
    rw [if_pos m8] at h
    obtain ⟨x9, hx9, h⟩ := hq_bind h
    by_cases c11 : ((x9 >>> (a6 &&& 31)) &&& (1 : Int32)) = (1 : Int32)
    · rw [if_pos c11] at h
      obtain ⟨y12, hy12, h⟩ := hq_bind h
      have q0 := f_X3_dread_fw hy12
      have t := hq_fc_tr t (hq_fc_mono (W := (w_X3_goWhereDreadIsLeast u)) (by first | decide | (rcases hu with rfl | rfl <;> decide) | (rw [gu]; rcases hu with rfl | rfl <;> decide) | simp [hq_has, hq_sub, w_X3_goWhereDreadIsLeast]) q0)
      have gu := (q0 113 2 (by first | decide | (rcases hu with rfl | rfl <;> decide) | (rw [gu]; rcases hu with rfl | rfl <;> decide))).2.2.trans gu
      obtain ⟨z13, hz13, h⟩ := hq_bind h
      exact hq_fc_tr t (f_X3_goWhereDreadIsLeast_J86_fw e23 hu gu h)
    · rw [if_neg c11] at h
      exact hq_fc_tr t (f_X3_goWhereDreadIsLeast_J86_fw e23 hu gu h)
  · rw [if_neg c5] at h
    have m6 : hq_isN (hq_gr s 113 2) := hq_ifT h
    rw [if_pos m6] at h
    obtain ⟨s7, hs7, h⟩ := hq_bind h
    have q := hq_fc_st (W := (w_X3_goWhereDreadIsLeast u)) hs7 (by first | decide | (rcases hu with rfl | rfl <;> decide) | (rw [gu]; rcases hu with rfl | rfl <;> decide) | simp [hq_has, hq_sub, w_X3_goWhereDreadIsLeast])
    have t := hq_fc_tr t q
    have gu := (hq_st_gr hs7).trans gu
    have h := Option.some.inj h
    subst h
    exact t
theorem f_X3_goWhereDreadIsLeast_L23_fw {n m : Nat} {a1 : Int32} {a2 : Int32} {a3 : Int32} {j4 : Int64} {a6 : Int32} {u : Nat} {s : hq_S} {y : hq_S} (hu : u = 76 ∨ u = 94) (gu : hq_gr s 113 2 = u) (h : f_X3_goWhereDreadIsLeast_L23 n m a1 a2 a3 j4 a6 s = some y) : hq_fc (w_X3_goWhereDreadIsLeast u) s y := by
  induction m generalizing a1 a2 a3 j4 a6 s with
  | zero => cases h
  | succ m ih => exact f_X3_goWhereDreadIsLeast_L23_B_fw (n := n) (a1 := a1) (a2 := a2) (a3 := a3) (j4 := j4) (a6 := a6) (q23 := f_X3_goWhereDreadIsLeast_L23 n m) (fun a1 a2 a3 j4 a6 _ s gu h => ih gu h) hu gu h
theorem f_X3_goWhereDreadIsLeast_fw {n : Nat} {a1 : Int32} {u : Nat} {s : hq_S} {y : hq_S} (hu : u = 76 ∨ u = 94) (gu : hq_gr s 113 2 = u) (h : f_X3_goWhereDreadIsLeast n a1 s = some y) : hq_fc (w_X3_goWhereDreadIsLeast u) s y := by
  unfold f_X3_goWhereDreadIsLeast at h
  have t := hq_fc_rf (w_X3_goWhereDreadIsLeast u) s
  have m1 : hq_isN (hq_gr s 113 2) := hq_ifT h
  rw [if_pos m1] at h
  obtain ⟨x2, hx2, h⟩ := hq_bind h
  obtain ⟨y3, hy3, h⟩ := hq_bind h
  have q0 := f_X3_dread_fw hy3
  have t := hq_fc_tr t (hq_fc_mono (W := (w_X3_goWhereDreadIsLeast u)) (by first | decide | (rcases hu with rfl | rfl <;> decide) | (rw [gu]; rcases hu with rfl | rfl <;> decide) | simp [hq_has, hq_sub, w_X3_goWhereDreadIsLeast]) q0)
  have gu := (q0 113 2 (by first | decide | (rcases hu with rfl | rfl <;> decide) | (rw [gu]; rcases hu with rfl | rfl <;> decide))).2.2.trans gu
  exact hq_fc_tr t (f_X3_goWhereDreadIsLeast_L23_fw hu gu h)
def w_X3_draw (u : Nat) : List (Nat × Option Nat) := [(u, some 1)]
theorem f_X3_draw_fw {n : Nat} {u : Nat} {s : hq_S} {y : (Int64 × hq_S)} (hu : u = 76 ∨ u = 94) (gu : hq_gr s 113 2 = u) (h : f_X3_draw n s = some y) : hq_fc (w_X3_draw u) s y.2 := by
  unfold f_X3_draw at h
  have t := hq_fc_rf (w_X3_draw u) s
  have m1 : hq_isN (hq_gr s 113 2) := hq_ifT h
  rw [if_pos m1] at h
  have m2 : hq_isN (hq_gr s 113 2) := hq_ifT h
  rw [if_pos m2] at h
  obtain ⟨s3, hs3, h⟩ := hq_bind h
  have q := hq_fc_pj (W := (w_X3_draw u)) hs3 (by first | decide | (rcases hu with rfl | rfl <;> decide) | (rw [gu]; rcases hu with rfl | rfl <;> decide) | simp [hq_has, hq_sub, w_X3_draw])
  have t := hq_fc_tr t q
  have gu := (hq_pj_gr hs3).trans gu
  have m4 : hq_isN (hq_gr s3 113 2) := hq_ifT h
  rw [if_pos m4] at h
  obtain ⟨x5, hx5, h⟩ := hq_bind h
  have h := Option.some.inj h
  subst h
  exact t
def w_X3_gripHolds (u : Nat) : List (Nat × Option Nat) := [(u, some 1)]
theorem f_X3_gripHolds_J96_fw {n : Nat} {u : Nat} {s : hq_S} {y : (Int32 × hq_S)} (hu : u = 76 ∨ u = 94) (gu : hq_gr s 113 2 = u) (h : f_X3_gripHolds_J96 n s = some y) : hq_fc (w_X3_gripHolds u) s y.2 := by
  unfold f_X3_gripHolds_J96 at h
  have t := hq_fc_rf (w_X3_gripHolds u) s
  have h := Option.some.inj h
  subst h
  exact t
theorem f_X3_gripHolds_fw {n : Nat} {u : Nat} {s : hq_S} {y : (Int32 × hq_S)} (hu : u = 76 ∨ u = 94) (gu : hq_gr s 113 2 = u) (h : f_X3_gripHolds n s = some y) : hq_fc (w_X3_gripHolds u) s y.2 := by
  unfold f_X3_gripHolds at h
  have t := hq_fc_rf (w_X3_gripHolds u) s
  by_cases c1 : (hq_gi s 113 3) = (1 : Int32)
  · rw [if_pos c1] at h
    have m2 : hq_isT (hq_gr s 113 0) := hq_ifT h
    rw [if_pos m2] at h
    by_cases c3 : (hq_gi s (hq_gr s 113 0) 13) < (50 : Int32)
    · rw [if_pos c3] at h
      have h := Option.some.inj h
      subst h
      exact t
    · rw [if_neg c3] at h
      have h := Option.some.inj h
      subst h
      exact t
  rw [if_neg c1] at h
  by_cases c4 : (hq_gi s 113 3) = (2 : Int32)
  · rw [if_pos c4] at h
    have h := Option.some.inj h
    subst h
    exact t
  rw [if_neg c4] at h
  by_cases c5 : (hq_gi s 113 3) = (3 : Int32)
  · rw [if_pos c5] at h
    have h := Option.some.inj h
    subst h
    exact t
  rw [if_neg c5] at h
  have m6 : hq_isT (hq_gr s 113 0) := hq_ifT h
  rw [if_pos m6] at h
  by_cases c7 : (hq_gi s (hq_gr s 113 0) 13) = (100 : Int32)
  · rw [if_pos c7] at h
    exact hq_fc_tr t (f_X3_gripHolds_J96_fw hu gu h)
  · rw [if_neg c7] at h
    have m8 : hq_isT (hq_gr s 113 0) := hq_ifT h
    rw [if_pos m8] at h
    by_cases c9 : 0 < (hq_gi s (hq_gr s 113 0) 13)
    · rw [if_pos c9] at h
      obtain ⟨y10, hy10, h⟩ := hq_bind h
      have q0 := f_X3_draw_fw hu gu hy10
      have t := hq_fc_tr t (hq_fc_mono (W := (w_X3_gripHolds u)) (by first | decide | (rcases hu with rfl | rfl <;> decide) | (rw [gu]; rcases hu with rfl | rfl <;> decide) | simp [hq_has, hq_sub, w_X3_gripHolds]) q0)
      have gu := (q0 113 2 (by first | decide | (rcases hu with rfl | rfl <;> decide) | (rw [gu]; rcases hu with rfl | rfl <;> decide))).2.2.trans gu
      obtain ⟨x11, hx11, h⟩ := hq_bind h
      have m12 : hq_isT (hq_gr y10.2 113 0) := hq_ifT h
      rw [if_pos m12] at h
      by_cases c13 : (lg_cmp x11 (hq_gi y10.2 (hq_gr y10.2 113 0) 13).toInt64) < 0
      · rw [if_pos c13] at h
        exact hq_fc_tr t (f_X3_gripHolds_J96_fw hu gu h)
      · rw [if_neg c13] at h
        have h := Option.some.inj h
        subst h
        exact t
    · rw [if_neg c9] at h
      have h := Option.some.inj h
      subst h
      exact t
def w_X3_catchBy (u : Nat) : List (Nat × Option Nat) := [(u, some 1), (u + 4, none), (u + 8, none)]
theorem f_X3_catchBy_L2_B_fw {n : Nat} {a1 : Int32} {a2 : Int32} {q2 : Int32 → Int32 → hq_S → Option hq_S} {u : Nat} {s : hq_S} {y : hq_S} (e2 : ∀ (a1 : Int32) (a2 : Int32) (o3 : Option Value) (s : hq_S), hq_gr s 113 2 = u → q2 a1 a2 s = some y → hq_fc (w_X3_catchBy u) s y) (hu : u = 76 ∨ u = 94) (gu : hq_gr s 113 2 = u) (h : f_X3_catchBy_L2_B n q2 a1 a2 s = some y) : hq_fc (w_X3_catchBy u) s y := by
  unfold f_X3_catchBy_L2_B at h
  have t := hq_fc_rf (w_X3_catchBy u) s
  have m1 : hq_isT (hq_gr s 113 0) := hq_ifT h
  rw [if_pos m1] at h
  by_cases c2 : a2 < (hq_gi s (hq_gr s 113 0) 11)
  · rw [if_pos c2] at h
    have m3 : hq_isN (hq_gr s 113 2) := hq_ifT h
    rw [if_pos m3] at h
    obtain ⟨y4, hy4, h⟩ := hq_bind h
    have q0 := f_X5_isFree_fw m3 hy4
    have t := hq_fc_tr t (hq_fc_mono (W := (w_X3_catchBy u)) (by first | decide | (rcases hu with rfl | rfl <;> decide) | (rw [gu]; rcases hu with rfl | rfl <;> decide) | simp [hq_has, hq_sub, w_X3_catchBy]) q0)
    have gu := (q0 113 2 (by first | decide | (rcases hu with rfl | rfl <;> decide) | (rw [gu]; rcases hu with rfl | rfl <;> decide))).2.2.trans gu
    obtain ⟨z5, hz5, h⟩ := hq_bind h
    obtain ⟨z12, hz12, h⟩ := hq_bind h
    have tg : hq_fc (w_X3_catchBy u) s z12 ∧ hq_gr z12 113 2 = u := by
      clear h
      have h := hz12
      by_cases c13 : z5 = 0
      · rw [if_pos c13] at h
        cases h
        exact ⟨t, gu⟩
      · rw [if_neg c13] at h
        obtain ⟨y14, hy14, h⟩ := hq_bind h
        have q0 := f_X3_gripHolds_fw hu gu hy14
        have t := hq_fc_tr t (hq_fc_mono (W := (w_X3_catchBy u)) (by first | decide | (rcases hu with rfl | rfl <;> decide) | (rw [gu]; rcases hu with rfl | rfl <;> decide) | simp [hq_has, hq_sub, w_X3_catchBy]) q0)
        have gu := (q0 113 2 (by first | decide | (rcases hu with rfl | rfl <;> decide) | (rw [gu]; rcases hu with rfl | rfl <;> decide))).2.2.trans gu
        by_cases c15 : y14.1 = 0
        · rw [if_pos c15] at h
          cases h
          exact ⟨t, gu⟩
        · rw [if_neg c15] at h
          have m16 : hq_isN (hq_gr y14.2 113 2) := hq_ifT h
          rw [if_pos m16] at h
          obtain ⟨s17, hs17, h⟩ := hq_bind h
          have q := hq_fc_st (W := (w_X3_catchBy u)) hs17 (by first | decide | (rcases hu with rfl | rfl <;> decide) | (rw [gu]; rcases hu with rfl | rfl <;> decide) | simp [hq_has, hq_sub, w_X3_catchBy])
          have t := hq_fc_tr t q
          have gu := (hq_st_gr hs17).trans gu
          have m18 : hq_isN (hq_gr s17 113 2) := hq_ifT h
          rw [if_pos m18] at h
          obtain ⟨x19, hx19, h⟩ := hq_bind h
          obtain ⟨s20, hs20, h⟩ := hq_bind h
          have q := hq_fc_st (W := (w_X3_catchBy u)) hs20 (by first | decide | (rcases hu with rfl | rfl <;> decide) | (rw [gu]; rcases hu with rfl | rfl <;> decide) | simp [hq_has, hq_sub, w_X3_catchBy])
          have t := hq_fc_tr t q
          have gu := (hq_st_gr hs20).trans gu
          cases h
          exact ⟨t, gu⟩
    have t := tg.1
    have gu := tg.2
    exact hq_fc_tr t (e2 a1 (a2 + (1 : Int32)) none z12 gu h)
  · rw [if_neg c2] at h
    have h := Option.some.inj h
    subst h
    exact t
theorem f_X3_catchBy_L2_fw {n m : Nat} {a1 : Int32} {a2 : Int32} {u : Nat} {s : hq_S} {y : hq_S} (hu : u = 76 ∨ u = 94) (gu : hq_gr s 113 2 = u) (h : f_X3_catchBy_L2 n m a1 a2 s = some y) : hq_fc (w_X3_catchBy u) s y := by
  induction m generalizing a1 a2 s with
  | zero => cases h
  | succ m ih => exact f_X3_catchBy_L2_B_fw (n := n) (a1 := a1) (a2 := a2) (q2 := f_X3_catchBy_L2 n m) (fun a1 a2 _ s gu h => ih gu h) hu gu h
theorem f_X3_catchBy_fw {n : Nat} {a1 : Int32} {u : Nat} {s : hq_S} {y : hq_S} (hu : u = 76 ∨ u = 94) (gu : hq_gr s 113 2 = u) (h : f_X3_catchBy n a1 s = some y) : hq_fc (w_X3_catchBy u) s y := by
  unfold f_X3_catchBy at h
  have t := hq_fc_rf (w_X3_catchBy u) s
  exact hq_fc_tr t (f_X3_catchBy_L2_fw hu gu h)
def w_X3_takeLoot (u : Nat) : List (Nat × Option Nat) := [(15, none), (38, none), (151, none), (u + 1, none), (u + 7, none)]
theorem f_X3_takeLoot_fw {n : Nat} {a1 : Int32} {u : Nat} {s : hq_S} {y : hq_S} (hu : u = 76 ∨ u = 94) (gu : hq_gr s 113 2 = u) (h : f_X3_takeLoot n a1 s = some y) : hq_fc (w_X3_takeLoot u) s y := by
  unfold f_X3_takeLoot at h
  have t := hq_fc_rf (w_X3_takeLoot u) s
  have m1 : hq_isN (hq_gr s 113 2) := hq_ifT h
  rw [if_pos m1] at h
  obtain ⟨x2, hx2, h⟩ := hq_bind h
  obtain ⟨y3, hy3, h⟩ := hq_bind h
  have q0 := f_X3_lawValue_fw hy3
  have t := hq_fc_tr t (hq_fc_mono (W := (w_X3_takeLoot u)) (by first | decide | (rcases hu with rfl | rfl <;> decide) | (rw [gu]; rcases hu with rfl | rfl <;> decide) | simp [hq_has, hq_sub, w_X3_takeLoot]) q0)
  have gu := (q0 113 2 (by first | decide | (rcases hu with rfl | rfl <;> decide) | (rw [gu]; rcases hu with rfl | rfl <;> decide))).2.2.trans gu
  obtain ⟨z4, hz4, h⟩ := hq_bind h
  have m8 : hq_isN (hq_gr y3.2 113 2) := hq_ifT h
  rw [if_pos m8] at h
  obtain ⟨x9, hx9, h⟩ := hq_bind h
  have m10 : hq_isN (hq_gr y3.2 113 2) := hq_ifT h
  rw [if_pos m10] at h
  obtain ⟨x11, hx11, h⟩ := hq_bind h
  obtain ⟨s12, hs12, h⟩ := hq_bind h
  have q := hq_fc_st (W := (w_X3_takeLoot u)) hs12 (by first | decide | (rcases hu with rfl | rfl <;> decide) | (rw [gu]; rcases hu with rfl | rfl <;> decide) | simp [hq_has, hq_sub, w_X3_takeLoot])
  have t := hq_fc_tr t q
  have gu := (hq_st_gr hs12).trans gu
  have m13 : hq_isN (hq_gr s12 113 2) := hq_ifT h
  rw [if_pos m13] at h
  obtain ⟨x14, hx14, h⟩ := hq_bind h
  obtain ⟨s15, hs15, h⟩ := hq_bind h
  have q := hq_fc_st (W := (w_X3_takeLoot u)) hs15 (by first | decide | (rcases hu with rfl | rfl <;> decide) | (rw [gu]; rcases hu with rfl | rfl <;> decide) | simp [hq_has, hq_sub, w_X3_takeLoot])
  have t := hq_fc_tr t q
  have gu := (hq_st_gr hs15).trans gu
  have h := Option.some.inj h
  subst h
  exact t
def w_X3_pass (u : Nat) : List (Nat × Option Nat) := [(15, none), (38, none), (151, none), (u, some 0), (u, some 1), (u + 1, none), (u + 2, none), (u + 3, none), (u + 4, none), (u + 5, none), (u + 7, none), (u + 8, none)]
theorem f_X3_pass_L73_B_fw {n : Nat} {a1 : Int32} {q73 : Int32 → hq_S → Option hq_S} {u : Nat} {s : hq_S} {y : hq_S} (e73 : ∀ (a1 : Int32) (s : hq_S), hq_gr s 113 2 = u → q73 a1 s = some y → hq_fc (w_X3_pass u) s y) (hu : u = 76 ∨ u = 94) (gu : hq_gr s 113 2 = u) (h : f_X3_pass_L73_B n q73 a1 s = some y) : hq_fc (w_X3_pass u) s y := by
  unfold f_X3_pass_L73_B at h
  have t := hq_fc_rf (w_X3_pass u) s
  have m6 : hq_isT (hq_gr s 113 0) := hq_ifT h
  rw [if_pos m6] at h
  by_cases c7 : a1 < (hq_gi s (hq_gr s 113 0) 11)
  · rw [if_pos c7] at h
    have m10 : hq_isN (hq_gr s 113 2) := hq_ifT h
    rw [if_pos m10] at h
    obtain ⟨y11, hy11, h⟩ := hq_bind h
    have q0 := f_X5_isFree_fw m10 hy11
    have t := hq_fc_tr t (hq_fc_mono (W := (w_X3_pass u)) (by first | decide | (rcases hu with rfl | rfl <;> decide) | (rw [gu]; rcases hu with rfl | rfl <;> decide) | simp [hq_has, hq_sub, w_X3_pass]) q0)
    have gu := (q0 113 2 (by first | decide | (rcases hu with rfl | rfl <;> decide) | (rw [gu]; rcases hu with rfl | rfl <;> decide))).2.2.trans gu
    obtain ⟨z12, hz12, h⟩ := hq_bind h
    have tg : hq_fc (w_X3_pass u) s z12 ∧ hq_gr z12 113 2 = u := by
      clear h
      have h := hz12
      by_cases c13 : y11.1 = 0
      · rw [if_pos c13] at h
        cases h
        exact ⟨t, gu⟩
      · rw [if_neg c13] at h
        obtain ⟨s14, hs14, h⟩ := hq_bind h
        have q0 := f_X3_takeLoot_fw hu gu hs14
        have t := hq_fc_tr t (hq_fc_mono (W := (w_X3_pass u)) (by first | decide | (rcases hu with rfl | rfl <;> decide) | (rw [gu]; rcases hu with rfl | rfl <;> decide) | simp [hq_has, hq_sub, w_X3_pass]) q0)
        have gu := (q0 113 2 (by first | decide | (rcases hu with rfl | rfl <;> decide) | (rw [gu]; rcases hu with rfl | rfl <;> decide))).2.2.trans gu
        cases h
        exact ⟨t, gu⟩
    have t := tg.1
    have gu := tg.2
    exact hq_fc_tr t (e73 (a1 + (1 : Int32)) z12 gu h)
  · rw [if_neg c7] at h
    have m8 : hq_isN (hq_gr s 113 2) := hq_ifT h
    rw [if_pos m8] at h
    obtain ⟨s9, hs9, h⟩ := hq_bind h
    have q := hq_fc_pi (W := (w_X3_pass u)) hs9 (by first | decide | (rcases hu with rfl | rfl <;> decide) | (rw [gu]; rcases hu with rfl | rfl <;> decide) | simp [hq_has, hq_sub, w_X3_pass])
    have t := hq_fc_tr t q
    have gu := (hq_pi_gr hs9).trans gu
    have h := Option.some.inj h
    subst h
    exact t
theorem f_X3_pass_L73_fw {n m : Nat} {a1 : Int32} {u : Nat} {s : hq_S} {y : hq_S} (hu : u = 76 ∨ u = 94) (gu : hq_gr s 113 2 = u) (h : f_X3_pass_L73 n m a1 s = some y) : hq_fc (w_X3_pass u) s y := by
  induction m generalizing a1 s with
  | zero => cases h
  | succ m ih => exact f_X3_pass_L73_B_fw (n := n) (a1 := a1) (q73 := f_X3_pass_L73 n m) (fun a1 s gu h => ih gu h) hu gu h
theorem f_X3_pass_L49_B_fw {n : Nat} {a1 : Int32} {q49 : Int32 → hq_S → Option hq_S} {u : Nat} {s : hq_S} {y : hq_S} (e49 : ∀ (a1 : Int32) (s : hq_S), hq_gr s 113 2 = u → q49 a1 s = some y → hq_fc (w_X3_pass u) s y) (hu : u = 76 ∨ u = 94) (gu : hq_gr s 113 2 = u) (h : f_X3_pass_L49_B n q49 a1 s = some y) : hq_fc (w_X3_pass u) s y := by
  unfold f_X3_pass_L49_B at h
  have t := hq_fc_rf (w_X3_pass u) s
  have m4 : hq_isT (hq_gr s 113 0) := hq_ifT h
  rw [if_pos m4] at h
  by_cases c5 : a1 < (hq_gi s (hq_gr s 113 0) 7)
  · rw [if_pos c5] at h
    obtain ⟨s15, hs15, h⟩ := hq_bind h
    have q0 := f_X3_catchBy_fw hu gu hs15
    have t := hq_fc_tr t (hq_fc_mono (W := (w_X3_pass u)) (by first | decide | (rcases hu with rfl | rfl <;> decide) | (rw [gu]; rcases hu with rfl | rfl <;> decide) | simp [hq_has, hq_sub, w_X3_pass]) q0)
    have gu := (q0 113 2 (by first | decide | (rcases hu with rfl | rfl <;> decide) | (rw [gu]; rcases hu with rfl | rfl <;> decide))).2.2.trans gu
    exact hq_fc_tr t (e49 (a1 + (1 : Int32)) s15 gu h)
  · rw [if_neg c5] at h
    exact hq_fc_tr t (f_X3_pass_L73_fw hu gu h)
theorem f_X3_pass_L49_fw {n m : Nat} {a1 : Int32} {u : Nat} {s : hq_S} {y : hq_S} (hu : u = 76 ∨ u = 94) (gu : hq_gr s 113 2 = u) (h : f_X3_pass_L49 n m a1 s = some y) : hq_fc (w_X3_pass u) s y := by
  induction m generalizing a1 s with
  | zero => cases h
  | succ m ih => exact f_X3_pass_L49_B_fw (n := n) (a1 := a1) (q49 := f_X3_pass_L49 n m) (fun a1 s gu h => ih gu h) hu gu h
theorem f_X3_pass_L6_B_fw {n : Nat} {a1 : Int32} {q6 : Int32 → hq_S → Option hq_S} {u : Nat} {s : hq_S} {y : hq_S} (e6 : ∀ (a1 : Int32) (s : hq_S), hq_gr s 113 2 = u → q6 a1 s = some y → hq_fc (w_X3_pass u) s y) (hu : u = 76 ∨ u = 94) (gu : hq_gr s 113 2 = u) (h : f_X3_pass_L6_B n q6 a1 s = some y) : hq_fc (w_X3_pass u) s y := by
  unfold f_X3_pass_L6_B at h
  have t := hq_fc_rf (w_X3_pass u) s
  have m2 : hq_isT (hq_gr s 113 0) := hq_ifT h
  rw [if_pos m2] at h
  by_cases c3 : a1 < (hq_gi s (hq_gr s 113 0) 11)
  · rw [if_pos c3] at h
    have m16 : hq_isN (hq_gr s 113 2) := hq_ifT h
    rw [if_pos m16] at h
    obtain ⟨y17, hy17, h⟩ := hq_bind h
    have q0 := f_X5_isFree_fw m16 hy17
    have t := hq_fc_tr t (hq_fc_mono (W := (w_X3_pass u)) (by first | decide | (rcases hu with rfl | rfl <;> decide) | (rw [gu]; rcases hu with rfl | rfl <;> decide) | simp [hq_has, hq_sub, w_X3_pass]) q0)
    have gu := (q0 113 2 (by first | decide | (rcases hu with rfl | rfl <;> decide) | (rw [gu]; rcases hu with rfl | rfl <;> decide))).2.2.trans gu
    obtain ⟨z18, hz18, h⟩ := hq_bind h
    have tg : hq_fc (w_X3_pass u) s z18 ∧ hq_gr z18 113 2 = u := by
      clear h
      have h := hz18
      by_cases c19 : y17.1 = 0
      · rw [if_pos c19] at h
        cases h
        exact ⟨t, gu⟩
      · rw [if_neg c19] at h
        obtain ⟨y20, hy20, h⟩ := hq_bind h
        have q0 := f_X3_stirs_fw hy20
        have t := hq_fc_tr t (hq_fc_mono (W := (w_X3_pass u)) (by first | decide | (rcases hu with rfl | rfl <;> decide) | (rw [gu]; rcases hu with rfl | rfl <;> decide) | simp [hq_has, hq_sub, w_X3_pass]) q0)
        have gu := (q0 113 2 (by first | decide | (rcases hu with rfl | rfl <;> decide) | (rw [gu]; rcases hu with rfl | rfl <;> decide))).2.2.trans gu
        by_cases c21 : y20.1 = 0
        · rw [if_pos c21] at h
          cases h
          exact ⟨t, gu⟩
        · rw [if_neg c21] at h
          obtain ⟨s22, hs22, h⟩ := hq_bind h
          have q0 := f_X3_goWhereDreadIsLeast_fw hu gu hs22
          have t := hq_fc_tr t (hq_fc_mono (W := (w_X3_pass u)) (by first | decide | (rcases hu with rfl | rfl <;> decide) | (rw [gu]; rcases hu with rfl | rfl <;> decide) | simp [hq_has, hq_sub, w_X3_pass]) q0)
          have gu := (q0 113 2 (by first | decide | (rcases hu with rfl | rfl <;> decide) | (rw [gu]; rcases hu with rfl | rfl <;> decide))).2.2.trans gu
          cases h
          exact ⟨t, gu⟩
    have t := tg.1
    have gu := tg.2
    exact hq_fc_tr t (e6 (a1 + (1 : Int32)) z18 gu h)
  · rw [if_neg c3] at h
    exact hq_fc_tr t (f_X3_pass_L49_fw hu gu h)
theorem f_X3_pass_L6_fw {n m : Nat} {a1 : Int32} {u : Nat} {s : hq_S} {y : hq_S} (hu : u = 76 ∨ u = 94) (gu : hq_gr s 113 2 = u) (h : f_X3_pass_L6 n m a1 s = some y) : hq_fc (w_X3_pass u) s y := by
  induction m generalizing a1 s with
  | zero => cases h
  | succ m ih => exact f_X3_pass_L6_B_fw (n := n) (a1 := a1) (q6 := f_X3_pass_L6 n m) (fun a1 s gu h => ih gu h) hu gu h
theorem f_X3_pass_fw {n : Nat} {u : Nat} {s : hq_S} {y : hq_S} (hu : u = 76 ∨ u = 94) (gu : hq_gr s 113 2 = u) (h : f_X3_pass n s = some y) : hq_fc (w_X3_pass u) s y := by
  unfold f_X3_pass at h
  have t := hq_fc_rf (w_X3_pass u) s
  obtain ⟨s1, hs1, h⟩ := hq_bind h
  have q0 := f_X3_walkBeats_fw hu gu hs1
  have t := hq_fc_tr t (hq_fc_mono (W := (w_X3_pass u)) (by first | decide | (rcases hu with rfl | rfl <;> decide) | (rw [gu]; rcases hu with rfl | rfl <;> decide) | simp [hq_has, hq_sub, w_X3_pass]) q0)
  have gu := (q0 113 2 (by first | decide | (rcases hu with rfl | rfl <;> decide) | (rw [gu]; rcases hu with rfl | rfl <;> decide))).2.2.trans gu
  exact hq_fc_tr t (f_X3_pass_L6_fw hu gu h)
def w_X2_boldsOf (u : Nat) : List (Nat × Option Nat) := [(15, none), (38, none), (151, none), (169, none), (u, some 0), (u, some 1), (u, some 2), (u + 1, none), (u + 2, none), (u + 3, none), (u + 4, none), (u + 5, none), (u + 6, none), (u + 7, none), (u + 8, none)]
theorem f_X2_boldsOf_J91_fw {n : Nat} {a1 : Int32} {k3 : Nat} {a4 : Int32} {a5 : Int32} {a6 : Int32} {a7 : Int32} {a8 : Int32} {a9 : Int32} {q12 : Int32 → Nat → Int32 → Int32 → Int32 → Int32 → hq_S → Option (Int32 × hq_S)} {u : Nat} {s : hq_S} {y : (Int32 × hq_S)} (e12 : ∀ (a1 : Int32) (k3 : Nat) (a4 : Int32) (a5 : Int32) (a6 : Int32) (a7 : Int32) (o8 : Option Value) (o9 : Option Value) (s : hq_S) (m3_ : hq_isN k3), hq_gr s 113 2 = u → q12 a1 k3 a4 a5 a6 a7 s = some y → hq_fc (w_X2_boldsOf u) s y.2) (m3_ : hq_isN k3) (hu : u = 76 ∨ u = 94) (gu : hq_gr s 113 2 = u) (h : f_X2_boldsOf_J91 n q12 a1 k3 a4 a5 a6 a7 a8 a9 s = some y) : hq_fc (w_X2_boldsOf u) s y.2 := by
  unfold f_X2_boldsOf_J91 at h
  have t := hq_fc_rf (w_X2_boldsOf u) s
  obtain ⟨z5, hz5, h⟩ := hq_bind h
  exact hq_fc_tr t (e12 a1 k3 a4 a5 (a6 ||| z5) (a7 + (1 : Int32)) none none s m3_ gu h)
theorem f_X2_boldsOf_L33_B_fw {n : Nat} {a1 : Int32} {k3 : Nat} {a4 : Int32} {a5 : Int32} {a6 : Int32} {a7 : Int32} {a8 : Int32} {a9 : Int32} {q12 : Int32 → Nat → Int32 → Int32 → Int32 → Int32 → hq_S → Option (Int32 × hq_S)} {q33 : Int32 → Nat → Int32 → Int32 → Int32 → Int32 → Int32 → Int32 → hq_S → Option (Int32 × hq_S)} {u : Nat} {s : hq_S} {y : (Int32 × hq_S)} (e12 : ∀ (a1 : Int32) (k3 : Nat) (a4 : Int32) (a5 : Int32) (a6 : Int32) (a7 : Int32) (o8 : Option Value) (o9 : Option Value) (s : hq_S) (m3_ : hq_isN k3), hq_gr s 113 2 = u → q12 a1 k3 a4 a5 a6 a7 s = some y → hq_fc (w_X2_boldsOf u) s y.2) (e33 : ∀ (a1 : Int32) (k3 : Nat) (a4 : Int32) (a5 : Int32) (a6 : Int32) (a7 : Int32) (a8 : Int32) (a9 : Int32) (s : hq_S) (m3_ : hq_isN k3), hq_gr s 113 2 = u → q33 a1 k3 a4 a5 a6 a7 a8 a9 s = some y → hq_fc (w_X2_boldsOf u) s y.2) (m3_ : hq_isN k3) (hu : u = 76 ∨ u = 94) (gu : hq_gr s 113 2 = u) (h : f_X2_boldsOf_L33_B n q12 q33 a1 k3 a4 a5 a6 a7 a8 a9 s = some y) : hq_fc (w_X2_boldsOf u) s y.2 := by
  unfold f_X2_boldsOf_L33_B at h
  have t := hq_fc_rf (w_X2_boldsOf u) s
  by_cases c4 : a4 < a9
  · rw [if_pos c4] at h
    exact hq_fc_tr t (f_X2_boldsOf_J91_fw e12 m3_ hu gu h)
  · rw [if_neg c4] at h
    by_cases c7 : (60 : Int32) < a9
    · rw [if_pos c7] at h
      exact hq_fc_tr t (f_X2_boldsOf_J91_fw e12 m3_ hu gu h)
    · rw [if_neg c7] at h
      by_cases c8 : a8 = 0
      · rw [if_pos c8] at h
        exact hq_fc_tr t (f_X2_boldsOf_J91_fw e12 m3_ hu gu h)
      · rw [if_neg c8] at h
        obtain ⟨s9, hs9, h⟩ := hq_bind h
        have q0 := f_X3_pass_fw hu gu hs9
        have t := hq_fc_tr t (hq_fc_mono (W := (w_X2_boldsOf u)) (by first | decide | (rcases hu with rfl | rfl <;> decide) | (rw [gu]; rcases hu with rfl | rfl <;> decide) | simp [hq_has, hq_sub, w_X2_boldsOf]) q0)
        have gu := (q0 113 2 (by first | decide | (rcases hu with rfl | rfl <;> decide) | (rw [gu]; rcases hu with rfl | rfl <;> decide))).2.2.trans gu
        obtain ⟨y10, hy10, h⟩ := hq_bind h
        have q0 := f_X3_hadOfThief_fw hy10
        have t := hq_fc_tr t (hq_fc_mono (W := (w_X2_boldsOf u)) (by first | decide | (rcases hu with rfl | rfl <;> decide) | (rw [gu]; rcases hu with rfl | rfl <;> decide) | simp [hq_has, hq_sub, w_X2_boldsOf]) q0)
        have gu := (q0 113 2 (by first | decide | (rcases hu with rfl | rfl <;> decide) | (rw [gu]; rcases hu with rfl | rfl <;> decide))).2.2.trans gu
        obtain ⟨s11, hs11, h⟩ := hq_bind h
        have q := hq_fc_st (W := (w_X2_boldsOf u)) hs11 (by first | decide | (rcases hu with rfl | rfl <;> decide) | (rw [gu]; rcases hu with rfl | rfl <;> decide) | simp [hq_has, hq_sub, w_X2_boldsOf])
        have t := hq_fc_tr t q
        have gu := (hq_st_gr hs11).trans gu
        obtain ⟨y12, hy12, h⟩ := hq_bind h
        have q0 := f_X2_areSo_fw hy12
        have t := hq_fc_tr t (hq_fc_mono (W := (w_X2_boldsOf u)) (by first | decide | (rcases hu with rfl | rfl <;> decide) | (rw [gu]; rcases hu with rfl | rfl <;> decide) | simp [hq_has, hq_sub, w_X2_boldsOf]) q0)
        have gu := (q0 113 2 (by first | decide | (rcases hu with rfl | rfl <;> decide) | (rw [gu]; rcases hu with rfl | rfl <;> decide))).2.2.trans gu
        exact hq_fc_tr t (e33 a1 k3 a4 a5 a6 a7 y12.1 (a9 + (1 : Int32)) y12.2 m3_ gu h)
theorem f_X2_boldsOf_L33_fw {n m : Nat} {a1 : Int32} {k3 : Nat} {a4 : Int32} {a5 : Int32} {a6 : Int32} {a7 : Int32} {a8 : Int32} {a9 : Int32} {q12 : Int32 → Nat → Int32 → Int32 → Int32 → Int32 → hq_S → Option (Int32 × hq_S)} {u : Nat} {s : hq_S} {y : (Int32 × hq_S)} (e12 : ∀ (a1 : Int32) (k3 : Nat) (a4 : Int32) (a5 : Int32) (a6 : Int32) (a7 : Int32) (o8 : Option Value) (o9 : Option Value) (s : hq_S) (m3_ : hq_isN k3), hq_gr s 113 2 = u → q12 a1 k3 a4 a5 a6 a7 s = some y → hq_fc (w_X2_boldsOf u) s y.2) (m3_ : hq_isN k3) (hu : u = 76 ∨ u = 94) (gu : hq_gr s 113 2 = u) (h : f_X2_boldsOf_L33 n q12 m a1 k3 a4 a5 a6 a7 a8 a9 s = some y) : hq_fc (w_X2_boldsOf u) s y.2 := by
  induction m generalizing a1 k3 a4 a5 a6 a7 a8 a9 s with
  | zero => cases h
  | succ m ih => exact f_X2_boldsOf_L33_B_fw (n := n) (a1 := a1) (k3 := k3) (a4 := a4) (a5 := a5) (a6 := a6) (a7 := a7) (a8 := a8) (a9 := a9) (q33 := f_X2_boldsOf_L33 n q12 m) e12 (fun a1 k3 a4 a5 a6 a7 a8 a9 s m3_ gu h => ih m3_ gu h) m3_ hu gu h
theorem f_X2_boldsOf_L12_B_fw {n : Nat} {a1 : Int32} {k3 : Nat} {a4 : Int32} {a5 : Int32} {a6 : Int32} {a7 : Int32} {q12 : Int32 → Nat → Int32 → Int32 → Int32 → Int32 → hq_S → Option (Int32 × hq_S)} {u : Nat} {s : hq_S} {y : (Int32 × hq_S)} (e12 : ∀ (a1 : Int32) (k3 : Nat) (a4 : Int32) (a5 : Int32) (a6 : Int32) (a7 : Int32) (o8 : Option Value) (o9 : Option Value) (s : hq_S) (m3_ : hq_isN k3), hq_gr s 113 2 = u → q12 a1 k3 a4 a5 a6 a7 s = some y → hq_fc (w_X2_boldsOf u) s y.2) (m3_ : hq_isN k3) (hu : u = 76 ∨ u = 94) (gu : hq_gr s 113 2 = u) (h : f_X2_boldsOf_L12_B n q12 a1 k3 a4 a5 a6 a7 s = some y) : hq_fc (w_X2_boldsOf u) s y.2 := by
  unfold f_X2_boldsOf_L12_B at h
  have t := hq_fc_rf (w_X2_boldsOf u) s
  by_cases c2 : a7 < (10 : Int32)
  · rw [if_pos c2] at h
    obtain ⟨s3, hs3, h⟩ := hq_bind h
    have q0 := f_X3_restart_fw m3_ hu gu hs3
    have t := hq_fc_tr t (hq_fc_mono (W := (w_X2_boldsOf u)) (by first | decide | (rcases hu with rfl | rfl <;> decide) | (rw [gu]; rcases hu with rfl | rfl <;> decide) | simp [hq_has, hq_sub, w_X2_boldsOf]) q0)
    have gu := (q0 113 2 (by first | decide | (rcases hu with rfl | rfl <;> decide) | (rw [gu]; rcases hu with rfl | rfl <;> decide))).2.2.trans gu
    exact hq_fc_tr t (f_X2_boldsOf_L33_fw e12 m3_ hu gu h)
  · rw [if_neg c2] at h
    have h := Option.some.inj h
    subst h
    exact t
theorem f_X2_boldsOf_L12_fw {n m : Nat} {a1 : Int32} {k3 : Nat} {a4 : Int32} {a5 : Int32} {a6 : Int32} {a7 : Int32} {u : Nat} {s : hq_S} {y : (Int32 × hq_S)} (m3_ : hq_isN k3) (hu : u = 76 ∨ u = 94) (gu : hq_gr s 113 2 = u) (h : f_X2_boldsOf_L12 n m a1 k3 a4 a5 a6 a7 s = some y) : hq_fc (w_X2_boldsOf u) s y.2 := by
  induction m generalizing a1 k3 a4 a5 a6 a7 s with
  | zero => cases h
  | succ m ih => exact f_X2_boldsOf_L12_B_fw (n := n) (a1 := a1) (k3 := k3) (a4 := a4) (a5 := a5) (a6 := a6) (a7 := a7) (q12 := f_X2_boldsOf_L12 n m) (fun a1 k3 a4 a5 a6 a7 _ _ s m3_ gu h => ih m3_ gu h) m3_ hu gu h
theorem f_X2_boldsOf_fw {n : Nat} {a1 : Int32} {k3 : Nat} {a4 : Int32} {u : Nat} {s : hq_S} {y : (Int32 × hq_S)} (m3_ : hq_isN k3) (hu : u = 76 ∨ u = 94) (gu : hq_gr s 113 2 = u) (h : f_X2_boldsOf n a1 k3 a4 s = some y) : hq_fc (w_X2_boldsOf u) s y.2 := by
  unfold f_X2_boldsOf at h
  have t := hq_fc_rf (w_X2_boldsOf u) s
  obtain ⟨y1, hy1, h⟩ := hq_bind h
  have q0 := f_X2_standing_fw hy1
  have t := hq_fc_tr t (hq_fc_mono (W := (w_X2_boldsOf u)) (by first | decide | (rcases hu with rfl | rfl <;> decide) | (rw [gu]; rcases hu with rfl | rfl <;> decide) | simp [hq_has, hq_sub, w_X2_boldsOf]) q0)
  have gu := (q0 113 2 (by first | decide | (rcases hu with rfl | rfl <;> decide) | (rw [gu]; rcases hu with rfl | rfl <;> decide))).2.2.trans gu
  exact hq_fc_tr t (f_X2_boldsOf_L12_fw m3_ hu gu h)
def w_X3_passMany (u : Nat) : List (Nat × Option Nat) := [(15, none), (38, none), (151, none), (u, some 0), (u, some 1), (u + 1, none), (u + 2, none), (u + 3, none), (u + 4, none), (u + 5, none), (u + 7, none), (u + 8, none)]
theorem f_X3_passMany_L2_B_fw {n : Nat} {a1 : Int32} {a2 : Int32} {q2 : Int32 → Int32 → hq_S → Option hq_S} {u : Nat} {s : hq_S} {y : hq_S} (e2 : ∀ (a1 : Int32) (a2 : Int32) (s : hq_S), hq_gr s 113 2 = u → q2 a1 a2 s = some y → hq_fc (w_X3_passMany u) s y) (hu : u = 76 ∨ u = 94) (gu : hq_gr s 113 2 = u) (h : f_X3_passMany_L2_B n q2 a1 a2 s = some y) : hq_fc (w_X3_passMany u) s y := by
  unfold f_X3_passMany_L2_B at h
  have t := hq_fc_rf (w_X3_passMany u) s
  by_cases c1 : a2 < a1
  · rw [if_pos c1] at h
    obtain ⟨s2, hs2, h⟩ := hq_bind h
    have q0 := f_X3_pass_fw hu gu hs2
    have t := hq_fc_tr t (hq_fc_mono (W := (w_X3_passMany u)) (by first | decide | (rcases hu with rfl | rfl <;> decide) | (rw [gu]; rcases hu with rfl | rfl <;> decide) | simp [hq_has, hq_sub, w_X3_passMany]) q0)
    have gu := (q0 113 2 (by first | decide | (rcases hu with rfl | rfl <;> decide) | (rw [gu]; rcases hu with rfl | rfl <;> decide))).2.2.trans gu
    exact hq_fc_tr t (e2 a1 (a2 + (1 : Int32)) s2 gu h)
  · rw [if_neg c1] at h
    have h := Option.some.inj h
    subst h
    exact t
theorem f_X3_passMany_L2_fw {n m : Nat} {a1 : Int32} {a2 : Int32} {u : Nat} {s : hq_S} {y : hq_S} (hu : u = 76 ∨ u = 94) (gu : hq_gr s 113 2 = u) (h : f_X3_passMany_L2 n m a1 a2 s = some y) : hq_fc (w_X3_passMany u) s y := by
  induction m generalizing a1 a2 s with
  | zero => cases h
  | succ m ih => exact f_X3_passMany_L2_B_fw (n := n) (a1 := a1) (a2 := a2) (q2 := f_X3_passMany_L2 n m) (fun a1 a2 s gu h => ih gu h) hu gu h
theorem f_X3_passMany_fw {n : Nat} {a1 : Int32} {u : Nat} {s : hq_S} {y : hq_S} (hu : u = 76 ∨ u = 94) (gu : hq_gr s 113 2 = u) (h : f_X3_passMany n a1 s = some y) : hq_fc (w_X3_passMany u) s y := by
  unfold f_X3_passMany at h
  have t := hq_fc_rf (w_X3_passMany u) s
  exact hq_fc_tr t (f_X3_passMany_L2_fw hu gu h)
def w_J7_fill_53178 (k0 : Nat) : List (Nat × Option Nat) := [(k0, none)]
theorem f_J7_fill_53178_L5_B_fw {n : Nat} {k0 : Nat} {a1 : Int32} {a2 : Int32} {a3 : Int32} {q5 : Nat → Int32 → Int32 → Int32 → hq_S → Option hq_S} {s : hq_S} {y : hq_S} (e5 : ∀ (k0 : Nat) (a1 : Int32) (a2 : Int32) (a3 : Int32) (s : hq_S), q5 k0 a1 a2 a3 s = some y → hq_fc (w_J7_fill_53178 k0) s y) (h : f_J7_fill_53178_L5_B n q5 k0 a1 a2 a3 s = some y) : hq_fc (w_J7_fill_53178 k0) s y := by
  unfold f_J7_fill_53178_L5_B at h
  have t := hq_fc_rf (w_J7_fill_53178 k0) s
  by_cases c2 : a2 < a3
  · rw [if_pos c2] at h
    obtain ⟨s3, hs3, h⟩ := hq_bind h
    have q := hq_fc_stiA (W := (w_J7_fill_53178 k0)) hs3 (by first | decide | simp [hq_has, hq_sub, w_J7_fill_53178])
    have t := hq_fc_tr t q
    exact hq_fc_tr t (e5 k0 a1 (a2 + (1 : Int32)) a3 s3 h)
  · rw [if_neg c2] at h
    have h := Option.some.inj h
    subst h
    exact t
theorem f_J7_fill_53178_L5_fw {n m : Nat} {k0 : Nat} {a1 : Int32} {a2 : Int32} {a3 : Int32} {s : hq_S} {y : hq_S} (h : f_J7_fill_53178_L5 n m k0 a1 a2 a3 s = some y) : hq_fc (w_J7_fill_53178 k0) s y := by
  induction m generalizing k0 a1 a2 a3 s with
  | zero => cases h
  | succ m ih => exact f_J7_fill_53178_L5_B_fw (n := n) (k0 := k0) (a1 := a1) (a2 := a2) (a3 := a3) (q5 := f_J7_fill_53178_L5 n m) (fun k0 a1 a2 a3 s h => ih h) h
theorem f_J7_fill_53178_fw {n : Nat} {k0 : Nat} {a1 : Int32} {s : hq_S} {y : hq_S} (h : f_J7_fill_53178 n k0 a1 s = some y) : hq_fc (w_J7_fill_53178 k0) s y := by
  unfold f_J7_fill_53178 at h
  have t := hq_fc_rf (w_J7_fill_53178 k0) s
  obtain ⟨x1, hx1, h⟩ := hq_bind h
  exact hq_fc_tr t (f_J7_fill_53178_L5_fw h)
def w_X4_clear (k0 : Nat) : List (Nat × Option Nat) := [(k0, some 0), (k0, some 1), (k0 + 2, none), (k0 + 3, none)]
theorem f_X4_clear_fw {n : Nat} {k0 : Nat} {s : hq_S} {y : hq_S} (m0_ : hq_isL k0) (h : f_X4_clear n k0 s = some y) : hq_fc (w_X4_clear k0) s y := by
  unfold f_X4_clear at h
  have t := hq_fc_rf (w_X4_clear k0) s
  obtain ⟨s1, hs1, h⟩ := hq_bind h
  have q := hq_fc_pi (W := (w_X4_clear k0)) hs1 (by first | decide | (rcases m0_ with rfl | rfl <;> decide) | simp [hq_has, hq_sub, w_X4_clear])
  have t := hq_fc_tr t q
  obtain ⟨s2, hs2, h⟩ := hq_bind h
  have q := hq_fc_pi (W := (w_X4_clear k0)) hs2 (by first | decide | (rcases m0_ with rfl | rfl <;> decide) | simp [hq_has, hq_sub, w_X4_clear])
  have t := hq_fc_tr t q
  obtain ⟨s3, hs3, h⟩ := hq_bind h
  have q0 := f_J7_fill_53178_fw hs3
  have t := hq_fc_tr t (hq_fc_mono (W := (w_X4_clear k0)) (by first | decide | (rcases m0_ with rfl | rfl <;> decide) | simp [hq_has, hq_sub, w_X4_clear]) q0)
  obtain ⟨s4, hs4, h⟩ := hq_bind h
  have q0 := f_J7_fill_53178_fw hs4
  have t := hq_fc_tr t (hq_fc_mono (W := (w_X4_clear k0)) (by first | decide | (rcases m0_ with rfl | rfl <;> decide) | simp [hq_has, hq_sub, w_X4_clear]) q0)
  have h := Option.some.inj h
  subst h
  exact t
def w_X4_open (k0 : Nat) : List (Nat × Option Nat) := [(k0 + 2, none)]
theorem f_X4_open_fw {n : Nat} {k0 : Nat} {a1 : Int32} {s : hq_S} {y : hq_S} (m0_ : hq_isL k0) (h : f_X4_open n k0 a1 s = some y) : hq_fc (w_X4_open k0) s y := by
  unfold f_X4_open at h
  have t := hq_fc_rf (w_X4_open k0) s
  obtain ⟨s1, hs1, h⟩ := hq_bind h
  have q := hq_fc_st (W := (w_X4_open k0)) hs1 (by first | decide | (rcases m0_ with rfl | rfl <;> decide) | simp [hq_has, hq_sub, w_X4_open])
  have t := hq_fc_tr t q
  have h := Option.some.inj h
  subst h
  exact t
def w_X4_close (k0 : Nat) : List (Nat × Option Nat) := [(k0 + 3, none)]
theorem f_X4_close_fw {n : Nat} {k0 : Nat} {a1 : Int32} {s : hq_S} {y : hq_S} (m0_ : hq_isL k0) (h : f_X4_close n k0 a1 s = some y) : hq_fc (w_X4_close k0) s y := by
  unfold f_X4_close at h
  have t := hq_fc_rf (w_X4_close k0) s
  obtain ⟨s1, hs1, h⟩ := hq_bind h
  have q := hq_fc_st (W := (w_X4_close k0)) hs1 (by first | decide | (rcases m0_ with rfl | rfl <;> decide) | simp [hq_has, hq_sub, w_X4_close])
  have t := hq_fc_tr t q
  have h := Option.some.inj h
  subst h
  exact t
def w_X4_tellKnot (k0 : Nat) : List (Nat × Option Nat) := [(k0, some 0)]
theorem f_X4_tellKnot_fw {n : Nat} {k0 : Nat} {s : hq_S} {y : (Int32 × hq_S)} (m0_ : hq_isL k0) (h : f_X4_tellKnot n k0 s = some y) : hq_fc (w_X4_tellKnot k0) s y.2 := by
  unfold f_X4_tellKnot at h
  have t := hq_fc_rf (w_X4_tellKnot k0) s
  by_cases c1 : (hq_gi s k0 0) < (64 : Int32)
  · rw [if_pos c1] at h
    obtain ⟨s2, hs2, h⟩ := hq_bind h
    have q := hq_fc_pi (W := (w_X4_tellKnot k0)) hs2 (by first | decide | (rcases m0_ with rfl | rfl <;> decide) | simp [hq_has, hq_sub, w_X4_tellKnot])
    have t := hq_fc_tr t q
    have h := Option.some.inj h
    subst h
    exact t
  · rw [if_neg c1] at h
    have h := Option.some.inj h
    subst h
    exact t
def w_X4_put (k0 : Nat) : List (Nat × Option Nat) := [(k0, some 1), (k0 + 1, none)]
theorem f_X4_put_fw {n : Nat} {k0 : Nat} {a1 : Int32} {s : hq_S} {y : hq_S} (m0_ : hq_isL k0) (h : f_X4_put n k0 a1 s = some y) : hq_fc (w_X4_put k0) s y := by
  unfold f_X4_put at h
  have t := hq_fc_rf (w_X4_put k0) s
  by_cases c1 : (hq_gi s k0 1) < (64 : Int32)
  · rw [if_pos c1] at h
    obtain ⟨s2, hs2, h⟩ := hq_bind h
    have q := hq_fc_st (W := (w_X4_put k0)) hs2 (by first | decide | (rcases m0_ with rfl | rfl <;> decide) | simp [hq_has, hq_sub, w_X4_put])
    have t := hq_fc_tr t q
    obtain ⟨s3, hs3, h⟩ := hq_bind h
    have q := hq_fc_pi (W := (w_X4_put k0)) hs3 (by first | decide | (rcases m0_ with rfl | rfl <;> decide) | simp [hq_has, hq_sub, w_X4_put])
    have t := hq_fc_tr t q
    have h := Option.some.inj h
    subst h
    exact t
  · rw [if_neg c1] at h
    have h := Option.some.inj h
    subst h
    exact t
def w_X5_clear (k0 : Nat) : List (Nat × Option Nat) := [(k0, some 0), (k0, some 1), (k0, some 2), (k0 + 1, none), (k0 + 2, none), (k0 + 3, none), (k0 + 4, none), (k0 + 5, none), (k0 + 6, none), (k0 + 7, none), (k0 + 8, none)]
theorem f_X5_clear_fw {n : Nat} {k0 : Nat} {s : hq_S} {y : hq_S} (m0_ : hq_isN k0) (h : f_X5_clear n k0 s = some y) : hq_fc (w_X5_clear k0) s y := by
  unfold f_X5_clear at h
  have t := hq_fc_rf (w_X5_clear k0) s
  obtain ⟨s1, hs1, h⟩ := hq_bind h
  have q := hq_fc_pi (W := (w_X5_clear k0)) hs1 (by first | decide | (rcases m0_ with rfl | rfl | rfl | rfl | rfl <;> decide) | simp [hq_has, hq_sub, w_X5_clear])
  have t := hq_fc_tr t q
  obtain ⟨s2, hs2, h⟩ := hq_bind h
  have q := hq_fc_pj (W := (w_X5_clear k0)) hs2 (by first | decide | (rcases m0_ with rfl | rfl | rfl | rfl | rfl <;> decide) | simp [hq_has, hq_sub, w_X5_clear])
  have t := hq_fc_tr t q
  obtain ⟨s3, hs3, h⟩ := hq_bind h
  have q := hq_fc_pi (W := (w_X5_clear k0)) hs3 (by first | decide | (rcases m0_ with rfl | rfl | rfl | rfl | rfl <;> decide) | simp [hq_has, hq_sub, w_X5_clear])
  have t := hq_fc_tr t q
  obtain ⟨s4, hs4, h⟩ := hq_bind h
  have q0 := f_J7_fill_53178_fw hs4
  have t := hq_fc_tr t (hq_fc_mono (W := (w_X5_clear k0)) (by first | decide | (rcases m0_ with rfl | rfl | rfl | rfl | rfl <;> decide) | simp [hq_has, hq_sub, w_X5_clear]) q0)
  obtain ⟨s5, hs5, h⟩ := hq_bind h
  have q0 := f_J7_fill_53178_fw hs5
  have t := hq_fc_tr t (hq_fc_mono (W := (w_X5_clear k0)) (by first | decide | (rcases m0_ with rfl | rfl | rfl | rfl | rfl <;> decide) | simp [hq_has, hq_sub, w_X5_clear]) q0)
  obtain ⟨s6, hs6, h⟩ := hq_bind h
  have q0 := f_J7_fill_53178_fw hs6
  have t := hq_fc_tr t (hq_fc_mono (W := (w_X5_clear k0)) (by first | decide | (rcases m0_ with rfl | rfl | rfl | rfl | rfl <;> decide) | simp [hq_has, hq_sub, w_X5_clear]) q0)
  obtain ⟨s7, hs7, h⟩ := hq_bind h
  have q0 := f_J7_fill_53178_fw hs7
  have t := hq_fc_tr t (hq_fc_mono (W := (w_X5_clear k0)) (by first | decide | (rcases m0_ with rfl | rfl | rfl | rfl | rfl <;> decide) | simp [hq_has, hq_sub, w_X5_clear]) q0)
  obtain ⟨s8, hs8, h⟩ := hq_bind h
  have q0 := f_J7_fill_53178_fw hs8
  have t := hq_fc_tr t (hq_fc_mono (W := (w_X5_clear k0)) (by first | decide | (rcases m0_ with rfl | rfl | rfl | rfl | rfl <;> decide) | simp [hq_has, hq_sub, w_X5_clear]) q0)
  obtain ⟨s9, hs9, h⟩ := hq_bind h
  have q0 := f_J7_fill_53178_fw hs9
  have t := hq_fc_tr t (hq_fc_mono (W := (w_X5_clear k0)) (by first | decide | (rcases m0_ with rfl | rfl | rfl | rfl | rfl <;> decide) | simp [hq_has, hq_sub, w_X5_clear]) q0)
  obtain ⟨s10, hs10, h⟩ := hq_bind h
  have q0 := f_J7_fill_53178_fw hs10
  have t := hq_fc_tr t (hq_fc_mono (W := (w_X5_clear k0)) (by first | decide | (rcases m0_ with rfl | rfl | rfl | rfl | rfl <;> decide) | simp [hq_has, hq_sub, w_X5_clear]) q0)
  obtain ⟨s11, hs11, h⟩ := hq_bind h
  have q0 := f_J7_fill_53178_fw hs11
  have t := hq_fc_tr t (hq_fc_mono (W := (w_X5_clear k0)) (by first | decide | (rcases m0_ with rfl | rfl | rfl | rfl | rfl <;> decide) | simp [hq_has, hq_sub, w_X5_clear]) q0)
  have h := Option.some.inj h
  subst h
  exact t
def w_X10_clear (k0 : Nat) : List (Nat × Option Nat) := [(k0, some 0), (k0, some 3), (k0, some 6), (k0, some 7), (k0, some 11), (k0, some 13), (k0, some 14), (k0, some 15), (k0 + 7, none), (k0 + 9, some 0), (k0 + 9, some 1), (k0 + 11, none), (k0 + 12, none), (k0 + 14, some 0), (k0 + 14, some 1), (k0 + 14, some 2), (k0 + 15, none), (k0 + 16, none), (k0 + 17, none), (k0 + 18, none), (k0 + 19, none), (k0 + 20, none), (k0 + 21, none), (k0 + 22, none)]
theorem f_X10_clear_fw {n : Nat} {k0 : Nat} {s : hq_S} {y : hq_S} (m0_ : hq_isT k0) (h : f_X10_clear n k0 s = some y) : hq_fc (w_X10_clear k0) s y := by
  unfold f_X10_clear at h
  have t := hq_fc_rf (w_X10_clear k0) s
  obtain ⟨s1, hs1, h⟩ := hq_bind h
  have q := hq_fc_pi (W := (w_X10_clear k0)) hs1 (by first | decide | (rcases m0_ with rfl | rfl <;> decide) | simp [hq_has, hq_sub, w_X10_clear])
  have t := hq_fc_tr t q
  obtain ⟨s2, hs2, h⟩ := hq_bind h
  have q := hq_fc_pi (W := (w_X10_clear k0)) hs2 (by first | decide | (rcases m0_ with rfl | rfl <;> decide) | simp [hq_has, hq_sub, w_X10_clear])
  have t := hq_fc_tr t q
  obtain ⟨s3, hs3, h⟩ := hq_bind h
  have q := hq_fc_pi (W := (w_X10_clear k0)) hs3 (by first | decide | (rcases m0_ with rfl | rfl <;> decide) | simp [hq_has, hq_sub, w_X10_clear])
  have t := hq_fc_tr t q
  obtain ⟨s4, hs4, h⟩ := hq_bind h
  have q := hq_fc_pi (W := (w_X10_clear k0)) hs4 (by first | decide | (rcases m0_ with rfl | rfl <;> decide) | simp [hq_has, hq_sub, w_X10_clear])
  have t := hq_fc_tr t q
  obtain ⟨s5, hs5, h⟩ := hq_bind h
  have q0 := f_J7_fill_53178_fw hs5
  have t := hq_fc_tr t (hq_fc_mono (W := (w_X10_clear k0)) (by first | decide | (rcases m0_ with rfl | rfl <;> decide) | simp [hq_has, hq_sub, w_X10_clear]) q0)
  obtain ⟨s6, hs6, h⟩ := hq_bind h
  have q := hq_fc_pi (W := (w_X10_clear k0)) hs6 (by first | decide | (rcases m0_ with rfl | rfl <;> decide) | simp [hq_has, hq_sub, w_X10_clear])
  have t := hq_fc_tr t q
  obtain ⟨s7, hs7, h⟩ := hq_bind h
  have q := hq_fc_pi (W := (w_X10_clear k0)) hs7 (by first | decide | (rcases m0_ with rfl | rfl <;> decide) | simp [hq_has, hq_sub, w_X10_clear])
  have t := hq_fc_tr t q
  obtain ⟨s8, hs8, h⟩ := hq_bind h
  have q := hq_fc_pi (W := (w_X10_clear k0)) hs8 (by first | decide | (rcases m0_ with rfl | rfl <;> decide) | simp [hq_has, hq_sub, w_X10_clear])
  have t := hq_fc_tr t q
  obtain ⟨s9, hs9, h⟩ := hq_bind h
  have q := hq_fc_pi (W := (w_X10_clear k0)) hs9 (by first | decide | (rcases m0_ with rfl | rfl <;> decide) | simp [hq_has, hq_sub, w_X10_clear])
  have t := hq_fc_tr t q
  obtain ⟨s10, hs10, h⟩ := hq_bind h
  have q0 := f_X4_clear_fw (hq_shT_m9 m0_) hs10
  have t := hq_fc_tr t (hq_fc_mono (W := (w_X10_clear k0)) (by first | decide | (rcases m0_ with rfl | rfl <;> decide) | simp [hq_has, hq_sub, w_X10_clear]) q0)
  obtain ⟨s11, hs11, h⟩ := hq_bind h
  have q0 := f_X5_clear_fw (hq_shT_m14 m0_) hs11
  have t := hq_fc_tr t (hq_fc_mono (W := (w_X10_clear k0)) (by first | decide | (rcases m0_ with rfl | rfl <;> decide) | simp [hq_has, hq_sub, w_X10_clear]) q0)
  have h := Option.some.inj h
  subst h
  exact t
def w_X10_addCorner (k0 : Nat) : List (Nat × Option Nat) := [(k0, some 0), (k0 + 1, none), (k0 + 2, none), (k0 + 15, none)]
theorem f_X10_addCorner_fw {n : Nat} {k0 : Nat} {a1 : Int32} {a2 : Int32} {a3 : Int32} {s : hq_S} {y : (Int32 × hq_S)} (m0_ : hq_isT k0) (h : f_X10_addCorner n k0 a1 a2 a3 s = some y) : hq_fc (w_X10_addCorner k0) s y.2 := by
  unfold f_X10_addCorner at h
  have t := hq_fc_rf (w_X10_addCorner k0) s
  by_cases c1 : (hq_gi s k0 0) < (10 : Int32)
  · rw [if_pos c1] at h
    obtain ⟨s2, hs2, h⟩ := hq_bind h
    have q := hq_fc_st (W := (w_X10_addCorner k0)) hs2 (by first | decide | (rcases m0_ with rfl | rfl <;> decide) | simp [hq_has, hq_sub, w_X10_addCorner])
    have t := hq_fc_tr t q
    obtain ⟨s3, hs3, h⟩ := hq_bind h
    have q := hq_fc_st (W := (w_X10_addCorner k0)) hs3 (by first | decide | (rcases m0_ with rfl | rfl <;> decide) | simp [hq_has, hq_sub, w_X10_addCorner])
    have t := hq_fc_tr t q
    obtain ⟨s4, hs4, h⟩ := hq_bind h
    have q := hq_fc_st (W := (w_X10_addCorner k0)) hs4 (by first | decide | (rcases m0_ with rfl | rfl <;> decide) | simp [hq_has, hq_sub, w_X10_addCorner])
    have t := hq_fc_tr t q
    obtain ⟨s5, hs5, h⟩ := hq_bind h
    have q := hq_fc_pi (W := (w_X10_addCorner k0)) hs5 (by first | decide | (rcases m0_ with rfl | rfl <;> decide) | simp [hq_has, hq_sub, w_X10_addCorner])
    have t := hq_fc_tr t q
    have h := Option.some.inj h
    subst h
    exact t
  · rw [if_neg c1] at h
    have h := Option.some.inj h
    subst h
    exact t
def w_X6_readCorner (v : Nat) : List (Nat × Option Nat) := [(48, some 7), (48, some 8), (49, some 3), (49, some 4), (49, some 5), (49, some 6), (v, some 0), (v + 1, none), (v + 2, none), (v + 15, none)]
theorem f_X6_readCorner_fw {n : Nat} {v : Nat} {s : hq_S} {y : (Int32 × hq_S)} (hv : v = 2 ∨ v = 25) (gv : hq_gr s 48 1 = v) (h : f_X6_readCorner n s = some y) : hq_fc (w_X6_readCorner v) s y.2 := by
  unfold f_X6_readCorner at h
  have t := hq_fc_rf (w_X6_readCorner v) s
  have m1 : hq_isT (hq_gr s 48 1) := hq_ifT h
  rw [if_pos m1] at h
  obtain ⟨y2, hy2, h⟩ := hq_bind h
  have q0 := f_X6_passLineWord_fw hy2
  have t := hq_fc_tr t (hq_fc_mono (W := (w_X6_readCorner v)) (by first | decide | (rcases hv with rfl | rfl <;> decide) | (rw [gv]; rcases hv with rfl | rfl <;> decide) | simp [hq_has, hq_sub, w_X6_readCorner]) q0)
  have gv := (q0 48 1 (by first | decide | (rcases hv with rfl | rfl <;> decide) | (rw [gv]; rcases hv with rfl | rfl <;> decide))).2.2.trans gv
  by_cases c3 : y2.1 = 0
  · rw [if_pos c3] at h
    have h := Option.some.inj h
    subst h
    exact t
  · rw [if_neg c3] at h
    have m4 : hq_isT (hq_gr y2.2 48 1) := hq_ifT h
    rw [if_pos m4] at h
    have m5 : hq_isT (hq_gr y2.2 48 1) := hq_ifT h
    rw [if_pos m5] at h
    obtain ⟨y6, hy6, h⟩ := hq_bind h
    have q0 := f_X6_newName_fw hy6
    have t := hq_fc_tr t (hq_fc_mono (W := (w_X6_readCorner v)) (by first | decide | (rcases hv with rfl | rfl <;> decide) | (rw [gv]; rcases hv with rfl | rfl <;> decide) | simp [hq_has, hq_sub, w_X6_readCorner]) q0)
    have gv := (q0 48 1 (by first | decide | (rcases hv with rfl | rfl <;> decide) | (rw [gv]; rcases hv with rfl | rfl <;> decide))).2.2.trans gv
    obtain ⟨z7, hz7, h⟩ := hq_bind h
    have tg : hq_fc (w_X6_readCorner v) s z7.2 ∧ hq_gr z7.2 48 1 = v := by
      clear h
      have h := hz7
      by_cases c8 : y6.1 = (-1 : Int32)
      · rw [if_pos c8] at h
        cases h
        exact ⟨t, gv⟩
      · rw [if_neg c8] at h
        obtain ⟨y9, hy9, h⟩ := hq_bind h
        have q0 := f_X6_passNumber_fw hy9
        have t := hq_fc_tr t (hq_fc_mono (W := (w_X6_readCorner v)) (by first | decide | (rcases hv with rfl | rfl <;> decide) | (rw [gv]; rcases hv with rfl | rfl <;> decide) | simp [hq_has, hq_sub, w_X6_readCorner]) q0)
        have gv := (q0 48 1 (by first | decide | (rcases hv with rfl | rfl <;> decide) | (rw [gv]; rcases hv with rfl | rfl <;> decide))).2.2.trans gv
        cases h
        exact ⟨t, gv⟩
    have t := tg.1
    have gv := tg.2
    obtain ⟨z10, hz10, h⟩ := hq_bind h
    have tg : hq_fc (w_X6_readCorner v) s z10.2 ∧ hq_gr z10.2 48 1 = v := by
      clear h
      have h := hz10
      by_cases c11 : z7.1 = (-1 : Int32)
      · rw [if_pos c11] at h
        cases h
        exact ⟨t, gv⟩
      · rw [if_neg c11] at h
        obtain ⟨y12, hy12, h⟩ := hq_bind h
        have q0 := f_X6_passNumber_fw hy12
        have t := hq_fc_tr t (hq_fc_mono (W := (w_X6_readCorner v)) (by first | decide | (rcases hv with rfl | rfl <;> decide) | (rw [gv]; rcases hv with rfl | rfl <;> decide) | simp [hq_has, hq_sub, w_X6_readCorner]) q0)
        have gv := (q0 48 1 (by first | decide | (rcases hv with rfl | rfl <;> decide) | (rw [gv]; rcases hv with rfl | rfl <;> decide))).2.2.trans gv
        cases h
        exact ⟨t, gv⟩
    have t := tg.1
    have gv := tg.2
    by_cases c13 : z10.1 = (-1 : Int32)
    · rw [if_pos c13] at h
      have h := Option.some.inj h
      subst h
      exact t
    · rw [if_neg c13] at h
      have m14 : hq_isT (hq_gr z10.2 48 1) := hq_ifT h
      rw [if_pos m14] at h
      obtain ⟨y15, hy15, h⟩ := hq_bind h
      have q0 := f_X10_addCorner_fw m14 hy15
      have t := hq_fc_tr t (hq_fc_mono (W := (w_X6_readCorner v)) (by first | decide | (rcases hv with rfl | rfl <;> decide) | (rw [gv]; rcases hv with rfl | rfl <;> decide) | simp [hq_has, hq_sub, w_X6_readCorner]) q0)
      have gv := (q0 48 1 (by first | decide | (rcases hv with rfl | rfl <;> decide) | (rw [gv]; rcases hv with rfl | rfl <;> decide))).2.2.trans gv
      by_cases c16 : y15.1 = 0
      · rw [if_pos c16] at h
        have h := Option.some.inj h
        subst h
        exact t
      · rw [if_neg c16] at h
        have h := Option.some.inj h
        subst h
        exact t
def w_X10_addLane (k0 : Nat) : List (Nat × Option Nat) := [(k0, some 3), (k0, some 6), (k0 + 3, none), (k0 + 4, none)]
theorem f_X10_addLane_fw {n : Nat} {k0 : Nat} {a1 : Int32} {a2 : Int32} {a3 : Int32} {s : hq_S} {y : (Int32 × hq_S)} (m0_ : hq_isT k0) (h : f_X10_addLane n k0 a1 a2 a3 s = some y) : hq_fc (w_X10_addLane k0) s y.2 := by
  unfold f_X10_addLane at h
  have t := hq_fc_rf (w_X10_addLane k0) s
  by_cases c1 : (hq_gi s k0 3) < (20 : Int32)
  · rw [if_pos c1] at h
    obtain ⟨s2, hs2, h⟩ := hq_bind h
    have q := hq_fc_st (W := (w_X10_addLane k0)) hs2 (by first | decide | (rcases m0_ with rfl | rfl <;> decide) | simp [hq_has, hq_sub, w_X10_addLane])
    have t := hq_fc_tr t q
    obtain ⟨s3, hs3, h⟩ := hq_bind h
    have q := hq_fc_st (W := (w_X10_addLane k0)) hs3 (by first | decide | (rcases m0_ with rfl | rfl <;> decide) | simp [hq_has, hq_sub, w_X10_addLane])
    have t := hq_fc_tr t q
    obtain ⟨z4, hz4, h⟩ := hq_bind h
    obtain ⟨s6, hs6, h⟩ := hq_bind h
    have q := hq_fc_pi (W := (w_X10_addLane k0)) hs6 (by first | decide | (rcases m0_ with rfl | rfl <;> decide) | simp [hq_has, hq_sub, w_X10_addLane])
    have t := hq_fc_tr t q
    obtain ⟨s7, hs7, h⟩ := hq_bind h
    have q := hq_fc_pi (W := (w_X10_addLane k0)) hs7 (by first | decide | (rcases m0_ with rfl | rfl <;> decide) | simp [hq_has, hq_sub, w_X10_addLane])
    have t := hq_fc_tr t q
    have h := Option.some.inj h
    subst h
    exact t
  · rw [if_neg c1] at h
    have h := Option.some.inj h
    subst h
    exact t
def w_X6_readLane (v : Nat) : List (Nat × Option Nat) := [(48, some 7), (48, some 8), (49, some 3), (49, some 4), (49, some 5), (49, some 6), (v, some 3), (v, some 6), (v + 3, none), (v + 4, none)]
theorem f_X6_readLane_fw {n : Nat} {v : Nat} {s : hq_S} {y : (Int32 × hq_S)} (hv : v = 2 ∨ v = 25) (gv : hq_gr s 48 1 = v) (h : f_X6_readLane n s = some y) : hq_fc (w_X6_readLane v) s y.2 := by
  unfold f_X6_readLane at h
  have t := hq_fc_rf (w_X6_readLane v) s
  obtain ⟨z1, hz1, h⟩ := hq_bind h
  have m3 : hq_isT (hq_gr s 48 1) := hq_ifT h
  rw [if_pos m3] at h
  obtain ⟨y4, hy4, h⟩ := hq_bind h
  have q0 := f_X6_passLineWord_fw hy4
  have t := hq_fc_tr t (hq_fc_mono (W := (w_X6_readLane v)) (by first | decide | (rcases hv with rfl | rfl <;> decide) | (rw [gv]; rcases hv with rfl | rfl <;> decide) | simp [hq_has, hq_sub, w_X6_readLane]) q0)
  have gv := (q0 48 1 (by first | decide | (rcases hv with rfl | rfl <;> decide) | (rw [gv]; rcases hv with rfl | rfl <;> decide))).2.2.trans gv
  by_cases c5 : y4.1 = 0
  · rw [if_pos c5] at h
    have h := Option.some.inj h
    subst h
    exact t
  · rw [if_neg c5] at h
    obtain ⟨y6, hy6, h⟩ := hq_bind h
    have q0 := f_X6_passCorner_fw hy6
    have t := hq_fc_tr t (hq_fc_mono (W := (w_X6_readLane v)) (by first | decide | (rcases hv with rfl | rfl <;> decide) | (rw [gv]; rcases hv with rfl | rfl <;> decide) | simp [hq_has, hq_sub, w_X6_readLane]) q0)
    have gv := (q0 48 1 (by first | decide | (rcases hv with rfl | rfl <;> decide) | (rw [gv]; rcases hv with rfl | rfl <;> decide))).2.2.trans gv
    obtain ⟨z7, hz7, h⟩ := hq_bind h
    have tg : hq_fc (w_X6_readLane v) s z7.2 ∧ hq_gr z7.2 48 1 = v := by
      clear h
      have h := hz7
      by_cases c8 : y6.1 = (-1 : Int32)
      · rw [if_pos c8] at h
        cases h
        exact ⟨t, gv⟩
      · rw [if_neg c8] at h
        have m9 : hq_isT (hq_gr y6.2 48 1) := hq_ifT h
        rw [if_pos m9] at h
        have m10 : hq_isT (hq_gr y6.2 48 1) := hq_ifT h
        rw [if_pos m10] at h
        obtain ⟨y11, hy11, h⟩ := hq_bind h
        have q0 := f_X6_toldOne_fw hy11
        have t := hq_fc_tr t (hq_fc_mono (W := (w_X6_readLane v)) (by first | decide | (rcases hv with rfl | rfl <;> decide) | (rw [gv]; rcases hv with rfl | rfl <;> decide) | simp [hq_has, hq_sub, w_X6_readLane]) q0)
        have gv := (q0 48 1 (by first | decide | (rcases hv with rfl | rfl <;> decide) | (rw [gv]; rcases hv with rfl | rfl <;> decide))).2.2.trans gv
        cases h
        exact ⟨t, gv⟩
    have t := tg.1
    have gv := tg.2
    by_cases c12 : z7.1 = (-1 : Int32)
    · rw [if_pos c12] at h
      have h := Option.some.inj h
      subst h
      exact t
    · rw [if_neg c12] at h
      have m13 : hq_isT (hq_gr z7.2 48 1) := hq_ifT h
      rw [if_pos m13] at h
      obtain ⟨y14, hy14, h⟩ := hq_bind h
      have q0 := f_X10_hasLane_fw m13 hy14
      have t := hq_fc_tr t (hq_fc_mono (W := (w_X6_readLane v)) (by first | decide | (rcases hv with rfl | rfl <;> decide) | (rw [gv]; rcases hv with rfl | rfl <;> decide) | simp [hq_has, hq_sub, w_X6_readLane]) q0)
      have gv := (q0 48 1 (by first | decide | (rcases hv with rfl | rfl <;> decide) | (rw [gv]; rcases hv with rfl | rfl <;> decide))).2.2.trans gv
      by_cases c15 : y14.1 = 0
      · rw [if_pos c15] at h
        by_cases c16 : y6.1 = z7.1
        · rw [if_pos c16] at h
          obtain ⟨y20, hy20, h⟩ := hq_bind h
          have q0 := f_X6_failed_fw hy20
          have t := hq_fc_tr t (hq_fc_mono (W := (w_X6_readLane v)) (by first | decide | (rcases hv with rfl | rfl <;> decide) | (rw [gv]; rcases hv with rfl | rfl <;> decide) | simp [hq_has, hq_sub, w_X6_readLane]) q0)
          have gv := (q0 48 1 (by first | decide | (rcases hv with rfl | rfl <;> decide) | (rw [gv]; rcases hv with rfl | rfl <;> decide))).2.2.trans gv
          have hr : mm_rfit (mm_ret mc_X6_readLane) y20.1 = true := hq_ifT h
          rw [if_pos hr] at h
          have h := Option.some.inj h
          subst h
          exact t
        · rw [if_neg c16] at h
          obtain ⟨s17, hs17, h⟩ := hq_bind h
          have q0 := f_X9_advance_fw hs17
          have t := hq_fc_tr t (hq_fc_mono (W := (w_X6_readLane v)) (by first | decide | (rcases hv with rfl | rfl <;> decide) | (rw [gv]; rcases hv with rfl | rfl <;> decide) | simp [hq_has, hq_sub, w_X6_readLane]) q0)
          have gv := (q0 48 1 (by first | decide | (rcases hv with rfl | rfl <;> decide) | (rw [gv]; rcases hv with rfl | rfl <;> decide))).2.2.trans gv
          have m18 : hq_isT (hq_gr s17 48 1) := hq_ifT h
          rw [if_pos m18] at h
          obtain ⟨y19, hy19, h⟩ := hq_bind h
          have q0 := f_X10_addLane_fw m18 hy19
          have t := hq_fc_tr t (hq_fc_mono (W := (w_X6_readLane v)) (by first | decide | (rcases hv with rfl | rfl <;> decide) | (rw [gv]; rcases hv with rfl | rfl <;> decide) | simp [hq_has, hq_sub, w_X6_readLane]) q0)
          have gv := (q0 48 1 (by first | decide | (rcases hv with rfl | rfl <;> decide) | (rw [gv]; rcases hv with rfl | rfl <;> decide))).2.2.trans gv
          have hr : mm_rfit (mm_ret mc_X6_readLane) y19.1 = true := hq_ifT h
          rw [if_pos hr] at h
          have h := Option.some.inj h
          subst h
          exact t
      · rw [if_neg c15] at h
        obtain ⟨y21, hy21, h⟩ := hq_bind h
        have q0 := f_X6_failed_fw hy21
        have t := hq_fc_tr t (hq_fc_mono (W := (w_X6_readLane v)) (by first | decide | (rcases hv with rfl | rfl <;> decide) | (rw [gv]; rcases hv with rfl | rfl <;> decide) | simp [hq_has, hq_sub, w_X6_readLane]) q0)
        have gv := (q0 48 1 (by first | decide | (rcases hv with rfl | rfl <;> decide) | (rw [gv]; rcases hv with rfl | rfl <;> decide))).2.2.trans gv
        have hr : mm_rfit (mm_ret mc_X6_readLane) y21.1 = true := hq_ifT h
        rw [if_pos hr] at h
        have h := Option.some.inj h
        subst h
        exact t
def w_X10_addGuard (k0 : Nat) : List (Nat × Option Nat) := [(k0, some 7), (k0 + 5, none), (k0 + 16, none)]
theorem f_X10_addGuard_fw {n : Nat} {k0 : Nat} {a1 : Int32} {a2 : Int32} {s : hq_S} {y : (Int32 × hq_S)} (m0_ : hq_isT k0) (h : f_X10_addGuard n k0 a1 a2 s = some y) : hq_fc (w_X10_addGuard k0) s y.2 := by
  unfold f_X10_addGuard at h
  have t := hq_fc_rf (w_X10_addGuard k0) s
  by_cases c1 : (hq_gi s k0 7) < (3 : Int32)
  · rw [if_pos c1] at h
    obtain ⟨s2, hs2, h⟩ := hq_bind h
    have q := hq_fc_st (W := (w_X10_addGuard k0)) hs2 (by first | decide | (rcases m0_ with rfl | rfl <;> decide) | simp [hq_has, hq_sub, w_X10_addGuard])
    have t := hq_fc_tr t q
    obtain ⟨s3, hs3, h⟩ := hq_bind h
    have q := hq_fc_st (W := (w_X10_addGuard k0)) hs3 (by first | decide | (rcases m0_ with rfl | rfl <;> decide) | simp [hq_has, hq_sub, w_X10_addGuard])
    have t := hq_fc_tr t q
    obtain ⟨s4, hs4, h⟩ := hq_bind h
    have q := hq_fc_pi (W := (w_X10_addGuard k0)) hs4 (by first | decide | (rcases m0_ with rfl | rfl <;> decide) | simp [hq_has, hq_sub, w_X10_addGuard])
    have t := hq_fc_tr t q
    have h := Option.some.inj h
    subst h
    exact t
  · rw [if_neg c1] at h
    have h := Option.some.inj h
    subst h
    exact t
def w_X6_readGuard (v : Nat) : List (Nat × Option Nat) := [(48, some 7), (48, some 8), (49, some 3), (49, some 4), (49, some 5), (49, some 6), (v, some 7), (v + 5, none), (v + 16, none)]
theorem f_X6_readGuard_fw {n : Nat} {v : Nat} {s : hq_S} {y : (Int32 × hq_S)} (hv : v = 2 ∨ v = 25) (gv : hq_gr s 48 1 = v) (h : f_X6_readGuard n s = some y) : hq_fc (w_X6_readGuard v) s y.2 := by
  unfold f_X6_readGuard at h
  have t := hq_fc_rf (w_X6_readGuard v) s
  have m1 : hq_isT (hq_gr s 48 1) := hq_ifT h
  rw [if_pos m1] at h
  obtain ⟨y2, hy2, h⟩ := hq_bind h
  have q0 := f_X6_passLineWord_fw hy2
  have t := hq_fc_tr t (hq_fc_mono (W := (w_X6_readGuard v)) (by first | decide | (rcases hv with rfl | rfl <;> decide) | (rw [gv]; rcases hv with rfl | rfl <;> decide) | simp [hq_has, hq_sub, w_X6_readGuard]) q0)
  have gv := (q0 48 1 (by first | decide | (rcases hv with rfl | rfl <;> decide) | (rw [gv]; rcases hv with rfl | rfl <;> decide))).2.2.trans gv
  by_cases c3 : y2.1 = 0
  · rw [if_pos c3] at h
    have h := Option.some.inj h
    subst h
    exact t
  · rw [if_neg c3] at h
    have m4 : hq_isT (hq_gr y2.2 48 1) := hq_ifT h
    rw [if_pos m4] at h
    have m5 : hq_isT (hq_gr y2.2 48 1) := hq_ifT h
    rw [if_pos m5] at h
    obtain ⟨y6, hy6, h⟩ := hq_bind h
    have q0 := f_X6_newName_fw hy6
    have t := hq_fc_tr t (hq_fc_mono (W := (w_X6_readGuard v)) (by first | decide | (rcases hv with rfl | rfl <;> decide) | (rw [gv]; rcases hv with rfl | rfl <;> decide) | simp [hq_has, hq_sub, w_X6_readGuard]) q0)
    have gv := (q0 48 1 (by first | decide | (rcases hv with rfl | rfl <;> decide) | (rw [gv]; rcases hv with rfl | rfl <;> decide))).2.2.trans gv
    obtain ⟨z7, hz7, h⟩ := hq_bind h
    have tg : hq_fc (w_X6_readGuard v) s z7.2 ∧ hq_gr z7.2 48 1 = v := by
      clear h
      have h := hz7
      by_cases c8 : y6.1 = (-1 : Int32)
      · rw [if_pos c8] at h
        cases h
        exact ⟨t, gv⟩
      · rw [if_neg c8] at h
        obtain ⟨y9, hy9, h⟩ := hq_bind h
        have q0 := f_X6_passCorner_fw hy9
        have t := hq_fc_tr t (hq_fc_mono (W := (w_X6_readGuard v)) (by first | decide | (rcases hv with rfl | rfl <;> decide) | (rw [gv]; rcases hv with rfl | rfl <;> decide) | simp [hq_has, hq_sub, w_X6_readGuard]) q0)
        have gv := (q0 48 1 (by first | decide | (rcases hv with rfl | rfl <;> decide) | (rw [gv]; rcases hv with rfl | rfl <;> decide))).2.2.trans gv
        cases h
        exact ⟨t, gv⟩
    have t := tg.1
    have gv := tg.2
    by_cases c10 : z7.1 = (-1 : Int32)
    · rw [if_pos c10] at h
      have h := Option.some.inj h
      subst h
      exact t
    · rw [if_neg c10] at h
      have m11 : hq_isT (hq_gr z7.2 48 1) := hq_ifT h
      rw [if_pos m11] at h
      obtain ⟨y12, hy12, h⟩ := hq_bind h
      have q0 := f_X10_addGuard_fw m11 hy12
      have t := hq_fc_tr t (hq_fc_mono (W := (w_X6_readGuard v)) (by first | decide | (rcases hv with rfl | rfl <;> decide) | (rw [gv]; rcases hv with rfl | rfl <;> decide) | simp [hq_has, hq_sub, w_X6_readGuard]) q0)
      have gv := (q0 48 1 (by first | decide | (rcases hv with rfl | rfl <;> decide) | (rw [gv]; rcases hv with rfl | rfl <;> decide))).2.2.trans gv
      by_cases c13 : y12.1 = 0
      · rw [if_pos c13] at h
        have h := Option.some.inj h
        subst h
        exact t
      · rw [if_neg c13] at h
        have h := Option.some.inj h
        subst h
        exact t
def w_X10_addPlace (k0 : Nat) : List (Nat × Option Nat) := [(k0 + 6, none), (k0 + 7, none)]
theorem f_X10_addPlace_fw {n : Nat} {k0 : Nat} {a1 : Int32} {a2 : Int32} {s : hq_S} {y : hq_S} (m0_ : hq_isT k0) (h : f_X10_addPlace n k0 a1 a2 s = some y) : hq_fc (w_X10_addPlace k0) s y := by
  unfold f_X10_addPlace at h
  have t := hq_fc_rf (w_X10_addPlace k0) s
  obtain ⟨x1, hx1, h⟩ := hq_bind h
  by_cases c2 : x1 < (8 : Int32)
  · rw [if_pos c2] at h
    obtain ⟨x3, hx3, h⟩ := hq_bind h
    obtain ⟨s4, hs4, h⟩ := hq_bind h
    have q := hq_fc_st (W := (w_X10_addPlace k0)) hs4 (by first | decide | (rcases m0_ with rfl | rfl <;> decide) | simp [hq_has, hq_sub, w_X10_addPlace])
    have t := hq_fc_tr t q
    obtain ⟨x5, hx5, h⟩ := hq_bind h
    obtain ⟨s6, hs6, h⟩ := hq_bind h
    have q := hq_fc_st (W := (w_X10_addPlace k0)) hs6 (by first | decide | (rcases m0_ with rfl | rfl <;> decide) | simp [hq_has, hq_sub, w_X10_addPlace])
    have t := hq_fc_tr t q
    have h := Option.some.inj h
    subst h
    exact t
  · rw [if_neg c2] at h
    have h := Option.some.inj h
    subst h
    exact t
def w_X6_readBeat (v : Nat) : List (Nat × Option Nat) := [(48, some 7), (48, some 8), (49, some 3), (49, some 4), (49, some 5), (49, some 6), (v + 6, none), (v + 7, none)]
theorem f_X6_readBeat_L77_B_fw {n : Nat} {a1 : Int32} {a2 : Int32} {q77 : Int32 → Int32 → hq_S → Option (Int32 × hq_S)} {v : Nat} {s : hq_S} {y : (Int32 × hq_S)} (e77 : ∀ (a1 : Int32) (a2 : Int32) (o3 : Option Value) (s : hq_S), hq_gr s 48 1 = v → q77 a1 a2 s = some y → hq_fc (w_X6_readBeat v) s y.2) (hv : v = 2 ∨ v = 25) (gv : hq_gr s 48 1 = v) (h : f_X6_readBeat_L77_B n q77 a1 a2 s = some y) : hq_fc (w_X6_readBeat v) s y.2 := by
  unfold f_X6_readBeat_L77_B at h
  have t := hq_fc_rf (w_X6_readBeat v) s
  by_cases c11 : (8 : Int32) < a2
  · rw [if_pos c11] at h
    have h := Option.some.inj h
    subst h
    exact t
  · rw [if_neg c11] at h
    by_cases c12 : (hq_gi s 49 4) = (2 : Int32)
    · rw [if_pos c12] at h
      by_cases c13 : a2 = (8 : Int32)
      · rw [if_pos c13] at h
        obtain ⟨y18, hy18, h⟩ := hq_bind h
        have q0 := f_X6_failed_fw hy18
        have t := hq_fc_tr t (hq_fc_mono (W := (w_X6_readBeat v)) (by first | decide | (rcases hv with rfl | rfl <;> decide) | (rw [gv]; rcases hv with rfl | rfl <;> decide) | simp [hq_has, hq_sub, w_X6_readBeat]) q0)
        have gv := (q0 48 1 (by first | decide | (rcases hv with rfl | rfl <;> decide) | (rw [gv]; rcases hv with rfl | rfl <;> decide))).2.2.trans gv
        have hr : mm_rfit (mm_ret mc_X6_readBeat) y18.1 = true := hq_ifT h
        rw [if_pos hr] at h
        have h := Option.some.inj h
        subst h
        exact t
      · rw [if_neg c13] at h
        obtain ⟨y14, hy14, h⟩ := hq_bind h
        have q0 := f_X6_passCorner_fw hy14
        have t := hq_fc_tr t (hq_fc_mono (W := (w_X6_readBeat v)) (by first | decide | (rcases hv with rfl | rfl <;> decide) | (rw [gv]; rcases hv with rfl | rfl <;> decide) | simp [hq_has, hq_sub, w_X6_readBeat]) q0)
        have gv := (q0 48 1 (by first | decide | (rcases hv with rfl | rfl <;> decide) | (rw [gv]; rcases hv with rfl | rfl <;> decide))).2.2.trans gv
        by_cases c15 : y14.1 = (-1 : Int32)
        · rw [if_pos c15] at h
          have h := Option.some.inj h
          subst h
          exact t
        · rw [if_neg c15] at h
          have m16 : hq_isT (hq_gr y14.2 48 1) := hq_ifT h
          rw [if_pos m16] at h
          obtain ⟨s17, hs17, h⟩ := hq_bind h
          have q0 := f_X10_addPlace_fw m16 hs17
          have t := hq_fc_tr t (hq_fc_mono (W := (w_X6_readBeat v)) (by first | decide | (rcases hv with rfl | rfl <;> decide) | (rw [gv]; rcases hv with rfl | rfl <;> decide) | simp [hq_has, hq_sub, w_X6_readBeat]) q0)
          have gv := (q0 48 1 (by first | decide | (rcases hv with rfl | rfl <;> decide) | (rw [gv]; rcases hv with rfl | rfl <;> decide))).2.2.trans gv
          exact hq_fc_tr t (e77 a1 (a2 + (1 : Int32)) none s17 gv h)
    · rw [if_neg c12] at h
      have h := Option.some.inj h
      subst h
      exact t
theorem f_X6_readBeat_L77_fw {n m : Nat} {a1 : Int32} {a2 : Int32} {v : Nat} {s : hq_S} {y : (Int32 × hq_S)} (hv : v = 2 ∨ v = 25) (gv : hq_gr s 48 1 = v) (h : f_X6_readBeat_L77 n m a1 a2 s = some y) : hq_fc (w_X6_readBeat v) s y.2 := by
  induction m generalizing a1 a2 s with
  | zero => cases h
  | succ m ih => exact f_X6_readBeat_L77_B_fw (n := n) (a1 := a1) (a2 := a2) (q77 := f_X6_readBeat_L77 n m) (fun a1 a2 _ s gv h => ih gv h) hv gv h
theorem f_X6_readBeat_fw {n : Nat} {v : Nat} {s : hq_S} {y : (Int32 × hq_S)} (hv : v = 2 ∨ v = 25) (gv : hq_gr s 48 1 = v) (h : f_X6_readBeat n s = some y) : hq_fc (w_X6_readBeat v) s y.2 := by
  unfold f_X6_readBeat at h
  have t := hq_fc_rf (w_X6_readBeat v) s
  obtain ⟨s1, hs1, h⟩ := hq_bind h
  have q0 := f_X9_advance_fw hs1
  have t := hq_fc_tr t (hq_fc_mono (W := (w_X6_readBeat v)) (by first | decide | (rcases hv with rfl | rfl <;> decide) | (rw [gv]; rcases hv with rfl | rfl <;> decide) | simp [hq_has, hq_sub, w_X6_readBeat]) q0)
  have gv := (q0 48 1 (by first | decide | (rcases hv with rfl | rfl <;> decide) | (rw [gv]; rcases hv with rfl | rfl <;> decide))).2.2.trans gv
  have m2 : hq_isT (hq_gr s1 48 1) := hq_ifT h
  rw [if_pos m2] at h
  have m3 : hq_isT (hq_gr s1 48 1) := hq_ifT h
  rw [if_pos m3] at h
  obtain ⟨y4, hy4, h⟩ := hq_bind h
  have q0 := f_X6_toldOne_fw hy4
  have t := hq_fc_tr t (hq_fc_mono (W := (w_X6_readBeat v)) (by first | decide | (rcases hv with rfl | rfl <;> decide) | (rw [gv]; rcases hv with rfl | rfl <;> decide) | simp [hq_has, hq_sub, w_X6_readBeat]) q0)
  have gv := (q0 48 1 (by first | decide | (rcases hv with rfl | rfl <;> decide) | (rw [gv]; rcases hv with rfl | rfl <;> decide))).2.2.trans gv
  by_cases c5 : y4.1 = (-1 : Int32)
  · rw [if_pos c5] at h
    have h := Option.some.inj h
    subst h
    exact t
  · rw [if_neg c5] at h
    have m6 : hq_isT (hq_gr y4.2 48 1) := hq_ifT h
    rw [if_pos m6] at h
    obtain ⟨x7, hx7, h⟩ := hq_bind h
    by_cases c8 : 0 < x7
    · rw [if_pos c8] at h
      obtain ⟨y20, hy20, h⟩ := hq_bind h
      have q0 := f_X6_failed_fw hy20
      have t := hq_fc_tr t (hq_fc_mono (W := (w_X6_readBeat v)) (by first | decide | (rcases hv with rfl | rfl <;> decide) | (rw [gv]; rcases hv with rfl | rfl <;> decide) | simp [hq_has, hq_sub, w_X6_readBeat]) q0)
      have gv := (q0 48 1 (by first | decide | (rcases hv with rfl | rfl <;> decide) | (rw [gv]; rcases hv with rfl | rfl <;> decide))).2.2.trans gv
      have hr : mm_rfit (mm_ret mc_X6_readBeat) y20.1 = true := hq_ifT h
      rw [if_pos hr] at h
      have h := Option.some.inj h
      subst h
      exact t
    · rw [if_neg c8] at h
      obtain ⟨s9, hs9, h⟩ := hq_bind h
      have q0 := f_X9_advance_fw hs9
      have t := hq_fc_tr t (hq_fc_mono (W := (w_X6_readBeat v)) (by first | decide | (rcases hv with rfl | rfl <;> decide) | (rw [gv]; rcases hv with rfl | rfl <;> decide) | simp [hq_has, hq_sub, w_X6_readBeat]) q0)
      have gv := (q0 48 1 (by first | decide | (rcases hv with rfl | rfl <;> decide) | (rw [gv]; rcases hv with rfl | rfl <;> decide))).2.2.trans gv
      by_cases c10 : (hq_gi s9 49 4) = (2 : Int32)
      · rw [if_pos c10] at h
        exact hq_fc_tr t (f_X6_readBeat_L77_fw hv gv h)
      · rw [if_neg c10] at h
        obtain ⟨y19, hy19, h⟩ := hq_bind h
        have q0 := f_X6_failed_fw hy19
        have t := hq_fc_tr t (hq_fc_mono (W := (w_X6_readBeat v)) (by first | decide | (rcases hv with rfl | rfl <;> decide) | (rw [gv]; rcases hv with rfl | rfl <;> decide) | simp [hq_has, hq_sub, w_X6_readBeat]) q0)
        have gv := (q0 48 1 (by first | decide | (rcases hv with rfl | rfl <;> decide) | (rw [gv]; rcases hv with rfl | rfl <;> decide))).2.2.trans gv
        have hr : mm_rfit (mm_ret mc_X6_readBeat) y19.1 = true := hq_ifT h
        rw [if_pos hr] at h
        have h := Option.some.inj h
        subst h
        exact t
def w_X10_addThief (k0 : Nat) : List (Nat × Option Nat) := [(k0, some 11), (k0 + 8, none), (k0 + 19, none), (k0 + 20, none)]
theorem f_X10_addThief_fw {n : Nat} {k0 : Nat} {a1 : Int32} {a2 : Int32} {a3 : Int32} {s : hq_S} {y : (Int32 × hq_S)} (m0_ : hq_isT k0) (h : f_X10_addThief n k0 a1 a2 a3 s = some y) : hq_fc (w_X10_addThief k0) s y.2 := by
  unfold f_X10_addThief at h
  have t := hq_fc_rf (w_X10_addThief k0) s
  by_cases c1 : (hq_gi s k0 11) < (4 : Int32)
  · rw [if_pos c1] at h
    obtain ⟨s2, hs2, h⟩ := hq_bind h
    have q := hq_fc_st (W := (w_X10_addThief k0)) hs2 (by first | decide | (rcases m0_ with rfl | rfl <;> decide) | simp [hq_has, hq_sub, w_X10_addThief])
    have t := hq_fc_tr t q
    obtain ⟨s3, hs3, h⟩ := hq_bind h
    have q := hq_fc_st (W := (w_X10_addThief k0)) hs3 (by first | decide | (rcases m0_ with rfl | rfl <;> decide) | simp [hq_has, hq_sub, w_X10_addThief])
    have t := hq_fc_tr t q
    obtain ⟨s4, hs4, h⟩ := hq_bind h
    have q := hq_fc_st (W := (w_X10_addThief k0)) hs4 (by first | decide | (rcases m0_ with rfl | rfl <;> decide) | simp [hq_has, hq_sub, w_X10_addThief])
    have t := hq_fc_tr t q
    obtain ⟨s5, hs5, h⟩ := hq_bind h
    have q := hq_fc_pi (W := (w_X10_addThief k0)) hs5 (by first | decide | (rcases m0_ with rfl | rfl <;> decide) | simp [hq_has, hq_sub, w_X10_addThief])
    have t := hq_fc_tr t q
    have h := Option.some.inj h
    subst h
    exact t
  · rw [if_neg c1] at h
    have h := Option.some.inj h
    subst h
    exact t
def w_X6_readThief (v : Nat) : List (Nat × Option Nat) := [(48, some 7), (48, some 8), (49, some 3), (49, some 4), (49, some 5), (49, some 6), (v, some 11), (v + 8, none), (v + 19, none), (v + 20, none)]
theorem f_X6_readThief_fw {n : Nat} {v : Nat} {s : hq_S} {y : (Int32 × hq_S)} (hv : v = 2 ∨ v = 25) (gv : hq_gr s 48 1 = v) (h : f_X6_readThief n s = some y) : hq_fc (w_X6_readThief v) s y.2 := by
  unfold f_X6_readThief at h
  have t := hq_fc_rf (w_X6_readThief v) s
  have m1 : hq_isT (hq_gr s 48 1) := hq_ifT h
  rw [if_pos m1] at h
  obtain ⟨y2, hy2, h⟩ := hq_bind h
  have q0 := f_X6_passLineWord_fw hy2
  have t := hq_fc_tr t (hq_fc_mono (W := (w_X6_readThief v)) (by first | decide | (rcases hv with rfl | rfl <;> decide) | (rw [gv]; rcases hv with rfl | rfl <;> decide) | simp [hq_has, hq_sub, w_X6_readThief]) q0)
  have gv := (q0 48 1 (by first | decide | (rcases hv with rfl | rfl <;> decide) | (rw [gv]; rcases hv with rfl | rfl <;> decide))).2.2.trans gv
  by_cases c3 : y2.1 = 0
  · rw [if_pos c3] at h
    have h := Option.some.inj h
    subst h
    exact t
  · rw [if_neg c3] at h
    have m4 : hq_isT (hq_gr y2.2 48 1) := hq_ifT h
    rw [if_pos m4] at h
    have m5 : hq_isT (hq_gr y2.2 48 1) := hq_ifT h
    rw [if_pos m5] at h
    obtain ⟨y6, hy6, h⟩ := hq_bind h
    have q0 := f_X6_newName_fw hy6
    have t := hq_fc_tr t (hq_fc_mono (W := (w_X6_readThief v)) (by first | decide | (rcases hv with rfl | rfl <;> decide) | (rw [gv]; rcases hv with rfl | rfl <;> decide) | simp [hq_has, hq_sub, w_X6_readThief]) q0)
    have gv := (q0 48 1 (by first | decide | (rcases hv with rfl | rfl <;> decide) | (rw [gv]; rcases hv with rfl | rfl <;> decide))).2.2.trans gv
    obtain ⟨z7, hz7, h⟩ := hq_bind h
    have tg : hq_fc (w_X6_readThief v) s z7.2 ∧ hq_gr z7.2 48 1 = v := by
      clear h
      have h := hz7
      by_cases c8 : y6.1 = (-1 : Int32)
      · rw [if_pos c8] at h
        cases h
        exact ⟨t, gv⟩
      · rw [if_neg c8] at h
        obtain ⟨y9, hy9, h⟩ := hq_bind h
        have q0 := f_X6_passCorner_fw hy9
        have t := hq_fc_tr t (hq_fc_mono (W := (w_X6_readThief v)) (by first | decide | (rcases hv with rfl | rfl <;> decide) | (rw [gv]; rcases hv with rfl | rfl <;> decide) | simp [hq_has, hq_sub, w_X6_readThief]) q0)
        have gv := (q0 48 1 (by first | decide | (rcases hv with rfl | rfl <;> decide) | (rw [gv]; rcases hv with rfl | rfl <;> decide))).2.2.trans gv
        cases h
        exact ⟨t, gv⟩
    have t := tg.1
    have gv := tg.2
    obtain ⟨z10, hz10, h⟩ := hq_bind h
    have tg : hq_fc (w_X6_readThief v) s z10.2 ∧ hq_gr z10.2 48 1 = v := by
      clear h
      have h := hz10
      by_cases c11 : z7.1 = (-1 : Int32)
      · rw [if_pos c11] at h
        cases h
        exact ⟨t, gv⟩
      · rw [if_neg c11] at h
        obtain ⟨y12, hy12, h⟩ := hq_bind h
        have q0 := f_X6_passNumber_fw hy12
        have t := hq_fc_tr t (hq_fc_mono (W := (w_X6_readThief v)) (by first | decide | (rcases hv with rfl | rfl <;> decide) | (rw [gv]; rcases hv with rfl | rfl <;> decide) | simp [hq_has, hq_sub, w_X6_readThief]) q0)
        have gv := (q0 48 1 (by first | decide | (rcases hv with rfl | rfl <;> decide) | (rw [gv]; rcases hv with rfl | rfl <;> decide))).2.2.trans gv
        cases h
        exact ⟨t, gv⟩
    have t := tg.1
    have gv := tg.2
    by_cases c13 : z10.1 = (-1 : Int32)
    · rw [if_pos c13] at h
      have h := Option.some.inj h
      subst h
      exact t
    · rw [if_neg c13] at h
      have m14 : hq_isT (hq_gr z10.2 48 1) := hq_ifT h
      rw [if_pos m14] at h
      obtain ⟨y15, hy15, h⟩ := hq_bind h
      have q0 := f_X10_addThief_fw m14 hy15
      have t := hq_fc_tr t (hq_fc_mono (W := (w_X6_readThief v)) (by first | decide | (rcases hv with rfl | rfl <;> decide) | (rw [gv]; rcases hv with rfl | rfl <;> decide) | simp [hq_has, hq_sub, w_X6_readThief]) q0)
      have gv := (q0 48 1 (by first | decide | (rcases hv with rfl | rfl <;> decide) | (rw [gv]; rcases hv with rfl | rfl <;> decide))).2.2.trans gv
      by_cases c16 : y15.1 = 0
      · rw [if_pos c16] at h
        have h := Option.some.inj h
        subst h
        exact t
      · rw [if_neg c16] at h
        have h := Option.some.inj h
        subst h
        exact t
def w_X6_readGrip (v : Nat) : List (Nat × Option Nat) := [(48, some 7), (48, some 8), (49, some 3), (49, some 4), (49, some 5), (49, some 6), (v, some 13), (v, some 14)]
theorem f_X6_readGrip_fw {n : Nat} {v : Nat} {s : hq_S} {y : (Int32 × hq_S)} (hv : v = 2 ∨ v = 25) (gv : hq_gr s 48 1 = v) (h : f_X6_readGrip n s = some y) : hq_fc (w_X6_readGrip v) s y.2 := by
  unfold f_X6_readGrip at h
  have t := hq_fc_rf (w_X6_readGrip v) s
  have m1 : hq_isT (hq_gr s 48 1) := hq_ifT h
  rw [if_pos m1] at h
  by_cases c2 : (hq_gi s (hq_gr s 48 1) 14) = 0
  · rw [if_pos c2] at h
    obtain ⟨s3, hs3, h⟩ := hq_bind h
    have q0 := f_X9_advance_fw hs3
    have t := hq_fc_tr t (hq_fc_mono (W := (w_X6_readGrip v)) (by first | decide | (rcases hv with rfl | rfl <;> decide) | (rw [gv]; rcases hv with rfl | rfl <;> decide) | simp [hq_has, hq_sub, w_X6_readGrip]) q0)
    have gv := (q0 48 1 (by first | decide | (rcases hv with rfl | rfl <;> decide) | (rw [gv]; rcases hv with rfl | rfl <;> decide))).2.2.trans gv
    obtain ⟨y4, hy4, h⟩ := hq_bind h
    have q0 := f_X6_passNumber_fw hy4
    have t := hq_fc_tr t (hq_fc_mono (W := (w_X6_readGrip v)) (by first | decide | (rcases hv with rfl | rfl <;> decide) | (rw [gv]; rcases hv with rfl | rfl <;> decide) | simp [hq_has, hq_sub, w_X6_readGrip]) q0)
    have gv := (q0 48 1 (by first | decide | (rcases hv with rfl | rfl <;> decide) | (rw [gv]; rcases hv with rfl | rfl <;> decide))).2.2.trans gv
    by_cases c5 : y4.1 = (-1 : Int32)
    · rw [if_pos c5] at h
      have h := Option.some.inj h
      subst h
      exact t
    · rw [if_neg c5] at h
      have m6 : hq_isT (hq_gr y4.2 48 1) := hq_ifT h
      rw [if_pos m6] at h
      obtain ⟨s7, hs7, h⟩ := hq_bind h
      have q := hq_fc_pi (W := (w_X6_readGrip v)) hs7 (by first | decide | (rcases hv with rfl | rfl <;> decide) | (rw [gv]; rcases hv with rfl | rfl <;> decide) | simp [hq_has, hq_sub, w_X6_readGrip])
      have t := hq_fc_tr t q
      have gv := (hq_pi_gr hs7).trans gv
      have m8 : hq_isT (hq_gr s7 48 1) := hq_ifT h
      rw [if_pos m8] at h
      obtain ⟨s9, hs9, h⟩ := hq_bind h
      have q := hq_fc_pi (W := (w_X6_readGrip v)) hs9 (by first | decide | (rcases hv with rfl | rfl <;> decide) | (rw [gv]; rcases hv with rfl | rfl <;> decide) | simp [hq_has, hq_sub, w_X6_readGrip])
      have t := hq_fc_tr t q
      have gv := (hq_pi_gr hs9).trans gv
      have h := Option.some.inj h
      subst h
      exact t
  · rw [if_neg c2] at h
    obtain ⟨y10, hy10, h⟩ := hq_bind h
    have q0 := f_X6_failed_fw hy10
    have t := hq_fc_tr t (hq_fc_mono (W := (w_X6_readGrip v)) (by first | decide | (rcases hv with rfl | rfl <;> decide) | (rw [gv]; rcases hv with rfl | rfl <;> decide) | simp [hq_has, hq_sub, w_X6_readGrip]) q0)
    have gv := (q0 48 1 (by first | decide | (rcases hv with rfl | rfl <;> decide) | (rw [gv]; rcases hv with rfl | rfl <;> decide))).2.2.trans gv
    have hr : mm_rfit (mm_ret mc_X6_readGrip) y10.1 = true := hq_ifT h
    rw [if_pos hr] at h
    have h := Option.some.inj h
    subst h
    exact t
def w_X6_readSeed (v : Nat) : List (Nat × Option Nat) := [(48, some 7), (48, some 8), (49, some 3), (49, some 4), (49, some 5), (49, some 6), (v, some 15), (v + 14, some 1)]
theorem f_X6_readSeed_fw {n : Nat} {v : Nat} {s : hq_S} {y : (Int32 × hq_S)} (hv : v = 2 ∨ v = 25) (gv : hq_gr s 48 1 = v) (h : f_X6_readSeed n s = some y) : hq_fc (w_X6_readSeed v) s y.2 := by
  unfold f_X6_readSeed at h
  have t := hq_fc_rf (w_X6_readSeed v) s
  have m1 : hq_isT (hq_gr s 48 1) := hq_ifT h
  rw [if_pos m1] at h
  by_cases c2 : (hq_gi s (hq_gr s 48 1) 15) = 0
  · rw [if_pos c2] at h
    obtain ⟨s3, hs3, h⟩ := hq_bind h
    have q0 := f_X9_advance_fw hs3
    have t := hq_fc_tr t (hq_fc_mono (W := (w_X6_readSeed v)) (by first | decide | (rcases hv with rfl | rfl <;> decide) | (rw [gv]; rcases hv with rfl | rfl <;> decide) | simp [hq_has, hq_sub, w_X6_readSeed]) q0)
    have gv := (q0 48 1 (by first | decide | (rcases hv with rfl | rfl <;> decide) | (rw [gv]; rcases hv with rfl | rfl <;> decide))).2.2.trans gv
    obtain ⟨y4, hy4, h⟩ := hq_bind h
    have q0 := f_X6_passNumber_fw hy4
    have t := hq_fc_tr t (hq_fc_mono (W := (w_X6_readSeed v)) (by first | decide | (rcases hv with rfl | rfl <;> decide) | (rw [gv]; rcases hv with rfl | rfl <;> decide) | simp [hq_has, hq_sub, w_X6_readSeed]) q0)
    have gv := (q0 48 1 (by first | decide | (rcases hv with rfl | rfl <;> decide) | (rw [gv]; rcases hv with rfl | rfl <;> decide))).2.2.trans gv
    by_cases c5 : y4.1 = (-1 : Int32)
    · rw [if_pos c5] at h
      have h := Option.some.inj h
      subst h
      exact t
    · rw [if_neg c5] at h
      have m6 : hq_isT (hq_gr y4.2 48 1) := hq_ifT h
      rw [if_pos m6] at h
      obtain ⟨s7, hs7, h⟩ := hq_bind h
      have q := hq_fc_pj (W := (w_X6_readSeed v)) hs7 (by first | decide | (rcases hv with rfl | rfl <;> decide) | (rw [gv]; rcases hv with rfl | rfl <;> decide) | simp [hq_has, hq_sub, w_X6_readSeed])
      have t := hq_fc_tr t q
      have gv := (hq_pj_gr hs7).trans gv
      have m8 : hq_isT (hq_gr s7 48 1) := hq_ifT h
      rw [if_pos m8] at h
      obtain ⟨s9, hs9, h⟩ := hq_bind h
      have q := hq_fc_pi (W := (w_X6_readSeed v)) hs9 (by first | decide | (rcases hv with rfl | rfl <;> decide) | (rw [gv]; rcases hv with rfl | rfl <;> decide) | simp [hq_has, hq_sub, w_X6_readSeed])
      have t := hq_fc_tr t q
      have gv := (hq_pi_gr hs9).trans gv
      have h := Option.some.inj h
      subst h
      exact t
  · rw [if_neg c2] at h
    obtain ⟨y10, hy10, h⟩ := hq_bind h
    have q0 := f_X6_failed_fw hy10
    have t := hq_fc_tr t (hq_fc_mono (W := (w_X6_readSeed v)) (by first | decide | (rcases hv with rfl | rfl <;> decide) | (rw [gv]; rcases hv with rfl | rfl <;> decide) | simp [hq_has, hq_sub, w_X6_readSeed]) q0)
    have gv := (q0 48 1 (by first | decide | (rcases hv with rfl | rfl <;> decide) | (rw [gv]; rcases hv with rfl | rfl <;> decide))).2.2.trans gv
    have hr : mm_rfit (mm_ret mc_X6_readSeed) y10.1 = true := hq_ifT h
    rw [if_pos hr] at h
    have h := Option.some.inj h
    subst h
    exact t
def w_X6_passKnot (v : Nat) : List (Nat × Option Nat) := [(48, some 7), (48, some 8), (49, some 3), (49, some 4), (49, some 5), (49, some 6), (v + 9, some 0)]
theorem f_X6_passKnot_fw {n : Nat} {v : Nat} {s : hq_S} {y : (Int32 × hq_S)} (hv : v = 2 ∨ v = 25) (gv : hq_gr s 48 1 = v) (h : f_X6_passKnot n s = some y) : hq_fc (w_X6_passKnot v) s y.2 := by
  unfold f_X6_passKnot at h
  have t := hq_fc_rf (w_X6_passKnot v) s
  have m1 : hq_isT (hq_gr s 48 1) := hq_ifT h
  rw [if_pos m1] at h
  obtain ⟨y2, hy2, h⟩ := hq_bind h
  have q0 := f_X4_tellKnot_fw (hq_shT_m9 m1) hy2
  have t := hq_fc_tr t (hq_fc_mono (W := (w_X6_passKnot v)) (by first | decide | (rcases hv with rfl | rfl <;> decide) | (rw [gv]; rcases hv with rfl | rfl <;> decide) | simp [hq_has, hq_sub, w_X6_passKnot]) q0)
  have gv := (q0 48 1 (by first | decide | (rcases hv with rfl | rfl <;> decide) | (rw [gv]; rcases hv with rfl | rfl <;> decide))).2.2.trans gv
  by_cases c3 : y2.1 = 0
  · rw [if_pos c3] at h
    obtain ⟨y5, hy5, h⟩ := hq_bind h
    have q0 := f_X6_failed_fw hy5
    have t := hq_fc_tr t (hq_fc_mono (W := (w_X6_passKnot v)) (by first | decide | (rcases hv with rfl | rfl <;> decide) | (rw [gv]; rcases hv with rfl | rfl <;> decide) | simp [hq_has, hq_sub, w_X6_passKnot]) q0)
    have gv := (q0 48 1 (by first | decide | (rcases hv with rfl | rfl <;> decide) | (rw [gv]; rcases hv with rfl | rfl <;> decide))).2.2.trans gv
    have hr : mm_rfit (mm_ret mc_X6_passKnot) y5.1 = true := hq_ifT h
    rw [if_pos hr] at h
    have h := Option.some.inj h
    subst h
    exact t
  · rw [if_neg c3] at h
    obtain ⟨s4, hs4, h⟩ := hq_bind h
    have q0 := f_X9_advance_fw hs4
    have t := hq_fc_tr t (hq_fc_mono (W := (w_X6_passKnot v)) (by first | decide | (rcases hv with rfl | rfl <;> decide) | (rw [gv]; rcases hv with rfl | rfl <;> decide) | simp [hq_has, hq_sub, w_X6_passKnot]) q0)
    have gv := (q0 48 1 (by first | decide | (rcases hv with rfl | rfl <;> decide) | (rw [gv]; rcases hv with rfl | rfl <;> decide))).2.2.trans gv
    have h := Option.some.inj h
    subst h
    exact t
def w_X6_readSide (v : Nat) : List (Nat × Option Nat) := [(48, some 3), (48, some 4), (48, some 5), (48, some 6), (48, some 7), (48, some 8), (49, some 3), (49, some 4), (49, some 5), (49, some 6), (75, none), (v + 9, some 0), (v + 9, some 1), (v + 10, none)]
theorem f_X6_readSide_J147_fw {n : Nat} {a1 : Int32} {v : Nat} {s : hq_S} {y : (Int32 × hq_S)} (hv : v = 2 ∨ v = 25) (gv : hq_gr s 48 1 = v) (h : f_X6_readSide_J147 n a1 s = some y) : hq_fc (w_X6_readSide v) s y.2 := by
  unfold f_X6_readSide_J147 at h
  have t := hq_fc_rf (w_X6_readSide v) s
  have m8 : hq_isT (hq_gr s 48 1) := hq_ifT h
  rw [if_pos m8] at h
  obtain ⟨z9, hz9, h⟩ := hq_bind h
  obtain ⟨s11, hs11, h⟩ := hq_bind h
  have q0 := f_X4_put_fw (hq_shT_m9 m8) hs11
  have t := hq_fc_tr t (hq_fc_mono (W := (w_X6_readSide v)) (by first | decide | (rcases hv with rfl | rfl <;> decide) | (rw [gv]; rcases hv with rfl | rfl <;> decide) | simp [hq_has, hq_sub, w_X6_readSide]) q0)
  have gv := (q0 48 1 (by first | decide | (rcases hv with rfl | rfl <;> decide) | (rw [gv]; rcases hv with rfl | rfl <;> decide))).2.2.trans gv
  obtain ⟨s12, hs12, h⟩ := hq_bind h
  have q := hq_fc_pi (W := (w_X6_readSide v)) hs12 (by first | decide | (rcases hv with rfl | rfl <;> decide) | (rw [gv]; rcases hv with rfl | rfl <;> decide) | simp [hq_has, hq_sub, w_X6_readSide])
  have t := hq_fc_tr t q
  have gv := (hq_pi_gr hs12).trans gv
  obtain ⟨y13, hy13, h⟩ := hq_bind h
  have q0 := f_X6_passKnot_fw hv gv hy13
  have t := hq_fc_tr t (hq_fc_mono (W := (w_X6_readSide v)) (by first | decide | (rcases hv with rfl | rfl <;> decide) | (rw [gv]; rcases hv with rfl | rfl <;> decide) | simp [hq_has, hq_sub, w_X6_readSide]) q0)
  have gv := (q0 48 1 (by first | decide | (rcases hv with rfl | rfl <;> decide) | (rw [gv]; rcases hv with rfl | rfl <;> decide))).2.2.trans gv
  have hr : mm_rfit (mm_ret mc_X6_readSide) y13.1 = true := hq_ifT h
  rw [if_pos hr] at h
  have h := Option.some.inj h
  subst h
  exact t
theorem f_X6_readSide_J124_fw {n : Nat} {a1 : Int32} {v : Nat} {s : hq_S} {y : (Int32 × hq_S)} (hv : v = 2 ∨ v = 25) (gv : hq_gr s 48 1 = v) (h : f_X6_readSide_J124 n a1 s = some y) : hq_fc (w_X6_readSide v) s y.2 := by
  unfold f_X6_readSide_J124 at h
  have t := hq_fc_rf (w_X6_readSide v) s
  by_cases c7 : a1 = 0
  · rw [if_pos c7] at h
    exact hq_fc_tr t (f_X6_readSide_J147_fw hv gv h)
  · rw [if_neg c7] at h
    by_cases c14 : (9999 : Int32) < (hq_gi s 49 5)
    · rw [if_pos c14] at h
      obtain ⟨y15, hy15, h⟩ := hq_bind h
      have q0 := f_X6_failed_fw hy15
      have t := hq_fc_tr t (hq_fc_mono (W := (w_X6_readSide v)) (by first | decide | (rcases hv with rfl | rfl <;> decide) | (rw [gv]; rcases hv with rfl | rfl <;> decide) | simp [hq_has, hq_sub, w_X6_readSide]) q0)
      have gv := (q0 48 1 (by first | decide | (rcases hv with rfl | rfl <;> decide) | (rw [gv]; rcases hv with rfl | rfl <;> decide))).2.2.trans gv
      have hr : mm_rfit (mm_ret mc_X6_readSide) y15.1 = true := hq_ifT h
      rw [if_pos hr] at h
      have h := Option.some.inj h
      subst h
      exact t
    · rw [if_neg c14] at h
      exact hq_fc_tr t (f_X6_readSide_J147_fw hv gv h)
theorem f_X6_readSide_J87_fw {n : Nat} {v : Nat} {s : hq_S} {y : (Int32 × hq_S)} (hv : v = 2 ∨ v = 25) (gv : hq_gr s 48 1 = v) (h : f_X6_readSide_J87 n s = some y) : hq_fc (w_X6_readSide v) s y.2 := by
  unfold f_X6_readSide_J87 at h
  have t := hq_fc_rf (w_X6_readSide v) s
  obtain ⟨z4, hz4, h⟩ := hq_bind h
  by_cases c6 : z4 = 0
  · rw [if_pos c6] at h
    obtain ⟨y16, hy16, h⟩ := hq_bind h
    have q0 := f_X9_isName_fw hy16
    have t := hq_fc_tr t (hq_fc_mono (W := (w_X6_readSide v)) (by first | decide | (rcases hv with rfl | rfl <;> decide) | (rw [gv]; rcases hv with rfl | rfl <;> decide) | simp [hq_has, hq_sub, w_X6_readSide]) q0)
    have gv := (q0 48 1 (by first | decide | (rcases hv with rfl | rfl <;> decide) | (rw [gv]; rcases hv with rfl | rfl <;> decide))).2.2.trans gv
    by_cases c17 : y16.1 = 0
    · rw [if_pos c17] at h
      obtain ⟨y18, hy18, h⟩ := hq_bind h
      have q0 := f_X6_failed_fw hy18
      have t := hq_fc_tr t (hq_fc_mono (W := (w_X6_readSide v)) (by first | decide | (rcases hv with rfl | rfl <;> decide) | (rw [gv]; rcases hv with rfl | rfl <;> decide) | simp [hq_has, hq_sub, w_X6_readSide]) q0)
      have gv := (q0 48 1 (by first | decide | (rcases hv with rfl | rfl <;> decide) | (rw [gv]; rcases hv with rfl | rfl <;> decide))).2.2.trans gv
      have hr : mm_rfit (mm_ret mc_X6_readSide) y18.1 = true := hq_ifT h
      rw [if_pos hr] at h
      have h := Option.some.inj h
      subst h
      exact t
    · rw [if_neg c17] at h
      exact hq_fc_tr t (f_X6_readSide_J124_fw hv gv h)
  · rw [if_neg c6] at h
    exact hq_fc_tr t (f_X6_readSide_J124_fw hv gv h)
theorem f_X6_readSide_fw {n : Nat} {v : Nat} {s : hq_S} {y : (Int32 × hq_S)} (hv : v = 2 ∨ v = 25) (gv : hq_gr s 48 1 = v) (h : f_X6_readSide n s = some y) : hq_fc (w_X6_readSide v) s y.2 := by
  unfold f_X6_readSide at h
  have t := hq_fc_rf (w_X6_readSide v) s
  obtain ⟨y1, hy1, h⟩ := hq_bind h
  have q0 := f_X9_isThisSign_fw hy1
  have t := hq_fc_tr t (hq_fc_mono (W := (w_X6_readSide v)) (by first | decide | (rcases hv with rfl | rfl <;> decide) | (rw [gv]; rcases hv with rfl | rfl <;> decide) | simp [hq_has, hq_sub, w_X6_readSide]) q0)
  have gv := (q0 48 1 (by first | decide | (rcases hv with rfl | rfl <;> decide) | (rw [gv]; rcases hv with rfl | rfl <;> decide))).2.2.trans gv
  by_cases c2 : y1.1 = 0
  · rw [if_pos c2] at h
    by_cases c3 : (hq_gi y1.2 48 6) = 0
    · rw [if_pos c3] at h
      exact hq_fc_tr t (f_X6_readSide_J87_fw hv gv h)
    · rw [if_neg c3] at h
      obtain ⟨y19, hy19, h⟩ := hq_bind h
      have q0 := f_X9_isKey_fw hy19
      have t := hq_fc_tr t (hq_fc_mono (W := (w_X6_readSide v)) (by first | decide | (rcases hv with rfl | rfl <;> decide) | (rw [gv]; rcases hv with rfl | rfl <;> decide) | simp [hq_has, hq_sub, w_X6_readSide]) q0)
      have gv := (q0 48 1 (by first | decide | (rcases hv with rfl | rfl <;> decide) | (rw [gv]; rcases hv with rfl | rfl <;> decide))).2.2.trans gv
      by_cases c20 : y19.1 = 0
      · rw [if_pos c20] at h
        exact hq_fc_tr t (f_X6_readSide_J87_fw hv gv h)
      · rw [if_neg c20] at h
        obtain ⟨s21, hs21, h⟩ := hq_bind h
        have q0 := f_X6_hang_fw hs21
        have t := hq_fc_tr t (hq_fc_mono (W := (w_X6_readSide v)) (by first | decide | (rcases hv with rfl | rfl <;> decide) | (rw [gv]; rcases hv with rfl | rfl <;> decide) | simp [hq_has, hq_sub, w_X6_readSide]) q0)
        have gv := (q0 48 1 (by first | decide | (rcases hv with rfl | rfl <;> decide) | (rw [gv]; rcases hv with rfl | rfl <;> decide))).2.2.trans gv
        obtain ⟨y22, hy22, h⟩ := hq_bind h
        have q0 := f_X6_passKnot_fw hv gv hy22
        have t := hq_fc_tr t (hq_fc_mono (W := (w_X6_readSide v)) (by first | decide | (rcases hv with rfl | rfl <;> decide) | (rw [gv]; rcases hv with rfl | rfl <;> decide) | simp [hq_has, hq_sub, w_X6_readSide]) q0)
        have gv := (q0 48 1 (by first | decide | (rcases hv with rfl | rfl <;> decide) | (rw [gv]; rcases hv with rfl | rfl <;> decide))).2.2.trans gv
        have hr : mm_rfit (mm_ret mc_X6_readSide) y22.1 = true := hq_ifT h
        rw [if_pos hr] at h
        have h := Option.some.inj h
        subst h
        exact t
  · rw [if_neg c2] at h
    by_cases c23 : (hq_gi y1.2 48 4) < (8 : Int32)
    · rw [if_pos c23] at h
      obtain ⟨s24, hs24, h⟩ := hq_bind h
      have q := hq_fc_pi (W := (w_X6_readSide v)) hs24 (by first | decide | (rcases hv with rfl | rfl <;> decide) | (rw [gv]; rcases hv with rfl | rfl <;> decide) | simp [hq_has, hq_sub, w_X6_readSide])
      have t := hq_fc_tr t q
      have gv := (hq_pi_gr hs24).trans gv
      obtain ⟨s25, hs25, h⟩ := hq_bind h
      have q := hq_fc_pi (W := (w_X6_readSide v)) hs25 (by first | decide | (rcases hv with rfl | rfl <;> decide) | (rw [gv]; rcases hv with rfl | rfl <;> decide) | simp [hq_has, hq_sub, w_X6_readSide])
      have t := hq_fc_tr t q
      have gv := (hq_pi_gr hs25).trans gv
      obtain ⟨s26, hs26, h⟩ := hq_bind h
      have q0 := f_X6_hang_fw hs26
      have t := hq_fc_tr t (hq_fc_mono (W := (w_X6_readSide v)) (by first | decide | (rcases hv with rfl | rfl <;> decide) | (rw [gv]; rcases hv with rfl | rfl <;> decide) | simp [hq_has, hq_sub, w_X6_readSide]) q0)
      have gv := (q0 48 1 (by first | decide | (rcases hv with rfl | rfl <;> decide) | (rw [gv]; rcases hv with rfl | rfl <;> decide))).2.2.trans gv
      obtain ⟨s27, hs27, h⟩ := hq_bind h
      have q0 := f_X9_advance_fw hs27
      have t := hq_fc_tr t (hq_fc_mono (W := (w_X6_readSide v)) (by first | decide | (rcases hv with rfl | rfl <;> decide) | (rw [gv]; rcases hv with rfl | rfl <;> decide) | simp [hq_has, hq_sub, w_X6_readSide]) q0)
      have gv := (q0 48 1 (by first | decide | (rcases hv with rfl | rfl <;> decide) | (rw [gv]; rcases hv with rfl | rfl <;> decide))).2.2.trans gv
      have h := Option.some.inj h
      subst h
      exact t
    · rw [if_neg c23] at h
      obtain ⟨y28, hy28, h⟩ := hq_bind h
      have q0 := f_X6_failed_fw hy28
      have t := hq_fc_tr t (hq_fc_mono (W := (w_X6_readSide v)) (by first | decide | (rcases hv with rfl | rfl <;> decide) | (rw [gv]; rcases hv with rfl | rfl <;> decide) | simp [hq_has, hq_sub, w_X6_readSide]) q0)
      have gv := (q0 48 1 (by first | decide | (rcases hv with rfl | rfl <;> decide) | (rw [gv]; rcases hv with rfl | rfl <;> decide))).2.2.trans gv
      have hr : mm_rfit (mm_ret mc_X6_readSide) y28.1 = true := hq_ifT h
      rw [if_pos hr] at h
      have h := Option.some.inj h
      subst h
      exact t
def w_X6_settle (v : Nat) : List (Nat × Option Nat) := [(48, some 3), (v + 9, some 1), (v + 10, none)]
theorem f_X6_settle_L0_B_fw {n : Nat} {a1 : Int32} {q0 : Int32 → hq_S → Option hq_S} {v : Nat} {s : hq_S} {y : hq_S} (e0 : ∀ (a1 : Int32) (s : hq_S), hq_gr s 48 1 = v → q0 a1 s = some y → hq_fc (w_X6_settle v) s y) (hv : v = 2 ∨ v = 25) (gv : hq_gr s 48 1 = v) (h : f_X6_settle_L0_B n q0 a1 s = some y) : hq_fc (w_X6_settle v) s y := by
  unfold f_X6_settle_L0_B at h
  have t := hq_fc_rf (w_X6_settle v) s
  by_cases c1 : 0 < (hq_gi s 48 3)
  · rw [if_pos c1] at h
    obtain ⟨x2, hx2, h⟩ := hq_bind h
    obtain ⟨y3, hy3, h⟩ := hq_bind h
    have q0 := f_X6_levelOf_fw hy3
    have t := hq_fc_tr t (hq_fc_mono (W := (w_X6_settle v)) (by first | decide | (rcases hv with rfl | rfl <;> decide) | (rw [gv]; rcases hv with rfl | rfl <;> decide) | simp [hq_has, hq_sub, w_X6_settle]) q0)
    have gv := (q0 48 1 (by first | decide | (rcases hv with rfl | rfl <;> decide) | (rw [gv]; rcases hv with rfl | rfl <;> decide))).2.2.trans gv
    by_cases c4 : y3.1 < a1
    · rw [if_pos c4] at h
      have h := Option.some.inj h
      subst h
      exact t
    · rw [if_neg c4] at h
      obtain ⟨s5, hs5, h⟩ := hq_bind h
      have q := hq_fc_pi (W := (w_X6_settle v)) hs5 (by first | decide | (rcases hv with rfl | rfl <;> decide) | (rw [gv]; rcases hv with rfl | rfl <;> decide) | simp [hq_has, hq_sub, w_X6_settle])
      have t := hq_fc_tr t q
      have gv := (hq_pi_gr hs5).trans gv
      have m6 : hq_isT (hq_gr s5 48 1) := hq_ifT h
      rw [if_pos m6] at h
      obtain ⟨x7, hx7, h⟩ := hq_bind h
      obtain ⟨s8, hs8, h⟩ := hq_bind h
      have q0 := f_X4_put_fw (hq_shT_m9 m6) hs8
      have t := hq_fc_tr t (hq_fc_mono (W := (w_X6_settle v)) (by first | decide | (rcases hv with rfl | rfl <;> decide) | (rw [gv]; rcases hv with rfl | rfl <;> decide) | simp [hq_has, hq_sub, w_X6_settle]) q0)
      have gv := (q0 48 1 (by first | decide | (rcases hv with rfl | rfl <;> decide) | (rw [gv]; rcases hv with rfl | rfl <;> decide))).2.2.trans gv
      exact hq_fc_tr t (e0 a1 s8 gv h)
  · rw [if_neg c1] at h
    have h := Option.some.inj h
    subst h
    exact t
theorem f_X6_settle_L0_fw {n m : Nat} {a1 : Int32} {v : Nat} {s : hq_S} {y : hq_S} (hv : v = 2 ∨ v = 25) (gv : hq_gr s 48 1 = v) (h : f_X6_settle_L0 n m a1 s = some y) : hq_fc (w_X6_settle v) s y := by
  induction m generalizing a1 s with
  | zero => cases h
  | succ m ih => exact f_X6_settle_L0_B_fw (n := n) (a1 := a1) (q0 := f_X6_settle_L0 n m) (fun a1 s gv h => ih gv h) hv gv h
theorem f_X6_settle_fw {n : Nat} {a1 : Int32} {v : Nat} {s : hq_S} {y : hq_S} (hv : v = 2 ∨ v = 25) (gv : hq_gr s 48 1 = v) (h : f_X6_settle n a1 s = some y) : hq_fc (w_X6_settle v) s y := by
  unfold f_X6_settle at h
  have t := hq_fc_rf (w_X6_settle v) s
  exact hq_fc_tr t (f_X6_settle_L0_fw hv gv h)
def w_X6_readJoint (v : Nat) : List (Nat × Option Nat) := [(48, some 3), (48, some 4), (48, some 5), (48, some 6), (48, some 7), (48, some 8), (49, some 3), (49, some 4), (49, some 5), (49, some 6), (75, none), (v + 9, some 0), (v + 9, some 1), (v + 10, none)]
theorem f_X6_readJoint_J100_fw {n : Nat} {a1 : Int32} {v : Nat} {s : hq_S} {y : (Int32 × hq_S)} (hv : v = 2 ∨ v = 25) (gv : hq_gr s 48 1 = v) (h : f_X6_readJoint_J100 n a1 s = some y) : hq_fc (w_X6_readJoint v) s y.2 := by
  unfold f_X6_readJoint_J100 at h
  have t := hq_fc_rf (w_X6_readJoint v) s
  obtain ⟨s8, hs8, h⟩ := hq_bind h
  have q0 := f_X6_settle_fw hv gv hs8
  have t := hq_fc_tr t (hq_fc_mono (W := (w_X6_readJoint v)) (by first | decide | (rcases hv with rfl | rfl <;> decide) | (rw [gv]; rcases hv with rfl | rfl <;> decide) | simp [hq_has, hq_sub, w_X6_readJoint]) q0)
  have gv := (q0 48 1 (by first | decide | (rcases hv with rfl | rfl <;> decide) | (rw [gv]; rcases hv with rfl | rfl <;> decide))).2.2.trans gv
  by_cases c9 : 0 < (hq_gi s8 48 4)
  · rw [if_pos c9] at h
    obtain ⟨y10, hy10, h⟩ := hq_bind h
    have q0 := f_X6_failed_fw hy10
    have t := hq_fc_tr t (hq_fc_mono (W := (w_X6_readJoint v)) (by first | decide | (rcases hv with rfl | rfl <;> decide) | (rw [gv]; rcases hv with rfl | rfl <;> decide) | simp [hq_has, hq_sub, w_X6_readJoint]) q0)
    have gv := (q0 48 1 (by first | decide | (rcases hv with rfl | rfl <;> decide) | (rw [gv]; rcases hv with rfl | rfl <;> decide))).2.2.trans gv
    by_cases c11 : y10.1 = 0
    · rw [if_pos c11] at h
      have h := Option.some.inj h
      subst h
      exact t
    · rw [if_neg c11] at h
      have h := Option.some.inj h
      subst h
      exact t
  · rw [if_neg c9] at h
    have h := Option.some.inj h
    subst h
    exact t
theorem f_X6_readJoint_J167_fw {n : Nat} {a1 : Int32} {v : Nat} {s : hq_S} {y : (Int32 × hq_S)} (hv : v = 2 ∨ v = 25) (gv : hq_gr s 48 1 = v) (h : f_X6_readJoint_J167 n a1 s = some y) : hq_fc (w_X6_readJoint v) s y.2 := by
  unfold f_X6_readJoint_J167 at h
  have t := hq_fc_rf (w_X6_readJoint v) s
  obtain ⟨s14, hs14, h⟩ := hq_bind h
  have q0 := f_X6_settle_fw hv gv hs14
  have t := hq_fc_tr t (hq_fc_mono (W := (w_X6_readJoint v)) (by first | decide | (rcases hv with rfl | rfl <;> decide) | (rw [gv]; rcases hv with rfl | rfl <;> decide) | simp [hq_has, hq_sub, w_X6_readJoint]) q0)
  have gv := (q0 48 1 (by first | decide | (rcases hv with rfl | rfl <;> decide) | (rw [gv]; rcases hv with rfl | rfl <;> decide))).2.2.trans gv
  obtain ⟨s15, hs15, h⟩ := hq_bind h
  have q0 := f_X6_hang_fw hs15
  have t := hq_fc_tr t (hq_fc_mono (W := (w_X6_readJoint v)) (by first | decide | (rcases hv with rfl | rfl <;> decide) | (rw [gv]; rcases hv with rfl | rfl <;> decide) | simp [hq_has, hq_sub, w_X6_readJoint]) q0)
  have gv := (q0 48 1 (by first | decide | (rcases hv with rfl | rfl <;> decide) | (rw [gv]; rcases hv with rfl | rfl <;> decide))).2.2.trans gv
  obtain ⟨s16, hs16, h⟩ := hq_bind h
  have q := hq_fc_pi (W := (w_X6_readJoint v)) hs16 (by first | decide | (rcases hv with rfl | rfl <;> decide) | (rw [gv]; rcases hv with rfl | rfl <;> decide) | simp [hq_has, hq_sub, w_X6_readJoint])
  have t := hq_fc_tr t q
  have gv := (hq_pi_gr hs16).trans gv
  obtain ⟨z17, hz17, h⟩ := hq_bind h
  obtain ⟨s20, hs20, h⟩ := hq_bind h
  have q := hq_fc_pi (W := (w_X6_readJoint v)) hs20 (by first | decide | (rcases hv with rfl | rfl <;> decide) | (rw [gv]; rcases hv with rfl | rfl <;> decide) | simp [hq_has, hq_sub, w_X6_readJoint])
  have t := hq_fc_tr t q
  have gv := (hq_pi_gr hs20).trans gv
  obtain ⟨y21, hy21, h⟩ := hq_bind h
  have q0 := f_X6_passKnot_fw hv gv hy21
  have t := hq_fc_tr t (hq_fc_mono (W := (w_X6_readJoint v)) (by first | decide | (rcases hv with rfl | rfl <;> decide) | (rw [gv]; rcases hv with rfl | rfl <;> decide) | simp [hq_has, hq_sub, w_X6_readJoint]) q0)
  have gv := (q0 48 1 (by first | decide | (rcases hv with rfl | rfl <;> decide) | (rw [gv]; rcases hv with rfl | rfl <;> decide))).2.2.trans gv
  have hr : mm_rfit (mm_ret mc_X6_readJoint) y21.1 = true := hq_ifT h
  rw [if_pos hr] at h
  have h := Option.some.inj h
  subst h
  exact t
theorem f_X6_readJoint_J53_fw {n : Nat} {v : Nat} {s : hq_S} {y : (Int32 × hq_S)} (hv : v = 2 ∨ v = 25) (gv : hq_gr s 48 1 = v) (h : f_X6_readJoint_J53 n s = some y) : hq_fc (w_X6_readJoint v) s y.2 := by
  unfold f_X6_readJoint_J53 at h
  have t := hq_fc_rf (w_X6_readJoint v) s
  obtain ⟨z2, hz2, h⟩ := hq_bind h
  have tg : hq_fc (w_X6_readJoint v) s z2.2 ∧ hq_gr z2.2 48 1 = v := by
    clear h
    have h := hz2
    by_cases c3 : (hq_gi s 49 4) = (5 : Int32)
    · rw [if_pos c3] at h
      obtain ⟨y4, hy4, h⟩ := hq_bind h
      have q0 := f_X6_levelOf_fw hy4
      have t := hq_fc_tr t (hq_fc_mono (W := (w_X6_readJoint v)) (by first | decide | (rcases hv with rfl | rfl <;> decide) | (rw [gv]; rcases hv with rfl | rfl <;> decide) | simp [hq_has, hq_sub, w_X6_readJoint]) q0)
      have gv := (q0 48 1 (by first | decide | (rcases hv with rfl | rfl <;> decide) | (rw [gv]; rcases hv with rfl | rfl <;> decide))).2.2.trans gv
      cases h
      exact ⟨t, gv⟩
    · rw [if_neg c3] at h
      by_cases c5 : (hq_gi s 49 4) = (3 : Int32)
      · rw [if_pos c5] at h
        obtain ⟨y6, hy6, h⟩ := hq_bind h
        have q0 := f_X6_levelOf_fw hy6
        have t := hq_fc_tr t (hq_fc_mono (W := (w_X6_readJoint v)) (by first | decide | (rcases hv with rfl | rfl <;> decide) | (rw [gv]; rcases hv with rfl | rfl <;> decide) | simp [hq_has, hq_sub, w_X6_readJoint]) q0)
        have gv := (q0 48 1 (by first | decide | (rcases hv with rfl | rfl <;> decide) | (rw [gv]; rcases hv with rfl | rfl <;> decide))).2.2.trans gv
        cases h
        exact ⟨t, gv⟩
      · rw [if_neg c5] at h
        cases h
        exact ⟨t, gv⟩
  have t := tg.1
  have gv := tg.2
  by_cases c7 : z2.1 = (-1 : Int32)
  · rw [if_pos c7] at h
    exact hq_fc_tr t (f_X6_readJoint_J100_fw hv gv h)
  · rw [if_neg c7] at h
    by_cases c12 : z2.1 = (2 : Int32)
    · rw [if_pos c12] at h
      exact hq_fc_tr t (f_X6_readJoint_J100_fw hv gv h)
    · rw [if_neg c12] at h
      by_cases c13 : z2.1 = (3 : Int32)
      · rw [if_pos c13] at h
        obtain ⟨s22, hs22, h⟩ := hq_bind h
        have q0 := f_X6_settle_fw hv gv hs22
        have t := hq_fc_tr t (hq_fc_mono (W := (w_X6_readJoint v)) (by first | decide | (rcases hv with rfl | rfl <;> decide) | (rw [gv]; rcases hv with rfl | rfl <;> decide) | simp [hq_has, hq_sub, w_X6_readJoint]) q0)
        have gv := (q0 48 1 (by first | decide | (rcases hv with rfl | rfl <;> decide) | (rw [gv]; rcases hv with rfl | rfl <;> decide))).2.2.trans gv
        by_cases c23 : 0 < (hq_gi s22 48 3)
        · rw [if_pos c23] at h
          obtain ⟨x24, hx24, h⟩ := hq_bind h
          obtain ⟨y25, hy25, h⟩ := hq_bind h
          have q0 := f_X6_levelOf_fw hy25
          have t := hq_fc_tr t (hq_fc_mono (W := (w_X6_readJoint v)) (by first | decide | (rcases hv with rfl | rfl <;> decide) | (rw [gv]; rcases hv with rfl | rfl <;> decide) | simp [hq_has, hq_sub, w_X6_readJoint]) q0)
          have gv := (q0 48 1 (by first | decide | (rcases hv with rfl | rfl <;> decide) | (rw [gv]; rcases hv with rfl | rfl <;> decide))).2.2.trans gv
          by_cases c26 : y25.1 = (3 : Int32)
          · rw [if_pos c26] at h
            obtain ⟨y27, hy27, h⟩ := hq_bind h
            have q0 := f_X6_failed_fw hy27
            have t := hq_fc_tr t (hq_fc_mono (W := (w_X6_readJoint v)) (by first | decide | (rcases hv with rfl | rfl <;> decide) | (rw [gv]; rcases hv with rfl | rfl <;> decide) | simp [hq_has, hq_sub, w_X6_readJoint]) q0)
            have gv := (q0 48 1 (by first | decide | (rcases hv with rfl | rfl <;> decide) | (rw [gv]; rcases hv with rfl | rfl <;> decide))).2.2.trans gv
            have hr : mm_rfit (mm_ret mc_X6_readJoint) y27.1 = true := hq_ifT h
            rw [if_pos hr] at h
            have h := Option.some.inj h
            subst h
            exact t
          · rw [if_neg c26] at h
            exact hq_fc_tr t (f_X6_readJoint_J167_fw hv gv h)
        · rw [if_neg c23] at h
          exact hq_fc_tr t (f_X6_readJoint_J167_fw hv gv h)
      · rw [if_neg c13] at h
        exact hq_fc_tr t (f_X6_readJoint_J167_fw hv gv h)
theorem f_X6_readJoint_fw {n : Nat} {v : Nat} {s : hq_S} {y : (Int32 × hq_S)} (hv : v = 2 ∨ v = 25) (gv : hq_gr s 48 1 = v) (h : f_X6_readJoint n s = some y) : hq_fc (w_X6_readJoint v) s y.2 := by
  unfold f_X6_readJoint at h
  have t := hq_fc_rf (w_X6_readJoint v) s
  by_cases c1 : 0 < (hq_gi s 48 4)
  · rw [if_pos c1] at h
    obtain ⟨y28, hy28, h⟩ := hq_bind h
    have q0 := f_X9_isThisSign_fw hy28
    have t := hq_fc_tr t (hq_fc_mono (W := (w_X6_readJoint v)) (by first | decide | (rcases hv with rfl | rfl <;> decide) | (rw [gv]; rcases hv with rfl | rfl <;> decide) | simp [hq_has, hq_sub, w_X6_readJoint]) q0)
    have gv := (q0 48 1 (by first | decide | (rcases hv with rfl | rfl <;> decide) | (rw [gv]; rcases hv with rfl | rfl <;> decide))).2.2.trans gv
    by_cases c29 : y28.1 = 0
    · rw [if_pos c29] at h
      exact hq_fc_tr t (f_X6_readJoint_J53_fw hv gv h)
    · rw [if_neg c29] at h
      obtain ⟨s30, hs30, h⟩ := hq_bind h
      have q0 := f_X6_settle_fw hv gv hs30
      have t := hq_fc_tr t (hq_fc_mono (W := (w_X6_readJoint v)) (by first | decide | (rcases hv with rfl | rfl <;> decide) | (rw [gv]; rcases hv with rfl | rfl <;> decide) | simp [hq_has, hq_sub, w_X6_readJoint]) q0)
      have gv := (q0 48 1 (by first | decide | (rcases hv with rfl | rfl <;> decide) | (rw [gv]; rcases hv with rfl | rfl <;> decide))).2.2.trans gv
      obtain ⟨s31, hs31, h⟩ := hq_bind h
      have q := hq_fc_pi (W := (w_X6_readJoint v)) hs31 (by first | decide | (rcases hv with rfl | rfl <;> decide) | (rw [gv]; rcases hv with rfl | rfl <;> decide) | simp [hq_has, hq_sub, w_X6_readJoint])
      have t := hq_fc_tr t q
      have gv := (hq_pi_gr hs31).trans gv
      obtain ⟨s32, hs32, h⟩ := hq_bind h
      have q := hq_fc_pi (W := (w_X6_readJoint v)) hs32 (by first | decide | (rcases hv with rfl | rfl <;> decide) | (rw [gv]; rcases hv with rfl | rfl <;> decide) | simp [hq_has, hq_sub, w_X6_readJoint])
      have t := hq_fc_tr t q
      have gv := (hq_pi_gr hs32).trans gv
      obtain ⟨s33, hs33, h⟩ := hq_bind h
      have q0 := f_X9_advance_fw hs33
      have t := hq_fc_tr t (hq_fc_mono (W := (w_X6_readJoint v)) (by first | decide | (rcases hv with rfl | rfl <;> decide) | (rw [gv]; rcases hv with rfl | rfl <;> decide) | simp [hq_has, hq_sub, w_X6_readJoint]) q0)
      have gv := (q0 48 1 (by first | decide | (rcases hv with rfl | rfl <;> decide) | (rw [gv]; rcases hv with rfl | rfl <;> decide))).2.2.trans gv
      have h := Option.some.inj h
      subst h
      exact t
  · rw [if_neg c1] at h
    exact hq_fc_tr t (f_X6_readJoint_J53_fw hv gv h)
def w_X6_readLaw (v : Nat) : List (Nat × Option Nat) := [(48, some 3), (48, some 4), (48, some 5), (48, some 6), (48, some 7), (48, some 8), (49, some 3), (49, some 4), (49, some 5), (49, some 6), (75, none), (v + 9, some 0), (v + 9, some 1), (v + 10, none), (v + 11, none), (v + 12, none)]
theorem f_X6_readLaw_J42_fw {n : Nat} {a1 : Int32} {v : Nat} {s : hq_S} {y : (Int32 × hq_S)} (hv : v = 2 ∨ v = 25) (gv : hq_gr s 48 1 = v) (h : f_X6_readLaw_J42 n a1 s = some y) : hq_fc (w_X6_readLaw v) s y.2 := by
  unfold f_X6_readLaw_J42 at h
  have t := hq_fc_rf (w_X6_readLaw v) s
  obtain ⟨y5, hy5, h⟩ := hq_bind h
  have q0 := f_X6_failed_fw hy5
  have t := hq_fc_tr t (hq_fc_mono (W := (w_X6_readLaw v)) (by first | decide | (rcases hv with rfl | rfl <;> decide) | (rw [gv]; rcases hv with rfl | rfl <;> decide) | simp [hq_has, hq_sub, w_X6_readLaw]) q0)
  have gv := (q0 48 1 (by first | decide | (rcases hv with rfl | rfl <;> decide) | (rw [gv]; rcases hv with rfl | rfl <;> decide))).2.2.trans gv
  have hr : mm_rfit (mm_ret mc_X6_readLaw) y5.1 = true := hq_ifT h
  rw [if_pos hr] at h
  have h := Option.some.inj h
  subst h
  exact t
theorem f_X6_readLaw_J146_fw {n : Nat} {a1 : Int32} {a2 : Int32} {a3 : Int32} {v : Nat} {s : hq_S} {y : (Int32 × hq_S)} (hv : v = 2 ∨ v = 25) (gv : hq_gr s 48 1 = v) (h : f_X6_readLaw_J146 n a1 a2 a3 s = some y) : hq_fc (w_X6_readLaw v) s y.2 := by
  unfold f_X6_readLaw_J146 at h
  have t := hq_fc_rf (w_X6_readLaw v) s
  by_cases c18 : (hq_gi s 48 7) = 0
  · rw [if_pos c18] at h
    have m19 : hq_isT (hq_gr s 48 1) := hq_ifT h
    rw [if_pos m19] at h
    obtain ⟨s20, hs20, h⟩ := hq_bind h
    have q0 := f_X4_close_fw (hq_shT_m9 m19) hs20
    have t := hq_fc_tr t (hq_fc_mono (W := (w_X6_readLaw v)) (by first | decide | (rcases hv with rfl | rfl <;> decide) | (rw [gv]; rcases hv with rfl | rfl <;> decide) | simp [hq_has, hq_sub, w_X6_readLaw]) q0)
    have gv := (q0 48 1 (by first | decide | (rcases hv with rfl | rfl <;> decide) | (rw [gv]; rcases hv with rfl | rfl <;> decide))).2.2.trans gv
    have h := Option.some.inj h
    subst h
    exact t
  · rw [if_neg c18] at h
    have h := Option.some.inj h
    subst h
    exact t
theorem f_X6_readLaw_L110_B_fw {n : Nat} {a1 : Int32} {a2 : Int32} {a3 : Int32} {q110 : Int32 → Int32 → Int32 → hq_S → Option (Int32 × hq_S)} {v : Nat} {s : hq_S} {y : (Int32 × hq_S)} (e110 : ∀ (a1 : Int32) (a2 : Int32) (a3 : Int32) (s : hq_S), hq_gr s 48 1 = v → q110 a1 a2 a3 s = some y → hq_fc (w_X6_readLaw v) s y.2) (hv : v = 2 ∨ v = 25) (gv : hq_gr s 48 1 = v) (h : f_X6_readLaw_L110_B n q110 a1 a2 a3 s = some y) : hq_fc (w_X6_readLaw v) s y.2 := by
  unfold f_X6_readLaw_L110_B at h
  have t := hq_fc_rf (w_X6_readLaw v) s
  by_cases c17 : (700 : Int32) < a3
  · rw [if_pos c17] at h
    exact hq_fc_tr t (f_X6_readLaw_J146_fw hv gv h)
  · rw [if_neg c17] at h
    by_cases c21 : a2 = 0
    · rw [if_pos c21] at h
      exact hq_fc_tr t (f_X6_readLaw_J146_fw hv gv h)
    · rw [if_neg c21] at h
      obtain ⟨z22, hz22, h⟩ := hq_bind h
      have tg : hq_fc (w_X6_readLaw v) s z22.2 ∧ hq_gr z22.2 48 1 = v := by
        clear h
        have h := hz22
        by_cases c23 : (hq_gi s 48 5) = 0
        · rw [if_pos c23] at h
          obtain ⟨y24, hy24, h⟩ := hq_bind h
          have q0 := f_X6_readJoint_fw hv gv hy24
          have t := hq_fc_tr t (hq_fc_mono (W := (w_X6_readLaw v)) (by first | decide | (rcases hv with rfl | rfl <;> decide) | (rw [gv]; rcases hv with rfl | rfl <;> decide) | simp [hq_has, hq_sub, w_X6_readLaw]) q0)
          have gv := (q0 48 1 (by first | decide | (rcases hv with rfl | rfl <;> decide) | (rw [gv]; rcases hv with rfl | rfl <;> decide))).2.2.trans gv
          cases h
          exact ⟨t, gv⟩
        · rw [if_neg c23] at h
          obtain ⟨y25, hy25, h⟩ := hq_bind h
          have q0 := f_X6_readSide_fw hv gv hy25
          have t := hq_fc_tr t (hq_fc_mono (W := (w_X6_readLaw v)) (by first | decide | (rcases hv with rfl | rfl <;> decide) | (rw [gv]; rcases hv with rfl | rfl <;> decide) | simp [hq_has, hq_sub, w_X6_readLaw]) q0)
          have gv := (q0 48 1 (by first | decide | (rcases hv with rfl | rfl <;> decide) | (rw [gv]; rcases hv with rfl | rfl <;> decide))).2.2.trans gv
          cases h
          exact ⟨t, gv⟩
      have t := tg.1
      have gv := tg.2
      exact hq_fc_tr t (e110 a1 z22.1 (a3 + (1 : Int32)) z22.2 gv h)
theorem f_X6_readLaw_L110_fw {n m : Nat} {a1 : Int32} {a2 : Int32} {a3 : Int32} {v : Nat} {s : hq_S} {y : (Int32 × hq_S)} (hv : v = 2 ∨ v = 25) (gv : hq_gr s 48 1 = v) (h : f_X6_readLaw_L110 n m a1 a2 a3 s = some y) : hq_fc (w_X6_readLaw v) s y.2 := by
  induction m generalizing a1 a2 a3 s with
  | zero => cases h
  | succ m ih => exact f_X6_readLaw_L110_B_fw (n := n) (a1 := a1) (a2 := a2) (a3 := a3) (q110 := f_X6_readLaw_L110 n m) (fun a1 a2 a3 s gv h => ih gv h) hv gv h
theorem f_X6_readLaw_fw {n : Nat} {v : Nat} {s : hq_S} {y : (Int32 × hq_S)} (hv : v = 2 ∨ v = 25) (gv : hq_gr s 48 1 = v) (h : f_X6_readLaw n s = some y) : hq_fc (w_X6_readLaw v) s y.2 := by
  unfold f_X6_readLaw at h
  have t := hq_fc_rf (w_X6_readLaw v) s
  obtain ⟨s1, hs1, h⟩ := hq_bind h
  have q0 := f_X9_advance_fw hs1
  have t := hq_fc_tr t (hq_fc_mono (W := (w_X6_readLaw v)) (by first | decide | (rcases hv with rfl | rfl <;> decide) | (rw [gv]; rcases hv with rfl | rfl <;> decide) | simp [hq_has, hq_sub, w_X6_readLaw]) q0)
  have gv := (q0 48 1 (by first | decide | (rcases hv with rfl | rfl <;> decide) | (rw [gv]; rcases hv with rfl | rfl <;> decide))).2.2.trans gv
  obtain ⟨z2, hz2, h⟩ := hq_bind h
  by_cases c4 : z2 < 0
  · rw [if_pos c4] at h
    exact hq_fc_tr t (f_X6_readLaw_J42_fw hv gv h)
  · rw [if_neg c4] at h
    by_cases c6 : z2 < (3 : Int32)
    · rw [if_pos c6] at h
      have m7 : hq_isT (hq_gr s1 48 1) := hq_ifT h
      rw [if_pos m7] at h
      obtain ⟨y8, hy8, h⟩ := hq_bind h
      have q0 := f_X4_isTold_fw (hq_shT_m9 m7) hy8
      have t := hq_fc_tr t (hq_fc_mono (W := (w_X6_readLaw v)) (by first | decide | (rcases hv with rfl | rfl <;> decide) | (rw [gv]; rcases hv with rfl | rfl <;> decide) | simp [hq_has, hq_sub, w_X6_readLaw]) q0)
      have gv := (q0 48 1 (by first | decide | (rcases hv with rfl | rfl <;> decide) | (rw [gv]; rcases hv with rfl | rfl <;> decide))).2.2.trans gv
      by_cases c9 : y8.1 = 0
      · rw [if_pos c9] at h
        obtain ⟨s10, hs10, h⟩ := hq_bind h
        have q0 := f_X9_advance_fw hs10
        have t := hq_fc_tr t (hq_fc_mono (W := (w_X6_readLaw v)) (by first | decide | (rcases hv with rfl | rfl <;> decide) | (rw [gv]; rcases hv with rfl | rfl <;> decide) | simp [hq_has, hq_sub, w_X6_readLaw]) q0)
        have gv := (q0 48 1 (by first | decide | (rcases hv with rfl | rfl <;> decide) | (rw [gv]; rcases hv with rfl | rfl <;> decide))).2.2.trans gv
        have m11 : hq_isT (hq_gr s10 48 1) := hq_ifT h
        rw [if_pos m11] at h
        obtain ⟨s12, hs12, h⟩ := hq_bind h
        have q0 := f_X4_open_fw (hq_shT_m9 m11) hs12
        have t := hq_fc_tr t (hq_fc_mono (W := (w_X6_readLaw v)) (by first | decide | (rcases hv with rfl | rfl <;> decide) | (rw [gv]; rcases hv with rfl | rfl <;> decide) | simp [hq_has, hq_sub, w_X6_readLaw]) q0)
        have gv := (q0 48 1 (by first | decide | (rcases hv with rfl | rfl <;> decide) | (rw [gv]; rcases hv with rfl | rfl <;> decide))).2.2.trans gv
        obtain ⟨s13, hs13, h⟩ := hq_bind h
        have q := hq_fc_pi (W := (w_X6_readLaw v)) hs13 (by first | decide | (rcases hv with rfl | rfl <;> decide) | (rw [gv]; rcases hv with rfl | rfl <;> decide) | simp [hq_has, hq_sub, w_X6_readLaw])
        have t := hq_fc_tr t q
        have gv := (hq_pi_gr hs13).trans gv
        obtain ⟨s14, hs14, h⟩ := hq_bind h
        have q := hq_fc_pi (W := (w_X6_readLaw v)) hs14 (by first | decide | (rcases hv with rfl | rfl <;> decide) | (rw [gv]; rcases hv with rfl | rfl <;> decide) | simp [hq_has, hq_sub, w_X6_readLaw])
        have t := hq_fc_tr t q
        have gv := (hq_pi_gr hs14).trans gv
        obtain ⟨s15, hs15, h⟩ := hq_bind h
        have q := hq_fc_pi (W := (w_X6_readLaw v)) hs15 (by first | decide | (rcases hv with rfl | rfl <;> decide) | (rw [gv]; rcases hv with rfl | rfl <;> decide) | simp [hq_has, hq_sub, w_X6_readLaw])
        have t := hq_fc_tr t q
        have gv := (hq_pi_gr hs15).trans gv
        obtain ⟨s16, hs16, h⟩ := hq_bind h
        have q := hq_fc_pi (W := (w_X6_readLaw v)) hs16 (by first | decide | (rcases hv with rfl | rfl <;> decide) | (rw [gv]; rcases hv with rfl | rfl <;> decide) | simp [hq_has, hq_sub, w_X6_readLaw])
        have t := hq_fc_tr t q
        have gv := (hq_pi_gr hs16).trans gv
        exact hq_fc_tr t (f_X6_readLaw_L110_fw hv gv h)
      · rw [if_neg c9] at h
        obtain ⟨y26, hy26, h⟩ := hq_bind h
        have q0 := f_X6_failed_fw hy26
        have t := hq_fc_tr t (hq_fc_mono (W := (w_X6_readLaw v)) (by first | decide | (rcases hv with rfl | rfl <;> decide) | (rw [gv]; rcases hv with rfl | rfl <;> decide) | simp [hq_has, hq_sub, w_X6_readLaw]) q0)
        have gv := (q0 48 1 (by first | decide | (rcases hv with rfl | rfl <;> decide) | (rw [gv]; rcases hv with rfl | rfl <;> decide))).2.2.trans gv
        have hr : mm_rfit (mm_ret mc_X6_readLaw) y26.1 = true := hq_ifT h
        rw [if_pos hr] at h
        have h := Option.some.inj h
        subst h
        exact t
    · rw [if_neg c6] at h
      exact hq_fc_tr t (f_X6_readLaw_J42_fw hv gv h)
def w_X6_readLine (v : Nat) : List (Nat × Option Nat) := [(48, some 3), (48, some 4), (48, some 5), (48, some 6), (48, some 7), (48, some 8), (49, some 3), (49, some 4), (49, some 5), (49, some 6), (75, none), (v, some 0), (v, some 3), (v, some 6), (v, some 7), (v, some 11), (v, some 13), (v, some 14), (v, some 15), (v + 1, none), (v + 2, none), (v + 3, none), (v + 4, none), (v + 5, none), (v + 6, none), (v + 7, none), (v + 8, none), (v + 9, some 0), (v + 9, some 1), (v + 10, none), (v + 11, none), (v + 12, none), (v + 14, some 1), (v + 15, none), (v + 16, none), (v + 19, none), (v + 20, none)]
theorem f_X6_readLine_fw {n : Nat} {v : Nat} {s : hq_S} {y : (Int32 × hq_S)} (hv : v = 2 ∨ v = 25) (gv : hq_gr s 48 1 = v) (h : f_X6_readLine n s = some y) : hq_fc (w_X6_readLine v) s y.2 := by
  unfold f_X6_readLine at h
  have t := hq_fc_rf (w_X6_readLine v) s
  by_cases c1 : (hq_gi s 49 4) = (3 : Int32)
  · rw [if_pos c1] at h
    by_cases c2 : (hq_gi s 49 5) = (0 : Int32)
    · rw [if_pos c2] at h
      obtain ⟨y3, hy3, h⟩ := hq_bind h
      have q0 := f_X6_readCorner_fw hv gv hy3
      have t := hq_fc_tr t (hq_fc_mono (W := (w_X6_readLine v)) (by first | decide | (rcases hv with rfl | rfl <;> decide) | (rw [gv]; rcases hv with rfl | rfl <;> decide) | simp [hq_has, hq_sub, w_X6_readLine]) q0)
      have gv := (q0 48 1 (by first | decide | (rcases hv with rfl | rfl <;> decide) | (rw [gv]; rcases hv with rfl | rfl <;> decide))).2.2.trans gv
      have hr : mm_rfit (mm_ret mc_X6_readLine) y3.1 = true := hq_ifT h
      rw [if_pos hr] at h
      have h := Option.some.inj h
      subst h
      exact t
    rw [if_neg c2] at h
    by_cases c4 : (hq_gi s 49 5) = (1 : Int32)
    · rw [if_pos c4] at h
      obtain ⟨y5, hy5, h⟩ := hq_bind h
      have q0 := f_X6_readLane_fw hv gv hy5
      have t := hq_fc_tr t (hq_fc_mono (W := (w_X6_readLine v)) (by first | decide | (rcases hv with rfl | rfl <;> decide) | (rw [gv]; rcases hv with rfl | rfl <;> decide) | simp [hq_has, hq_sub, w_X6_readLine]) q0)
      have gv := (q0 48 1 (by first | decide | (rcases hv with rfl | rfl <;> decide) | (rw [gv]; rcases hv with rfl | rfl <;> decide))).2.2.trans gv
      have hr : mm_rfit (mm_ret mc_X6_readLine) y5.1 = true := hq_ifT h
      rw [if_pos hr] at h
      have h := Option.some.inj h
      subst h
      exact t
    rw [if_neg c4] at h
    by_cases c6 : (hq_gi s 49 5) = (2 : Int32)
    · rw [if_pos c6] at h
      obtain ⟨y7, hy7, h⟩ := hq_bind h
      have q0 := f_X6_readLane_fw hv gv hy7
      have t := hq_fc_tr t (hq_fc_mono (W := (w_X6_readLine v)) (by first | decide | (rcases hv with rfl | rfl <;> decide) | (rw [gv]; rcases hv with rfl | rfl <;> decide) | simp [hq_has, hq_sub, w_X6_readLine]) q0)
      have gv := (q0 48 1 (by first | decide | (rcases hv with rfl | rfl <;> decide) | (rw [gv]; rcases hv with rfl | rfl <;> decide))).2.2.trans gv
      have hr : mm_rfit (mm_ret mc_X6_readLine) y7.1 = true := hq_ifT h
      rw [if_pos hr] at h
      have h := Option.some.inj h
      subst h
      exact t
    rw [if_neg c6] at h
    by_cases c8 : (hq_gi s 49 5) = (3 : Int32)
    · rw [if_pos c8] at h
      obtain ⟨y9, hy9, h⟩ := hq_bind h
      have q0 := f_X6_readGuard_fw hv gv hy9
      have t := hq_fc_tr t (hq_fc_mono (W := (w_X6_readLine v)) (by first | decide | (rcases hv with rfl | rfl <;> decide) | (rw [gv]; rcases hv with rfl | rfl <;> decide) | simp [hq_has, hq_sub, w_X6_readLine]) q0)
      have gv := (q0 48 1 (by first | decide | (rcases hv with rfl | rfl <;> decide) | (rw [gv]; rcases hv with rfl | rfl <;> decide))).2.2.trans gv
      have hr : mm_rfit (mm_ret mc_X6_readLine) y9.1 = true := hq_ifT h
      rw [if_pos hr] at h
      have h := Option.some.inj h
      subst h
      exact t
    rw [if_neg c8] at h
    by_cases c10 : (hq_gi s 49 5) = (4 : Int32)
    · rw [if_pos c10] at h
      obtain ⟨y11, hy11, h⟩ := hq_bind h
      have q0 := f_X6_readBeat_fw hv gv hy11
      have t := hq_fc_tr t (hq_fc_mono (W := (w_X6_readLine v)) (by first | decide | (rcases hv with rfl | rfl <;> decide) | (rw [gv]; rcases hv with rfl | rfl <;> decide) | simp [hq_has, hq_sub, w_X6_readLine]) q0)
      have gv := (q0 48 1 (by first | decide | (rcases hv with rfl | rfl <;> decide) | (rw [gv]; rcases hv with rfl | rfl <;> decide))).2.2.trans gv
      have hr : mm_rfit (mm_ret mc_X6_readLine) y11.1 = true := hq_ifT h
      rw [if_pos hr] at h
      have h := Option.some.inj h
      subst h
      exact t
    rw [if_neg c10] at h
    by_cases c12 : (hq_gi s 49 5) = (5 : Int32)
    · rw [if_pos c12] at h
      obtain ⟨y13, hy13, h⟩ := hq_bind h
      have q0 := f_X6_readThief_fw hv gv hy13
      have t := hq_fc_tr t (hq_fc_mono (W := (w_X6_readLine v)) (by first | decide | (rcases hv with rfl | rfl <;> decide) | (rw [gv]; rcases hv with rfl | rfl <;> decide) | simp [hq_has, hq_sub, w_X6_readLine]) q0)
      have gv := (q0 48 1 (by first | decide | (rcases hv with rfl | rfl <;> decide) | (rw [gv]; rcases hv with rfl | rfl <;> decide))).2.2.trans gv
      have hr : mm_rfit (mm_ret mc_X6_readLine) y13.1 = true := hq_ifT h
      rw [if_pos hr] at h
      have h := Option.some.inj h
      subst h
      exact t
    rw [if_neg c12] at h
    by_cases c14 : (hq_gi s 49 5) = (6 : Int32)
    · rw [if_pos c14] at h
      obtain ⟨y15, hy15, h⟩ := hq_bind h
      have q0 := f_X6_readGrip_fw hv gv hy15
      have t := hq_fc_tr t (hq_fc_mono (W := (w_X6_readLine v)) (by first | decide | (rcases hv with rfl | rfl <;> decide) | (rw [gv]; rcases hv with rfl | rfl <;> decide) | simp [hq_has, hq_sub, w_X6_readLine]) q0)
      have gv := (q0 48 1 (by first | decide | (rcases hv with rfl | rfl <;> decide) | (rw [gv]; rcases hv with rfl | rfl <;> decide))).2.2.trans gv
      have hr : mm_rfit (mm_ret mc_X6_readLine) y15.1 = true := hq_ifT h
      rw [if_pos hr] at h
      have h := Option.some.inj h
      subst h
      exact t
    rw [if_neg c14] at h
    by_cases c16 : (hq_gi s 49 5) = (7 : Int32)
    · rw [if_pos c16] at h
      obtain ⟨y17, hy17, h⟩ := hq_bind h
      have q0 := f_X6_readSeed_fw hv gv hy17
      have t := hq_fc_tr t (hq_fc_mono (W := (w_X6_readLine v)) (by first | decide | (rcases hv with rfl | rfl <;> decide) | (rw [gv]; rcases hv with rfl | rfl <;> decide) | simp [hq_has, hq_sub, w_X6_readLine]) q0)
      have gv := (q0 48 1 (by first | decide | (rcases hv with rfl | rfl <;> decide) | (rw [gv]; rcases hv with rfl | rfl <;> decide))).2.2.trans gv
      have hr : mm_rfit (mm_ret mc_X6_readLine) y17.1 = true := hq_ifT h
      rw [if_pos hr] at h
      have h := Option.some.inj h
      subst h
      exact t
    rw [if_neg c16] at h
    by_cases c18 : (hq_gi s 49 5) = (8 : Int32)
    · rw [if_pos c18] at h
      obtain ⟨y19, hy19, h⟩ := hq_bind h
      have q0 := f_X6_readLaw_fw hv gv hy19
      have t := hq_fc_tr t (hq_fc_mono (W := (w_X6_readLine v)) (by first | decide | (rcases hv with rfl | rfl <;> decide) | (rw [gv]; rcases hv with rfl | rfl <;> decide) | simp [hq_has, hq_sub, w_X6_readLine]) q0)
      have gv := (q0 48 1 (by first | decide | (rcases hv with rfl | rfl <;> decide) | (rw [gv]; rcases hv with rfl | rfl <;> decide))).2.2.trans gv
      have hr : mm_rfit (mm_ret mc_X6_readLine) y19.1 = true := hq_ifT h
      rw [if_pos hr] at h
      have h := Option.some.inj h
      subst h
      exact t
    rw [if_neg c18] at h
    obtain ⟨y20, hy20, h⟩ := hq_bind h
    have q0 := f_X6_failed_fw hy20
    have t := hq_fc_tr t (hq_fc_mono (W := (w_X6_readLine v)) (by first | decide | (rcases hv with rfl | rfl <;> decide) | (rw [gv]; rcases hv with rfl | rfl <;> decide) | simp [hq_has, hq_sub, w_X6_readLine]) q0)
    have gv := (q0 48 1 (by first | decide | (rcases hv with rfl | rfl <;> decide) | (rw [gv]; rcases hv with rfl | rfl <;> decide))).2.2.trans gv
    have hr : mm_rfit (mm_ret mc_X6_readLine) y20.1 = true := hq_ifT h
    rw [if_pos hr] at h
    have h := Option.some.inj h
    subst h
    exact t
  · rw [if_neg c1] at h
    obtain ⟨y21, hy21, h⟩ := hq_bind h
    have q0 := f_X6_failed_fw hy21
    have t := hq_fc_tr t (hq_fc_mono (W := (w_X6_readLine v)) (by first | decide | (rcases hv with rfl | rfl <;> decide) | (rw [gv]; rcases hv with rfl | rfl <;> decide) | simp [hq_has, hq_sub, w_X6_readLine]) q0)
    have gv := (q0 48 1 (by first | decide | (rcases hv with rfl | rfl <;> decide) | (rw [gv]; rcases hv with rfl | rfl <;> decide))).2.2.trans gv
    have hr : mm_rfit (mm_ret mc_X6_readLine) y21.1 = true := hq_ifT h
    rw [if_pos hr] at h
    have h := Option.some.inj h
    subst h
    exact t
def w_X7_letGo (k1 : Nat) : List (Nat × Option Nat) := [(k1, none)]
theorem f_X7_letGo_L39_B_fw {n : Nat} {k0 : Nat} {k1 : Nat} {a2 : Int32} {a3 : Int32} {a4 : Int32} {q6 : Nat → Nat → Int32 → hq_S → Option hq_S} {q39 : Nat → Nat → Int32 → Int32 → Int32 → hq_S → Option hq_S} {s : hq_S} {y : hq_S} (e6 : ∀ (k0 : Nat) (k1 : Nat) (a2 : Int32) (o3 : Option Value) (o4 : Option Value) (s : hq_S) (m0_ : hq_isS k0), q6 k0 k1 a2 s = some y → hq_fc (w_X7_letGo k1) s y) (e39 : ∀ (k0 : Nat) (k1 : Nat) (a2 : Int32) (a3 : Int32) (a4 : Int32) (s : hq_S) (m0_ : hq_isS k0), q39 k0 k1 a2 a3 a4 s = some y → hq_fc (w_X7_letGo k1) s y) (m0_ : hq_isS k0) (h : f_X7_letGo_L39_B n q6 q39 k0 k1 a2 a3 a4 s = some y) : hq_fc (w_X7_letGo k1) s y := by
  unfold f_X7_letGo_L39_B at h
  have t := hq_fc_rf (w_X7_letGo k1) s
  by_cases c7 : a4 < ((1 : Int32) <<< (a2 &&& 31))
  · rw [if_pos c7] at h
    obtain ⟨x8, hx8, h⟩ := hq_bind h
    obtain ⟨s9, hs9, h⟩ := hq_bind h
    have q := hq_fc_stiA (W := (w_X7_letGo k1)) hs9 (by first | decide | simp [hq_has, hq_sub, w_X7_letGo])
    have t := hq_fc_tr t q
    exact hq_fc_tr t (e39 k0 k1 a2 a3 (a4 + (1 : Int32)) s9 m0_ h)
  · rw [if_neg c7] at h
    exact hq_fc_tr t (e6 k0 k1 (a2 + (1 : Int32)) none none s m0_ h)
theorem f_X7_letGo_L39_fw {n m : Nat} {k0 : Nat} {k1 : Nat} {a2 : Int32} {a3 : Int32} {a4 : Int32} {q6 : Nat → Nat → Int32 → hq_S → Option hq_S} {s : hq_S} {y : hq_S} (e6 : ∀ (k0 : Nat) (k1 : Nat) (a2 : Int32) (o3 : Option Value) (o4 : Option Value) (s : hq_S) (m0_ : hq_isS k0), q6 k0 k1 a2 s = some y → hq_fc (w_X7_letGo k1) s y) (m0_ : hq_isS k0) (h : f_X7_letGo_L39 n q6 m k0 k1 a2 a3 a4 s = some y) : hq_fc (w_X7_letGo k1) s y := by
  induction m generalizing k0 k1 a2 a3 a4 s with
  | zero => cases h
  | succ m ih => exact f_X7_letGo_L39_B_fw (n := n) (k0 := k0) (k1 := k1) (a2 := a2) (a3 := a3) (a4 := a4) (q39 := f_X7_letGo_L39 n q6 m) e6 (fun k0 k1 a2 a3 a4 s m0_ h => ih m0_ h) m0_ h
theorem f_X7_letGo_L6_B_fw {n : Nat} {k0 : Nat} {k1 : Nat} {a2 : Int32} {q6 : Nat → Nat → Int32 → hq_S → Option hq_S} {s : hq_S} {y : hq_S} (e6 : ∀ (k0 : Nat) (k1 : Nat) (a2 : Int32) (o3 : Option Value) (o4 : Option Value) (s : hq_S) (m0_ : hq_isS k0), q6 k0 k1 a2 s = some y → hq_fc (w_X7_letGo k1) s y) (m0_ : hq_isS k0) (h : f_X7_letGo_L6_B n q6 k0 k1 a2 s = some y) : hq_fc (w_X7_letGo k1) s y := by
  unfold f_X7_letGo_L6_B at h
  have t := hq_fc_rf (w_X7_letGo k1) s
  by_cases c2 : a2 < (hq_gi s k0 0)
  · rw [if_pos c2] at h
    obtain ⟨x3, hx3, h⟩ := hq_bind h
    obtain ⟨z4, hz4, h⟩ := hq_bind h
    exact hq_fc_tr t (f_X7_letGo_L39_fw e6 m0_ h)
  · rw [if_neg c2] at h
    have h := Option.some.inj h
    subst h
    exact t
theorem f_X7_letGo_L6_fw {n m : Nat} {k0 : Nat} {k1 : Nat} {a2 : Int32} {s : hq_S} {y : hq_S} (m0_ : hq_isS k0) (h : f_X7_letGo_L6 n m k0 k1 a2 s = some y) : hq_fc (w_X7_letGo k1) s y := by
  induction m generalizing k0 k1 a2 s with
  | zero => cases h
  | succ m ih => exact f_X7_letGo_L6_B_fw (n := n) (k0 := k0) (k1 := k1) (a2 := a2) (q6 := f_X7_letGo_L6 n m) (fun k0 k1 a2 _ _ s m0_ h => ih m0_ h) m0_ h
theorem f_X7_letGo_fw {n : Nat} {k0 : Nat} {k1 : Nat} {s : hq_S} {y : hq_S} (m0_ : hq_isS k0) (h : f_X7_letGo n k0 k1 s = some y) : hq_fc (w_X7_letGo k1) s y := by
  unfold f_X7_letGo at h
  have t := hq_fc_rf (w_X7_letGo k1) s
  obtain ⟨s1, hs1, h⟩ := hq_bind h
  have q := hq_fc_stiA (W := (w_X7_letGo k1)) hs1 (by first | decide | simp [hq_has, hq_sub, w_X7_letGo])
  have t := hq_fc_tr t q
  exact hq_fc_tr t (f_X7_letGo_L6_fw m0_ h)
def w_X7_nightsToSweep : List (Nat × Option Nat) := [(160, none), (161, none)]
theorem f_X7_nightsToSweep_J119_fw {n : Nat} {k1 : Nat} {a2 : Int32} {a3 : Int32} {a6 : Int32} {a7 : Int32} {s : hq_S} {y : (Int32 × hq_S)} (m1_ : hq_isS k1) (h : f_X7_nightsToSweep_J119 n k1 a2 a3 a6 a7 s = some y) : hq_fc w_X7_nightsToSweep s y.2 := by
  unfold f_X7_nightsToSweep_J119 at h
  have t := hq_fc_rf w_X7_nightsToSweep s
  obtain ⟨x5, hx5, h⟩ := hq_bind h
  by_cases c6 : x5 = (-1 : Int32)
  · rw [if_pos c6] at h
    have h := Option.some.inj h
    subst h
    exact t
  · rw [if_neg c6] at h
    obtain ⟨x7, hx7, h⟩ := hq_bind h
    have h := Option.some.inj h
    subst h
    exact t
theorem f_X7_nightsToSweep_L71_B_fw {n : Nat} {k1 : Nat} {a2 : Int32} {a3 : Int32} {a6 : Int32} {a7 : Int32} {a8 : Int32} {q44 : Nat → Int32 → Int32 → Int32 → Int32 → hq_S → Option (Int32 × hq_S)} {q71 : Nat → Int32 → Int32 → Int32 → Int32 → Int32 → hq_S → Option (Int32 × hq_S)} {s : hq_S} {y : (Int32 × hq_S)} (e44 : ∀ (k1 : Nat) (a2 : Int32) (a3 : Int32) (a6 : Int32) (a7 : Int32) (o8 : Option Value) (s : hq_S) (m1_ : hq_isS k1), q44 k1 a2 a3 a6 a7 s = some y → hq_fc w_X7_nightsToSweep s y.2) (e71 : ∀ (k1 : Nat) (a2 : Int32) (a3 : Int32) (a6 : Int32) (a7 : Int32) (a8 : Int32) (s : hq_S) (m1_ : hq_isS k1), q71 k1 a2 a3 a6 a7 a8 s = some y → hq_fc w_X7_nightsToSweep s y.2) (m1_ : hq_isS k1) (h : f_X7_nightsToSweep_L71_B n q44 q71 k1 a2 a3 a6 a7 a8 s = some y) : hq_fc w_X7_nightsToSweep s y.2 := by
  unfold f_X7_nightsToSweep_L71_B at h
  have t := hq_fc_rf w_X7_nightsToSweep s
  by_cases c11 : a3 < a8
  · rw [if_pos c11] at h
    exact hq_fc_tr t (e44 k1 a2 a3 a6 (a7 + (1 : Int32)) none s m1_ h)
  · rw [if_neg c11] at h
    obtain ⟨x12, hx12, h⟩ := hq_bind h
    obtain ⟨x13, hx13, h⟩ := hq_bind h
    obtain ⟨z14, hz14, h⟩ := hq_bind h
    have t : hq_fc w_X7_nightsToSweep s z14.2 := by
      clear h
      have h := hz14
      by_cases c15 : x13 = (a7 - (1 : Int32))
      · rw [if_pos c15] at h
        obtain ⟨y16, hy16, h⟩ := hq_bind h
        have q0 := f_X7_solveAround_fw hy16
        have t := hq_fc_tr t (hq_fc_mono (W := w_X7_nightsToSweep) (by first | decide | simp [hq_has, hq_sub, w_X7_nightsToSweep]) q0)
        cases h
        exact t
      · rw [if_neg c15] at h
        cases h
        exact t
    exact hq_fc_tr t (e71 k1 a2 a3 z14.1 a7 (a8 + (1 : Int32)) z14.2 m1_ h)
theorem f_X7_nightsToSweep_L71_fw {n m : Nat} {k1 : Nat} {a2 : Int32} {a3 : Int32} {a6 : Int32} {a7 : Int32} {a8 : Int32} {q44 : Nat → Int32 → Int32 → Int32 → Int32 → hq_S → Option (Int32 × hq_S)} {s : hq_S} {y : (Int32 × hq_S)} (e44 : ∀ (k1 : Nat) (a2 : Int32) (a3 : Int32) (a6 : Int32) (a7 : Int32) (o8 : Option Value) (s : hq_S) (m1_ : hq_isS k1), q44 k1 a2 a3 a6 a7 s = some y → hq_fc w_X7_nightsToSweep s y.2) (m1_ : hq_isS k1) (h : f_X7_nightsToSweep_L71 n q44 m k1 a2 a3 a6 a7 a8 s = some y) : hq_fc w_X7_nightsToSweep s y.2 := by
  induction m generalizing k1 a2 a3 a6 a7 a8 s with
  | zero => cases h
  | succ m ih => exact f_X7_nightsToSweep_L71_B_fw (n := n) (k1 := k1) (a2 := a2) (a3 := a3) (a6 := a6) (a7 := a7) (a8 := a8) (q71 := f_X7_nightsToSweep_L71 n q44 m) e44 (fun k1 a2 a3 a6 a7 a8 s m1_ h => ih m1_ h) m1_ h
theorem f_X7_nightsToSweep_L44_B_fw {n : Nat} {k1 : Nat} {a2 : Int32} {a3 : Int32} {a6 : Int32} {a7 : Int32} {q44 : Nat → Int32 → Int32 → Int32 → Int32 → hq_S → Option (Int32 × hq_S)} {s : hq_S} {y : (Int32 × hq_S)} (e44 : ∀ (k1 : Nat) (a2 : Int32) (a3 : Int32) (a6 : Int32) (a7 : Int32) (o8 : Option Value) (s : hq_S) (m1_ : hq_isS k1), q44 k1 a2 a3 a6 a7 s = some y → hq_fc w_X7_nightsToSweep s y.2) (m1_ : hq_isS k1) (h : f_X7_nightsToSweep_L44_B n q44 k1 a2 a3 a6 a7 s = some y) : hq_fc w_X7_nightsToSweep s y.2 := by
  unfold f_X7_nightsToSweep_L44_B at h
  have t := hq_fc_rf w_X7_nightsToSweep s
  by_cases c4 : (1024 : Int32) < a7
  · rw [if_pos c4] at h
    exact hq_fc_tr t (f_X7_nightsToSweep_J119_fw m1_ h)
  · rw [if_neg c4] at h
    by_cases c8 : a6 = 0
    · rw [if_pos c8] at h
      exact hq_fc_tr t (f_X7_nightsToSweep_J119_fw m1_ h)
    · rw [if_neg c8] at h
      obtain ⟨x9, hx9, h⟩ := hq_bind h
      by_cases c10 : x9 = (-1 : Int32)
      · rw [if_pos c10] at h
        exact hq_fc_tr t (f_X7_nightsToSweep_L71_fw e44 m1_ h)
      · rw [if_neg c10] at h
        exact hq_fc_tr t (f_X7_nightsToSweep_J119_fw m1_ h)
theorem f_X7_nightsToSweep_L44_fw {n m : Nat} {k1 : Nat} {a2 : Int32} {a3 : Int32} {a6 : Int32} {a7 : Int32} {s : hq_S} {y : (Int32 × hq_S)} (m1_ : hq_isS k1) (h : f_X7_nightsToSweep_L44 n m k1 a2 a3 a6 a7 s = some y) : hq_fc w_X7_nightsToSweep s y.2 := by
  induction m generalizing k1 a2 a3 a6 a7 s with
  | zero => cases h
  | succ m ih => exact f_X7_nightsToSweep_L44_B_fw (n := n) (k1 := k1) (a2 := a2) (a3 := a3) (a6 := a6) (a7 := a7) (q44 := f_X7_nightsToSweep_L44 n m) (fun k1 a2 a3 a6 a7 _ s m1_ h => ih m1_ h) m1_ h
theorem f_X7_nightsToSweep_fw {n : Nat} {k1 : Nat} {a2 : Int32} {s : hq_S} {y : (Int32 × hq_S)} (m1_ : hq_isS k1) (h : f_X7_nightsToSweep n k1 a2 s = some y) : hq_fc w_X7_nightsToSweep s y.2 := by
  unfold f_X7_nightsToSweep at h
  have t := hq_fc_rf w_X7_nightsToSweep s
  obtain ⟨s1, hs1, h⟩ := hq_bind h
  have q0 := f_X7_letGo_fw m1_ hs1
  have t := hq_fc_tr t (hq_fc_mono (W := w_X7_nightsToSweep) (by first | decide | simp [hq_has, hq_sub, w_X7_nightsToSweep]) q0)
  obtain ⟨s2, hs2, h⟩ := hq_bind h
  have q0 := f_J7_fill_53178_fw hs2
  have t := hq_fc_tr t (hq_fc_mono (W := w_X7_nightsToSweep) (by first | decide | simp [hq_has, hq_sub, w_X7_nightsToSweep]) q0)
  obtain ⟨s3, hs3, h⟩ := hq_bind h
  have q := hq_fc_st (W := w_X7_nightsToSweep) hs3 (by first | decide | simp [hq_has, hq_sub, w_X7_nightsToSweep])
  have t := hq_fc_tr t q
  exact hq_fc_tr t (f_X7_nightsToSweep_L44_fw m1_ h)
def w_X7_firstLook : List (Nat × Option Nat) := [(160, none), (161, none)]
theorem f_X7_firstLook_J71_fw {n : Nat} {k1 : Nat} {a2 : Int32} {a3 : Int32} {a4 : Int32} {a5 : Int32} {q29 : Nat → Int32 → Int32 → Int32 → Int32 → hq_S → Option (Int32 × hq_S)} {s : hq_S} {y : (Int32 × hq_S)} (e29 : ∀ (k1 : Nat) (a2 : Int32) (a3 : Int32) (a4 : Int32) (a5 : Int32) (s : hq_S) (m1_ : hq_isS k1), q29 k1 a2 a3 a4 a5 s = some y → hq_fc w_X7_firstLook s y.2) (m1_ : hq_isS k1) (h : f_X7_firstLook_J71 n q29 k1 a2 a3 a4 a5 s = some y) : hq_fc w_X7_firstLook s y.2 := by
  unfold f_X7_firstLook_J71 at h
  have t := hq_fc_rf w_X7_firstLook s
  exact hq_fc_tr t (e29 k1 a2 a3 a4 (a5 + (1 : Int32)) s m1_ h)
theorem f_X7_firstLook_L29_B_fw {n : Nat} {k1 : Nat} {a2 : Int32} {a3 : Int32} {a4 : Int32} {a5 : Int32} {q29 : Nat → Int32 → Int32 → Int32 → Int32 → hq_S → Option (Int32 × hq_S)} {s : hq_S} {y : (Int32 × hq_S)} (e29 : ∀ (k1 : Nat) (a2 : Int32) (a3 : Int32) (a4 : Int32) (a5 : Int32) (s : hq_S) (m1_ : hq_isS k1), q29 k1 a2 a3 a4 a5 s = some y → hq_fc w_X7_firstLook s y.2) (m1_ : hq_isS k1) (h : f_X7_firstLook_L29_B n q29 k1 a2 a3 a4 a5 s = some y) : hq_fc w_X7_firstLook s y.2 := by
  unfold f_X7_firstLook_L29_B at h
  have t := hq_fc_rf w_X7_firstLook s
  by_cases c3 : a4 < a5
  · rw [if_pos c3] at h
    have h := Option.some.inj h
    subst h
    exact t
  · rw [if_neg c3] at h
    obtain ⟨y4, hy4, h⟩ := hq_bind h
    have q0 := f_J6_bitCount_0f7a4_fw hy4
    have t := hq_fc_tr t (hq_fc_mono (W := w_X7_firstLook) (by first | decide | simp [hq_has, hq_sub, w_X7_firstLook]) q0)
    by_cases c5 : a2 < y4.1
    · rw [if_pos c5] at h
      exact hq_fc_tr t (f_X7_firstLook_J71_fw e29 m1_ h)
    · rw [if_neg c5] at h
      obtain ⟨x6, hx6, h⟩ := hq_bind h
      obtain ⟨x7, hx7, h⟩ := hq_bind h
      by_cases c8 : x7 = (a3 - (1 : Int32))
      · rw [if_pos c8] at h
        have h := Option.some.inj h
        subst h
        exact t
      · rw [if_neg c8] at h
        exact hq_fc_tr t (f_X7_firstLook_J71_fw e29 m1_ h)
theorem f_X7_firstLook_L29_fw {n m : Nat} {k1 : Nat} {a2 : Int32} {a3 : Int32} {a4 : Int32} {a5 : Int32} {s : hq_S} {y : (Int32 × hq_S)} (m1_ : hq_isS k1) (h : f_X7_firstLook_L29 n m k1 a2 a3 a4 a5 s = some y) : hq_fc w_X7_firstLook s y.2 := by
  induction m generalizing k1 a2 a3 a4 a5 s with
  | zero => cases h
  | succ m ih => exact f_X7_firstLook_L29_B_fw (n := n) (k1 := k1) (a2 := a2) (a3 := a3) (a4 := a4) (a5 := a5) (q29 := f_X7_firstLook_L29 n m) (fun k1 a2 a3 a4 a5 s m1_ h => ih m1_ h) m1_ h
theorem f_X7_firstLook_fw {n : Nat} {k1 : Nat} {a2 : Int32} {s : hq_S} {y : (Int32 × hq_S)} (m1_ : hq_isS k1) (h : f_X7_firstLook n k1 a2 s = some y) : hq_fc w_X7_firstLook s y.2 := by
  unfold f_X7_firstLook at h
  have t := hq_fc_rf w_X7_firstLook s
  obtain ⟨y1, hy1, h⟩ := hq_bind h
  have q0 := f_X7_nightsToSweep_fw m1_ hy1
  have t := hq_fc_tr t (hq_fc_mono (W := w_X7_firstLook) (by first | decide | simp [hq_has, hq_sub, w_X7_firstLook]) q0)
  by_cases c2 : y1.1 = (-2 : Int32)
  · rw [if_pos c2] at h
    have h := Option.some.inj h
    subst h
    exact t
  · rw [if_neg c2] at h
    exact hq_fc_tr t (f_X7_firstLook_L29_fw m1_ h)
def w_X8_measureFrom (k0 : Nat) : List (Nat × Option Nat) := [(k0 + 2, none)]
theorem f_X8_measureFrom_L56_B_fw {n : Nat} {k0 : Nat} {a1 : Int32} {a2 : Int32} {a3 : Int32} {a4 : Int32} {a5 : Int32} {a6 : Int32} {q41 : Nat → Int32 → Int32 → Int32 → Int32 → Int32 → hq_S → Option hq_S} {q56 : Nat → Int32 → Int32 → Int32 → Int32 → Int32 → Int32 → hq_S → Option hq_S} {s : hq_S} {y : hq_S} (e41 : ∀ (k0 : Nat) (a1 : Int32) (a2 : Int32) (a3 : Int32) (a4 : Int32) (a5 : Int32) (o6 : Option Value) (s : hq_S) (m0_ : hq_isS k0), q41 k0 a1 a2 a3 a4 a5 s = some y → hq_fc (w_X8_measureFrom k0) s y) (e56 : ∀ (k0 : Nat) (a1 : Int32) (a2 : Int32) (a3 : Int32) (a4 : Int32) (a5 : Int32) (a6 : Int32) (s : hq_S) (m0_ : hq_isS k0), q56 k0 a1 a2 a3 a4 a5 a6 s = some y → hq_fc (w_X8_measureFrom k0) s y) (m0_ : hq_isS k0) (h : f_X8_measureFrom_L56_B n q41 q56 k0 a1 a2 a3 a4 a5 a6 s = some y) : hq_fc (w_X8_measureFrom k0) s y := by
  unfold f_X8_measureFrom_L56_B at h
  have t := hq_fc_rf (w_X8_measureFrom k0) s
  by_cases c4 : a6 < (hq_gi s k0 0)
  · rw [if_pos c4] at h
    obtain ⟨z6, hz6, h⟩ := hq_bind h
    obtain ⟨s9, hs9, h⟩ := hq_bind h
    have q := hq_fc_st (W := (w_X8_measureFrom k0)) hs9 (by first | decide | (rcases m0_ with rfl | rfl <;> decide) | simp [hq_has, hq_sub, w_X8_measureFrom])
    have t := hq_fc_tr t q
    exact hq_fc_tr t (e56 k0 a1 a2 a3 a4 a5 (a6 + (1 : Int32)) s9 m0_ h)
  · rw [if_neg c4] at h
    obtain ⟨y5, hy5, h⟩ := hq_bind h
    have q0 := f_X8_nextToAny_fw m0_ hy5
    have t := hq_fc_tr t (hq_fc_mono (W := (w_X8_measureFrom k0)) (by first | decide | (rcases m0_ with rfl | rfl <;> decide) | simp [hq_has, hq_sub, w_X8_measureFrom]) q0)
    exact hq_fc_tr t (e41 k0 a1 a2 (a3 ||| a4) (y5.1 &&& ((a3 ||| a4) ^^^ (-1 : Int32))) (a5 + (1 : Int32)) none y5.2 m0_ h)
theorem f_X8_measureFrom_L56_fw {n m : Nat} {k0 : Nat} {a1 : Int32} {a2 : Int32} {a3 : Int32} {a4 : Int32} {a5 : Int32} {a6 : Int32} {q41 : Nat → Int32 → Int32 → Int32 → Int32 → Int32 → hq_S → Option hq_S} {s : hq_S} {y : hq_S} (e41 : ∀ (k0 : Nat) (a1 : Int32) (a2 : Int32) (a3 : Int32) (a4 : Int32) (a5 : Int32) (o6 : Option Value) (s : hq_S) (m0_ : hq_isS k0), q41 k0 a1 a2 a3 a4 a5 s = some y → hq_fc (w_X8_measureFrom k0) s y) (m0_ : hq_isS k0) (h : f_X8_measureFrom_L56 n q41 m k0 a1 a2 a3 a4 a5 a6 s = some y) : hq_fc (w_X8_measureFrom k0) s y := by
  induction m generalizing k0 a1 a2 a3 a4 a5 a6 s with
  | zero => cases h
  | succ m ih => exact f_X8_measureFrom_L56_B_fw (n := n) (k0 := k0) (a1 := a1) (a2 := a2) (a3 := a3) (a4 := a4) (a5 := a5) (a6 := a6) (q56 := f_X8_measureFrom_L56 n q41 m) e41 (fun k0 a1 a2 a3 a4 a5 a6 s m0_ h => ih m0_ h) m0_ h
theorem f_X8_measureFrom_L41_B_fw {n : Nat} {k0 : Nat} {a1 : Int32} {a2 : Int32} {a3 : Int32} {a4 : Int32} {a5 : Int32} {q41 : Nat → Int32 → Int32 → Int32 → Int32 → Int32 → hq_S → Option hq_S} {s : hq_S} {y : hq_S} (e41 : ∀ (k0 : Nat) (a1 : Int32) (a2 : Int32) (a3 : Int32) (a4 : Int32) (a5 : Int32) (o6 : Option Value) (s : hq_S) (m0_ : hq_isS k0), q41 k0 a1 a2 a3 a4 a5 s = some y → hq_fc (w_X8_measureFrom k0) s y) (m0_ : hq_isS k0) (h : f_X8_measureFrom_L41_B n q41 k0 a1 a2 a3 a4 a5 s = some y) : hq_fc (w_X8_measureFrom k0) s y := by
  unfold f_X8_measureFrom_L41_B at h
  have t := hq_fc_rf (w_X8_measureFrom k0) s
  by_cases c2 : a5 < (10 : Int32)
  · rw [if_pos c2] at h
    by_cases c3 : a4 = 0
    · rw [if_pos c3] at h
      have h := Option.some.inj h
      subst h
      exact t
    · rw [if_neg c3] at h
      exact hq_fc_tr t (f_X8_measureFrom_L56_fw e41 m0_ h)
  · rw [if_neg c2] at h
    have h := Option.some.inj h
    subst h
    exact t
theorem f_X8_measureFrom_L41_fw {n m : Nat} {k0 : Nat} {a1 : Int32} {a2 : Int32} {a3 : Int32} {a4 : Int32} {a5 : Int32} {s : hq_S} {y : hq_S} (m0_ : hq_isS k0) (h : f_X8_measureFrom_L41 n m k0 a1 a2 a3 a4 a5 s = some y) : hq_fc (w_X8_measureFrom k0) s y := by
  induction m generalizing k0 a1 a2 a3 a4 a5 s with
  | zero => cases h
  | succ m ih => exact f_X8_measureFrom_L41_B_fw (n := n) (k0 := k0) (a1 := a1) (a2 := a2) (a3 := a3) (a4 := a4) (a5 := a5) (q41 := f_X8_measureFrom_L41 n m) (fun k0 a1 a2 a3 a4 a5 _ s m0_ h => ih m0_ h) m0_ h
theorem f_X8_measureFrom_L7_B_fw {n : Nat} {k0 : Nat} {a1 : Int32} {a2 : Int32} {a3 : Int32} {q7 : Nat → Int32 → Int32 → Int32 → hq_S → Option hq_S} {s : hq_S} {y : hq_S} (e7 : ∀ (k0 : Nat) (a1 : Int32) (a2 : Int32) (a3 : Int32) (s : hq_S) (m0_ : hq_isS k0), q7 k0 a1 a2 a3 s = some y → hq_fc (w_X8_measureFrom k0) s y) (m0_ : hq_isS k0) (h : f_X8_measureFrom_L7_B n q7 k0 a1 a2 a3 s = some y) : hq_fc (w_X8_measureFrom k0) s y := by
  unfold f_X8_measureFrom_L7_B at h
  have t := hq_fc_rf (w_X8_measureFrom k0) s
  by_cases c1 : a3 < (hq_gi s k0 0)
  · rw [if_pos c1] at h
    obtain ⟨s10, hs10, h⟩ := hq_bind h
    have q := hq_fc_st (W := (w_X8_measureFrom k0)) hs10 (by first | decide | (rcases m0_ with rfl | rfl <;> decide) | simp [hq_has, hq_sub, w_X8_measureFrom])
    have t := hq_fc_tr t q
    exact hq_fc_tr t (e7 k0 a1 a2 (a3 + (1 : Int32)) s10 m0_ h)
  · rw [if_neg c1] at h
    exact hq_fc_tr t (f_X8_measureFrom_L41_fw m0_ h)
theorem f_X8_measureFrom_L7_fw {n m : Nat} {k0 : Nat} {a1 : Int32} {a2 : Int32} {a3 : Int32} {s : hq_S} {y : hq_S} (m0_ : hq_isS k0) (h : f_X8_measureFrom_L7 n m k0 a1 a2 a3 s = some y) : hq_fc (w_X8_measureFrom k0) s y := by
  induction m generalizing k0 a1 a2 a3 s with
  | zero => cases h
  | succ m ih => exact f_X8_measureFrom_L7_B_fw (n := n) (k0 := k0) (a1 := a1) (a2 := a2) (a3 := a3) (q7 := f_X8_measureFrom_L7 n m) (fun k0 a1 a2 a3 s m0_ h => ih m0_ h) m0_ h
theorem f_X8_measureFrom_fw {n : Nat} {k0 : Nat} {a1 : Int32} {s : hq_S} {y : hq_S} (m0_ : hq_isS k0) (h : f_X8_measureFrom n k0 a1 s = some y) : hq_fc (w_X8_measureFrom k0) s y := by
  unfold f_X8_measureFrom at h
  have t := hq_fc_rf (w_X8_measureFrom k0) s
  exact hq_fc_tr t (f_X8_measureFrom_L7_fw m0_ h)
def w_X8_build (k0 : Nat) : List (Nat × Option Nat) := [(k0, some 0), (k0 + 1, none), (k0 + 2, none)]
theorem f_X8_build_L127_B_fw {n : Nat} {k0 : Nat} {k1 : Nat} {a2 : Int32} {a3 : Int32} {a4 : Int32} {q127 : Nat → Nat → Int32 → Int32 → Int32 → hq_S → Option hq_S} {s : hq_S} {y : hq_S} (e127 : ∀ (k0 : Nat) (k1 : Nat) (a2 : Int32) (a3 : Int32) (a4 : Int32) (o5 : Option Value) (s : hq_S) (m0_ : hq_isS k0) (m1_ : hq_isT k1), q127 k0 k1 a2 a3 a4 s = some y → hq_fc (w_X8_build k0) s y) (m0_ : hq_isS k0) (m1_ : hq_isT k1) (h : f_X8_build_L127_B n q127 k0 k1 a2 a3 a4 s = some y) : hq_fc (w_X8_build k0) s y := by
  unfold f_X8_build_L127_B at h
  have t := hq_fc_rf (w_X8_build k0) s
  by_cases c4 : a4 < (hq_gi s k0 0)
  · rw [if_pos c4] at h
    obtain ⟨s5, hs5, h⟩ := hq_bind h
    have q0 := f_X8_measureFrom_fw m0_ hs5
    have t := hq_fc_tr t (hq_fc_mono (W := (w_X8_build k0)) (by first | decide | (rcases m0_ with rfl | rfl <;> decide) | simp [hq_has, hq_sub, w_X8_build]) q0)
    exact hq_fc_tr t (e127 k0 k1 a2 a3 (a4 + (1 : Int32)) none s5 m0_ m1_ h)
  · rw [if_neg c4] at h
    have h := Option.some.inj h
    subst h
    exact t
theorem f_X8_build_L127_fw {n m : Nat} {k0 : Nat} {k1 : Nat} {a2 : Int32} {a3 : Int32} {a4 : Int32} {s : hq_S} {y : hq_S} (m0_ : hq_isS k0) (m1_ : hq_isT k1) (h : f_X8_build_L127 n m k0 k1 a2 a3 a4 s = some y) : hq_fc (w_X8_build k0) s y := by
  induction m generalizing k0 k1 a2 a3 a4 s with
  | zero => cases h
  | succ m ih => exact f_X8_build_L127_B_fw (n := n) (k0 := k0) (k1 := k1) (a2 := a2) (a3 := a3) (a4 := a4) (q127 := f_X8_build_L127 n m) (fun k0 k1 a2 a3 a4 _ s m0_ m1_ h => ih m0_ m1_ h) m0_ m1_ h
theorem f_X8_build_J118_fw {n : Nat} {k0 : Nat} {k1 : Nat} {a2 : Int32} {a3 : Int32} {a4 : Int32} {q19 : Nat → Nat → Int32 → Int32 → Int32 → hq_S → Option hq_S} {s : hq_S} {y : hq_S} (e19 : ∀ (k0 : Nat) (k1 : Nat) (a2 : Int32) (a3 : Int32) (a4 : Int32) (o5 : Option Value) (s : hq_S) (m0_ : hq_isS k0) (m1_ : hq_isT k1), q19 k0 k1 a2 a3 a4 s = some y → hq_fc (w_X8_build k0) s y) (m0_ : hq_isS k0) (m1_ : hq_isT k1) (h : f_X8_build_J118 n q19 k0 k1 a2 a3 a4 s = some y) : hq_fc (w_X8_build k0) s y := by
  unfold f_X8_build_J118 at h
  have t := hq_fc_rf (w_X8_build k0) s
  exact hq_fc_tr t (e19 k0 k1 a2 a3 (a4 + (1 : Int32)) none s m0_ m1_ h)
theorem f_X8_build_J41_fw {n : Nat} {k0 : Nat} {k1 : Nat} {a2 : Int32} {a3 : Int32} {a4 : Int32} {q19 : Nat → Nat → Int32 → Int32 → Int32 → hq_S → Option hq_S} {s : hq_S} {y : hq_S} (e19 : ∀ (k0 : Nat) (k1 : Nat) (a2 : Int32) (a3 : Int32) (a4 : Int32) (o5 : Option Value) (s : hq_S) (m0_ : hq_isS k0) (m1_ : hq_isT k1), q19 k0 k1 a2 a3 a4 s = some y → hq_fc (w_X8_build k0) s y) (m0_ : hq_isS k0) (m1_ : hq_isT k1) (h : f_X8_build_J41 n q19 k0 k1 a2 a3 a4 s = some y) : hq_fc (w_X8_build k0) s y := by
  unfold f_X8_build_J41 at h
  have t := hq_fc_rf (w_X8_build k0) s
  obtain ⟨x8, hx8, h⟩ := hq_bind h
  obtain ⟨x9, hx9, h⟩ := hq_bind h
  obtain ⟨x10, hx10, h⟩ := hq_bind h
  obtain ⟨s11, hs11, h⟩ := hq_bind h
  have q := hq_fc_st (W := (w_X8_build k0)) hs11 (by first | decide | (rcases m0_ with rfl | rfl <;> decide) | simp [hq_has, hq_sub, w_X8_build])
  have t := hq_fc_tr t q
  obtain ⟨z12, hz12, h⟩ := hq_bind h
  have t : hq_fc (w_X8_build k0) s z12.2 := by
    clear h
    have h := hz12
    by_cases c13 : a3 = 0
    · rw [if_pos c13] at h
      obtain ⟨y14, hy14, h⟩ := hq_bind h
      have q0 := f_X10_isOneWay_fw m1_ hy14
      have t := hq_fc_tr t (hq_fc_mono (W := (w_X8_build k0)) (by first | decide | (rcases m0_ with rfl | rfl <;> decide) | simp [hq_has, hq_sub, w_X8_build]) q0)
      by_cases c15 : y14.1 = 0
      · rw [if_pos c15] at h
        cases h
        exact t
      · rw [if_neg c15] at h
        cases h
        exact t
    · rw [if_neg c13] at h
      cases h
      exact t
  obtain ⟨x16, hx16, h⟩ := hq_bind h
  obtain ⟨x17, hx17, h⟩ := hq_bind h
  obtain ⟨z18, hz18, h⟩ := hq_bind h
  obtain ⟨s21, hs21, h⟩ := hq_bind h
  have q := hq_fc_st (W := (w_X8_build k0)) hs21 (by first | decide | (rcases m0_ with rfl | rfl <;> decide) | simp [hq_has, hq_sub, w_X8_build])
  have t := hq_fc_tr t q
  exact hq_fc_tr t (f_X8_build_J118_fw e19 m0_ m1_ h)
theorem f_X8_build_L19_B_fw {n : Nat} {k0 : Nat} {k1 : Nat} {a2 : Int32} {a3 : Int32} {a4 : Int32} {q19 : Nat → Nat → Int32 → Int32 → Int32 → hq_S → Option hq_S} {s : hq_S} {y : hq_S} (e19 : ∀ (k0 : Nat) (k1 : Nat) (a2 : Int32) (a3 : Int32) (a4 : Int32) (o5 : Option Value) (s : hq_S) (m0_ : hq_isS k0) (m1_ : hq_isT k1), q19 k0 k1 a2 a3 a4 s = some y → hq_fc (w_X8_build k0) s y) (m0_ : hq_isS k0) (m1_ : hq_isT k1) (h : f_X8_build_L19_B n q19 k0 k1 a2 a3 a4 s = some y) : hq_fc (w_X8_build k0) s y := by
  unfold f_X8_build_L19_B at h
  have t := hq_fc_rf (w_X8_build k0) s
  by_cases c3 : a4 < (hq_gi s k1 3)
  · rw [if_pos c3] at h
    by_cases c7 : a3 = 0
    · rw [if_pos c7] at h
      by_cases c22 : ((a2 >>> (a4 &&& 31)) &&& (1 : Int32)) = 0
      · rw [if_pos c22] at h
        exact hq_fc_tr t (f_X8_build_J41_fw e19 m0_ m1_ h)
      · rw [if_neg c22] at h
        exact hq_fc_tr t (f_X8_build_J118_fw e19 m0_ m1_ h)
    · rw [if_neg c7] at h
      exact hq_fc_tr t (f_X8_build_J41_fw e19 m0_ m1_ h)
  · rw [if_neg c3] at h
    exact hq_fc_tr t (f_X8_build_L127_fw m0_ m1_ h)
theorem f_X8_build_L19_fw {n m : Nat} {k0 : Nat} {k1 : Nat} {a2 : Int32} {a3 : Int32} {a4 : Int32} {s : hq_S} {y : hq_S} (m0_ : hq_isS k0) (m1_ : hq_isT k1) (h : f_X8_build_L19 n m k0 k1 a2 a3 a4 s = some y) : hq_fc (w_X8_build k0) s y := by
  induction m generalizing k0 k1 a2 a3 a4 s with
  | zero => cases h
  | succ m ih => exact f_X8_build_L19_B_fw (n := n) (k0 := k0) (k1 := k1) (a2 := a2) (a3 := a3) (a4 := a4) (q19 := f_X8_build_L19 n m) (fun k0 k1 a2 a3 a4 _ s m0_ m1_ h => ih m0_ m1_ h) m0_ m1_ h
theorem f_X8_build_fw {n : Nat} {k0 : Nat} {k1 : Nat} {a2 : Int32} {a3 : Int32} {s : hq_S} {y : hq_S} (m0_ : hq_isS k0) (m1_ : hq_isT k1) (h : f_X8_build n k0 k1 a2 a3 s = some y) : hq_fc (w_X8_build k0) s y := by
  unfold f_X8_build at h
  have t := hq_fc_rf (w_X8_build k0) s
  obtain ⟨s1, hs1, h⟩ := hq_bind h
  have q := hq_fc_pi (W := (w_X8_build k0)) hs1 (by first | decide | (rcases m0_ with rfl | rfl <;> decide) | simp [hq_has, hq_sub, w_X8_build])
  have t := hq_fc_tr t q
  obtain ⟨s2, hs2, h⟩ := hq_bind h
  have q0 := f_J7_fill_53178_fw hs2
  have t := hq_fc_tr t (hq_fc_mono (W := (w_X8_build k0)) (by first | decide | (rcases m0_ with rfl | rfl <;> decide) | simp [hq_has, hq_sub, w_X8_build]) q0)
  exact hq_fc_tr t (f_X8_build_L19_fw m0_ m1_ h)
def w_J7_fill_d0a16 (k0 : Nat) : List (Nat × Option Nat) := [(k0, none)]
theorem f_J7_fill_d0a16_L6_B_fw {n : Nat} {k0 : Nat} {j1 : Int64} {a3 : Int32} {a4 : Int32} {q6 : Nat → Int64 → Int32 → Int32 → hq_S → Option hq_S} {s : hq_S} {y : hq_S} (e6 : ∀ (k0 : Nat) (j1 : Int64) (a3 : Int32) (a4 : Int32) (s : hq_S), q6 k0 j1 a3 a4 s = some y → hq_fc (w_J7_fill_d0a16 k0) s y) (h : f_J7_fill_d0a16_L6_B n q6 k0 j1 a3 a4 s = some y) : hq_fc (w_J7_fill_d0a16 k0) s y := by
  unfold f_J7_fill_d0a16_L6_B at h
  have t := hq_fc_rf (w_J7_fill_d0a16 k0) s
  by_cases c2 : a3 < a4
  · rw [if_pos c2] at h
    obtain ⟨s3, hs3, h⟩ := hq_bind h
    have q := hq_fc_stjA (W := (w_J7_fill_d0a16 k0)) hs3 (by first | decide | simp [hq_has, hq_sub, w_J7_fill_d0a16])
    have t := hq_fc_tr t q
    exact hq_fc_tr t (e6 k0 j1 (a3 + (1 : Int32)) a4 s3 h)
  · rw [if_neg c2] at h
    have h := Option.some.inj h
    subst h
    exact t
theorem f_J7_fill_d0a16_L6_fw {n m : Nat} {k0 : Nat} {j1 : Int64} {a3 : Int32} {a4 : Int32} {s : hq_S} {y : hq_S} (h : f_J7_fill_d0a16_L6 n m k0 j1 a3 a4 s = some y) : hq_fc (w_J7_fill_d0a16 k0) s y := by
  induction m generalizing k0 j1 a3 a4 s with
  | zero => cases h
  | succ m ih => exact f_J7_fill_d0a16_L6_B_fw (n := n) (k0 := k0) (j1 := j1) (a3 := a3) (a4 := a4) (q6 := f_J7_fill_d0a16_L6 n m) (fun k0 j1 a3 a4 s h => ih h) h
theorem f_J7_fill_d0a16_fw {n : Nat} {k0 : Nat} {j1 : Int64} {s : hq_S} {y : hq_S} (h : f_J7_fill_d0a16 n k0 j1 s = some y) : hq_fc (w_J7_fill_d0a16 k0) s y := by
  unfold f_J7_fill_d0a16 at h
  have t := hq_fc_rf (w_J7_fill_d0a16 k0) s
  obtain ⟨x1, hx1, h⟩ := hq_bind h
  exact hq_fc_tr t (f_J7_fill_d0a16_L6_fw h)
def w_X8_shareOut (k0 : Nat) : List (Nat × Option Nat) := [(k0 + 3, none)]
theorem f_X8_shareOut_L39_B_fw {n : Nat} {k0 : Nat} {a1 : Int32} {a2 : Int32} {a3 : Int32} {j4 : Int64} {a6 : Int32} {q39 : Nat → Int32 → Int32 → Int32 → Int64 → Int32 → hq_S → Option hq_S} {s : hq_S} {y : hq_S} (e39 : ∀ (k0 : Nat) (a1 : Int32) (a2 : Int32) (a3 : Int32) (j4 : Int64) (a6 : Int32) (s : hq_S) (m0_ : hq_isS k0), q39 k0 a1 a2 a3 j4 a6 s = some y → hq_fc (w_X8_shareOut k0) s y) (m0_ : hq_isS k0) (h : f_X8_shareOut_L39_B n q39 k0 a1 a2 a3 j4 a6 s = some y) : hq_fc (w_X8_shareOut k0) s y := by
  unfold f_X8_shareOut_L39_B at h
  have t := hq_fc_rf (w_X8_shareOut k0) s
  by_cases c6 : a6 < (hq_gi s k0 0)
  · rw [if_pos c6] at h
    obtain ⟨x7, hx7, h⟩ := hq_bind h
    obtain ⟨z8, hz8, h⟩ := hq_bind h
    obtain ⟨s10, hs10, h⟩ := hq_bind h
    have q := hq_fc_stj (W := (w_X8_shareOut k0)) hs10 (by first | decide | (rcases m0_ with rfl | rfl <;> decide) | simp [hq_has, hq_sub, w_X8_shareOut])
    have t := hq_fc_tr t q
    exact hq_fc_tr t (e39 k0 a1 a2 a3 j4 (a6 + (1 : Int32)) s10 m0_ h)
  · rw [if_neg c6] at h
    have h := Option.some.inj h
    subst h
    exact t
theorem f_X8_shareOut_L39_fw {n m : Nat} {k0 : Nat} {a1 : Int32} {a2 : Int32} {a3 : Int32} {j4 : Int64} {a6 : Int32} {s : hq_S} {y : hq_S} (m0_ : hq_isS k0) (h : f_X8_shareOut_L39 n m k0 a1 a2 a3 j4 a6 s = some y) : hq_fc (w_X8_shareOut k0) s y := by
  induction m generalizing k0 a1 a2 a3 j4 a6 s with
  | zero => cases h
  | succ m ih => exact f_X8_shareOut_L39_B_fw (n := n) (k0 := k0) (a1 := a1) (a2 := a2) (a3 := a3) (j4 := j4) (a6 := a6) (q39 := f_X8_shareOut_L39 n m) (fun k0 a1 a2 a3 j4 a6 s m0_ h => ih m0_ h) m0_ h
theorem f_X8_shareOut_fw {n : Nat} {k0 : Nat} {a1 : Int32} {s : hq_S} {y : hq_S} (m0_ : hq_isS k0) (h : f_X8_shareOut n k0 a1 s = some y) : hq_fc (w_X8_shareOut k0) s y := by
  unfold f_X8_shareOut at h
  have t := hq_fc_rf (w_X8_shareOut k0) s
  obtain ⟨x1, hx1, h⟩ := hq_bind h
  obtain ⟨y2, hy2, h⟩ := hq_bind h
  have q0 := f_J6_bitCount_0f7a4_fw hy2
  have t := hq_fc_tr t (hq_fc_mono (W := (w_X8_shareOut k0)) (by first | decide | (rcases m0_ with rfl | rfl <;> decide) | simp [hq_has, hq_sub, w_X8_shareOut]) q0)
  by_cases c3 : y2.1 = 0
  · rw [if_pos c3] at h
    have h := Option.some.inj h
    subst h
    exact t
  · rw [if_neg c3] at h
    obtain ⟨x4, hx4, h⟩ := hq_bind h
    obtain ⟨x5, hx5, h⟩ := hq_bind h
    exact hq_fc_tr t (f_X8_shareOut_L39_fw m0_ h)
def w_X8_drunkWeight (k0 : Nat) : List (Nat × Option Nat) := [(k0 + 3, none), (k0 + 4, none)]
theorem f_X8_drunkWeight_L50_B_fw {n : Nat} {k0 : Nat} {a1 : Int32} {a2 : Int32} {a3 : Int32} {a4 : Int32} {a5 : Int32} {q18 : Nat → Int32 → Int32 → Int32 → Int32 → hq_S → Option (Int64 × hq_S)} {q50 : Nat → Int32 → Int32 → Int32 → Int32 → Int32 → hq_S → Option (Int64 × hq_S)} {s : hq_S} {y : (Int64 × hq_S)} (e18 : ∀ (k0 : Nat) (a1 : Int32) (a2 : Int32) (a3 : Int32) (a4 : Int32) (o5 : Option Value) (s : hq_S) (m0_ : hq_isS k0), q18 k0 a1 a2 a3 a4 s = some y → hq_fc (w_X8_drunkWeight k0) s y.2) (e50 : ∀ (k0 : Nat) (a1 : Int32) (a2 : Int32) (a3 : Int32) (a4 : Int32) (a5 : Int32) (s : hq_S) (m0_ : hq_isS k0), q50 k0 a1 a2 a3 a4 a5 s = some y → hq_fc (w_X8_drunkWeight k0) s y.2) (m0_ : hq_isS k0) (h : f_X8_drunkWeight_L50_B n q18 q50 k0 a1 a2 a3 a4 a5 s = some y) : hq_fc (w_X8_drunkWeight k0) s y.2 := by
  unfold f_X8_drunkWeight_L50_B at h
  have t := hq_fc_rf (w_X8_drunkWeight k0) s
  by_cases c7 : a5 < (hq_gi s k0 0)
  · rw [if_pos c7] at h
    obtain ⟨s8, hs8, h⟩ := hq_bind h
    have q0 := f_X8_shareOut_fw m0_ hs8
    have t := hq_fc_tr t (hq_fc_mono (W := (w_X8_drunkWeight k0)) (by first | decide | (rcases m0_ with rfl | rfl <;> decide) | simp [hq_has, hq_sub, w_X8_drunkWeight]) q0)
    exact hq_fc_tr t (e50 k0 a1 a2 a3 a4 (a5 + (1 : Int32)) s8 m0_ h)
  · rw [if_neg c7] at h
    exact hq_fc_tr t (e18 k0 a1 a2 a3 (a4 + (1 : Int32)) none s m0_ h)
theorem f_X8_drunkWeight_L50_fw {n m : Nat} {k0 : Nat} {a1 : Int32} {a2 : Int32} {a3 : Int32} {a4 : Int32} {a5 : Int32} {q18 : Nat → Int32 → Int32 → Int32 → Int32 → hq_S → Option (Int64 × hq_S)} {s : hq_S} {y : (Int64 × hq_S)} (e18 : ∀ (k0 : Nat) (a1 : Int32) (a2 : Int32) (a3 : Int32) (a4 : Int32) (o5 : Option Value) (s : hq_S) (m0_ : hq_isS k0), q18 k0 a1 a2 a3 a4 s = some y → hq_fc (w_X8_drunkWeight k0) s y.2) (m0_ : hq_isS k0) (h : f_X8_drunkWeight_L50 n q18 m k0 a1 a2 a3 a4 a5 s = some y) : hq_fc (w_X8_drunkWeight k0) s y.2 := by
  induction m generalizing k0 a1 a2 a3 a4 a5 s with
  | zero => cases h
  | succ m ih => exact f_X8_drunkWeight_L50_B_fw (n := n) (k0 := k0) (a1 := a1) (a2 := a2) (a3 := a3) (a4 := a4) (a5 := a5) (q50 := f_X8_drunkWeight_L50 n q18 m) e18 (fun k0 a1 a2 a3 a4 a5 s m0_ h => ih m0_ h) m0_ h
theorem f_X8_drunkWeight_L18_B_fw {n : Nat} {k0 : Nat} {a1 : Int32} {a2 : Int32} {a3 : Int32} {a4 : Int32} {q18 : Nat → Int32 → Int32 → Int32 → Int32 → hq_S → Option (Int64 × hq_S)} {s : hq_S} {y : (Int64 × hq_S)} (e18 : ∀ (k0 : Nat) (a1 : Int32) (a2 : Int32) (a3 : Int32) (a4 : Int32) (o5 : Option Value) (s : hq_S) (m0_ : hq_isS k0), q18 k0 a1 a2 a3 a4 s = some y → hq_fc (w_X8_drunkWeight k0) s y.2) (m0_ : hq_isS k0) (h : f_X8_drunkWeight_L18_B n q18 k0 a1 a2 a3 a4 s = some y) : hq_fc (w_X8_drunkWeight k0) s y.2 := by
  unfold f_X8_drunkWeight_L18_B at h
  have t := hq_fc_rf (w_X8_drunkWeight k0) s
  by_cases c3 : a4 < a3
  · rw [if_pos c3] at h
    obtain ⟨s5, hs5, h⟩ := hq_bind h
    have q := hq_fc_cpj (W := (w_X8_drunkWeight k0)) hs5 (by first | decide | (rcases m0_ with rfl | rfl <;> decide) | simp [hq_has, hq_sub, w_X8_drunkWeight])
    have t := hq_fc_tr t q
    obtain ⟨s6, hs6, h⟩ := hq_bind h
    have q0 := f_J7_fill_d0a16_fw hs6
    have t := hq_fc_tr t (hq_fc_mono (W := (w_X8_drunkWeight k0)) (by first | decide | (rcases m0_ with rfl | rfl <;> decide) | simp [hq_has, hq_sub, w_X8_drunkWeight]) q0)
    exact hq_fc_tr t (f_X8_drunkWeight_L50_fw e18 m0_ h)
  · rw [if_neg c3] at h
    obtain ⟨x4, hx4, h⟩ := hq_bind h
    have h := Option.some.inj h
    subst h
    exact t
theorem f_X8_drunkWeight_L18_fw {n m : Nat} {k0 : Nat} {a1 : Int32} {a2 : Int32} {a3 : Int32} {a4 : Int32} {s : hq_S} {y : (Int64 × hq_S)} (m0_ : hq_isS k0) (h : f_X8_drunkWeight_L18 n m k0 a1 a2 a3 a4 s = some y) : hq_fc (w_X8_drunkWeight k0) s y.2 := by
  induction m generalizing k0 a1 a2 a3 a4 s with
  | zero => cases h
  | succ m ih => exact f_X8_drunkWeight_L18_B_fw (n := n) (k0 := k0) (a1 := a1) (a2 := a2) (a3 := a3) (a4 := a4) (q18 := f_X8_drunkWeight_L18 n m) (fun k0 a1 a2 a3 a4 _ s m0_ h => ih m0_ h) m0_ h
theorem f_X8_drunkWeight_fw {n : Nat} {k0 : Nat} {a1 : Int32} {a2 : Int32} {a3 : Int32} {s : hq_S} {y : (Int64 × hq_S)} (m0_ : hq_isS k0) (h : f_X8_drunkWeight n k0 a1 a2 a3 s = some y) : hq_fc (w_X8_drunkWeight k0) s y.2 := by
  unfold f_X8_drunkWeight at h
  have t := hq_fc_rf (w_X8_drunkWeight k0) s
  obtain ⟨s1, hs1, h⟩ := hq_bind h
  have q0 := f_J7_fill_d0a16_fw hs1
  have t := hq_fc_tr t (hq_fc_mono (W := (w_X8_drunkWeight k0)) (by first | decide | (rcases m0_ with rfl | rfl <;> decide) | simp [hq_has, hq_sub, w_X8_drunkWeight]) q0)
  obtain ⟨s2, hs2, h⟩ := hq_bind h
  have q := hq_fc_stj (W := (w_X8_drunkWeight k0)) hs2 (by first | decide | (rcases m0_ with rfl | rfl <;> decide) | simp [hq_has, hq_sub, w_X8_drunkWeight])
  have t := hq_fc_tr t q
  exact hq_fc_tr t (f_X8_drunkWeight_L18_fw m0_ h)
def w_X11_law : List (Nat × Option Nat) := [(15, none), (38, none), (113, some 0), (113, some 1), (113, some 2), (113, some 3), (113, some 4), (113, some 5), (151, none)]
theorem f_X11_law_J29_fw {n : Nat} {a1 : Int32} {a2 : Int32} {a3 : Int32} {s : hq_S} {y : (Int64 × hq_S)} (h : f_X11_law_J29 n a1 a2 a3 s = some y) : hq_fc w_X11_law s y.2 := by
  unfold f_X11_law_J29 at h
  have t := hq_fc_rf w_X11_law s
  have h := Option.some.inj h
  subst h
  exact t
theorem f_X11_law_J33_fw {n : Nat} {a1 : Int32} {a2 : Int32} {a3 : Int32} {s : hq_S} {y : (Int64 × hq_S)} (h : f_X11_law_J33 n a1 a2 a3 s = some y) : hq_fc w_X11_law s y.2 := by
  unfold f_X11_law_J33 at h
  have t := hq_fc_rf w_X11_law s
  have m6 : hq_isT (hq_gr s 0 2) := hq_ifT h
  rw [if_pos m6] at h
  obtain ⟨s7, hs7, h⟩ := hq_bind h
  have q0 := f_X3_setUp_fw m6 (by decide) (by decide) hs7
  have t := hq_fc_tr t (hq_fc_mono (W := w_X11_law) (by first | decide | simp [hq_has, hq_sub, w_X11_law]) q0)
  have gu := f_X3_setUp_g hs7
  obtain ⟨z8, hz8, h⟩ := hq_bind h
  obtain ⟨y11, hy11, h⟩ := hq_bind h
  have q0 := f_X3_lawValue_fw hy11
  have t := hq_fc_tr t (hq_fc_mono (W := w_X11_law) (by first | decide | (rw [gu]; decide) | simp [hq_has, hq_sub, w_X11_law]) q0)
  have gu := (q0 113 2 (by first | decide | (rw [gu]; decide))).2.2.trans gu
  have h := Option.some.inj h
  subst h
  exact t
theorem f_X11_law_fw {n : Nat} {a1 : Int32} {a2 : Int32} {a3 : Int32} {s : hq_S} {y : (Int64 × hq_S)} (h : f_X11_law n a1 a2 a3 s = some y) : hq_fc w_X11_law s y.2 := by
  unfold f_X11_law at h
  have t := hq_fc_rf w_X11_law s
  by_cases c1 : a1 < 0
  · rw [if_pos c1] at h
    exact hq_fc_tr t (f_X11_law_J29_fw h)
  · rw [if_neg c1] at h
    by_cases c2 : (2 : Int32) < a1
    · rw [if_pos c2] at h
      exact hq_fc_tr t (f_X11_law_J29_fw h)
    · rw [if_neg c2] at h
      obtain ⟨y3, hy3, h⟩ := hq_bind h
      have q0 := f_X11_isThief_fw hy3
      have t := hq_fc_tr t (hq_fc_mono (W := w_X11_law) (by first | decide | simp [hq_has, hq_sub, w_X11_law]) q0)
      by_cases c4 : y3.1 = 0
      · rw [if_pos c4] at h
        exact hq_fc_tr t (f_X11_law_J29_fw h)
      · rw [if_neg c4] at h
        by_cases c5 : a1 = 0
        · rw [if_pos c5] at h
          obtain ⟨y12, hy12, h⟩ := hq_bind h
          have q0 := f_X11_isCorner_fw hy12
          have t := hq_fc_tr t (hq_fc_mono (W := w_X11_law) (by first | decide | simp [hq_has, hq_sub, w_X11_law]) q0)
          by_cases c13 : y12.1 = 0
          · rw [if_pos c13] at h
            exact hq_fc_tr t (f_X11_law_J29_fw h)
          · rw [if_neg c13] at h
            exact hq_fc_tr t (f_X11_law_J33_fw h)
        · rw [if_neg c5] at h
          exact hq_fc_tr t (f_X11_law_J33_fw h)
def w_X11_turnBar : List (Nat × Option Nat) := [(76, some 2), (103, some 0), (104, none), (105, none)]
theorem f_X11_turnBar_fw {n : Nat} {a1 : Int32} {s : hq_S} {y : hq_S} (h : f_X11_turnBar n a1 s = some y) : hq_fc w_X11_turnBar s y := by
  unfold f_X11_turnBar at h
  have t := hq_fc_rf w_X11_turnBar s
  obtain ⟨s1, hs1, h⟩ := hq_bind h
  have q := hq_fc_pi (W := w_X11_turnBar) hs1 (by first | decide | simp [hq_has, hq_sub, w_X11_turnBar])
  have t := hq_fc_tr t q
  have m2 : hq_isT (hq_gr s1 0 2) := hq_ifT h
  rw [if_pos m2] at h
  obtain ⟨s3, hs3, h⟩ := hq_bind h
  have q0 := f_X8_build_fw (by decide) m2 hs3
  have t := hq_fc_tr t (hq_fc_mono (W := w_X11_turnBar) (by first | decide | simp [hq_has, hq_sub, w_X11_turnBar]) q0)
  have h := Option.some.inj h
  subst h
  exact t
def w_X11_bar : List (Nat × Option Nat) := [(76, some 2), (103, some 0), (104, none), (105, none), (170, some 0), (171, none), (172, none), (173, none)]
theorem f_X11_bar_fw {n : Nat} {a1 : Int32} {s : hq_S} {y : (Int32 × hq_S)} (h : f_X11_bar n a1 s = some y) : hq_fc w_X11_bar s y.2 := by
  unfold f_X11_bar at h
  have t := hq_fc_rf w_X11_bar s
  obtain ⟨y1, hy1, h⟩ := hq_bind h
  have q0 := f_X11_isLane_fw hy1
  have t := hq_fc_tr t (hq_fc_mono (W := w_X11_bar) (by first | decide | simp [hq_has, hq_sub, w_X11_bar]) q0)
  by_cases c2 : y1.1 = 0
  · rw [if_pos c2] at h
    have h := Option.some.inj h
    subst h
    exact t
  · rw [if_neg c2] at h
    obtain ⟨s3, hs3, h⟩ := hq_bind h
    have q0 := f_X1_note_fw hs3
    have t := hq_fc_tr t (hq_fc_mono (W := w_X11_bar) (by first | decide | simp [hq_has, hq_sub, w_X11_bar]) q0)
    obtain ⟨s4, hs4, h⟩ := hq_bind h
    have q0 := f_X11_turnBar_fw hs4
    have t := hq_fc_tr t (hq_fc_mono (W := w_X11_bar) (by first | decide | simp [hq_has, hq_sub, w_X11_bar]) q0)
    have h := Option.some.inj h
    subst h
    exact t
def w_X11_go : List (Nat × Option Nat) := [(15, none), (38, none), (76, some 0), (76, some 1), (77, none), (78, none), (79, none), (80, none), (81, none), (83, none), (84, none), (113, some 0), (113, some 1), (113, some 2), (113, some 3), (113, some 4), (113, some 5), (151, none), (170, some 0)]
theorem f_X11_go_fw {n : Nat} {a1 : Int32} {s : hq_S} {y : (Int32 × hq_S)} (h : f_X11_go n a1 s = some y) : hq_fc w_X11_go s y.2 := by
  unfold f_X11_go at h
  have t := hq_fc_rf w_X11_go s
  by_cases c1 : a1 < 0
  · rw [if_pos c1] at h
    have h := Option.some.inj h
    subst h
    exact t
  · rw [if_neg c1] at h
    by_cases c2 : (200 : Int32) < a1
    · rw [if_pos c2] at h
      have h := Option.some.inj h
      subst h
      exact t
    · rw [if_neg c2] at h
      by_cases c3 : (9800 : Int32) < ((hq_gi s 76 0) + a1)
      · rw [if_pos c3] at h
        have h := Option.some.inj h
        subst h
        exact t
      · rw [if_neg c3] at h
        have m4 : hq_isT (hq_gr s 0 2) := hq_ifT h
        rw [if_pos m4] at h
        obtain ⟨s5, hs5, h⟩ := hq_bind h
        have q0 := f_X3_setUp_fw m4 (by decide) (by decide) hs5
        have t := hq_fc_tr t (hq_fc_mono (W := w_X11_go) (by first | decide | simp [hq_has, hq_sub, w_X11_go]) q0)
        have gu := f_X3_setUp_g hs5
        obtain ⟨s6, hs6, h⟩ := hq_bind h
        have q0 := f_X3_passMany_fw (by decide) gu hs6
        have t := hq_fc_tr t (hq_fc_mono (W := w_X11_go) (by first | decide | (rw [gu]; decide) | simp [hq_has, hq_sub, w_X11_go]) q0)
        have gu := (q0 113 2 (by first | decide | (rw [gu]; decide))).2.2.trans gu
        obtain ⟨z7, hz7, h⟩ := hq_bind h
        have tg : hq_fc w_X11_go s z7 ∧ hq_gr z7 113 2 = 76 := by
          clear h
          have h := hz7
          by_cases c8 : 0 < a1
          · rw [if_pos c8] at h
            obtain ⟨s9, hs9, h⟩ := hq_bind h
            have q0 := f_X1_clear_fw hs9
            have t := hq_fc_tr t (hq_fc_mono (W := w_X11_go) (by first | decide | (rw [gu]; decide) | simp [hq_has, hq_sub, w_X11_go]) q0)
            have gu := (q0 113 2 (by first | decide | (rw [gu]; decide))).2.2.trans gu
            cases h
            exact ⟨t, gu⟩
          · rw [if_neg c8] at h
            cases h
            exact ⟨t, gu⟩
        have t := tg.1
        have gu := tg.2
        have h := Option.some.inj h
        subst h
        exact t
def w_X11_playAsItGoes : List (Nat × Option Nat) := [(94, some 0), (94, some 1), (94, some 2), (95, none), (96, none), (97, none), (98, none), (99, none), (100, none), (101, none), (102, none), (113, some 0), (113, some 1), (113, some 2), (113, some 3), (113, some 4), (113, some 5)]
theorem f_X11_playAsItGoes_fw {n : Nat} {s : hq_S} {y : hq_S} (h : f_X11_playAsItGoes n s = some y) : hq_fc w_X11_playAsItGoes s y := by
  unfold f_X11_playAsItGoes at h
  have t := hq_fc_rf w_X11_playAsItGoes s
  obtain ⟨s1, hs1, h⟩ := hq_bind h
  have q0 := f_X5_copyFrom_fw (by decide) (by decide) hs1
  have t := hq_fc_tr t (hq_fc_mono (W := w_X11_playAsItGoes) (by first | decide | simp [hq_has, hq_sub, w_X11_playAsItGoes]) q0)
  have m2 : hq_isT (hq_gr s1 0 2) := hq_ifT h
  rw [if_pos m2] at h
  obtain ⟨s3, hs3, h⟩ := hq_bind h
  have q0 := f_X3_setUp_fw m2 (by decide) (by decide) hs3
  have t := hq_fc_tr t (hq_fc_mono (W := w_X11_playAsItGoes) (by first | decide | simp [hq_has, hq_sub, w_X11_playAsItGoes]) q0)
  have gu := f_X3_setUp_g hs3
  have h := Option.some.inj h
  subst h
  exact t
theorem f_X11_playAsItGoes_g {n : Nat} {s y : hq_S} (h : f_X11_playAsItGoes n s = some y) : hq_gr y 113 2 = 94 := by
  unfold f_X11_playAsItGoes at h
  obtain ⟨t1, h1, h⟩ := hq_bind h
  rw [if_pos (hq_ifT h)] at h
  obtain ⟨t2, h2, h⟩ := hq_bind h
  cases h
  exact f_X3_setUp_g h2
def w_X11_ahead : List (Nat × Option Nat) := [(15, none), (38, none), (94, some 0), (94, some 1), (94, some 2), (95, none), (96, none), (97, none), (98, none), (99, none), (100, none), (101, none), (102, none), (113, some 0), (113, some 1), (113, some 2), (113, some 3), (113, some 4), (113, some 5), (151, none)]
theorem f_X11_ahead_J65_fw {n : Nat} {a1 : Int32} {a2 : Int32} {a3 : Int32} {a4 : Int32} {s : hq_S} {y : (Int32 × hq_S)} (h : f_X11_ahead_J65 n a1 a2 a3 a4 s = some y) : hq_fc w_X11_ahead s y.2 := by
  unfold f_X11_ahead_J65 at h
  have t := hq_fc_rf w_X11_ahead s
  obtain ⟨s10, hs10, h⟩ := hq_bind h
  have q0 := f_X11_playAsItGoes_fw hs10
  have t := hq_fc_tr t (hq_fc_mono (W := w_X11_ahead) (by first | decide | simp [hq_has, hq_sub, w_X11_ahead]) q0)
  have gu := f_X11_playAsItGoes_g hs10
  obtain ⟨s11, hs11, h⟩ := hq_bind h
  have q0 := f_X3_passMany_fw (by decide) gu hs11
  have t := hq_fc_tr t (hq_fc_mono (W := w_X11_ahead) (by first | decide | (rw [gu]; decide) | simp [hq_has, hq_sub, w_X11_ahead]) q0)
  have gu := (q0 113 2 (by first | decide | (rw [gu]; decide))).2.2.trans gu
  by_cases c12 : a2 = (0 : Int32)
  · rw [if_pos c12] at h
    have m13 : hq_isT (hq_gr s11 0 2) := hq_ifT h
    rw [if_pos m13] at h
    obtain ⟨y14, hy14, h⟩ := hq_bind h
    have q0 := f_X5_howManyCaught_fw (by decide) hy14
    have t := hq_fc_tr t (hq_fc_mono (W := w_X11_ahead) (by first | decide | (rw [gu]; decide) | simp [hq_has, hq_sub, w_X11_ahead]) q0)
    have gu := (q0 113 2 (by first | decide | (rw [gu]; decide))).2.2.trans gu
    have h := Option.some.inj h
    subst h
    exact t
  rw [if_neg c12] at h
  by_cases c15 : a2 = (1 : Int32)
  · rw [if_pos c15] at h
    obtain ⟨x16, hx16, h⟩ := hq_bind h
    have h := Option.some.inj h
    subst h
    exact t
  rw [if_neg c15] at h
  by_cases c17 : a2 = (2 : Int32)
  · rw [if_pos c17] at h
    have m18 : hq_isT (hq_gr s11 0 2) := hq_ifT h
    rw [if_pos m18] at h
    obtain ⟨y19, hy19, h⟩ := hq_bind h
    have q0 := f_X5_lootOfAll_fw (by decide) hy19
    have t := hq_fc_tr t (hq_fc_mono (W := w_X11_ahead) (by first | decide | (rw [gu]; decide) | simp [hq_has, hq_sub, w_X11_ahead]) q0)
    have gu := (q0 113 2 (by first | decide | (rw [gu]; decide))).2.2.trans gu
    have h := Option.some.inj h
    subst h
    exact t
  rw [if_neg c17] at h
  by_cases c20 : a2 = (3 : Int32)
  · rw [if_pos c20] at h
    obtain ⟨x21, hx21, h⟩ := hq_bind h
    have h := Option.some.inj h
    subst h
    exact t
  rw [if_neg c20] at h
  obtain ⟨x22, hx22, h⟩ := hq_bind h
  have h := Option.some.inj h
  subst h
  exact t
theorem f_X11_ahead_J50_fw {n : Nat} {a1 : Int32} {a2 : Int32} {a3 : Int32} {a4 : Int32} {s : hq_S} {y : (Int32 × hq_S)} (h : f_X11_ahead_J50 n a1 a2 a3 a4 s = some y) : hq_fc w_X11_ahead s y.2 := by
  unfold f_X11_ahead_J50 at h
  have t := hq_fc_rf w_X11_ahead s
  by_cases c9 : a2 = (3 : Int32)
  · rw [if_pos c9] at h
    obtain ⟨y23, hy23, h⟩ := hq_bind h
    have q0 := f_X11_isGuard_fw hy23
    have t := hq_fc_tr t (hq_fc_mono (W := w_X11_ahead) (by first | decide | simp [hq_has, hq_sub, w_X11_ahead]) q0)
    by_cases c24 : y23.1 = 0
    · rw [if_pos c24] at h
      have h := Option.some.inj h
      subst h
      exact t
    · rw [if_neg c24] at h
      exact hq_fc_tr t (f_X11_ahead_J65_fw h)
  · rw [if_neg c9] at h
    exact hq_fc_tr t (f_X11_ahead_J65_fw h)
theorem f_X11_ahead_fw {n : Nat} {a1 : Int32} {a2 : Int32} {a3 : Int32} {s : hq_S} {y : (Int32 × hq_S)} (h : f_X11_ahead n a1 a2 a3 s = some y) : hq_fc w_X11_ahead s y.2 := by
  unfold f_X11_ahead at h
  have t := hq_fc_rf w_X11_ahead s
  obtain ⟨z1, hz1, h⟩ := hq_bind h
  by_cases c4 : a1 < 0
  · rw [if_pos c4] at h
    have h := Option.some.inj h
    subst h
    exact t
  · rw [if_neg c4] at h
    by_cases c5 : (200 : Int32) < a1
    · rw [if_pos c5] at h
      have h := Option.some.inj h
      subst h
      exact t
    · rw [if_neg c5] at h
      by_cases c6 : a2 < 0
      · rw [if_pos c6] at h
        have h := Option.some.inj h
        subst h
        exact t
      · rw [if_neg c6] at h
        by_cases c7 : (4 : Int32) < a2
        · rw [if_pos c7] at h
          have h := Option.some.inj h
          subst h
          exact t
        · rw [if_neg c7] at h
          by_cases c8 : z1 = 0
          · rw [if_pos c8] at h
            exact hq_fc_tr t (f_X11_ahead_J50_fw h)
          · rw [if_neg c8] at h
            obtain ⟨y25, hy25, h⟩ := hq_bind h
            have q0 := f_X11_isThief_fw hy25
            have t := hq_fc_tr t (hq_fc_mono (W := w_X11_ahead) (by first | decide | simp [hq_has, hq_sub, w_X11_ahead]) q0)
            by_cases c26 : y25.1 = 0
            · rw [if_pos c26] at h
              have h := Option.some.inj h
              subst h
              exact t
            · rw [if_neg c26] at h
              exact hq_fc_tr t (f_X11_ahead_J50_fw h)
def w_X11_caught : List (Nat × Option Nat) := [(15, none), (38, none), (94, some 0), (94, some 1), (94, some 2), (95, none), (96, none), (97, none), (98, none), (99, none), (100, none), (101, none), (102, none), (113, some 0), (113, some 1), (113, some 2), (113, some 3), (113, some 4), (113, some 5), (151, none)]
theorem f_X11_caught_L16_B_fw {n : Nat} {a1 : Int32} {a2 : Int32} {q16 : Int32 → Int32 → hq_S → Option (Int32 × hq_S)} {s : hq_S} {y : (Int32 × hq_S)} (e16 : ∀ (a1 : Int32) (a2 : Int32) (s : hq_S), hq_gr s 113 2 = 94 → q16 a1 a2 s = some y → hq_fc w_X11_caught s y.2) (gu : hq_gr s 113 2 = 94) (h : f_X11_caught_L16_B n q16 a1 a2 s = some y) : hq_fc w_X11_caught s y.2 := by
  unfold f_X11_caught_L16_B at h
  have t := hq_fc_rf w_X11_caught s
  by_cases c4 : a2 < (199 : Int32)
  · rw [if_pos c4] at h
    obtain ⟨y7, hy7, h⟩ := hq_bind h
    have q0 := f_X5_isFree_fw (by decide) hy7
    have t := hq_fc_tr t (hq_fc_mono (W := w_X11_caught) (by first | decide | (rw [gu]; decide) | simp [hq_has, hq_sub, w_X11_caught]) q0)
    have gu := (q0 113 2 (by first | decide | (rw [gu]; decide))).2.2.trans gu
    by_cases c8 : y7.1 = 0
    · rw [if_pos c8] at h
      have h := Option.some.inj h
      subst h
      exact t
    · rw [if_neg c8] at h
      obtain ⟨s9, hs9, h⟩ := hq_bind h
      have q0 := f_X3_pass_fw (by decide) gu hs9
      have t := hq_fc_tr t (hq_fc_mono (W := w_X11_caught) (by first | decide | (rw [gu]; decide) | simp [hq_has, hq_sub, w_X11_caught]) q0)
      have gu := (q0 113 2 (by first | decide | (rw [gu]; decide))).2.2.trans gu
      exact hq_fc_tr t (e16 a1 (a2 + (1 : Int32)) s9 gu h)
  · rw [if_neg c4] at h
    obtain ⟨y5, hy5, h⟩ := hq_bind h
    have q0 := f_X5_isFree_fw (by decide) hy5
    have t := hq_fc_tr t (hq_fc_mono (W := w_X11_caught) (by first | decide | (rw [gu]; decide) | simp [hq_has, hq_sub, w_X11_caught]) q0)
    have gu := (q0 113 2 (by first | decide | (rw [gu]; decide))).2.2.trans gu
    by_cases c6 : y5.1 = 0
    · rw [if_pos c6] at h
      have h := Option.some.inj h
      subst h
      exact t
    · rw [if_neg c6] at h
      have h := Option.some.inj h
      subst h
      exact t
theorem f_X11_caught_L16_fw {n m : Nat} {a1 : Int32} {a2 : Int32} {s : hq_S} {y : (Int32 × hq_S)} (gu : hq_gr s 113 2 = 94) (h : f_X11_caught_L16 n m a1 a2 s = some y) : hq_fc w_X11_caught s y.2 := by
  induction m generalizing a1 a2 s with
  | zero => cases h
  | succ m ih => exact f_X11_caught_L16_B_fw (n := n) (a1 := a1) (a2 := a2) (q16 := f_X11_caught_L16 n m) (fun a1 a2 s gu h => ih gu h) gu h
theorem f_X11_caught_fw {n : Nat} {a1 : Int32} {s : hq_S} {y : (Int32 × hq_S)} (h : f_X11_caught n a1 s = some y) : hq_fc w_X11_caught s y.2 := by
  unfold f_X11_caught at h
  have t := hq_fc_rf w_X11_caught s
  obtain ⟨y1, hy1, h⟩ := hq_bind h
  have q0 := f_X11_isThief_fw hy1
  have t := hq_fc_tr t (hq_fc_mono (W := w_X11_caught) (by first | decide | simp [hq_has, hq_sub, w_X11_caught]) q0)
  by_cases c2 : y1.1 = 0
  · rw [if_pos c2] at h
    have h := Option.some.inj h
    subst h
    exact t
  · rw [if_neg c2] at h
    obtain ⟨s3, hs3, h⟩ := hq_bind h
    have q0 := f_X11_playAsItGoes_fw hs3
    have t := hq_fc_tr t (hq_fc_mono (W := w_X11_caught) (by first | decide | simp [hq_has, hq_sub, w_X11_caught]) q0)
    have gu := f_X11_playAsItGoes_g hs3
    exact hq_fc_tr t (f_X11_caught_L16_fw gu h)
def w_X11_sweep : List (Nat × Option Nat) := [(160, none), (161, none)]
theorem f_X11_sweep_fw {n : Nat} {a1 : Int32} {s : hq_S} {y : (Int32 × hq_S)} (h : f_X11_sweep n a1 s = some y) : hq_fc w_X11_sweep s y.2 := by
  unfold f_X11_sweep at h
  have t := hq_fc_rf w_X11_sweep s
  by_cases c1 : a1 < (1 : Int32)
  · rw [if_pos c1] at h
    have h := Option.some.inj h
    subst h
    exact t
  · rw [if_neg c1] at h
    by_cases c2 : (10 : Int32) < a1
    · rw [if_pos c2] at h
      have h := Option.some.inj h
      subst h
      exact t
    · rw [if_neg c2] at h
      obtain ⟨y3, hy3, h⟩ := hq_bind h
      have q0 := f_X7_nightsToSweep_fw (by decide) hy3
      have t := hq_fc_tr t (hq_fc_mono (W := w_X11_sweep) (by first | decide | simp [hq_has, hq_sub, w_X11_sweep]) q0)
      have h := Option.some.inj h
      subst h
      exact t
def w_X11_look : List (Nat × Option Nat) := [(160, none), (161, none)]
theorem f_X11_look_fw {n : Nat} {a1 : Int32} {s : hq_S} {y : (Int32 × hq_S)} (h : f_X11_look n a1 s = some y) : hq_fc w_X11_look s y.2 := by
  unfold f_X11_look at h
  have t := hq_fc_rf w_X11_look s
  by_cases c1 : a1 < (1 : Int32)
  · rw [if_pos c1] at h
    have h := Option.some.inj h
    subst h
    exact t
  · rw [if_neg c1] at h
    by_cases c2 : (10 : Int32) < a1
    · rw [if_pos c2] at h
      have h := Option.some.inj h
      subst h
      exact t
    · rw [if_neg c2] at h
      obtain ⟨y3, hy3, h⟩ := hq_bind h
      have q0 := f_X7_firstLook_fw (by decide) hy3
      have t := hq_fc_tr t (hq_fc_mono (W := w_X11_look) (by first | decide | simp [hq_has, hq_sub, w_X11_look]) q0)
      have h := Option.some.inj h
      subst h
      exact t
def w_X11_dark : List (Nat × Option Nat) := [(160, none), (161, none)]
theorem f_X11_dark_L14_B_fw {n : Nat} {a1 : Int32} {q14 : Int32 → hq_S → Option (Int32 × hq_S)} {s : hq_S} {y : (Int32 × hq_S)} (e14 : ∀ (a1 : Int32) (s : hq_S), q14 a1 s = some y → hq_fc w_X11_dark s y.2) (h : f_X11_dark_L14_B n q14 a1 s = some y) : hq_fc w_X11_dark s y.2 := by
  unfold f_X11_dark_L14_B at h
  have t := hq_fc_rf w_X11_dark s
  by_cases c3 : a1 < (10 : Int32)
  · rw [if_pos c3] at h
    obtain ⟨y4, hy4, h⟩ := hq_bind h
    have q0 := f_X7_nightsToSweep_fw (by decide) hy4
    have t := hq_fc_tr t (hq_fc_mono (W := w_X11_dark) (by first | decide | simp [hq_has, hq_sub, w_X11_dark]) q0)
    by_cases c5 : y4.1 = (-2 : Int32)
    · rw [if_pos c5] at h
      exact hq_fc_tr t (e14 (a1 + (1 : Int32)) y4.2 h)
    · rw [if_neg c5] at h
      have h := Option.some.inj h
      subst h
      exact t
  · rw [if_neg c3] at h
    have h := Option.some.inj h
    subst h
    exact t
theorem f_X11_dark_L14_fw {n m : Nat} {a1 : Int32} {s : hq_S} {y : (Int32 × hq_S)} (h : f_X11_dark_L14 n m a1 s = some y) : hq_fc w_X11_dark s y.2 := by
  induction m generalizing a1 s with
  | zero => cases h
  | succ m ih => exact f_X11_dark_L14_B_fw (n := n) (a1 := a1) (q14 := f_X11_dark_L14 n m) (fun a1 s h => ih h) h
theorem f_X11_dark_fw {n : Nat} {s : hq_S} {y : (Int32 × hq_S)} (h : f_X11_dark n s = some y) : hq_fc w_X11_dark s y.2 := by
  unfold f_X11_dark at h
  have t := hq_fc_rf w_X11_dark s
  have m1 : hq_isT (hq_gr s 0 2) := hq_ifT h
  rw [if_pos m1] at h
  by_cases c2 : (hq_gi s (hq_gr s 0 2) 0) = 0
  · rw [if_pos c2] at h
    have h := Option.some.inj h
    subst h
    exact t
  · rw [if_neg c2] at h
    exact hq_fc_tr t (f_X11_dark_L14_fw h)
def w_X11_could : List (Nat × Option Nat) := [(94, some 0), (94, some 1), (94, some 2), (95, none), (96, none), (97, none), (98, none), (99, none), (100, none), (101, none), (102, none), (113, some 0), (113, some 1), (113, some 2), (113, some 3), (113, some 4), (113, some 5)]
theorem f_X11_could_L79_B_fw {n : Nat} {a1 : Int32} {a2 : Int32} {a3 : Int32} {a4 : Int32} {a5 : Int32} {q52 : Int32 → Int32 → Int32 → Int32 → hq_S → Option (Int32 × hq_S)} {q79 : Int32 → Int32 → Int32 → Int32 → Int32 → hq_S → Option (Int32 × hq_S)} {s : hq_S} {y : (Int32 × hq_S)} (e52 : ∀ (a1 : Int32) (a2 : Int32) (a3 : Int32) (a4 : Int32) (o5 : Option Value) (s : hq_S), hq_gr s 113 2 = 94 → q52 a1 a2 a3 a4 s = some y → hq_fc w_X11_could s y.2) (e79 : ∀ (a1 : Int32) (a2 : Int32) (a3 : Int32) (a4 : Int32) (a5 : Int32) (s : hq_S), hq_gr s 113 2 = 94 → q79 a1 a2 a3 a4 a5 s = some y → hq_fc w_X11_could s y.2) (gu : hq_gr s 113 2 = 94) (h : f_X11_could_L79_B n q52 q79 a1 a2 a3 a4 a5 s = some y) : hq_fc w_X11_could s y.2 := by
  unfold f_X11_could_L79_B at h
  have t := hq_fc_rf w_X11_could s
  have m12 : hq_isT (hq_gr s 0 2) := hq_ifT h
  rw [if_pos m12] at h
  by_cases c13 : a5 < (hq_gi s (hq_gr s 0 2) 7)
  · rw [if_pos c13] at h
    obtain ⟨x14, hx14, h⟩ := hq_bind h
    exact hq_fc_tr t (e79 a1 a2 (a3 &&& (((1 : Int32) <<< (x14 &&& 31)) ^^^ (-1 : Int32))) a4 (a5 + (1 : Int32)) s gu h)
  · rw [if_neg c13] at h
    exact hq_fc_tr t (e52 a1 a2 a3 (a4 + (1 : Int32)) none s gu h)
theorem f_X11_could_L79_fw {n m : Nat} {a1 : Int32} {a2 : Int32} {a3 : Int32} {a4 : Int32} {a5 : Int32} {q52 : Int32 → Int32 → Int32 → Int32 → hq_S → Option (Int32 × hq_S)} {s : hq_S} {y : (Int32 × hq_S)} (e52 : ∀ (a1 : Int32) (a2 : Int32) (a3 : Int32) (a4 : Int32) (o5 : Option Value) (s : hq_S), hq_gr s 113 2 = 94 → q52 a1 a2 a3 a4 s = some y → hq_fc w_X11_could s y.2) (gu : hq_gr s 113 2 = 94) (h : f_X11_could_L79 n q52 m a1 a2 a3 a4 a5 s = some y) : hq_fc w_X11_could s y.2 := by
  induction m generalizing a1 a2 a3 a4 a5 s with
  | zero => cases h
  | succ m ih => exact f_X11_could_L79_B_fw (n := n) (a1 := a1) (a2 := a2) (a3 := a3) (a4 := a4) (a5 := a5) (q79 := f_X11_could_L79 n q52 m) e52 (fun a1 a2 a3 a4 a5 s gu h => ih gu h) gu h
theorem f_X11_could_L52_B_fw {n : Nat} {a1 : Int32} {a2 : Int32} {a3 : Int32} {a4 : Int32} {q52 : Int32 → Int32 → Int32 → Int32 → hq_S → Option (Int32 × hq_S)} {s : hq_S} {y : (Int32 × hq_S)} (e52 : ∀ (a1 : Int32) (a2 : Int32) (a3 : Int32) (a4 : Int32) (o5 : Option Value) (s : hq_S), hq_gr s 113 2 = 94 → q52 a1 a2 a3 a4 s = some y → hq_fc w_X11_could s y.2) (gu : hq_gr s 113 2 = 94) (h : f_X11_could_L52_B n q52 a1 a2 a3 a4 s = some y) : hq_fc w_X11_could s y.2 := by
  unfold f_X11_could_L52_B at h
  have t := hq_fc_rf w_X11_could s
  by_cases c9 : a4 < a2
  · rw [if_pos c9] at h
    obtain ⟨s10, hs10, h⟩ := hq_bind h
    have q0 := f_X3_walkBeats_fw (by decide) gu hs10
    have t := hq_fc_tr t (hq_fc_mono (W := w_X11_could) (by first | decide | (rw [gu]; decide) | simp [hq_has, hq_sub, w_X11_could]) q0)
    have gu := (q0 113 2 (by first | decide | (rw [gu]; decide))).2.2.trans gu
    obtain ⟨y11, hy11, h⟩ := hq_bind h
    have q0 := f_X8_nextToAny_fw (by decide) hy11
    have t := hq_fc_tr t (hq_fc_mono (W := w_X11_could) (by first | decide | (rw [gu]; decide) | simp [hq_has, hq_sub, w_X11_could]) q0)
    have gu := (q0 113 2 (by first | decide | (rw [gu]; decide))).2.2.trans gu
    exact hq_fc_tr t (f_X11_could_L79_fw e52 gu h)
  · rw [if_neg c9] at h
    have h := Option.some.inj h
    subst h
    exact t
theorem f_X11_could_L52_fw {n m : Nat} {a1 : Int32} {a2 : Int32} {a3 : Int32} {a4 : Int32} {s : hq_S} {y : (Int32 × hq_S)} (gu : hq_gr s 113 2 = 94) (h : f_X11_could_L52 n m a1 a2 a3 a4 s = some y) : hq_fc w_X11_could s y.2 := by
  induction m generalizing a1 a2 a3 a4 s with
  | zero => cases h
  | succ m ih => exact f_X11_could_L52_B_fw (n := n) (a1 := a1) (a2 := a2) (a3 := a3) (a4 := a4) (q52 := f_X11_could_L52 n m) (fun a1 a2 a3 a4 _ s gu h => ih gu h) gu h
theorem f_X11_could_fw {n : Nat} {a1 : Int32} {a2 : Int32} {s : hq_S} {y : (Int32 × hq_S)} (h : f_X11_could n a1 a2 s = some y) : hq_fc w_X11_could s y.2 := by
  unfold f_X11_could at h
  have t := hq_fc_rf w_X11_could s
  obtain ⟨y1, hy1, h⟩ := hq_bind h
  have q0 := f_X11_isThief_fw hy1
  have t := hq_fc_tr t (hq_fc_mono (W := w_X11_could) (by first | decide | simp [hq_has, hq_sub, w_X11_could]) q0)
  by_cases c2 : y1.1 = 0
  · rw [if_pos c2] at h
    have h := Option.some.inj h
    subst h
    exact t
  · rw [if_neg c2] at h
    by_cases c3 : a2 < 0
    · rw [if_pos c3] at h
      have h := Option.some.inj h
      subst h
      exact t
    · rw [if_neg c3] at h
      by_cases c4 : (60 : Int32) < a2
      · rw [if_pos c4] at h
        have h := Option.some.inj h
        subst h
        exact t
      · rw [if_neg c4] at h
        obtain ⟨y5, hy5, h⟩ := hq_bind h
        have q0 := f_X5_isFree_fw (by decide) hy5
        have t := hq_fc_tr t (hq_fc_mono (W := w_X11_could) (by first | decide | simp [hq_has, hq_sub, w_X11_could]) q0)
        by_cases c6 : y5.1 = 0
        · rw [if_pos c6] at h
          have h := Option.some.inj h
          subst h
          exact t
        · rw [if_neg c6] at h
          obtain ⟨s7, hs7, h⟩ := hq_bind h
          have q0 := f_X11_playAsItGoes_fw hs7
          have t := hq_fc_tr t (hq_fc_mono (W := w_X11_could) (by first | decide | simp [hq_has, hq_sub, w_X11_could]) q0)
          have gu := f_X11_playAsItGoes_g hs7
          obtain ⟨x8, hx8, h⟩ := hq_bind h
          exact hq_fc_tr t (f_X11_could_L52_fw gu h)
def w_X11_unseen : List (Nat × Option Nat) := [(94, some 0), (94, some 1), (94, some 2), (95, none), (96, none), (97, none), (98, none), (99, none), (100, none), (101, none), (102, none), (113, some 0), (113, some 1), (113, some 2), (113, some 3), (113, some 4), (113, some 5)]
theorem f_X11_unseen_L21_B_fw {n : Nat} {a1 : Int32} {a2 : Int32} {a3 : Int32} {a4 : Int32} {q21 : Int32 → Int32 → Int32 → Int32 → hq_S → Option (Int32 × hq_S)} {s : hq_S} {y : (Int32 × hq_S)} (e21 : ∀ (a1 : Int32) (a2 : Int32) (a3 : Int32) (a4 : Int32) (s : hq_S), hq_gr s 113 2 = 94 → q21 a1 a2 a3 a4 s = some y → hq_fc w_X11_unseen s y.2) (gu : hq_gr s 113 2 = 94) (h : f_X11_unseen_L21_B n q21 a1 a2 a3 a4 s = some y) : hq_fc w_X11_unseen s y.2 := by
  unfold f_X11_unseen_L21_B at h
  have t := hq_fc_rf w_X11_unseen s
  by_cases c4 : a4 < (60 : Int32)
  · rw [if_pos c4] at h
    obtain ⟨s5, hs5, h⟩ := hq_bind h
    have q0 := f_X3_walkBeats_fw (by decide) gu hs5
    have t := hq_fc_tr t (hq_fc_mono (W := w_X11_unseen) (by first | decide | (rw [gu]; decide) | simp [hq_has, hq_sub, w_X11_unseen]) q0)
    have gu := (q0 113 2 (by first | decide | (rw [gu]; decide))).2.2.trans gu
    obtain ⟨y6, hy6, h⟩ := hq_bind h
    have q0 := f_X3_nearest_fw hy6
    have t := hq_fc_tr t (hq_fc_mono (W := w_X11_unseen) (by first | decide | (rw [gu]; decide) | simp [hq_has, hq_sub, w_X11_unseen]) q0)
    have gu := (q0 113 2 (by first | decide | (rw [gu]; decide))).2.2.trans gu
    obtain ⟨z7, hz7, h⟩ := hq_bind h
    exact hq_fc_tr t (e21 a1 (hq_max a2 z7) z7 (a4 + (1 : Int32)) y6.2 gu h)
  · rw [if_neg c4] at h
    have h := Option.some.inj h
    subst h
    exact t
theorem f_X11_unseen_L21_fw {n m : Nat} {a1 : Int32} {a2 : Int32} {a3 : Int32} {a4 : Int32} {s : hq_S} {y : (Int32 × hq_S)} (gu : hq_gr s 113 2 = 94) (h : f_X11_unseen_L21 n m a1 a2 a3 a4 s = some y) : hq_fc w_X11_unseen s y.2 := by
  induction m generalizing a1 a2 a3 a4 s with
  | zero => cases h
  | succ m ih => exact f_X11_unseen_L21_B_fw (n := n) (a1 := a1) (a2 := a2) (a3 := a3) (a4 := a4) (q21 := f_X11_unseen_L21 n m) (fun a1 a2 a3 a4 s gu h => ih gu h) gu h
theorem f_X11_unseen_fw {n : Nat} {a1 : Int32} {s : hq_S} {y : (Int32 × hq_S)} (h : f_X11_unseen n a1 s = some y) : hq_fc w_X11_unseen s y.2 := by
  unfold f_X11_unseen at h
  have t := hq_fc_rf w_X11_unseen s
  obtain ⟨y1, hy1, h⟩ := hq_bind h
  have q0 := f_X11_isCorner_fw hy1
  have t := hq_fc_tr t (hq_fc_mono (W := w_X11_unseen) (by first | decide | simp [hq_has, hq_sub, w_X11_unseen]) q0)
  by_cases c2 : y1.1 = 0
  · rw [if_pos c2] at h
    have h := Option.some.inj h
    subst h
    exact t
  · rw [if_neg c2] at h
    obtain ⟨s3, hs3, h⟩ := hq_bind h
    have q0 := f_X11_playAsItGoes_fw hs3
    have t := hq_fc_tr t (hq_fc_mono (W := w_X11_unseen) (by first | decide | simp [hq_has, hq_sub, w_X11_unseen]) q0)
    have gu := f_X11_playAsItGoes_g hs3
    exact hq_fc_tr t (f_X11_unseen_L21_fw gu h)
def w_X11_drunk : List (Nat × Option Nat) := [(106, none), (107, none)]
theorem f_X11_drunk_J36_fw {n : Nat} {a1 : Int32} {a2 : Int32} {a3 : Int32} {a4 : Int32} {s : hq_S} {y : (Int64 × hq_S)} (h : f_X11_drunk_J36 n a1 a2 a3 a4 s = some y) : hq_fc w_X11_drunk s y.2 := by
  unfold f_X11_drunk_J36 at h
  have t := hq_fc_rf w_X11_drunk s
  have h := Option.some.inj h
  subst h
  exact t
theorem f_X11_drunk_fw {n : Nat} {a1 : Int32} {a2 : Int32} {a3 : Int32} {a4 : Int32} {s : hq_S} {y : (Int64 × hq_S)} (h : f_X11_drunk n a1 a2 a3 a4 s = some y) : hq_fc w_X11_drunk s y.2 := by
  unfold f_X11_drunk at h
  have t := hq_fc_rf w_X11_drunk s
  obtain ⟨y1, hy1, h⟩ := hq_bind h
  have q0 := f_X11_isCorner_fw hy1
  have t := hq_fc_tr t (hq_fc_mono (W := w_X11_drunk) (by first | decide | simp [hq_has, hq_sub, w_X11_drunk]) q0)
  by_cases c2 : y1.1 = 0
  · rw [if_pos c2] at h
    exact hq_fc_tr t (f_X11_drunk_J36_fw h)
  · rw [if_neg c2] at h
    obtain ⟨y3, hy3, h⟩ := hq_bind h
    have q0 := f_X11_isCorner_fw hy3
    have t := hq_fc_tr t (hq_fc_mono (W := w_X11_drunk) (by first | decide | simp [hq_has, hq_sub, w_X11_drunk]) q0)
    by_cases c4 : y3.1 = 0
    · rw [if_pos c4] at h
      exact hq_fc_tr t (f_X11_drunk_J36_fw h)
    · rw [if_neg c4] at h
      by_cases c5 : a3 < 0
      · rw [if_pos c5] at h
        exact hq_fc_tr t (f_X11_drunk_J36_fw h)
      · rw [if_neg c5] at h
        by_cases c6 : (4 : Int32) < a3
        · rw [if_pos c6] at h
          exact hq_fc_tr t (f_X11_drunk_J36_fw h)
        · rw [if_neg c6] at h
          by_cases c7 : a4 < 0
          · rw [if_pos c7] at h
            exact hq_fc_tr t (f_X11_drunk_J36_fw h)
          · rw [if_neg c7] at h
            by_cases c8 : (1 : Int32) < a4
            · rw [if_pos c8] at h
              exact hq_fc_tr t (f_X11_drunk_J36_fw h)
            · rw [if_neg c8] at h
              obtain ⟨y9, hy9, h⟩ := hq_bind h
              have q0 := f_X8_drunkWeight_fw (by decide) hy9
              have t := hq_fc_tr t (hq_fc_mono (W := w_X11_drunk) (by first | decide | simp [hq_has, hq_sub, w_X11_drunk]) q0)
              obtain ⟨y10, hy10, h⟩ := hq_bind h
              have q0 := f_X11_power_fw hy10
              have t := hq_fc_tr t (hq_fc_mono (W := w_X11_drunk) (by first | decide | simp [hq_has, hq_sub, w_X11_drunk]) q0)
              obtain ⟨y11, hy11, h⟩ := hq_bind h
              have q0 := f_X11_inLeastTerms_fw hy11
              have t := hq_fc_tr t (hq_fc_mono (W := w_X11_drunk) (by first | decide | simp [hq_has, hq_sub, w_X11_drunk]) q0)
              have h := Option.some.inj h
              subst h
              exact t
def w_X11_playFromText : List (Nat × Option Nat) := [(108, some 0), (109, none), (110, none), (113, some 0), (113, some 1), (113, some 2), (113, some 3), (113, some 4), (113, some 5)]
theorem f_X11_playFromText_fw {n : Nat} {s : hq_S} {y : hq_S} (h : f_X11_playFromText n s = some y) : hq_fc w_X11_playFromText s y := by
  unfold f_X11_playFromText at h
  have t := hq_fc_rf w_X11_playFromText s
  have m1 : hq_isT (hq_gr s 0 2) := hq_ifT h
  rw [if_pos m1] at h
  obtain ⟨s2, hs2, h⟩ := hq_bind h
  have q0 := f_X8_build_fw (by decide) m1 hs2
  have t := hq_fc_tr t (hq_fc_mono (W := w_X11_playFromText) (by first | decide | simp [hq_has, hq_sub, w_X11_playFromText]) q0)
  have m3 : hq_isT (hq_gr s2 0 2) := hq_ifT h
  rw [if_pos m3] at h
  obtain ⟨s4, hs4, h⟩ := hq_bind h
  have q0 := f_X3_setUp_fw m3 (by decide) (by decide) hs4
  have t := hq_fc_tr t (hq_fc_mono (W := w_X11_playFromText) (by first | decide | simp [hq_has, hq_sub, w_X11_playFromText]) q0)
  have gu := f_X3_setUp_g hs4
  have h := Option.some.inj h
  subst h
  exact t
theorem f_X11_playFromText_g {n : Nat} {s y : hq_S} (h : f_X11_playFromText n s = some y) : hq_gr y 113 2 = 94 := by
  unfold f_X11_playFromText at h
  rw [if_pos (hq_ifT h)] at h
  obtain ⟨t1, h1, h⟩ := hq_bind h
  rw [if_pos (hq_ifT h)] at h
  obtain ⟨t2, h2, h⟩ := hq_bind h
  cases h
  exact f_X3_setUp_g h2
def w_X11_bolds : List (Nat × Option Nat) := [(15, none), (38, none), (94, some 0), (94, some 1), (94, some 2), (95, none), (96, none), (97, none), (98, none), (99, none), (100, none), (101, none), (102, none), (108, some 0), (109, none), (110, none), (113, some 0), (113, some 1), (113, some 2), (113, some 3), (113, some 4), (113, some 5), (151, none), (169, none)]
theorem f_X11_bolds_fw {n : Nat} {a1 : Int32} {s : hq_S} {y : (Int32 × hq_S)} (h : f_X11_bolds n a1 s = some y) : hq_fc w_X11_bolds s y.2 := by
  unfold f_X11_bolds at h
  have t := hq_fc_rf w_X11_bolds s
  obtain ⟨y1, hy1, h⟩ := hq_bind h
  have q0 := f_X11_isThief_fw hy1
  have t := hq_fc_tr t (hq_fc_mono (W := w_X11_bolds) (by first | decide | simp [hq_has, hq_sub, w_X11_bolds]) q0)
  by_cases c2 : y1.1 = 0
  · rw [if_pos c2] at h
    have h := Option.some.inj h
    subst h
    exact t
  · rw [if_neg c2] at h
    obtain ⟨s3, hs3, h⟩ := hq_bind h
    have q0 := f_X11_playFromText_fw hs3
    have t := hq_fc_tr t (hq_fc_mono (W := w_X11_bolds) (by first | decide | simp [hq_has, hq_sub, w_X11_bolds]) q0)
    have gu := f_X11_playFromText_g hs3
    have m4 : hq_isT (hq_gr s3 0 2) := hq_ifT h
    rw [if_pos m4] at h
    obtain ⟨y5, hy5, h⟩ := hq_bind h
    have q0 := f_X2_lastHour_fw hy5
    have t := hq_fc_tr t (hq_fc_mono (W := w_X11_bolds) (by first | decide | (rw [gu]; decide) | simp [hq_has, hq_sub, w_X11_bolds]) q0)
    have gu := (q0 113 2 (by first | decide | (rw [gu]; decide))).2.2.trans gu
    obtain ⟨y6, hy6, h⟩ := hq_bind h
    have q0 := f_X2_boldsOf_fw (hq_shT_m14 m4) (by decide) gu hy6
    have t := hq_fc_tr t (hq_fc_mono (W := w_X11_bolds) (by first | decide | (rw [gu]; decide) | simp [hq_has, hq_sub, w_X11_bolds]) q0)
    have gu := (q0 113 2 (by first | decide | (rw [gu]; decide))).2.2.trans gu
    have h := Option.some.inj h
    subst h
    exact t
def w_X11_ask : List (Nat × Option Nat) := [(15, none), (38, none), (94, some 0), (94, some 1), (94, some 2), (95, none), (96, none), (97, none), (98, none), (99, none), (100, none), (101, none), (102, none), (108, some 0), (109, none), (110, none), (113, some 0), (113, some 1), (113, some 2), (113, some 3), (113, some 4), (113, some 5), (151, none), (163, some 8), (163, some 9), (169, none)]
theorem f_X11_ask_fw {n : Nat} {a1 : Int32} {a2 : Int32} {s : hq_S} {y : (Int32 × hq_S)} (h : f_X11_ask n a1 a2 s = some y) : hq_fc w_X11_ask s y.2 := by
  unfold f_X11_ask at h
  have t := hq_fc_rf w_X11_ask s
  obtain ⟨y1, hy1, h⟩ := hq_bind h
  have q0 := f_X11_isThief_fw hy1
  have t := hq_fc_tr t (hq_fc_mono (W := w_X11_ask) (by first | decide | simp [hq_has, hq_sub, w_X11_ask]) q0)
  by_cases c2 : y1.1 = 0
  · rw [if_pos c2] at h
    have h := Option.some.inj h
    subst h
    exact t
  · rw [if_neg c2] at h
    by_cases c3 : a2 < 0
    · rw [if_pos c3] at h
      have h := Option.some.inj h
      subst h
      exact t
    · rw [if_neg c3] at h
      by_cases c4 : (1 : Int32) < a2
      · rw [if_pos c4] at h
        have h := Option.some.inj h
        subst h
        exact t
      · rw [if_neg c4] at h
        obtain ⟨s5, hs5, h⟩ := hq_bind h
        have q0 := f_X11_playFromText_fw hs5
        have t := hq_fc_tr t (hq_fc_mono (W := w_X11_ask) (by first | decide | simp [hq_has, hq_sub, w_X11_ask]) q0)
        have gu := f_X11_playFromText_g hs5
        have m6 : hq_isT (hq_gr s5 0 2) := hq_ifT h
        rw [if_pos m6] at h
        obtain ⟨y7, hy7, h⟩ := hq_bind h
        have q0 := f_X2_boldsOf_fw (hq_shT_m14 m6) (by decide) gu hy7
        have t := hq_fc_tr t (hq_fc_mono (W := w_X11_ask) (by first | decide | (rw [gu]; decide) | simp [hq_has, hq_sub, w_X11_ask]) q0)
        have gu := (q0 113 2 (by first | decide | (rw [gu]; decide))).2.2.trans gu
        obtain ⟨s8, hs8, h⟩ := hq_bind h
        have q0 := f_X2_chooseQuestion_fw hs8
        have t := hq_fc_tr t (hq_fc_mono (W := w_X11_ask) (by first | decide | (rw [gu]; decide) | simp [hq_has, hq_sub, w_X11_ask]) q0)
        have gu := (q0 113 2 (by first | decide | (rw [gu]; decide))).2.2.trans gu
        by_cases c9 : a2 = 0
        · rw [if_pos c9] at h
          have h := Option.some.inj h
          subst h
          exact t
        · rw [if_neg c9] at h
          have h := Option.some.inj h
          subst h
          exact t
def w_X11_chance : List (Nat × Option Nat) := [(15, none), (38, none), (94, some 0), (94, some 1), (94, some 2), (95, none), (96, none), (97, none), (98, none), (99, none), (100, none), (101, none), (102, none), (113, some 0), (113, some 1), (113, some 2), (113, some 3), (113, some 4), (113, some 5), (151, none)]
theorem f_X11_chance_L35_B_fw {n : Nat} {a1 : Int32} {a2 : Int32} {a3 : Int32} {a4 : Int32} {j5 : Int64} {a7 : Int32} {q35 : Int32 → Int32 → Int32 → Int32 → Int64 → Int32 → hq_S → Option (Int32 × hq_S)} {s : hq_S} {y : (Int32 × hq_S)} (e35 : ∀ (a1 : Int32) (a2 : Int32) (a3 : Int32) (a4 : Int32) (j5 : Int64) (a7 : Int32) (s : hq_S), q35 a1 a2 a3 a4 j5 a7 s = some y → hq_fc w_X11_chance s y.2) (h : f_X11_chance_L35_B n q35 a1 a2 a3 a4 j5 a7 s = some y) : hq_fc w_X11_chance s y.2 := by
  unfold f_X11_chance_L35_B at h
  have t := hq_fc_rf w_X11_chance s
  by_cases c6 : a7 < (10 : Int32)
  · rw [if_pos c6] at h
    obtain ⟨s7, hs7, h⟩ := hq_bind h
    have q0 := f_X5_copyFrom_fw (by decide) (by decide) hs7
    have t := hq_fc_tr t (hq_fc_mono (W := w_X11_chance) (by first | decide | simp [hq_has, hq_sub, w_X11_chance]) q0)
    obtain ⟨s8, hs8, h⟩ := hq_bind h
    have q := hq_fc_pj (W := w_X11_chance) hs8 (by first | decide | simp [hq_has, hq_sub, w_X11_chance])
    have t := hq_fc_tr t q
    have m9 : hq_isT (hq_gr s8 0 2) := hq_ifT h
    rw [if_pos m9] at h
    obtain ⟨s10, hs10, h⟩ := hq_bind h
    have q0 := f_X3_setUp_fw m9 (by decide) (by decide) hs10
    have t := hq_fc_tr t (hq_fc_mono (W := w_X11_chance) (by first | decide | simp [hq_has, hq_sub, w_X11_chance]) q0)
    have gu := f_X3_setUp_g hs10
    obtain ⟨s11, hs11, h⟩ := hq_bind h
    have q0 := f_X3_passMany_fw (by decide) gu hs11
    have t := hq_fc_tr t (hq_fc_mono (W := w_X11_chance) (by first | decide | (rw [gu]; decide) | simp [hq_has, hq_sub, w_X11_chance]) q0)
    have gu := (q0 113 2 (by first | decide | (rw [gu]; decide))).2.2.trans gu
    obtain ⟨y12, hy12, h⟩ := hq_bind h
    have q0 := f_X5_isFree_fw (by decide) hy12
    have t := hq_fc_tr t (hq_fc_mono (W := w_X11_chance) (by first | decide | (rw [gu]; decide) | simp [hq_has, hq_sub, w_X11_chance]) q0)
    have gu := (q0 113 2 (by first | decide | (rw [gu]; decide))).2.2.trans gu
    obtain ⟨z13, hz13, h⟩ := hq_bind h
    exact hq_fc_tr t (e35 a1 a2 a3 (a4 + z13) (hq_gj s11 94 1) (a7 + (1 : Int32)) y12.2 h)
  · rw [if_neg c6] at h
    have h := Option.some.inj h
    subst h
    exact t
theorem f_X11_chance_L35_fw {n m : Nat} {a1 : Int32} {a2 : Int32} {a3 : Int32} {a4 : Int32} {j5 : Int64} {a7 : Int32} {s : hq_S} {y : (Int32 × hq_S)} (h : f_X11_chance_L35 n m a1 a2 a3 a4 j5 a7 s = some y) : hq_fc w_X11_chance s y.2 := by
  induction m generalizing a1 a2 a3 a4 j5 a7 s with
  | zero => cases h
  | succ m ih => exact f_X11_chance_L35_B_fw (n := n) (a1 := a1) (a2 := a2) (a3 := a3) (a4 := a4) (j5 := j5) (a7 := a7) (q35 := f_X11_chance_L35 n m) (fun a1 a2 a3 a4 j5 a7 s h => ih h) h
theorem f_X11_chance_fw {n : Nat} {a1 : Int32} {a2 : Int32} {a3 : Int32} {s : hq_S} {y : (Int32 × hq_S)} (h : f_X11_chance n a1 a2 a3 s = some y) : hq_fc w_X11_chance s y.2 := by
  unfold f_X11_chance at h
  have t := hq_fc_rf w_X11_chance s
  by_cases c1 : a1 < 0
  · rw [if_pos c1] at h
    have h := Option.some.inj h
    subst h
    exact t
  · rw [if_neg c1] at h
    by_cases c2 : a2 < (1 : Int32)
    · rw [if_pos c2] at h
      have h := Option.some.inj h
      subst h
      exact t
    · rw [if_neg c2] at h
      by_cases c3 : (99 : Int32) < a2
      · rw [if_pos c3] at h
        have h := Option.some.inj h
        subst h
        exact t
      · rw [if_neg c3] at h
        obtain ⟨y4, hy4, h⟩ := hq_bind h
        have q0 := f_X11_isThief_fw hy4
        have t := hq_fc_tr t (hq_fc_mono (W := w_X11_chance) (by first | decide | simp [hq_has, hq_sub, w_X11_chance]) q0)
        by_cases c5 : y4.1 = 0
        · rw [if_pos c5] at h
          have h := Option.some.inj h
          subst h
          exact t
        · rw [if_neg c5] at h
          exact hq_fc_tr t (f_X11_chance_L35_fw h)
def w_X11_tried : List (Nat × Option Nat) := [(15, none), (38, none), (94, some 0), (94, some 1), (94, some 2), (95, none), (96, none), (97, none), (98, none), (99, none), (100, none), (101, none), (102, none), (108, some 0), (109, none), (110, none), (113, some 0), (113, some 1), (113, some 2), (113, some 3), (113, some 4), (113, some 5), (151, none)]
theorem f_X11_tried_J144_fw {n : Nat} {a1 : Int32} {a2 : Int32} {a3 : Int32} {s : hq_S} {y : (Int32 × hq_S)} (gu : hq_gr s 113 2 = 94) (h : f_X11_tried_J144 n a1 a2 a3 s = some y) : hq_fc w_X11_tried s y.2 := by
  unfold f_X11_tried_J144 at h
  have t := hq_fc_rf w_X11_tried s
  obtain ⟨s10, hs10, h⟩ := hq_bind h
  have q0 := f_X3_passMany_fw (by decide) gu hs10
  have t := hq_fc_tr t (hq_fc_mono (W := w_X11_tried) (by first | decide | (rw [gu]; decide) | simp [hq_has, hq_sub, w_X11_tried]) q0)
  have gu := (q0 113 2 (by first | decide | (rw [gu]; decide))).2.2.trans gu
  have m11 : hq_isT (hq_gr s10 0 2) := hq_ifT h
  rw [if_pos m11] at h
  obtain ⟨y12, hy12, h⟩ := hq_bind h
  have q0 := f_X5_hadByAll_fw (by decide) hy12
  have t := hq_fc_tr t (hq_fc_mono (W := w_X11_tried) (by first | decide | (rw [gu]; decide) | simp [hq_has, hq_sub, w_X11_tried]) q0)
  have gu := (q0 113 2 (by first | decide | (rw [gu]; decide))).2.2.trans gu
  have h := Option.some.inj h
  subst h
  exact t
theorem f_X11_tried_J42_fw {n : Nat} {a1 : Int32} {a2 : Int32} {a3 : Int32} {s : hq_S} {y : (Int32 × hq_S)} (h : f_X11_tried_J42 n a1 a2 a3 s = some y) : hq_fc w_X11_tried s y.2 := by
  unfold f_X11_tried_J42 at h
  have t := hq_fc_rf w_X11_tried s
  obtain ⟨s7, hs7, h⟩ := hq_bind h
  have q0 := f_X11_playAsItGoes_fw hs7
  have t := hq_fc_tr t (hq_fc_mono (W := w_X11_tried) (by first | decide | simp [hq_has, hq_sub, w_X11_tried]) q0)
  have gu := f_X11_playAsItGoes_g hs7
  by_cases c8 : a1 = (0 : Int32)
  · rw [if_pos c8] at h
    obtain ⟨s9, hs9, h⟩ := hq_bind h
    have q := hq_fc_pi (W := w_X11_tried) hs9 (by first | decide | (rw [gu]; decide) | simp [hq_has, hq_sub, w_X11_tried])
    have t := hq_fc_tr t q
    have gu := (hq_pi_gr hs9).trans gu
    exact hq_fc_tr t (f_X11_tried_J144_fw gu h)
  rw [if_neg c8] at h
  by_cases c13 : a1 = (1 : Int32)
  · rw [if_pos c13] at h
    obtain ⟨s14, hs14, h⟩ := hq_bind h
    have q := hq_fc_pi (W := w_X11_tried) hs14 (by first | decide | (rw [gu]; decide) | simp [hq_has, hq_sub, w_X11_tried])
    have t := hq_fc_tr t q
    have gu := (hq_pi_gr hs14).trans gu
    exact hq_fc_tr t (f_X11_tried_J144_fw gu h)
  rw [if_neg c13] at h
  by_cases c15 : a1 = (2 : Int32)
  · rw [if_pos c15] at h
    obtain ⟨s16, hs16, h⟩ := hq_bind h
    have q := hq_fc_pi (W := w_X11_tried) hs16 (by first | decide | (rw [gu]; decide) | simp [hq_has, hq_sub, w_X11_tried])
    have t := hq_fc_tr t q
    have gu := (hq_pi_gr hs16).trans gu
    exact hq_fc_tr t (f_X11_tried_J144_fw gu h)
  rw [if_neg c15] at h
  by_cases c17 : a1 = (3 : Int32)
  · rw [if_pos c17] at h
    obtain ⟨s18, hs18, h⟩ := hq_bind h
    have q := hq_fc_pi (W := w_X11_tried) hs18 (by first | decide | (rw [gu]; decide) | simp [hq_has, hq_sub, w_X11_tried])
    have t := hq_fc_tr t q
    have gu := (hq_pi_gr hs18).trans gu
    exact hq_fc_tr t (f_X11_tried_J144_fw gu h)
  rw [if_neg c17] at h
  have m19 : hq_isT (hq_gr s7 0 2) := hq_ifT h
  rw [if_pos m19] at h
  obtain ⟨s20, hs20, h⟩ := hq_bind h
  have q0 := f_X8_build_fw (by decide) m19 hs20
  have t := hq_fc_tr t (hq_fc_mono (W := w_X11_tried) (by first | decide | (rw [gu]; decide) | simp [hq_has, hq_sub, w_X11_tried]) q0)
  have gu := (q0 113 2 (by first | decide | (rw [gu]; decide))).2.2.trans gu
  obtain ⟨s21, hs21, h⟩ := hq_bind h
  have q := hq_fc_pr (W := w_X11_tried) hs21 (by first | decide | (rw [gu]; decide) | simp [hq_has, hq_sub, w_X11_tried])
  have t := hq_fc_tr t q
  have gu := (hq_pr_gr hs21 (by decide)).trans gu
  exact hq_fc_tr t (f_X11_tried_J144_fw gu h)
theorem f_X11_tried_fw {n : Nat} {a1 : Int32} {a2 : Int32} {a3 : Int32} {s : hq_S} {y : (Int32 × hq_S)} (h : f_X11_tried n a1 a2 a3 s = some y) : hq_fc w_X11_tried s y.2 := by
  unfold f_X11_tried at h
  have t := hq_fc_rf w_X11_tried s
  by_cases c1 : a1 < 0
  · rw [if_pos c1] at h
    have h := Option.some.inj h
    subst h
    exact t
  · rw [if_neg c1] at h
    by_cases c2 : (4 : Int32) < a1
    · rw [if_pos c2] at h
      have h := Option.some.inj h
      subst h
      exact t
    · rw [if_neg c2] at h
      by_cases c3 : a3 < 0
      · rw [if_pos c3] at h
        have h := Option.some.inj h
        subst h
        exact t
      · rw [if_neg c3] at h
        by_cases c4 : (200 : Int32) < a3
        · rw [if_pos c4] at h
          have h := Option.some.inj h
          subst h
          exact t
        · rw [if_neg c4] at h
          by_cases c5 : a1 = (2 : Int32)
          · rw [if_pos c5] at h
            obtain ⟨y22, hy22, h⟩ := hq_bind h
            have q0 := f_X11_isGuard_fw hy22
            have t := hq_fc_tr t (hq_fc_mono (W := w_X11_tried) (by first | decide | simp [hq_has, hq_sub, w_X11_tried]) q0)
            by_cases c23 : y22.1 = 0
            · rw [if_pos c23] at h
              have h := Option.some.inj h
              subst h
              exact t
            · rw [if_neg c23] at h
              exact hq_fc_tr t (f_X11_tried_J42_fw h)
          · rw [if_neg c5] at h
            by_cases c6 : a2 = 0
            · rw [if_pos c6] at h
              exact hq_fc_tr t (f_X11_tried_J42_fw h)
            · rw [if_neg c6] at h
              have h := Option.some.inj h
              subst h
              exact t
def w_X11_undo : List (Nat × Option Nat) := [(76, some 2), (77, none), (78, none), (103, some 0), (104, none), (105, none), (170, some 0), (170, some 4), (170, some 5), (170, some 6)]
theorem f_X11_undo_J113_fw {n : Nat} {s : hq_S} {y : (Int32 × hq_S)} (h : f_X11_undo_J113 n s = some y) : hq_fc w_X11_undo s y.2 := by
  unfold f_X11_undo_J113 at h
  have t := hq_fc_rf w_X11_undo s
  have h := Option.some.inj h
  subst h
  exact t
theorem f_X11_undo_fw {n : Nat} {s : hq_S} {y : (Int32 × hq_S)} (h : f_X11_undo n s = some y) : hq_fc w_X11_undo s y.2 := by
  unfold f_X11_undo at h
  have t := hq_fc_rf w_X11_undo s
  by_cases c1 : (hq_gi s 170 0) = 0
  · rw [if_pos c1] at h
    have h := Option.some.inj h
    subst h
    exact t
  · rw [if_neg c1] at h
    obtain ⟨s2, hs2, h⟩ := hq_bind h
    have q0 := f_X1_takeLatest_fw hs2
    have t := hq_fc_tr t (hq_fc_mono (W := w_X11_undo) (by first | decide | simp [hq_has, hq_sub, w_X11_undo]) q0)
    by_cases c3 : (hq_gi s2 170 4) = (0 : Int32)
    · rw [if_pos c3] at h
      obtain ⟨s4, hs4, h⟩ := hq_bind h
      have q := hq_fc_st (W := w_X11_undo) hs4 (by first | decide | simp [hq_has, hq_sub, w_X11_undo])
      have t := hq_fc_tr t q
      exact hq_fc_tr t (f_X11_undo_J113_fw h)
    rw [if_neg c3] at h
    by_cases c5 : (hq_gi s2 170 4) = (1 : Int32)
    · rw [if_pos c5] at h
      obtain ⟨s6, hs6, h⟩ := hq_bind h
      have q0 := f_X11_turnBar_fw hs6
      have t := hq_fc_tr t (hq_fc_mono (W := w_X11_undo) (by first | decide | simp [hq_has, hq_sub, w_X11_undo]) q0)
      exact hq_fc_tr t (f_X11_undo_J113_fw h)
    rw [if_neg c5] at h
    obtain ⟨s7, hs7, h⟩ := hq_bind h
    have q := hq_fc_st (W := w_X11_undo) hs7 (by first | decide | simp [hq_has, hq_sub, w_X11_undo])
    have t := hq_fc_tr t q
    exact hq_fc_tr t (f_X11_undo_J113_fw h)
def w_X11_keep : List (Nat × Option Nat) := [(0, some 7), (85, some 0), (85, some 1), (85, some 2), (86, none), (87, none), (88, none), (89, none), (90, none), (91, none), (92, none), (93, none)]
theorem f_X11_keep_fw {n : Nat} {s : hq_S} {y : (Int32 × hq_S)} (h : f_X11_keep n s = some y) : hq_fc w_X11_keep s y.2 := by
  unfold f_X11_keep at h
  have t := hq_fc_rf w_X11_keep s
  obtain ⟨s1, hs1, h⟩ := hq_bind h
  have q0 := f_X5_copyFrom_fw (by decide) (by decide) hs1
  have t := hq_fc_tr t (hq_fc_mono (W := w_X11_keep) (by first | decide | simp [hq_has, hq_sub, w_X11_keep]) q0)
  obtain ⟨s2, hs2, h⟩ := hq_bind h
  have q := hq_fc_pi (W := w_X11_keep) hs2 (by first | decide | simp [hq_has, hq_sub, w_X11_keep])
  have t := hq_fc_tr t q
  have h := Option.some.inj h
  subst h
  exact t
def w_X11_back : List (Nat × Option Nat) := [(76, some 0), (76, some 1), (76, some 2), (77, none), (78, none), (79, none), (80, none), (81, none), (82, none), (83, none), (84, none), (103, some 0), (104, none), (105, none), (170, some 0)]
theorem f_X11_back_fw {n : Nat} {s : hq_S} {y : (Int32 × hq_S)} (h : f_X11_back n s = some y) : hq_fc w_X11_back s y.2 := by
  unfold f_X11_back at h
  have t := hq_fc_rf w_X11_back s
  by_cases c1 : (hq_gi s 0 7) = 0
  · rw [if_pos c1] at h
    have h := Option.some.inj h
    subst h
    exact t
  · rw [if_neg c1] at h
    obtain ⟨s2, hs2, h⟩ := hq_bind h
    have q0 := f_X5_copyFrom_fw (by decide) (by decide) hs2
    have t := hq_fc_tr t (hq_fc_mono (W := w_X11_back) (by first | decide | simp [hq_has, hq_sub, w_X11_back]) q0)
    have m3 : hq_isT (hq_gr s2 0 2) := hq_ifT h
    rw [if_pos m3] at h
    obtain ⟨s4, hs4, h⟩ := hq_bind h
    have q0 := f_X8_build_fw (by decide) m3 hs4
    have t := hq_fc_tr t (hq_fc_mono (W := w_X11_back) (by first | decide | simp [hq_has, hq_sub, w_X11_back]) q0)
    obtain ⟨s5, hs5, h⟩ := hq_bind h
    have q0 := f_X1_clear_fw hs5
    have t := hq_fc_tr t (hq_fc_mono (W := w_X11_back) (by first | decide | simp [hq_has, hq_sub, w_X11_back]) q0)
    have h := Option.some.inj h
    subst h
    exact t
def w_X12_half (k0 : Nat) : List (Nat × Option Nat) := [(k0, none)]
theorem f_X12_half_L7_B_fw {n : Nat} {k0 : Nat} {a1 : Int32} {a2 : Int32} {q7 : Nat → Int32 → Int32 → hq_S → Option hq_S} {s : hq_S} {y : hq_S} (e7 : ∀ (k0 : Nat) (a1 : Int32) (a2 : Int32) (s : hq_S), q7 k0 a1 a2 s = some y → hq_fc (w_X12_half k0) s y) (h : f_X12_half_L7_B n q7 k0 a1 a2 s = some y) : hq_fc (w_X12_half k0) s y := by
  unfold f_X12_half_L7_B at h
  have t := hq_fc_rf (w_X12_half k0) s
  by_cases c3 : a2 < a1
  · rw [if_pos c3] at h
    obtain ⟨x4, hx4, h⟩ := hq_bind h
    obtain ⟨s5, hs5, h⟩ := hq_bind h
    have q := hq_fc_stiA (W := (w_X12_half k0)) hs5 (by first | decide | simp [hq_has, hq_sub, w_X12_half])
    have t := hq_fc_tr t q
    exact hq_fc_tr t (e7 k0 a1 (a2 + (1 : Int32)) s5 h)
  · rw [if_neg c3] at h
    have h := Option.some.inj h
    subst h
    exact t
theorem f_X12_half_L7_fw {n m : Nat} {k0 : Nat} {a1 : Int32} {a2 : Int32} {s : hq_S} {y : hq_S} (h : f_X12_half_L7 n m k0 a1 a2 s = some y) : hq_fc (w_X12_half k0) s y := by
  induction m generalizing k0 a1 a2 s with
  | zero => cases h
  | succ m ih => exact f_X12_half_L7_B_fw (n := n) (k0 := k0) (a1 := a1) (a2 := a2) (q7 := f_X12_half_L7 n m) (fun k0 a1 a2 s h => ih h) h
theorem f_X12_half_fw {n : Nat} {k0 : Nat} {s : hq_S} {y : hq_S} (h : f_X12_half n k0 s = some y) : hq_fc (w_X12_half k0) s y := by
  unfold f_X12_half at h
  have t := hq_fc_rf (w_X12_half k0) s
  obtain ⟨x1, hx1, h⟩ := hq_bind h
  obtain ⟨x2, hx2, h⟩ := hq_bind h
  exact hq_fc_tr t (f_X12_half_L7_fw h)
