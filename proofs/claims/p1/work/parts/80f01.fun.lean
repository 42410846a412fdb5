def f_X4_isTold (n : Nat) (k0 : Nat) (a1 : Int32) (s : hq_S) : Option (Int32 × hq_S) := (hq_ld s (k0 + 3) 3 a1).bind fun x1 => if 0 < x1 then some ((1 : Int32), s) else some ((0 : Int32), s)
theorem f_X4_isTold_run {xs : List Int32} {n d g : Nat} {k0 : Nat} {a1 : Int32} {s : hq_S} {y : (Int32 × hq_S)} (hd : 0 ≤ d) (m0_ : hq_isL k0) (h : f_X4_isTold n k0 a1 s = some y) : hq_R (mm_O xs) d mc_X4_isTold 0 [some (.ref k0), some (.int a1)] [] s g (some (.int y.1)) y.2 := by
  unfold f_X4_isTold at h
  refine hq_p 1 1 [some (.ref k0), some (.int a1)] [.ref k0] (fun n h => rfl) ?_
  refine hq_gf (x := .ref (k0 + 3)) rfl (hq_shL m0_) rfl rfl (hq_fldr (hq_shL_u m0_)) ?_
  refine hq_p 1 5 [some (.ref k0), some (.int a1)] [.int a1, .ref (k0 + 3)] (fun n h => rfl) ?_
  obtain ⟨x1, hx1, h⟩ := hq_bind h
  refine hq_iaload rfl (hq_shL_3 m0_) List.length_replicate hx1 ?_
  by_cases c2 : 0 < x1
  · rw [if_pos c2] at h
    refine hq_izF rfl (hq_c_le_F c2) ?_
    refine hq_p 2 14 [some (.ref k0), some (.int a1)] [.int (1 : Int32)] (fun n h => rfl) ?_
    have h := Option.some.inj h
    subst h
    exact ⟨1, rfl⟩
  · rw [if_neg c2] at h
    refine hq_izT rfl (hq_c_le_T c2) ?_
    refine hq_p 1 14 [some (.ref k0), some (.int a1)] [.int (0 : Int32)] (fun n h => rfl) ?_
    have h := Option.some.inj h
    subst h
    exact ⟨1, rfl⟩
def f_X3_nearest_L5_B (n : Nat) (q5 : Int32 → Int32 → Int32 → hq_S → Option (Int32 × hq_S)) (a1 : Int32) (a2 : Int32) (a3 : Int32) (s : hq_S) : Option (Int32 × hq_S) := if hq_isT (hq_gr s 113 0) then if a3 < (hq_gi s (hq_gr s 113 0) 7) then if hq_isS (hq_gr s 113 1) then if hq_isN (hq_gr s 113 2) then (hq_ld s ((hq_gr s 113 2) + 2) 3 a3).bind fun x5 => (f_X8_lanesBetween n (hq_gr s 113 1) x5 a1 s).bind fun y6 => q5 a1 (hq_min a2 y6.1) (a3 + (1 : Int32)) y6.2 else none else none else some (a2, s) else none
def f_X3_nearest_L5 (n : Nat) (m : Nat) : Int32 → Int32 → Int32 → hq_S → Option (Int32 × hq_S) := Nat.rec (fun _ _ _ _ => none) (fun _ q => f_X3_nearest_L5_B n q) m
theorem f_X3_nearest_L5_Brun {xs : List Int32} {n d g : Nat} {a1 : Int32} {a2 : Int32} {a3 : Int32} {q5 : Int32 → Int32 → Int32 → hq_S → Option (Int32 × hq_S)} {s : hq_S} {y : (Int32 × hq_S)} (hd : 1 ≤ d) (e5 : ∀ (a1 : Int32) (a2 : Int32) (a3 : Int32) (s : hq_S), q5 a1 a2 a3 s = some y → hq_R (mm_O xs) d mc_X3_nearest 5 [some (.ref 113), some (.int a1), some (.int a2), some (.int a3)] [] s g (some (.int y.1)) y.2) (h : f_X3_nearest_L5_B n q5 a1 a2 a3 s = some y) : hq_R (mm_O xs) d mc_X3_nearest 5 [some (.ref 113), some (.int a1), some (.int a2), some (.int a3)] [] s g (some (.int y.1)) y.2 := by
  unfold f_X3_nearest_L5_B at h
  refine hq_p 2 7 [some (.ref 113), some (.int a1), some (.int a2), some (.int a3)] [.ref 113, .int a3] (fun n h => rfl) ?_
  refine hq_gf (x := .ref (hq_gr s 113 0)) rfl rfl rfl rfl rfl ?_
  have m1 : hq_isT (hq_gr s 113 0) := hq_ifT h
  rw [if_pos m1] at h
  refine hq_gf (x := .int (hq_gi s (hq_gr s 113 0) 7)) rfl (hq_shT m1) rfl rfl rfl ?_
  by_cases c2 : a3 < (hq_gi s (hq_gr s 113 0) 7)
  · rw [if_pos c2] at h
    refine hq_icF rfl (hq_c_ge_F c2) ?_
    refine hq_p 2 18 [some (.ref 113), some (.int a1), some (.int a2), some (.int a3)] [.ref 113, .int a2] (fun n h => rfl) ?_
    refine hq_gf (x := .ref (hq_gr s 113 1)) rfl rfl rfl rfl rfl ?_
    have m3 : hq_isS (hq_gr s 113 1) := hq_ifT h
    rw [if_pos m3] at h
    refine hq_p 1 22 [some (.ref 113), some (.int a1), some (.int a2), some (.int a3)] [.ref 113, .ref (hq_gr s 113 1), .int a2] (fun n h => rfl) ?_
    refine hq_gf (x := .ref (hq_gr s 113 2)) rfl rfl rfl rfl rfl ?_
    have m4 : hq_isN (hq_gr s 113 2) := hq_ifT h
    rw [if_pos m4] at h
    refine hq_gf (x := .ref ((hq_gr s 113 2) + 2)) rfl (hq_shN m4) rfl rfl (hq_fldr (hq_shN_u m4)) ?_
    refine hq_p 1 29 [some (.ref 113), some (.int a1), some (.int a2), some (.int a3)] [.int a3, .ref ((hq_gr s 113 2) + 2), .ref (hq_gr s 113 1), .int a2] (fun n h => rfl) ?_
    obtain ⟨x5, hx5, h⟩ := hq_bind h
    refine hq_iaload rfl (hq_shN_2 m4) List.length_replicate hx5 ?_
    refine hq_p 1 31 [some (.ref 113), some (.int a1), some (.int a2), some (.int a3)] [.int a1, .int x5, .ref (hq_gr s 113 1), .int a2] (fun n h => rfl) ?_
    obtain ⟨y6, hy6, h⟩ := hq_bind h
    refine hq_inv rfl rfl (Nat.le_trans (by decide) hd) rfl rfl (hq_rcv (hq_shS m3) rfl) (f_X8_lanesBetween_run (Nat.le_sub_of_add_le (Nat.le_trans (by decide) hd)) m3 hy6) rfl ?_
    refine hq_math rfl rfl rfl (Nat.le_trans (by decide) hd) ?_
    refine hq_p 3 5 [some (.ref 113), some (.int a1), some (.int (hq_min a2 y6.1)), some (.int (a3 + (1 : Int32)))] [] (fun n h => rfl) ?_
    exact e5 a1 (hq_min a2 y6.1) (a3 + (1 : Int32)) y6.2 h
  · rw [if_neg c2] at h
    refine hq_icT rfl (hq_c_ge_T c2) ?_
    refine hq_p 1 45 [some (.ref 113), some (.int a1), some (.int a2), some (.int a3)] [.int a2] (fun n h => rfl) ?_
    have h := Option.some.inj h
    subst h
    exact ⟨1, rfl⟩
theorem f_X3_nearest_L5_run {xs : List Int32} {n m d g : Nat} {a1 : Int32} {a2 : Int32} {a3 : Int32} {s : hq_S} {y : (Int32 × hq_S)} (hd : 1 ≤ d) (h : f_X3_nearest_L5 n m a1 a2 a3 s = some y) : hq_R (mm_O xs) d mc_X3_nearest 5 [some (.ref 113), some (.int a1), some (.int a2), some (.int a3)] [] s g (some (.int y.1)) y.2 := by
  induction m generalizing a1 a2 a3 s with
  | zero => cases h
  | succ m ih => exact f_X3_nearest_L5_Brun (n := n) hd (fun a1 a2 a3 s h => ih h) h
def f_X3_nearest (n : Nat) (a1 : Int32) (s : hq_S) : Option (Int32 × hq_S) := f_X3_nearest_L5 n n a1 (99 : Int32) (0 : Int32) s
theorem f_X3_nearest_run {xs : List Int32} {n d g : Nat} {a1 : Int32} {s : hq_S} {y : (Int32 × hq_S)} (hd : 1 ≤ d) (h : f_X3_nearest n a1 s = some y) : hq_R (mm_O xs) d mc_X3_nearest 0 [some (.ref 113), some (.int a1), none, none] [] s g (some (.int y.1)) y.2 := by
  unfold f_X3_nearest at h
  refine hq_bip (99 : Int32) rfl (by decide) ?_
  refine hq_p 3 5 [some (.ref 113), some (.int a1), some (.int (99 : Int32)), some (.int (0 : Int32))] [] (fun n h => rfl) ?_
  exact f_X3_nearest_L5_run hd h
def f_X4_joined_J332 (n : Nat) (a0 : Int32) (j1 : Int64) (j3 : Int64) (s : hq_S) : Option (Int64 × hq_S) := some ((1 : Int64), s)
theorem f_X4_joined_J332_run {xs : List Int32} {n d g : Nat} {a0 : Int32} {j1 : Int64} {j3 : Int64} {s : hq_S} {y : (Int64 × hq_S)} (hd : 0 ≤ d) (h : f_X4_joined_J332 n a0 j1 j3 s = some y) : hq_R (mm_O xs) d mc_X4_joined 332 [some (.int a0), some (.long j1), none, some (.long j3), none] [] s g (some (.long y.1)) y.2 := by
  unfold f_X4_joined_J332 at h
  refine hq_p 2 337 [some (.int a0), some (.long j1), none, some (.long j3), none] [.long (1 : Int64)] (fun n h => rfl) ?_
  have h := Option.some.inj h
  subst h
  exact ⟨1, rfl⟩
def f_X4_joined_J210 (n : Nat) (a0 : Int32) (j1 : Int64) (j3 : Int64) (s : hq_S) : Option (Int64 × hq_S) := some ((j1 * j3), s)
theorem f_X4_joined_J210_run {xs : List Int32} {n d g : Nat} {a0 : Int32} {j1 : Int64} {j3 : Int64} {s : hq_S} {y : (Int64 × hq_S)} (hd : 0 ≤ d) (h : f_X4_joined_J210 n a0 j1 j3 s = some y) : hq_R (mm_O xs) d mc_X4_joined 210 [some (.int a0), some (.long j1), none, some (.long j3), none] [] s g (some (.long y.1)) y.2 := by
  unfold f_X4_joined_J210 at h
  refine hq_p 3 213 [some (.int a0), some (.long j1), none, some (.long j3), none] [.long (j1 * j3)] (fun n h => rfl) ?_
  have h := Option.some.inj h
  subst h
  exact ⟨1, rfl⟩
def f_X4_joined_J128 (n : Nat) (a0 : Int32) (j1 : Int64) (j3 : Int64) (s : hq_S) : Option (Int64 × hq_S) := some ((-9223372036854775808 : Int64), s)
theorem f_X4_joined_J128_run {xs : List Int32} {n d g : Nat} {a0 : Int32} {j1 : Int64} {j3 : Int64} {s : hq_S} {y : (Int64 × hq_S)} (hd : 0 ≤ d) (h : f_X4_joined_J128 n a0 j1 j3 s = some y) : hq_R (mm_O xs) d mc_X4_joined 128 [some (.int a0), some (.long j1), none, some (.long j3), none] [] s g (some (.long y.1)) y.2 := by
  unfold f_X4_joined_J128 at h
  refine hq_lc2 (-9223372036854775808 : Int64) rfl (by decide) ?_
  refine hq_p 1 137 [some (.int a0), some (.long j1), none, some (.long j3), none] [.long (-9223372036854775808 : Int64)] (fun n h => rfl) ?_
  have h := Option.some.inj h
  subst h
  exact ⟨1, rfl⟩
def f_X4_joined_J158 (n : Nat) (a0 : Int32) (j1 : Int64) (j3 : Int64) (s : hq_S) : Option (Int64 × hq_S) := some ((-9223372036854775808 : Int64), s)
theorem f_X4_joined_J158_run {xs : List Int32} {n d g : Nat} {a0 : Int32} {j1 : Int64} {j3 : Int64} {s : hq_S} {y : (Int64 × hq_S)} (hd : 0 ≤ d) (h : f_X4_joined_J158 n a0 j1 j3 s = some y) : hq_R (mm_O xs) d mc_X4_joined 158 [some (.int a0), some (.long j1), none, some (.long j3), none] [] s g (some (.long y.1)) y.2 := by
  unfold f_X4_joined_J158 at h
  refine hq_lc2 (-9223372036854775808 : Int64) rfl (by decide) ?_
  refine hq_p 1 167 [some (.int a0), some (.long j1), none, some (.long j3), none] [.long (-9223372036854775808 : Int64)] (fun n h => rfl) ?_
  have h := Option.some.inj h
  subst h
  exact ⟨1, rfl⟩
def f_X4_joined (n : Nat) (a0 : Int32) (j1 : Int64) (j3 : Int64) (s : hq_S) : Option (Int64 × hq_S) := if a0 = (19 : Int32) then if (lg_cmp j1 (0 : Int64)) = 0 then some ((0 : Int64), s) else if (lg_cmp j3 (0 : Int64)) = 0 then some ((0 : Int64), s) else some ((1 : Int64), s) else if a0 = (20 : Int32) then if (lg_cmp j1 (0 : Int64)) = 0 then if (lg_cmp j3 (0 : Int64)) = 0 then some ((0 : Int64), s) else f_X4_joined_J332 n a0 j1 j3 s else f_X4_joined_J332 n a0 j1 j3 s else if a0 = (42 : Int32) then if (lg_cmp j3 (0 : Int64)) = 0 then f_X4_joined_J210 n a0 j1 j3 s else (if (lg_cmp j3 (0 : Int64)) < 0 then some (-j3) else some j3).bind fun z9 => (hq_ldiv (1000000000000 : Int64) z9).bind fun x11 => (if (lg_cmp j1 (0 : Int64)) < 0 then some (-j1) else some j1).bind fun z12 => if (lg_cmp x11 z12) < 0 then some ((-9223372036854775808 : Int64), s) else f_X4_joined_J210 n a0 j1 j3 s else if a0 = (43 : Int32) then if 0 < (lg_cmp (j1 + j3) (1000000000000 : Int64)) then f_X4_joined_J128 n a0 j1 j3 s else if (lg_cmp (j1 + j3) (-1000000000000 : Int64)) < 0 then f_X4_joined_J128 n a0 j1 j3 s else some ((j1 + j3), s) else if a0 = (45 : Int32) then if 0 < (lg_cmp (j1 - j3) (1000000000000 : Int64)) then f_X4_joined_J158 n a0 j1 j3 s else if (lg_cmp (j1 - j3) (-1000000000000 : Int64)) < 0 then f_X4_joined_J158 n a0 j1 j3 s else some ((j1 - j3), s) else if a0 = (47 : Int32) then if (lg_cmp j3 (0 : Int64)) = 0 then some ((-9223372036854775808 : Int64), s) else (hq_ldiv j1 j3).bind fun x23 => some (x23, s) else if a0 = (60 : Int32) then if (lg_cmp j1 j3) < 0 then some ((1 : Int64), s) else some ((0 : Int64), s) else if a0 = (61 : Int32) then if (lg_cmp j1 j3) = 0 then some ((1 : Int64), s) else some ((0 : Int64), s) else if a0 = (62 : Int32) then if 0 < (lg_cmp j1 j3) then some ((1 : Int64), s) else some ((0 : Int64), s) else if a0 = (256 : Int32) then if 0 < (lg_cmp j1 j3) then some ((0 : Int64), s) else some ((1 : Int64), s) else if a0 = (257 : Int32) then if (lg_cmp j1 j3) = 0 then some ((0 : Int64), s) else some ((1 : Int64), s) else if a0 = (258 : Int32) then if (lg_cmp j1 j3) < 0 then some ((0 : Int64), s) else some ((1 : Int64), s) else some ((-9223372036854775808 : Int64), s)
theorem f_X4_joined_run {xs : List Int32} {n d g : Nat} {a0 : Int32} {j1 : Int64} {j3 : Int64} {s : hq_S} {y : (Int64 × hq_S)} (hd : 0 ≤ d) (h : f_X4_joined n a0 j1 j3 s = some y) : hq_R (mm_O xs) d mc_X4_joined 0 [some (.int a0), some (.long j1), none, some (.long j3), none] [] s g (some (.long y.1)) y.2 := by
  unfold f_X4_joined at h
  refine hq_p 1 1 [some (.int a0), some (.long j1), none, some (.long j3), none] [.int a0] (fun n h => rfl) ?_
  by_cases c1 : a0 = (19 : Int32)
  · rw [if_pos c1] at h
    refine hq_lsw rfl (show _ = some 302 from by rw [c1]; decide) ?_
    refine hq_p 3 305 [some (.int a0), some (.long j1), none, some (.long j3), none] [.int (lg_cmp j1 (0 : Int64))] (fun n h => rfl) ?_
    by_cases c2 : (lg_cmp j1 (0 : Int64)) = 0
    · rw [if_pos c2] at h
      refine hq_izT rfl (hq_c_eq_T c2) ?_
      refine hq_p 1 319 [some (.int a0), some (.long j1), none, some (.long j3), none] [.long (0 : Int64)] (fun n h => rfl) ?_
      have h := Option.some.inj h
      subst h
      exact ⟨1, rfl⟩
    · rw [if_neg c2] at h
      refine hq_izF rfl (hq_c_eq_F c2) ?_
      refine hq_p 3 311 [some (.int a0), some (.long j1), none, some (.long j3), none] [.int (lg_cmp j3 (0 : Int64))] (fun n h => rfl) ?_
      by_cases c3 : (lg_cmp j3 (0 : Int64)) = 0
      · rw [if_pos c3] at h
        refine hq_izT rfl (hq_c_eq_T c3) ?_
        refine hq_p 1 319 [some (.int a0), some (.long j1), none, some (.long j3), none] [.long (0 : Int64)] (fun n h => rfl) ?_
        have h := Option.some.inj h
        subst h
        exact ⟨1, rfl⟩
      · rw [if_neg c3] at h
        refine hq_izF rfl (hq_c_eq_F c3) ?_
        refine hq_p 2 319 [some (.int a0), some (.long j1), none, some (.long j3), none] [.long (1 : Int64)] (fun n h => rfl) ?_
        have h := Option.some.inj h
        subst h
        exact ⟨1, rfl⟩
  rw [if_neg c1] at h
  by_cases c4 : a0 = (20 : Int32)
  · rw [if_pos c4] at h
    refine hq_lsw rfl (show _ = some 320 from by rw [c4]; decide) ?_
    refine hq_p 3 323 [some (.int a0), some (.long j1), none, some (.long j3), none] [.int (lg_cmp j1 (0 : Int64))] (fun n h => rfl) ?_
    by_cases c5 : (lg_cmp j1 (0 : Int64)) = 0
    · rw [if_pos c5] at h
      refine hq_izF rfl (hq_c_ne_F c5) ?_
      refine hq_p 3 329 [some (.int a0), some (.long j1), none, some (.long j3), none] [.int (lg_cmp j3 (0 : Int64))] (fun n h => rfl) ?_
      by_cases c6 : (lg_cmp j3 (0 : Int64)) = 0
      · rw [if_pos c6] at h
        refine hq_izT rfl (hq_c_eq_T c6) ?_
        refine hq_p 1 337 [some (.int a0), some (.long j1), none, some (.long j3), none] [.long (0 : Int64)] (fun n h => rfl) ?_
        have h := Option.some.inj h
        subst h
        exact ⟨1, rfl⟩
      · rw [if_neg c6] at h
        refine hq_izF rfl (hq_c_eq_F c6) ?_
        exact f_X4_joined_J332_run hd h
    · rw [if_neg c5] at h
      refine hq_izT rfl (hq_c_ne_T c5) ?_
      exact f_X4_joined_J332_run hd h
  rw [if_neg c4] at h
  by_cases c7 : a0 = (42 : Int32)
  · rw [if_pos c7] at h
    refine hq_lsw rfl (show _ = some 168 from by rw [c7]; decide) ?_
    refine hq_p 3 171 [some (.int a0), some (.long j1), none, some (.long j3), none] [.int (lg_cmp j3 (0 : Int64))] (fun n h => rfl) ?_
    by_cases c8 : (lg_cmp j3 (0 : Int64)) = 0
    · rw [if_pos c8] at h
      refine hq_izT rfl (hq_c_eq_T c8) ?_
      exact f_X4_joined_J210_run hd h
    · rw [if_neg c8] at h
      refine hq_izF rfl (hq_c_eq_F c8) ?_
      refine hq_lc2 (1000000000000 : Int64) rfl (by decide) ?_
      refine hq_p 3 180 [some (.int a0), some (.long j1), none, some (.long j3), none] [.int (lg_cmp j3 (0 : Int64)), .long (1000000000000 : Int64)] (fun n h => rfl) ?_
      obtain ⟨z9, hz9, h⟩ := hq_bind h
      suffices hT : hq_R (mm_O xs) d mc_X4_joined 189 [some (.int a0), some (.long j1), none, some (.long j3), none] [.long z9, .long (1000000000000 : Int64)] s g (some (.long y.1)) y.2 from by
        clear h
        have h := hz9
        by_cases c10 : (lg_cmp j3 (0 : Int64)) < 0
        · rw [if_pos c10] at h
          refine hq_izF rfl (hq_c_ge_F c10) ?_
          refine hq_p 3 189 [some (.int a0), some (.long j1), none, some (.long j3), none] [.long (-j3), .long (1000000000000 : Int64)] (fun n h => rfl) ?_
          cases h
          exact hT
        · rw [if_neg c10] at h
          refine hq_izT rfl (hq_c_ge_T c10) ?_
          refine hq_p 1 189 [some (.int a0), some (.long j1), none, some (.long j3), none] [.long j3, .long (1000000000000 : Int64)] (fun n h => rfl) ?_
          cases h
          exact hT
      obtain ⟨x11, hx11, h⟩ := hq_bind h
      refine hq_ldiv_ rfl hx11 ?_
      refine hq_p 3 193 [some (.int a0), some (.long j1), none, some (.long j3), none] [.int (lg_cmp j1 (0 : Int64)), .long x11] (fun n h => rfl) ?_
      obtain ⟨z12, hz12, h⟩ := hq_bind h
      suffices hT : hq_R (mm_O xs) d mc_X4_joined 202 [some (.int a0), some (.long j1), none, some (.long j3), none] [.long z12, .long x11] s g (some (.long y.1)) y.2 from by
        clear h
        have h := hz12
        by_cases c13 : (lg_cmp j1 (0 : Int64)) < 0
        · rw [if_pos c13] at h
          refine hq_izF rfl (hq_c_ge_F c13) ?_
          refine hq_p 3 202 [some (.int a0), some (.long j1), none, some (.long j3), none] [.long (-j1), .long x11] (fun n h => rfl) ?_
          cases h
          exact hT
        · rw [if_neg c13] at h
          refine hq_izT rfl (hq_c_ge_T c13) ?_
          refine hq_p 1 202 [some (.int a0), some (.long j1), none, some (.long j3), none] [.long j1, .long x11] (fun n h => rfl) ?_
          cases h
          exact hT
      refine hq_p 1 203 [some (.int a0), some (.long j1), none, some (.long j3), none] [.int (lg_cmp x11 z12)] (fun n h => rfl) ?_
      by_cases c14 : (lg_cmp x11 z12) < 0
      · rw [if_pos c14] at h
        refine hq_izF rfl (hq_c_ge_F c14) ?_
        refine hq_lc2 (-9223372036854775808 : Int64) rfl (by decide) ?_
        have h := Option.some.inj h
        subst h
        exact ⟨1, rfl⟩
      · rw [if_neg c14] at h
        refine hq_izT rfl (hq_c_ge_T c14) ?_
        exact f_X4_joined_J210_run hd h
  rw [if_neg c7] at h
  by_cases c15 : a0 = (43 : Int32)
  · rw [if_pos c15] at h
    refine hq_lsw rfl (show _ = some 108 from by rw [c15]; decide) ?_
    refine hq_p 3 111 [some (.int a0), some (.long j1), none, some (.long j3), none] [.long (j1 + j3)] (fun n h => rfl) ?_
    refine hq_lc2 (1000000000000 : Int64) rfl (by decide) ?_
    refine hq_p 1 115 [some (.int a0), some (.long j1), none, some (.long j3), none] [.int (lg_cmp (j1 + j3) (1000000000000 : Int64))] (fun n h => rfl) ?_
    by_cases c16 : 0 < (lg_cmp (j1 + j3) (1000000000000 : Int64))
    · rw [if_pos c16] at h
      refine hq_izT rfl (hq_c_gt_T c16) ?_
      exact f_X4_joined_J128_run hd h
    · rw [if_neg c16] at h
      refine hq_izF rfl (hq_c_gt_F c16) ?_
      refine hq_p 3 121 [some (.int a0), some (.long j1), none, some (.long j3), none] [.long (j1 + j3)] (fun n h => rfl) ?_
      refine hq_lc2 (-1000000000000 : Int64) rfl (by decide) ?_
      refine hq_p 1 125 [some (.int a0), some (.long j1), none, some (.long j3), none] [.int (lg_cmp (j1 + j3) (-1000000000000 : Int64))] (fun n h => rfl) ?_
      by_cases c17 : (lg_cmp (j1 + j3) (-1000000000000 : Int64)) < 0
      · rw [if_pos c17] at h
        refine hq_izF rfl (hq_c_ge_F c17) ?_
        exact f_X4_joined_J128_run hd h
      · rw [if_neg c17] at h
        refine hq_izT rfl (hq_c_ge_T c17) ?_
        refine hq_p 3 137 [some (.int a0), some (.long j1), none, some (.long j3), none] [.long (j1 + j3)] (fun n h => rfl) ?_
        have h := Option.some.inj h
        subst h
        exact ⟨1, rfl⟩
  rw [if_neg c15] at h
  by_cases c18 : a0 = (45 : Int32)
  · rw [if_pos c18] at h
    refine hq_lsw rfl (show _ = some 138 from by rw [c18]; decide) ?_
    refine hq_p 3 141 [some (.int a0), some (.long j1), none, some (.long j3), none] [.long (j1 - j3)] (fun n h => rfl) ?_
    refine hq_lc2 (1000000000000 : Int64) rfl (by decide) ?_
    refine hq_p 1 145 [some (.int a0), some (.long j1), none, some (.long j3), none] [.int (lg_cmp (j1 - j3) (1000000000000 : Int64))] (fun n h => rfl) ?_
    by_cases c19 : 0 < (lg_cmp (j1 - j3) (1000000000000 : Int64))
    · rw [if_pos c19] at h
      refine hq_izT rfl (hq_c_gt_T c19) ?_
      exact f_X4_joined_J158_run hd h
    · rw [if_neg c19] at h
      refine hq_izF rfl (hq_c_gt_F c19) ?_
      refine hq_p 3 151 [some (.int a0), some (.long j1), none, some (.long j3), none] [.long (j1 - j3)] (fun n h => rfl) ?_
      refine hq_lc2 (-1000000000000 : Int64) rfl (by decide) ?_
      refine hq_p 1 155 [some (.int a0), some (.long j1), none, some (.long j3), none] [.int (lg_cmp (j1 - j3) (-1000000000000 : Int64))] (fun n h => rfl) ?_
      by_cases c20 : (lg_cmp (j1 - j3) (-1000000000000 : Int64)) < 0
      · rw [if_pos c20] at h
        refine hq_izF rfl (hq_c_ge_F c20) ?_
        exact f_X4_joined_J158_run hd h
      · rw [if_neg c20] at h
        refine hq_izT rfl (hq_c_ge_T c20) ?_
        refine hq_p 3 167 [some (.int a0), some (.long j1), none, some (.long j3), none] [.long (j1 - j3)] (fun n h => rfl) ?_
        have h := Option.some.inj h
        subst h
        exact ⟨1, rfl⟩
  rw [if_neg c18] at h
  by_cases c21 : a0 = (47 : Int32)
  · rw [if_pos c21] at h
    refine hq_lsw rfl (show _ = some 214 from by rw [c21]; decide) ?_
    refine hq_p 3 217 [some (.int a0), some (.long j1), none, some (.long j3), none] [.int (lg_cmp j3 (0 : Int64))] (fun n h => rfl) ?_
    by_cases c22 : (lg_cmp j3 (0 : Int64)) = 0
    · rw [if_pos c22] at h
      refine hq_izF rfl (hq_c_ne_F c22) ?_
      refine hq_lc2 (-9223372036854775808 : Int64) rfl (by decide) ?_
      refine hq_p 1 229 [some (.int a0), some (.long j1), none, some (.long j3), none] [.long (-9223372036854775808 : Int64)] (fun n h => rfl) ?_
      have h := Option.some.inj h
      subst h
      exact ⟨1, rfl⟩
    · rw [if_neg c22] at h
      refine hq_izT rfl (hq_c_ne_T c22) ?_
      refine hq_p 2 228 [some (.int a0), some (.long j1), none, some (.long j3), none] [.long j3, .long j1] (fun n h => rfl) ?_
      obtain ⟨x23, hx23, h⟩ := hq_bind h
      refine hq_ldiv_ rfl hx23 ?_
      have h := Option.some.inj h
      subst h
      exact ⟨1, rfl⟩
  rw [if_neg c21] at h
  by_cases c24 : a0 = (60 : Int32)
  · rw [if_pos c24] at h
    refine hq_lsw rfl (show _ = some 230 from by rw [c24]; decide) ?_
    refine hq_p 3 233 [some (.int a0), some (.long j1), none, some (.long j3), none] [.int (lg_cmp j1 j3)] (fun n h => rfl) ?_
    by_cases c25 : (lg_cmp j1 j3) < 0
    · rw [if_pos c25] at h
      refine hq_izF rfl (hq_c_ge_F c25) ?_
      refine hq_p 2 241 [some (.int a0), some (.long j1), none, some (.long j3), none] [.long (1 : Int64)] (fun n h => rfl) ?_
      have h := Option.some.inj h
      subst h
      exact ⟨1, rfl⟩
    · rw [if_neg c25] at h
      refine hq_izT rfl (hq_c_ge_T c25) ?_
      refine hq_p 1 241 [some (.int a0), some (.long j1), none, some (.long j3), none] [.long (0 : Int64)] (fun n h => rfl) ?_
      have h := Option.some.inj h
      subst h
      exact ⟨1, rfl⟩
  rw [if_neg c24] at h
  by_cases c26 : a0 = (61 : Int32)
  · rw [if_pos c26] at h
    refine hq_lsw rfl (show _ = some 254 from by rw [c26]; decide) ?_
    refine hq_p 3 257 [some (.int a0), some (.long j1), none, some (.long j3), none] [.int (lg_cmp j1 j3)] (fun n h => rfl) ?_
    by_cases c27 : (lg_cmp j1 j3) = 0
    · rw [if_pos c27] at h
      refine hq_izF rfl (hq_c_ne_F c27) ?_
      refine hq_p 2 265 [some (.int a0), some (.long j1), none, some (.long j3), none] [.long (1 : Int64)] (fun n h => rfl) ?_
      have h := Option.some.inj h
      subst h
      exact ⟨1, rfl⟩
    · rw [if_neg c27] at h
      refine hq_izT rfl (hq_c_ne_T c27) ?_
      refine hq_p 1 265 [some (.int a0), some (.long j1), none, some (.long j3), none] [.long (0 : Int64)] (fun n h => rfl) ?_
      have h := Option.some.inj h
      subst h
      exact ⟨1, rfl⟩
  rw [if_neg c26] at h
  by_cases c28 : a0 = (62 : Int32)
  · rw [if_pos c28] at h
    refine hq_lsw rfl (show _ = some 290 from by rw [c28]; decide) ?_
    refine hq_p 3 293 [some (.int a0), some (.long j1), none, some (.long j3), none] [.int (lg_cmp j1 j3)] (fun n h => rfl) ?_
    by_cases c29 : 0 < (lg_cmp j1 j3)
    · rw [if_pos c29] at h
      refine hq_izF rfl (hq_c_le_F c29) ?_
      refine hq_p 2 301 [some (.int a0), some (.long j1), none, some (.long j3), none] [.long (1 : Int64)] (fun n h => rfl) ?_
      have h := Option.some.inj h
      subst h
      exact ⟨1, rfl⟩
    · rw [if_neg c29] at h
      refine hq_izT rfl (hq_c_le_T c29) ?_
      refine hq_p 1 301 [some (.int a0), some (.long j1), none, some (.long j3), none] [.long (0 : Int64)] (fun n h => rfl) ?_
      have h := Option.some.inj h
      subst h
      exact ⟨1, rfl⟩
  rw [if_neg c28] at h
  by_cases c30 : a0 = (256 : Int32)
  · rw [if_pos c30] at h
    refine hq_lsw rfl (show _ = some 242 from by rw [c30]; decide) ?_
    refine hq_p 3 245 [some (.int a0), some (.long j1), none, some (.long j3), none] [.int (lg_cmp j1 j3)] (fun n h => rfl) ?_
    by_cases c31 : 0 < (lg_cmp j1 j3)
    · rw [if_pos c31] at h
      refine hq_izT rfl (hq_c_gt_T c31) ?_
      refine hq_p 1 253 [some (.int a0), some (.long j1), none, some (.long j3), none] [.long (0 : Int64)] (fun n h => rfl) ?_
      have h := Option.some.inj h
      subst h
      exact ⟨1, rfl⟩
    · rw [if_neg c31] at h
      refine hq_izF rfl (hq_c_gt_F c31) ?_
      refine hq_p 2 253 [some (.int a0), some (.long j1), none, some (.long j3), none] [.long (1 : Int64)] (fun n h => rfl) ?_
      have h := Option.some.inj h
      subst h
      exact ⟨1, rfl⟩
  rw [if_neg c30] at h
  by_cases c32 : a0 = (257 : Int32)
  · rw [if_pos c32] at h
    refine hq_lsw rfl (show _ = some 266 from by rw [c32]; decide) ?_
    refine hq_p 3 269 [some (.int a0), some (.long j1), none, some (.long j3), none] [.int (lg_cmp j1 j3)] (fun n h => rfl) ?_
    by_cases c33 : (lg_cmp j1 j3) = 0
    · rw [if_pos c33] at h
      refine hq_izT rfl (hq_c_eq_T c33) ?_
      refine hq_p 1 277 [some (.int a0), some (.long j1), none, some (.long j3), none] [.long (0 : Int64)] (fun n h => rfl) ?_
      have h := Option.some.inj h
      subst h
      exact ⟨1, rfl⟩
    · rw [if_neg c33] at h
      refine hq_izF rfl (hq_c_eq_F c33) ?_
      refine hq_p 2 277 [some (.int a0), some (.long j1), none, some (.long j3), none] [.long (1 : Int64)] (fun n h => rfl) ?_
      have h := Option.some.inj h
      subst h
      exact ⟨1, rfl⟩
  rw [if_neg c32] at h
  by_cases c34 : a0 = (258 : Int32)
  · rw [if_pos c34] at h
    refine hq_lsw rfl (show _ = some 278 from by rw [c34]; decide) ?_
    refine hq_p 3 281 [some (.int a0), some (.long j1), none, some (.long j3), none] [.int (lg_cmp j1 j3)] (fun n h => rfl) ?_
    by_cases c35 : (lg_cmp j1 j3) < 0
    · rw [if_pos c35] at h
      refine hq_izT rfl (hq_c_lt_T c35) ?_
      refine hq_p 1 289 [some (.int a0), some (.long j1), none, some (.long j3), none] [.long (0 : Int64)] (fun n h => rfl) ?_
      have h := Option.some.inj h
      subst h
      exact ⟨1, rfl⟩
    · rw [if_neg c35] at h
      refine hq_izF rfl (hq_c_lt_F c35) ?_
      refine hq_p 2 289 [some (.int a0), some (.long j1), none, some (.long j3), none] [.long (1 : Int64)] (fun n h => rfl) ?_
      have h := Option.some.inj h
      subst h
      exact ⟨1, rfl⟩
  rw [if_neg c34] at h
  refine hq_lsw rfl (hq_lsw_d [(19 : Int32), (20 : Int32), (42 : Int32), (43 : Int32), (45 : Int32), (47 : Int32), (60 : Int32), (61 : Int32), (62 : Int32), (256 : Int32), (257 : Int32), (258 : Int32)] (by decide) rfl ⟨c1, c4, c7, c15, c18, c21, c24, c26, c28, c30, c32, c34, trivial⟩) ?_
  refine hq_lc2 (-9223372036854775808 : Int64) rfl (by decide) ?_
  have h := Option.some.inj h
  subst h
  exact ⟨1, rfl⟩
def f_X4_valueOf_J171 (n : Nat) (q10 : Nat → Int32 → Nat → Int32 → Int32 → hq_S → Option (Int64 × hq_S)) (k0 : Nat) (a1 : Int32) (k2 : Nat) (a3 : Int32) (a4 : Int32) (a5 : Int32) (s : hq_S) : Option (Int64 × hq_S) := q10 k0 a1 k2 a3 (a4 + (1 : Int32)) s
theorem f_X4_valueOf_J171_run {xs : List Int32} {n d g : Nat} {k0 : Nat} {a1 : Int32} {k2 : Nat} {a3 : Int32} {a4 : Int32} {a5 : Int32} {q10 : Nat → Int32 → Nat → Int32 → Int32 → hq_S → Option (Int64 × hq_S)} {s : hq_S} {y : (Int64 × hq_S)} (hd : 1 ≤ d) (e10 : ∀ (k0 : Nat) (a1 : Int32) (k2 : Nat) (a3 : Int32) (a4 : Int32) (o5 : Option Value) (s : hq_S) (m0_ : hq_isL k0), q10 k0 a1 k2 a3 a4 s = some y → hq_R (mm_O xs) d mc_X4_valueOf 10 [some (.ref k0), some (.int a1), some (.ref k2), some (.int a3), some (.int a4), o5] [] s g (some (.long y.1)) y.2) (m0_ : hq_isL k0) (h : f_X4_valueOf_J171 n q10 k0 a1 k2 a3 a4 a5 s = some y) : hq_R (mm_O xs) d mc_X4_valueOf 171 [some (.ref k0), some (.int a1), some (.ref k2), some (.int a3), some (.int a4), some (.int a5)] [] s g (some (.long y.1)) y.2 := by
  unfold f_X4_valueOf_J171 at h
  refine hq_p 2 10 [some (.ref k0), some (.int a1), some (.ref k2), some (.int a3), some (.int (a4 + (1 : Int32))), some (.int a5)] [] (fun n h => rfl) ?_
  exact e10 k0 a1 k2 a3 (a4 + (1 : Int32)) _ s m0_ h
def f_X4_valueOf_J113 (n : Nat) (q10 : Nat → Int32 → Nat → Int32 → Int32 → hq_S → Option (Int64 × hq_S)) (k0 : Nat) (a1 : Int32) (k2 : Nat) (a3 : Int32) (a4 : Int32) (a5 : Int32) (s : hq_S) : Option (Int64 × hq_S) := if (1 : Int32) < a3 then (hq_ldj s (k0 + 4) 64 ((a3 + Int32.ofInt (-1)) - (1 : Int32))).bind fun x10 => (hq_ldj s (k0 + 4) 64 (a3 + Int32.ofInt (-1))).bind fun x11 => (f_X4_joined n (a5 - (20000 : Int32)) x10 x11 s).bind fun y12 => (hq_stj y12.2 (k0 + 4) 64 ((a3 + Int32.ofInt (-1)) - (1 : Int32)) y12.1).bind fun s13 => (hq_ldj s13 (k0 + 4) 64 ((a3 + Int32.ofInt (-1)) - (1 : Int32))).bind fun x14 => if (lg_cmp x14 (-9223372036854775808 : Int64)) = 0 then some ((-9223372036854775808 : Int64), s13) else f_X4_valueOf_J171 n q10 k0 a1 k2 (a3 + Int32.ofInt (-1)) a4 a5 s13 else f_X4_valueOf_J171 n q10 k0 a1 k2 a3 a4 a5 s
theorem f_X4_valueOf_J113_run {xs : List Int32} {n d g : Nat} {k0 : Nat} {a1 : Int32} {k2 : Nat} {a3 : Int32} {a4 : Int32} {a5 : Int32} {q10 : Nat → Int32 → Nat → Int32 → Int32 → hq_S → Option (Int64 × hq_S)} {s : hq_S} {y : (Int64 × hq_S)} (hd : 1 ≤ d) (e10 : ∀ (k0 : Nat) (a1 : Int32) (k2 : Nat) (a3 : Int32) (a4 : Int32) (o5 : Option Value) (s : hq_S) (m0_ : hq_isL k0), q10 k0 a1 k2 a3 a4 s = some y → hq_R (mm_O xs) d mc_X4_valueOf 10 [some (.ref k0), some (.int a1), some (.ref k2), some (.int a3), some (.int a4), o5] [] s g (some (.long y.1)) y.2) (m0_ : hq_isL k0) (h : f_X4_valueOf_J113 n q10 k0 a1 k2 a3 a4 a5 s = some y) : hq_R (mm_O xs) d mc_X4_valueOf 113 [some (.ref k0), some (.int a1), some (.ref k2), some (.int a3), some (.int a4), some (.int a5)] [] s g (some (.long y.1)) y.2 := by
  unfold f_X4_valueOf_J113 at h
  refine hq_p 2 115 [some (.ref k0), some (.int a1), some (.ref k2), some (.int a3), some (.int a4), some (.int a5)] [.int (1 : Int32), .int a3] (fun n h => rfl) ?_
  by_cases c9 : (1 : Int32) < a3
  · rw [if_pos c9] at h
    refine hq_icF rfl (hq_c_le_F c9) ?_
    refine hq_iinc (a3 + Int32.ofInt (-1)) [some (.ref k0), some (.int a1), some (.ref k2), some (.int (a3 + Int32.ofInt (-1))), some (.int a4), some (.int a5)] rfl rfl rfl rfl ?_
    refine hq_p 1 122 [some (.ref k0), some (.int a1), some (.ref k2), some (.int (a3 + Int32.ofInt (-1))), some (.int a4), some (.int a5)] [.ref k0] (fun n h => rfl) ?_
    refine hq_gf (x := .ref (k0 + 4)) rfl (hq_shL m0_) rfl rfl (hq_fldr (hq_shL_u m0_)) ?_
    refine hq_p 4 130 [some (.ref k0), some (.int a1), some (.ref k2), some (.int (a3 + Int32.ofInt (-1))), some (.int a4), some (.int a5)] [.int a5, .int ((a3 + Int32.ofInt (-1)) - (1 : Int32)), .ref (k0 + 4)] (fun n h => rfl) ?_
    refine hq_sip (20000 : Int32) rfl (by decide) ?_
    refine hq_p 2 135 [some (.ref k0), some (.int a1), some (.ref k2), some (.int (a3 + Int32.ofInt (-1))), some (.int a4), some (.int a5)] [.ref k0, .int (a5 - (20000 : Int32)), .int ((a3 + Int32.ofInt (-1)) - (1 : Int32)), .ref (k0 + 4)] (fun n h => rfl) ?_
    refine hq_gf (x := .ref (k0 + 4)) rfl (hq_shL m0_) rfl rfl (hq_fldr (hq_shL_u m0_)) ?_
    refine hq_p 3 141 [some (.ref k0), some (.int a1), some (.ref k2), some (.int (a3 + Int32.ofInt (-1))), some (.int a4), some (.int a5)] [.int ((a3 + Int32.ofInt (-1)) - (1 : Int32)), .ref (k0 + 4), .int (a5 - (20000 : Int32)), .int ((a3 + Int32.ofInt (-1)) - (1 : Int32)), .ref (k0 + 4)] (fun n h => rfl) ?_
    obtain ⟨x10, hx10, h⟩ := hq_bind h
    refine hq_laload rfl (hq_shL_4 m0_) List.length_replicate hx10 ?_
    refine hq_p 1 143 [some (.ref k0), some (.int a1), some (.ref k2), some (.int (a3 + Int32.ofInt (-1))), some (.int a4), some (.int a5)] [.ref k0, .long x10, .int (a5 - (20000 : Int32)), .int ((a3 + Int32.ofInt (-1)) - (1 : Int32)), .ref (k0 + 4)] (fun n h => rfl) ?_
    refine hq_gf (x := .ref (k0 + 4)) rfl (hq_shL m0_) rfl rfl (hq_fldr (hq_shL_u m0_)) ?_
    refine hq_p 1 147 [some (.ref k0), some (.int a1), some (.ref k2), some (.int (a3 + Int32.ofInt (-1))), some (.int a4), some (.int a5)] [.int (a3 + Int32.ofInt (-1)), .ref (k0 + 4), .long x10, .int (a5 - (20000 : Int32)), .int ((a3 + Int32.ofInt (-1)) - (1 : Int32)), .ref (k0 + 4)] (fun n h => rfl) ?_
    obtain ⟨x11, hx11, h⟩ := hq_bind h
    refine hq_laload rfl (hq_shL_4 m0_) List.length_replicate hx11 ?_
    obtain ⟨y12, hy12, h⟩ := hq_bind h
    refine hq_ist rfl rfl rfl (Nat.le_trans (by decide) hd) rfl (f_X4_joined_run (Nat.le_sub_of_add_le (Nat.le_trans (by decide) hd)) hy12) rfl ?_
    obtain ⟨s13, hs13, h⟩ := hq_bind h
    refine hq_lastore rfl (hq_shL_4 m0_) List.length_replicate hs13 ?_
    refine hq_p 1 153 [some (.ref k0), some (.int a1), some (.ref k2), some (.int (a3 + Int32.ofInt (-1))), some (.int a4), some (.int a5)] [.ref k0] (fun n h => rfl) ?_
    refine hq_gf (x := .ref (k0 + 4)) rfl (hq_shL m0_) rfl rfl (hq_fldr (hq_shL_u m0_)) ?_
    refine hq_p 3 159 [some (.ref k0), some (.int a1), some (.ref k2), some (.int (a3 + Int32.ofInt (-1))), some (.int a4), some (.int a5)] [.int ((a3 + Int32.ofInt (-1)) - (1 : Int32)), .ref (k0 + 4)] (fun n h => rfl) ?_
    obtain ⟨x14, hx14, h⟩ := hq_bind h
    refine hq_laload rfl (hq_shL_4 m0_) List.length_replicate hx14 ?_
    refine hq_lc2 (-9223372036854775808 : Int64) rfl (by decide) ?_
    refine hq_p 1 164 [some (.ref k0), some (.int a1), some (.ref k2), some (.int (a3 + Int32.ofInt (-1))), some (.int a4), some (.int a5)] [.int (lg_cmp x14 (-9223372036854775808 : Int64))] (fun n h => rfl) ?_
    by_cases c15 : (lg_cmp x14 (-9223372036854775808 : Int64)) = 0
    · rw [if_pos c15] at h
      refine hq_izF rfl (hq_c_ne_F c15) ?_
      refine hq_lc2 (-9223372036854775808 : Int64) rfl (by decide) ?_
      have h := Option.some.inj h
      subst h
      exact ⟨1, rfl⟩
    · rw [if_neg c15] at h
      refine hq_izT rfl (hq_c_ne_T c15) ?_
      exact f_X4_valueOf_J171_run hd e10 m0_ h
  · rw [if_neg c9] at h
    refine hq_icT rfl (hq_c_le_T c9) ?_
    exact f_X4_valueOf_J171_run hd e10 m0_ h
def f_X4_valueOf_L10_B (n : Nat) (q10 : Nat → Int32 → Nat → Int32 → Int32 → hq_S → Option (Int64 × hq_S)) (k0 : Nat) (a1 : Int32) (k2 : Nat) (a3 : Int32) (a4 : Int32) (s : hq_S) : Option (Int64 × hq_S) := (hq_ld s (k0 + 3) 3 a1).bind fun x2 => if a4 < x2 then (hq_ld s (k0 + 1) 64 a4).bind fun x6 => if x6 < (20000 : Int32) then (if x6 < (10000 : Int32) then some x6.toInt64 else (hq_ldjA s k2 (x6 - (10000 : Int32))).bind fun x23 => some x23).bind fun z21 => (hq_stj s (k0 + 4) 64 a3 z21).bind fun s24 => f_X4_valueOf_J171 n q10 k0 a1 k2 (a3 + (1 : Int32)) a4 x6 s24 else if x6 = (20021 : Int32) then if 0 < a3 then (hq_ldj s (k0 + 4) 64 (a3 - (1 : Int32))).bind fun x17 => (if (lg_cmp x17 (0 : Int64)) = 0 then some (1 : Int64) else some (0 : Int64)).bind fun z18 => (hq_stj s (k0 + 4) 64 (a3 - (1 : Int32)) z18).bind fun s20 => f_X4_valueOf_J171 n q10 k0 a1 k2 a3 a4 x6 s20 else f_X4_valueOf_J113 n q10 k0 a1 k2 a3 a4 x6 s else f_X4_valueOf_J113 n q10 k0 a1 k2 a3 a4 x6 s else if a3 = (1 : Int32) then (hq_ldj s (k0 + 4) 64 (0 : Int32)).bind fun x5 => some (x5, s) else some ((-9223372036854775808 : Int64), s)
def f_X4_valueOf_L10 (n : Nat) (m : Nat) : Nat → Int32 → Nat → Int32 → Int32 → hq_S → Option (Int64 × hq_S) := Nat.rec (fun _ _ _ _ _ _ => none) (fun _ q => f_X4_valueOf_L10_B n q) m
theorem f_X4_valueOf_L10_Brun {xs : List Int32} {n d g : Nat} {k0 : Nat} {a1 : Int32} {k2 : Nat} {a3 : Int32} {a4 : Int32} {o5 : Option Value} {q10 : Nat → Int32 → Nat → Int32 → Int32 → hq_S → Option (Int64 × hq_S)} {s : hq_S} {y : (Int64 × hq_S)} (hd : 1 ≤ d) (e10 : ∀ (k0 : Nat) (a1 : Int32) (k2 : Nat) (a3 : Int32) (a4 : Int32) (o5 : Option Value) (s : hq_S) (m0_ : hq_isL k0), q10 k0 a1 k2 a3 a4 s = some y → hq_R (mm_O xs) d mc_X4_valueOf 10 [some (.ref k0), some (.int a1), some (.ref k2), some (.int a3), some (.int a4), o5] [] s g (some (.long y.1)) y.2) (m0_ : hq_isL k0) (h : f_X4_valueOf_L10_B n q10 k0 a1 k2 a3 a4 s = some y) : hq_R (mm_O xs) d mc_X4_valueOf 10 [some (.ref k0), some (.int a1), some (.ref k2), some (.int a3), some (.int a4), o5] [] s g (some (.long y.1)) y.2 := by
  unfold f_X4_valueOf_L10_B at h
  refine hq_p 2 13 [some (.ref k0), some (.int a1), some (.ref k2), some (.int a3), some (.int a4), o5] [.ref k0, .int a4] (fun n h => rfl) ?_
  refine hq_gf (x := .ref (k0 + 3)) rfl (hq_shL m0_) rfl rfl (hq_fldr (hq_shL_u m0_)) ?_
  refine hq_p 1 17 [some (.ref k0), some (.int a1), some (.ref k2), some (.int a3), some (.int a4), o5] [.int a1, .ref (k0 + 3), .int a4] (fun n h => rfl) ?_
  obtain ⟨x2, hx2, h⟩ := hq_bind h
  refine hq_iaload rfl (hq_shL_3 m0_) List.length_replicate hx2 ?_
  by_cases c3 : a4 < x2
  · rw [if_pos c3] at h
    refine hq_icF rfl (hq_c_ge_F c3) ?_
    refine hq_p 1 22 [some (.ref k0), some (.int a1), some (.ref k2), some (.int a3), some (.int a4), o5] [.ref k0] (fun n h => rfl) ?_
    refine hq_gf (x := .ref (k0 + 1)) rfl (hq_shL m0_) rfl rfl (hq_fldr (hq_shL_u m0_)) ?_
    refine hq_p 1 27 [some (.ref k0), some (.int a1), some (.ref k2), some (.int a3), some (.int a4), o5] [.int a4, .ref (k0 + 1)] (fun n h => rfl) ?_
    obtain ⟨x6, hx6, h⟩ := hq_bind h
    refine hq_iaload rfl (hq_shL_1 m0_) List.length_replicate hx6 ?_
    refine hq_p 2 32 [some (.ref k0), some (.int a1), some (.ref k2), some (.int a3), some (.int a4), some (.int x6)] [.int x6] (fun n h => rfl) ?_
    refine hq_sip (20000 : Int32) rfl (by decide) ?_
    by_cases c7 : x6 < (20000 : Int32)
    · rw [if_pos c7] at h
      refine hq_icF rfl (hq_c_ge_F c7) ?_
      refine hq_p 1 39 [some (.ref k0), some (.int a1), some (.ref k2), some (.int a3), some (.int a4), some (.int x6)] [.ref k0] (fun n h => rfl) ?_
      refine hq_gf (x := .ref (k0 + 4)) rfl (hq_shL m0_) rfl rfl (hq_fldr (hq_shL_u m0_)) ?_
      refine hq_p 2 45 [some (.ref k0), some (.int a1), some (.ref k2), some (.int a3), some (.int a4), some (.int x6)] [.int x6, .int a3, .ref (k0 + 4)] (fun n h => rfl) ?_
      refine hq_sip (10000 : Int32) rfl (by decide) ?_
      obtain ⟨z21, hz21, h⟩ := hq_bind h
      suffices hT : hq_R (mm_O xs) d mc_X4_valueOf 65 [some (.ref k0), some (.int a1), some (.ref k2), some (.int a3), some (.int a4), some (.int x6)] [.long z21, .int a3, .ref (k0 + 4)] s g (some (.long y.1)) y.2 from by
        clear h
        have h := hz21
        by_cases c22 : x6 < (10000 : Int32)
        · rw [if_pos c22] at h
          refine hq_icF rfl (hq_c_ge_F c22) ?_
          refine hq_p 3 65 [some (.ref k0), some (.int a1), some (.ref k2), some (.int a3), some (.int a4), some (.int x6)] [.long x6.toInt64, .int a3, .ref (k0 + 4)] (fun n h => rfl) ?_
          cases h
          exact hT
        · rw [if_neg c22] at h
          refine hq_icT rfl (hq_c_ge_T c22) ?_
          refine hq_p 2 60 [some (.ref k0), some (.int a1), some (.ref k2), some (.int a3), some (.int a4), some (.int x6)] [.int x6, .ref k2, .int a3, .ref (k0 + 4)] (fun n h => rfl) ?_
          refine hq_sip (10000 : Int32) rfl (by decide) ?_
          refine hq_p 1 64 [some (.ref k0), some (.int a1), some (.ref k2), some (.int a3), some (.int a4), some (.int x6)] [.int (x6 - (10000 : Int32)), .ref k2, .int a3, .ref (k0 + 4)] (fun n h => rfl) ?_
          obtain ⟨x23, hx23, h⟩ := hq_bind h
          refine hq_laloadA rfl hx23 ?_
          cases h
          exact hT
      obtain ⟨s24, hs24, h⟩ := hq_bind h
      refine hq_lastore rfl (hq_shL_4 m0_) List.length_replicate hs24 ?_
      refine hq_p 2 171 [some (.ref k0), some (.int a1), some (.ref k2), some (.int (a3 + (1 : Int32))), some (.int a4), some (.int x6)] [] (fun n h => rfl) ?_
      exact f_X4_valueOf_J171_run hd e10 m0_ h
    · rw [if_neg c7] at h
      refine hq_icT rfl (hq_c_ge_T c7) ?_
      refine hq_p 1 74 [some (.ref k0), some (.int a1), some (.ref k2), some (.int a3), some (.int a4), some (.int x6)] [.int x6] (fun n h => rfl) ?_
      refine hq_sip (20021 : Int32) rfl (by decide) ?_
      by_cases c8 : x6 = (20021 : Int32)
      · rw [if_pos c8] at h
        refine hq_icF rfl (hq_c_ne_F c8) ?_
        refine hq_p 1 81 [some (.ref k0), some (.int a1), some (.ref k2), some (.int a3), some (.int a4), some (.int x6)] [.int a3] (fun n h => rfl) ?_
        by_cases c16 : 0 < a3
        · rw [if_pos c16] at h
          refine hq_izF rfl (hq_c_le_F c16) ?_
          refine hq_p 1 85 [some (.ref k0), some (.int a1), some (.ref k2), some (.int a3), some (.int a4), some (.int x6)] [.ref k0] (fun n h => rfl) ?_
          refine hq_gf (x := .ref (k0 + 4)) rfl (hq_shL m0_) rfl rfl (hq_fldr (hq_shL_u m0_)) ?_
          refine hq_p 4 92 [some (.ref k0), some (.int a1), some (.ref k2), some (.int a3), some (.int a4), some (.int x6)] [.ref k0, .int (a3 - (1 : Int32)), .ref (k0 + 4)] (fun n h => rfl) ?_
          refine hq_gf (x := .ref (k0 + 4)) rfl (hq_shL m0_) rfl rfl (hq_fldr (hq_shL_u m0_)) ?_
          refine hq_p 3 98 [some (.ref k0), some (.int a1), some (.ref k2), some (.int a3), some (.int a4), some (.int x6)] [.int (a3 - (1 : Int32)), .ref (k0 + 4), .int (a3 - (1 : Int32)), .ref (k0 + 4)] (fun n h => rfl) ?_
          obtain ⟨x17, hx17, h⟩ := hq_bind h
          refine hq_laload rfl (hq_shL_4 m0_) List.length_replicate hx17 ?_
          refine hq_p 2 101 [some (.ref k0), some (.int a1), some (.ref k2), some (.int a3), some (.int a4), some (.int x6)] [.int (lg_cmp x17 (0 : Int64)), .int (a3 - (1 : Int32)), .ref (k0 + 4)] (fun n h => rfl) ?_
          obtain ⟨z18, hz18, h⟩ := hq_bind h
          suffices hT : hq_R (mm_O xs) d mc_X4_valueOf 109 [some (.ref k0), some (.int a1), some (.ref k2), some (.int a3), some (.int a4), some (.int x6)] [.long z18, .int (a3 - (1 : Int32)), .ref (k0 + 4)] s g (some (.long y.1)) y.2 from by
            clear h
            have h := hz18
            by_cases c19 : (lg_cmp x17 (0 : Int64)) = 0
            · rw [if_pos c19] at h
              refine hq_izF rfl (hq_c_ne_F c19) ?_
              refine hq_p 2 109 [some (.ref k0), some (.int a1), some (.ref k2), some (.int a3), some (.int a4), some (.int x6)] [.long (1 : Int64), .int (a3 - (1 : Int32)), .ref (k0 + 4)] (fun n h => rfl) ?_
              cases h
              exact hT
            · rw [if_neg c19] at h
              refine hq_izT rfl (hq_c_ne_T c19) ?_
              refine hq_p 1 109 [some (.ref k0), some (.int a1), some (.ref k2), some (.int a3), some (.int a4), some (.int x6)] [.long (0 : Int64), .int (a3 - (1 : Int32)), .ref (k0 + 4)] (fun n h => rfl) ?_
              cases h
              exact hT
          obtain ⟨s20, hs20, h⟩ := hq_bind h
          refine hq_lastore rfl (hq_shL_4 m0_) List.length_replicate hs20 ?_
          refine hq_p 1 171 [some (.ref k0), some (.int a1), some (.ref k2), some (.int a3), some (.int a4), some (.int x6)] [] (fun n h => rfl) ?_
          exact f_X4_valueOf_J171_run hd e10 m0_ h
        · rw [if_neg c16] at h
          refine hq_izT rfl (hq_c_le_T c16) ?_
          exact f_X4_valueOf_J113_run hd e10 m0_ h
      · rw [if_neg c8] at h
        refine hq_icT rfl (hq_c_ne_T c8) ?_
        exact f_X4_valueOf_J113_run hd e10 m0_ h
  · rw [if_neg c3] at h
    refine hq_icT rfl (hq_c_ge_T c3) ?_
    refine hq_p 2 179 [some (.ref k0), some (.int a1), some (.ref k2), some (.int a3), some (.int a4), o5] [.int (1 : Int32), .int a3] (fun n h => rfl) ?_
    by_cases c4 : a3 = (1 : Int32)
    · rw [if_pos c4] at h
      refine hq_icF rfl (hq_c_ne_F c4) ?_
      refine hq_p 1 183 [some (.ref k0), some (.int a1), some (.ref k2), some (.int a3), some (.int a4), o5] [.ref k0] (fun n h => rfl) ?_
      refine hq_gf (x := .ref (k0 + 4)) rfl (hq_shL m0_) rfl rfl (hq_fldr (hq_shL_u m0_)) ?_
      refine hq_p 1 187 [some (.ref k0), some (.int a1), some (.ref k2), some (.int a3), some (.int a4), o5] [.int (0 : Int32), .ref (k0 + 4)] (fun n h => rfl) ?_
      obtain ⟨x5, hx5, h⟩ := hq_bind h
      refine hq_laload rfl (hq_shL_4 m0_) List.length_replicate hx5 ?_
      refine hq_p 1 194 [some (.ref k0), some (.int a1), some (.ref k2), some (.int a3), some (.int a4), o5] [.long x5] (fun n h => rfl) ?_
      have h := Option.some.inj h
      subst h
      exact ⟨1, rfl⟩
    · rw [if_neg c4] at h
      refine hq_icT rfl (hq_c_ne_T c4) ?_
      refine hq_lc2 (-9223372036854775808 : Int64) rfl (by decide) ?_
      have h := Option.some.inj h
      subst h
      exact ⟨1, rfl⟩
theorem f_X4_valueOf_L10_run {xs : List Int32} {n m d g : Nat} {k0 : Nat} {a1 : Int32} {k2 : Nat} {a3 : Int32} {a4 : Int32} {o5 : Option Value} {s : hq_S} {y : (Int64 × hq_S)} (hd : 1 ≤ d) (m0_ : hq_isL k0) (h : f_X4_valueOf_L10 n m k0 a1 k2 a3 a4 s = some y) : hq_R (mm_O xs) d mc_X4_valueOf 10 [some (.ref k0), some (.int a1), some (.ref k2), some (.int a3), some (.int a4), o5] [] s g (some (.long y.1)) y.2 := by
  induction m generalizing k0 a1 k2 a3 a4 o5 s with
  | zero => cases h
  | succ m ih => exact f_X4_valueOf_L10_Brun (n := n) hd (fun k0 a1 k2 a3 a4 o5 s m0_ h => ih m0_ h) m0_ h
def f_X4_valueOf (n : Nat) (k0 : Nat) (a1 : Int32) (k2 : Nat) (s : hq_S) : Option (Int64 × hq_S) := (hq_ld s (k0 + 2) 3 a1).bind fun x1 => f_X4_valueOf_L10 n n k0 a1 k2 (0 : Int32) x1 s
theorem f_X4_valueOf_run {xs : List Int32} {n d g : Nat} {k0 : Nat} {a1 : Int32} {k2 : Nat} {s : hq_S} {y : (Int64 × hq_S)} (hd : 1 ≤ d) (m0_ : hq_isL k0) (h : f_X4_valueOf n k0 a1 k2 s = some y) : hq_R (mm_O xs) d mc_X4_valueOf 0 [some (.ref k0), some (.int a1), some (.ref k2), none, none, none] [] s g (some (.long y.1)) y.2 := by
  unfold f_X4_valueOf at h
  refine hq_p 3 3 [some (.ref k0), some (.int a1), some (.ref k2), some (.int (0 : Int32)), none, none] [.ref k0] (fun n h => rfl) ?_
  refine hq_gf (x := .ref (k0 + 2)) rfl (hq_shL m0_) rfl rfl (hq_fldr (hq_shL_u m0_)) ?_
  refine hq_p 1 7 [some (.ref k0), some (.int a1), some (.ref k2), some (.int (0 : Int32)), none, none] [.int a1, .ref (k0 + 2)] (fun n h => rfl) ?_
  obtain ⟨x1, hx1, h⟩ := hq_bind h
  refine hq_iaload rfl (hq_shL_2 m0_) List.length_replicate hx1 ?_
  refine hq_p 1 10 [some (.ref k0), some (.int a1), some (.ref k2), some (.int (0 : Int32)), some (.int x1), none] [] (fun n h => rfl) ?_
  exact f_X4_valueOf_L10_run hd m0_ h
def f_X3_lawValue_L24_B (n : Nat) (q24 : Int32 → Int32 → Int32 → Int32 → Int32 → hq_S → Option (Int64 × hq_S)) (a1 : Int32) (a2 : Int32) (a3 : Int32) (a4 : Int32) (a5 : Int32) (s : hq_S) : Option (Int64 × hq_S) := if hq_isT (hq_gr s 113 0) then if a5 < (hq_gi s (hq_gr s 113 0) 7) then if hq_isN (hq_gr s 113 2) then (hq_ld s ((hq_gr s 113 2) + 2) 3 a5).bind fun x26 => (if x26 = a3 then some (1 : Int32) else some (0 : Int32)).bind fun z27 => q24 a1 a2 a3 (a4 + z27) (a5 + (1 : Int32)) s else none else if hq_isT (hq_gr s 113 0) then (hq_ld s ((hq_gr s 113 0) + 2) 10 a3).bind fun x7 => (hq_stj s 151 7 (0 : Int32) x7.toInt64).bind fun s8 => (f_X3_nearest n a3 s8).bind fun y9 => (hq_stj y9.2 151 7 (1 : Int32) y9.1.toInt64).bind fun s10 => if hq_isN (hq_gr s10 113 2) then (hq_ld s10 ((hq_gr s10 113 2) + 1) 10 a3).bind fun x12 => (hq_stj s10 151 7 (2 : Int32) x12.toInt64).bind fun s13 => if hq_isN (hq_gr s13 113 2) then (hq_ld s13 ((hq_gr s13 113 2) + 6) 4 a2).bind fun x15 => (hq_stj s13 151 7 (3 : Int32) x15.toInt64).bind fun s16 => if hq_isN (hq_gr s16 113 2) then (hq_ld s16 ((hq_gr s16 113 2) + 7) 4 a2).bind fun x18 => (hq_stj s16 151 7 (4 : Int32) x18.toInt64).bind fun s19 => (hq_stj s19 151 7 (5 : Int32) a4.toInt64).bind fun s20 => if hq_isN (hq_gr s20 113 2) then (hq_stj s20 151 7 (6 : Int32) (hq_gi s20 (hq_gr s20 113 2) 0).toInt64).bind fun s22 => if hq_isT (hq_gr s22 113 0) then (f_X4_valueOf n ((hq_gr s22 113 0) + 9) a1 151 s22).bind fun y24 => some (y24.1, y24.2) else none else none else none else none else none else none else none
def f_X3_lawValue_L24 (n : Nat) (m : Nat) : Int32 → Int32 → Int32 → Int32 → Int32 → hq_S → Option (Int64 × hq_S) := Nat.rec (fun _ _ _ _ _ _ => none) (fun _ q => f_X3_lawValue_L24_B n q) m
theorem f_X3_lawValue_L24_Brun {xs : List Int32} {n d g : Nat} {a1 : Int32} {a2 : Int32} {a3 : Int32} {a4 : Int32} {a5 : Int32} {q24 : Int32 → Int32 → Int32 → Int32 → Int32 → hq_S → Option (Int64 × hq_S)} {s : hq_S} {y : (Int64 × hq_S)} (hd : 2 ≤ d) (e24 : ∀ (a1 : Int32) (a2 : Int32) (a3 : Int32) (a4 : Int32) (a5 : Int32) (s : hq_S), q24 a1 a2 a3 a4 a5 s = some y → hq_R (mm_O xs) d mc_X3_lawValue 24 [some (.ref 113), some (.int a1), some (.int a2), some (.int a3), some (.int a4), some (.int a5)] [] s g (some (.long y.1)) y.2) (h : f_X3_lawValue_L24_B n q24 a1 a2 a3 a4 a5 s = some y) : hq_R (mm_O xs) d mc_X3_lawValue 24 [some (.ref 113), some (.int a1), some (.int a2), some (.int a3), some (.int a4), some (.int a5)] [] s g (some (.long y.1)) y.2 := by
  unfold f_X3_lawValue_L24_B at h
  refine hq_p 2 27 [some (.ref 113), some (.int a1), some (.int a2), some (.int a3), some (.int a4), some (.int a5)] [.ref 113, .int a5] (fun n h => rfl) ?_
  refine hq_gf (x := .ref (hq_gr s 113 0)) rfl rfl rfl rfl rfl ?_
  have m4 : hq_isT (hq_gr s 113 0) := hq_ifT h
  rw [if_pos m4] at h
  refine hq_gf (x := .int (hq_gi s (hq_gr s 113 0) 7)) rfl (hq_shT m4) rfl rfl rfl ?_
  by_cases c5 : a5 < (hq_gi s (hq_gr s 113 0) 7)
  · rw [if_pos c5] at h
    refine hq_icF rfl (hq_c_ge_F c5) ?_
    refine hq_p 2 39 [some (.ref 113), some (.int a1), some (.int a2), some (.int a3), some (.int a4), some (.int a5)] [.ref 113, .int a4] (fun n h => rfl) ?_
    refine hq_gf (x := .ref (hq_gr s 113 2)) rfl rfl rfl rfl rfl ?_
    have m25 : hq_isN (hq_gr s 113 2) := hq_ifT h
    rw [if_pos m25] at h
    refine hq_gf (x := .ref ((hq_gr s 113 2) + 2)) rfl (hq_shN m25) rfl rfl (hq_fldr (hq_shN_u m25)) ?_
    refine hq_p 1 47 [some (.ref 113), some (.int a1), some (.int a2), some (.int a3), some (.int a4), some (.int a5)] [.int a5, .ref ((hq_gr s 113 2) + 2), .int a4] (fun n h => rfl) ?_
    obtain ⟨x26, hx26, h⟩ := hq_bind h
    refine hq_iaload rfl (hq_shN_2 m25) List.length_replicate hx26 ?_
    refine hq_p 1 49 [some (.ref 113), some (.int a1), some (.int a2), some (.int a3), some (.int a4), some (.int a5)] [.int a3, .int x26, .int a4] (fun n h => rfl) ?_
    obtain ⟨z27, hz27, h⟩ := hq_bind h
    suffices hT : hq_R (mm_O xs) d mc_X3_lawValue 57 [some (.ref 113), some (.int a1), some (.int a2), some (.int a3), some (.int a4), some (.int a5)] [.int z27, .int a4] s g (some (.long y.1)) y.2 from by
      clear h
      have h := hz27
      by_cases c28 : x26 = a3
      · rw [if_pos c28] at h
        refine hq_icF rfl (hq_c_ne_F c28) ?_
        refine hq_p 2 57 [some (.ref 113), some (.int a1), some (.int a2), some (.int a3), some (.int a4), some (.int a5)] [.int (1 : Int32), .int a4] (fun n h => rfl) ?_
        cases h
        exact hT
      · rw [if_neg c28] at h
        refine hq_icT rfl (hq_c_ne_T c28) ?_
        refine hq_p 1 57 [some (.ref 113), some (.int a1), some (.int a2), some (.int a3), some (.int a4), some (.int a5)] [.int (0 : Int32), .int a4] (fun n h => rfl) ?_
        cases h
        exact hT
    refine hq_p 4 24 [some (.ref 113), some (.int a1), some (.int a2), some (.int a3), some (.int (a4 + z27)), some (.int (a5 + (1 : Int32)))] [] (fun n h => rfl) ?_
    exact e24 a1 a2 a3 (a4 + z27) (a5 + (1 : Int32)) s h
  · rw [if_neg c5] at h
    refine hq_icT rfl (hq_c_ge_T c5) ?_
    refine hq_p 1 67 [some (.ref 113), some (.int a1), some (.int a2), some (.int a3), some (.int a4), some (.int a5)] [.ref 113] (fun n h => rfl) ?_
    refine hq_gf (x := .ref 151) rfl rfl rfl rfl rfl ?_
    refine hq_p 2 72 [some (.ref 113), some (.int a1), some (.int a2), some (.int a3), some (.int a4), some (.int a5)] [.ref 113, .int (0 : Int32), .ref 151] (fun n h => rfl) ?_
    refine hq_gf (x := .ref (hq_gr s 113 0)) rfl rfl rfl rfl rfl ?_
    have m6 : hq_isT (hq_gr s 113 0) := hq_ifT h
    rw [if_pos m6] at h
    refine hq_gf (x := .ref ((hq_gr s 113 0) + 2)) rfl (hq_shT m6) rfl rfl (hq_fldr (hq_shT_u m6)) ?_
    refine hq_p 1 79 [some (.ref 113), some (.int a1), some (.int a2), some (.int a3), some (.int a4), some (.int a5)] [.int a3, .ref ((hq_gr s 113 0) + 2), .int (0 : Int32), .ref 151] (fun n h => rfl) ?_
    obtain ⟨x7, hx7, h⟩ := hq_bind h
    refine hq_iaload rfl (hq_shT_2 m6) List.length_replicate hx7 ?_
    refine hq_p 1 81 [some (.ref 113), some (.int a1), some (.int a2), some (.int a3), some (.int a4), some (.int a5)] [.long x7.toInt64, .int (0 : Int32), .ref 151] (fun n h => rfl) ?_
    obtain ⟨s8, hs8, h⟩ := hq_bind h
    refine hq_lastore rfl rfl List.length_replicate hs8 ?_
    refine hq_p 1 83 [some (.ref 113), some (.int a1), some (.int a2), some (.int a3), some (.int a4), some (.int a5)] [.ref 113] (fun n h => rfl) ?_
    refine hq_gf (x := .ref 151) rfl rfl rfl rfl rfl ?_
    refine hq_p 3 89 [some (.ref 113), some (.int a1), some (.int a2), some (.int a3), some (.int a4), some (.int a5)] [.int a3, .ref 113, .int (1 : Int32), .ref 151] (fun n h => rfl) ?_
    obtain ⟨y9, hy9, h⟩ := hq_bind h
    refine hq_inv rfl rfl (Nat.le_trans (by decide) hd) rfl rfl (hq_rcv rfl rfl) (f_X3_nearest_run (Nat.le_sub_of_add_le (Nat.le_trans (by decide) hd)) hy9) rfl ?_
    refine hq_p 1 93 [some (.ref 113), some (.int a1), some (.int a2), some (.int a3), some (.int a4), some (.int a5)] [.long y9.1.toInt64, .int (1 : Int32), .ref 151] (fun n h => rfl) ?_
    obtain ⟨s10, hs10, h⟩ := hq_bind h
    refine hq_lastore rfl rfl List.length_replicate hs10 ?_
    refine hq_p 1 95 [some (.ref 113), some (.int a1), some (.int a2), some (.int a3), some (.int a4), some (.int a5)] [.ref 113] (fun n h => rfl) ?_
    refine hq_gf (x := .ref 151) rfl rfl rfl rfl rfl ?_
    refine hq_p 2 100 [some (.ref 113), some (.int a1), some (.int a2), some (.int a3), some (.int a4), some (.int a5)] [.ref 113, .int (2 : Int32), .ref 151] (fun n h => rfl) ?_
    refine hq_gf (x := .ref (hq_gr s10 113 2)) rfl rfl rfl rfl rfl ?_
    have m11 : hq_isN (hq_gr s10 113 2) := hq_ifT h
    rw [if_pos m11] at h
    refine hq_gf (x := .ref ((hq_gr s10 113 2) + 1)) rfl (hq_shN m11) rfl rfl (hq_fldr (hq_shN_u m11)) ?_
    refine hq_p 1 107 [some (.ref 113), some (.int a1), some (.int a2), some (.int a3), some (.int a4), some (.int a5)] [.int a3, .ref ((hq_gr s10 113 2) + 1), .int (2 : Int32), .ref 151] (fun n h => rfl) ?_
    obtain ⟨x12, hx12, h⟩ := hq_bind h
    refine hq_iaload rfl (hq_shN_1 m11) List.length_replicate hx12 ?_
    refine hq_p 1 109 [some (.ref 113), some (.int a1), some (.int a2), some (.int a3), some (.int a4), some (.int a5)] [.long x12.toInt64, .int (2 : Int32), .ref 151] (fun n h => rfl) ?_
    obtain ⟨s13, hs13, h⟩ := hq_bind h
    refine hq_lastore rfl rfl List.length_replicate hs13 ?_
    refine hq_p 1 111 [some (.ref 113), some (.int a1), some (.int a2), some (.int a3), some (.int a4), some (.int a5)] [.ref 113] (fun n h => rfl) ?_
    refine hq_gf (x := .ref 151) rfl rfl rfl rfl rfl ?_
    refine hq_p 2 116 [some (.ref 113), some (.int a1), some (.int a2), some (.int a3), some (.int a4), some (.int a5)] [.ref 113, .int (3 : Int32), .ref 151] (fun n h => rfl) ?_
    refine hq_gf (x := .ref (hq_gr s13 113 2)) rfl rfl rfl rfl rfl ?_
    have m14 : hq_isN (hq_gr s13 113 2) := hq_ifT h
    rw [if_pos m14] at h
    refine hq_gf (x := .ref ((hq_gr s13 113 2) + 6)) rfl (hq_shN m14) rfl rfl (hq_fldr (hq_shN_u m14)) ?_
    refine hq_p 1 123 [some (.ref 113), some (.int a1), some (.int a2), some (.int a3), some (.int a4), some (.int a5)] [.int a2, .ref ((hq_gr s13 113 2) + 6), .int (3 : Int32), .ref 151] (fun n h => rfl) ?_
    obtain ⟨x15, hx15, h⟩ := hq_bind h
    refine hq_iaload rfl (hq_shN_6 m14) List.length_replicate hx15 ?_
    refine hq_p 1 125 [some (.ref 113), some (.int a1), some (.int a2), some (.int a3), some (.int a4), some (.int a5)] [.long x15.toInt64, .int (3 : Int32), .ref 151] (fun n h => rfl) ?_
    obtain ⟨s16, hs16, h⟩ := hq_bind h
    refine hq_lastore rfl rfl List.length_replicate hs16 ?_
    refine hq_p 1 127 [some (.ref 113), some (.int a1), some (.int a2), some (.int a3), some (.int a4), some (.int a5)] [.ref 113] (fun n h => rfl) ?_
    refine hq_gf (x := .ref 151) rfl rfl rfl rfl rfl ?_
    refine hq_p 2 132 [some (.ref 113), some (.int a1), some (.int a2), some (.int a3), some (.int a4), some (.int a5)] [.ref 113, .int (4 : Int32), .ref 151] (fun n h => rfl) ?_
    refine hq_gf (x := .ref (hq_gr s16 113 2)) rfl rfl rfl rfl rfl ?_
    have m17 : hq_isN (hq_gr s16 113 2) := hq_ifT h
    rw [if_pos m17] at h
    refine hq_gf (x := .ref ((hq_gr s16 113 2) + 7)) rfl (hq_shN m17) rfl rfl (hq_fldr (hq_shN_u m17)) ?_
    refine hq_p 1 139 [some (.ref 113), some (.int a1), some (.int a2), some (.int a3), some (.int a4), some (.int a5)] [.int a2, .ref ((hq_gr s16 113 2) + 7), .int (4 : Int32), .ref 151] (fun n h => rfl) ?_
    obtain ⟨x18, hx18, h⟩ := hq_bind h
    refine hq_iaload rfl (hq_shN_7 m17) List.length_replicate hx18 ?_
    refine hq_p 1 141 [some (.ref 113), some (.int a1), some (.int a2), some (.int a3), some (.int a4), some (.int a5)] [.long x18.toInt64, .int (4 : Int32), .ref 151] (fun n h => rfl) ?_
    obtain ⟨s19, hs19, h⟩ := hq_bind h
    refine hq_lastore rfl rfl List.length_replicate hs19 ?_
    refine hq_p 1 143 [some (.ref 113), some (.int a1), some (.int a2), some (.int a3), some (.int a4), some (.int a5)] [.ref 113] (fun n h => rfl) ?_
    refine hq_gf (x := .ref 151) rfl rfl rfl rfl rfl ?_
    refine hq_p 3 150 [some (.ref 113), some (.int a1), some (.int a2), some (.int a3), some (.int a4), some (.int a5)] [.long a4.toInt64, .int (5 : Int32), .ref 151] (fun n h => rfl) ?_
    obtain ⟨s20, hs20, h⟩ := hq_bind h
    refine hq_lastore rfl rfl List.length_replicate hs20 ?_
    refine hq_p 1 152 [some (.ref 113), some (.int a1), some (.int a2), some (.int a3), some (.int a4), some (.int a5)] [.ref 113] (fun n h => rfl) ?_
    refine hq_gf (x := .ref 151) rfl rfl rfl rfl rfl ?_
    refine hq_p 2 158 [some (.ref 113), some (.int a1), some (.int a2), some (.int a3), some (.int a4), some (.int a5)] [.ref 113, .int (6 : Int32), .ref 151] (fun n h => rfl) ?_
    refine hq_gf (x := .ref (hq_gr s20 113 2)) rfl rfl rfl rfl rfl ?_
    have m21 : hq_isN (hq_gr s20 113 2) := hq_ifT h
    rw [if_pos m21] at h
    refine hq_gf (x := .int (hq_gi s20 (hq_gr s20 113 2) 0)) rfl (hq_shN m21) rfl rfl rfl ?_
    refine hq_p 1 165 [some (.ref 113), some (.int a1), some (.int a2), some (.int a3), some (.int a4), some (.int a5)] [.long (hq_gi s20 (hq_gr s20 113 2) 0).toInt64, .int (6 : Int32), .ref 151] (fun n h => rfl) ?_
    obtain ⟨s22, hs22, h⟩ := hq_bind h
    refine hq_lastore rfl rfl List.length_replicate hs22 ?_
    refine hq_p 1 167 [some (.ref 113), some (.int a1), some (.int a2), some (.int a3), some (.int a4), some (.int a5)] [.ref 113] (fun n h => rfl) ?_
    refine hq_gf (x := .ref (hq_gr s22 113 0)) rfl rfl rfl rfl rfl ?_
    have m23 : hq_isT (hq_gr s22 113 0) := hq_ifT h
    rw [if_pos m23] at h
    refine hq_gf (x := .ref ((hq_gr s22 113 0) + 9)) rfl (hq_shT m23) rfl rfl (hq_fldr (hq_shT_u m23)) ?_
    refine hq_p 2 175 [some (.ref 113), some (.int a1), some (.int a2), some (.int a3), some (.int a4), some (.int a5)] [.ref 113, .int a1, .ref ((hq_gr s22 113 0) + 9)] (fun n h => rfl) ?_
    refine hq_gf (x := .ref 151) rfl rfl rfl rfl rfl ?_
    obtain ⟨y24, hy24, h⟩ := hq_bind h
    refine hq_inv rfl rfl (Nat.le_trans (by decide) hd) rfl rfl (hq_rcv (hq_shL (hq_shT_m9 m23)) rfl) (f_X4_valueOf_run (Nat.le_sub_of_add_le (Nat.le_trans (by decide) hd)) (hq_shT_m9 m23) hy24) rfl ?_
    have h := Option.some.inj h
    subst h
    exact ⟨1, rfl⟩
theorem f_X3_lawValue_L24_run {xs : List Int32} {n m d g : Nat} {a1 : Int32} {a2 : Int32} {a3 : Int32} {a4 : Int32} {a5 : Int32} {s : hq_S} {y : (Int64 × hq_S)} (hd : 2 ≤ d) (h : f_X3_lawValue_L24 n m a1 a2 a3 a4 a5 s = some y) : hq_R (mm_O xs) d mc_X3_lawValue 24 [some (.ref 113), some (.int a1), some (.int a2), some (.int a3), some (.int a4), some (.int a5)] [] s g (some (.long y.1)) y.2 := by
  induction m generalizing a1 a2 a3 a4 a5 s with
  | zero => cases h
  | succ m ih => exact f_X3_lawValue_L24_Brun (n := n) hd (fun a1 a2 a3 a4 a5 s h => ih h) h
def f_X3_lawValue (n : Nat) (a1 : Int32) (a2 : Int32) (a3 : Int32) (s : hq_S) : Option (Int64 × hq_S) := if hq_isT (hq_gr s 113 0) then (f_X4_isTold n ((hq_gr s 113 0) + 9) a1 s).bind fun y2 => if y2.1 = 0 then some ((-9223372036854775808 : Int64), y2.2) else f_X3_lawValue_L24 n n a1 a2 a3 (0 : Int32) (0 : Int32) y2.2 else none
theorem f_X3_lawValue_run {xs : List Int32} {n d g : Nat} {a1 : Int32} {a2 : Int32} {a3 : Int32} {s : hq_S} {y : (Int64 × hq_S)} (hd : 2 ≤ d) (h : f_X3_lawValue n a1 a2 a3 s = some y) : hq_R (mm_O xs) d mc_X3_lawValue 0 [some (.ref 113), some (.int a1), some (.int a2), some (.int a3), none, none] [] s g (some (.long y.1)) y.2 := by
  unfold f_X3_lawValue at h
  refine hq_p 1 1 [some (.ref 113), some (.int a1), some (.int a2), some (.int a3), none, none] [.ref 113] (fun n h => rfl) ?_
  refine hq_gf (x := .ref (hq_gr s 113 0)) rfl rfl rfl rfl rfl ?_
  have m1 : hq_isT (hq_gr s 113 0) := hq_ifT h
  rw [if_pos m1] at h
  refine hq_gf (x := .ref ((hq_gr s 113 0) + 9)) rfl (hq_shT m1) rfl rfl (hq_fldr (hq_shT_u m1)) ?_
  refine hq_p 1 8 [some (.ref 113), some (.int a1), some (.int a2), some (.int a3), none, none] [.int a1, .ref ((hq_gr s 113 0) + 9)] (fun n h => rfl) ?_
  obtain ⟨y2, hy2, h⟩ := hq_bind h
  refine hq_inv rfl rfl (Nat.le_trans (by decide) hd) rfl rfl (hq_rcv (hq_shL (hq_shT_m9 m1)) rfl) (f_X4_isTold_run (Nat.le_sub_of_add_le (Nat.le_trans (by decide) hd)) (hq_shT_m9 m1) hy2) rfl ?_
  by_cases c3 : y2.1 = 0
  · rw [if_pos c3] at h
    refine hq_izF rfl (hq_c_ne_F c3) ?_
    refine hq_lc2 (-9223372036854775808 : Int64) rfl (by decide) ?_
    have h := Option.some.inj h
    subst h
    exact ⟨1, rfl⟩
  · rw [if_neg c3] at h
    refine hq_izT rfl (hq_c_ne_T c3) ?_
    refine hq_p 4 24 [some (.ref 113), some (.int a1), some (.int a2), some (.int a3), some (.int (0 : Int32)), some (.int (0 : Int32))] [] (fun n h => rfl) ?_
    exact f_X3_lawValue_L24_run hd h
def f_X3_stirs (n : Nat) (a1 : Int32) (s : hq_S) : Option (Int32 × hq_S) := if (hq_gi s 113 5) = 0 then some ((0 : Int32), s) else if hq_isN (hq_gr s 113 2) then (hq_ld s ((hq_gr s 113 2) + 5) 4 a1).bind fun x3 => (f_X3_lawValue n (2 : Int32) a1 x3 s).bind fun y4 => if (lg_cmp y4.1 (0 : Int64)) = 0 then some ((0 : Int32), y4.2) else some ((1 : Int32), y4.2) else none
theorem f_X3_stirs_run {xs : List Int32} {n d g : Nat} {a1 : Int32} {s : hq_S} {y : (Int32 × hq_S)} (hd : 3 ≤ d) (h : f_X3_stirs n a1 s = some y) : hq_R (mm_O xs) d mc_X3_stirs 0 [some (.ref 113), some (.int a1)] [] s g (some (.int y.1)) y.2 := by
  unfold f_X3_stirs at h
  refine hq_p 1 1 [some (.ref 113), some (.int a1)] [.ref 113] (fun n h => rfl) ?_
  refine hq_gf (x := .int (hq_gi s 113 5)) rfl rfl rfl rfl rfl ?_
  by_cases c1 : (hq_gi s 113 5) = 0
  · rw [if_pos c1] at h
    refine hq_izT rfl (hq_c_eq_T c1) ?_
    refine hq_p 1 32 [some (.ref 113), some (.int a1)] [.int (0 : Int32)] (fun n h => rfl) ?_
    have h := Option.some.inj h
    subst h
    exact ⟨1, rfl⟩
  · rw [if_neg c1] at h
    refine hq_izF rfl (hq_c_eq_F c1) ?_
    refine hq_p 4 11 [some (.ref 113), some (.int a1)] [.ref 113, .int a1, .int (2 : Int32), .ref 113] (fun n h => rfl) ?_
    refine hq_gf (x := .ref (hq_gr s 113 2)) rfl rfl rfl rfl rfl ?_
    have m2 : hq_isN (hq_gr s 113 2) := hq_ifT h
    rw [if_pos m2] at h
    refine hq_gf (x := .ref ((hq_gr s 113 2) + 5)) rfl (hq_shN m2) rfl rfl (hq_fldr (hq_shN_u m2)) ?_
    refine hq_p 1 18 [some (.ref 113), some (.int a1)] [.int a1, .ref ((hq_gr s 113 2) + 5), .int a1, .int (2 : Int32), .ref 113] (fun n h => rfl) ?_
    obtain ⟨x3, hx3, h⟩ := hq_bind h
    refine hq_iaload rfl (hq_shN_5 m2) List.length_replicate hx3 ?_
    obtain ⟨y4, hy4, h⟩ := hq_bind h
    refine hq_inv rfl rfl (Nat.le_trans (by decide) hd) rfl rfl (hq_rcv rfl rfl) (f_X3_lawValue_run (Nat.le_sub_of_add_le (Nat.le_trans (by decide) hd)) hy4) rfl ?_
    refine hq_p 2 24 [some (.ref 113), some (.int a1)] [.int (lg_cmp y4.1 (0 : Int64))] (fun n h => rfl) ?_
    by_cases c5 : (lg_cmp y4.1 (0 : Int64)) = 0
    · rw [if_pos c5] at h
      refine hq_izT rfl (hq_c_eq_T c5) ?_
      refine hq_p 1 32 [some (.ref 113), some (.int a1)] [.int (0 : Int32)] (fun n h => rfl) ?_
      have h := Option.some.inj h
      subst h
      exact ⟨1, rfl⟩
    · rw [if_neg c5] at h
      refine hq_izF rfl (hq_c_eq_F c5) ?_
      refine hq_p 2 32 [some (.ref 113), some (.int a1)] [.int (1 : Int32)] (fun n h => rfl) ?_
      have h := Option.some.inj h
      subst h
      exact ⟨1, rfl⟩
def f_X3_dread (n : Nat) (a1 : Int32) (a2 : Int32) (s : hq_S) : Option (Int64 × hq_S) := (f_X3_lawValue n (0 : Int32) a1 a2 s).bind fun y1 => if (lg_cmp y1.1 (-9223372036854775808 : Int64)) = 0 then if hq_isT (hq_gr y1.2 113 0) then (hq_ld y1.2 ((hq_gr y1.2 113 0) + 2) 10 a2).bind fun x4 => (f_X3_nearest n a2 y1.2).bind fun y5 => some ((x4.toInt64 - ((2 : Int64) * y5.1.toInt64)), y5.2) else none else some (y1.1, y1.2)
theorem f_X3_dread_run {xs : List Int32} {n d g : Nat} {a1 : Int32} {a2 : Int32} {s : hq_S} {y : (Int64 × hq_S)} (hd : 3 ≤ d) (h : f_X3_dread n a1 a2 s = some y) : hq_R (mm_O xs) d mc_X3_dread 0 [some (.ref 113), some (.int a1), some (.int a2), none, none] [] s g (some (.long y.1)) y.2 := by
  unfold f_X3_dread at h
  refine hq_p 4 4 [some (.ref 113), some (.int a1), some (.int a2), none, none] [.int a2, .int a1, .int (0 : Int32), .ref 113] (fun n h => rfl) ?_
  obtain ⟨y1, hy1, h⟩ := hq_bind h
  refine hq_inv rfl rfl (Nat.le_trans (by decide) hd) rfl rfl (hq_rcv rfl rfl) (f_X3_lawValue_run (Nat.le_sub_of_add_le (Nat.le_trans (by decide) hd)) hy1) rfl ?_
  refine hq_p 2 9 [some (.ref 113), some (.int a1), some (.int a2), some (.long y1.1), none] [.long y1.1] (fun n h => rfl) ?_
  refine hq_lc2 (-9223372036854775808 : Int64) rfl (by decide) ?_
  refine hq_p 1 13 [some (.ref 113), some (.int a1), some (.int a2), some (.long y1.1), none] [.int (lg_cmp y1.1 (-9223372036854775808 : Int64))] (fun n h => rfl) ?_
  by_cases c2 : (lg_cmp y1.1 (-9223372036854775808 : Int64)) = 0
  · rw [if_pos c2] at h
    refine hq_izF rfl (hq_c_ne_F c2) ?_
    refine hq_p 1 17 [some (.ref 113), some (.int a1), some (.int a2), some (.long y1.1), none] [.ref 113] (fun n h => rfl) ?_
    refine hq_gf (x := .ref (hq_gr y1.2 113 0)) rfl rfl rfl rfl rfl ?_
    have m3 : hq_isT (hq_gr y1.2 113 0) := hq_ifT h
    rw [if_pos m3] at h
    refine hq_gf (x := .ref ((hq_gr y1.2 113 0) + 2)) rfl (hq_shT m3) rfl rfl (hq_fldr (hq_shT_u m3)) ?_
    refine hq_p 1 24 [some (.ref 113), some (.int a1), some (.int a2), some (.long y1.1), none] [.int a2, .ref ((hq_gr y1.2 113 0) + 2)] (fun n h => rfl) ?_
    obtain ⟨x4, hx4, h⟩ := hq_bind h
    refine hq_iaload rfl (hq_shT_2 m3) List.length_replicate hx4 ?_
    refine hq_p 1 26 [some (.ref 113), some (.int a1), some (.int a2), some (.long y1.1), none] [.long x4.toInt64] (fun n h => rfl) ?_
    refine hq_lc2 (2 : Int64) rfl (by decide) ?_
    refine hq_p 2 31 [some (.ref 113), some (.int a1), some (.int a2), some (.long y1.1), none] [.int a2, .ref 113, .long (2 : Int64), .long x4.toInt64] (fun n h => rfl) ?_
    obtain ⟨y5, hy5, h⟩ := hq_bind h
    refine hq_inv rfl rfl (Nat.le_trans (by decide) hd) rfl rfl (hq_rcv rfl rfl) (f_X3_nearest_run (Nat.le_sub_of_add_le (Nat.le_trans (by decide) hd)) hy5) rfl ?_
    refine hq_p 4 41 [some (.ref 113), some (.int a1), some (.int a2), some (.long y1.1), none] [.long (x4.toInt64 - ((2 : Int64) * y5.1.toInt64))] (fun n h => rfl) ?_
    have h := Option.some.inj h
    subst h
    exact ⟨1, rfl⟩
  · rw [if_neg c2] at h
    refine hq_izT rfl (hq_c_ne_T c2) ?_
    refine hq_p 1 41 [some (.ref 113), some (.int a1), some (.int a2), some (.long y1.1), none] [.long y1.1] (fun n h => rfl) ?_
    have h := Option.some.inj h
    subst h
    exact ⟨1, rfl⟩
def f_X3_goWhereDreadIsLeast_J86 (n : Nat) (q23 : Int32 → Int32 → Int32 → Int64 → Int32 → hq_S → Option hq_S) (a1 : Int32) (a2 : Int32) (a3 : Int32) (j4 : Int64) (a6 : Int32) (s : hq_S) : Option hq_S := q23 a1 a2 a3 j4 (a6 + (1 : Int32)) s
theorem f_X3_goWhereDreadIsLeast_J86_run {xs : List Int32} {n d g : Nat} {a1 : Int32} {a2 : Int32} {a3 : Int32} {j4 : Int64} {a6 : Int32} {o7 : Option Value} {q23 : Int32 → Int32 → Int32 → Int64 → Int32 → hq_S → Option hq_S} {s : hq_S} {y : hq_S} (hd : 4 ≤ d) (e23 : ∀ (a1 : Int32) (a2 : Int32) (a3 : Int32) (j4 : Int64) (a6 : Int32) (o7 : Option Value) (s : hq_S), q23 a1 a2 a3 j4 a6 s = some y → hq_R (mm_O xs) d mc_X3_goWhereDreadIsLeast 23 [some (.ref 113), some (.int a1), some (.int a2), some (.int a3), some (.long j4), none, some (.int a6), o7, none] [] s g none y) (h : f_X3_goWhereDreadIsLeast_J86 n q23 a1 a2 a3 j4 a6 s = some y) : hq_R (mm_O xs) d mc_X3_goWhereDreadIsLeast 86 [some (.ref 113), some (.int a1), some (.int a2), some (.int a3), some (.long j4), none, some (.int a6), o7, none] [] s g none y := by
  unfold f_X3_goWhereDreadIsLeast_J86 at h
  refine hq_p 2 23 [some (.ref 113), some (.int a1), some (.int a2), some (.int a3), some (.long j4), none, some (.int (a6 + (1 : Int32))), o7, none] [] (fun n h => rfl) ?_
  exact e23 a1 a2 a3 j4 (a6 + (1 : Int32)) _ s h
def f_X3_goWhereDreadIsLeast_L23_B (n : Nat) (q23 : Int32 → Int32 → Int32 → Int64 → Int32 → hq_S → Option hq_S) (a1 : Int32) (a2 : Int32) (a3 : Int32) (j4 : Int64) (a6 : Int32) (s : hq_S) : Option hq_S := if hq_isT (hq_gr s 113 0) then if a6 < (hq_gi s (hq_gr s 113 0) 0) then if hq_isS (hq_gr s 113 1) then (hq_ld s ((hq_gr s 113 1) + 1) 10 a2).bind fun x9 => if ((x9 >>> (a6 &&& 31)) &&& (1 : Int32)) = (1 : Int32) then (f_X3_dread n a1 a6 s).bind fun y12 => (if (lg_cmp y12.1 j4) < 0 then some a6 else some a3).bind fun z13 => f_X3_goWhereDreadIsLeast_J86 n q23 a1 a2 z13 (hq_minj y12.1 j4) a6 y12.2 else f_X3_goWhereDreadIsLeast_J86 n q23 a1 a2 a3 j4 a6 s else none else if hq_isN (hq_gr s 113 2) then (hq_st s ((hq_gr s 113 2) + 5) 4 a1 a3).bind fun s7 => some s7 else none else none
def f_X3_goWhereDreadIsLeast_L23 (n : Nat) (m : Nat) : Int32 → Int32 → Int32 → Int64 → Int32 → hq_S → Option hq_S := Nat.rec (fun _ _ _ _ _ _ => none) (fun _ q => f_X3_goWhereDreadIsLeast_L23_B n q) m
theorem f_X3_goWhereDreadIsLeast_L23_Brun {xs : List Int32} {n d g : Nat} {a1 : Int32} {a2 : Int32} {a3 : Int32} {j4 : Int64} {a6 : Int32} {o7 : Option Value} {q23 : Int32 → Int32 → Int32 → Int64 → Int32 → hq_S → Option hq_S} {s : hq_S} {y : hq_S} (hd : 4 ≤ d) (e23 : ∀ (a1 : Int32) (a2 : Int32) (a3 : Int32) (j4 : Int64) (a6 : Int32) (o7 : Option Value) (s : hq_S), q23 a1 a2 a3 j4 a6 s = some y → hq_R (mm_O xs) d mc_X3_goWhereDreadIsLeast 23 [some (.ref 113), some (.int a1), some (.int a2), some (.int a3), some (.long j4), none, some (.int a6), o7, none] [] s g none y) (h : f_X3_goWhereDreadIsLeast_L23_B n q23 a1 a2 a3 j4 a6 s = some y) : hq_R (mm_O xs) d mc_X3_goWhereDreadIsLeast 23 [some (.ref 113), some (.int a1), some (.int a2), some (.int a3), some (.long j4), none, some (.int a6), o7, none] [] s g none y := by
  unfold f_X3_goWhereDreadIsLeast_L23_B at h
  refine hq_p 2 26 [some (.ref 113), some (.int a1), some (.int a2), some (.int a3), some (.long j4), none, some (.int a6), o7, none] [.ref 113, .int a6] (fun n h => rfl) ?_
  refine hq_gf (x := .ref (hq_gr s 113 0)) rfl rfl rfl rfl rfl ?_
  have m4 : hq_isT (hq_gr s 113 0) := hq_ifT h
  rw [if_pos m4] at h
  refine hq_gf (x := .int (hq_gi s (hq_gr s 113 0) 0)) rfl (hq_shT m4) rfl rfl rfl ?_
  by_cases c5 : a6 < (hq_gi s (hq_gr s 113 0) 0)
  · rw [if_pos c5] at h
    refine hq_icF rfl (hq_c_ge_F c5) ?_
    refine hq_p 1 36 [some (.ref 113), some (.int a1), some (.int a2), some (.int a3), some (.long j4), none, some (.int a6), o7, none] [.ref 113] (fun n h => rfl) ?_
    refine hq_gf (x := .ref (hq_gr s 113 1)) rfl rfl rfl rfl rfl ?_
    have m8 : hq_isS (hq_gr s 113 1) := hq_ifT h
    rw [if_pos m8] at h
    refine hq_gf (x := .ref ((hq_gr s 113 1) + 1)) rfl (hq_shS m8) rfl rfl (hq_fldr (hq_shS_u m8)) ?_
    refine hq_p 1 43 [some (.ref 113), some (.int a1), some (.int a2), some (.int a3), some (.long j4), none, some (.int a6), o7, none] [.int a2, .ref ((hq_gr s 113 1) + 1)] (fun n h => rfl) ?_
    obtain ⟨x9, hx9, h⟩ := hq_bind h
    refine hq_iaload rfl (hq_shS_1 m8) List.length_replicate hx9 ?_
    refine hq_p 5 50 [some (.ref 113), some (.int a1), some (.int a2), some (.int a3), some (.long j4), none, some (.int a6), o7, none] [.int (1 : Int32), .int ((x9 >>> (a6 &&& 31)) &&& (1 : Int32))] (fun n h => rfl) ?_
    by_cases c11 : ((x9 >>> (a6 &&& 31)) &&& (1 : Int32)) = (1 : Int32)
    · rw [if_pos c11] at h
      refine hq_icF rfl (hq_c_ne_F c11) ?_
      refine hq_p 3 57 [some (.ref 113), some (.int a1), some (.int a2), some (.int a3), some (.long j4), none, some (.int a6), o7, none] [.int a6, .int a1, .ref 113] (fun n h => rfl) ?_
      obtain ⟨y12, hy12, h⟩ := hq_bind h
      refine hq_inv rfl rfl (Nat.le_trans (by decide) hd) rfl rfl (hq_rcv rfl rfl) (f_X3_dread_run (Nat.le_sub_of_add_le (Nat.le_trans (by decide) hd)) hy12) rfl ?_
      refine hq_p 4 67 [some (.ref 113), some (.int a1), some (.int a2), some (.int a3), some (.long j4), none, some (.int a6), some (.long y12.1), none] [.int (lg_cmp y12.1 j4)] (fun n h => rfl) ?_
      obtain ⟨z13, hz13, h⟩ := hq_bind h
      suffices hT : hq_R (mm_O xs) d mc_X3_goWhereDreadIsLeast 76 [some (.ref 113), some (.int a1), some (.int a2), some (.int a3), some (.long j4), none, some (.int a6), some (.long y12.1), none] [.int z13] y12.2 g none y from by
        clear h
        have h := hz13
        by_cases c14 : (lg_cmp y12.1 j4) < 0
        · rw [if_pos c14] at h
          refine hq_izF rfl (hq_c_ge_F c14) ?_
          refine hq_p 2 76 [some (.ref 113), some (.int a1), some (.int a2), some (.int a3), some (.long j4), none, some (.int a6), some (.long y12.1), none] [.int a6] (fun n h => rfl) ?_
          cases h
          exact hT
        · rw [if_neg c14] at h
          refine hq_izT rfl (hq_c_ge_T c14) ?_
          refine hq_p 1 76 [some (.ref 113), some (.int a1), some (.int a2), some (.int a3), some (.long j4), none, some (.int a6), some (.long y12.1), none] [.int a3] (fun n h => rfl) ?_
          cases h
          exact hT
      refine hq_p 3 81 [some (.ref 113), some (.int a1), some (.int a2), some (.int z13), some (.long j4), none, some (.int a6), some (.long y12.1), none] [.long j4, .long y12.1] (fun n h => rfl) ?_
      refine hq_math rfl rfl rfl (Nat.le_trans (by decide) hd) ?_
      refine hq_p 1 86 [some (.ref 113), some (.int a1), some (.int a2), some (.int z13), some (.long (hq_minj y12.1 j4)), none, some (.int a6), some (.long y12.1), none] [] (fun n h => rfl) ?_
      exact f_X3_goWhereDreadIsLeast_J86_run hd e23 h
    · rw [if_neg c11] at h
      refine hq_icT rfl (hq_c_ne_T c11) ?_
      exact f_X3_goWhereDreadIsLeast_J86_run hd e23 h
  · rw [if_neg c5] at h
    refine hq_icT rfl (hq_c_ge_T c5) ?_
    refine hq_p 1 93 [some (.ref 113), some (.int a1), some (.int a2), some (.int a3), some (.long j4), none, some (.int a6), o7, none] [.ref 113] (fun n h => rfl) ?_
    refine hq_gf (x := .ref (hq_gr s 113 2)) rfl rfl rfl rfl rfl ?_
    have m6 : hq_isN (hq_gr s 113 2) := hq_ifT h
    rw [if_pos m6] at h
    refine hq_gf (x := .ref ((hq_gr s 113 2) + 5)) rfl (hq_shN m6) rfl rfl (hq_fldr (hq_shN_u m6)) ?_
    refine hq_p 2 101 [some (.ref 113), some (.int a1), some (.int a2), some (.int a3), some (.long j4), none, some (.int a6), o7, none] [.int a3, .int a1, .ref ((hq_gr s 113 2) + 5)] (fun n h => rfl) ?_
    obtain ⟨s7, hs7, h⟩ := hq_bind h
    refine hq_iastore rfl (hq_shN_5 m6) List.length_replicate hs7 ?_
    have h := Option.some.inj h
    subst h
    exact ⟨1, rfl⟩
theorem f_X3_goWhereDreadIsLeast_L23_run {xs : List Int32} {n m d g : Nat} {a1 : Int32} {a2 : Int32} {a3 : Int32} {j4 : Int64} {a6 : Int32} {o7 : Option Value} {s : hq_S} {y : hq_S} (hd : 4 ≤ d) (h : f_X3_goWhereDreadIsLeast_L23 n m a1 a2 a3 j4 a6 s = some y) : hq_R (mm_O xs) d mc_X3_goWhereDreadIsLeast 23 [some (.ref 113), some (.int a1), some (.int a2), some (.int a3), some (.long j4), none, some (.int a6), o7, none] [] s g none y := by
  induction m generalizing a1 a2 a3 j4 a6 o7 s with
  | zero => cases h
  | succ m ih => exact f_X3_goWhereDreadIsLeast_L23_Brun (n := n) hd (fun a1 a2 a3 j4 a6 o7 s h => ih h) h
def f_X3_goWhereDreadIsLeast (n : Nat) (a1 : Int32) (s : hq_S) : Option hq_S := if hq_isN (hq_gr s 113 2) then (hq_ld s ((hq_gr s 113 2) + 5) 4 a1).bind fun x2 => (f_X3_dread n a1 x2 s).bind fun y3 => f_X3_goWhereDreadIsLeast_L23 n n a1 x2 x2 y3.1 (0 : Int32) y3.2 else none
theorem f_X3_goWhereDreadIsLeast_run {xs : List Int32} {n d g : Nat} {a1 : Int32} {s : hq_S} {y : hq_S} (hd : 4 ≤ d) (h : f_X3_goWhereDreadIsLeast n a1 s = some y) : hq_R (mm_O xs) d mc_X3_goWhereDreadIsLeast 0 [some (.ref 113), some (.int a1), none, none, none, none, none, none, none] [] s g none y := by
  unfold f_X3_goWhereDreadIsLeast at h
  refine hq_p 1 1 [some (.ref 113), some (.int a1), none, none, none, none, none, none, none] [.ref 113] (fun n h => rfl) ?_
  refine hq_gf (x := .ref (hq_gr s 113 2)) rfl rfl rfl rfl rfl ?_
  have m1 : hq_isN (hq_gr s 113 2) := hq_ifT h
  rw [if_pos m1] at h
  refine hq_gf (x := .ref ((hq_gr s 113 2) + 5)) rfl (hq_shN m1) rfl rfl (hq_fldr (hq_shN_u m1)) ?_
  refine hq_p 1 8 [some (.ref 113), some (.int a1), none, none, none, none, none, none, none] [.int a1, .ref ((hq_gr s 113 2) + 5)] (fun n h => rfl) ?_
  obtain ⟨x2, hx2, h⟩ := hq_bind h
  refine hq_iaload rfl (hq_shN_5 m1) List.length_replicate hx2 ?_
  refine hq_p 6 15 [some (.ref 113), some (.int a1), some (.int x2), some (.int x2), none, none, none, none, none] [.int x2, .int a1, .ref 113] (fun n h => rfl) ?_
  obtain ⟨y3, hy3, h⟩ := hq_bind h
  refine hq_inv rfl rfl (Nat.le_trans (by decide) hd) rfl rfl (hq_rcv rfl rfl) (f_X3_dread_run (Nat.le_sub_of_add_le (Nat.le_trans (by decide) hd)) hy3) rfl ?_
  refine hq_p 3 23 [some (.ref 113), some (.int a1), some (.int x2), some (.int x2), some (.long y3.1), none, some (.int (0 : Int32)), none, none] [] (fun n h => rfl) ?_
  exact f_X3_goWhereDreadIsLeast_L23_run hd h
def f_X3_draw (n : Nat) (s : hq_S) : Option (Int64 × hq_S) := if hq_isN (hq_gr s 113 2) then if hq_isN (hq_gr s 113 2) then (hq_pj s (hq_gr s 113 2) 1 ((((hq_gj s (hq_gr s 113 2) 1) * (1103515245 : Int64)) + (12345 : Int64)) &&& (2147483647 : Int64))).bind fun s3 => if hq_isN (hq_gr s3 113 2) then (hq_ldiv (hq_gj s3 (hq_gr s3 113 2) 1) (65536 : Int64)).bind fun x5 => some (x5, s3) else none else none else none
theorem f_X3_draw_run {xs : List Int32} {n d g : Nat} {s : hq_S} {y : (Int64 × hq_S)} (hd : 0 ≤ d) (h : f_X3_draw n s = some y) : hq_R (mm_O xs) d mc_X3_draw 0 [some (.ref 113)] [] s g (some (.long y.1)) y.2 := by
  unfold f_X3_draw at h
  refine hq_p 1 1 [some (.ref 113)] [.ref 113] (fun n h => rfl) ?_
  refine hq_gf (x := .ref (hq_gr s 113 2)) rfl rfl rfl rfl rfl ?_
  have m1 : hq_isN (hq_gr s 113 2) := hq_ifT h
  rw [if_pos m1] at h
  refine hq_p 1 5 [some (.ref 113)] [.ref 113, .ref (hq_gr s 113 2)] (fun n h => rfl) ?_
  refine hq_gf (x := .ref (hq_gr s 113 2)) rfl rfl rfl rfl rfl ?_
  have m2 : hq_isN (hq_gr s 113 2) := hq_ifT h
  rw [if_pos m2] at h
  refine hq_gf (x := .long (hq_gj s (hq_gr s 113 2) 1)) rfl (hq_shN m2) rfl rfl rfl ?_
  refine hq_lc2 (1103515245 : Int64) rfl (by decide) ?_
  refine hq_p 1 15 [some (.ref 113)] [.long ((hq_gj s (hq_gr s 113 2) 1) * (1103515245 : Int64)), .ref (hq_gr s 113 2)] (fun n h => rfl) ?_
  refine hq_lc2 (12345 : Int64) rfl (by decide) ?_
  refine hq_p 1 19 [some (.ref 113)] [.long (((hq_gj s (hq_gr s 113 2) 1) * (1103515245 : Int64)) + (12345 : Int64)), .ref (hq_gr s 113 2)] (fun n h => rfl) ?_
  refine hq_lc2 (2147483647 : Int64) rfl (by decide) ?_
  refine hq_p 1 23 [some (.ref 113)] [.long ((((hq_gj s (hq_gr s 113 2) 1) * (1103515245 : Int64)) + (12345 : Int64)) &&& (2147483647 : Int64)), .ref (hq_gr s 113 2)] (fun n h => rfl) ?_
  obtain ⟨s3, hs3, h⟩ := hq_bind h
  refine hq_pfj rfl (hq_shN m1) rfl rfl rfl hs3 ?_
  refine hq_p 1 27 [some (.ref 113)] [.ref 113] (fun n h => rfl) ?_
  refine hq_gf (x := .ref (hq_gr s3 113 2)) rfl rfl rfl rfl rfl ?_
  have m4 : hq_isN (hq_gr s3 113 2) := hq_ifT h
  rw [if_pos m4] at h
  refine hq_gf (x := .long (hq_gj s3 (hq_gr s3 113 2) 1)) rfl (hq_shN m4) rfl rfl rfl ?_
  refine hq_lc2 (65536 : Int64) rfl (by decide) ?_
  obtain ⟨x5, hx5, h⟩ := hq_bind h
  refine hq_ldiv_ rfl hx5 ?_
  have h := Option.some.inj h
  subst h
  exact ⟨1, rfl⟩
def f_X3_gripHolds_J96 (n : Nat) (s : hq_S) : Option (Int32 × hq_S) := some ((1 : Int32), s)
theorem f_X3_gripHolds_J96_run {xs : List Int32} {n d g : Nat} {s : hq_S} {y : (Int32 × hq_S)} (hd : 1 ≤ d) (h : f_X3_gripHolds_J96 n s = some y) : hq_R (mm_O xs) d mc_X3_gripHolds 96 [some (.ref 113)] [] s g (some (.int y.1)) y.2 := by
  unfold f_X3_gripHolds_J96 at h
  refine hq_p 2 101 [some (.ref 113)] [.int (1 : Int32)] (fun n h => rfl) ?_
  have h := Option.some.inj h
  subst h
  exact ⟨1, rfl⟩
def f_X3_gripHolds (n : Nat) (s : hq_S) : Option (Int32 × hq_S) := if (hq_gi s 113 3) = (1 : Int32) then if hq_isT (hq_gr s 113 0) then if (hq_gi s (hq_gr s 113 0) 13) < (50 : Int32) then some ((0 : Int32), s) else some ((1 : Int32), s) else none else if (hq_gi s 113 3) = (2 : Int32) then some ((1 : Int32), s) else if (hq_gi s 113 3) = (3 : Int32) then some ((0 : Int32), s) else if hq_isT (hq_gr s 113 0) then if (hq_gi s (hq_gr s 113 0) 13) = (100 : Int32) then f_X3_gripHolds_J96 n s else if hq_isT (hq_gr s 113 0) then if 0 < (hq_gi s (hq_gr s 113 0) 13) then (f_X3_draw n s).bind fun y10 => (hq_lrem y10.1 (100 : Int64)).bind fun x11 => if hq_isT (hq_gr y10.2 113 0) then if (lg_cmp x11 (hq_gi y10.2 (hq_gr y10.2 113 0) 13).toInt64) < 0 then f_X3_gripHolds_J96 n y10.2 else some ((0 : Int32), y10.2) else none else some ((0 : Int32), s) else none else none
theorem f_X3_gripHolds_run {xs : List Int32} {n d g : Nat} {s : hq_S} {y : (Int32 × hq_S)} (hd : 1 ≤ d) (h : f_X3_gripHolds n s = some y) : hq_R (mm_O xs) d mc_X3_gripHolds 0 [some (.ref 113)] [] s g (some (.int y.1)) y.2 := by
  unfold f_X3_gripHolds at h
  refine hq_p 1 1 [some (.ref 113)] [.ref 113] (fun n h => rfl) ?_
  refine hq_gf (x := .int (hq_gi s 113 3)) rfl rfl rfl rfl rfl ?_
  by_cases c1 : (hq_gi s 113 3) = (1 : Int32)
  · rw [if_pos c1] at h
    refine hq_tsw rfl (show _ = some 32 from by rw [c1]; decide) ?_
    refine hq_p 1 33 [some (.ref 113)] [.ref 113] (fun n h => rfl) ?_
    refine hq_gf (x := .ref (hq_gr s 113 0)) rfl rfl rfl rfl rfl ?_
    have m2 : hq_isT (hq_gr s 113 0) := hq_ifT h
    rw [if_pos m2] at h
    refine hq_gf (x := .int (hq_gi s (hq_gr s 113 0) 13)) rfl (hq_shT m2) rfl rfl rfl ?_
    refine hq_bip (50 : Int32) rfl (by decide) ?_
    by_cases c3 : (hq_gi s (hq_gr s 113 0) 13) < (50 : Int32)
    · rw [if_pos c3] at h
      refine hq_icT rfl (hq_c_lt_T c3) ?_
      refine hq_p 1 49 [some (.ref 113)] [.int (0 : Int32)] (fun n h => rfl) ?_
      have h := Option.some.inj h
      subst h
      exact ⟨1, rfl⟩
    · rw [if_neg c3] at h
      refine hq_icF rfl (hq_c_lt_F c3) ?_
      refine hq_p 2 49 [some (.ref 113)] [.int (1 : Int32)] (fun n h => rfl) ?_
      have h := Option.some.inj h
      subst h
      exact ⟨1, rfl⟩
  rw [if_neg c1] at h
  by_cases c4 : (hq_gi s 113 3) = (2 : Int32)
  · rw [if_pos c4] at h
    refine hq_tsw rfl (show _ = some 50 from by rw [c4]; decide) ?_
    refine hq_p 1 51 [some (.ref 113)] [.int (1 : Int32)] (fun n h => rfl) ?_
    have h := Option.some.inj h
    subst h
    exact ⟨1, rfl⟩
  rw [if_neg c4] at h
  by_cases c5 : (hq_gi s 113 3) = (3 : Int32)
  · rw [if_pos c5] at h
    refine hq_tsw rfl (show _ = some 52 from by rw [c5]; decide) ?_
    refine hq_p 1 53 [some (.ref 113)] [.int (0 : Int32)] (fun n h => rfl) ?_
    have h := Option.some.inj h
    subst h
    exact ⟨1, rfl⟩
  rw [if_neg c5] at h
  refine hq_tsw rfl (hq_tsw_d [(1 : Int32), (2 : Int32), (3 : Int32)] (by decide) rfl ⟨c1, c4, c5, trivial⟩) ?_
  refine hq_p 1 55 [some (.ref 113)] [.ref 113] (fun n h => rfl) ?_
  refine hq_gf (x := .ref (hq_gr s 113 0)) rfl rfl rfl rfl rfl ?_
  have m6 : hq_isT (hq_gr s 113 0) := hq_ifT h
  rw [if_pos m6] at h
  refine hq_gf (x := .int (hq_gi s (hq_gr s 113 0) 13)) rfl (hq_shT m6) rfl rfl rfl ?_
  refine hq_bip (100 : Int32) rfl (by decide) ?_
  by_cases c7 : (hq_gi s (hq_gr s 113 0) 13) = (100 : Int32)
  · rw [if_pos c7] at h
    refine hq_icT rfl (hq_c_eq_T c7) ?_
    exact f_X3_gripHolds_J96_run hd h
  · rw [if_neg c7] at h
    refine hq_icF rfl (hq_c_eq_F c7) ?_
    refine hq_p 1 67 [some (.ref 113)] [.ref 113] (fun n h => rfl) ?_
    refine hq_gf (x := .ref (hq_gr s 113 0)) rfl rfl rfl rfl rfl ?_
    have m8 : hq_isT (hq_gr s 113 0) := hq_ifT h
    rw [if_pos m8] at h
    refine hq_gf (x := .int (hq_gi s (hq_gr s 113 0) 13)) rfl (hq_shT m8) rfl rfl rfl ?_
    by_cases c9 : 0 < (hq_gi s (hq_gr s 113 0) 13)
    · rw [if_pos c9] at h
      refine hq_izF rfl (hq_c_le_F c9) ?_
      refine hq_p 1 77 [some (.ref 113)] [.ref 113] (fun n h => rfl) ?_
      obtain ⟨y10, hy10, h⟩ := hq_bind h
      refine hq_inv rfl rfl (Nat.le_trans (by decide) hd) rfl rfl (hq_rcv rfl rfl) (f_X3_draw_run (Nat.le_sub_of_add_le (Nat.le_trans (by decide) hd)) hy10) rfl ?_
      refine hq_lc2 (100 : Int64) rfl (by decide) ?_
      obtain ⟨x11, hx11, h⟩ := hq_bind h
      refine hq_lrem_ rfl hx11 ?_
      refine hq_p 1 85 [some (.ref 113)] [.ref 113, .long x11] (fun n h => rfl) ?_
      refine hq_gf (x := .ref (hq_gr y10.2 113 0)) rfl rfl rfl rfl rfl ?_
      have m12 : hq_isT (hq_gr y10.2 113 0) := hq_ifT h
      rw [if_pos m12] at h
      refine hq_gf (x := .int (hq_gi y10.2 (hq_gr y10.2 113 0) 13)) rfl (hq_shT m12) rfl rfl rfl ?_
      refine hq_p 2 93 [some (.ref 113)] [.int (lg_cmp x11 (hq_gi y10.2 (hq_gr y10.2 113 0) 13).toInt64)] (fun n h => rfl) ?_
      by_cases c13 : (lg_cmp x11 (hq_gi y10.2 (hq_gr y10.2 113 0) 13).toInt64) < 0
      · rw [if_pos c13] at h
        refine hq_izF rfl (hq_c_ge_F c13) ?_
        exact f_X3_gripHolds_J96_run hd h
      · rw [if_neg c13] at h
        refine hq_izT rfl (hq_c_ge_T c13) ?_
        refine hq_p 1 101 [some (.ref 113)] [.int (0 : Int32)] (fun n h => rfl) ?_
        have h := Option.some.inj h
        subst h
        exact ⟨1, rfl⟩
    · rw [if_neg c9] at h
      refine hq_izT rfl (hq_c_le_T c9) ?_
      refine hq_p 1 101 [some (.ref 113)] [.int (0 : Int32)] (fun n h => rfl) ?_
      have h := Option.some.inj h
      subst h
      exact ⟨1, rfl⟩
def f_X3_catchBy_L2_B (n : Nat) (q2 : Int32 → Int32 → hq_S → Option hq_S) (a1 : Int32) (a2 : Int32) (s : hq_S) : Option hq_S := if hq_isT (hq_gr s 113 0) then if a2 < (hq_gi s (hq_gr s 113 0) 11) then if hq_isN (hq_gr s 113 2) then (f_X5_isFree n (hq_gr s 113 2) a2 s).bind fun y4 => (if y4.1 = 0 then some (0 : Int32) else if hq_isN (hq_gr y4.2 113 2) then (hq_ld y4.2 ((hq_gr y4.2 113 2) + 5) 4 a2).bind fun x8 => if hq_isN (hq_gr y4.2 113 2) then (hq_ld y4.2 ((hq_gr y4.2 113 2) + 2) 3 a1).bind fun x10 => if x8 = x10 then some (1 : Int32) else some (0 : Int32) else none else none).bind fun z5 => (if z5 = 0 then some y4.2 else (f_X3_gripHolds n y4.2).bind fun y14 => if y14.1 = 0 then some y14.2 else if hq_isN (hq_gr y14.2 113 2) then (hq_st y14.2 ((hq_gr y14.2 113 2) + 8) 4 a2 a1).bind fun s17 => if hq_isN (hq_gr s17 113 2) then (hq_ld s17 ((hq_gr s17 113 2) + 4) 3 a1).bind fun x19 => (hq_st s17 ((hq_gr s17 113 2) + 4) 3 a1 (x19 + (1 : Int32))).bind fun s20 => some s20 else none else none).bind fun z12 => q2 a1 (a2 + (1 : Int32)) z12 else none else some s else none
def f_X3_catchBy_L2 (n : Nat) (m : Nat) : Int32 → Int32 → hq_S → Option hq_S := Nat.rec (fun _ _ _ => none) (fun _ q => f_X3_catchBy_L2_B n q) m
theorem f_X3_catchBy_L2_Brun {xs : List Int32} {n d g : Nat} {a1 : Int32} {a2 : Int32} {o3 : Option Value} {q2 : Int32 → Int32 → hq_S → Option hq_S} {s : hq_S} {y : hq_S} (hd : 2 ≤ d) (e2 : ∀ (a1 : Int32) (a2 : Int32) (o3 : Option Value) (s : hq_S), q2 a1 a2 s = some y → hq_R (mm_O xs) d mc_X3_catchBy 2 [some (.ref 113), some (.int a1), some (.int a2), o3] [] s g none y) (h : f_X3_catchBy_L2_B n q2 a1 a2 s = some y) : hq_R (mm_O xs) d mc_X3_catchBy 2 [some (.ref 113), some (.int a1), some (.int a2), o3] [] s g none y := by
  unfold f_X3_catchBy_L2_B at h
  refine hq_p 2 4 [some (.ref 113), some (.int a1), some (.int a2), o3] [.ref 113, .int a2] (fun n h => rfl) ?_
  refine hq_gf (x := .ref (hq_gr s 113 0)) rfl rfl rfl rfl rfl ?_
  have m1 : hq_isT (hq_gr s 113 0) := hq_ifT h
  rw [if_pos m1] at h
  refine hq_gf (x := .int (hq_gi s (hq_gr s 113 0) 11)) rfl (hq_shT m1) rfl rfl rfl ?_
  by_cases c2 : a2 < (hq_gi s (hq_gr s 113 0) 11)
  · rw [if_pos c2] at h
    refine hq_icF rfl (hq_c_ge_F c2) ?_
    refine hq_p 1 14 [some (.ref 113), some (.int a1), some (.int a2), o3] [.ref 113] (fun n h => rfl) ?_
    refine hq_gf (x := .ref (hq_gr s 113 2)) rfl rfl rfl rfl rfl ?_
    have m3 : hq_isN (hq_gr s 113 2) := hq_ifT h
    rw [if_pos m3] at h
    refine hq_p 1 18 [some (.ref 113), some (.int a1), some (.int a2), o3] [.int a2, .ref (hq_gr s 113 2)] (fun n h => rfl) ?_
    obtain ⟨y4, hy4, h⟩ := hq_bind h
    refine hq_inv rfl rfl (Nat.le_trans (by decide) hd) rfl rfl (hq_rcv (hq_shN m3) rfl) (f_X5_isFree_run (Nat.le_sub_of_add_le (Nat.le_trans (by decide) hd)) m3 hy4) rfl ?_
    obtain ⟨z5, hz5, h⟩ := hq_bind h
    suffices hT : hq_R (mm_O xs) d mc_X3_catchBy 50 [some (.ref 113), some (.int a1), some (.int a2), o3] [.int z5] y4.2 g none y from by
      clear h
      have h := hz5
      by_cases c6 : y4.1 = 0
      · rw [if_pos c6] at h
        refine hq_izT rfl (hq_c_eq_T c6) ?_
        refine hq_p 1 50 [some (.ref 113), some (.int a1), some (.int a2), o3] [.int (0 : Int32)] (fun n h => rfl) ?_
        cases h
        exact hT
      · rw [if_neg c6] at h
        refine hq_izF rfl (hq_c_eq_F c6) ?_
        refine hq_p 1 25 [some (.ref 113), some (.int a1), some (.int a2), o3] [.ref 113] (fun n h => rfl) ?_
        refine hq_gf (x := .ref (hq_gr y4.2 113 2)) rfl rfl rfl rfl rfl ?_
        have m7 : hq_isN (hq_gr y4.2 113 2) := hq_ifT h
        rw [if_pos m7] at h
        refine hq_gf (x := .ref ((hq_gr y4.2 113 2) + 5)) rfl (hq_shN m7) rfl rfl (hq_fldr (hq_shN_u m7)) ?_
        refine hq_p 1 32 [some (.ref 113), some (.int a1), some (.int a2), o3] [.int a2, .ref ((hq_gr y4.2 113 2) + 5)] (fun n h => rfl) ?_
        obtain ⟨x8, hx8, h⟩ := hq_bind h
        refine hq_iaload rfl (hq_shN_5 m7) List.length_replicate hx8 ?_
        refine hq_p 1 34 [some (.ref 113), some (.int a1), some (.int a2), o3] [.ref 113, .int x8] (fun n h => rfl) ?_
        refine hq_gf (x := .ref (hq_gr y4.2 113 2)) rfl rfl rfl rfl rfl ?_
        have m9 : hq_isN (hq_gr y4.2 113 2) := hq_ifT h
        rw [if_pos m9] at h
        refine hq_gf (x := .ref ((hq_gr y4.2 113 2) + 2)) rfl (hq_shN m9) rfl rfl (hq_fldr (hq_shN_u m9)) ?_
        refine hq_p 1 41 [some (.ref 113), some (.int a1), some (.int a2), o3] [.int a1, .ref ((hq_gr y4.2 113 2) + 2), .int x8] (fun n h => rfl) ?_
        obtain ⟨x10, hx10, h⟩ := hq_bind h
        refine hq_iaload rfl (hq_shN_2 m9) List.length_replicate hx10 ?_
        by_cases c11 : x8 = x10
        · rw [if_pos c11] at h
          refine hq_icF rfl (hq_c_ne_F c11) ?_
          refine hq_p 2 50 [some (.ref 113), some (.int a1), some (.int a2), o3] [.int (1 : Int32)] (fun n h => rfl) ?_
          cases h
          exact hT
        · rw [if_neg c11] at h
          refine hq_icT rfl (hq_c_ne_T c11) ?_
          refine hq_p 1 50 [some (.ref 113), some (.int a1), some (.int a2), o3] [.int (0 : Int32)] (fun n h => rfl) ?_
          cases h
          exact hT
    refine hq_p 2 52 [some (.ref 113), some (.int a1), some (.int a2), some (.int z5)] [.int z5] (fun n h => rfl) ?_
    obtain ⟨z12, hz12, h⟩ := hq_bind h
    suffices hT : hq_R (mm_O xs) d mc_X3_catchBy 85 [some (.ref 113), some (.int a1), some (.int a2), some (.int z5)] [] z12 g none y from by
      clear h
      have h := hz12
      by_cases c13 : z5 = 0
      · rw [if_pos c13] at h
        refine hq_izT rfl (hq_c_eq_T c13) ?_
        cases h
        exact hT
      · rw [if_neg c13] at h
        refine hq_izF rfl (hq_c_eq_F c13) ?_
        refine hq_p 1 56 [some (.ref 113), some (.int a1), some (.int a2), some (.int z5)] [.ref 113] (fun n h => rfl) ?_
        obtain ⟨y14, hy14, h⟩ := hq_bind h
        refine hq_inv rfl rfl (Nat.le_trans (by decide) hd) rfl rfl (hq_rcv rfl rfl) (f_X3_gripHolds_run (Nat.le_sub_of_add_le (Nat.le_trans (by decide) hd)) hy14) rfl ?_
        by_cases c15 : y14.1 = 0
        · rw [if_pos c15] at h
          refine hq_izT rfl (hq_c_eq_T c15) ?_
          cases h
          exact hT
        · rw [if_neg c15] at h
          refine hq_izF rfl (hq_c_eq_F c15) ?_
          refine hq_p 1 63 [some (.ref 113), some (.int a1), some (.int a2), some (.int z5)] [.ref 113] (fun n h => rfl) ?_
          refine hq_gf (x := .ref (hq_gr y14.2 113 2)) rfl rfl rfl rfl rfl ?_
          have m16 : hq_isN (hq_gr y14.2 113 2) := hq_ifT h
          rw [if_pos m16] at h
          refine hq_gf (x := .ref ((hq_gr y14.2 113 2) + 8)) rfl (hq_shN m16) rfl rfl (hq_fldr (hq_shN_u m16)) ?_
          refine hq_p 2 71 [some (.ref 113), some (.int a1), some (.int a2), some (.int z5)] [.int a1, .int a2, .ref ((hq_gr y14.2 113 2) + 8)] (fun n h => rfl) ?_
          obtain ⟨s17, hs17, h⟩ := hq_bind h
          refine hq_iastore rfl (hq_shN_8 m16) List.length_replicate hs17 ?_
          refine hq_p 1 73 [some (.ref 113), some (.int a1), some (.int a2), some (.int z5)] [.ref 113] (fun n h => rfl) ?_
          refine hq_gf (x := .ref (hq_gr s17 113 2)) rfl rfl rfl rfl rfl ?_
          have m18 : hq_isN (hq_gr s17 113 2) := hq_ifT h
          rw [if_pos m18] at h
          refine hq_gf (x := .ref ((hq_gr s17 113 2) + 4)) rfl (hq_shN m18) rfl rfl (hq_fldr (hq_shN_u m18)) ?_
          refine hq_p 2 81 [some (.ref 113), some (.int a1), some (.int a2), some (.int z5)] [.int a1, .ref ((hq_gr s17 113 2) + 4), .int a1, .ref ((hq_gr s17 113 2) + 4)] (fun n h => rfl) ?_
          obtain ⟨x19, hx19, h⟩ := hq_bind h
          refine hq_iaload rfl (hq_shN_4 m18) List.length_replicate hx19 ?_
          refine hq_p 2 84 [some (.ref 113), some (.int a1), some (.int a2), some (.int z5)] [.int (x19 + (1 : Int32)), .int a1, .ref ((hq_gr s17 113 2) + 4)] (fun n h => rfl) ?_
          obtain ⟨s20, hs20, h⟩ := hq_bind h
          refine hq_iastore rfl (hq_shN_4 m18) List.length_replicate hs20 ?_
          cases h
          exact hT
    refine hq_p 2 2 [some (.ref 113), some (.int a1), some (.int (a2 + (1 : Int32))), some (.int z5)] [] (fun n h => rfl) ?_
    exact e2 a1 (a2 + (1 : Int32)) _ z12 h
  · rw [if_neg c2] at h
    refine hq_icT rfl (hq_c_ge_T c2) ?_
    have h := Option.some.inj h
    subst h
    exact ⟨1, rfl⟩
theorem f_X3_catchBy_L2_run {xs : List Int32} {n m d g : Nat} {a1 : Int32} {a2 : Int32} {o3 : Option Value} {s : hq_S} {y : hq_S} (hd : 2 ≤ d) (h : f_X3_catchBy_L2 n m a1 a2 s = some y) : hq_R (mm_O xs) d mc_X3_catchBy 2 [some (.ref 113), some (.int a1), some (.int a2), o3] [] s g none y := by
  induction m generalizing a1 a2 o3 s with
  | zero => cases h
  | succ m ih => exact f_X3_catchBy_L2_Brun (n := n) hd (fun a1 a2 o3 s h => ih h) h
def f_X3_catchBy (n : Nat) (a1 : Int32) (s : hq_S) : Option hq_S := f_X3_catchBy_L2 n n a1 (0 : Int32) s
theorem f_X3_catchBy_run {xs : List Int32} {n d g : Nat} {a1 : Int32} {s : hq_S} {y : hq_S} (hd : 2 ≤ d) (h : f_X3_catchBy n a1 s = some y) : hq_R (mm_O xs) d mc_X3_catchBy 0 [some (.ref 113), some (.int a1), none, none] [] s g none y := by
  unfold f_X3_catchBy at h
  refine hq_p 2 2 [some (.ref 113), some (.int a1), some (.int (0 : Int32)), none] [] (fun n h => rfl) ?_
  exact f_X3_catchBy_L2_run hd h
def f_X3_takeLoot (n : Nat) (a1 : Int32) (s : hq_S) : Option hq_S := if hq_isN (hq_gr s 113 2) then (hq_ld s ((hq_gr s 113 2) + 5) 4 a1).bind fun x2 => (f_X3_lawValue n (1 : Int32) a1 x2 s).bind fun y3 => (if (lg_cmp y3.1 (-9223372036854775808 : Int64)) = 0 then if hq_isN (hq_gr y3.2 113 2) then (hq_ld y3.2 ((hq_gr y3.2 113 2) + 6) 4 a1).bind fun x7 => some ((x7 + (1 : Int32)).toInt64) else none else some (hq_maxj (0 : Int64) (hq_minj (99 : Int64) y3.1))).bind fun z4 => if hq_isN (hq_gr y3.2 113 2) then (hq_ld y3.2 ((hq_gr y3.2 113 2) + 1) 10 x2).bind fun x9 => if hq_isN (hq_gr y3.2 113 2) then (hq_ld y3.2 ((hq_gr y3.2 113 2) + 1) 10 x2).bind fun x11 => (hq_st y3.2 ((hq_gr y3.2 113 2) + 1) 10 x2 (x11 - (hq_minj z4 x9.toInt64).toInt32)).bind fun s12 => if hq_isN (hq_gr s12 113 2) then (hq_ld s12 ((hq_gr s12 113 2) + 7) 4 a1).bind fun x14 => (hq_st s12 ((hq_gr s12 113 2) + 7) 4 a1 (x14 + (hq_minj z4 x9.toInt64).toInt32)).bind fun s15 => some s15 else none else none else none else none
theorem f_X3_takeLoot_run {xs : List Int32} {n d g : Nat} {a1 : Int32} {s : hq_S} {y : hq_S} (hd : 3 ≤ d) (h : f_X3_takeLoot n a1 s = some y) : hq_R (mm_O xs) d mc_X3_takeLoot 0 [some (.ref 113), some (.int a1), none, none, none, none, none, none] [] s g none y := by
  unfold f_X3_takeLoot at h
  refine hq_p 1 1 [some (.ref 113), some (.int a1), none, none, none, none, none, none] [.ref 113] (fun n h => rfl) ?_
  refine hq_gf (x := .ref (hq_gr s 113 2)) rfl rfl rfl rfl rfl ?_
  have m1 : hq_isN (hq_gr s 113 2) := hq_ifT h
  rw [if_pos m1] at h
  refine hq_gf (x := .ref ((hq_gr s 113 2) + 5)) rfl (hq_shN m1) rfl rfl (hq_fldr (hq_shN_u m1)) ?_
  refine hq_p 1 8 [some (.ref 113), some (.int a1), none, none, none, none, none, none] [.int a1, .ref ((hq_gr s 113 2) + 5)] (fun n h => rfl) ?_
  obtain ⟨x2, hx2, h⟩ := hq_bind h
  refine hq_iaload rfl (hq_shN_5 m1) List.length_replicate hx2 ?_
  refine hq_p 5 14 [some (.ref 113), some (.int a1), some (.int x2), none, none, none, none, none] [.int x2, .int a1, .int (1 : Int32), .ref 113] (fun n h => rfl) ?_
  obtain ⟨y3, hy3, h⟩ := hq_bind h
  refine hq_inv rfl rfl (Nat.le_trans (by decide) hd) rfl rfl (hq_rcv rfl rfl) (f_X3_lawValue_run (Nat.le_sub_of_add_le (Nat.le_trans (by decide) hd)) hy3) rfl ?_
  refine hq_p 2 19 [some (.ref 113), some (.int a1), some (.int x2), some (.long y3.1), none, none, none, none] [.long y3.1] (fun n h => rfl) ?_
  refine hq_lc2 (-9223372036854775808 : Int64) rfl (by decide) ?_
  refine hq_p 1 23 [some (.ref 113), some (.int a1), some (.int x2), some (.long y3.1), none, none, none, none] [.int (lg_cmp y3.1 (-9223372036854775808 : Int64))] (fun n h => rfl) ?_
  obtain ⟨z4, hz4, h⟩ := hq_bind h
  suffices hT : hq_R (mm_O xs) d mc_X3_takeLoot 52 [some (.ref 113), some (.int a1), some (.int x2), some (.long y3.1), none, none, none, none] [.long z4] y3.2 g none y from by
    clear h
    have h := hz4
    by_cases c5 : (lg_cmp y3.1 (-9223372036854775808 : Int64)) = 0
    · rw [if_pos c5] at h
      refine hq_izF rfl (hq_c_ne_F c5) ?_
      refine hq_p 1 27 [some (.ref 113), some (.int a1), some (.int x2), some (.long y3.1), none, none, none, none] [.ref 113] (fun n h => rfl) ?_
      refine hq_gf (x := .ref (hq_gr y3.2 113 2)) rfl rfl rfl rfl rfl ?_
      have m6 : hq_isN (hq_gr y3.2 113 2) := hq_ifT h
      rw [if_pos m6] at h
      refine hq_gf (x := .ref ((hq_gr y3.2 113 2) + 6)) rfl (hq_shN m6) rfl rfl (hq_fldr (hq_shN_u m6)) ?_
      refine hq_p 1 34 [some (.ref 113), some (.int a1), some (.int x2), some (.long y3.1), none, none, none, none] [.int a1, .ref ((hq_gr y3.2 113 2) + 6)] (fun n h => rfl) ?_
      obtain ⟨x7, hx7, h⟩ := hq_bind h
      refine hq_iaload rfl (hq_shN_6 m6) List.length_replicate hx7 ?_
      refine hq_p 4 52 [some (.ref 113), some (.int a1), some (.int x2), some (.long y3.1), none, none, none, none] [.long (x7 + (1 : Int32)).toInt64] (fun n h => rfl) ?_
      cases h
      exact hT
    · rw [if_neg c5] at h
      refine hq_izT rfl (hq_c_ne_T c5) ?_
      refine hq_p 1 42 [some (.ref 113), some (.int a1), some (.int x2), some (.long y3.1), none, none, none, none] [.long (0 : Int64)] (fun n h => rfl) ?_
      refine hq_lc2 (99 : Int64) rfl (by decide) ?_
      refine hq_p 1 46 [some (.ref 113), some (.int a1), some (.int x2), some (.long y3.1), none, none, none, none] [.long y3.1, .long (99 : Int64), .long (0 : Int64)] (fun n h => rfl) ?_
      refine hq_math rfl rfl rfl (Nat.le_trans (by decide) hd) ?_
      refine hq_math rfl rfl rfl (Nat.le_trans (by decide) hd) ?_
      cases h
      exact hT
  refine hq_p 3 57 [some (.ref 113), some (.int a1), some (.int x2), some (.long y3.1), none, some (.long z4), none, none] [.ref 113, .long z4] (fun n h => rfl) ?_
  refine hq_gf (x := .ref (hq_gr y3.2 113 2)) rfl rfl rfl rfl rfl ?_
  have m8 : hq_isN (hq_gr y3.2 113 2) := hq_ifT h
  rw [if_pos m8] at h
  refine hq_gf (x := .ref ((hq_gr y3.2 113 2) + 1)) rfl (hq_shN m8) rfl rfl (hq_fldr (hq_shN_u m8)) ?_
  refine hq_p 1 64 [some (.ref 113), some (.int a1), some (.int x2), some (.long y3.1), none, some (.long z4), none, none] [.int x2, .ref ((hq_gr y3.2 113 2) + 1), .long z4] (fun n h => rfl) ?_
  obtain ⟨x9, hx9, h⟩ := hq_bind h
  refine hq_iaload rfl (hq_shN_1 m8) List.length_replicate hx9 ?_
  refine hq_p 1 66 [some (.ref 113), some (.int a1), some (.int x2), some (.long y3.1), none, some (.long z4), none, none] [.long x9.toInt64, .long z4] (fun n h => rfl) ?_
  refine hq_math rfl rfl rfl (Nat.le_trans (by decide) hd) ?_
  refine hq_p 3 73 [some (.ref 113), some (.int a1), some (.int x2), some (.long y3.1), none, some (.long z4), none, some (.int (hq_minj z4 x9.toInt64).toInt32)] [.ref 113] (fun n h => rfl) ?_
  refine hq_gf (x := .ref (hq_gr y3.2 113 2)) rfl rfl rfl rfl rfl ?_
  have m10 : hq_isN (hq_gr y3.2 113 2) := hq_ifT h
  rw [if_pos m10] at h
  refine hq_gf (x := .ref ((hq_gr y3.2 113 2) + 1)) rfl (hq_shN m10) rfl rfl (hq_fldr (hq_shN_u m10)) ?_
  refine hq_p 2 81 [some (.ref 113), some (.int a1), some (.int x2), some (.long y3.1), none, some (.long z4), none, some (.int (hq_minj z4 x9.toInt64).toInt32)] [.int x2, .ref ((hq_gr y3.2 113 2) + 1), .int x2, .ref ((hq_gr y3.2 113 2) + 1)] (fun n h => rfl) ?_
  obtain ⟨x11, hx11, h⟩ := hq_bind h
  refine hq_iaload rfl (hq_shN_1 m10) List.length_replicate hx11 ?_
  refine hq_p 2 85 [some (.ref 113), some (.int a1), some (.int x2), some (.long y3.1), none, some (.long z4), none, some (.int (hq_minj z4 x9.toInt64).toInt32)] [.int (x11 - (hq_minj z4 x9.toInt64).toInt32), .int x2, .ref ((hq_gr y3.2 113 2) + 1)] (fun n h => rfl) ?_
  obtain ⟨s12, hs12, h⟩ := hq_bind h
  refine hq_iastore rfl (hq_shN_1 m10) List.length_replicate hs12 ?_
  refine hq_p 1 87 [some (.ref 113), some (.int a1), some (.int x2), some (.long y3.1), none, some (.long z4), none, some (.int (hq_minj z4 x9.toInt64).toInt32)] [.ref 113] (fun n h => rfl) ?_
  refine hq_gf (x := .ref (hq_gr s12 113 2)) rfl rfl rfl rfl rfl ?_
  have m13 : hq_isN (hq_gr s12 113 2) := hq_ifT h
  rw [if_pos m13] at h
  refine hq_gf (x := .ref ((hq_gr s12 113 2) + 7)) rfl (hq_shN m13) rfl rfl (hq_fldr (hq_shN_u m13)) ?_
  refine hq_p 2 95 [some (.ref 113), some (.int a1), some (.int x2), some (.long y3.1), none, some (.long z4), none, some (.int (hq_minj z4 x9.toInt64).toInt32)] [.int a1, .ref ((hq_gr s12 113 2) + 7), .int a1, .ref ((hq_gr s12 113 2) + 7)] (fun n h => rfl) ?_
  obtain ⟨x14, hx14, h⟩ := hq_bind h
  refine hq_iaload rfl (hq_shN_7 m13) List.length_replicate hx14 ?_
  refine hq_p 2 99 [some (.ref 113), some (.int a1), some (.int x2), some (.long y3.1), none, some (.long z4), none, some (.int (hq_minj z4 x9.toInt64).toInt32)] [.int (x14 + (hq_minj z4 x9.toInt64).toInt32), .int a1, .ref ((hq_gr s12 113 2) + 7)] (fun n h => rfl) ?_
  obtain ⟨s15, hs15, h⟩ := hq_bind h
  refine hq_iastore rfl (hq_shN_7 m13) List.length_replicate hs15 ?_
  have h := Option.some.inj h
  subst h
  exact ⟨1, rfl⟩
def f_X3_pass_L73_B (n : Nat) (q73 : Int32 → hq_S → Option hq_S) (a1 : Int32) (s : hq_S) : Option hq_S := if hq_isT (hq_gr s 113 0) then if a1 < (hq_gi s (hq_gr s 113 0) 11) then if hq_isN (hq_gr s 113 2) then (f_X5_isFree n (hq_gr s 113 2) a1 s).bind fun y11 => (if y11.1 = 0 then some y11.2 else (f_X3_takeLoot n a1 y11.2).bind fun s14 => some s14).bind fun z12 => q73 (a1 + (1 : Int32)) z12 else none else if hq_isN (hq_gr s 113 2) then (hq_pi s (hq_gr s 113 2) 0 0 ((hq_gi s (hq_gr s 113 2) 0) + (1 : Int32))).bind fun s9 => some s9 else none else none
def f_X3_pass_L73 (n : Nat) (m : Nat) : Int32 → hq_S → Option hq_S := Nat.rec (fun _ _ => none) (fun _ q => f_X3_pass_L73_B n q) m
theorem f_X3_pass_L73_Brun {xs : List Int32} {n d g : Nat} {a1 : Int32} {q73 : Int32 → hq_S → Option hq_S} {s : hq_S} {y : hq_S} (hd : 5 ≤ d) (e73 : ∀ (a1 : Int32) (s : hq_S), q73 a1 s = some y → hq_R (mm_O xs) d mc_X3_pass 73 [some (.ref 113), some (.int a1)] [] s g none y) (h : f_X3_pass_L73_B n q73 a1 s = some y) : hq_R (mm_O xs) d mc_X3_pass 73 [some (.ref 113), some (.int a1)] [] s g none y := by
  unfold f_X3_pass_L73_B at h
  refine hq_p 2 75 [some (.ref 113), some (.int a1)] [.ref 113, .int a1] (fun n h => rfl) ?_
  refine hq_gf (x := .ref (hq_gr s 113 0)) rfl rfl rfl rfl rfl ?_
  have m6 : hq_isT (hq_gr s 113 0) := hq_ifT h
  rw [if_pos m6] at h
  refine hq_gf (x := .int (hq_gi s (hq_gr s 113 0) 11)) rfl (hq_shT m6) rfl rfl rfl ?_
  by_cases c7 : a1 < (hq_gi s (hq_gr s 113 0) 11)
  · rw [if_pos c7] at h
    refine hq_icF rfl (hq_c_ge_F c7) ?_
    refine hq_p 1 85 [some (.ref 113), some (.int a1)] [.ref 113] (fun n h => rfl) ?_
    refine hq_gf (x := .ref (hq_gr s 113 2)) rfl rfl rfl rfl rfl ?_
    have m10 : hq_isN (hq_gr s 113 2) := hq_ifT h
    rw [if_pos m10] at h
    refine hq_p 1 89 [some (.ref 113), some (.int a1)] [.int a1, .ref (hq_gr s 113 2)] (fun n h => rfl) ?_
    obtain ⟨y11, hy11, h⟩ := hq_bind h
    refine hq_inv rfl rfl (Nat.le_trans (by decide) hd) rfl rfl (hq_rcv (hq_shN m10) rfl) (f_X5_isFree_run (Nat.le_sub_of_add_le (Nat.le_trans (by decide) hd)) m10 hy11) rfl ?_
    obtain ⟨z12, hz12, h⟩ := hq_bind h
    suffices hT : hq_R (mm_O xs) d mc_X3_pass 100 [some (.ref 113), some (.int a1)] [] z12 g none y from by
      clear h
      have h := hz12
      by_cases c13 : y11.1 = 0
      · rw [if_pos c13] at h
        refine hq_izT rfl (hq_c_eq_T c13) ?_
        cases h
        exact hT
      · rw [if_neg c13] at h
        refine hq_izF rfl (hq_c_eq_F c13) ?_
        refine hq_p 2 97 [some (.ref 113), some (.int a1)] [.int a1, .ref 113] (fun n h => rfl) ?_
        obtain ⟨s14, hs14, h⟩ := hq_bind h
        refine hq_inv rfl rfl (Nat.le_trans (by decide) hd) rfl rfl (hq_rcv rfl rfl) (f_X3_takeLoot_run (Nat.le_sub_of_add_le (Nat.le_trans (by decide) hd)) hs14) rfl ?_
        cases h
        exact hT
    refine hq_p 2 73 [some (.ref 113), some (.int (a1 + (1 : Int32)))] [] (fun n h => rfl) ?_
    exact e73 (a1 + (1 : Int32)) z12 h
  · rw [if_neg c7] at h
    refine hq_icT rfl (hq_c_ge_T c7) ?_
    refine hq_p 1 107 [some (.ref 113), some (.int a1)] [.ref 113] (fun n h => rfl) ?_
    refine hq_gf (x := .ref (hq_gr s 113 2)) rfl rfl rfl rfl rfl ?_
    have m8 : hq_isN (hq_gr s 113 2) := hq_ifT h
    rw [if_pos m8] at h
    refine hq_p 1 111 [some (.ref 113), some (.int a1)] [.ref (hq_gr s 113 2), .ref (hq_gr s 113 2)] (fun n h => rfl) ?_
    refine hq_gf (x := .int (hq_gi s (hq_gr s 113 2) 0)) rfl (hq_shN m8) rfl rfl rfl ?_
    refine hq_p 2 116 [some (.ref 113), some (.int a1)] [.int ((hq_gi s (hq_gr s 113 2) 0) + (1 : Int32)), .ref (hq_gr s 113 2)] (fun n h => rfl) ?_
    obtain ⟨s9, hs9, h⟩ := hq_bind h
    refine hq_pfi rfl (hq_shN m8) rfl rfl rfl hs9 ?_
    have h := Option.some.inj h
    subst h
    exact ⟨1, rfl⟩
theorem f_X3_pass_L73_run {xs : List Int32} {n m d g : Nat} {a1 : Int32} {s : hq_S} {y : hq_S} (hd : 5 ≤ d) (h : f_X3_pass_L73 n m a1 s = some y) : hq_R (mm_O xs) d mc_X3_pass 73 [some (.ref 113), some (.int a1)] [] s g none y := by
  induction m generalizing a1 s with
  | zero => cases h
  | succ m ih => exact f_X3_pass_L73_Brun (n := n) hd (fun a1 s h => ih h) h
def f_X3_pass_L49_B (n : Nat) (q49 : Int32 → hq_S → Option hq_S) (a1 : Int32) (s : hq_S) : Option hq_S := if hq_isT (hq_gr s 113 0) then if a1 < (hq_gi s (hq_gr s 113 0) 7) then (f_X3_catchBy n a1 s).bind fun s15 => q49 (a1 + (1 : Int32)) s15 else f_X3_pass_L73 n n (0 : Int32) s else none
def f_X3_pass_L49 (n : Nat) (m : Nat) : Int32 → hq_S → Option hq_S := Nat.rec (fun _ _ => none) (fun _ q => f_X3_pass_L49_B n q) m
theorem f_X3_pass_L49_Brun {xs : List Int32} {n d g : Nat} {a1 : Int32} {q49 : Int32 → hq_S → Option hq_S} {s : hq_S} {y : hq_S} (hd : 5 ≤ d) (e49 : ∀ (a1 : Int32) (s : hq_S), q49 a1 s = some y → hq_R (mm_O xs) d mc_X3_pass 49 [some (.ref 113), some (.int a1)] [] s g none y) (h : f_X3_pass_L49_B n q49 a1 s = some y) : hq_R (mm_O xs) d mc_X3_pass 49 [some (.ref 113), some (.int a1)] [] s g none y := by
  unfold f_X3_pass_L49_B at h
  refine hq_p 2 51 [some (.ref 113), some (.int a1)] [.ref 113, .int a1] (fun n h => rfl) ?_
  refine hq_gf (x := .ref (hq_gr s 113 0)) rfl rfl rfl rfl rfl ?_
  have m4 : hq_isT (hq_gr s 113 0) := hq_ifT h
  rw [if_pos m4] at h
  refine hq_gf (x := .int (hq_gi s (hq_gr s 113 0) 7)) rfl (hq_shT m4) rfl rfl rfl ?_
  by_cases c5 : a1 < (hq_gi s (hq_gr s 113 0) 7)
  · rw [if_pos c5] at h
    refine hq_icF rfl (hq_c_ge_F c5) ?_
    refine hq_p 2 62 [some (.ref 113), some (.int a1)] [.int a1, .ref 113] (fun n h => rfl) ?_
    obtain ⟨s15, hs15, h⟩ := hq_bind h
    refine hq_inv rfl rfl (Nat.le_trans (by decide) hd) rfl rfl (hq_rcv rfl rfl) (f_X3_catchBy_run (Nat.le_sub_of_add_le (Nat.le_trans (by decide) hd)) hs15) rfl ?_
    refine hq_p 2 49 [some (.ref 113), some (.int (a1 + (1 : Int32)))] [] (fun n h => rfl) ?_
    exact e49 (a1 + (1 : Int32)) s15 h
  · rw [if_neg c5] at h
    refine hq_icT rfl (hq_c_ge_T c5) ?_
    refine hq_p 2 73 [some (.ref 113), some (.int (0 : Int32))] [] (fun n h => rfl) ?_
    exact f_X3_pass_L73_run hd h
theorem f_X3_pass_L49_run {xs : List Int32} {n m d g : Nat} {a1 : Int32} {s : hq_S} {y : hq_S} (hd : 5 ≤ d) (h : f_X3_pass_L49 n m a1 s = some y) : hq_R (mm_O xs) d mc_X3_pass 49 [some (.ref 113), some (.int a1)] [] s g none y := by
  induction m generalizing a1 s with
  | zero => cases h
  | succ m ih => exact f_X3_pass_L49_Brun (n := n) hd (fun a1 s h => ih h) h
def f_X3_pass_L6_B (n : Nat) (q6 : Int32 → hq_S → Option hq_S) (a1 : Int32) (s : hq_S) : Option hq_S := if hq_isT (hq_gr s 113 0) then if a1 < (hq_gi s (hq_gr s 113 0) 11) then if hq_isN (hq_gr s 113 2) then (f_X5_isFree n (hq_gr s 113 2) a1 s).bind fun y17 => (if y17.1 = 0 then some y17.2 else (f_X3_stirs n a1 y17.2).bind fun y20 => if y20.1 = 0 then some y20.2 else (f_X3_goWhereDreadIsLeast n a1 y20.2).bind fun s22 => some s22).bind fun z18 => q6 (a1 + (1 : Int32)) z18 else none else f_X3_pass_L49 n n (0 : Int32) s else none
def f_X3_pass_L6 (n : Nat) (m : Nat) : Int32 → hq_S → Option hq_S := Nat.rec (fun _ _ => none) (fun _ q => f_X3_pass_L6_B n q) m
theorem f_X3_pass_L6_Brun {xs : List Int32} {n d g : Nat} {a1 : Int32} {q6 : Int32 → hq_S → Option hq_S} {s : hq_S} {y : hq_S} (hd : 5 ≤ d) (e6 : ∀ (a1 : Int32) (s : hq_S), q6 a1 s = some y → hq_R (mm_O xs) d mc_X3_pass 6 [some (.ref 113), some (.int a1)] [] s g none y) (h : f_X3_pass_L6_B n q6 a1 s = some y) : hq_R (mm_O xs) d mc_X3_pass 6 [some (.ref 113), some (.int a1)] [] s g none y := by
  unfold f_X3_pass_L6_B at h
  refine hq_p 2 8 [some (.ref 113), some (.int a1)] [.ref 113, .int a1] (fun n h => rfl) ?_
  refine hq_gf (x := .ref (hq_gr s 113 0)) rfl rfl rfl rfl rfl ?_
  have m2 : hq_isT (hq_gr s 113 0) := hq_ifT h
  rw [if_pos m2] at h
  refine hq_gf (x := .int (hq_gi s (hq_gr s 113 0) 11)) rfl (hq_shT m2) rfl rfl rfl ?_
  by_cases c3 : a1 < (hq_gi s (hq_gr s 113 0) 11)
  · rw [if_pos c3] at h
    refine hq_icF rfl (hq_c_ge_F c3) ?_
    refine hq_p 1 18 [some (.ref 113), some (.int a1)] [.ref 113] (fun n h => rfl) ?_
    refine hq_gf (x := .ref (hq_gr s 113 2)) rfl rfl rfl rfl rfl ?_
    have m16 : hq_isN (hq_gr s 113 2) := hq_ifT h
    rw [if_pos m16] at h
    refine hq_p 1 22 [some (.ref 113), some (.int a1)] [.int a1, .ref (hq_gr s 113 2)] (fun n h => rfl) ?_
    obtain ⟨y17, hy17, h⟩ := hq_bind h
    refine hq_inv rfl rfl (Nat.le_trans (by decide) hd) rfl rfl (hq_rcv (hq_shN m16) rfl) (f_X5_isFree_run (Nat.le_sub_of_add_le (Nat.le_trans (by decide) hd)) m16 hy17) rfl ?_
    obtain ⟨z18, hz18, h⟩ := hq_bind h
    suffices hT : hq_R (mm_O xs) d mc_X3_pass 41 [some (.ref 113), some (.int a1)] [] z18 g none y from by
      clear h
      have h := hz18
      by_cases c19 : y17.1 = 0
      · rw [if_pos c19] at h
        refine hq_izT rfl (hq_c_eq_T c19) ?_
        cases h
        exact hT
      · rw [if_neg c19] at h
        refine hq_izF rfl (hq_c_eq_F c19) ?_
        refine hq_p 2 30 [some (.ref 113), some (.int a1)] [.int a1, .ref 113] (fun n h => rfl) ?_
        obtain ⟨y20, hy20, h⟩ := hq_bind h
        refine hq_inv rfl rfl (Nat.le_trans (by decide) hd) rfl rfl (hq_rcv rfl rfl) (f_X3_stirs_run (Nat.le_sub_of_add_le (Nat.le_trans (by decide) hd)) hy20) rfl ?_
        by_cases c21 : y20.1 = 0
        · rw [if_pos c21] at h
          refine hq_izT rfl (hq_c_eq_T c21) ?_
          cases h
          exact hT
        · rw [if_neg c21] at h
          refine hq_izF rfl (hq_c_eq_F c21) ?_
          refine hq_p 2 38 [some (.ref 113), some (.int a1)] [.int a1, .ref 113] (fun n h => rfl) ?_
          obtain ⟨s22, hs22, h⟩ := hq_bind h
          refine hq_inv rfl rfl (Nat.le_trans (by decide) hd) rfl rfl (hq_rcv rfl rfl) (f_X3_goWhereDreadIsLeast_run (Nat.le_sub_of_add_le (Nat.le_trans (by decide) hd)) hs22) rfl ?_
          cases h
          exact hT
    refine hq_p 2 6 [some (.ref 113), some (.int (a1 + (1 : Int32)))] [] (fun n h => rfl) ?_
    exact e6 (a1 + (1 : Int32)) z18 h
  · rw [if_neg c3] at h
    refine hq_icT rfl (hq_c_ge_T c3) ?_
    refine hq_p 2 49 [some (.ref 113), some (.int (0 : Int32))] [] (fun n h => rfl) ?_
    exact f_X3_pass_L49_run hd h
theorem f_X3_pass_L6_run {xs : List Int32} {n m d g : Nat} {a1 : Int32} {s : hq_S} {y : hq_S} (hd : 5 ≤ d) (h : f_X3_pass_L6 n m a1 s = some y) : hq_R (mm_O xs) d mc_X3_pass 6 [some (.ref 113), some (.int a1)] [] s g none y := by
  induction m generalizing a1 s with
  | zero => cases h
  | succ m ih => exact f_X3_pass_L6_Brun (n := n) hd (fun a1 s h => ih h) h
def f_X3_pass (n : Nat) (s : hq_S) : Option hq_S := (f_X3_walkBeats n s).bind fun s1 => f_X3_pass_L6 n n (0 : Int32) s1
theorem f_X3_pass_run {xs : List Int32} {n d g : Nat} {s : hq_S} {y : hq_S} (hd : 5 ≤ d) (h : f_X3_pass n s = some y) : hq_R (mm_O xs) d mc_X3_pass 0 [some (.ref 113), none] [] s g none y := by
  unfold f_X3_pass at h
  refine hq_p 1 1 [some (.ref 113), none] [.ref 113] (fun n h => rfl) ?_
  obtain ⟨s1, hs1, h⟩ := hq_bind h
  refine hq_inv rfl rfl (Nat.le_trans (by decide) hd) rfl rfl (hq_rcv rfl rfl) (f_X3_walkBeats_run (Nat.le_sub_of_add_le (Nat.le_trans (by decide) hd)) hs1) rfl ?_
  refine hq_p 2 6 [some (.ref 113), some (.int (0 : Int32))] [] (fun n h => rfl) ?_
  exact f_X3_pass_L6_run hd h
def f_X3_hadOfThief (n : Nat) (a1 : Int32) (s : hq_S) : Option (Int32 × hq_S) := if hq_isN (hq_gr s 113 2) then (hq_ld s ((hq_gr s 113 2) + 7) 4 a1).bind fun x2 => some (x2, s) else none
theorem f_X3_hadOfThief_run {xs : List Int32} {n d g : Nat} {a1 : Int32} {s : hq_S} {y : (Int32 × hq_S)} (hd : 0 ≤ d) (h : f_X3_hadOfThief n a1 s = some y) : hq_R (mm_O xs) d mc_X3_hadOfThief 0 [some (.ref 113), some (.int a1)] [] s g (some (.int y.1)) y.2 := by
  unfold f_X3_hadOfThief at h
  refine hq_p 1 1 [some (.ref 113), some (.int a1)] [.ref 113] (fun n h => rfl) ?_
  refine hq_gf (x := .ref (hq_gr s 113 2)) rfl rfl rfl rfl rfl ?_
  have m1 : hq_isN (hq_gr s 113 2) := hq_ifT h
  rw [if_pos m1] at h
  refine hq_gf (x := .ref ((hq_gr s 113 2) + 7)) rfl (hq_shN m1) rfl rfl (hq_fldr (hq_shN_u m1)) ?_
  refine hq_p 1 8 [some (.ref 113), some (.int a1)] [.int a1, .ref ((hq_gr s 113 2) + 7)] (fun n h => rfl) ?_
  obtain ⟨x2, hx2, h⟩ := hq_bind h
  refine hq_iaload rfl (hq_shN_7 m1) List.length_replicate hx2 ?_
  have h := Option.some.inj h
  subst h
  exact ⟨1, rfl⟩
def f_X3_placeOfThief (n : Nat) (a1 : Int32) (s : hq_S) : Option (Int32 × hq_S) := if hq_isN (hq_gr s 113 2) then (hq_ld s ((hq_gr s 113 2) + 5) 4 a1).bind fun x2 => some (x2, s) else none
theorem f_X3_placeOfThief_run {xs : List Int32} {n d g : Nat} {a1 : Int32} {s : hq_S} {y : (Int32 × hq_S)} (hd : 0 ≤ d) (h : f_X3_placeOfThief n a1 s = some y) : hq_R (mm_O xs) d mc_X3_placeOfThief 0 [some (.ref 113), some (.int a1)] [] s g (some (.int y.1)) y.2 := by
  unfold f_X3_placeOfThief at h
  refine hq_p 1 1 [some (.ref 113), some (.int a1)] [.ref 113] (fun n h => rfl) ?_
  refine hq_gf (x := .ref (hq_gr s 113 2)) rfl rfl rfl rfl rfl ?_
  have m1 : hq_isN (hq_gr s 113 2) := hq_ifT h
  rw [if_pos m1] at h
  refine hq_gf (x := .ref ((hq_gr s 113 2) + 5)) rfl (hq_shN m1) rfl rfl (hq_fldr (hq_shN_u m1)) ?_
  refine hq_p 1 8 [some (.ref 113), some (.int a1)] [.int a1, .ref ((hq_gr s 113 2) + 5)] (fun n h => rfl) ?_
  obtain ⟨x2, hx2, h⟩ := hq_bind h
  refine hq_iaload rfl (hq_shN_5 m1) List.length_replicate hx2 ?_
  have h := Option.some.inj h
  subst h
  exact ⟨1, rfl⟩
def f_X2_areSo_J83 (n : Nat) (q3 : Int32 → Int32 → Int32 → hq_S → Option (Int32 × hq_S)) (a1 : Int32) (a2 : Int32) (a4 : Int32) (a5 : Int32) (s : hq_S) : Option (Int32 × hq_S) := q3 a1 a2 (a4 + (1 : Int32)) s
theorem f_X2_areSo_J83_run {xs : List Int32} {n d g : Nat} {a1 : Int32} {a2 : Int32} {a4 : Int32} {a5 : Int32} {q3 : Int32 → Int32 → Int32 → hq_S → Option (Int32 × hq_S)} {s : hq_S} {y : (Int32 × hq_S)} (hd : 1 ≤ d) (e3 : ∀ (a1 : Int32) (a2 : Int32) (a4 : Int32) (o5 : Option Value) (s : hq_S), q3 a1 a2 a4 s = some y → hq_R (mm_O xs) d mc_X2_areSo 3 [some (.ref 163), some (.int a1), some (.int a2), some (.ref 113), some (.int a4), o5] [] s g (some (.int y.1)) y.2) (h : f_X2_areSo_J83 n q3 a1 a2 a4 a5 s = some y) : hq_R (mm_O xs) d mc_X2_areSo 83 [some (.ref 163), some (.int a1), some (.int a2), some (.ref 113), some (.int a4), some (.int a5)] [] s g (some (.int y.1)) y.2 := by
  unfold f_X2_areSo_J83 at h
  refine hq_p 2 3 [some (.ref 163), some (.int a1), some (.int a2), some (.ref 113), some (.int (a4 + (1 : Int32))), some (.int a5)] [] (fun n h => rfl) ?_
  exact e3 a1 a2 (a4 + (1 : Int32)) _ s h
def f_X2_areSo_L3_B (n : Nat) (q3 : Int32 → Int32 → Int32 → hq_S → Option (Int32 × hq_S)) (a1 : Int32) (a2 : Int32) (a4 : Int32) (s : hq_S) : Option (Int32 × hq_S) := if a4 < (hq_gi s 163 0) then (if ((a1 >>> (a4 &&& 31)) &&& (1 : Int32)) = (1 : Int32) then (hq_ld s 164 24 a4).bind fun x4 => if x4 = a2 then some (1 : Int32) else some (0 : Int32) else some (0 : Int32)).bind fun z2 => if z2 = 0 then f_X2_areSo_J83 n q3 a1 a2 a4 z2 s else (hq_ld s 165 24 a4).bind fun x7 => (f_X3_placeOfThief n x7 s).bind fun y8 => (hq_ld y8.2 166 24 a4).bind fun x9 => (if y8.1 = x9 then some (1 : Int32) else some (0 : Int32)).bind fun z10 => (hq_ld y8.2 167 24 a4).bind fun x12 => if z10 = x12 then f_X2_areSo_J83 n q3 a1 a2 a4 z2 y8.2 else some ((0 : Int32), y8.2) else some ((1 : Int32), s)
def f_X2_areSo_L3 (n : Nat) (m : Nat) : Int32 → Int32 → Int32 → hq_S → Option (Int32 × hq_S) := Nat.rec (fun _ _ _ _ => none) (fun _ q => f_X2_areSo_L3_B n q) m
theorem f_X2_areSo_L3_Brun {xs : List Int32} {n d g : Nat} {a1 : Int32} {a2 : Int32} {a4 : Int32} {o5 : Option Value} {q3 : Int32 → Int32 → Int32 → hq_S → Option (Int32 × hq_S)} {s : hq_S} {y : (Int32 × hq_S)} (hd : 1 ≤ d) (e3 : ∀ (a1 : Int32) (a2 : Int32) (a4 : Int32) (o5 : Option Value) (s : hq_S), q3 a1 a2 a4 s = some y → hq_R (mm_O xs) d mc_X2_areSo 3 [some (.ref 163), some (.int a1), some (.int a2), some (.ref 113), some (.int a4), o5] [] s g (some (.int y.1)) y.2) (h : f_X2_areSo_L3_B n q3 a1 a2 a4 s = some y) : hq_R (mm_O xs) d mc_X2_areSo 3 [some (.ref 163), some (.int a1), some (.int a2), some (.ref 113), some (.int a4), o5] [] s g (some (.int y.1)) y.2 := by
  unfold f_X2_areSo_L3_B at h
  refine hq_p 2 6 [some (.ref 163), some (.int a1), some (.int a2), some (.ref 113), some (.int a4), o5] [.ref 163, .int a4] (fun n h => rfl) ?_
  refine hq_gf (x := .int (hq_gi s 163 0)) rfl rfl rfl rfl rfl ?_
  by_cases c1 : a4 < (hq_gi s 163 0)
  · rw [if_pos c1] at h
    refine hq_icF rfl (hq_c_ge_F c1) ?_
    refine hq_p 6 19 [some (.ref 163), some (.int a1), some (.int a2), some (.ref 113), some (.int a4), o5] [.int (1 : Int32), .int ((a1 >>> (a4 &&& 31)) &&& (1 : Int32))] (fun n h => rfl) ?_
    obtain ⟨z2, hz2, h⟩ := hq_bind h
    suffices hT : hq_R (mm_O xs) d mc_X2_areSo 38 [some (.ref 163), some (.int a1), some (.int a2), some (.ref 113), some (.int a4), o5] [.int z2] s g (some (.int y.1)) y.2 from by
      clear h
      have h := hz2
      by_cases c3 : ((a1 >>> (a4 &&& 31)) &&& (1 : Int32)) = (1 : Int32)
      · rw [if_pos c3] at h
        refine hq_icF rfl (hq_c_ne_F c3) ?_
        refine hq_p 1 23 [some (.ref 163), some (.int a1), some (.int a2), some (.ref 113), some (.int a4), o5] [.ref 163] (fun n h => rfl) ?_
        refine hq_gf (x := .ref 164) rfl rfl rfl rfl rfl ?_
        refine hq_p 1 28 [some (.ref 163), some (.int a1), some (.int a2), some (.ref 113), some (.int a4), o5] [.int a4, .ref 164] (fun n h => rfl) ?_
        obtain ⟨x4, hx4, h⟩ := hq_bind h
        refine hq_iaload rfl rfl List.length_replicate hx4 ?_
        refine hq_p 1 30 [some (.ref 163), some (.int a1), some (.int a2), some (.ref 113), some (.int a4), o5] [.int a2, .int x4] (fun n h => rfl) ?_
        by_cases c5 : x4 = a2
        · rw [if_pos c5] at h
          refine hq_icF rfl (hq_c_ne_F c5) ?_
          refine hq_p 2 38 [some (.ref 163), some (.int a1), some (.int a2), some (.ref 113), some (.int a4), o5] [.int (1 : Int32)] (fun n h => rfl) ?_
          cases h
          exact hT
        · rw [if_neg c5] at h
          refine hq_icT rfl (hq_c_ne_T c5) ?_
          refine hq_p 1 38 [some (.ref 163), some (.int a1), some (.int a2), some (.ref 113), some (.int a4), o5] [.int (0 : Int32)] (fun n h => rfl) ?_
          cases h
          exact hT
      · rw [if_neg c3] at h
        refine hq_icT rfl (hq_c_ne_T c3) ?_
        refine hq_p 1 38 [some (.ref 163), some (.int a1), some (.int a2), some (.ref 113), some (.int a4), o5] [.int (0 : Int32)] (fun n h => rfl) ?_
        cases h
        exact hT
    refine hq_p 2 42 [some (.ref 163), some (.int a1), some (.int a2), some (.ref 113), some (.int a4), some (.int z2)] [.int z2] (fun n h => rfl) ?_
    by_cases c6 : z2 = 0
    · rw [if_pos c6] at h
      refine hq_izT rfl (hq_c_eq_T c6) ?_
      exact f_X2_areSo_J83_run hd e3 h
    · rw [if_neg c6] at h
      refine hq_izF rfl (hq_c_eq_F c6) ?_
      refine hq_p 2 47 [some (.ref 163), some (.int a1), some (.int a2), some (.ref 113), some (.int a4), some (.int z2)] [.ref 163, .ref 113] (fun n h => rfl) ?_
      refine hq_gf (x := .ref 165) rfl rfl rfl rfl rfl ?_
      refine hq_p 1 52 [some (.ref 163), some (.int a1), some (.int a2), some (.ref 113), some (.int a4), some (.int z2)] [.int a4, .ref 165, .ref 113] (fun n h => rfl) ?_
      obtain ⟨x7, hx7, h⟩ := hq_bind h
      refine hq_iaload rfl rfl List.length_replicate hx7 ?_
      obtain ⟨y8, hy8, h⟩ := hq_bind h
      refine hq_inv rfl rfl (Nat.le_trans (by decide) hd) rfl rfl (hq_rcv rfl rfl) (f_X3_placeOfThief_run (Nat.le_sub_of_add_le (Nat.le_trans (by decide) hd)) hy8) rfl ?_
      refine hq_p 1 57 [some (.ref 163), some (.int a1), some (.int a2), some (.ref 113), some (.int a4), some (.int z2)] [.ref 163, .int y8.1] (fun n h => rfl) ?_
      refine hq_gf (x := .ref 166) rfl rfl rfl rfl rfl ?_
      refine hq_p 1 62 [some (.ref 163), some (.int a1), some (.int a2), some (.ref 113), some (.int a4), some (.int z2)] [.int a4, .ref 166, .int y8.1] (fun n h => rfl) ?_
      obtain ⟨x9, hx9, h⟩ := hq_bind h
      refine hq_iaload rfl rfl List.length_replicate hx9 ?_
      obtain ⟨z10, hz10, h⟩ := hq_bind h
      suffices hT : hq_R (mm_O xs) d mc_X2_areSo 71 [some (.ref 163), some (.int a1), some (.int a2), some (.ref 113), some (.int a4), some (.int z2)] [.int z10] y8.2 g (some (.int y.1)) y.2 from by
        clear h
        have h := hz10
        by_cases c11 : y8.1 = x9
        · rw [if_pos c11] at h
          refine hq_icF rfl (hq_c_ne_F c11) ?_
          refine hq_p 2 71 [some (.ref 163), some (.int a1), some (.int a2), some (.ref 113), some (.int a4), some (.int z2)] [.int (1 : Int32)] (fun n h => rfl) ?_
          cases h
          exact hT
        · rw [if_neg c11] at h
          refine hq_icT rfl (hq_c_ne_T c11) ?_
          refine hq_p 1 71 [some (.ref 163), some (.int a1), some (.int a2), some (.ref 113), some (.int a4), some (.int z2)] [.int (0 : Int32)] (fun n h => rfl) ?_
          cases h
          exact hT
      refine hq_p 1 72 [some (.ref 163), some (.int a1), some (.int a2), some (.ref 113), some (.int a4), some (.int z2)] [.ref 163, .int z10] (fun n h => rfl) ?_
      refine hq_gf (x := .ref 167) rfl rfl rfl rfl rfl ?_
      refine hq_p 1 77 [some (.ref 163), some (.int a1), some (.int a2), some (.ref 113), some (.int a4), some (.int z2)] [.int a4, .ref 167, .int z10] (fun n h => rfl) ?_
      obtain ⟨x12, hx12, h⟩ := hq_bind h
      refine hq_baload rfl rfl (by decide) List.length_replicate hx12 ?_
      by_cases c13 : z10 = x12
      · rw [if_pos c13] at h
        refine hq_icT rfl (hq_c_eq_T c13) ?_
        exact f_X2_areSo_J83_run hd e3 h
      · rw [if_neg c13] at h
        refine hq_icF rfl (hq_c_eq_F c13) ?_
        refine hq_p 1 82 [some (.ref 163), some (.int a1), some (.int a2), some (.ref 113), some (.int a4), some (.int z2)] [.int (0 : Int32)] (fun n h => rfl) ?_
        have h := Option.some.inj h
        subst h
        exact ⟨1, rfl⟩
  · rw [if_neg c1] at h
    refine hq_icT rfl (hq_c_ge_T c1) ?_
    refine hq_p 1 90 [some (.ref 163), some (.int a1), some (.int a2), some (.ref 113), some (.int a4), o5] [.int (1 : Int32)] (fun n h => rfl) ?_
    have h := Option.some.inj h
    subst h
    exact ⟨1, rfl⟩
theorem f_X2_areSo_L3_run {xs : List Int32} {n m d g : Nat} {a1 : Int32} {a2 : Int32} {a4 : Int32} {o5 : Option Value} {s : hq_S} {y : (Int32 × hq_S)} (hd : 1 ≤ d) (h : f_X2_areSo_L3 n m a1 a2 a4 s = some y) : hq_R (mm_O xs) d mc_X2_areSo 3 [some (.ref 163), some (.int a1), some (.int a2), some (.ref 113), some (.int a4), o5] [] s g (some (.int y.1)) y.2 := by
  induction m generalizing a1 a2 a4 o5 s with
  | zero => cases h
  | succ m ih => exact f_X2_areSo_L3_Brun (n := n) hd (fun a1 a2 a4 o5 s h => ih h) h
def f_X2_areSo (n : Nat) (a1 : Int32) (a2 : Int32) (s : hq_S) : Option (Int32 × hq_S) := f_X2_areSo_L3 n n a1 a2 (0 : Int32) s
theorem f_X2_areSo_run {xs : List Int32} {n d g : Nat} {a1 : Int32} {a2 : Int32} {s : hq_S} {y : (Int32 × hq_S)} (hd : 1 ≤ d) (h : f_X2_areSo n a1 a2 s = some y) : hq_R (mm_O xs) d mc_X2_areSo 0 [some (.ref 163), some (.int a1), some (.int a2), some (.ref 113), none, none] [] s g (some (.int y.1)) y.2 := by
  unfold f_X2_areSo at h
  refine hq_p 2 3 [some (.ref 163), some (.int a1), some (.int a2), some (.ref 113), some (.int (0 : Int32)), none] [] (fun n h => rfl) ?_
  exact f_X2_areSo_L3_run hd h
def f_X2_boldsOf_J91 (n : Nat) (q12 : Int32 → Nat → Int32 → Int32 → Int32 → Int32 → hq_S → Option (Int32 × hq_S)) (a1 : Int32) (k3 : Nat) (a4 : Int32) (a5 : Int32) (a6 : Int32) (a7 : Int32) (a8 : Int32) (a9 : Int32) (s : hq_S) : Option (Int32 × hq_S) := (if a8 = 0 then some (0 : Int32) else some ((1 : Int32) <<< (a7 &&& 31))).bind fun z5 => q12 a1 k3 a4 a5 (a6 ||| z5) (a7 + (1 : Int32)) s
theorem f_X2_boldsOf_J91_run {xs : List Int32} {n d g : Nat} {a1 : Int32} {k3 : Nat} {a4 : Int32} {a5 : Int32} {a6 : Int32} {a7 : Int32} {a8 : Int32} {a9 : Int32} {q12 : Int32 → Nat → Int32 → Int32 → Int32 → Int32 → hq_S → Option (Int32 × hq_S)} {s : hq_S} {y : (Int32 × hq_S)} (hd : 6 ≤ d) (e12 : ∀ (a1 : Int32) (k3 : Nat) (a4 : Int32) (a5 : Int32) (a6 : Int32) (a7 : Int32) (o8 : Option Value) (o9 : Option Value) (s : hq_S) (m3_ : hq_isN k3), q12 a1 k3 a4 a5 a6 a7 s = some y → hq_R (mm_O xs) d mc_X2_boldsOf 12 [some (.ref 163), some (.int a1), some (.ref 113), some (.ref k3), some (.int a4), some (.int a5), some (.int a6), some (.int a7), o8, o9] [] s g (some (.int y.1)) y.2) (m3_ : hq_isN k3) (h : f_X2_boldsOf_J91 n q12 a1 k3 a4 a5 a6 a7 a8 a9 s = some y) : hq_R (mm_O xs) d mc_X2_boldsOf 91 [some (.ref 163), some (.int a1), some (.ref 113), some (.ref k3), some (.int a4), some (.int a5), some (.int a6), some (.int a7), some (.int a8), some (.int a9)] [] s g (some (.int y.1)) y.2 := by
  unfold f_X2_boldsOf_J91 at h
  refine hq_p 2 95 [some (.ref 163), some (.int a1), some (.ref 113), some (.ref k3), some (.int a4), some (.int a5), some (.int a6), some (.int a7), some (.int a8), some (.int a9)] [.int a8, .int a6] (fun n h => rfl) ?_
  obtain ⟨z5, hz5, h⟩ := hq_bind h
  suffices hT : hq_R (mm_O xs) d mc_X2_boldsOf 106 [some (.ref 163), some (.int a1), some (.ref 113), some (.ref k3), some (.int a4), some (.int a5), some (.int a6), some (.int a7), some (.int a8), some (.int a9)] [.int z5, .int a6] s g (some (.int y.1)) y.2 from by
    clear h
    have h := hz5
    by_cases c6 : a8 = 0
    · rw [if_pos c6] at h
      refine hq_izT rfl (hq_c_eq_T c6) ?_
      refine hq_p 1 106 [some (.ref 163), some (.int a1), some (.ref 113), some (.ref k3), some (.int a4), some (.int a5), some (.int a6), some (.int a7), some (.int a8), some (.int a9)] [.int (0 : Int32), .int a6] (fun n h => rfl) ?_
      cases h
      exact hT
    · rw [if_neg c6] at h
      refine hq_izF rfl (hq_c_eq_F c6) ?_
      refine hq_p 4 106 [some (.ref 163), some (.int a1), some (.ref 113), some (.ref k3), some (.int a4), some (.int a5), some (.int a6), some (.int a7), some (.int a8), some (.int a9)] [.int ((1 : Int32) <<< (a7 &&& 31)), .int a6] (fun n h => rfl) ?_
      cases h
      exact hT
  refine hq_p 4 12 [some (.ref 163), some (.int a1), some (.ref 113), some (.ref k3), some (.int a4), some (.int a5), some (.int (a6 ||| z5)), some (.int (a7 + (1 : Int32))), some (.int a8), some (.int a9)] [] (fun n h => rfl) ?_
  exact e12 a1 k3 a4 a5 (a6 ||| z5) (a7 + (1 : Int32)) _ _ s m3_ h
def f_X2_boldsOf_L33_B (n : Nat) (q12 : Int32 → Nat → Int32 → Int32 → Int32 → Int32 → hq_S → Option (Int32 × hq_S)) (q33 : Int32 → Nat → Int32 → Int32 → Int32 → Int32 → Int32 → Int32 → hq_S → Option (Int32 × hq_S)) (a1 : Int32) (k3 : Nat) (a4 : Int32) (a5 : Int32) (a6 : Int32) (a7 : Int32) (a8 : Int32) (a9 : Int32) (s : hq_S) : Option (Int32 × hq_S) := if a4 < a9 then f_X2_boldsOf_J91 n q12 a1 k3 a4 a5 a6 a7 a8 a9 s else if (60 : Int32) < a9 then f_X2_boldsOf_J91 n q12 a1 k3 a4 a5 a6 a7 a8 a9 s else if a8 = 0 then f_X2_boldsOf_J91 n q12 a1 k3 a4 a5 a6 a7 a8 a9 s else (f_X3_pass n s).bind fun s9 => (f_X3_hadOfThief n a1 s9).bind fun y10 => (hq_st y10.2 169 610 ((a7 * (61 : Int32)) + a9) y10.1).bind fun s11 => (f_X2_areSo n a5 a9 s11).bind fun y12 => q33 a1 k3 a4 a5 a6 a7 y12.1 (a9 + (1 : Int32)) y12.2
def f_X2_boldsOf_L33 (n : Nat) (q12 : Int32 → Nat → Int32 → Int32 → Int32 → Int32 → hq_S → Option (Int32 × hq_S)) (m : Nat) : Int32 → Nat → Int32 → Int32 → Int32 → Int32 → Int32 → Int32 → hq_S → Option (Int32 × hq_S) := Nat.rec (fun _ _ _ _ _ _ _ _ _ => none) (fun _ q => f_X2_boldsOf_L33_B n q12 q) m
theorem f_X2_boldsOf_L33_Brun {xs : List Int32} {n d g : Nat} {a1 : Int32} {k3 : Nat} {a4 : Int32} {a5 : Int32} {a6 : Int32} {a7 : Int32} {a8 : Int32} {a9 : Int32} {q12 : Int32 → Nat → Int32 → Int32 → Int32 → Int32 → hq_S → Option (Int32 × hq_S)} {q33 : Int32 → Nat → Int32 → Int32 → Int32 → Int32 → Int32 → Int32 → hq_S → Option (Int32 × hq_S)} {s : hq_S} {y : (Int32 × hq_S)} (hd : 6 ≤ d) (e12 : ∀ (a1 : Int32) (k3 : Nat) (a4 : Int32) (a5 : Int32) (a6 : Int32) (a7 : Int32) (o8 : Option Value) (o9 : Option Value) (s : hq_S) (m3_ : hq_isN k3), q12 a1 k3 a4 a5 a6 a7 s = some y → hq_R (mm_O xs) d mc_X2_boldsOf 12 [some (.ref 163), some (.int a1), some (.ref 113), some (.ref k3), some (.int a4), some (.int a5), some (.int a6), some (.int a7), o8, o9] [] s g (some (.int y.1)) y.2) (e33 : ∀ (a1 : Int32) (k3 : Nat) (a4 : Int32) (a5 : Int32) (a6 : Int32) (a7 : Int32) (a8 : Int32) (a9 : Int32) (s : hq_S) (m3_ : hq_isN k3), q33 a1 k3 a4 a5 a6 a7 a8 a9 s = some y → hq_R (mm_O xs) d mc_X2_boldsOf 33 [some (.ref 163), some (.int a1), some (.ref 113), some (.ref k3), some (.int a4), some (.int a5), some (.int a6), some (.int a7), some (.int a8), some (.int a9)] [] s g (some (.int y.1)) y.2) (m3_ : hq_isN k3) (h : f_X2_boldsOf_L33_B n q12 q33 a1 k3 a4 a5 a6 a7 a8 a9 s = some y) : hq_R (mm_O xs) d mc_X2_boldsOf 33 [some (.ref 163), some (.int a1), some (.ref 113), some (.ref k3), some (.int a4), some (.int a5), some (.int a6), some (.int a7), some (.int a8), some (.int a9)] [] s g (some (.int y.1)) y.2 := by
  unfold f_X2_boldsOf_L33_B at h
  refine hq_p 2 37 [some (.ref 163), some (.int a1), some (.ref 113), some (.ref k3), some (.int a4), some (.int a5), some (.int a6), some (.int a7), some (.int a8), some (.int a9)] [.int a4, .int a9] (fun n h => rfl) ?_
  by_cases c4 : a4 < a9
  · rw [if_pos c4] at h
    refine hq_icT rfl (hq_c_gt_T c4) ?_
    exact f_X2_boldsOf_J91_run hd e12 m3_ h
  · rw [if_neg c4] at h
    refine hq_icF rfl (hq_c_gt_F c4) ?_
    refine hq_p 1 42 [some (.ref 163), some (.int a1), some (.ref 113), some (.ref k3), some (.int a4), some (.int a5), some (.int a6), some (.int a7), some (.int a8), some (.int a9)] [.int a9] (fun n h => rfl) ?_
    refine hq_bip (60 : Int32) rfl (by decide) ?_
    by_cases c7 : (60 : Int32) < a9
    · rw [if_pos c7] at h
      refine hq_icT rfl (hq_c_gt_T c7) ?_
      exact f_X2_boldsOf_J91_run hd e12 m3_ h
    · rw [if_neg c7] at h
      refine hq_icF rfl (hq_c_gt_F c7) ?_
      refine hq_p 1 49 [some (.ref 163), some (.int a1), some (.ref 113), some (.ref k3), some (.int a4), some (.int a5), some (.int a6), some (.int a7), some (.int a8), some (.int a9)] [.int a8] (fun n h => rfl) ?_
      by_cases c8 : a8 = 0
      · rw [if_pos c8] at h
        refine hq_izT rfl (hq_c_eq_T c8) ?_
        exact f_X2_boldsOf_J91_run hd e12 m3_ h
      · rw [if_neg c8] at h
        refine hq_izF rfl (hq_c_eq_F c8) ?_
        refine hq_p 1 53 [some (.ref 163), some (.int a1), some (.ref 113), some (.ref k3), some (.int a4), some (.int a5), some (.int a6), some (.int a7), some (.int a8), some (.int a9)] [.ref 113] (fun n h => rfl) ?_
        obtain ⟨s9, hs9, h⟩ := hq_bind h
        refine hq_inv rfl rfl (Nat.le_trans (by decide) hd) rfl rfl (hq_rcv rfl rfl) (f_X3_pass_run (Nat.le_sub_of_add_le (Nat.le_trans (by decide) hd)) hs9) rfl ?_
        refine hq_p 1 57 [some (.ref 163), some (.int a1), some (.ref 113), some (.ref k3), some (.int a4), some (.int a5), some (.int a6), some (.int a7), some (.int a8), some (.int a9)] [.ref 163] (fun n h => rfl) ?_
        refine hq_gf (x := .ref 169) rfl rfl rfl rfl rfl ?_
        refine hq_p 1 62 [some (.ref 163), some (.int a1), some (.ref 113), some (.ref k3), some (.int a4), some (.int a5), some (.int a6), some (.int a7), some (.int a8), some (.int a9)] [.int a7, .ref 169] (fun n h => rfl) ?_
        refine hq_bip (61 : Int32) rfl (by decide) ?_
        refine hq_p 5 70 [some (.ref 163), some (.int a1), some (.ref 113), some (.ref k3), some (.int a4), some (.int a5), some (.int a6), some (.int a7), some (.int a8), some (.int a9)] [.int a1, .ref 113, .int ((a7 * (61 : Int32)) + a9), .ref 169] (fun n h => rfl) ?_
        obtain ⟨y10, hy10, h⟩ := hq_bind h
        refine hq_inv rfl rfl (Nat.le_trans (by decide) hd) rfl rfl (hq_rcv rfl rfl) (f_X3_hadOfThief_run (Nat.le_sub_of_add_le (Nat.le_trans (by decide) hd)) hy10) rfl ?_
        obtain ⟨s11, hs11, h⟩ := hq_bind h
        refine hq_iastore rfl rfl List.length_replicate hs11 ?_
        refine hq_p 4 80 [some (.ref 163), some (.int a1), some (.ref 113), some (.ref k3), some (.int a4), some (.int a5), some (.int a6), some (.int a7), some (.int a8), some (.int a9)] [.ref 113, .int a9, .int a5, .ref 163] (fun n h => rfl) ?_
        obtain ⟨y12, hy12, h⟩ := hq_bind h
        refine hq_inv rfl rfl (Nat.le_trans (by decide) hd) rfl rfl (hq_rcv rfl rfl) (f_X2_areSo_run (Nat.le_sub_of_add_le (Nat.le_trans (by decide) hd)) hy12) rfl ?_
        refine hq_p 3 33 [some (.ref 163), some (.int a1), some (.ref 113), some (.ref k3), some (.int a4), some (.int a5), some (.int a6), some (.int a7), some (.int y12.1), some (.int (a9 + (1 : Int32)))] [] (fun n h => rfl) ?_
        exact e33 a1 k3 a4 a5 a6 a7 y12.1 (a9 + (1 : Int32)) y12.2 m3_ h
theorem f_X2_boldsOf_L33_run {xs : List Int32} {n m d g : Nat} {a1 : Int32} {k3 : Nat} {a4 : Int32} {a5 : Int32} {a6 : Int32} {a7 : Int32} {a8 : Int32} {a9 : Int32} {q12 : Int32 → Nat → Int32 → Int32 → Int32 → Int32 → hq_S → Option (Int32 × hq_S)} {s : hq_S} {y : (Int32 × hq_S)} (hd : 6 ≤ d) (e12 : ∀ (a1 : Int32) (k3 : Nat) (a4 : Int32) (a5 : Int32) (a6 : Int32) (a7 : Int32) (o8 : Option Value) (o9 : Option Value) (s : hq_S) (m3_ : hq_isN k3), q12 a1 k3 a4 a5 a6 a7 s = some y → hq_R (mm_O xs) d mc_X2_boldsOf 12 [some (.ref 163), some (.int a1), some (.ref 113), some (.ref k3), some (.int a4), some (.int a5), some (.int a6), some (.int a7), o8, o9] [] s g (some (.int y.1)) y.2) (m3_ : hq_isN k3) (h : f_X2_boldsOf_L33 n q12 m a1 k3 a4 a5 a6 a7 a8 a9 s = some y) : hq_R (mm_O xs) d mc_X2_boldsOf 33 [some (.ref 163), some (.int a1), some (.ref 113), some (.ref k3), some (.int a4), some (.int a5), some (.int a6), some (.int a7), some (.int a8), some (.int a9)] [] s g (some (.int y.1)) y.2 := by
  induction m generalizing a1 k3 a4 a5 a6 a7 a8 a9 s with
  | zero => cases h
  | succ m ih => exact f_X2_boldsOf_L33_Brun (n := n) hd e12 (fun a1 k3 a4 a5 a6 a7 a8 a9 s m3_ h => ih m3_ h) m3_ h
def f_X2_boldsOf_L12_B (n : Nat) (q12 : Int32 → Nat → Int32 → Int32 → Int32 → Int32 → hq_S → Option (Int32 × hq_S)) (a1 : Int32) (k3 : Nat) (a4 : Int32) (a5 : Int32) (a6 : Int32) (a7 : Int32) (s : hq_S) : Option (Int32 × hq_S) := if a7 < (10 : Int32) then (f_X3_restart n k3 a1 a7 s).bind fun s3 => f_X2_boldsOf_L33 n q12 n a1 k3 a4 a5 a6 a7 (1 : Int32) (1 : Int32) s3 else some (a6, s)
def f_X2_boldsOf_L12 (n : Nat) (m : Nat) : Int32 → Nat → Int32 → Int32 → Int32 → Int32 → hq_S → Option (Int32 × hq_S) := Nat.rec (fun _ _ _ _ _ _ _ => none) (fun _ q => f_X2_boldsOf_L12_B n q) m
theorem f_X2_boldsOf_L12_Brun {xs : List Int32} {n d g : Nat} {a1 : Int32} {k3 : Nat} {a4 : Int32} {a5 : Int32} {a6 : Int32} {a7 : Int32} {o8 : Option Value} {o9 : Option Value} {q12 : Int32 → Nat → Int32 → Int32 → Int32 → Int32 → hq_S → Option (Int32 × hq_S)} {s : hq_S} {y : (Int32 × hq_S)} (hd : 6 ≤ d) (e12 : ∀ (a1 : Int32) (k3 : Nat) (a4 : Int32) (a5 : Int32) (a6 : Int32) (a7 : Int32) (o8 : Option Value) (o9 : Option Value) (s : hq_S) (m3_ : hq_isN k3), q12 a1 k3 a4 a5 a6 a7 s = some y → hq_R (mm_O xs) d mc_X2_boldsOf 12 [some (.ref 163), some (.int a1), some (.ref 113), some (.ref k3), some (.int a4), some (.int a5), some (.int a6), some (.int a7), o8, o9] [] s g (some (.int y.1)) y.2) (m3_ : hq_isN k3) (h : f_X2_boldsOf_L12_B n q12 a1 k3 a4 a5 a6 a7 s = some y) : hq_R (mm_O xs) d mc_X2_boldsOf 12 [some (.ref 163), some (.int a1), some (.ref 113), some (.ref k3), some (.int a4), some (.int a5), some (.int a6), some (.int a7), o8, o9] [] s g (some (.int y.1)) y.2 := by
  unfold f_X2_boldsOf_L12_B at h
  refine hq_p 2 16 [some (.ref 163), some (.int a1), some (.ref 113), some (.ref k3), some (.int a4), some (.int a5), some (.int a6), some (.int a7), o8, o9] [.int (10 : Int32), .int a7] (fun n h => rfl) ?_
  by_cases c2 : a7 < (10 : Int32)
  · rw [if_pos c2] at h
    refine hq_icF rfl (hq_c_ge_F c2) ?_
    refine hq_p 4 24 [some (.ref 163), some (.int a1), some (.ref 113), some (.ref k3), some (.int a4), some (.int a5), some (.int a6), some (.int a7), o8, o9] [.int a7, .int a1, .ref k3, .ref 113] (fun n h => rfl) ?_
    obtain ⟨s3, hs3, h⟩ := hq_bind h
    refine hq_inv rfl rfl (Nat.le_trans (by decide) hd) rfl rfl (hq_rcv rfl rfl) (f_X3_restart_run (Nat.le_sub_of_add_le (Nat.le_trans (by decide) hd)) m3_ hs3) rfl ?_
    refine hq_p 4 33 [some (.ref 163), some (.int a1), some (.ref 113), some (.ref k3), some (.int a4), some (.int a5), some (.int a6), some (.int a7), some (.int (1 : Int32)), some (.int (1 : Int32))] [] (fun n h => rfl) ?_
    exact f_X2_boldsOf_L33_run hd e12 m3_ h
  · rw [if_neg c2] at h
    refine hq_icT rfl (hq_c_ge_T c2) ?_
    refine hq_p 1 117 [some (.ref 163), some (.int a1), some (.ref 113), some (.ref k3), some (.int a4), some (.int a5), some (.int a6), some (.int a7), o8, o9] [.int a6] (fun n h => rfl) ?_
    have h := Option.some.inj h
    subst h
    exact ⟨1, rfl⟩
theorem f_X2_boldsOf_L12_run {xs : List Int32} {n m d g : Nat} {a1 : Int32} {k3 : Nat} {a4 : Int32} {a5 : Int32} {a6 : Int32} {a7 : Int32} {o8 : Option Value} {o9 : Option Value} {s : hq_S} {y : (Int32 × hq_S)} (hd : 6 ≤ d) (m3_ : hq_isN k3) (h : f_X2_boldsOf_L12 n m a1 k3 a4 a5 a6 a7 s = some y) : hq_R (mm_O xs) d mc_X2_boldsOf 12 [some (.ref 163), some (.int a1), some (.ref 113), some (.ref k3), some (.int a4), some (.int a5), some (.int a6), some (.int a7), o8, o9] [] s g (some (.int y.1)) y.2 := by
  induction m generalizing a1 k3 a4 a5 a6 a7 o8 o9 s with
  | zero => cases h
  | succ m ih => exact f_X2_boldsOf_L12_Brun (n := n) hd (fun a1 k3 a4 a5 a6 a7 o8 o9 s m3_ h => ih m3_ h) m3_ h
def f_X2_boldsOf (n : Nat) (a1 : Int32) (k3 : Nat) (a4 : Int32) (s : hq_S) : Option (Int32 × hq_S) := (f_X2_standing n s).bind fun y1 => f_X2_boldsOf_L12 n n a1 k3 a4 y1.1 (0 : Int32) (0 : Int32) y1.2
theorem f_X2_boldsOf_run {xs : List Int32} {n d g : Nat} {a1 : Int32} {k3 : Nat} {a4 : Int32} {s : hq_S} {y : (Int32 × hq_S)} (hd : 6 ≤ d) (m3_ : hq_isN k3) (h : f_X2_boldsOf n a1 k3 a4 s = some y) : hq_R (mm_O xs) d mc_X2_boldsOf 0 [some (.ref 163), some (.int a1), some (.ref 113), some (.ref k3), some (.int a4), none, none, none, none, none] [] s g (some (.int y.1)) y.2 := by
  unfold f_X2_boldsOf at h
  refine hq_p 1 1 [some (.ref 163), some (.int a1), some (.ref 113), some (.ref k3), some (.int a4), none, none, none, none, none] [.ref 163] (fun n h => rfl) ?_
  obtain ⟨y1, hy1, h⟩ := hq_bind h
  refine hq_inv rfl rfl (Nat.le_trans (by decide) hd) rfl rfl (hq_rcv rfl rfl) (f_X2_standing_run (Nat.le_sub_of_add_le (Nat.le_trans (by decide) hd)) hy1) rfl ?_
  refine hq_p 5 12 [some (.ref 163), some (.int a1), some (.ref 113), some (.ref k3), some (.int a4), some (.int y1.1), some (.int (0 : Int32)), some (.int (0 : Int32)), none, none] [] (fun n h => rfl) ?_
  exact f_X2_boldsOf_L12_run hd m3_ h
def f_X2_lastHour_L4_B (n : Nat) (q4 : Int32 → Int32 → hq_S → Option (Int32 × hq_S)) (a1 : Int32) (a2 : Int32) (s : hq_S) : Option (Int32 × hq_S) := if a2 < (hq_gi s 163 0) then (hq_ld s 168 24 a2).bind fun x2 => (if x2 = (-1 : Int32) then (hq_ld s 164 24 a2).bind fun x5 => some (hq_max a1 x5) else some a1).bind fun z3 => q4 z3 (a2 + (1 : Int32)) s else some (a1, s)
def f_X2_lastHour_L4 (n : Nat) (m : Nat) : Int32 → Int32 → hq_S → Option (Int32 × hq_S) := Nat.rec (fun _ _ _ => none) (fun _ q => f_X2_lastHour_L4_B n q) m
theorem f_X2_lastHour_L4_Brun {xs : List Int32} {n d g : Nat} {a1 : Int32} {a2 : Int32} {q4 : Int32 → Int32 → hq_S → Option (Int32 × hq_S)} {s : hq_S} {y : (Int32 × hq_S)} (hd : 1 ≤ d) (e4 : ∀ (a1 : Int32) (a2 : Int32) (s : hq_S), q4 a1 a2 s = some y → hq_R (mm_O xs) d mc_X2_lastHour 4 [some (.ref 163), some (.int a1), some (.int a2)] [] s g (some (.int y.1)) y.2) (h : f_X2_lastHour_L4_B n q4 a1 a2 s = some y) : hq_R (mm_O xs) d mc_X2_lastHour 4 [some (.ref 163), some (.int a1), some (.int a2)] [] s g (some (.int y.1)) y.2 := by
  unfold f_X2_lastHour_L4_B at h
  refine hq_p 2 6 [some (.ref 163), some (.int a1), some (.int a2)] [.ref 163, .int a2] (fun n h => rfl) ?_
  refine hq_gf (x := .int (hq_gi s 163 0)) rfl rfl rfl rfl rfl ?_
  by_cases c1 : a2 < (hq_gi s 163 0)
  · rw [if_pos c1] at h
    refine hq_icF rfl (hq_c_ge_F c1) ?_
    refine hq_p 1 13 [some (.ref 163), some (.int a1), some (.int a2)] [.ref 163] (fun n h => rfl) ?_
    refine hq_gf (x := .ref 168) rfl rfl rfl rfl rfl ?_
    refine hq_p 1 17 [some (.ref 163), some (.int a1), some (.int a2)] [.int a2, .ref 168] (fun n h => rfl) ?_
    obtain ⟨x2, hx2, h⟩ := hq_bind h
    refine hq_iaload rfl rfl List.length_replicate hx2 ?_
    refine hq_icn (-1 : Int32) rfl (by decide) ?_
    obtain ⟨z3, hz3, h⟩ := hq_bind h
    suffices hT : hq_R (mm_O xs) d mc_X2_lastHour 36 [some (.ref 163), some (.int a1), some (.int a2)] [.int z3] s g (some (.int y.1)) y.2 from by
      clear h
      have h := hz3
      by_cases c4 : x2 = (-1 : Int32)
      · rw [if_pos c4] at h
        refine hq_icF rfl (hq_c_ne_F c4) ?_
        refine hq_p 2 24 [some (.ref 163), some (.int a1), some (.int a2)] [.ref 163, .int a1] (fun n h => rfl) ?_
        refine hq_gf (x := .ref 164) rfl rfl rfl rfl rfl ?_
        refine hq_p 1 28 [some (.ref 163), some (.int a1), some (.int a2)] [.int a2, .ref 164, .int a1] (fun n h => rfl) ?_
        obtain ⟨x5, hx5, h⟩ := hq_bind h
        refine hq_iaload rfl rfl List.length_replicate hx5 ?_
        refine hq_math rfl rfl rfl (Nat.le_trans (by decide) hd) ?_
        refine hq_p 1 36 [some (.ref 163), some (.int a1), some (.int a2)] [.int (hq_max a1 x5)] (fun n h => rfl) ?_
        cases h
        exact hT
      · rw [if_neg c4] at h
        refine hq_icT rfl (hq_c_ne_T c4) ?_
        refine hq_p 1 36 [some (.ref 163), some (.int a1), some (.int a2)] [.int a1] (fun n h => rfl) ?_
        cases h
        exact hT
    refine hq_p 3 4 [some (.ref 163), some (.int z3), some (.int (a2 + (1 : Int32)))] [] (fun n h => rfl) ?_
    exact e4 z3 (a2 + (1 : Int32)) s h
  · rw [if_neg c1] at h
    refine hq_icT rfl (hq_c_ge_T c1) ?_
    refine hq_p 1 44 [some (.ref 163), some (.int a1), some (.int a2)] [.int a1] (fun n h => rfl) ?_
    have h := Option.some.inj h
    subst h
    exact ⟨1, rfl⟩
theorem f_X2_lastHour_L4_run {xs : List Int32} {n m d g : Nat} {a1 : Int32} {a2 : Int32} {s : hq_S} {y : (Int32 × hq_S)} (hd : 1 ≤ d) (h : f_X2_lastHour_L4 n m a1 a2 s = some y) : hq_R (mm_O xs) d mc_X2_lastHour 4 [some (.ref 163), some (.int a1), some (.int a2)] [] s g (some (.int y.1)) y.2 := by
  induction m generalizing a1 a2 s with
  | zero => cases h
  | succ m ih => exact f_X2_lastHour_L4_Brun (n := n) hd (fun a1 a2 s h => ih h) h
def f_X2_lastHour (n : Nat) (s : hq_S) : Option (Int32 × hq_S) := f_X2_lastHour_L4 n n (0 : Int32) (0 : Int32) s
theorem f_X2_lastHour_run {xs : List Int32} {n d g : Nat} {s : hq_S} {y : (Int32 × hq_S)} (hd : 1 ≤ d) (h : f_X2_lastHour n s = some y) : hq_R (mm_O xs) d mc_X2_lastHour 0 [some (.ref 163), none, none] [] s g (some (.int y.1)) y.2 := by
  unfold f_X2_lastHour at h
  refine hq_p 4 4 [some (.ref 163), some (.int (0 : Int32)), some (.int (0 : Int32))] [] (fun n h => rfl) ?_
  exact f_X2_lastHour_L4_run hd h
def f_X2_hadIn (n : Nat) (a1 : Int32) (a2 : Int32) (s : hq_S) : Option (Int32 × hq_S) := (hq_ld s 169 610 ((a1 * (61 : Int32)) + a2)).bind fun x1 => some (x1, s)
theorem f_X2_hadIn_run {xs : List Int32} {n d g : Nat} {a1 : Int32} {a2 : Int32} {s : hq_S} {y : (Int32 × hq_S)} (hd : 0 ≤ d) (h : f_X2_hadIn n a1 a2 s = some y) : hq_R (mm_O xs) d mc_X2_hadIn 0 [some (.ref 163), some (.int a1), some (.int a2)] [] s g (some (.int y.1)) y.2 := by
  unfold f_X2_hadIn at h
  refine hq_p 1 1 [some (.ref 163), some (.int a1), some (.int a2)] [.ref 163] (fun n h => rfl) ?_
  refine hq_gf (x := .ref 169) rfl rfl rfl rfl rfl ?_
  refine hq_p 1 5 [some (.ref 163), some (.int a1), some (.int a2)] [.int a1, .ref 169] (fun n h => rfl) ?_
  refine hq_bip (61 : Int32) rfl (by decide) ?_
  refine hq_p 3 10 [some (.ref 163), some (.int a1), some (.int a2)] [.int ((a1 * (61 : Int32)) + a2), .ref 169] (fun n h => rfl) ?_
  obtain ⟨x1, hx1, h⟩ := hq_bind h
  refine hq_iaload rfl rfl List.length_replicate hx1 ?_
  have h := Option.some.inj h
  subst h
  exact ⟨1, rfl⟩
def f_X2_worstLeft_L18_B (n : Nat) (q5 : Int32 → Int32 → Int32 → Int32 → hq_S → Option (Int32 × hq_S)) (q18 : Int32 → Int32 → Int32 → Int32 → Int32 → Int32 → hq_S → Option (Int32 × hq_S)) (a1 : Int32) (a2 : Int32) (a3 : Int32) (a4 : Int32) (a5 : Int32) (a6 : Int32) (s : hq_S) : Option (Int32 × hq_S) := if a6 < (10 : Int32) then (if ((a2 >>> (a4 &&& 31)) &&& (1 : Int32)) = (1 : Int32) then if ((a2 >>> (a6 &&& 31)) &&& (1 : Int32)) = (1 : Int32) then some (1 : Int32) else some (0 : Int32) else some (0 : Int32)).bind fun z3 => (if z3 = 0 then some ((0 : Int32), s) else (f_X2_hadIn n a4 a1 s).bind fun y8 => (f_X2_hadIn n a6 a1 y8.2).bind fun y9 => if y8.1 = y9.1 then some ((1 : Int32), y9.2) else some ((0 : Int32), y9.2)).bind fun z6 => q18 a1 a2 a3 a4 (a5 + z6.1) (a6 + (1 : Int32)) z6.2 else q5 a1 a2 (hq_max a3 a5) (a4 + (1 : Int32)) s
def f_X2_worstLeft_L18 (n : Nat) (q5 : Int32 → Int32 → Int32 → Int32 → hq_S → Option (Int32 × hq_S)) (m : Nat) : Int32 → Int32 → Int32 → Int32 → Int32 → Int32 → hq_S → Option (Int32 × hq_S) := Nat.rec (fun _ _ _ _ _ _ _ => none) (fun _ q => f_X2_worstLeft_L18_B n q5 q) m
theorem f_X2_worstLeft_L18_Brun {xs : List Int32} {n d g : Nat} {a1 : Int32} {a2 : Int32} {a3 : Int32} {a4 : Int32} {a5 : Int32} {a6 : Int32} {o7 : Option Value} {q5 : Int32 → Int32 → Int32 → Int32 → hq_S → Option (Int32 × hq_S)} {q18 : Int32 → Int32 → Int32 → Int32 → Int32 → Int32 → hq_S → Option (Int32 × hq_S)} {s : hq_S} {y : (Int32 × hq_S)} (hd : 1 ≤ d) (e5 : ∀ (a1 : Int32) (a2 : Int32) (a3 : Int32) (a4 : Int32) (o5 : Option Value) (o6 : Option Value) (o7 : Option Value) (s : hq_S), q5 a1 a2 a3 a4 s = some y → hq_R (mm_O xs) d mc_X2_worstLeft 5 [some (.ref 163), some (.int a1), some (.int a2), some (.int a3), some (.int a4), o5, o6, o7] [] s g (some (.int y.1)) y.2) (e18 : ∀ (a1 : Int32) (a2 : Int32) (a3 : Int32) (a4 : Int32) (a5 : Int32) (a6 : Int32) (o7 : Option Value) (s : hq_S), q18 a1 a2 a3 a4 a5 a6 s = some y → hq_R (mm_O xs) d mc_X2_worstLeft 18 [some (.ref 163), some (.int a1), some (.int a2), some (.int a3), some (.int a4), some (.int a5), some (.int a6), o7] [] s g (some (.int y.1)) y.2) (h : f_X2_worstLeft_L18_B n q5 q18 a1 a2 a3 a4 a5 a6 s = some y) : hq_R (mm_O xs) d mc_X2_worstLeft 18 [some (.ref 163), some (.int a1), some (.int a2), some (.int a3), some (.int a4), some (.int a5), some (.int a6), o7] [] s g (some (.int y.1)) y.2 := by
  unfold f_X2_worstLeft_L18_B at h
  refine hq_p 2 22 [some (.ref 163), some (.int a1), some (.int a2), some (.int a3), some (.int a4), some (.int a5), some (.int a6), o7] [.int (10 : Int32), .int a6] (fun n h => rfl) ?_
  by_cases c2 : a6 < (10 : Int32)
  · rw [if_pos c2] at h
    refine hq_icF rfl (hq_c_ge_F c2) ?_
    refine hq_p 6 32 [some (.ref 163), some (.int a1), some (.int a2), some (.int a3), some (.int a4), some (.int a5), some (.int a6), o7] [.int (1 : Int32), .int ((a2 >>> (a4 &&& 31)) &&& (1 : Int32))] (fun n h => rfl) ?_
    obtain ⟨z3, hz3, h⟩ := hq_bind h
    suffices hT : hq_R (mm_O xs) d mc_X2_worstLeft 50 [some (.ref 163), some (.int a1), some (.int a2), some (.int a3), some (.int a4), some (.int a5), some (.int a6), o7] [.int z3] s g (some (.int y.1)) y.2 from by
      clear h
      have h := hz3
      by_cases c4 : ((a2 >>> (a4 &&& 31)) &&& (1 : Int32)) = (1 : Int32)
      · rw [if_pos c4] at h
        refine hq_icF rfl (hq_c_ne_F c4) ?_
        refine hq_p 6 42 [some (.ref 163), some (.int a1), some (.int a2), some (.int a3), some (.int a4), some (.int a5), some (.int a6), o7] [.int (1 : Int32), .int ((a2 >>> (a6 &&& 31)) &&& (1 : Int32))] (fun n h => rfl) ?_
        by_cases c5 : ((a2 >>> (a6 &&& 31)) &&& (1 : Int32)) = (1 : Int32)
        · rw [if_pos c5] at h
          refine hq_icF rfl (hq_c_ne_F c5) ?_
          refine hq_p 2 50 [some (.ref 163), some (.int a1), some (.int a2), some (.int a3), some (.int a4), some (.int a5), some (.int a6), o7] [.int (1 : Int32)] (fun n h => rfl) ?_
          cases h
          exact hT
        · rw [if_neg c5] at h
          refine hq_icT rfl (hq_c_ne_T c5) ?_
          refine hq_p 1 50 [some (.ref 163), some (.int a1), some (.int a2), some (.int a3), some (.int a4), some (.int a5), some (.int a6), o7] [.int (0 : Int32)] (fun n h => rfl) ?_
          cases h
          exact hT
      · rw [if_neg c4] at h
        refine hq_icT rfl (hq_c_ne_T c4) ?_
        refine hq_p 1 50 [some (.ref 163), some (.int a1), some (.int a2), some (.int a3), some (.int a4), some (.int a5), some (.int a6), o7] [.int (0 : Int32)] (fun n h => rfl) ?_
        cases h
        exact hT
    refine hq_p 3 56 [some (.ref 163), some (.int a1), some (.int a2), some (.int a3), some (.int a4), some (.int a5), some (.int a6), some (.int z3)] [.int z3, .int a5] (fun n h => rfl) ?_
    obtain ⟨z6, hz6, h⟩ := hq_bind h
    suffices hT : hq_R (mm_O xs) d mc_X2_worstLeft 81 [some (.ref 163), some (.int a1), some (.int a2), some (.int a3), some (.int a4), some (.int a5), some (.int a6), some (.int z3)] [.int z6.1, .int a5] z6.2 g (some (.int y.1)) y.2 from by
      clear h
      have h := hz6
      by_cases c7 : z3 = 0
      · rw [if_pos c7] at h
        refine hq_izT rfl (hq_c_eq_T c7) ?_
        refine hq_p 1 81 [some (.ref 163), some (.int a1), some (.int a2), some (.int a3), some (.int a4), some (.int a5), some (.int a6), some (.int z3)] [.int (0 : Int32), .int a5] (fun n h => rfl) ?_
        cases h
        exact hT
      · rw [if_neg c7] at h
        refine hq_izF rfl (hq_c_eq_F c7) ?_
        refine hq_p 3 63 [some (.ref 163), some (.int a1), some (.int a2), some (.int a3), some (.int a4), some (.int a5), some (.int a6), some (.int z3)] [.int a1, .int a4, .ref 163, .int a5] (fun n h => rfl) ?_
        obtain ⟨y8, hy8, h⟩ := hq_bind h
        refine hq_inv rfl rfl (Nat.le_trans (by decide) hd) rfl rfl (hq_rcv rfl rfl) (f_X2_hadIn_run (Nat.le_sub_of_add_le (Nat.le_trans (by decide) hd)) hy8) rfl ?_
        refine hq_p 3 70 [some (.ref 163), some (.int a1), some (.int a2), some (.int a3), some (.int a4), some (.int a5), some (.int a6), some (.int z3)] [.int a1, .int a6, .ref 163, .int y8.1, .int a5] (fun n h => rfl) ?_
        obtain ⟨y9, hy9, h⟩ := hq_bind h
        refine hq_inv rfl rfl (Nat.le_trans (by decide) hd) rfl rfl (hq_rcv rfl rfl) (f_X2_hadIn_run (Nat.le_sub_of_add_le (Nat.le_trans (by decide) hd)) hy9) rfl ?_
        by_cases c10 : y8.1 = y9.1
        · rw [if_pos c10] at h
          refine hq_icF rfl (hq_c_ne_F c10) ?_
          refine hq_p 2 81 [some (.ref 163), some (.int a1), some (.int a2), some (.int a3), some (.int a4), some (.int a5), some (.int a6), some (.int z3)] [.int (1 : Int32), .int a5] (fun n h => rfl) ?_
          cases h
          exact hT
        · rw [if_neg c10] at h
          refine hq_icT rfl (hq_c_ne_T c10) ?_
          refine hq_p 1 81 [some (.ref 163), some (.int a1), some (.int a2), some (.int a3), some (.int a4), some (.int a5), some (.int a6), some (.int z3)] [.int (0 : Int32), .int a5] (fun n h => rfl) ?_
          cases h
          exact hT
    refine hq_p 4 18 [some (.ref 163), some (.int a1), some (.int a2), some (.int a3), some (.int a4), some (.int (a5 + z6.1)), some (.int (a6 + (1 : Int32))), some (.int z3)] [] (fun n h => rfl) ?_
    exact e18 a1 a2 a3 a4 (a5 + z6.1) (a6 + (1 : Int32)) _ z6.2 h
  · rw [if_neg c2] at h
    refine hq_icT rfl (hq_c_ge_T c2) ?_
    refine hq_p 2 93 [some (.ref 163), some (.int a1), some (.int a2), some (.int a3), some (.int a4), some (.int a5), some (.int a6), o7] [.int a5, .int a3] (fun n h => rfl) ?_
    refine hq_math rfl rfl rfl (Nat.le_trans (by decide) hd) ?_
    refine hq_p 3 5 [some (.ref 163), some (.int a1), some (.int a2), some (.int (hq_max a3 a5)), some (.int (a4 + (1 : Int32))), some (.int a5), some (.int a6), o7] [] (fun n h => rfl) ?_
    exact e5 a1 a2 (hq_max a3 a5) (a4 + (1 : Int32)) _ _ _ s h
theorem f_X2_worstLeft_L18_run {xs : List Int32} {n m d g : Nat} {a1 : Int32} {a2 : Int32} {a3 : Int32} {a4 : Int32} {a5 : Int32} {a6 : Int32} {o7 : Option Value} {q5 : Int32 → Int32 → Int32 → Int32 → hq_S → Option (Int32 × hq_S)} {s : hq_S} {y : (Int32 × hq_S)} (hd : 1 ≤ d) (e5 : ∀ (a1 : Int32) (a2 : Int32) (a3 : Int32) (a4 : Int32) (o5 : Option Value) (o6 : Option Value) (o7 : Option Value) (s : hq_S), q5 a1 a2 a3 a4 s = some y → hq_R (mm_O xs) d mc_X2_worstLeft 5 [some (.ref 163), some (.int a1), some (.int a2), some (.int a3), some (.int a4), o5, o6, o7] [] s g (some (.int y.1)) y.2) (h : f_X2_worstLeft_L18 n q5 m a1 a2 a3 a4 a5 a6 s = some y) : hq_R (mm_O xs) d mc_X2_worstLeft 18 [some (.ref 163), some (.int a1), some (.int a2), some (.int a3), some (.int a4), some (.int a5), some (.int a6), o7] [] s g (some (.int y.1)) y.2 := by
  induction m generalizing a1 a2 a3 a4 a5 a6 o7 s with
  | zero => cases h
  | succ m ih => exact f_X2_worstLeft_L18_Brun (n := n) hd e5 (fun a1 a2 a3 a4 a5 a6 o7 s h => ih h) h
def f_X2_worstLeft_L5_B (n : Nat) (q5 : Int32 → Int32 → Int32 → Int32 → hq_S → Option (Int32 × hq_S)) (a1 : Int32) (a2 : Int32) (a3 : Int32) (a4 : Int32) (s : hq_S) : Option (Int32 × hq_S) := if a4 < (10 : Int32) then f_X2_worstLeft_L18 n q5 n a1 a2 a3 a4 (0 : Int32) (0 : Int32) s else some (a3, s)
def f_X2_worstLeft_L5 (n : Nat) (m : Nat) : Int32 → Int32 → Int32 → Int32 → hq_S → Option (Int32 × hq_S) := Nat.rec (fun _ _ _ _ _ => none) (fun _ q => f_X2_worstLeft_L5_B n q) m
theorem f_X2_worstLeft_L5_Brun {xs : List Int32} {n d g : Nat} {a1 : Int32} {a2 : Int32} {a3 : Int32} {a4 : Int32} {o5 : Option Value} {o6 : Option Value} {o7 : Option Value} {q5 : Int32 → Int32 → Int32 → Int32 → hq_S → Option (Int32 × hq_S)} {s : hq_S} {y : (Int32 × hq_S)} (hd : 1 ≤ d) (e5 : ∀ (a1 : Int32) (a2 : Int32) (a3 : Int32) (a4 : Int32) (o5 : Option Value) (o6 : Option Value) (o7 : Option Value) (s : hq_S), q5 a1 a2 a3 a4 s = some y → hq_R (mm_O xs) d mc_X2_worstLeft 5 [some (.ref 163), some (.int a1), some (.int a2), some (.int a3), some (.int a4), o5, o6, o7] [] s g (some (.int y.1)) y.2) (h : f_X2_worstLeft_L5_B n q5 a1 a2 a3 a4 s = some y) : hq_R (mm_O xs) d mc_X2_worstLeft 5 [some (.ref 163), some (.int a1), some (.int a2), some (.int a3), some (.int a4), o5, o6, o7] [] s g (some (.int y.1)) y.2 := by
  unfold f_X2_worstLeft_L5_B at h
  refine hq_p 2 9 [some (.ref 163), some (.int a1), some (.int a2), some (.int a3), some (.int a4), o5, o6, o7] [.int (10 : Int32), .int a4] (fun n h => rfl) ?_
  by_cases c1 : a4 < (10 : Int32)
  · rw [if_pos c1] at h
    refine hq_icF rfl (hq_c_ge_F c1) ?_
    refine hq_p 4 18 [some (.ref 163), some (.int a1), some (.int a2), some (.int a3), some (.int a4), some (.int (0 : Int32)), some (.int (0 : Int32)), o7] [] (fun n h => rfl) ?_
    exact f_X2_worstLeft_L18_run hd e5 h
  · rw [if_neg c1] at h
    refine hq_icT rfl (hq_c_ge_T c1) ?_
    refine hq_p 1 104 [some (.ref 163), some (.int a1), some (.int a2), some (.int a3), some (.int a4), o5, o6, o7] [.int a3] (fun n h => rfl) ?_
    have h := Option.some.inj h
    subst h
    exact ⟨1, rfl⟩
theorem f_X2_worstLeft_L5_run {xs : List Int32} {n m d g : Nat} {a1 : Int32} {a2 : Int32} {a3 : Int32} {a4 : Int32} {o5 : Option Value} {o6 : Option Value} {o7 : Option Value} {s : hq_S} {y : (Int32 × hq_S)} (hd : 1 ≤ d) (h : f_X2_worstLeft_L5 n m a1 a2 a3 a4 s = some y) : hq_R (mm_O xs) d mc_X2_worstLeft 5 [some (.ref 163), some (.int a1), some (.int a2), some (.int a3), some (.int a4), o5, o6, o7] [] s g (some (.int y.1)) y.2 := by
  induction m generalizing a1 a2 a3 a4 o5 o6 o7 s with
  | zero => cases h
  | succ m ih => exact f_X2_worstLeft_L5_Brun (n := n) hd (fun a1 a2 a3 a4 o5 o6 o7 s h => ih h) h
def f_X2_worstLeft (n : Nat) (a1 : Int32) (a2 : Int32) (s : hq_S) : Option (Int32 × hq_S) := f_X2_worstLeft_L5 n n a1 a2 (0 : Int32) (0 : Int32) s
theorem f_X2_worstLeft_run {xs : List Int32} {n d g : Nat} {a1 : Int32} {a2 : Int32} {s : hq_S} {y : (Int32 × hq_S)} (hd : 1 ≤ d) (h : f_X2_worstLeft n a1 a2 s = some y) : hq_R (mm_O xs) d mc_X2_worstLeft 0 [some (.ref 163), some (.int a1), some (.int a2), none, none, none, none, none] [] s g (some (.int y.1)) y.2 := by
  unfold f_X2_worstLeft at h
  refine hq_p 4 5 [some (.ref 163), some (.int a1), some (.int a2), some (.int (0 : Int32)), some (.int (0 : Int32)), none, none, none] [] (fun n h => rfl) ?_
  exact f_X2_worstLeft_L5_run hd h
