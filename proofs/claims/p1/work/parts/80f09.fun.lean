def f_X12_works_J407 (n : Nat) (a1 : Int32) (j2 : Int64) (j4 : Int64) (j6 : Int64) (s : hq_S) : Option (Int32 × hq_S) := (hq_stj s 195 64 ((hq_gi s 174 36) - (1 : Int32)) j6).bind fun s7 => if 0 < (lg_cmp j6 (1000000000000 : Int64)) then some ((0 : Int32), s7) else if (lg_cmp j6 (-1000000000000 : Int64)) < 0 then some ((0 : Int32), s7) else some ((1 : Int32), s7)
theorem f_X12_works_J407_run {xs : List Int32} {n d g : Nat} {a1 : Int32} {j2 : Int64} {j4 : Int64} {j6 : Int64} {s : hq_S} {y : (Int32 × hq_S)} (hd : 1 ≤ d) (h : f_X12_works_J407 n a1 j2 j4 j6 s = some y) : hq_R (mm_O xs) d mc_X12_works 407 [some (.ref 174), some (.int a1), some (.long j2), none, some (.long j4), none, some (.long j6), none] [] s g (some (.int y.1)) y.2 := by
  unfold f_X12_works_J407 at h
  refine hq_p 1 408 [some (.ref 174), some (.int a1), some (.long j2), none, some (.long j4), none, some (.long j6), none] [.ref 174] (fun n h => rfl) ?_
  refine hq_gf (x := .ref 195) rfl rfl rfl rfl rfl ?_
  refine hq_p 1 412 [some (.ref 174), some (.int a1), some (.long j2), none, some (.long j4), none, some (.long j6), none] [.ref 174, .ref 195] (fun n h => rfl) ?_
  refine hq_gf (x := .int (hq_gi s 174 36)) rfl rfl rfl rfl rfl ?_
  refine hq_p 3 419 [some (.ref 174), some (.int a1), some (.long j2), none, some (.long j4), none, some (.long j6), none] [.long j6, .int ((hq_gi s 174 36) - (1 : Int32)), .ref 195] (fun n h => rfl) ?_
  obtain ⟨s7, hs7, h⟩ := hq_bind h
  refine hq_lastore rfl rfl List.length_replicate hs7 ?_
  refine hq_p 1 422 [some (.ref 174), some (.int a1), some (.long j2), none, some (.long j4), none, some (.long j6), none] [.long j6] (fun n h => rfl) ?_
  refine hq_lc2 (1000000000000 : Int64) rfl (by decide) ?_
  refine hq_p 1 426 [some (.ref 174), some (.int a1), some (.long j2), none, some (.long j4), none, some (.long j6), none] [.int (lg_cmp j6 (1000000000000 : Int64))] (fun n h => rfl) ?_
  by_cases c8 : 0 < (lg_cmp j6 (1000000000000 : Int64))
  · rw [if_pos c8] at h
    refine hq_izT rfl (hq_c_gt_T c8) ?_
    refine hq_p 1 443 [some (.ref 174), some (.int a1), some (.long j2), none, some (.long j4), none, some (.long j6), none] [.int (0 : Int32)] (fun n h => rfl) ?_
    have h := Option.some.inj h
    subst h
    exact ⟨1, rfl⟩
  · rw [if_neg c8] at h
    refine hq_izF rfl (hq_c_gt_F c8) ?_
    refine hq_p 1 431 [some (.ref 174), some (.int a1), some (.long j2), none, some (.long j4), none, some (.long j6), none] [.long j6] (fun n h => rfl) ?_
    refine hq_lc2 (-1000000000000 : Int64) rfl (by decide) ?_
    refine hq_p 1 435 [some (.ref 174), some (.int a1), some (.long j2), none, some (.long j4), none, some (.long j6), none] [.int (lg_cmp j6 (-1000000000000 : Int64))] (fun n h => rfl) ?_
    by_cases c9 : (lg_cmp j6 (-1000000000000 : Int64)) < 0
    · rw [if_pos c9] at h
      refine hq_izT rfl (hq_c_lt_T c9) ?_
      refine hq_p 1 443 [some (.ref 174), some (.int a1), some (.long j2), none, some (.long j4), none, some (.long j6), none] [.int (0 : Int32)] (fun n h => rfl) ?_
      have h := Option.some.inj h
      subst h
      exact ⟨1, rfl⟩
    · rw [if_neg c9] at h
      refine hq_izF rfl (hq_c_lt_F c9) ?_
      refine hq_p 2 443 [some (.ref 174), some (.int a1), some (.long j2), none, some (.long j4), none, some (.long j6), none] [.int (1 : Int32)] (fun n h => rfl) ?_
      have h := Option.some.inj h
      subst h
      exact ⟨1, rfl⟩
def f_X12_works_J212 (n : Nat) (a1 : Int32) (j2 : Int64) (j4 : Int64) (s : hq_S) : Option (Int32 × hq_S) := f_X12_works_J407 n a1 j2 j4 (j4 * j2) s
theorem f_X12_works_J212_run {xs : List Int32} {n d g : Nat} {a1 : Int32} {j2 : Int64} {j4 : Int64} {s : hq_S} {y : (Int32 × hq_S)} (hd : 1 ≤ d) (h : f_X12_works_J212 n a1 j2 j4 s = some y) : hq_R (mm_O xs) d mc_X12_works 212 [some (.ref 174), some (.int a1), some (.long j2), none, some (.long j4), none, none, none] [] s g (some (.int y.1)) y.2 := by
  unfold f_X12_works_J212 at h
  refine hq_p 5 407 [some (.ref 174), some (.int a1), some (.long j2), none, some (.long j4), none, some (.long (j4 * j2)), none] [] (fun n h => rfl) ?_
  exact f_X12_works_J407_run hd h
def f_X12_works (n : Nat) (a1 : Int32) (s : hq_S) : Option (Int32 × hq_S) := (hq_ldj s 195 64 ((hq_gi s 174 36) - (1 : Int32))).bind fun x1 => if a1 = (260 : Int32) then (if (lg_cmp x1 (0 : Int64)) = 0 then some (1 : Int32) else some (0 : Int32)).bind fun z50 => (f_X12_is n z50 s).bind fun y52 => (hq_stj y52.2 195 64 ((hq_gi s 174 36) - (1 : Int32)) y52.1).bind fun s53 => some ((1 : Int32), s53) else (hq_ldj s 195 64 ((hq_gi s 174 36) - (2 : Int32))).bind fun x3 => (hq_pi s 174 36 0 ((hq_gi s 174 36) - (1 : Int32))).bind fun s4 => if a1 = (42 : Int32) then if (lg_cmp x3 (0 : Int64)) = 0 then f_X12_works_J212 n a1 x1 x3 s4 else (hq_ldiv (1000000000000 : Int64) (hq_absj x3)).bind fun x10 => if 0 < (lg_cmp (hq_absj x1) x10) then some ((0 : Int32), s4) else f_X12_works_J212 n a1 x1 x3 s4 else if a1 = (43 : Int32) then f_X12_works_J407 n a1 x1 x3 (x3 + x1) s4 else if a1 = (45 : Int32) then f_X12_works_J407 n a1 x1 x3 (x3 - x1) s4 else if a1 = (47 : Int32) then if (lg_cmp x1 (0 : Int64)) = 0 then some ((0 : Int32), s4) else (hq_ldiv x3 x1).bind fun x16 => f_X12_works_J407 n a1 x1 x3 x16 s4 else if a1 = (60 : Int32) then (if (lg_cmp x3 x1) < 0 then some (1 : Int32) else some (0 : Int32)).bind fun z18 => (f_X12_is n z18 s4).bind fun y20 => f_X12_works_J407 n a1 x1 x3 y20.1 y20.2 else if a1 = (61 : Int32) then (if (lg_cmp x3 x1) = 0 then some (1 : Int32) else some (0 : Int32)).bind fun z22 => (f_X12_is n z22 s4).bind fun y24 => f_X12_works_J407 n a1 x1 x3 y24.1 y24.2 else if a1 = (62 : Int32) then (if 0 < (lg_cmp x3 x1) then some (1 : Int32) else some (0 : Int32)).bind fun z26 => (f_X12_is n z26 s4).bind fun y28 => f_X12_works_J407 n a1 x1 x3 y28.1 y28.2 else if a1 = (256 : Int32) then (if 0 < (lg_cmp x3 x1) then some (0 : Int32) else some (1 : Int32)).bind fun z30 => (f_X12_is n z30 s4).bind fun y32 => f_X12_works_J407 n a1 x1 x3 y32.1 y32.2 else if a1 = (257 : Int32) then (if (lg_cmp x3 x1) = 0 then some (0 : Int32) else some (1 : Int32)).bind fun z34 => (f_X12_is n z34 s4).bind fun y36 => f_X12_works_J407 n a1 x1 x3 y36.1 y36.2 else if a1 = (258 : Int32) then (if (lg_cmp x3 x1) < 0 then some (0 : Int32) else some (1 : Int32)).bind fun z38 => (f_X12_is n z38 s4).bind fun y40 => f_X12_works_J407 n a1 x1 x3 y40.1 y40.2 else if a1 = (261 : Int32) then (if (lg_cmp x3 (0 : Int64)) = 0 then some (0 : Int32) else if (lg_cmp x1 (0 : Int64)) = 0 then some (0 : Int32) else some (1 : Int32)).bind fun z42 => (f_X12_is n z42 s4).bind fun y45 => f_X12_works_J407 n a1 x1 x3 y45.1 y45.2 else (if (lg_cmp x3 (0 : Int64)) = 0 then if (lg_cmp x1 (0 : Int64)) = 0 then some (0 : Int32) else some (1 : Int32) else some (1 : Int32)).bind fun z46 => (f_X12_is n z46 s4).bind fun y49 => f_X12_works_J407 n a1 x1 x3 y49.1 y49.2
theorem f_X12_works_run {xs : List Int32} {n d g : Nat} {a1 : Int32} {s : hq_S} {y : (Int32 × hq_S)} (hd : 1 ≤ d) (h : f_X12_works n a1 s = some y) : hq_R (mm_O xs) d mc_X12_works 0 [some (.ref 174), some (.int a1), none, none, none, none, none, none] [] s g (some (.int y.1)) y.2 := by
  unfold f_X12_works at h
  refine hq_p 1 1 [some (.ref 174), some (.int a1), none, none, none, none, none, none] [.ref 174] (fun n h => rfl) ?_
  refine hq_gf (x := .ref 195) rfl rfl rfl rfl rfl ?_
  refine hq_p 1 5 [some (.ref 174), some (.int a1), none, none, none, none, none, none] [.ref 174, .ref 195] (fun n h => rfl) ?_
  refine hq_gf (x := .int (hq_gi s 174 36)) rfl rfl rfl rfl rfl ?_
  refine hq_p 2 10 [some (.ref 174), some (.int a1), none, none, none, none, none, none] [.int ((hq_gi s 174 36) - (1 : Int32)), .ref 195] (fun n h => rfl) ?_
  obtain ⟨x1, hx1, h⟩ := hq_bind h
  refine hq_laload rfl rfl List.length_replicate hx1 ?_
  refine hq_p 2 13 [some (.ref 174), some (.int a1), some (.long x1), none, none, none, none, none] [.int a1] (fun n h => rfl) ?_
  refine hq_sip (260 : Int32) rfl (by decide) ?_
  by_cases c2 : a1 = (260 : Int32)
  · rw [if_pos c2] at h
    refine hq_icF rfl (hq_c_ne_F c2) ?_
    refine hq_p 1 20 [some (.ref 174), some (.int a1), some (.long x1), none, none, none, none, none] [.ref 174] (fun n h => rfl) ?_
    refine hq_gf (x := .ref 195) rfl rfl rfl rfl rfl ?_
    refine hq_p 1 24 [some (.ref 174), some (.int a1), some (.long x1), none, none, none, none, none] [.ref 174, .ref 195] (fun n h => rfl) ?_
    refine hq_gf (x := .int (hq_gi s 174 36)) rfl rfl rfl rfl rfl ?_
    refine hq_p 5 32 [some (.ref 174), some (.int a1), some (.long x1), none, none, none, none, none] [.int (lg_cmp x1 (0 : Int64)), .int ((hq_gi s 174 36) - (1 : Int32)), .ref 195] (fun n h => rfl) ?_
    obtain ⟨z50, hz50, h⟩ := hq_bind h
    suffices hT : hq_R (mm_O xs) d mc_X12_works 40 [some (.ref 174), some (.int a1), some (.long x1), none, none, none, none, none] [.int z50, .int ((hq_gi s 174 36) - (1 : Int32)), .ref 195] s g (some (.int y.1)) y.2 from by
      clear h
      have h := hz50
      by_cases c51 : (lg_cmp x1 (0 : Int64)) = 0
      · rw [if_pos c51] at h
        refine hq_izF rfl (hq_c_ne_F c51) ?_
        refine hq_p 2 40 [some (.ref 174), some (.int a1), some (.long x1), none, none, none, none, none] [.int (1 : Int32), .int ((hq_gi s 174 36) - (1 : Int32)), .ref 195] (fun n h => rfl) ?_
        cases h
        exact hT
      · rw [if_neg c51] at h
        refine hq_izT rfl (hq_c_ne_T c51) ?_
        refine hq_p 1 40 [some (.ref 174), some (.int a1), some (.long x1), none, none, none, none, none] [.int (0 : Int32), .int ((hq_gi s 174 36) - (1 : Int32)), .ref 195] (fun n h => rfl) ?_
        cases h
        exact hT
    obtain ⟨y52, hy52, h⟩ := hq_bind h
    refine hq_ist rfl rfl rfl (Nat.le_trans (by decide) hd) rfl (f_X12_is_run (Nat.le_sub_of_add_le (Nat.le_trans (by decide) hd)) hy52) rfl ?_
    obtain ⟨s53, hs53, h⟩ := hq_bind h
    refine hq_lastore rfl rfl List.length_replicate hs53 ?_
    refine hq_p 1 45 [some (.ref 174), some (.int a1), some (.long x1), none, none, none, none, none] [.int (1 : Int32)] (fun n h => rfl) ?_
    have h := Option.some.inj h
    subst h
    exact ⟨1, rfl⟩
  · rw [if_neg c2] at h
    refine hq_icT rfl (hq_c_ne_T c2) ?_
    refine hq_p 1 47 [some (.ref 174), some (.int a1), some (.long x1), none, none, none, none, none] [.ref 174] (fun n h => rfl) ?_
    refine hq_gf (x := .ref 195) rfl rfl rfl rfl rfl ?_
    refine hq_p 1 51 [some (.ref 174), some (.int a1), some (.long x1), none, none, none, none, none] [.ref 174, .ref 195] (fun n h => rfl) ?_
    refine hq_gf (x := .int (hq_gi s 174 36)) rfl rfl rfl rfl rfl ?_
    refine hq_p 2 56 [some (.ref 174), some (.int a1), some (.long x1), none, none, none, none, none] [.int ((hq_gi s 174 36) - (2 : Int32)), .ref 195] (fun n h => rfl) ?_
    obtain ⟨x3, hx3, h⟩ := hq_bind h
    refine hq_laload rfl rfl List.length_replicate hx3 ?_
    refine hq_p 3 61 [some (.ref 174), some (.int a1), some (.long x1), none, some (.long x3), none, none, none] [.ref 174, .ref 174] (fun n h => rfl) ?_
    refine hq_gf (x := .int (hq_gi s 174 36)) rfl rfl rfl rfl rfl ?_
    refine hq_p 2 66 [some (.ref 174), some (.int a1), some (.long x1), none, some (.long x3), none, none, none] [.int ((hq_gi s 174 36) - (1 : Int32)), .ref 174] (fun n h => rfl) ?_
    obtain ⟨s4, hs4, h⟩ := hq_bind h
    refine hq_pfi rfl rfl rfl rfl rfl hs4 ?_
    refine hq_p 1 70 [some (.ref 174), some (.int a1), some (.long x1), none, some (.long x3), none, none, none] [.int a1] (fun n h => rfl) ?_
    by_cases c5 : a1 = (42 : Int32)
    · rw [if_pos c5] at h
      refine hq_lsw rfl (show _ = some 186 from by rw [c5]; decide) ?_
      refine hq_p 3 190 [some (.ref 174), some (.int a1), some (.long x1), none, some (.long x3), none, none, none] [.int (lg_cmp x3 (0 : Int64))] (fun n h => rfl) ?_
      by_cases c6 : (lg_cmp x3 (0 : Int64)) = 0
      · rw [if_pos c6] at h
        refine hq_izT rfl (hq_c_eq_T c6) ?_
        exact f_X12_works_J212_run hd h
      · rw [if_neg c6] at h
        refine hq_izF rfl (hq_c_eq_F c6) ?_
        refine hq_p 1 194 [some (.ref 174), some (.int a1), some (.long x1), none, some (.long x3), none, none, none] [.long x1] (fun n h => rfl) ?_
        refine hq_math rfl rfl rfl (Nat.le_trans (by decide) hd) ?_
        refine hq_lc2 (1000000000000 : Int64) rfl (by decide) ?_
        refine hq_p 1 202 [some (.ref 174), some (.int a1), some (.long x1), none, some (.long x3), none, none, none] [.long x3, .long (1000000000000 : Int64), .long (hq_absj x1)] (fun n h => rfl) ?_
        refine hq_math rfl rfl rfl (Nat.le_trans (by decide) hd) ?_
        obtain ⟨x10, hx10, h⟩ := hq_bind h
        refine hq_ldiv_ rfl hx10 ?_
        refine hq_p 1 207 [some (.ref 174), some (.int a1), some (.long x1), none, some (.long x3), none, none, none] [.int (lg_cmp (hq_absj x1) x10)] (fun n h => rfl) ?_
        by_cases c11 : 0 < (lg_cmp (hq_absj x1) x10)
        · rw [if_pos c11] at h
          refine hq_izF rfl (hq_c_le_F c11) ?_
          refine hq_p 1 211 [some (.ref 174), some (.int a1), some (.long x1), none, some (.long x3), none, none, none] [.int (0 : Int32)] (fun n h => rfl) ?_
          have h := Option.some.inj h
          subst h
          exact ⟨1, rfl⟩
        · rw [if_neg c11] at h
          refine hq_izT rfl (hq_c_le_T c11) ?_
          exact f_X12_works_J212_run hd h
    rw [if_neg c5] at h
    by_cases c12 : a1 = (43 : Int32)
    · rw [if_pos c12] at h
      refine hq_lsw rfl (show _ = some 168 from by rw [c12]; decide) ?_
      refine hq_p 5 407 [some (.ref 174), some (.int a1), some (.long x1), none, some (.long x3), none, some (.long (x3 + x1)), none] [] (fun n h => rfl) ?_
      exact f_X12_works_J407_run hd h
    rw [if_neg c12] at h
    by_cases c13 : a1 = (45 : Int32)
    · rw [if_pos c13] at h
      refine hq_lsw rfl (show _ = some 177 from by rw [c13]; decide) ?_
      refine hq_p 5 407 [some (.ref 174), some (.int a1), some (.long x1), none, some (.long x3), none, some (.long (x3 - x1)), none] [] (fun n h => rfl) ?_
      exact f_X12_works_J407_run hd h
    rw [if_neg c13] at h
    by_cases c14 : a1 = (47 : Int32)
    · rw [if_pos c14] at h
      refine hq_lsw rfl (show _ = some 221 from by rw [c14]; decide) ?_
      refine hq_p 3 224 [some (.ref 174), some (.int a1), some (.long x1), none, some (.long x3), none, none, none] [.int (lg_cmp x1 (0 : Int64))] (fun n h => rfl) ?_
      by_cases c15 : (lg_cmp x1 (0 : Int64)) = 0
      · rw [if_pos c15] at h
        refine hq_izF rfl (hq_c_ne_F c15) ?_
        refine hq_p 1 228 [some (.ref 174), some (.int a1), some (.long x1), none, some (.long x3), none, none, none] [.int (0 : Int32)] (fun n h => rfl) ?_
        have h := Option.some.inj h
        subst h
        exact ⟨1, rfl⟩
      · rw [if_neg c15] at h
        refine hq_izT rfl (hq_c_ne_T c15) ?_
        refine hq_p 2 232 [some (.ref 174), some (.int a1), some (.long x1), none, some (.long x3), none, none, none] [.long x1, .long x3] (fun n h => rfl) ?_
        obtain ⟨x16, hx16, h⟩ := hq_bind h
        refine hq_ldiv_ rfl hx16 ?_
        refine hq_p 2 407 [some (.ref 174), some (.int a1), some (.long x1), none, some (.long x3), none, some (.long x16), none] [] (fun n h => rfl) ?_
        exact f_X12_works_J407_run hd h
    rw [if_neg c14] at h
    by_cases c17 : a1 = (60 : Int32)
    · rw [if_pos c17] at h
      refine hq_lsw rfl (show _ = some 238 from by rw [c17]; decide) ?_
      refine hq_p 3 242 [some (.ref 174), some (.int a1), some (.long x1), none, some (.long x3), none, none, none] [.int (lg_cmp x3 x1)] (fun n h => rfl) ?_
      obtain ⟨z18, hz18, h⟩ := hq_bind h
      suffices hT : hq_R (mm_O xs) d mc_X12_works 250 [some (.ref 174), some (.int a1), some (.long x1), none, some (.long x3), none, none, none] [.int z18] s4 g (some (.int y.1)) y.2 from by
        clear h
        have h := hz18
        by_cases c19 : (lg_cmp x3 x1) < 0
        · rw [if_pos c19] at h
          refine hq_izF rfl (hq_c_ge_F c19) ?_
          refine hq_p 2 250 [some (.ref 174), some (.int a1), some (.long x1), none, some (.long x3), none, none, none] [.int (1 : Int32)] (fun n h => rfl) ?_
          cases h
          exact hT
        · rw [if_neg c19] at h
          refine hq_izT rfl (hq_c_ge_T c19) ?_
          refine hq_p 1 250 [some (.ref 174), some (.int a1), some (.long x1), none, some (.long x3), none, none, none] [.int (0 : Int32)] (fun n h => rfl) ?_
          cases h
          exact hT
      obtain ⟨y20, hy20, h⟩ := hq_bind h
      refine hq_ist rfl rfl rfl (Nat.le_trans (by decide) hd) rfl (f_X12_is_run (Nat.le_sub_of_add_le (Nat.le_trans (by decide) hd)) hy20) rfl ?_
      refine hq_p 2 407 [some (.ref 174), some (.int a1), some (.long x1), none, some (.long x3), none, some (.long y20.1), none] [] (fun n h => rfl) ?_
      exact f_X12_works_J407_run hd h
    rw [if_neg c17] at h
    by_cases c21 : a1 = (61 : Int32)
    · rw [if_pos c21] at h
      refine hq_lsw rfl (show _ = some 278 from by rw [c21]; decide) ?_
      refine hq_p 3 282 [some (.ref 174), some (.int a1), some (.long x1), none, some (.long x3), none, none, none] [.int (lg_cmp x3 x1)] (fun n h => rfl) ?_
      obtain ⟨z22, hz22, h⟩ := hq_bind h
      suffices hT : hq_R (mm_O xs) d mc_X12_works 290 [some (.ref 174), some (.int a1), some (.long x1), none, some (.long x3), none, none, none] [.int z22] s4 g (some (.int y.1)) y.2 from by
        clear h
        have h := hz22
        by_cases c23 : (lg_cmp x3 x1) = 0
        · rw [if_pos c23] at h
          refine hq_izF rfl (hq_c_ne_F c23) ?_
          refine hq_p 2 290 [some (.ref 174), some (.int a1), some (.long x1), none, some (.long x3), none, none, none] [.int (1 : Int32)] (fun n h => rfl) ?_
          cases h
          exact hT
        · rw [if_neg c23] at h
          refine hq_izT rfl (hq_c_ne_T c23) ?_
          refine hq_p 1 290 [some (.ref 174), some (.int a1), some (.long x1), none, some (.long x3), none, none, none] [.int (0 : Int32)] (fun n h => rfl) ?_
          cases h
          exact hT
      obtain ⟨y24, hy24, h⟩ := hq_bind h
      refine hq_ist rfl rfl rfl (Nat.le_trans (by decide) hd) rfl (f_X12_is_run (Nat.le_sub_of_add_le (Nat.le_trans (by decide) hd)) hy24) rfl ?_
      refine hq_p 2 407 [some (.ref 174), some (.int a1), some (.long x1), none, some (.long x3), none, some (.long y24.1), none] [] (fun n h => rfl) ?_
      exact f_X12_works_J407_run hd h
    rw [if_neg c21] at h
    by_cases c25 : a1 = (62 : Int32)
    · rw [if_pos c25] at h
      refine hq_lsw rfl (show _ = some 258 from by rw [c25]; decide) ?_
      refine hq_p 3 262 [some (.ref 174), some (.int a1), some (.long x1), none, some (.long x3), none, none, none] [.int (lg_cmp x3 x1)] (fun n h => rfl) ?_
      obtain ⟨z26, hz26, h⟩ := hq_bind h
      suffices hT : hq_R (mm_O xs) d mc_X12_works 270 [some (.ref 174), some (.int a1), some (.long x1), none, some (.long x3), none, none, none] [.int z26] s4 g (some (.int y.1)) y.2 from by
        clear h
        have h := hz26
        by_cases c27 : 0 < (lg_cmp x3 x1)
        · rw [if_pos c27] at h
          refine hq_izF rfl (hq_c_le_F c27) ?_
          refine hq_p 2 270 [some (.ref 174), some (.int a1), some (.long x1), none, some (.long x3), none, none, none] [.int (1 : Int32)] (fun n h => rfl) ?_
          cases h
          exact hT
        · rw [if_neg c27] at h
          refine hq_izT rfl (hq_c_le_T c27) ?_
          refine hq_p 1 270 [some (.ref 174), some (.int a1), some (.long x1), none, some (.long x3), none, none, none] [.int (0 : Int32)] (fun n h => rfl) ?_
          cases h
          exact hT
      obtain ⟨y28, hy28, h⟩ := hq_bind h
      refine hq_ist rfl rfl rfl (Nat.le_trans (by decide) hd) rfl (f_X12_is_run (Nat.le_sub_of_add_le (Nat.le_trans (by decide) hd)) hy28) rfl ?_
      refine hq_p 2 407 [some (.ref 174), some (.int a1), some (.long x1), none, some (.long x3), none, some (.long y28.1), none] [] (fun n h => rfl) ?_
      exact f_X12_works_J407_run hd h
    rw [if_neg c25] at h
    by_cases c29 : a1 = (256 : Int32)
    · rw [if_pos c29] at h
      refine hq_lsw rfl (show _ = some 298 from by rw [c29]; decide) ?_
      refine hq_p 3 302 [some (.ref 174), some (.int a1), some (.long x1), none, some (.long x3), none, none, none] [.int (lg_cmp x3 x1)] (fun n h => rfl) ?_
      obtain ⟨z30, hz30, h⟩ := hq_bind h
      suffices hT : hq_R (mm_O xs) d mc_X12_works 310 [some (.ref 174), some (.int a1), some (.long x1), none, some (.long x3), none, none, none] [.int z30] s4 g (some (.int y.1)) y.2 from by
        clear h
        have h := hz30
        by_cases c31 : 0 < (lg_cmp x3 x1)
        · rw [if_pos c31] at h
          refine hq_izT rfl (hq_c_gt_T c31) ?_
          refine hq_p 1 310 [some (.ref 174), some (.int a1), some (.long x1), none, some (.long x3), none, none, none] [.int (0 : Int32)] (fun n h => rfl) ?_
          cases h
          exact hT
        · rw [if_neg c31] at h
          refine hq_izF rfl (hq_c_gt_F c31) ?_
          refine hq_p 2 310 [some (.ref 174), some (.int a1), some (.long x1), none, some (.long x3), none, none, none] [.int (1 : Int32)] (fun n h => rfl) ?_
          cases h
          exact hT
      obtain ⟨y32, hy32, h⟩ := hq_bind h
      refine hq_ist rfl rfl rfl (Nat.le_trans (by decide) hd) rfl (f_X12_is_run (Nat.le_sub_of_add_le (Nat.le_trans (by decide) hd)) hy32) rfl ?_
      refine hq_p 2 407 [some (.ref 174), some (.int a1), some (.long x1), none, some (.long x3), none, some (.long y32.1), none] [] (fun n h => rfl) ?_
      exact f_X12_works_J407_run hd h
    rw [if_neg c29] at h
    by_cases c33 : a1 = (257 : Int32)
    · rw [if_pos c33] at h
      refine hq_lsw rfl (show _ = some 338 from by rw [c33]; decide) ?_
      refine hq_p 3 342 [some (.ref 174), some (.int a1), some (.long x1), none, some (.long x3), none, none, none] [.int (lg_cmp x3 x1)] (fun n h => rfl) ?_
      obtain ⟨z34, hz34, h⟩ := hq_bind h
      suffices hT : hq_R (mm_O xs) d mc_X12_works 350 [some (.ref 174), some (.int a1), some (.long x1), none, some (.long x3), none, none, none] [.int z34] s4 g (some (.int y.1)) y.2 from by
        clear h
        have h := hz34
        by_cases c35 : (lg_cmp x3 x1) = 0
        · rw [if_pos c35] at h
          refine hq_izT rfl (hq_c_eq_T c35) ?_
          refine hq_p 1 350 [some (.ref 174), some (.int a1), some (.long x1), none, some (.long x3), none, none, none] [.int (0 : Int32)] (fun n h => rfl) ?_
          cases h
          exact hT
        · rw [if_neg c35] at h
          refine hq_izF rfl (hq_c_eq_F c35) ?_
          refine hq_p 2 350 [some (.ref 174), some (.int a1), some (.long x1), none, some (.long x3), none, none, none] [.int (1 : Int32)] (fun n h => rfl) ?_
          cases h
          exact hT
      obtain ⟨y36, hy36, h⟩ := hq_bind h
      refine hq_ist rfl rfl rfl (Nat.le_trans (by decide) hd) rfl (f_X12_is_run (Nat.le_sub_of_add_le (Nat.le_trans (by decide) hd)) hy36) rfl ?_
      refine hq_p 2 407 [some (.ref 174), some (.int a1), some (.long x1), none, some (.long x3), none, some (.long y36.1), none] [] (fun n h => rfl) ?_
      exact f_X12_works_J407_run hd h
    rw [if_neg c33] at h
    by_cases c37 : a1 = (258 : Int32)
    · rw [if_pos c37] at h
      refine hq_lsw rfl (show _ = some 318 from by rw [c37]; decide) ?_
      refine hq_p 3 322 [some (.ref 174), some (.int a1), some (.long x1), none, some (.long x3), none, none, none] [.int (lg_cmp x3 x1)] (fun n h => rfl) ?_
      obtain ⟨z38, hz38, h⟩ := hq_bind h
      suffices hT : hq_R (mm_O xs) d mc_X12_works 330 [some (.ref 174), some (.int a1), some (.long x1), none, some (.long x3), none, none, none] [.int z38] s4 g (some (.int y.1)) y.2 from by
        clear h
        have h := hz38
        by_cases c39 : (lg_cmp x3 x1) < 0
        · rw [if_pos c39] at h
          refine hq_izT rfl (hq_c_lt_T c39) ?_
          refine hq_p 1 330 [some (.ref 174), some (.int a1), some (.long x1), none, some (.long x3), none, none, none] [.int (0 : Int32)] (fun n h => rfl) ?_
          cases h
          exact hT
        · rw [if_neg c39] at h
          refine hq_izF rfl (hq_c_lt_F c39) ?_
          refine hq_p 2 330 [some (.ref 174), some (.int a1), some (.long x1), none, some (.long x3), none, none, none] [.int (1 : Int32)] (fun n h => rfl) ?_
          cases h
          exact hT
      obtain ⟨y40, hy40, h⟩ := hq_bind h
      refine hq_ist rfl rfl rfl (Nat.le_trans (by decide) hd) rfl (f_X12_is_run (Nat.le_sub_of_add_le (Nat.le_trans (by decide) hd)) hy40) rfl ?_
      refine hq_p 2 407 [some (.ref 174), some (.int a1), some (.long x1), none, some (.long x3), none, some (.long y40.1), none] [] (fun n h => rfl) ?_
      exact f_X12_works_J407_run hd h
    rw [if_neg c37] at h
    by_cases c41 : a1 = (261 : Int32)
    · rw [if_pos c41] at h
      refine hq_lsw rfl (show _ = some 358 from by rw [c41]; decide) ?_
      refine hq_p 3 362 [some (.ref 174), some (.int a1), some (.long x1), none, some (.long x3), none, none, none] [.int (lg_cmp x3 (0 : Int64))] (fun n h => rfl) ?_
      obtain ⟨z42, hz42, h⟩ := hq_bind h
      suffices hT : hq_R (mm_O xs) d mc_X12_works 376 [some (.ref 174), some (.int a1), some (.long x1), none, some (.long x3), none, none, none] [.int z42] s4 g (some (.int y.1)) y.2 from by
        clear h
        have h := hz42
        by_cases c43 : (lg_cmp x3 (0 : Int64)) = 0
        · rw [if_pos c43] at h
          refine hq_izT rfl (hq_c_eq_T c43) ?_
          refine hq_p 1 376 [some (.ref 174), some (.int a1), some (.long x1), none, some (.long x3), none, none, none] [.int (0 : Int32)] (fun n h => rfl) ?_
          cases h
          exact hT
        · rw [if_neg c43] at h
          refine hq_izF rfl (hq_c_eq_F c43) ?_
          refine hq_p 3 368 [some (.ref 174), some (.int a1), some (.long x1), none, some (.long x3), none, none, none] [.int (lg_cmp x1 (0 : Int64))] (fun n h => rfl) ?_
          by_cases c44 : (lg_cmp x1 (0 : Int64)) = 0
          · rw [if_pos c44] at h
            refine hq_izT rfl (hq_c_eq_T c44) ?_
            refine hq_p 1 376 [some (.ref 174), some (.int a1), some (.long x1), none, some (.long x3), none, none, none] [.int (0 : Int32)] (fun n h => rfl) ?_
            cases h
            exact hT
          · rw [if_neg c44] at h
            refine hq_izF rfl (hq_c_eq_F c44) ?_
            refine hq_p 2 376 [some (.ref 174), some (.int a1), some (.long x1), none, some (.long x3), none, none, none] [.int (1 : Int32)] (fun n h => rfl) ?_
            cases h
            exact hT
      obtain ⟨y45, hy45, h⟩ := hq_bind h
      refine hq_ist rfl rfl rfl (Nat.le_trans (by decide) hd) rfl (f_X12_is_run (Nat.le_sub_of_add_le (Nat.le_trans (by decide) hd)) hy45) rfl ?_
      refine hq_p 2 407 [some (.ref 174), some (.int a1), some (.long x1), none, some (.long x3), none, some (.long y45.1), none] [] (fun n h => rfl) ?_
      exact f_X12_works_J407_run hd h
    rw [if_neg c41] at h
    refine hq_lsw rfl (hq_lsw_d [(42 : Int32), (43 : Int32), (45 : Int32), (47 : Int32), (60 : Int32), (61 : Int32), (62 : Int32), (256 : Int32), (257 : Int32), (258 : Int32), (261 : Int32)] (by decide) rfl ⟨c5, c12, c13, c14, c17, c21, c25, c29, c33, c37, c41, trivial⟩) ?_
    refine hq_p 3 388 [some (.ref 174), some (.int a1), some (.long x1), none, some (.long x3), none, none, none] [.int (lg_cmp x3 (0 : Int64))] (fun n h => rfl) ?_
    obtain ⟨z46, hz46, h⟩ := hq_bind h
    suffices hT : hq_R (mm_O xs) d mc_X12_works 402 [some (.ref 174), some (.int a1), some (.long x1), none, some (.long x3), none, none, none] [.int z46] s4 g (some (.int y.1)) y.2 from by
      clear h
      have h := hz46
      by_cases c47 : (lg_cmp x3 (0 : Int64)) = 0
      · rw [if_pos c47] at h
        refine hq_izF rfl (hq_c_ne_F c47) ?_
        refine hq_p 3 394 [some (.ref 174), some (.int a1), some (.long x1), none, some (.long x3), none, none, none] [.int (lg_cmp x1 (0 : Int64))] (fun n h => rfl) ?_
        by_cases c48 : (lg_cmp x1 (0 : Int64)) = 0
        · rw [if_pos c48] at h
          refine hq_izT rfl (hq_c_eq_T c48) ?_
          refine hq_p 1 402 [some (.ref 174), some (.int a1), some (.long x1), none, some (.long x3), none, none, none] [.int (0 : Int32)] (fun n h => rfl) ?_
          cases h
          exact hT
        · rw [if_neg c48] at h
          refine hq_izF rfl (hq_c_eq_F c48) ?_
          refine hq_p 2 402 [some (.ref 174), some (.int a1), some (.long x1), none, some (.long x3), none, none, none] [.int (1 : Int32)] (fun n h => rfl) ?_
          cases h
          exact hT
      · rw [if_neg c47] at h
        refine hq_izT rfl (hq_c_ne_T c47) ?_
        refine hq_p 2 402 [some (.ref 174), some (.int a1), some (.long x1), none, some (.long x3), none, none, none] [.int (1 : Int32)] (fun n h => rfl) ?_
        cases h
        exact hT
    obtain ⟨y49, hy49, h⟩ := hq_bind h
    refine hq_ist rfl rfl rfl (Nat.le_trans (by decide) hd) rfl (f_X12_is_run (Nat.le_sub_of_add_le (Nat.le_trans (by decide) hd)) hy49) rfl ?_
    refine hq_p 1 407 [some (.ref 174), some (.int a1), some (.long x1), none, some (.long x3), none, some (.long y49.1), none] [] (fun n h => rfl) ?_
    exact f_X12_works_J407_run hd h
def f_X12_goes_J96 (n : Nat) (q12 : Int32 → Int32 → hq_S → Option (Int32 × hq_S)) (a1 : Int32) (a2 : Int32) (s : hq_S) : Option (Int32 × hq_S) := q12 a1 (a2 + (1 : Int32)) s
theorem f_X12_goes_J96_run {xs : List Int32} {n d g : Nat} {a1 : Int32} {a2 : Int32} {q12 : Int32 → Int32 → hq_S → Option (Int32 × hq_S)} {s : hq_S} {y : (Int32 × hq_S)} (hd : 2 ≤ d) (e12 : ∀ (a1 : Int32) (a2 : Int32) (s : hq_S), q12 a1 a2 s = some y → hq_R (mm_O xs) d mc_X12_goes 12 [some (.ref 174), some (.int a1), some (.int a2)] [] s g (some (.int y.1)) y.2) (h : f_X12_goes_J96 n q12 a1 a2 s = some y) : hq_R (mm_O xs) d mc_X12_goes 96 [some (.ref 174), some (.int a1), some (.int a2)] [] s g (some (.int y.1)) y.2 := by
  unfold f_X12_goes_J96 at h
  refine hq_p 2 12 [some (.ref 174), some (.int a1), some (.int (a2 + (1 : Int32)))] [] (fun n h => rfl) ?_
  exact e12 a1 (a2 + (1 : Int32)) s h
def f_X12_goes_L12_B (n : Nat) (q12 : Int32 → Int32 → hq_S → Option (Int32 × hq_S)) (a1 : Int32) (a2 : Int32) (s : hq_S) : Option (Int32 × hq_S) := (hq_ld s 191 6 a1).bind fun x3 => if a2 < x3 then (hq_ld s 192 128 a2).bind fun x5 => if x5 = (2 : Int32) then (hq_ld s 193 128 a2).bind fun x15 => (f_X12_works n x15 s).bind fun y16 => if y16.1 = 0 then some ((0 : Int32), y16.2) else f_X12_goes_J96 n q12 a1 a2 y16.2 else (hq_ld s 192 128 a2).bind fun x7 => (if x7 = 0 then (hq_ld s 193 128 a2).bind fun x12 => some x12.toInt64 else (hq_ld s 193 128 a2).bind fun x10 => (hq_ldj s 194 7 x10).bind fun x11 => some x11).bind fun z8 => (hq_stj s 195 64 (hq_gi s 174 36) z8).bind fun s13 => (hq_pi s13 174 36 0 ((hq_gi s13 174 36) + (1 : Int32))).bind fun s14 => f_X12_goes_J96 n q12 a1 a2 s14 else some ((1 : Int32), s)
def f_X12_goes_L12 (n : Nat) (m : Nat) : Int32 → Int32 → hq_S → Option (Int32 × hq_S) := Nat.rec (fun _ _ _ => none) (fun _ q => f_X12_goes_L12_B n q) m
theorem f_X12_goes_L12_Brun {xs : List Int32} {n d g : Nat} {a1 : Int32} {a2 : Int32} {q12 : Int32 → Int32 → hq_S → Option (Int32 × hq_S)} {s : hq_S} {y : (Int32 × hq_S)} (hd : 2 ≤ d) (e12 : ∀ (a1 : Int32) (a2 : Int32) (s : hq_S), q12 a1 a2 s = some y → hq_R (mm_O xs) d mc_X12_goes 12 [some (.ref 174), some (.int a1), some (.int a2)] [] s g (some (.int y.1)) y.2) (h : f_X12_goes_L12_B n q12 a1 a2 s = some y) : hq_R (mm_O xs) d mc_X12_goes 12 [some (.ref 174), some (.int a1), some (.int a2)] [] s g (some (.int y.1)) y.2 := by
  unfold f_X12_goes_L12_B at h
  refine hq_p 2 14 [some (.ref 174), some (.int a1), some (.int a2)] [.ref 174, .int a2] (fun n h => rfl) ?_
  refine hq_gf (x := .ref 191) rfl rfl rfl rfl rfl ?_
  refine hq_p 1 18 [some (.ref 174), some (.int a1), some (.int a2)] [.int a1, .ref 191, .int a2] (fun n h => rfl) ?_
  obtain ⟨x3, hx3, h⟩ := hq_bind h
  refine hq_iaload rfl rfl List.length_replicate hx3 ?_
  by_cases c4 : a2 < x3
  · rw [if_pos c4] at h
    refine hq_icF rfl (hq_c_ge_F c4) ?_
    refine hq_p 1 23 [some (.ref 174), some (.int a1), some (.int a2)] [.ref 174] (fun n h => rfl) ?_
    refine hq_gf (x := .ref 192) rfl rfl rfl rfl rfl ?_
    refine hq_p 1 27 [some (.ref 174), some (.int a1), some (.int a2)] [.int a2, .ref 192] (fun n h => rfl) ?_
    obtain ⟨x5, hx5, h⟩ := hq_bind h
    refine hq_iaload rfl rfl List.length_replicate hx5 ?_
    refine hq_p 1 29 [some (.ref 174), some (.int a1), some (.int a2)] [.int (2 : Int32), .int x5] (fun n h => rfl) ?_
    by_cases c6 : x5 = (2 : Int32)
    · rw [if_pos c6] at h
      refine hq_icF rfl (hq_c_ne_F c6) ?_
      refine hq_p 2 34 [some (.ref 174), some (.int a1), some (.int a2)] [.ref 174, .ref 174] (fun n h => rfl) ?_
      refine hq_gf (x := .ref 193) rfl rfl rfl rfl rfl ?_
      refine hq_p 1 38 [some (.ref 174), some (.int a1), some (.int a2)] [.int a2, .ref 193, .ref 174] (fun n h => rfl) ?_
      obtain ⟨x15, hx15, h⟩ := hq_bind h
      refine hq_iaload rfl rfl List.length_replicate hx15 ?_
      obtain ⟨y16, hy16, h⟩ := hq_bind h
      refine hq_inv rfl rfl (Nat.le_trans (by decide) hd) rfl rfl (hq_rcv rfl rfl) (f_X12_works_run (Nat.le_sub_of_add_le (Nat.le_trans (by decide) hd)) hy16) rfl ?_
      by_cases c17 : y16.1 = 0
      · rw [if_pos c17] at h
        refine hq_izF rfl (hq_c_ne_F c17) ?_
        refine hq_p 1 46 [some (.ref 174), some (.int a1), some (.int a2)] [.int (0 : Int32)] (fun n h => rfl) ?_
        have h := Option.some.inj h
        subst h
        exact ⟨1, rfl⟩
      · rw [if_neg c17] at h
        refine hq_izT rfl (hq_c_ne_T c17) ?_
        exact f_X12_goes_J96_run hd e12 h
    · rw [if_neg c6] at h
      refine hq_icT rfl (hq_c_ne_T c6) ?_
      refine hq_p 1 48 [some (.ref 174), some (.int a1), some (.int a2)] [.ref 174] (fun n h => rfl) ?_
      refine hq_gf (x := .ref 195) rfl rfl rfl rfl rfl ?_
      refine hq_p 1 52 [some (.ref 174), some (.int a1), some (.int a2)] [.ref 174, .ref 195] (fun n h => rfl) ?_
      refine hq_gf (x := .int (hq_gi s 174 36)) rfl rfl rfl rfl rfl ?_
      refine hq_p 1 56 [some (.ref 174), some (.int a1), some (.int a2)] [.ref 174, .int (hq_gi s 174 36), .ref 195] (fun n h => rfl) ?_
      refine hq_gf (x := .ref 192) rfl rfl rfl rfl rfl ?_
      refine hq_p 1 60 [some (.ref 174), some (.int a1), some (.int a2)] [.int a2, .ref 192, .int (hq_gi s 174 36), .ref 195] (fun n h => rfl) ?_
      obtain ⟨x7, hx7, h⟩ := hq_bind h
      refine hq_iaload rfl rfl List.length_replicate hx7 ?_
      obtain ⟨z8, hz8, h⟩ := hq_bind h
      suffices hT : hq_R (mm_O xs) d mc_X12_goes 85 [some (.ref 174), some (.int a1), some (.int a2)] [.long z8, .int (hq_gi s 174 36), .ref 195] s g (some (.int y.1)) y.2 from by
        clear h
        have h := hz8
        by_cases c9 : x7 = 0
        · rw [if_pos c9] at h
          refine hq_izF rfl (hq_c_ne_F c9) ?_
          refine hq_p 1 65 [some (.ref 174), some (.int a1), some (.int a2)] [.ref 174, .int (hq_gi s 174 36), .ref 195] (fun n h => rfl) ?_
          refine hq_gf (x := .ref 193) rfl rfl rfl rfl rfl ?_
          refine hq_p 1 69 [some (.ref 174), some (.int a1), some (.int a2)] [.int a2, .ref 193, .int (hq_gi s 174 36), .ref 195] (fun n h => rfl) ?_
          obtain ⟨x12, hx12, h⟩ := hq_bind h
          refine hq_iaload rfl rfl List.length_replicate hx12 ?_
          refine hq_p 2 85 [some (.ref 174), some (.int a1), some (.int a2)] [.long x12.toInt64, .int (hq_gi s 174 36), .ref 195] (fun n h => rfl) ?_
          cases h
          exact hT
        · rw [if_neg c9] at h
          refine hq_izT rfl (hq_c_ne_T c9) ?_
          refine hq_p 1 75 [some (.ref 174), some (.int a1), some (.int a2)] [.ref 174, .int (hq_gi s 174 36), .ref 195] (fun n h => rfl) ?_
          refine hq_gf (x := .ref 194) rfl rfl rfl rfl rfl ?_
          refine hq_p 1 79 [some (.ref 174), some (.int a1), some (.int a2)] [.ref 174, .ref 194, .int (hq_gi s 174 36), .ref 195] (fun n h => rfl) ?_
          refine hq_gf (x := .ref 193) rfl rfl rfl rfl rfl ?_
          refine hq_p 1 83 [some (.ref 174), some (.int a1), some (.int a2)] [.int a2, .ref 193, .ref 194, .int (hq_gi s 174 36), .ref 195] (fun n h => rfl) ?_
          obtain ⟨x10, hx10, h⟩ := hq_bind h
          refine hq_iaload rfl rfl List.length_replicate hx10 ?_
          obtain ⟨x11, hx11, h⟩ := hq_bind h
          refine hq_laload rfl rfl List.length_replicate hx11 ?_
          cases h
          exact hT
      obtain ⟨s13, hs13, h⟩ := hq_bind h
      refine hq_lastore rfl rfl List.length_replicate hs13 ?_
      refine hq_p 2 88 [some (.ref 174), some (.int a1), some (.int a2)] [.ref 174, .ref 174] (fun n h => rfl) ?_
      refine hq_gf (x := .int (hq_gi s13 174 36)) rfl rfl rfl rfl rfl ?_
      refine hq_p 2 93 [some (.ref 174), some (.int a1), some (.int a2)] [.int ((hq_gi s13 174 36) + (1 : Int32)), .ref 174] (fun n h => rfl) ?_
      obtain ⟨s14, hs14, h⟩ := hq_bind h
      refine hq_pfi rfl rfl rfl rfl rfl hs14 ?_
      exact f_X12_goes_J96_run hd e12 h
  · rw [if_neg c4] at h
    refine hq_icT rfl (hq_c_ge_T c4) ?_
    refine hq_p 1 103 [some (.ref 174), some (.int a1), some (.int a2)] [.int (1 : Int32)] (fun n h => rfl) ?_
    have h := Option.some.inj h
    subst h
    exact ⟨1, rfl⟩
theorem f_X12_goes_L12_run {xs : List Int32} {n m d g : Nat} {a1 : Int32} {a2 : Int32} {s : hq_S} {y : (Int32 × hq_S)} (hd : 2 ≤ d) (h : f_X12_goes_L12 n m a1 a2 s = some y) : hq_R (mm_O xs) d mc_X12_goes 12 [some (.ref 174), some (.int a1), some (.int a2)] [] s g (some (.int y.1)) y.2 := by
  induction m generalizing a1 a2 s with
  | zero => cases h
  | succ m ih => exact f_X12_goes_L12_Brun (n := n) hd (fun a1 a2 s h => ih h) h
def f_X12_goes (n : Nat) (a1 : Int32) (s : hq_S) : Option (Int32 × hq_S) := (hq_pi s 174 36 0 (0 : Int32)).bind fun s1 => (hq_ld s1 190 6 a1).bind fun x2 => f_X12_goes_L12 n n a1 x2 s1
theorem f_X12_goes_run {xs : List Int32} {n d g : Nat} {a1 : Int32} {s : hq_S} {y : (Int32 × hq_S)} (hd : 2 ≤ d) (h : f_X12_goes n a1 s = some y) : hq_R (mm_O xs) d mc_X12_goes 0 [some (.ref 174), some (.int a1), none] [] s g (some (.int y.1)) y.2 := by
  unfold f_X12_goes at h
  refine hq_p 2 2 [some (.ref 174), some (.int a1), none] [.int (0 : Int32), .ref 174] (fun n h => rfl) ?_
  obtain ⟨s1, hs1, h⟩ := hq_bind h
  refine hq_pfi rfl rfl rfl rfl rfl hs1 ?_
  refine hq_p 1 6 [some (.ref 174), some (.int a1), none] [.ref 174] (fun n h => rfl) ?_
  refine hq_gf (x := .ref 190) rfl rfl rfl rfl rfl ?_
  refine hq_p 1 10 [some (.ref 174), some (.int a1), none] [.int a1, .ref 190] (fun n h => rfl) ?_
  obtain ⟨x2, hx2, h⟩ := hq_bind h
  refine hq_iaload rfl rfl List.length_replicate hx2 ?_
  refine hq_p 1 12 [some (.ref 174), some (.int a1), some (.int x2)] [] (fun n h => rfl) ?_
  exact f_X12_goes_L12_run hd h
def f_X12_hasLaw (n : Nat) (a1 : Int32) (s : hq_S) : Option (Int32 × hq_S) := (hq_ld s 191 6 a1).bind fun x1 => (hq_ld s 190 6 a1).bind fun x2 => if x2 < x1 then some ((1 : Int32), s) else some ((0 : Int32), s)
theorem f_X12_hasLaw_run {xs : List Int32} {n d g : Nat} {a1 : Int32} {s : hq_S} {y : (Int32 × hq_S)} (hd : 0 ≤ d) (h : f_X12_hasLaw n a1 s = some y) : hq_R (mm_O xs) d mc_X12_hasLaw 0 [some (.ref 174), some (.int a1)] [] s g (some (.int y.1)) y.2 := by
  unfold f_X12_hasLaw at h
  refine hq_p 1 1 [some (.ref 174), some (.int a1)] [.ref 174] (fun n h => rfl) ?_
  refine hq_gf (x := .ref 191) rfl rfl rfl rfl rfl ?_
  refine hq_p 1 5 [some (.ref 174), some (.int a1)] [.int a1, .ref 191] (fun n h => rfl) ?_
  obtain ⟨x1, hx1, h⟩ := hq_bind h
  refine hq_iaload rfl rfl List.length_replicate hx1 ?_
  refine hq_p 1 7 [some (.ref 174), some (.int a1)] [.ref 174, .int x1] (fun n h => rfl) ?_
  refine hq_gf (x := .ref 190) rfl rfl rfl rfl rfl ?_
  refine hq_p 1 11 [some (.ref 174), some (.int a1)] [.int a1, .ref 190, .int x1] (fun n h => rfl) ?_
  obtain ⟨x2, hx2, h⟩ := hq_bind h
  refine hq_iaload rfl rfl List.length_replicate hx2 ?_
  by_cases c3 : x2 < x1
  · rw [if_pos c3] at h
    refine hq_icF rfl (hq_c_le_F c3) ?_
    refine hq_p 2 20 [some (.ref 174), some (.int a1)] [.int (1 : Int32)] (fun n h => rfl) ?_
    have h := Option.some.inj h
    subst h
    exact ⟨1, rfl⟩
  · rw [if_neg c3] at h
    refine hq_icT rfl (hq_c_le_T c3) ?_
    refine hq_p 1 20 [some (.ref 174), some (.int a1)] [.int (0 : Int32)] (fun n h => rfl) ?_
    have h := Option.some.inj h
    subst h
    exact ⟨1, rfl⟩
def f_X12_copies_L147_B (n : Nat) (q147 : Int32 → Int32 → Int32 → hq_S → Option hq_S) (a1 : Int32) (a2 : Int32) (a3 : Int32) (s : hq_S) : Option hq_S := if a3 < (4 : Int32) then (hq_ld s 203 92 (((4 : Int32) * a2) + a3)).bind fun x10 => (hq_st s 203 92 (((4 : Int32) * a1) + a3) x10).bind fun s11 => (hq_ld s11 204 92 (((4 : Int32) * a2) + a3)).bind fun x12 => (hq_st s11 204 92 (((4 : Int32) * a1) + a3) x12).bind fun s13 => (hq_ld s13 205 92 (((4 : Int32) * a2) + a3)).bind fun x14 => (hq_st s13 205 92 (((4 : Int32) * a1) + a3) x14).bind fun s15 => q147 a1 a2 (a3 + (1 : Int32)) s15 else some s
def f_X12_copies_L147 (n : Nat) (m : Nat) : Int32 → Int32 → Int32 → hq_S → Option hq_S := Nat.rec (fun _ _ _ _ => none) (fun _ q => f_X12_copies_L147_B n q) m
theorem f_X12_copies_L147_Brun {xs : List Int32} {n d g : Nat} {a1 : Int32} {a2 : Int32} {a3 : Int32} {q147 : Int32 → Int32 → Int32 → hq_S → Option hq_S} {s : hq_S} {y : hq_S} (hd : 0 ≤ d) (e147 : ∀ (a1 : Int32) (a2 : Int32) (a3 : Int32) (s : hq_S), q147 a1 a2 a3 s = some y → hq_R (mm_O xs) d mc_X12_copies 147 [some (.ref 174), some (.int a1), some (.int a2), some (.int a3)] [] s g none y) (h : f_X12_copies_L147_B n q147 a1 a2 a3 s = some y) : hq_R (mm_O xs) d mc_X12_copies 147 [some (.ref 174), some (.int a1), some (.int a2), some (.int a3)] [] s g none y := by
  unfold f_X12_copies_L147_B at h
  refine hq_p 2 149 [some (.ref 174), some (.int a1), some (.int a2), some (.int a3)] [.int (4 : Int32), .int a3] (fun n h => rfl) ?_
  by_cases c9 : a3 < (4 : Int32)
  · rw [if_pos c9] at h
    refine hq_icF rfl (hq_c_ge_F c9) ?_
    refine hq_p 1 153 [some (.ref 174), some (.int a1), some (.int a2), some (.int a3)] [.ref 174] (fun n h => rfl) ?_
    refine hq_gf (x := .ref 203) rfl rfl rfl rfl rfl ?_
    refine hq_p 6 162 [some (.ref 174), some (.int a1), some (.int a2), some (.int a3)] [.ref 174, .int (((4 : Int32) * a1) + a3), .ref 203] (fun n h => rfl) ?_
    refine hq_gf (x := .ref 203) rfl rfl rfl rfl rfl ?_
    refine hq_p 5 170 [some (.ref 174), some (.int a1), some (.int a2), some (.int a3)] [.int (((4 : Int32) * a2) + a3), .ref 203, .int (((4 : Int32) * a1) + a3), .ref 203] (fun n h => rfl) ?_
    obtain ⟨x10, hx10, h⟩ := hq_bind h
    refine hq_iaload rfl rfl List.length_replicate hx10 ?_
    obtain ⟨s11, hs11, h⟩ := hq_bind h
    refine hq_iastore rfl rfl List.length_replicate hs11 ?_
    refine hq_p 1 173 [some (.ref 174), some (.int a1), some (.int a2), some (.int a3)] [.ref 174] (fun n h => rfl) ?_
    refine hq_gf (x := .ref 204) rfl rfl rfl rfl rfl ?_
    refine hq_p 6 182 [some (.ref 174), some (.int a1), some (.int a2), some (.int a3)] [.ref 174, .int (((4 : Int32) * a1) + a3), .ref 204] (fun n h => rfl) ?_
    refine hq_gf (x := .ref 204) rfl rfl rfl rfl rfl ?_
    refine hq_p 5 190 [some (.ref 174), some (.int a1), some (.int a2), some (.int a3)] [.int (((4 : Int32) * a2) + a3), .ref 204, .int (((4 : Int32) * a1) + a3), .ref 204] (fun n h => rfl) ?_
    obtain ⟨x12, hx12, h⟩ := hq_bind h
    refine hq_iaload rfl rfl List.length_replicate hx12 ?_
    obtain ⟨s13, hs13, h⟩ := hq_bind h
    refine hq_iastore rfl rfl List.length_replicate hs13 ?_
    refine hq_p 1 193 [some (.ref 174), some (.int a1), some (.int a2), some (.int a3)] [.ref 174] (fun n h => rfl) ?_
    refine hq_gf (x := .ref 205) rfl rfl rfl rfl rfl ?_
    refine hq_p 6 202 [some (.ref 174), some (.int a1), some (.int a2), some (.int a3)] [.ref 174, .int (((4 : Int32) * a1) + a3), .ref 205] (fun n h => rfl) ?_
    refine hq_gf (x := .ref 205) rfl rfl rfl rfl rfl ?_
    refine hq_p 5 210 [some (.ref 174), some (.int a1), some (.int a2), some (.int a3)] [.int (((4 : Int32) * a2) + a3), .ref 205, .int (((4 : Int32) * a1) + a3), .ref 205] (fun n h => rfl) ?_
    obtain ⟨x14, hx14, h⟩ := hq_bind h
    refine hq_iaload rfl rfl rfl hx14 ?_
    obtain ⟨s15, hs15, h⟩ := hq_bind h
    refine hq_iastore rfl rfl rfl hs15 ?_
    refine hq_p 2 147 [some (.ref 174), some (.int a1), some (.int a2), some (.int (a3 + (1 : Int32)))] [] (fun n h => rfl) ?_
    exact e147 a1 a2 (a3 + (1 : Int32)) s15 h
  · rw [if_neg c9] at h
    refine hq_icT rfl (hq_c_ge_T c9) ?_
    have h := Option.some.inj h
    subst h
    exact ⟨1, rfl⟩
theorem f_X12_copies_L147_run {xs : List Int32} {n m d g : Nat} {a1 : Int32} {a2 : Int32} {a3 : Int32} {s : hq_S} {y : hq_S} (hd : 0 ≤ d) (h : f_X12_copies_L147 n m a1 a2 a3 s = some y) : hq_R (mm_O xs) d mc_X12_copies 147 [some (.ref 174), some (.int a1), some (.int a2), some (.int a3)] [] s g none y := by
  induction m generalizing a1 a2 a3 s with
  | zero => cases h
  | succ m ih => exact f_X12_copies_L147_Brun (n := n) hd (fun a1 a2 a3 s h => ih h) h
def f_X12_copies_L74_B (n : Nat) (q74 : Int32 → Int32 → Int32 → hq_S → Option hq_S) (a1 : Int32) (a2 : Int32) (a3 : Int32) (s : hq_S) : Option hq_S := if a3 < (3 : Int32) then (hq_ld s 200 69 (((3 : Int32) * a2) + a3)).bind fun x16 => (hq_st s 200 69 (((3 : Int32) * a1) + a3) x16).bind fun s17 => (hq_ld s17 201 69 (((3 : Int32) * a2) + a3)).bind fun x18 => (hq_st s17 201 69 (((3 : Int32) * a1) + a3) x18).bind fun s19 => (hq_ld s19 202 69 (((3 : Int32) * a2) + a3)).bind fun x20 => (hq_st s19 202 69 (((3 : Int32) * a1) + a3) x20).bind fun s21 => q74 a1 a2 (a3 + (1 : Int32)) s21 else f_X12_copies_L147 n n a1 a2 (0 : Int32) s
def f_X12_copies_L74 (n : Nat) (m : Nat) : Int32 → Int32 → Int32 → hq_S → Option hq_S := Nat.rec (fun _ _ _ _ => none) (fun _ q => f_X12_copies_L74_B n q) m
theorem f_X12_copies_L74_Brun {xs : List Int32} {n d g : Nat} {a1 : Int32} {a2 : Int32} {a3 : Int32} {q74 : Int32 → Int32 → Int32 → hq_S → Option hq_S} {s : hq_S} {y : hq_S} (hd : 0 ≤ d) (e74 : ∀ (a1 : Int32) (a2 : Int32) (a3 : Int32) (s : hq_S), q74 a1 a2 a3 s = some y → hq_R (mm_O xs) d mc_X12_copies 74 [some (.ref 174), some (.int a1), some (.int a2), some (.int a3)] [] s g none y) (h : f_X12_copies_L74_B n q74 a1 a2 a3 s = some y) : hq_R (mm_O xs) d mc_X12_copies 74 [some (.ref 174), some (.int a1), some (.int a2), some (.int a3)] [] s g none y := by
  unfold f_X12_copies_L74_B at h
  refine hq_p 2 76 [some (.ref 174), some (.int a1), some (.int a2), some (.int a3)] [.int (3 : Int32), .int a3] (fun n h => rfl) ?_
  by_cases c8 : a3 < (3 : Int32)
  · rw [if_pos c8] at h
    refine hq_icF rfl (hq_c_ge_F c8) ?_
    refine hq_p 1 80 [some (.ref 174), some (.int a1), some (.int a2), some (.int a3)] [.ref 174] (fun n h => rfl) ?_
    refine hq_gf (x := .ref 200) rfl rfl rfl rfl rfl ?_
    refine hq_p 6 89 [some (.ref 174), some (.int a1), some (.int a2), some (.int a3)] [.ref 174, .int (((3 : Int32) * a1) + a3), .ref 200] (fun n h => rfl) ?_
    refine hq_gf (x := .ref 200) rfl rfl rfl rfl rfl ?_
    refine hq_p 5 97 [some (.ref 174), some (.int a1), some (.int a2), some (.int a3)] [.int (((3 : Int32) * a2) + a3), .ref 200, .int (((3 : Int32) * a1) + a3), .ref 200] (fun n h => rfl) ?_
    obtain ⟨x16, hx16, h⟩ := hq_bind h
    refine hq_iaload rfl rfl List.length_replicate hx16 ?_
    obtain ⟨s17, hs17, h⟩ := hq_bind h
    refine hq_iastore rfl rfl List.length_replicate hs17 ?_
    refine hq_p 1 100 [some (.ref 174), some (.int a1), some (.int a2), some (.int a3)] [.ref 174] (fun n h => rfl) ?_
    refine hq_gf (x := .ref 201) rfl rfl rfl rfl rfl ?_
    refine hq_p 6 109 [some (.ref 174), some (.int a1), some (.int a2), some (.int a3)] [.ref 174, .int (((3 : Int32) * a1) + a3), .ref 201] (fun n h => rfl) ?_
    refine hq_gf (x := .ref 201) rfl rfl rfl rfl rfl ?_
    refine hq_p 5 117 [some (.ref 174), some (.int a1), some (.int a2), some (.int a3)] [.int (((3 : Int32) * a2) + a3), .ref 201, .int (((3 : Int32) * a1) + a3), .ref 201] (fun n h => rfl) ?_
    obtain ⟨x18, hx18, h⟩ := hq_bind h
    refine hq_iaload rfl rfl List.length_replicate hx18 ?_
    obtain ⟨s19, hs19, h⟩ := hq_bind h
    refine hq_iastore rfl rfl List.length_replicate hs19 ?_
    refine hq_p 1 120 [some (.ref 174), some (.int a1), some (.int a2), some (.int a3)] [.ref 174] (fun n h => rfl) ?_
    refine hq_gf (x := .ref 202) rfl rfl rfl rfl rfl ?_
    refine hq_p 6 129 [some (.ref 174), some (.int a1), some (.int a2), some (.int a3)] [.ref 174, .int (((3 : Int32) * a1) + a3), .ref 202] (fun n h => rfl) ?_
    refine hq_gf (x := .ref 202) rfl rfl rfl rfl rfl ?_
    refine hq_p 5 137 [some (.ref 174), some (.int a1), some (.int a2), some (.int a3)] [.int (((3 : Int32) * a2) + a3), .ref 202, .int (((3 : Int32) * a1) + a3), .ref 202] (fun n h => rfl) ?_
    obtain ⟨x20, hx20, h⟩ := hq_bind h
    refine hq_iaload rfl rfl List.length_replicate hx20 ?_
    obtain ⟨s21, hs21, h⟩ := hq_bind h
    refine hq_iastore rfl rfl List.length_replicate hs21 ?_
    refine hq_p 2 74 [some (.ref 174), some (.int a1), some (.int a2), some (.int (a3 + (1 : Int32)))] [] (fun n h => rfl) ?_
    exact e74 a1 a2 (a3 + (1 : Int32)) s21 h
  · rw [if_neg c8] at h
    refine hq_icT rfl (hq_c_ge_T c8) ?_
    refine hq_p 2 147 [some (.ref 174), some (.int a1), some (.int a2), some (.int (0 : Int32))] [] (fun n h => rfl) ?_
    exact f_X12_copies_L147_run hd h
theorem f_X12_copies_L74_run {xs : List Int32} {n m d g : Nat} {a1 : Int32} {a2 : Int32} {a3 : Int32} {s : hq_S} {y : hq_S} (hd : 0 ≤ d) (h : f_X12_copies_L74 n m a1 a2 a3 s = some y) : hq_R (mm_O xs) d mc_X12_copies 74 [some (.ref 174), some (.int a1), some (.int a2), some (.int a3)] [] s g none y := by
  induction m generalizing a1 a2 a3 s with
  | zero => cases h
  | succ m ih => exact f_X12_copies_L74_Brun (n := n) hd (fun a1 a2 a3 s h => ih h) h
def f_X12_copies_L38_B (n : Nat) (q38 : Int32 → Int32 → Int32 → hq_S → Option hq_S) (a1 : Int32) (a2 : Int32) (a3 : Int32) (s : hq_S) : Option hq_S := if a3 < (10 : Int32) then (hq_ld s 199 230 (((10 : Int32) * a2) + a3)).bind fun x22 => (hq_st s 199 230 (((10 : Int32) * a1) + a3) x22).bind fun s23 => q38 a1 a2 (a3 + (1 : Int32)) s23 else f_X12_copies_L74 n n a1 a2 (0 : Int32) s
def f_X12_copies_L38 (n : Nat) (m : Nat) : Int32 → Int32 → Int32 → hq_S → Option hq_S := Nat.rec (fun _ _ _ _ => none) (fun _ q => f_X12_copies_L38_B n q) m
theorem f_X12_copies_L38_Brun {xs : List Int32} {n d g : Nat} {a1 : Int32} {a2 : Int32} {a3 : Int32} {q38 : Int32 → Int32 → Int32 → hq_S → Option hq_S} {s : hq_S} {y : hq_S} (hd : 0 ≤ d) (e38 : ∀ (a1 : Int32) (a2 : Int32) (a3 : Int32) (s : hq_S), q38 a1 a2 a3 s = some y → hq_R (mm_O xs) d mc_X12_copies 38 [some (.ref 174), some (.int a1), some (.int a2), some (.int a3)] [] s g none y) (h : f_X12_copies_L38_B n q38 a1 a2 a3 s = some y) : hq_R (mm_O xs) d mc_X12_copies 38 [some (.ref 174), some (.int a1), some (.int a2), some (.int a3)] [] s g none y := by
  unfold f_X12_copies_L38_B at h
  refine hq_p 2 41 [some (.ref 174), some (.int a1), some (.int a2), some (.int a3)] [.int (10 : Int32), .int a3] (fun n h => rfl) ?_
  by_cases c7 : a3 < (10 : Int32)
  · rw [if_pos c7] at h
    refine hq_icF rfl (hq_c_ge_F c7) ?_
    refine hq_p 1 45 [some (.ref 174), some (.int a1), some (.int a2), some (.int a3)] [.ref 174] (fun n h => rfl) ?_
    refine hq_gf (x := .ref 199) rfl rfl rfl rfl rfl ?_
    refine hq_p 6 55 [some (.ref 174), some (.int a1), some (.int a2), some (.int a3)] [.ref 174, .int (((10 : Int32) * a1) + a3), .ref 199] (fun n h => rfl) ?_
    refine hq_gf (x := .ref 199) rfl rfl rfl rfl rfl ?_
    refine hq_p 5 64 [some (.ref 174), some (.int a1), some (.int a2), some (.int a3)] [.int (((10 : Int32) * a2) + a3), .ref 199, .int (((10 : Int32) * a1) + a3), .ref 199] (fun n h => rfl) ?_
    obtain ⟨x22, hx22, h⟩ := hq_bind h
    refine hq_iaload rfl rfl List.length_replicate hx22 ?_
    obtain ⟨s23, hs23, h⟩ := hq_bind h
    refine hq_iastore rfl rfl List.length_replicate hs23 ?_
    refine hq_p 2 38 [some (.ref 174), some (.int a1), some (.int a2), some (.int (a3 + (1 : Int32)))] [] (fun n h => rfl) ?_
    exact e38 a1 a2 (a3 + (1 : Int32)) s23 h
  · rw [if_neg c7] at h
    refine hq_icT rfl (hq_c_ge_T c7) ?_
    refine hq_p 2 74 [some (.ref 174), some (.int a1), some (.int a2), some (.int (0 : Int32))] [] (fun n h => rfl) ?_
    exact f_X12_copies_L74_run hd h
theorem f_X12_copies_L38_run {xs : List Int32} {n m d g : Nat} {a1 : Int32} {a2 : Int32} {a3 : Int32} {s : hq_S} {y : hq_S} (hd : 0 ≤ d) (h : f_X12_copies_L38 n m a1 a2 a3 s = some y) : hq_R (mm_O xs) d mc_X12_copies 38 [some (.ref 174), some (.int a1), some (.int a2), some (.int a3)] [] s g none y := by
  induction m generalizing a1 a2 a3 s with
  | zero => cases h
  | succ m ih => exact f_X12_copies_L38_Brun (n := n) hd (fun a1 a2 a3 s h => ih h) h
def f_X12_copies (n : Nat) (a1 : Int32) (a2 : Int32) (s : hq_S) : Option hq_S := (hq_ld s 196 23 a2).bind fun x1 => (hq_st s 196 23 a1 x1).bind fun s2 => (hq_ld s2 197 23 a2).bind fun x3 => (hq_st s2 197 23 a1 x3).bind fun s4 => (hq_ld s4 198 23 a2).bind fun x5 => (hq_st s4 198 23 a1 x5).bind fun s6 => f_X12_copies_L38 n n a1 a2 (0 : Int32) s6
theorem f_X12_copies_run {xs : List Int32} {n d g : Nat} {a1 : Int32} {a2 : Int32} {s : hq_S} {y : hq_S} (hd : 0 ≤ d) (h : f_X12_copies n a1 a2 s = some y) : hq_R (mm_O xs) d mc_X12_copies 0 [some (.ref 174), some (.int a1), some (.int a2), none] [] s g none y := by
  unfold f_X12_copies at h
  refine hq_p 1 1 [some (.ref 174), some (.int a1), some (.int a2), none] [.ref 174] (fun n h => rfl) ?_
  refine hq_gf (x := .ref 196) rfl rfl rfl rfl rfl ?_
  refine hq_p 2 6 [some (.ref 174), some (.int a1), some (.int a2), none] [.ref 174, .int a1, .ref 196] (fun n h => rfl) ?_
  refine hq_gf (x := .ref 196) rfl rfl rfl rfl rfl ?_
  refine hq_p 1 10 [some (.ref 174), some (.int a1), some (.int a2), none] [.int a2, .ref 196, .int a1, .ref 196] (fun n h => rfl) ?_
  obtain ⟨x1, hx1, h⟩ := hq_bind h
  refine hq_iaload rfl rfl List.length_replicate hx1 ?_
  obtain ⟨s2, hs2, h⟩ := hq_bind h
  refine hq_iastore rfl rfl List.length_replicate hs2 ?_
  refine hq_p 1 13 [some (.ref 174), some (.int a1), some (.int a2), none] [.ref 174] (fun n h => rfl) ?_
  refine hq_gf (x := .ref 197) rfl rfl rfl rfl rfl ?_
  refine hq_p 2 18 [some (.ref 174), some (.int a1), some (.int a2), none] [.ref 174, .int a1, .ref 197] (fun n h => rfl) ?_
  refine hq_gf (x := .ref 197) rfl rfl rfl rfl rfl ?_
  refine hq_p 1 22 [some (.ref 174), some (.int a1), some (.int a2), none] [.int a2, .ref 197, .int a1, .ref 197] (fun n h => rfl) ?_
  obtain ⟨x3, hx3, h⟩ := hq_bind h
  refine hq_iaload rfl rfl List.length_replicate hx3 ?_
  obtain ⟨s4, hs4, h⟩ := hq_bind h
  refine hq_iastore rfl rfl List.length_replicate hs4 ?_
  refine hq_p 1 25 [some (.ref 174), some (.int a1), some (.int a2), none] [.ref 174] (fun n h => rfl) ?_
  refine hq_gf (x := .ref 198) rfl rfl rfl rfl rfl ?_
  refine hq_p 2 30 [some (.ref 174), some (.int a1), some (.int a2), none] [.ref 174, .int a1, .ref 198] (fun n h => rfl) ?_
  refine hq_gf (x := .ref 198) rfl rfl rfl rfl rfl ?_
  refine hq_p 1 34 [some (.ref 174), some (.int a1), some (.int a2), none] [.int a2, .ref 198, .int a1, .ref 198] (fun n h => rfl) ?_
  obtain ⟨x5, hx5, h⟩ := hq_bind h
  refine hq_iaload rfl rfl List.length_replicate hx5 ?_
  obtain ⟨s6, hs6, h⟩ := hq_bind h
  refine hq_iastore rfl rfl List.length_replicate hs6 ?_
  refine hq_p 2 38 [some (.ref 174), some (.int a1), some (.int a2), some (.int (0 : Int32))] [] (fun n h => rfl) ?_
  exact f_X12_copies_L38_run hd h
def f_X12_isCorner (n : Nat) (a1 : Int32) (s : hq_S) : Option (Int32 × hq_S) := if a1 < 0 then some ((0 : Int32), s) else (hq_ld s 176 14 (0 : Int32)).bind fun x2 => if a1 < x2 then some ((1 : Int32), s) else some ((0 : Int32), s)
theorem f_X12_isCorner_run {xs : List Int32} {n d g : Nat} {a1 : Int32} {s : hq_S} {y : (Int32 × hq_S)} (hd : 0 ≤ d) (h : f_X12_isCorner n a1 s = some y) : hq_R (mm_O xs) d mc_X12_isCorner 0 [some (.ref 174), some (.int a1)] [] s g (some (.int y.1)) y.2 := by
  unfold f_X12_isCorner at h
  refine hq_p 1 1 [some (.ref 174), some (.int a1)] [.int a1] (fun n h => rfl) ?_
  by_cases c1 : a1 < 0
  · rw [if_pos c1] at h
    refine hq_izT rfl (hq_c_lt_T c1) ?_
    refine hq_p 1 19 [some (.ref 174), some (.int a1)] [.int (0 : Int32)] (fun n h => rfl) ?_
    have h := Option.some.inj h
    subst h
    exact ⟨1, rfl⟩
  · rw [if_neg c1] at h
    refine hq_izF rfl (hq_c_lt_F c1) ?_
    refine hq_p 2 6 [some (.ref 174), some (.int a1)] [.ref 174, .int a1] (fun n h => rfl) ?_
    refine hq_gf (x := .ref 176) rfl rfl rfl rfl rfl ?_
    refine hq_p 1 10 [some (.ref 174), some (.int a1)] [.int (0 : Int32), .ref 176, .int a1] (fun n h => rfl) ?_
    obtain ⟨x2, hx2, h⟩ := hq_bind h
    refine hq_iaload rfl rfl rfl hx2 ?_
    by_cases c3 : a1 < x2
    · rw [if_pos c3] at h
      refine hq_icF rfl (hq_c_ge_F c3) ?_
      refine hq_p 2 19 [some (.ref 174), some (.int a1)] [.int (1 : Int32)] (fun n h => rfl) ?_
      have h := Option.some.inj h
      subst h
      exact ⟨1, rfl⟩
    · rw [if_neg c3] at h
      refine hq_icT rfl (hq_c_ge_T c3) ?_
      refine hq_p 1 19 [some (.ref 174), some (.int a1)] [.int (0 : Int32)] (fun n h => rfl) ?_
      have h := Option.some.inj h
      subst h
      exact ⟨1, rfl⟩
def f_X12_isGuard (n : Nat) (a1 : Int32) (s : hq_S) : Option (Int32 × hq_S) := if a1 < 0 then some ((0 : Int32), s) else (hq_ld s 176 14 (2 : Int32)).bind fun x2 => if a1 < x2 then some ((1 : Int32), s) else some ((0 : Int32), s)
theorem f_X12_isGuard_run {xs : List Int32} {n d g : Nat} {a1 : Int32} {s : hq_S} {y : (Int32 × hq_S)} (hd : 0 ≤ d) (h : f_X12_isGuard n a1 s = some y) : hq_R (mm_O xs) d mc_X12_isGuard 0 [some (.ref 174), some (.int a1)] [] s g (some (.int y.1)) y.2 := by
  unfold f_X12_isGuard at h
  refine hq_p 1 1 [some (.ref 174), some (.int a1)] [.int a1] (fun n h => rfl) ?_
  by_cases c1 : a1 < 0
  · rw [if_pos c1] at h
    refine hq_izT rfl (hq_c_lt_T c1) ?_
    refine hq_p 1 19 [some (.ref 174), some (.int a1)] [.int (0 : Int32)] (fun n h => rfl) ?_
    have h := Option.some.inj h
    subst h
    exact ⟨1, rfl⟩
  · rw [if_neg c1] at h
    refine hq_izF rfl (hq_c_lt_F c1) ?_
    refine hq_p 2 6 [some (.ref 174), some (.int a1)] [.ref 174, .int a1] (fun n h => rfl) ?_
    refine hq_gf (x := .ref 176) rfl rfl rfl rfl rfl ?_
    refine hq_p 1 10 [some (.ref 174), some (.int a1)] [.int (2 : Int32), .ref 176, .int a1] (fun n h => rfl) ?_
    obtain ⟨x2, hx2, h⟩ := hq_bind h
    refine hq_iaload rfl rfl rfl hx2 ?_
    by_cases c3 : a1 < x2
    · rw [if_pos c3] at h
      refine hq_icF rfl (hq_c_ge_F c3) ?_
      refine hq_p 2 19 [some (.ref 174), some (.int a1)] [.int (1 : Int32)] (fun n h => rfl) ?_
      have h := Option.some.inj h
      subst h
      exact ⟨1, rfl⟩
    · rw [if_neg c3] at h
      refine hq_icT rfl (hq_c_ge_T c3) ?_
      refine hq_p 1 19 [some (.ref 174), some (.int a1)] [.int (0 : Int32)] (fun n h => rfl) ?_
      have h := Option.some.inj h
      subst h
      exact ⟨1, rfl⟩
def f_X12_isThief (n : Nat) (a1 : Int32) (s : hq_S) : Option (Int32 × hq_S) := if a1 < 0 then some ((0 : Int32), s) else (hq_ld s 176 14 (3 : Int32)).bind fun x2 => if a1 < x2 then some ((1 : Int32), s) else some ((0 : Int32), s)
theorem f_X12_isThief_run {xs : List Int32} {n d g : Nat} {a1 : Int32} {s : hq_S} {y : (Int32 × hq_S)} (hd : 0 ≤ d) (h : f_X12_isThief n a1 s = some y) : hq_R (mm_O xs) d mc_X12_isThief 0 [some (.ref 174), some (.int a1)] [] s g (some (.int y.1)) y.2 := by
  unfold f_X12_isThief at h
  refine hq_p 1 1 [some (.ref 174), some (.int a1)] [.int a1] (fun n h => rfl) ?_
  by_cases c1 : a1 < 0
  · rw [if_pos c1] at h
    refine hq_izT rfl (hq_c_lt_T c1) ?_
    refine hq_p 1 19 [some (.ref 174), some (.int a1)] [.int (0 : Int32)] (fun n h => rfl) ?_
    have h := Option.some.inj h
    subst h
    exact ⟨1, rfl⟩
  · rw [if_neg c1] at h
    refine hq_izF rfl (hq_c_lt_F c1) ?_
    refine hq_p 2 6 [some (.ref 174), some (.int a1)] [.ref 174, .int a1] (fun n h => rfl) ?_
    refine hq_gf (x := .ref 176) rfl rfl rfl rfl rfl ?_
    refine hq_p 1 10 [some (.ref 174), some (.int a1)] [.int (3 : Int32), .ref 176, .int a1] (fun n h => rfl) ?_
    obtain ⟨x2, hx2, h⟩ := hq_bind h
    refine hq_iaload rfl rfl rfl hx2 ?_
    by_cases c3 : a1 < x2
    · rw [if_pos c3] at h
      refine hq_icF rfl (hq_c_ge_F c3) ?_
      refine hq_p 2 19 [some (.ref 174), some (.int a1)] [.int (1 : Int32)] (fun n h => rfl) ?_
      have h := Option.some.inj h
      subst h
      exact ⟨1, rfl⟩
    · rw [if_neg c3] at h
      refine hq_icT rfl (hq_c_ge_T c3) ?_
      refine hq_p 1 19 [some (.ref 174), some (.int a1)] [.int (0 : Int32)] (fun n h => rfl) ?_
      have h := Option.some.inj h
      subst h
      exact ⟨1, rfl⟩
def f_X12_bitsOf_L4_B (n : Nat) (q4 : Int32 → Int32 → Int32 → hq_S → Option (Int32 × hq_S)) (a0 : Int32) (a1 : Int32) (a2 : Int32) (s : hq_S) : Option (Int32 × hq_S) := if a2 < (20 : Int32) then q4 a0 (a1 + ((a0 >>> (a2 &&& 31)) &&& (1 : Int32))) (a2 + (1 : Int32)) s else some (a1, s)
def f_X12_bitsOf_L4 (n : Nat) (m : Nat) : Int32 → Int32 → Int32 → hq_S → Option (Int32 × hq_S) := Nat.rec (fun _ _ _ _ => none) (fun _ q => f_X12_bitsOf_L4_B n q) m
theorem f_X12_bitsOf_L4_Brun {xs : List Int32} {n d g : Nat} {a0 : Int32} {a1 : Int32} {a2 : Int32} {q4 : Int32 → Int32 → Int32 → hq_S → Option (Int32 × hq_S)} {s : hq_S} {y : (Int32 × hq_S)} (hd : 0 ≤ d) (e4 : ∀ (a0 : Int32) (a1 : Int32) (a2 : Int32) (s : hq_S), q4 a0 a1 a2 s = some y → hq_R (mm_O xs) d mc_X12_bitsOf 4 [some (.int a0), some (.int a1), some (.int a2)] [] s g (some (.int y.1)) y.2) (h : f_X12_bitsOf_L4_B n q4 a0 a1 a2 s = some y) : hq_R (mm_O xs) d mc_X12_bitsOf 4 [some (.int a0), some (.int a1), some (.int a2)] [] s g (some (.int y.1)) y.2 := by
  unfold f_X12_bitsOf_L4_B at h
  refine hq_p 1 5 [some (.int a0), some (.int a1), some (.int a2)] [.int a2] (fun n h => rfl) ?_
  refine hq_bip (20 : Int32) rfl (by decide) ?_
  by_cases c1 : a2 < (20 : Int32)
  · rw [if_pos c1] at h
    refine hq_icF rfl (hq_c_ge_F c1) ?_
    refine hq_p 10 4 [some (.int a0), some (.int (a1 + ((a0 >>> (a2 &&& 31)) &&& (1 : Int32)))), some (.int (a2 + (1 : Int32)))] [] (fun n h => rfl) ?_
    exact e4 a0 (a1 + ((a0 >>> (a2 &&& 31)) &&& (1 : Int32))) (a2 + (1 : Int32)) s h
  · rw [if_neg c1] at h
    refine hq_icT rfl (hq_c_ge_T c1) ?_
    refine hq_p 1 25 [some (.int a0), some (.int a1), some (.int a2)] [.int a1] (fun n h => rfl) ?_
    have h := Option.some.inj h
    subst h
    exact ⟨1, rfl⟩
theorem f_X12_bitsOf_L4_run {xs : List Int32} {n m d g : Nat} {a0 : Int32} {a1 : Int32} {a2 : Int32} {s : hq_S} {y : (Int32 × hq_S)} (hd : 0 ≤ d) (h : f_X12_bitsOf_L4 n m a0 a1 a2 s = some y) : hq_R (mm_O xs) d mc_X12_bitsOf 4 [some (.int a0), some (.int a1), some (.int a2)] [] s g (some (.int y.1)) y.2 := by
  induction m generalizing a0 a1 a2 s with
  | zero => cases h
  | succ m ih => exact f_X12_bitsOf_L4_Brun (n := n) hd (fun a0 a1 a2 s h => ih h) h
def f_X12_bitsOf (n : Nat) (a0 : Int32) (s : hq_S) : Option (Int32 × hq_S) := f_X12_bitsOf_L4 n n a0 (0 : Int32) (0 : Int32) s
theorem f_X12_bitsOf_run {xs : List Int32} {n d g : Nat} {a0 : Int32} {s : hq_S} {y : (Int32 × hq_S)} (hd : 0 ≤ d) (h : f_X12_bitsOf n a0 s = some y) : hq_R (mm_O xs) d mc_X12_bitsOf 0 [some (.int a0), none, none] [] s g (some (.int y.1)) y.2 := by
  unfold f_X12_bitsOf at h
  refine hq_p 4 4 [some (.int a0), some (.int (0 : Int32)), some (.int (0 : Int32))] [] (fun n h => rfl) ?_
  exact f_X12_bitsOf_L4_run hd h
def f_X12_laysFrom_L53_B (n : Nat) (q39 : Int32 → Int32 → Int32 → Int32 → hq_S → Option hq_S) (q53 : Int32 → Int32 → Int32 → Int32 → Int32 → Int32 → hq_S → Option hq_S) (a1 : Int32) (a2 : Int32) (a3 : Int32) (a4 : Int32) (a5 : Int32) (a6 : Int32) (s : hq_S) : Option hq_S := (hq_ld s 176 14 (0 : Int32)).bind fun x3 => if a6 < x3 then (if ((a3 >>> (a6 &&& 31)) &&& (1 : Int32)) = 0 then some (a5, s) else (hq_st s 207 100 (((10 : Int32) * a1) + a6) a4).bind fun s7 => (hq_ld s7 206 10 a6).bind fun x8 => some ((a5 ||| x8), s7)).bind fun z5 => q53 a1 a2 a3 a4 z5.1 (a6 + (1 : Int32)) z5.2 else q39 a1 a2 (a5 &&& (a2 ^^^ (-1 : Int32))) (a4 + (1 : Int32)) s
def f_X12_laysFrom_L53 (n : Nat) (q39 : Int32 → Int32 → Int32 → Int32 → hq_S → Option hq_S) (m : Nat) : Int32 → Int32 → Int32 → Int32 → Int32 → Int32 → hq_S → Option hq_S := Nat.rec (fun _ _ _ _ _ _ _ => none) (fun _ q => f_X12_laysFrom_L53_B n q39 q) m
theorem f_X12_laysFrom_L53_Brun {xs : List Int32} {n d g : Nat} {a1 : Int32} {a2 : Int32} {a3 : Int32} {a4 : Int32} {a5 : Int32} {a6 : Int32} {q39 : Int32 → Int32 → Int32 → Int32 → hq_S → Option hq_S} {q53 : Int32 → Int32 → Int32 → Int32 → Int32 → Int32 → hq_S → Option hq_S} {s : hq_S} {y : hq_S} (hd : 0 ≤ d) (e39 : ∀ (a1 : Int32) (a2 : Int32) (a3 : Int32) (a4 : Int32) (o5 : Option Value) (o6 : Option Value) (s : hq_S), q39 a1 a2 a3 a4 s = some y → hq_R (mm_O xs) d mc_X12_laysFrom 39 [some (.ref 174), some (.int a1), some (.int a2), some (.int a3), some (.int a4), o5, o6] [] s g none y) (e53 : ∀ (a1 : Int32) (a2 : Int32) (a3 : Int32) (a4 : Int32) (a5 : Int32) (a6 : Int32) (s : hq_S), q53 a1 a2 a3 a4 a5 a6 s = some y → hq_R (mm_O xs) d mc_X12_laysFrom 53 [some (.ref 174), some (.int a1), some (.int a2), some (.int a3), some (.int a4), some (.int a5), some (.int a6)] [] s g none y) (h : f_X12_laysFrom_L53_B n q39 q53 a1 a2 a3 a4 a5 a6 s = some y) : hq_R (mm_O xs) d mc_X12_laysFrom 53 [some (.ref 174), some (.int a1), some (.int a2), some (.int a3), some (.int a4), some (.int a5), some (.int a6)] [] s g none y := by
  unfold f_X12_laysFrom_L53_B at h
  refine hq_p 2 56 [some (.ref 174), some (.int a1), some (.int a2), some (.int a3), some (.int a4), some (.int a5), some (.int a6)] [.ref 174, .int a6] (fun n h => rfl) ?_
  refine hq_gf (x := .ref 176) rfl rfl rfl rfl rfl ?_
  refine hq_p 1 60 [some (.ref 174), some (.int a1), some (.int a2), some (.int a3), some (.int a4), some (.int a5), some (.int a6)] [.int (0 : Int32), .ref 176, .int a6] (fun n h => rfl) ?_
  obtain ⟨x3, hx3, h⟩ := hq_bind h
  refine hq_iaload rfl rfl rfl hx3 ?_
  by_cases c4 : a6 < x3
  · rw [if_pos c4] at h
    refine hq_icF rfl (hq_c_ge_F c4) ?_
    refine hq_p 5 70 [some (.ref 174), some (.int a1), some (.int a2), some (.int a3), some (.int a4), some (.int a5), some (.int a6)] [.int ((a3 >>> (a6 &&& 31)) &&& (1 : Int32))] (fun n h => rfl) ?_
    obtain ⟨z5, hz5, h⟩ := hq_bind h
    suffices hT : hq_R (mm_O xs) d mc_X12_laysFrom 102 [some (.ref 174), some (.int a1), some (.int a2), some (.int a3), some (.int a4), some (.int z5.1), some (.int a6)] [] z5.2 g none y from by
      clear h
      have h := hz5
      by_cases c6 : ((a3 >>> (a6 &&& 31)) &&& (1 : Int32)) = 0
      · rw [if_pos c6] at h
        refine hq_izF rfl (hq_c_ne_F c6) ?_
        refine hq_p 1 102 [some (.ref 174), some (.int a1), some (.int a2), some (.int a3), some (.int a4), some (.int a5), some (.int a6)] [] (fun n h => rfl) ?_
        cases h
        exact hT
      · rw [if_neg c6] at h
        refine hq_izT rfl (hq_c_ne_T c6) ?_
        refine hq_p 1 77 [some (.ref 174), some (.int a1), some (.int a2), some (.int a3), some (.int a4), some (.int a5), some (.int a6)] [.ref 174] (fun n h => rfl) ?_
        refine hq_gf (x := .ref 207) rfl rfl rfl rfl rfl ?_
        refine hq_p 6 89 [some (.ref 174), some (.int a1), some (.int a2), some (.int a3), some (.int a4), some (.int a5), some (.int a6)] [.int a4, .int (((10 : Int32) * a1) + a6), .ref 207] (fun n h => rfl) ?_
        obtain ⟨s7, hs7, h⟩ := hq_bind h
        refine hq_iastore rfl rfl List.length_replicate hs7 ?_
        refine hq_p 2 93 [some (.ref 174), some (.int a1), some (.int a2), some (.int a3), some (.int a4), some (.int a5), some (.int a6)] [.ref 174, .int a5] (fun n h => rfl) ?_
        refine hq_gf (x := .ref 206) rfl rfl rfl rfl rfl ?_
        refine hq_p 1 98 [some (.ref 174), some (.int a1), some (.int a2), some (.int a3), some (.int a4), some (.int a5), some (.int a6)] [.int a6, .ref 206, .int a5] (fun n h => rfl) ?_
        obtain ⟨x8, hx8, h⟩ := hq_bind h
        refine hq_iaload rfl rfl List.length_replicate hx8 ?_
        refine hq_p 2 102 [some (.ref 174), some (.int a1), some (.int a2), some (.int a3), some (.int a4), some (.int (a5 ||| x8)), some (.int a6)] [] (fun n h => rfl) ?_
        cases h
        exact hT
    refine hq_p 2 53 [some (.ref 174), some (.int a1), some (.int a2), some (.int a3), some (.int a4), some (.int z5.1), some (.int (a6 + (1 : Int32)))] [] (fun n h => rfl) ?_
    exact e53 a1 a2 a3 a4 z5.1 (a6 + (1 : Int32)) z5.2 h
  · rw [if_neg c4] at h
    refine hq_icT rfl (hq_c_ge_T c4) ?_
    refine hq_p 2 111 [some (.ref 174), some (.int a1), some (.int a2), some (.int a3), some (.int a4), some (.int a5), some (.int a6)] [.int a2, .int a5] (fun n h => rfl) ?_
    refine hq_icn (-1 : Int32) rfl (by decide) ?_
    refine hq_p 5 39 [some (.ref 174), some (.int a1), some (.int a2), some (.int (a5 &&& (a2 ^^^ (-1 : Int32)))), some (.int (a4 + (1 : Int32))), some (.int a5), some (.int a6)] [] (fun n h => rfl) ?_
    exact e39 a1 a2 (a5 &&& (a2 ^^^ (-1 : Int32))) (a4 + (1 : Int32)) _ _ s h
theorem f_X12_laysFrom_L53_run {xs : List Int32} {n m d g : Nat} {a1 : Int32} {a2 : Int32} {a3 : Int32} {a4 : Int32} {a5 : Int32} {a6 : Int32} {q39 : Int32 → Int32 → Int32 → Int32 → hq_S → Option hq_S} {s : hq_S} {y : hq_S} (hd : 0 ≤ d) (e39 : ∀ (a1 : Int32) (a2 : Int32) (a3 : Int32) (a4 : Int32) (o5 : Option Value) (o6 : Option Value) (s : hq_S), q39 a1 a2 a3 a4 s = some y → hq_R (mm_O xs) d mc_X12_laysFrom 39 [some (.ref 174), some (.int a1), some (.int a2), some (.int a3), some (.int a4), o5, o6] [] s g none y) (h : f_X12_laysFrom_L53 n q39 m a1 a2 a3 a4 a5 a6 s = some y) : hq_R (mm_O xs) d mc_X12_laysFrom 53 [some (.ref 174), some (.int a1), some (.int a2), some (.int a3), some (.int a4), some (.int a5), some (.int a6)] [] s g none y := by
  induction m generalizing a1 a2 a3 a4 a5 a6 s with
  | zero => cases h
  | succ m ih => exact f_X12_laysFrom_L53_Brun (n := n) hd e39 (fun a1 a2 a3 a4 a5 a6 s h => ih h) h
def f_X12_laysFrom_L39_B (n : Nat) (q39 : Int32 → Int32 → Int32 → Int32 → hq_S → Option hq_S) (a1 : Int32) (a2 : Int32) (a3 : Int32) (a4 : Int32) (s : hq_S) : Option hq_S := if a3 = 0 then some s else f_X12_laysFrom_L53 n q39 n a1 (a2 ||| a3) a3 a4 (0 : Int32) (0 : Int32) s
def f_X12_laysFrom_L39 (n : Nat) (m : Nat) : Int32 → Int32 → Int32 → Int32 → hq_S → Option hq_S := Nat.rec (fun _ _ _ _ _ => none) (fun _ q => f_X12_laysFrom_L39_B n q) m
theorem f_X12_laysFrom_L39_Brun {xs : List Int32} {n d g : Nat} {a1 : Int32} {a2 : Int32} {a3 : Int32} {a4 : Int32} {o5 : Option Value} {o6 : Option Value} {q39 : Int32 → Int32 → Int32 → Int32 → hq_S → Option hq_S} {s : hq_S} {y : hq_S} (hd : 0 ≤ d) (e39 : ∀ (a1 : Int32) (a2 : Int32) (a3 : Int32) (a4 : Int32) (o5 : Option Value) (o6 : Option Value) (s : hq_S), q39 a1 a2 a3 a4 s = some y → hq_R (mm_O xs) d mc_X12_laysFrom 39 [some (.ref 174), some (.int a1), some (.int a2), some (.int a3), some (.int a4), o5, o6] [] s g none y) (h : f_X12_laysFrom_L39_B n q39 a1 a2 a3 a4 s = some y) : hq_R (mm_O xs) d mc_X12_laysFrom 39 [some (.ref 174), some (.int a1), some (.int a2), some (.int a3), some (.int a4), o5, o6] [] s g none y := by
  unfold f_X12_laysFrom_L39_B at h
  refine hq_p 1 40 [some (.ref 174), some (.int a1), some (.int a2), some (.int a3), some (.int a4), o5, o6] [.int a3] (fun n h => rfl) ?_
  by_cases c2 : a3 = 0
  · rw [if_pos c2] at h
    refine hq_izT rfl (hq_c_eq_T c2) ?_
    have h := Option.some.inj h
    subst h
    exact ⟨1, rfl⟩
  · rw [if_neg c2] at h
    refine hq_izF rfl (hq_c_eq_F c2) ?_
    refine hq_p 8 53 [some (.ref 174), some (.int a1), some (.int (a2 ||| a3)), some (.int a3), some (.int a4), some (.int (0 : Int32)), some (.int (0 : Int32))] [] (fun n h => rfl) ?_
    exact f_X12_laysFrom_L53_run hd e39 h
theorem f_X12_laysFrom_L39_run {xs : List Int32} {n m d g : Nat} {a1 : Int32} {a2 : Int32} {a3 : Int32} {a4 : Int32} {o5 : Option Value} {o6 : Option Value} {s : hq_S} {y : hq_S} (hd : 0 ≤ d) (h : f_X12_laysFrom_L39 n m a1 a2 a3 a4 s = some y) : hq_R (mm_O xs) d mc_X12_laysFrom 39 [some (.ref 174), some (.int a1), some (.int a2), some (.int a3), some (.int a4), o5, o6] [] s g none y := by
  induction m generalizing a1 a2 a3 a4 o5 o6 s with
  | zero => cases h
  | succ m ih => exact f_X12_laysFrom_L39_Brun (n := n) hd (fun a1 a2 a3 a4 o5 o6 s h => ih h) h
def f_X12_laysFrom_L9_B (n : Nat) (q9 : Int32 → Int32 → Int32 → Int32 → hq_S → Option hq_S) (a1 : Int32) (a2 : Int32) (a3 : Int32) (a4 : Int32) (s : hq_S) : Option hq_S := if a4 < (10 : Int32) then (hq_st s 207 100 (((10 : Int32) * a1) + a4) (99 : Int32)).bind fun s9 => q9 a1 a2 a3 (a4 + (1 : Int32)) s9 else f_X12_laysFrom_L39 n n a1 a2 a3 (0 : Int32) s
def f_X12_laysFrom_L9 (n : Nat) (m : Nat) : Int32 → Int32 → Int32 → Int32 → hq_S → Option hq_S := Nat.rec (fun _ _ _ _ _ => none) (fun _ q => f_X12_laysFrom_L9_B n q) m
theorem f_X12_laysFrom_L9_Brun {xs : List Int32} {n d g : Nat} {a1 : Int32} {a2 : Int32} {a3 : Int32} {a4 : Int32} {q9 : Int32 → Int32 → Int32 → Int32 → hq_S → Option hq_S} {s : hq_S} {y : hq_S} (hd : 0 ≤ d) (e9 : ∀ (a1 : Int32) (a2 : Int32) (a3 : Int32) (a4 : Int32) (s : hq_S), q9 a1 a2 a3 a4 s = some y → hq_R (mm_O xs) d mc_X12_laysFrom 9 [some (.ref 174), some (.int a1), some (.int a2), some (.int a3), some (.int a4), none, none] [] s g none y) (h : f_X12_laysFrom_L9_B n q9 a1 a2 a3 a4 s = some y) : hq_R (mm_O xs) d mc_X12_laysFrom 9 [some (.ref 174), some (.int a1), some (.int a2), some (.int a3), some (.int a4), none, none] [] s g none y := by
  unfold f_X12_laysFrom_L9_B at h
  refine hq_p 2 13 [some (.ref 174), some (.int a1), some (.int a2), some (.int a3), some (.int a4), none, none] [.int (10 : Int32), .int a4] (fun n h => rfl) ?_
  by_cases c1 : a4 < (10 : Int32)
  · rw [if_pos c1] at h
    refine hq_icF rfl (hq_c_ge_F c1) ?_
    refine hq_p 1 17 [some (.ref 174), some (.int a1), some (.int a2), some (.int a3), some (.int a4), none, none] [.ref 174] (fun n h => rfl) ?_
    refine hq_gf (x := .ref 207) rfl rfl rfl rfl rfl ?_
    refine hq_p 5 27 [some (.ref 174), some (.int a1), some (.int a2), some (.int a3), some (.int a4), none, none] [.int (((10 : Int32) * a1) + a4), .ref 207] (fun n h => rfl) ?_
    refine hq_bip (99 : Int32) rfl (by decide) ?_
    obtain ⟨s9, hs9, h⟩ := hq_bind h
    refine hq_iastore rfl rfl List.length_replicate hs9 ?_
    refine hq_p 2 9 [some (.ref 174), some (.int a1), some (.int a2), some (.int a3), some (.int (a4 + (1 : Int32))), none, none] [] (fun n h => rfl) ?_
    exact e9 a1 a2 a3 (a4 + (1 : Int32)) s9 h
  · rw [if_neg c1] at h
    refine hq_icT rfl (hq_c_ge_T c1) ?_
    refine hq_p 2 39 [some (.ref 174), some (.int a1), some (.int a2), some (.int a3), some (.int (0 : Int32)), none, none] [] (fun n h => rfl) ?_
    exact f_X12_laysFrom_L39_run hd h
theorem f_X12_laysFrom_L9_run {xs : List Int32} {n m d g : Nat} {a1 : Int32} {a2 : Int32} {a3 : Int32} {a4 : Int32} {s : hq_S} {y : hq_S} (hd : 0 ≤ d) (h : f_X12_laysFrom_L9 n m a1 a2 a3 a4 s = some y) : hq_R (mm_O xs) d mc_X12_laysFrom 9 [some (.ref 174), some (.int a1), some (.int a2), some (.int a3), some (.int a4), none, none] [] s g none y := by
  induction m generalizing a1 a2 a3 a4 s with
  | zero => cases h
  | succ m ih => exact f_X12_laysFrom_L9_Brun (n := n) hd (fun a1 a2 a3 a4 s h => ih h) h
def f_X12_laysFrom (n : Nat) (a1 : Int32) (s : hq_S) : Option hq_S := f_X12_laysFrom_L9 n n a1 (0 : Int32) ((1 : Int32) <<< (a1 &&& 31)) (0 : Int32) s
theorem f_X12_laysFrom_run {xs : List Int32} {n d g : Nat} {a1 : Int32} {s : hq_S} {y : hq_S} (hd : 0 ≤ d) (h : f_X12_laysFrom n a1 s = some y) : hq_R (mm_O xs) d mc_X12_laysFrom 0 [some (.ref 174), some (.int a1), none, none, none, none, none] [] s g none y := by
  unfold f_X12_laysFrom at h
  refine hq_p 8 9 [some (.ref 174), some (.int a1), some (.int (0 : Int32)), some (.int ((1 : Int32) <<< (a1 &&& 31))), some (.int (0 : Int32)), none, none] [] (fun n h => rfl) ?_
  exact f_X12_laysFrom_L9_run hd h
def f_X12_lays_L127_B (n : Nat) (q127 : Int32 → Int32 → hq_S → Option hq_S) (a1 : Int32) (a2 : Int32) (s : hq_S) : Option hq_S := (hq_ld s 176 14 (0 : Int32)).bind fun x4 => if a2 < x4 then (f_X12_laysFrom n a2 s).bind fun s6 => q127 a1 (a2 + (1 : Int32)) s6 else some s
def f_X12_lays_L127 (n : Nat) (m : Nat) : Int32 → Int32 → hq_S → Option hq_S := Nat.rec (fun _ _ _ => none) (fun _ q => f_X12_lays_L127_B n q) m
theorem f_X12_lays_L127_Brun {xs : List Int32} {n d g : Nat} {a1 : Int32} {a2 : Int32} {q127 : Int32 → Int32 → hq_S → Option hq_S} {s : hq_S} {y : hq_S} (hd : 1 ≤ d) (e127 : ∀ (a1 : Int32) (a2 : Int32) (s : hq_S), q127 a1 a2 s = some y → hq_R (mm_O xs) d mc_X12_lays 127 [some (.ref 174), some (.int a1), some (.int a2)] [] s g none y) (h : f_X12_lays_L127_B n q127 a1 a2 s = some y) : hq_R (mm_O xs) d mc_X12_lays 127 [some (.ref 174), some (.int a1), some (.int a2)] [] s g none y := by
  unfold f_X12_lays_L127_B at h
  refine hq_p 2 129 [some (.ref 174), some (.int a1), some (.int a2)] [.ref 174, .int a2] (fun n h => rfl) ?_
  refine hq_gf (x := .ref 176) rfl rfl rfl rfl rfl ?_
  refine hq_p 1 133 [some (.ref 174), some (.int a1), some (.int a2)] [.int (0 : Int32), .ref 176, .int a2] (fun n h => rfl) ?_
  obtain ⟨x4, hx4, h⟩ := hq_bind h
  refine hq_iaload rfl rfl rfl hx4 ?_
  by_cases c5 : a2 < x4
  · rw [if_pos c5] at h
    refine hq_icF rfl (hq_c_ge_F c5) ?_
    refine hq_p 2 139 [some (.ref 174), some (.int a1), some (.int a2)] [.int a2, .ref 174] (fun n h => rfl) ?_
    obtain ⟨s6, hs6, h⟩ := hq_bind h
    refine hq_inv rfl rfl (Nat.le_trans (by decide) hd) rfl rfl (hq_rcv rfl rfl) (f_X12_laysFrom_run (Nat.le_sub_of_add_le (Nat.le_trans (by decide) hd)) hs6) rfl ?_
    refine hq_p 2 127 [some (.ref 174), some (.int a1), some (.int (a2 + (1 : Int32)))] [] (fun n h => rfl) ?_
    exact e127 a1 (a2 + (1 : Int32)) s6 h
  · rw [if_neg c5] at h
    refine hq_icT rfl (hq_c_ge_T c5) ?_
    have h := Option.some.inj h
    subst h
    exact ⟨1, rfl⟩
theorem f_X12_lays_L127_run {xs : List Int32} {n m d g : Nat} {a1 : Int32} {a2 : Int32} {s : hq_S} {y : hq_S} (hd : 1 ≤ d) (h : f_X12_lays_L127 n m a1 a2 s = some y) : hq_R (mm_O xs) d mc_X12_lays 127 [some (.ref 174), some (.int a1), some (.int a2)] [] s g none y := by
  induction m generalizing a1 a2 s with
  | zero => cases h
  | succ m ih => exact f_X12_lays_L127_Brun (n := n) hd (fun a1 a2 s h => ih h) h
def f_X12_lays_L23_B (n : Nat) (q23 : Int32 → Int32 → hq_S → Option hq_S) (a1 : Int32) (a2 : Int32) (s : hq_S) : Option hq_S := (hq_ld s 176 14 (1 : Int32)).bind fun x2 => if a2 < x2 then (hq_ld s 198 23 a1).bind fun x7 => (if ((x7 >>> (a2 &&& 31)) &&& (1 : Int32)) = (1 : Int32) then if (hq_gi s 174 49) = (4 : Int32) then (hq_ld s 180 40 a2).bind fun x26 => (hq_ld s 206 10 x26).bind fun x27 => (hq_ld s 181 40 a2).bind fun x28 => (hq_st s 206 10 x26 (x27 ||| ((1 : Int32) <<< (x28 &&& 31)))).bind fun s29 => (hq_ld s29 182 40 a2).bind fun x30 => if x30 = 0 then (hq_ld s29 181 40 a2).bind fun x32 => (hq_ld s29 206 10 x32).bind fun x33 => (hq_ld s29 180 40 a2).bind fun x34 => (hq_st s29 206 10 x32 (x33 ||| ((1 : Int32) <<< (x34 &&& 31)))).bind fun s35 => some s35 else if (hq_gi s29 174 49) = (4 : Int32) then (hq_ld s29 181 40 a2).bind fun x37 => (hq_ld s29 206 10 x37).bind fun x38 => (hq_ld s29 180 40 a2).bind fun x39 => (hq_st s29 206 10 x37 (x38 ||| ((1 : Int32) <<< (x39 &&& 31)))).bind fun s40 => some s40 else some s29 else some s else (hq_ld s 180 40 a2).bind fun x10 => (hq_ld s 206 10 x10).bind fun x11 => (hq_ld s 181 40 a2).bind fun x12 => (hq_st s 206 10 x10 (x11 ||| ((1 : Int32) <<< (x12 &&& 31)))).bind fun s13 => (hq_ld s13 182 40 a2).bind fun x14 => if x14 = 0 then (hq_ld s13 181 40 a2).bind fun x16 => (hq_ld s13 206 10 x16).bind fun x17 => (hq_ld s13 180 40 a2).bind fun x18 => (hq_st s13 206 10 x16 (x17 ||| ((1 : Int32) <<< (x18 &&& 31)))).bind fun s19 => some s19 else if (hq_gi s13 174 49) = (4 : Int32) then (hq_ld s13 181 40 a2).bind fun x21 => (hq_ld s13 206 10 x21).bind fun x22 => (hq_ld s13 180 40 a2).bind fun x23 => (hq_st s13 206 10 x21 (x22 ||| ((1 : Int32) <<< (x23 &&& 31)))).bind fun s24 => some s24 else some s13).bind fun z8 => q23 a1 (a2 + (1 : Int32)) z8 else f_X12_lays_L127 n n a1 (0 : Int32) s
def f_X12_lays_L23 (n : Nat) (m : Nat) : Int32 → Int32 → hq_S → Option hq_S := Nat.rec (fun _ _ _ => none) (fun _ q => f_X12_lays_L23_B n q) m
theorem f_X12_lays_L23_Brun {xs : List Int32} {n d g : Nat} {a1 : Int32} {a2 : Int32} {q23 : Int32 → Int32 → hq_S → Option hq_S} {s : hq_S} {y : hq_S} (hd : 1 ≤ d) (e23 : ∀ (a1 : Int32) (a2 : Int32) (s : hq_S), q23 a1 a2 s = some y → hq_R (mm_O xs) d mc_X12_lays 23 [some (.ref 174), some (.int a1), some (.int a2)] [] s g none y) (h : f_X12_lays_L23_B n q23 a1 a2 s = some y) : hq_R (mm_O xs) d mc_X12_lays 23 [some (.ref 174), some (.int a1), some (.int a2)] [] s g none y := by
  unfold f_X12_lays_L23_B at h
  refine hq_p 2 25 [some (.ref 174), some (.int a1), some (.int a2)] [.ref 174, .int a2] (fun n h => rfl) ?_
  refine hq_gf (x := .ref 176) rfl rfl rfl rfl rfl ?_
  refine hq_p 1 29 [some (.ref 174), some (.int a1), some (.int a2)] [.int (1 : Int32), .ref 176, .int a2] (fun n h => rfl) ?_
  obtain ⟨x2, hx2, h⟩ := hq_bind h
  refine hq_iaload rfl rfl rfl hx2 ?_
  by_cases c3 : a2 < x2
  · rw [if_pos c3] at h
    refine hq_icF rfl (hq_c_ge_F c3) ?_
    refine hq_p 1 34 [some (.ref 174), some (.int a1), some (.int a2)] [.ref 174] (fun n h => rfl) ?_
    refine hq_gf (x := .ref 198) rfl rfl rfl rfl rfl ?_
    refine hq_p 1 38 [some (.ref 174), some (.int a1), some (.int a2)] [.int a1, .ref 198] (fun n h => rfl) ?_
    obtain ⟨x7, hx7, h⟩ := hq_bind h
    refine hq_iaload rfl rfl List.length_replicate hx7 ?_
    refine hq_p 5 44 [some (.ref 174), some (.int a1), some (.int a2)] [.int (1 : Int32), .int ((x7 >>> (a2 &&& 31)) &&& (1 : Int32))] (fun n h => rfl) ?_
    obtain ⟨z8, hz8, h⟩ := hq_bind h
    suffices hT : hq_R (mm_O xs) d mc_X12_lays 119 [some (.ref 174), some (.int a1), some (.int a2)] [] z8 g none y from by
      clear h
      have h := hz8
      by_cases c9 : ((x7 >>> (a2 &&& 31)) &&& (1 : Int32)) = (1 : Int32)
      · rw [if_pos c9] at h
        refine hq_icF rfl (hq_c_ne_F c9) ?_
        refine hq_p 1 48 [some (.ref 174), some (.int a1), some (.int a2)] [.ref 174] (fun n h => rfl) ?_
        refine hq_gf (x := .int (hq_gi s 174 49)) rfl rfl rfl rfl rfl ?_
        refine hq_p 1 52 [some (.ref 174), some (.int a1), some (.int a2)] [.int (4 : Int32), .int (hq_gi s 174 49)] (fun n h => rfl) ?_
        by_cases c25 : (hq_gi s 174 49) = (4 : Int32)
        · rw [if_pos c25] at h
          refine hq_icT rfl (hq_c_eq_T c25) ?_
          refine hq_p 1 59 [some (.ref 174), some (.int a1), some (.int a2)] [.ref 174] (fun n h => rfl) ?_
          refine hq_gf (x := .ref 206) rfl rfl rfl rfl rfl ?_
          refine hq_p 1 63 [some (.ref 174), some (.int a1), some (.int a2)] [.ref 174, .ref 206] (fun n h => rfl) ?_
          refine hq_gf (x := .ref 180) rfl rfl rfl rfl rfl ?_
          refine hq_p 1 67 [some (.ref 174), some (.int a1), some (.int a2)] [.int a2, .ref 180, .ref 206] (fun n h => rfl) ?_
          obtain ⟨x26, hx26, h⟩ := hq_bind h
          refine hq_iaload rfl rfl List.length_replicate hx26 ?_
          refine hq_p 1 69 [some (.ref 174), some (.int a1), some (.int a2)] [.int x26, .ref 206, .int x26, .ref 206] (fun n h => rfl) ?_
          obtain ⟨x27, hx27, h⟩ := hq_bind h
          refine hq_iaload rfl rfl List.length_replicate hx27 ?_
          refine hq_p 2 72 [some (.ref 174), some (.int a1), some (.int a2)] [.ref 174, .int (1 : Int32), .int x27, .int x26, .ref 206] (fun n h => rfl) ?_
          refine hq_gf (x := .ref 181) rfl rfl rfl rfl rfl ?_
          refine hq_p 1 76 [some (.ref 174), some (.int a1), some (.int a2)] [.int a2, .ref 181, .int (1 : Int32), .int x27, .int x26, .ref 206] (fun n h => rfl) ?_
          obtain ⟨x28, hx28, h⟩ := hq_bind h
          refine hq_iaload rfl rfl List.length_replicate hx28 ?_
          refine hq_p 2 79 [some (.ref 174), some (.int a1), some (.int a2)] [.int (x27 ||| ((1 : Int32) <<< (x28 &&& 31))), .int x26, .ref 206] (fun n h => rfl) ?_
          obtain ⟨s29, hs29, h⟩ := hq_bind h
          refine hq_iastore rfl rfl List.length_replicate hs29 ?_
          refine hq_p 1 81 [some (.ref 174), some (.int a1), some (.int a2)] [.ref 174] (fun n h => rfl) ?_
          refine hq_gf (x := .ref 182) rfl rfl rfl rfl rfl ?_
          refine hq_p 1 85 [some (.ref 174), some (.int a1), some (.int a2)] [.int a2, .ref 182] (fun n h => rfl) ?_
          obtain ⟨x30, hx30, h⟩ := hq_bind h
          refine hq_iaload rfl rfl List.length_replicate hx30 ?_
          by_cases c31 : x30 = 0
          · rw [if_pos c31] at h
            refine hq_izT rfl (hq_c_eq_T c31) ?_
            refine hq_p 1 98 [some (.ref 174), some (.int a1), some (.int a2)] [.ref 174] (fun n h => rfl) ?_
            refine hq_gf (x := .ref 206) rfl rfl rfl rfl rfl ?_
            refine hq_p 1 102 [some (.ref 174), some (.int a1), some (.int a2)] [.ref 174, .ref 206] (fun n h => rfl) ?_
            refine hq_gf (x := .ref 181) rfl rfl rfl rfl rfl ?_
            refine hq_p 1 106 [some (.ref 174), some (.int a1), some (.int a2)] [.int a2, .ref 181, .ref 206] (fun n h => rfl) ?_
            obtain ⟨x32, hx32, h⟩ := hq_bind h
            refine hq_iaload rfl rfl List.length_replicate hx32 ?_
            refine hq_p 1 108 [some (.ref 174), some (.int a1), some (.int a2)] [.int x32, .ref 206, .int x32, .ref 206] (fun n h => rfl) ?_
            obtain ⟨x33, hx33, h⟩ := hq_bind h
            refine hq_iaload rfl rfl List.length_replicate hx33 ?_
            refine hq_p 2 111 [some (.ref 174), some (.int a1), some (.int a2)] [.ref 174, .int (1 : Int32), .int x33, .int x32, .ref 206] (fun n h => rfl) ?_
            refine hq_gf (x := .ref 180) rfl rfl rfl rfl rfl ?_
            refine hq_p 1 115 [some (.ref 174), some (.int a1), some (.int a2)] [.int a2, .ref 180, .int (1 : Int32), .int x33, .int x32, .ref 206] (fun n h => rfl) ?_
            obtain ⟨x34, hx34, h⟩ := hq_bind h
            refine hq_iaload rfl rfl List.length_replicate hx34 ?_
            refine hq_p 2 118 [some (.ref 174), some (.int a1), some (.int a2)] [.int (x33 ||| ((1 : Int32) <<< (x34 &&& 31))), .int x32, .ref 206] (fun n h => rfl) ?_
            obtain ⟨s35, hs35, h⟩ := hq_bind h
            refine hq_iastore rfl rfl List.length_replicate hs35 ?_
            cases h
            exact hT
          · rw [if_neg c31] at h
            refine hq_izF rfl (hq_c_eq_F c31) ?_
            refine hq_p 1 90 [some (.ref 174), some (.int a1), some (.int a2)] [.ref 174] (fun n h => rfl) ?_
            refine hq_gf (x := .int (hq_gi s29 174 49)) rfl rfl rfl rfl rfl ?_
            refine hq_p 1 94 [some (.ref 174), some (.int a1), some (.int a2)] [.int (4 : Int32), .int (hq_gi s29 174 49)] (fun n h => rfl) ?_
            by_cases c36 : (hq_gi s29 174 49) = (4 : Int32)
            · rw [if_pos c36] at h
              refine hq_icF rfl (hq_c_ne_F c36) ?_
              refine hq_p 1 98 [some (.ref 174), some (.int a1), some (.int a2)] [.ref 174] (fun n h => rfl) ?_
              refine hq_gf (x := .ref 206) rfl rfl rfl rfl rfl ?_
              refine hq_p 1 102 [some (.ref 174), some (.int a1), some (.int a2)] [.ref 174, .ref 206] (fun n h => rfl) ?_
              refine hq_gf (x := .ref 181) rfl rfl rfl rfl rfl ?_
              refine hq_p 1 106 [some (.ref 174), some (.int a1), some (.int a2)] [.int a2, .ref 181, .ref 206] (fun n h => rfl) ?_
              obtain ⟨x37, hx37, h⟩ := hq_bind h
              refine hq_iaload rfl rfl List.length_replicate hx37 ?_
              refine hq_p 1 108 [some (.ref 174), some (.int a1), some (.int a2)] [.int x37, .ref 206, .int x37, .ref 206] (fun n h => rfl) ?_
              obtain ⟨x38, hx38, h⟩ := hq_bind h
              refine hq_iaload rfl rfl List.length_replicate hx38 ?_
              refine hq_p 2 111 [some (.ref 174), some (.int a1), some (.int a2)] [.ref 174, .int (1 : Int32), .int x38, .int x37, .ref 206] (fun n h => rfl) ?_
              refine hq_gf (x := .ref 180) rfl rfl rfl rfl rfl ?_
              refine hq_p 1 115 [some (.ref 174), some (.int a1), some (.int a2)] [.int a2, .ref 180, .int (1 : Int32), .int x38, .int x37, .ref 206] (fun n h => rfl) ?_
              obtain ⟨x39, hx39, h⟩ := hq_bind h
              refine hq_iaload rfl rfl List.length_replicate hx39 ?_
              refine hq_p 2 118 [some (.ref 174), some (.int a1), some (.int a2)] [.int (x38 ||| ((1 : Int32) <<< (x39 &&& 31))), .int x37, .ref 206] (fun n h => rfl) ?_
              obtain ⟨s40, hs40, h⟩ := hq_bind h
              refine hq_iastore rfl rfl List.length_replicate hs40 ?_
              cases h
              exact hT
            · rw [if_neg c36] at h
              refine hq_icT rfl (hq_c_ne_T c36) ?_
              cases h
              exact hT
        · rw [if_neg c25] at h
          refine hq_icF rfl (hq_c_eq_F c25) ?_
          refine hq_p 1 119 [some (.ref 174), some (.int a1), some (.int a2)] [] (fun n h => rfl) ?_
          cases h
          exact hT
      · rw [if_neg c9] at h
        refine hq_icT rfl (hq_c_ne_T c9) ?_
        refine hq_p 1 59 [some (.ref 174), some (.int a1), some (.int a2)] [.ref 174] (fun n h => rfl) ?_
        refine hq_gf (x := .ref 206) rfl rfl rfl rfl rfl ?_
        refine hq_p 1 63 [some (.ref 174), some (.int a1), some (.int a2)] [.ref 174, .ref 206] (fun n h => rfl) ?_
        refine hq_gf (x := .ref 180) rfl rfl rfl rfl rfl ?_
        refine hq_p 1 67 [some (.ref 174), some (.int a1), some (.int a2)] [.int a2, .ref 180, .ref 206] (fun n h => rfl) ?_
        obtain ⟨x10, hx10, h⟩ := hq_bind h
        refine hq_iaload rfl rfl List.length_replicate hx10 ?_
        refine hq_p 1 69 [some (.ref 174), some (.int a1), some (.int a2)] [.int x10, .ref 206, .int x10, .ref 206] (fun n h => rfl) ?_
        obtain ⟨x11, hx11, h⟩ := hq_bind h
        refine hq_iaload rfl rfl List.length_replicate hx11 ?_
        refine hq_p 2 72 [some (.ref 174), some (.int a1), some (.int a2)] [.ref 174, .int (1 : Int32), .int x11, .int x10, .ref 206] (fun n h => rfl) ?_
        refine hq_gf (x := .ref 181) rfl rfl rfl rfl rfl ?_
        refine hq_p 1 76 [some (.ref 174), some (.int a1), some (.int a2)] [.int a2, .ref 181, .int (1 : Int32), .int x11, .int x10, .ref 206] (fun n h => rfl) ?_
        obtain ⟨x12, hx12, h⟩ := hq_bind h
        refine hq_iaload rfl rfl List.length_replicate hx12 ?_
        refine hq_p 2 79 [some (.ref 174), some (.int a1), some (.int a2)] [.int (x11 ||| ((1 : Int32) <<< (x12 &&& 31))), .int x10, .ref 206] (fun n h => rfl) ?_
        obtain ⟨s13, hs13, h⟩ := hq_bind h
        refine hq_iastore rfl rfl List.length_replicate hs13 ?_
        refine hq_p 1 81 [some (.ref 174), some (.int a1), some (.int a2)] [.ref 174] (fun n h => rfl) ?_
        refine hq_gf (x := .ref 182) rfl rfl rfl rfl rfl ?_
        refine hq_p 1 85 [some (.ref 174), some (.int a1), some (.int a2)] [.int a2, .ref 182] (fun n h => rfl) ?_
        obtain ⟨x14, hx14, h⟩ := hq_bind h
        refine hq_iaload rfl rfl List.length_replicate hx14 ?_
        by_cases c15 : x14 = 0
        · rw [if_pos c15] at h
          refine hq_izT rfl (hq_c_eq_T c15) ?_
          refine hq_p 1 98 [some (.ref 174), some (.int a1), some (.int a2)] [.ref 174] (fun n h => rfl) ?_
          refine hq_gf (x := .ref 206) rfl rfl rfl rfl rfl ?_
          refine hq_p 1 102 [some (.ref 174), some (.int a1), some (.int a2)] [.ref 174, .ref 206] (fun n h => rfl) ?_
          refine hq_gf (x := .ref 181) rfl rfl rfl rfl rfl ?_
          refine hq_p 1 106 [some (.ref 174), some (.int a1), some (.int a2)] [.int a2, .ref 181, .ref 206] (fun n h => rfl) ?_
          obtain ⟨x16, hx16, h⟩ := hq_bind h
          refine hq_iaload rfl rfl List.length_replicate hx16 ?_
          refine hq_p 1 108 [some (.ref 174), some (.int a1), some (.int a2)] [.int x16, .ref 206, .int x16, .ref 206] (fun n h => rfl) ?_
          obtain ⟨x17, hx17, h⟩ := hq_bind h
          refine hq_iaload rfl rfl List.length_replicate hx17 ?_
          refine hq_p 2 111 [some (.ref 174), some (.int a1), some (.int a2)] [.ref 174, .int (1 : Int32), .int x17, .int x16, .ref 206] (fun n h => rfl) ?_
          refine hq_gf (x := .ref 180) rfl rfl rfl rfl rfl ?_
          refine hq_p 1 115 [some (.ref 174), some (.int a1), some (.int a2)] [.int a2, .ref 180, .int (1 : Int32), .int x17, .int x16, .ref 206] (fun n h => rfl) ?_
          obtain ⟨x18, hx18, h⟩ := hq_bind h
          refine hq_iaload rfl rfl List.length_replicate hx18 ?_
          refine hq_p 2 118 [some (.ref 174), some (.int a1), some (.int a2)] [.int (x17 ||| ((1 : Int32) <<< (x18 &&& 31))), .int x16, .ref 206] (fun n h => rfl) ?_
          obtain ⟨s19, hs19, h⟩ := hq_bind h
          refine hq_iastore rfl rfl List.length_replicate hs19 ?_
          cases h
          exact hT
        · rw [if_neg c15] at h
          refine hq_izF rfl (hq_c_eq_F c15) ?_
          refine hq_p 1 90 [some (.ref 174), some (.int a1), some (.int a2)] [.ref 174] (fun n h => rfl) ?_
          refine hq_gf (x := .int (hq_gi s13 174 49)) rfl rfl rfl rfl rfl ?_
          refine hq_p 1 94 [some (.ref 174), some (.int a1), some (.int a2)] [.int (4 : Int32), .int (hq_gi s13 174 49)] (fun n h => rfl) ?_
          by_cases c20 : (hq_gi s13 174 49) = (4 : Int32)
          · rw [if_pos c20] at h
            refine hq_icF rfl (hq_c_ne_F c20) ?_
            refine hq_p 1 98 [some (.ref 174), some (.int a1), some (.int a2)] [.ref 174] (fun n h => rfl) ?_
            refine hq_gf (x := .ref 206) rfl rfl rfl rfl rfl ?_
            refine hq_p 1 102 [some (.ref 174), some (.int a1), some (.int a2)] [.ref 174, .ref 206] (fun n h => rfl) ?_
            refine hq_gf (x := .ref 181) rfl rfl rfl rfl rfl ?_
            refine hq_p 1 106 [some (.ref 174), some (.int a1), some (.int a2)] [.int a2, .ref 181, .ref 206] (fun n h => rfl) ?_
            obtain ⟨x21, hx21, h⟩ := hq_bind h
            refine hq_iaload rfl rfl List.length_replicate hx21 ?_
            refine hq_p 1 108 [some (.ref 174), some (.int a1), some (.int a2)] [.int x21, .ref 206, .int x21, .ref 206] (fun n h => rfl) ?_
            obtain ⟨x22, hx22, h⟩ := hq_bind h
            refine hq_iaload rfl rfl List.length_replicate hx22 ?_
            refine hq_p 2 111 [some (.ref 174), some (.int a1), some (.int a2)] [.ref 174, .int (1 : Int32), .int x22, .int x21, .ref 206] (fun n h => rfl) ?_
            refine hq_gf (x := .ref 180) rfl rfl rfl rfl rfl ?_
            refine hq_p 1 115 [some (.ref 174), some (.int a1), some (.int a2)] [.int a2, .ref 180, .int (1 : Int32), .int x22, .int x21, .ref 206] (fun n h => rfl) ?_
            obtain ⟨x23, hx23, h⟩ := hq_bind h
            refine hq_iaload rfl rfl List.length_replicate hx23 ?_
            refine hq_p 2 118 [some (.ref 174), some (.int a1), some (.int a2)] [.int (x22 ||| ((1 : Int32) <<< (x23 &&& 31))), .int x21, .ref 206] (fun n h => rfl) ?_
            obtain ⟨s24, hs24, h⟩ := hq_bind h
            refine hq_iastore rfl rfl List.length_replicate hs24 ?_
            cases h
            exact hT
          · rw [if_neg c20] at h
            refine hq_icT rfl (hq_c_ne_T c20) ?_
            cases h
            exact hT
    refine hq_p 2 23 [some (.ref 174), some (.int a1), some (.int (a2 + (1 : Int32)))] [] (fun n h => rfl) ?_
    exact e23 a1 (a2 + (1 : Int32)) z8 h
  · rw [if_neg c3] at h
    refine hq_icT rfl (hq_c_ge_T c3) ?_
    refine hq_p 2 127 [some (.ref 174), some (.int a1), some (.int (0 : Int32))] [] (fun n h => rfl) ?_
    exact f_X12_lays_L127_run hd h
theorem f_X12_lays_L23_run {xs : List Int32} {n m d g : Nat} {a1 : Int32} {a2 : Int32} {s : hq_S} {y : hq_S} (hd : 1 ≤ d) (h : f_X12_lays_L23 n m a1 a2 s = some y) : hq_R (mm_O xs) d mc_X12_lays 23 [some (.ref 174), some (.int a1), some (.int a2)] [] s g none y := by
  induction m generalizing a1 a2 s with
  | zero => cases h
  | succ m ih => exact f_X12_lays_L23_Brun (n := n) hd (fun a1 a2 s h => ih h) h
def f_X12_lays_L2_B (n : Nat) (q2 : Int32 → Int32 → hq_S → Option hq_S) (a1 : Int32) (a2 : Int32) (s : hq_S) : Option hq_S := if a2 < (10 : Int32) then (hq_st s 206 10 a2 (0 : Int32)).bind fun s41 => q2 a1 (a2 + (1 : Int32)) s41 else f_X12_lays_L23 n n a1 (0 : Int32) s
def f_X12_lays_L2 (n : Nat) (m : Nat) : Int32 → Int32 → hq_S → Option hq_S := Nat.rec (fun _ _ _ => none) (fun _ q => f_X12_lays_L2_B n q) m
theorem f_X12_lays_L2_Brun {xs : List Int32} {n d g : Nat} {a1 : Int32} {a2 : Int32} {q2 : Int32 → Int32 → hq_S → Option hq_S} {s : hq_S} {y : hq_S} (hd : 1 ≤ d) (e2 : ∀ (a1 : Int32) (a2 : Int32) (s : hq_S), q2 a1 a2 s = some y → hq_R (mm_O xs) d mc_X12_lays 2 [some (.ref 174), some (.int a1), some (.int a2)] [] s g none y) (h : f_X12_lays_L2_B n q2 a1 a2 s = some y) : hq_R (mm_O xs) d mc_X12_lays 2 [some (.ref 174), some (.int a1), some (.int a2)] [] s g none y := by
  unfold f_X12_lays_L2_B at h
  refine hq_p 2 5 [some (.ref 174), some (.int a1), some (.int a2)] [.int (10 : Int32), .int a2] (fun n h => rfl) ?_
  by_cases c1 : a2 < (10 : Int32)
  · rw [if_pos c1] at h
    refine hq_icF rfl (hq_c_ge_F c1) ?_
    refine hq_p 1 9 [some (.ref 174), some (.int a1), some (.int a2)] [.ref 174] (fun n h => rfl) ?_
    refine hq_gf (x := .ref 206) rfl rfl rfl rfl rfl ?_
    refine hq_p 2 14 [some (.ref 174), some (.int a1), some (.int a2)] [.int (0 : Int32), .int a2, .ref 206] (fun n h => rfl) ?_
    obtain ⟨s41, hs41, h⟩ := hq_bind h
    refine hq_iastore rfl rfl List.length_replicate hs41 ?_
    refine hq_p 2 2 [some (.ref 174), some (.int a1), some (.int (a2 + (1 : Int32)))] [] (fun n h => rfl) ?_
    exact e2 a1 (a2 + (1 : Int32)) s41 h
  · rw [if_neg c1] at h
    refine hq_icT rfl (hq_c_ge_T c1) ?_
    refine hq_p 2 23 [some (.ref 174), some (.int a1), some (.int (0 : Int32))] [] (fun n h => rfl) ?_
    exact f_X12_lays_L23_run hd h
theorem f_X12_lays_L2_run {xs : List Int32} {n m d g : Nat} {a1 : Int32} {a2 : Int32} {s : hq_S} {y : hq_S} (hd : 1 ≤ d) (h : f_X12_lays_L2 n m a1 a2 s = some y) : hq_R (mm_O xs) d mc_X12_lays 2 [some (.ref 174), some (.int a1), some (.int a2)] [] s g none y := by
  induction m generalizing a1 a2 s with
  | zero => cases h
  | succ m ih => exact f_X12_lays_L2_Brun (n := n) hd (fun a1 a2 s h => ih h) h
def f_X12_lays (n : Nat) (a1 : Int32) (s : hq_S) : Option hq_S := f_X12_lays_L2 n n a1 (0 : Int32) s
theorem f_X12_lays_run {xs : List Int32} {n d g : Nat} {a1 : Int32} {s : hq_S} {y : hq_S} (hd : 1 ≤ d) (h : f_X12_lays n a1 s = some y) : hq_R (mm_O xs) d mc_X12_lays 0 [some (.ref 174), some (.int a1), none] [] s g none y := by
  unfold f_X12_lays at h
  refine hq_p 2 2 [some (.ref 174), some (.int a1), some (.int (0 : Int32))] [] (fun n h => rfl) ?_
  exact f_X12_lays_L2_run hd h
def f_X12_farOf_L6_B (n : Nat) (q6 : Int32 → Int32 → Int32 → Int32 → hq_S → Option (Int32 × hq_S)) (a1 : Int32) (a2 : Int32) (a3 : Int32) (a4 : Int32) (s : hq_S) : Option (Int32 × hq_S) := (hq_ld s 176 14 (2 : Int32)).bind fun x1 => if a4 < x1 then (hq_ld s 200 69 (((3 : Int32) * a1) + a4)).bind fun x3 => (hq_ld s 207 100 (((10 : Int32) * x3) + a2)).bind fun x4 => q6 a1 a2 (hq_min a3 x4) (a4 + (1 : Int32)) s else some (a3, s)
def f_X12_farOf_L6 (n : Nat) (m : Nat) : Int32 → Int32 → Int32 → Int32 → hq_S → Option (Int32 × hq_S) := Nat.rec (fun _ _ _ _ _ => none) (fun _ q => f_X12_farOf_L6_B n q) m
theorem f_X12_farOf_L6_Brun {xs : List Int32} {n d g : Nat} {a1 : Int32} {a2 : Int32} {a3 : Int32} {a4 : Int32} {q6 : Int32 → Int32 → Int32 → Int32 → hq_S → Option (Int32 × hq_S)} {s : hq_S} {y : (Int32 × hq_S)} (hd : 1 ≤ d) (e6 : ∀ (a1 : Int32) (a2 : Int32) (a3 : Int32) (a4 : Int32) (s : hq_S), q6 a1 a2 a3 a4 s = some y → hq_R (mm_O xs) d mc_X12_farOf 6 [some (.ref 174), some (.int a1), some (.int a2), some (.int a3), some (.int a4)] [] s g (some (.int y.1)) y.2) (h : f_X12_farOf_L6_B n q6 a1 a2 a3 a4 s = some y) : hq_R (mm_O xs) d mc_X12_farOf 6 [some (.ref 174), some (.int a1), some (.int a2), some (.int a3), some (.int a4)] [] s g (some (.int y.1)) y.2 := by
  unfold f_X12_farOf_L6_B at h
  refine hq_p 2 9 [some (.ref 174), some (.int a1), some (.int a2), some (.int a3), some (.int a4)] [.ref 174, .int a4] (fun n h => rfl) ?_
  refine hq_gf (x := .ref 176) rfl rfl rfl rfl rfl ?_
  refine hq_p 1 13 [some (.ref 174), some (.int a1), some (.int a2), some (.int a3), some (.int a4)] [.int (2 : Int32), .ref 176, .int a4] (fun n h => rfl) ?_
  obtain ⟨x1, hx1, h⟩ := hq_bind h
  refine hq_iaload rfl rfl rfl hx1 ?_
  by_cases c2 : a4 < x1
  · rw [if_pos c2] at h
    refine hq_icF rfl (hq_c_ge_F c2) ?_
    refine hq_p 2 19 [some (.ref 174), some (.int a1), some (.int a2), some (.int a3), some (.int a4)] [.ref 174, .int a3] (fun n h => rfl) ?_
    refine hq_gf (x := .ref 207) rfl rfl rfl rfl rfl ?_
    refine hq_p 2 25 [some (.ref 174), some (.int a1), some (.int a2), some (.int a3), some (.int a4)] [.ref 174, .int (10 : Int32), .ref 207, .int a3] (fun n h => rfl) ?_
    refine hq_gf (x := .ref 200) rfl rfl rfl rfl rfl ?_
    refine hq_p 5 34 [some (.ref 174), some (.int a1), some (.int a2), some (.int a3), some (.int a4)] [.int (((3 : Int32) * a1) + a4), .ref 200, .int (10 : Int32), .ref 207, .int a3] (fun n h => rfl) ?_
    obtain ⟨x3, hx3, h⟩ := hq_bind h
    refine hq_iaload rfl rfl List.length_replicate hx3 ?_
    refine hq_p 3 38 [some (.ref 174), some (.int a1), some (.int a2), some (.int a3), some (.int a4)] [.int (((10 : Int32) * x3) + a2), .ref 207, .int a3] (fun n h => rfl) ?_
    obtain ⟨x4, hx4, h⟩ := hq_bind h
    refine hq_iaload rfl rfl List.length_replicate hx4 ?_
    refine hq_math rfl rfl rfl (Nat.le_trans (by decide) hd) ?_
    refine hq_p 3 6 [some (.ref 174), some (.int a1), some (.int a2), some (.int (hq_min a3 x4)), some (.int (a4 + (1 : Int32)))] [] (fun n h => rfl) ?_
    exact e6 a1 a2 (hq_min a3 x4) (a4 + (1 : Int32)) s h
  · rw [if_neg c2] at h
    refine hq_icT rfl (hq_c_ge_T c2) ?_
    refine hq_p 1 50 [some (.ref 174), some (.int a1), some (.int a2), some (.int a3), some (.int a4)] [.int a3] (fun n h => rfl) ?_
    have h := Option.some.inj h
    subst h
    exact ⟨1, rfl⟩
theorem f_X12_farOf_L6_run {xs : List Int32} {n m d g : Nat} {a1 : Int32} {a2 : Int32} {a3 : Int32} {a4 : Int32} {s : hq_S} {y : (Int32 × hq_S)} (hd : 1 ≤ d) (h : f_X12_farOf_L6 n m a1 a2 a3 a4 s = some y) : hq_R (mm_O xs) d mc_X12_farOf 6 [some (.ref 174), some (.int a1), some (.int a2), some (.int a3), some (.int a4)] [] s g (some (.int y.1)) y.2 := by
  induction m generalizing a1 a2 a3 a4 s with
  | zero => cases h
  | succ m ih => exact f_X12_farOf_L6_Brun (n := n) hd (fun a1 a2 a3 a4 s h => ih h) h
def f_X12_farOf (n : Nat) (a1 : Int32) (a2 : Int32) (s : hq_S) : Option (Int32 × hq_S) := f_X12_farOf_L6 n n a1 a2 (99 : Int32) (0 : Int32) s
theorem f_X12_farOf_run {xs : List Int32} {n d g : Nat} {a1 : Int32} {a2 : Int32} {s : hq_S} {y : (Int32 × hq_S)} (hd : 1 ≤ d) (h : f_X12_farOf n a1 a2 s = some y) : hq_R (mm_O xs) d mc_X12_farOf 0 [some (.ref 174), some (.int a1), some (.int a2), none, none] [] s g (some (.int y.1)) y.2 := by
  unfold f_X12_farOf at h
  refine hq_bip (99 : Int32) rfl (by decide) ?_
  refine hq_p 3 6 [some (.ref 174), some (.int a1), some (.int a2), some (.int (99 : Int32)), some (.int (0 : Int32))] [] (fun n h => rfl) ?_
  exact f_X12_farOf_L6_run hd h
def f_X12_guardsAt_L5_B (n : Nat) (q5 : Int32 → Int32 → Int32 → Int32 → hq_S → Option (Int32 × hq_S)) (a1 : Int32) (a2 : Int32) (a3 : Int32) (a4 : Int32) (s : hq_S) : Option (Int32 × hq_S) := (hq_ld s 176 14 (2 : Int32)).bind fun x1 => if a4 < x1 then (hq_ld s 200 69 (((3 : Int32) * a1) + a4)).bind fun x3 => (if x3 = a2 then some ((1 : Int32) <<< (a4 &&& 31)) else some (0 : Int32)).bind fun z4 => q5 a1 a2 (a3 ||| z4) (a4 + (1 : Int32)) s else some (a3, s)
def f_X12_guardsAt_L5 (n : Nat) (m : Nat) : Int32 → Int32 → Int32 → Int32 → hq_S → Option (Int32 × hq_S) := Nat.rec (fun _ _ _ _ _ => none) (fun _ q => f_X12_guardsAt_L5_B n q) m
theorem f_X12_guardsAt_L5_Brun {xs : List Int32} {n d g : Nat} {a1 : Int32} {a2 : Int32} {a3 : Int32} {a4 : Int32} {q5 : Int32 → Int32 → Int32 → Int32 → hq_S → Option (Int32 × hq_S)} {s : hq_S} {y : (Int32 × hq_S)} (hd : 0 ≤ d) (e5 : ∀ (a1 : Int32) (a2 : Int32) (a3 : Int32) (a4 : Int32) (s : hq_S), q5 a1 a2 a3 a4 s = some y → hq_R (mm_O xs) d mc_X12_guardsAt 5 [some (.ref 174), some (.int a1), some (.int a2), some (.int a3), some (.int a4)] [] s g (some (.int y.1)) y.2) (h : f_X12_guardsAt_L5_B n q5 a1 a2 a3 a4 s = some y) : hq_R (mm_O xs) d mc_X12_guardsAt 5 [some (.ref 174), some (.int a1), some (.int a2), some (.int a3), some (.int a4)] [] s g (some (.int y.1)) y.2 := by
  unfold f_X12_guardsAt_L5_B at h
  refine hq_p 2 8 [some (.ref 174), some (.int a1), some (.int a2), some (.int a3), some (.int a4)] [.ref 174, .int a4] (fun n h => rfl) ?_
  refine hq_gf (x := .ref 176) rfl rfl rfl rfl rfl ?_
  refine hq_p 1 12 [some (.ref 174), some (.int a1), some (.int a2), some (.int a3), some (.int a4)] [.int (2 : Int32), .ref 176, .int a4] (fun n h => rfl) ?_
  obtain ⟨x1, hx1, h⟩ := hq_bind h
  refine hq_iaload rfl rfl rfl hx1 ?_
  by_cases c2 : a4 < x1
  · rw [if_pos c2] at h
    refine hq_icF rfl (hq_c_ge_F c2) ?_
    refine hq_p 2 18 [some (.ref 174), some (.int a1), some (.int a2), some (.int a3), some (.int a4)] [.ref 174, .int a3] (fun n h => rfl) ?_
    refine hq_gf (x := .ref 200) rfl rfl rfl rfl rfl ?_
    refine hq_p 5 27 [some (.ref 174), some (.int a1), some (.int a2), some (.int a3), some (.int a4)] [.int (((3 : Int32) * a1) + a4), .ref 200, .int a3] (fun n h => rfl) ?_
    obtain ⟨x3, hx3, h⟩ := hq_bind h
    refine hq_iaload rfl rfl List.length_replicate hx3 ?_
    refine hq_p 1 29 [some (.ref 174), some (.int a1), some (.int a2), some (.int a3), some (.int a4)] [.int a2, .int x3, .int a3] (fun n h => rfl) ?_
    obtain ⟨z4, hz4, h⟩ := hq_bind h
    suffices hT : hq_R (mm_O xs) d mc_X12_guardsAt 40 [some (.ref 174), some (.int a1), some (.int a2), some (.int a3), some (.int a4)] [.int z4, .int a3] s g (some (.int y.1)) y.2 from by
      clear h
      have h := hz4
      by_cases c5 : x3 = a2
      · rw [if_pos c5] at h
        refine hq_icF rfl (hq_c_ne_F c5) ?_
        refine hq_p 4 40 [some (.ref 174), some (.int a1), some (.int a2), some (.int a3), some (.int a4)] [.int ((1 : Int32) <<< (a4 &&& 31)), .int a3] (fun n h => rfl) ?_
        cases h
        exact hT
      · rw [if_neg c5] at h
        refine hq_icT rfl (hq_c_ne_T c5) ?_
        refine hq_p 1 40 [some (.ref 174), some (.int a1), some (.int a2), some (.int a3), some (.int a4)] [.int (0 : Int32), .int a3] (fun n h => rfl) ?_
        cases h
        exact hT
    refine hq_p 4 5 [some (.ref 174), some (.int a1), some (.int a2), some (.int (a3 ||| z4)), some (.int (a4 + (1 : Int32)))] [] (fun n h => rfl) ?_
    exact e5 a1 a2 (a3 ||| z4) (a4 + (1 : Int32)) s h
  · rw [if_neg c2] at h
    refine hq_icT rfl (hq_c_ge_T c2) ?_
    refine hq_p 1 49 [some (.ref 174), some (.int a1), some (.int a2), some (.int a3), some (.int a4)] [.int a3] (fun n h => rfl) ?_
    have h := Option.some.inj h
    subst h
    exact ⟨1, rfl⟩
theorem f_X12_guardsAt_L5_run {xs : List Int32} {n m d g : Nat} {a1 : Int32} {a2 : Int32} {a3 : Int32} {a4 : Int32} {s : hq_S} {y : (Int32 × hq_S)} (hd : 0 ≤ d) (h : f_X12_guardsAt_L5 n m a1 a2 a3 a4 s = some y) : hq_R (mm_O xs) d mc_X12_guardsAt 5 [some (.ref 174), some (.int a1), some (.int a2), some (.int a3), some (.int a4)] [] s g (some (.int y.1)) y.2 := by
  induction m generalizing a1 a2 a3 a4 s with
  | zero => cases h
  | succ m ih => exact f_X12_guardsAt_L5_Brun (n := n) hd (fun a1 a2 a3 a4 s h => ih h) h
def f_X12_guardsAt (n : Nat) (a1 : Int32) (a2 : Int32) (s : hq_S) : Option (Int32 × hq_S) := f_X12_guardsAt_L5 n n a1 a2 (0 : Int32) (0 : Int32) s
theorem f_X12_guardsAt_run {xs : List Int32} {n d g : Nat} {a1 : Int32} {a2 : Int32} {s : hq_S} {y : (Int32 × hq_S)} (hd : 0 ≤ d) (h : f_X12_guardsAt n a1 a2 s = some y) : hq_R (mm_O xs) d mc_X12_guardsAt 0 [some (.ref 174), some (.int a1), some (.int a2), none, none] [] s g (some (.int y.1)) y.2 := by
  unfold f_X12_guardsAt at h
  refine hq_p 4 5 [some (.ref 174), some (.int a1), some (.int a2), some (.int (0 : Int32)), some (.int (0 : Int32))] [] (fun n h => rfl) ?_
  exact f_X12_guardsAt_L5_run hd h
def f_X12_isFree (n : Nat) (a1 : Int32) (a2 : Int32) (s : hq_S) : Option (Int32 × hq_S) := (hq_ld s 205 92 (((4 : Int32) * a1) + a2)).bind fun x1 => if x1 = (-1 : Int32) then some ((1 : Int32), s) else some ((0 : Int32), s)
theorem f_X12_isFree_run {xs : List Int32} {n d g : Nat} {a1 : Int32} {a2 : Int32} {s : hq_S} {y : (Int32 × hq_S)} (hd : 0 ≤ d) (h : f_X12_isFree n a1 a2 s = some y) : hq_R (mm_O xs) d mc_X12_isFree 0 [some (.ref 174), some (.int a1), some (.int a2)] [] s g (some (.int y.1)) y.2 := by
  unfold f_X12_isFree at h
  refine hq_p 1 1 [some (.ref 174), some (.int a1), some (.int a2)] [.ref 174] (fun n h => rfl) ?_
  refine hq_gf (x := .ref 205) rfl rfl rfl rfl rfl ?_
  refine hq_p 5 9 [some (.ref 174), some (.int a1), some (.int a2)] [.int (((4 : Int32) * a1) + a2), .ref 205] (fun n h => rfl) ?_
  obtain ⟨x1, hx1, h⟩ := hq_bind h
  refine hq_iaload rfl rfl rfl hx1 ?_
  refine hq_icn (-1 : Int32) rfl (by decide) ?_
  by_cases c2 : x1 = (-1 : Int32)
  · rw [if_pos c2] at h
    refine hq_icF rfl (hq_c_ne_F c2) ?_
    refine hq_p 2 19 [some (.ref 174), some (.int a1), some (.int a2)] [.int (1 : Int32)] (fun n h => rfl) ?_
    have h := Option.some.inj h
    subst h
    exact ⟨1, rfl⟩
  · rw [if_neg c2] at h
    refine hq_icT rfl (hq_c_ne_T c2) ?_
    refine hq_p 1 19 [some (.ref 174), some (.int a1), some (.int a2)] [.int (0 : Int32)] (fun n h => rfl) ?_
    have h := Option.some.inj h
    subst h
    exact ⟨1, rfl⟩
def f_X12_boldOf (n : Nat) (a1 : Int32) (s : hq_S) : Option (Int32 × hq_S) := if a1 = (hq_gi s 174 53) then some ((hq_gi s 174 54), s) else (hq_ld s 189 8 a1).bind fun x2 => some (x2, s)
theorem f_X12_boldOf_run {xs : List Int32} {n d g : Nat} {a1 : Int32} {s : hq_S} {y : (Int32 × hq_S)} (hd : 0 ≤ d) (h : f_X12_boldOf n a1 s = some y) : hq_R (mm_O xs) d mc_X12_boldOf 0 [some (.ref 174), some (.int a1)] [] s g (some (.int y.1)) y.2 := by
  unfold f_X12_boldOf at h
  refine hq_p 2 2 [some (.ref 174), some (.int a1)] [.ref 174, .int a1] (fun n h => rfl) ?_
  refine hq_gf (x := .int (hq_gi s 174 53)) rfl rfl rfl rfl rfl ?_
  by_cases c1 : a1 = (hq_gi s 174 53)
  · rw [if_pos c1] at h
    refine hq_icF rfl (hq_c_ne_F c1) ?_
    refine hq_p 1 9 [some (.ref 174), some (.int a1)] [.ref 174] (fun n h => rfl) ?_
    refine hq_gf (x := .int (hq_gi s 174 54)) rfl rfl rfl rfl rfl ?_
    refine hq_p 1 21 [some (.ref 174), some (.int a1)] [.int (hq_gi s 174 54)] (fun n h => rfl) ?_
    have h := Option.some.inj h
    subst h
    exact ⟨1, rfl⟩
  · rw [if_neg c1] at h
    refine hq_icT rfl (hq_c_ne_T c1) ?_
    refine hq_p 1 16 [some (.ref 174), some (.int a1)] [.ref 174] (fun n h => rfl) ?_
    refine hq_gf (x := .ref 189) rfl rfl rfl rfl rfl ?_
    refine hq_p 1 20 [some (.ref 174), some (.int a1)] [.int a1, .ref 189] (fun n h => rfl) ?_
    obtain ⟨x2, hx2, h⟩ := hq_bind h
    refine hq_iaload rfl rfl List.length_replicate hx2 ?_
    have h := Option.some.inj h
    subst h
    exact ⟨1, rfl⟩
def f_X12_calls (n : Nat) (a1 : Int32) (a2 : Int32) (a3 : Int32) (s : hq_S) : Option hq_S := (hq_ld s 178 20 a3).bind fun x1 => (hq_stj s 194 7 (0 : Int32) x1.toInt64).bind fun s2 => (f_X12_farOf n a1 a3 s2).bind fun y3 => (hq_stj y3.2 194 7 (1 : Int32) y3.1.toInt64).bind fun s4 => (hq_ld s4 199 230 (((10 : Int32) * a1) + a3)).bind fun x5 => (hq_stj s4 194 7 (2 : Int32) x5.toInt64).bind fun s6 => (f_X12_boldOf n a2 s6).bind fun y7 => (hq_stj y7.2 194 7 (3 : Int32) y7.1.toInt64).bind fun s8 => (hq_ld s8 204 92 (((4 : Int32) * a1) + a2)).bind fun x9 => (hq_stj s8 194 7 (4 : Int32) x9.toInt64).bind fun s10 => (f_X12_guardsAt n a1 a3 s10).bind fun y11 => (f_X12_bitsOf n y11.1 y11.2).bind fun y12 => (hq_stj y12.2 194 7 (5 : Int32) y12.1.toInt64).bind fun s13 => (hq_ld s13 196 23 a1).bind fun x14 => (hq_stj s13 194 7 (6 : Int32) x14.toInt64).bind fun s15 => some s15
theorem f_X12_calls_run {xs : List Int32} {n d g : Nat} {a1 : Int32} {a2 : Int32} {a3 : Int32} {s : hq_S} {y : hq_S} (hd : 2 ≤ d) (h : f_X12_calls n a1 a2 a3 s = some y) : hq_R (mm_O xs) d mc_X12_calls 0 [some (.ref 174), some (.int a1), some (.int a2), some (.int a3)] [] s g none y := by
  unfold f_X12_calls at h
  refine hq_p 1 1 [some (.ref 174), some (.int a1), some (.int a2), some (.int a3)] [.ref 174] (fun n h => rfl) ?_
  refine hq_gf (x := .ref 194) rfl rfl rfl rfl rfl ?_
  refine hq_p 2 6 [some (.ref 174), some (.int a1), some (.int a2), some (.int a3)] [.ref 174, .int (0 : Int32), .ref 194] (fun n h => rfl) ?_
  refine hq_gf (x := .ref 178) rfl rfl rfl rfl rfl ?_
  refine hq_p 1 10 [some (.ref 174), some (.int a1), some (.int a2), some (.int a3)] [.int a3, .ref 178, .int (0 : Int32), .ref 194] (fun n h => rfl) ?_
  obtain ⟨x1, hx1, h⟩ := hq_bind h
  refine hq_iaload rfl rfl List.length_replicate hx1 ?_
  refine hq_p 1 12 [some (.ref 174), some (.int a1), some (.int a2), some (.int a3)] [.long x1.toInt64, .int (0 : Int32), .ref 194] (fun n h => rfl) ?_
  obtain ⟨s2, hs2, h⟩ := hq_bind h
  refine hq_lastore rfl rfl List.length_replicate hs2 ?_
  refine hq_p 1 14 [some (.ref 174), some (.int a1), some (.int a2), some (.int a3)] [.ref 174] (fun n h => rfl) ?_
  refine hq_gf (x := .ref 194) rfl rfl rfl rfl rfl ?_
  refine hq_p 4 21 [some (.ref 174), some (.int a1), some (.int a2), some (.int a3)] [.int a3, .int a1, .ref 174, .int (1 : Int32), .ref 194] (fun n h => rfl) ?_
  obtain ⟨y3, hy3, h⟩ := hq_bind h
  refine hq_inv rfl rfl (Nat.le_trans (by decide) hd) rfl rfl (hq_rcv rfl rfl) (f_X12_farOf_run (Nat.le_sub_of_add_le (Nat.le_trans (by decide) hd)) hy3) rfl ?_
  refine hq_p 1 25 [some (.ref 174), some (.int a1), some (.int a2), some (.int a3)] [.long y3.1.toInt64, .int (1 : Int32), .ref 194] (fun n h => rfl) ?_
  obtain ⟨s4, hs4, h⟩ := hq_bind h
  refine hq_lastore rfl rfl List.length_replicate hs4 ?_
  refine hq_p 1 27 [some (.ref 174), some (.int a1), some (.int a2), some (.int a3)] [.ref 174] (fun n h => rfl) ?_
  refine hq_gf (x := .ref 194) rfl rfl rfl rfl rfl ?_
  refine hq_p 2 32 [some (.ref 174), some (.int a1), some (.int a2), some (.int a3)] [.ref 174, .int (2 : Int32), .ref 194] (fun n h => rfl) ?_
  refine hq_gf (x := .ref 199) rfl rfl rfl rfl rfl ?_
  refine hq_p 5 41 [some (.ref 174), some (.int a1), some (.int a2), some (.int a3)] [.int (((10 : Int32) * a1) + a3), .ref 199, .int (2 : Int32), .ref 194] (fun n h => rfl) ?_
  obtain ⟨x5, hx5, h⟩ := hq_bind h
  refine hq_iaload rfl rfl List.length_replicate hx5 ?_
  refine hq_p 1 43 [some (.ref 174), some (.int a1), some (.int a2), some (.int a3)] [.long x5.toInt64, .int (2 : Int32), .ref 194] (fun n h => rfl) ?_
  obtain ⟨s6, hs6, h⟩ := hq_bind h
  refine hq_lastore rfl rfl List.length_replicate hs6 ?_
  refine hq_p 1 45 [some (.ref 174), some (.int a1), some (.int a2), some (.int a3)] [.ref 174] (fun n h => rfl) ?_
  refine hq_gf (x := .ref 194) rfl rfl rfl rfl rfl ?_
  refine hq_p 3 51 [some (.ref 174), some (.int a1), some (.int a2), some (.int a3)] [.int a2, .ref 174, .int (3 : Int32), .ref 194] (fun n h => rfl) ?_
  obtain ⟨y7, hy7, h⟩ := hq_bind h
  refine hq_inv rfl rfl (Nat.le_trans (by decide) hd) rfl rfl (hq_rcv rfl rfl) (f_X12_boldOf_run (Nat.le_sub_of_add_le (Nat.le_trans (by decide) hd)) hy7) rfl ?_
  refine hq_p 1 55 [some (.ref 174), some (.int a1), some (.int a2), some (.int a3)] [.long y7.1.toInt64, .int (3 : Int32), .ref 194] (fun n h => rfl) ?_
  obtain ⟨s8, hs8, h⟩ := hq_bind h
  refine hq_lastore rfl rfl List.length_replicate hs8 ?_
  refine hq_p 1 57 [some (.ref 174), some (.int a1), some (.int a2), some (.int a3)] [.ref 174] (fun n h => rfl) ?_
  refine hq_gf (x := .ref 194) rfl rfl rfl rfl rfl ?_
  refine hq_p 2 62 [some (.ref 174), some (.int a1), some (.int a2), some (.int a3)] [.ref 174, .int (4 : Int32), .ref 194] (fun n h => rfl) ?_
  refine hq_gf (x := .ref 204) rfl rfl rfl rfl rfl ?_
  refine hq_p 5 70 [some (.ref 174), some (.int a1), some (.int a2), some (.int a3)] [.int (((4 : Int32) * a1) + a2), .ref 204, .int (4 : Int32), .ref 194] (fun n h => rfl) ?_
  obtain ⟨x9, hx9, h⟩ := hq_bind h
  refine hq_iaload rfl rfl List.length_replicate hx9 ?_
  refine hq_p 1 72 [some (.ref 174), some (.int a1), some (.int a2), some (.int a3)] [.long x9.toInt64, .int (4 : Int32), .ref 194] (fun n h => rfl) ?_
  obtain ⟨s10, hs10, h⟩ := hq_bind h
  refine hq_lastore rfl rfl List.length_replicate hs10 ?_
  refine hq_p 1 74 [some (.ref 174), some (.int a1), some (.int a2), some (.int a3)] [.ref 174] (fun n h => rfl) ?_
  refine hq_gf (x := .ref 194) rfl rfl rfl rfl rfl ?_
  refine hq_p 4 81 [some (.ref 174), some (.int a1), some (.int a2), some (.int a3)] [.int a3, .int a1, .ref 174, .int (5 : Int32), .ref 194] (fun n h => rfl) ?_
  obtain ⟨y11, hy11, h⟩ := hq_bind h
  refine hq_inv rfl rfl (Nat.le_trans (by decide) hd) rfl rfl (hq_rcv rfl rfl) (f_X12_guardsAt_run (Nat.le_sub_of_add_le (Nat.le_trans (by decide) hd)) hy11) rfl ?_
  obtain ⟨y12, hy12, h⟩ := hq_bind h
  refine hq_ist rfl rfl rfl (Nat.le_trans (by decide) hd) rfl (f_X12_bitsOf_run (Nat.le_sub_of_add_le (Nat.le_trans (by decide) hd)) hy12) rfl ?_
  refine hq_p 1 88 [some (.ref 174), some (.int a1), some (.int a2), some (.int a3)] [.long y12.1.toInt64, .int (5 : Int32), .ref 194] (fun n h => rfl) ?_
  obtain ⟨s13, hs13, h⟩ := hq_bind h
  refine hq_lastore rfl rfl List.length_replicate hs13 ?_
  refine hq_p 1 90 [some (.ref 174), some (.int a1), some (.int a2), some (.int a3)] [.ref 174] (fun n h => rfl) ?_
  refine hq_gf (x := .ref 194) rfl rfl rfl rfl rfl ?_
  refine hq_p 2 96 [some (.ref 174), some (.int a1), some (.int a2), some (.int a3)] [.ref 174, .int (6 : Int32), .ref 194] (fun n h => rfl) ?_
  refine hq_gf (x := .ref 196) rfl rfl rfl rfl rfl ?_
  refine hq_p 1 100 [some (.ref 174), some (.int a1), some (.int a2), some (.int a3)] [.int a1, .ref 196, .int (6 : Int32), .ref 194] (fun n h => rfl) ?_
  obtain ⟨x14, hx14, h⟩ := hq_bind h
  refine hq_iaload rfl rfl List.length_replicate hx14 ?_
  refine hq_p 1 102 [some (.ref 174), some (.int a1), some (.int a2), some (.int a3)] [.long x14.toInt64, .int (6 : Int32), .ref 194] (fun n h => rfl) ?_
  obtain ⟨s15, hs15, h⟩ := hq_bind h
  refine hq_lastore rfl rfl List.length_replicate hs15 ?_
  have h := Option.some.inj h
  subst h
  exact ⟨1, rfl⟩
def f_X12_dreadOf_J23 (n : Nat) (a1 : Int32) (a2 : Int32) (a3 : Int32) (s : hq_S) : Option (Int64 × hq_S) := (hq_ld s 178 20 a3).bind fun x4 => (f_X12_farOf n a1 a3 s).bind fun y5 => some ((x4.toInt64 - ((2 : Int64) * y5.1.toInt64)), y5.2)
theorem f_X12_dreadOf_J23_run {xs : List Int32} {n d g : Nat} {a1 : Int32} {a2 : Int32} {a3 : Int32} {s : hq_S} {y : (Int64 × hq_S)} (hd : 3 ≤ d) (h : f_X12_dreadOf_J23 n a1 a2 a3 s = some y) : hq_R (mm_O xs) d mc_X12_dreadOf 23 [some (.ref 174), some (.int a1), some (.int a2), some (.int a3)] [] s g (some (.long y.1)) y.2 := by
  unfold f_X12_dreadOf_J23 at h
  refine hq_p 1 24 [some (.ref 174), some (.int a1), some (.int a2), some (.int a3)] [.ref 174] (fun n h => rfl) ?_
  refine hq_gf (x := .ref 178) rfl rfl rfl rfl rfl ?_
  refine hq_p 1 28 [some (.ref 174), some (.int a1), some (.int a2), some (.int a3)] [.int a3, .ref 178] (fun n h => rfl) ?_
  obtain ⟨x4, hx4, h⟩ := hq_bind h
  refine hq_iaload rfl rfl List.length_replicate hx4 ?_
  refine hq_p 1 30 [some (.ref 174), some (.int a1), some (.int a2), some (.int a3)] [.long x4.toInt64] (fun n h => rfl) ?_
  refine hq_lc2 (2 : Int64) rfl (by decide) ?_
  refine hq_p 3 36 [some (.ref 174), some (.int a1), some (.int a2), some (.int a3)] [.int a3, .int a1, .ref 174, .long (2 : Int64), .long x4.toInt64] (fun n h => rfl) ?_
  obtain ⟨y5, hy5, h⟩ := hq_bind h
  refine hq_inv rfl rfl (Nat.le_trans (by decide) hd) rfl rfl (hq_rcv rfl rfl) (f_X12_farOf_run (Nat.le_sub_of_add_le (Nat.le_trans (by decide) hd)) hy5) rfl ?_
  refine hq_p 3 42 [some (.ref 174), some (.int a1), some (.int a2), some (.int a3)] [.long (x4.toInt64 - ((2 : Int64) * y5.1.toInt64))] (fun n h => rfl) ?_
  have h := Option.some.inj h
  subst h
  exact ⟨1, rfl⟩
def f_X12_dreadOf (n : Nat) (a1 : Int32) (a2 : Int32) (a3 : Int32) (s : hq_S) : Option (Int64 × hq_S) := (f_X12_calls n a1 a2 a3 s).bind fun s1 => (f_X12_hasLaw n (0 : Int32) s1).bind fun y2 => if y2.1 = 0 then f_X12_dreadOf_J23 n a1 a2 a3 y2.2 else (f_X12_goes n (0 : Int32) y2.2).bind fun y6 => if y6.1 = 0 then f_X12_dreadOf_J23 n a1 a2 a3 y6.2 else (hq_ldj y6.2 195 64 (0 : Int32)).bind fun x8 => some (x8, y6.2)
theorem f_X12_dreadOf_run {xs : List Int32} {n d g : Nat} {a1 : Int32} {a2 : Int32} {a3 : Int32} {s : hq_S} {y : (Int64 × hq_S)} (hd : 3 ≤ d) (h : f_X12_dreadOf n a1 a2 a3 s = some y) : hq_R (mm_O xs) d mc_X12_dreadOf 0 [some (.ref 174), some (.int a1), some (.int a2), some (.int a3)] [] s g (some (.long y.1)) y.2 := by
  unfold f_X12_dreadOf at h
  refine hq_p 4 4 [some (.ref 174), some (.int a1), some (.int a2), some (.int a3)] [.int a3, .int a2, .int a1, .ref 174] (fun n h => rfl) ?_
  obtain ⟨s1, hs1, h⟩ := hq_bind h
  refine hq_inv rfl rfl (Nat.le_trans (by decide) hd) rfl rfl (hq_rcv rfl rfl) (f_X12_calls_run (Nat.le_sub_of_add_le (Nat.le_trans (by decide) hd)) hs1) rfl ?_
  refine hq_p 2 9 [some (.ref 174), some (.int a1), some (.int a2), some (.int a3)] [.int (0 : Int32), .ref 174] (fun n h => rfl) ?_
  obtain ⟨y2, hy2, h⟩ := hq_bind h
  refine hq_inv rfl rfl (Nat.le_trans (by decide) hd) rfl rfl (hq_rcv rfl rfl) (f_X12_hasLaw_run (Nat.le_sub_of_add_le (Nat.le_trans (by decide) hd)) hy2) rfl ?_
  by_cases c3 : y2.1 = 0
  · rw [if_pos c3] at h
    refine hq_izT rfl (hq_c_eq_T c3) ?_
    exact f_X12_dreadOf_J23_run hd h
  · rw [if_neg c3] at h
    refine hq_izF rfl (hq_c_eq_F c3) ?_
    refine hq_p 2 17 [some (.ref 174), some (.int a1), some (.int a2), some (.int a3)] [.int (0 : Int32), .ref 174] (fun n h => rfl) ?_
    obtain ⟨y6, hy6, h⟩ := hq_bind h
    refine hq_inv rfl rfl (Nat.le_trans (by decide) hd) rfl rfl (hq_rcv rfl rfl) (f_X12_goes_run (Nat.le_sub_of_add_le (Nat.le_trans (by decide) hd)) hy6) rfl ?_
    by_cases c7 : y6.1 = 0
    · rw [if_pos c7] at h
      refine hq_izF rfl (hq_c_ne_F c7) ?_
      exact f_X12_dreadOf_J23_run hd h
    · rw [if_neg c7] at h
      refine hq_izT rfl (hq_c_ne_T c7) ?_
      refine hq_p 1 44 [some (.ref 174), some (.int a1), some (.int a2), some (.int a3)] [.ref 174] (fun n h => rfl) ?_
      refine hq_gf (x := .ref 195) rfl rfl rfl rfl rfl ?_
      refine hq_p 1 48 [some (.ref 174), some (.int a1), some (.int a2), some (.int a3)] [.int (0 : Int32), .ref 195] (fun n h => rfl) ?_
      obtain ⟨x8, hx8, h⟩ := hq_bind h
      refine hq_laload rfl rfl List.length_replicate hx8 ?_
      have h := Option.some.inj h
      subst h
      exact ⟨1, rfl⟩
def f_X12_doesStir_J53 (n : Nat) (a1 : Int32) (a2 : Int32) (s : hq_S) : Option (Int32 × hq_S) := some ((1 : Int32), s)
theorem f_X12_doesStir_J53_run {xs : List Int32} {n d g : Nat} {a1 : Int32} {a2 : Int32} {s : hq_S} {y : (Int32 × hq_S)} (hd : 3 ≤ d) (h : f_X12_doesStir_J53 n a1 a2 s = some y) : hq_R (mm_O xs) d mc_X12_doesStir 53 [some (.ref 174), some (.int a1), some (.int a2)] [] s g (some (.int y.1)) y.2 := by
  unfold f_X12_doesStir_J53 at h
  refine hq_p 2 58 [some (.ref 174), some (.int a1), some (.int a2)] [.int (1 : Int32)] (fun n h => rfl) ?_
  have h := Option.some.inj h
  subst h
  exact ⟨1, rfl⟩
def f_X12_doesStir (n : Nat) (a1 : Int32) (a2 : Int32) (s : hq_S) : Option (Int32 × hq_S) := if (hq_gi s 174 49) = (3 : Int32) then some ((0 : Int32), s) else (hq_ld s 203 92 (((4 : Int32) * a1) + a2)).bind fun x2 => (f_X12_calls n a1 a2 x2 s).bind fun s3 => (f_X12_hasLaw n (2 : Int32) s3).bind fun y4 => if y4.1 = 0 then f_X12_doesStir_J53 n a1 a2 y4.2 else (f_X12_goes n (2 : Int32) y4.2).bind fun y6 => if y6.1 = 0 then f_X12_doesStir_J53 n a1 a2 y6.2 else (hq_ldj y6.2 195 64 (0 : Int32)).bind fun x8 => if (lg_cmp x8 (0 : Int64)) = 0 then some ((0 : Int32), y6.2) else f_X12_doesStir_J53 n a1 a2 y6.2
theorem f_X12_doesStir_run {xs : List Int32} {n d g : Nat} {a1 : Int32} {a2 : Int32} {s : hq_S} {y : (Int32 × hq_S)} (hd : 3 ≤ d) (h : f_X12_doesStir n a1 a2 s = some y) : hq_R (mm_O xs) d mc_X12_doesStir 0 [some (.ref 174), some (.int a1), some (.int a2)] [] s g (some (.int y.1)) y.2 := by
  unfold f_X12_doesStir at h
  refine hq_p 1 1 [some (.ref 174), some (.int a1), some (.int a2)] [.ref 174] (fun n h => rfl) ?_
  refine hq_gf (x := .int (hq_gi s 174 49)) rfl rfl rfl rfl rfl ?_
  refine hq_p 1 5 [some (.ref 174), some (.int a1), some (.int a2)] [.int (3 : Int32), .int (hq_gi s 174 49)] (fun n h => rfl) ?_
  by_cases c1 : (hq_gi s 174 49) = (3 : Int32)
  · rw [if_pos c1] at h
    refine hq_icF rfl (hq_c_ne_F c1) ?_
    refine hq_p 1 9 [some (.ref 174), some (.int a1), some (.int a2)] [.int (0 : Int32)] (fun n h => rfl) ?_
    have h := Option.some.inj h
    subst h
    exact ⟨1, rfl⟩
  · rw [if_neg c1] at h
    refine hq_icT rfl (hq_c_ne_T c1) ?_
    refine hq_p 4 14 [some (.ref 174), some (.int a1), some (.int a2)] [.ref 174, .int a2, .int a1, .ref 174] (fun n h => rfl) ?_
    refine hq_gf (x := .ref 203) rfl rfl rfl rfl rfl ?_
    refine hq_p 5 22 [some (.ref 174), some (.int a1), some (.int a2)] [.int (((4 : Int32) * a1) + a2), .ref 203, .int a2, .int a1, .ref 174] (fun n h => rfl) ?_
    obtain ⟨x2, hx2, h⟩ := hq_bind h
    refine hq_iaload rfl rfl List.length_replicate hx2 ?_
    obtain ⟨s3, hs3, h⟩ := hq_bind h
    refine hq_inv rfl rfl (Nat.le_trans (by decide) hd) rfl rfl (hq_rcv rfl rfl) (f_X12_calls_run (Nat.le_sub_of_add_le (Nat.le_trans (by decide) hd)) hs3) rfl ?_
    refine hq_p 2 28 [some (.ref 174), some (.int a1), some (.int a2)] [.int (2 : Int32), .ref 174] (fun n h => rfl) ?_
    obtain ⟨y4, hy4, h⟩ := hq_bind h
    refine hq_inv rfl rfl (Nat.le_trans (by decide) hd) rfl rfl (hq_rcv rfl rfl) (f_X12_hasLaw_run (Nat.le_sub_of_add_le (Nat.le_trans (by decide) hd)) hy4) rfl ?_
    by_cases c5 : y4.1 = 0
    · rw [if_pos c5] at h
      refine hq_izT rfl (hq_c_eq_T c5) ?_
      exact f_X12_doesStir_J53_run hd h
    · rw [if_neg c5] at h
      refine hq_izF rfl (hq_c_eq_F c5) ?_
      refine hq_p 2 36 [some (.ref 174), some (.int a1), some (.int a2)] [.int (2 : Int32), .ref 174] (fun n h => rfl) ?_
      obtain ⟨y6, hy6, h⟩ := hq_bind h
      refine hq_inv rfl rfl (Nat.le_trans (by decide) hd) rfl rfl (hq_rcv rfl rfl) (f_X12_goes_run (Nat.le_sub_of_add_le (Nat.le_trans (by decide) hd)) hy6) rfl ?_
      by_cases c7 : y6.1 = 0
      · rw [if_pos c7] at h
        refine hq_izT rfl (hq_c_eq_T c7) ?_
        exact f_X12_doesStir_J53_run hd h
      · rw [if_neg c7] at h
        refine hq_izF rfl (hq_c_eq_F c7) ?_
        refine hq_p 1 43 [some (.ref 174), some (.int a1), some (.int a2)] [.ref 174] (fun n h => rfl) ?_
        refine hq_gf (x := .ref 195) rfl rfl rfl rfl rfl ?_
        refine hq_p 1 47 [some (.ref 174), some (.int a1), some (.int a2)] [.int (0 : Int32), .ref 195] (fun n h => rfl) ?_
        obtain ⟨x8, hx8, h⟩ := hq_bind h
        refine hq_laload rfl rfl List.length_replicate hx8 ?_
        refine hq_p 2 50 [some (.ref 174), some (.int a1), some (.int a2)] [.int (lg_cmp x8 (0 : Int64))] (fun n h => rfl) ?_
        by_cases c9 : (lg_cmp x8 (0 : Int64)) = 0
        · rw [if_pos c9] at h
          refine hq_izT rfl (hq_c_eq_T c9) ?_
          refine hq_p 1 58 [some (.ref 174), some (.int a1), some (.int a2)] [.int (0 : Int32)] (fun n h => rfl) ?_
          have h := Option.some.inj h
          subst h
          exact ⟨1, rfl⟩
        · rw [if_neg c9] at h
          refine hq_izF rfl (hq_c_eq_F c9) ?_
          exact f_X12_doesStir_J53_run hd h
def f_X12_nearer_J53 (n : Nat) (q2 : Int32 → Int32 → Int32 → hq_S → Option (Int32 × hq_S)) (a1 : Int32) (a2 : Int32) (a3 : Int32) (s : hq_S) : Option (Int32 × hq_S) := q2 a1 a2 (a3 + (1 : Int32)) s
theorem f_X12_nearer_J53_run {xs : List Int32} {n d g : Nat} {a1 : Int32} {a2 : Int32} {a3 : Int32} {q2 : Int32 → Int32 → Int32 → hq_S → Option (Int32 × hq_S)} {s : hq_S} {y : (Int32 × hq_S)} (hd : 0 ≤ d) (e2 : ∀ (a1 : Int32) (a2 : Int32) (a3 : Int32) (s : hq_S), q2 a1 a2 a3 s = some y → hq_R (mm_O xs) d mc_X12_nearer 2 [some (.ref 174), some (.int a1), some (.int a2), some (.int a3)] [] s g (some (.int y.1)) y.2) (h : f_X12_nearer_J53 n q2 a1 a2 a3 s = some y) : hq_R (mm_O xs) d mc_X12_nearer 53 [some (.ref 174), some (.int a1), some (.int a2), some (.int a3)] [] s g (some (.int y.1)) y.2 := by
  unfold f_X12_nearer_J53 at h
  refine hq_p 2 2 [some (.ref 174), some (.int a1), some (.int a2), some (.int (a3 + (1 : Int32)))] [] (fun n h => rfl) ?_
  exact e2 a1 a2 (a3 + (1 : Int32)) s h
def f_X12_nearer_L2_B (n : Nat) (q2 : Int32 → Int32 → Int32 → hq_S → Option (Int32 × hq_S)) (a1 : Int32) (a2 : Int32) (a3 : Int32) (s : hq_S) : Option (Int32 × hq_S) := (hq_ld s 176 14 (0 : Int32)).bind fun x1 => if a3 < x1 then (hq_ld s 206 10 a1).bind fun x3 => if ((x3 >>> (a3 &&& 31)) &&& (1 : Int32)) = (1 : Int32) then (hq_ld s 207 100 (((10 : Int32) * a3) + a2)).bind fun x5 => (hq_ld s 207 100 (((10 : Int32) * a1) + a2)).bind fun x6 => if x5 < x6 then some (a3, s) else f_X12_nearer_J53 n q2 a1 a2 a3 s else f_X12_nearer_J53 n q2 a1 a2 a3 s else some (a1, s)
def f_X12_nearer_L2 (n : Nat) (m : Nat) : Int32 → Int32 → Int32 → hq_S → Option (Int32 × hq_S) := Nat.rec (fun _ _ _ _ => none) (fun _ q => f_X12_nearer_L2_B n q) m
theorem f_X12_nearer_L2_Brun {xs : List Int32} {n d g : Nat} {a1 : Int32} {a2 : Int32} {a3 : Int32} {q2 : Int32 → Int32 → Int32 → hq_S → Option (Int32 × hq_S)} {s : hq_S} {y : (Int32 × hq_S)} (hd : 0 ≤ d) (e2 : ∀ (a1 : Int32) (a2 : Int32) (a3 : Int32) (s : hq_S), q2 a1 a2 a3 s = some y → hq_R (mm_O xs) d mc_X12_nearer 2 [some (.ref 174), some (.int a1), some (.int a2), some (.int a3)] [] s g (some (.int y.1)) y.2) (h : f_X12_nearer_L2_B n q2 a1 a2 a3 s = some y) : hq_R (mm_O xs) d mc_X12_nearer 2 [some (.ref 174), some (.int a1), some (.int a2), some (.int a3)] [] s g (some (.int y.1)) y.2 := by
  unfold f_X12_nearer_L2_B at h
  refine hq_p 2 4 [some (.ref 174), some (.int a1), some (.int a2), some (.int a3)] [.ref 174, .int a3] (fun n h => rfl) ?_
  refine hq_gf (x := .ref 176) rfl rfl rfl rfl rfl ?_
  refine hq_p 1 8 [some (.ref 174), some (.int a1), some (.int a2), some (.int a3)] [.int (0 : Int32), .ref 176, .int a3] (fun n h => rfl) ?_
  obtain ⟨x1, hx1, h⟩ := hq_bind h
  refine hq_iaload rfl rfl rfl hx1 ?_
  by_cases c2 : a3 < x1
  · rw [if_pos c2] at h
    refine hq_icF rfl (hq_c_ge_F c2) ?_
    refine hq_p 1 13 [some (.ref 174), some (.int a1), some (.int a2), some (.int a3)] [.ref 174] (fun n h => rfl) ?_
    refine hq_gf (x := .ref 206) rfl rfl rfl rfl rfl ?_
    refine hq_p 1 17 [some (.ref 174), some (.int a1), some (.int a2), some (.int a3)] [.int a1, .ref 206] (fun n h => rfl) ?_
    obtain ⟨x3, hx3, h⟩ := hq_bind h
    refine hq_iaload rfl rfl List.length_replicate hx3 ?_
    refine hq_p 5 23 [some (.ref 174), some (.int a1), some (.int a2), some (.int a3)] [.int (1 : Int32), .int ((x3 >>> (a3 &&& 31)) &&& (1 : Int32))] (fun n h => rfl) ?_
    by_cases c4 : ((x3 >>> (a3 &&& 31)) &&& (1 : Int32)) = (1 : Int32)
    · rw [if_pos c4] at h
      refine hq_icF rfl (hq_c_ne_F c4) ?_
      refine hq_p 1 27 [some (.ref 174), some (.int a1), some (.int a2), some (.int a3)] [.ref 174] (fun n h => rfl) ?_
      refine hq_gf (x := .ref 207) rfl rfl rfl rfl rfl ?_
      refine hq_p 5 36 [some (.ref 174), some (.int a1), some (.int a2), some (.int a3)] [.int (((10 : Int32) * a3) + a2), .ref 207] (fun n h => rfl) ?_
      obtain ⟨x5, hx5, h⟩ := hq_bind h
      refine hq_iaload rfl rfl List.length_replicate hx5 ?_
      refine hq_p 1 38 [some (.ref 174), some (.int a1), some (.int a2), some (.int a3)] [.ref 174, .int x5] (fun n h => rfl) ?_
      refine hq_gf (x := .ref 207) rfl rfl rfl rfl rfl ?_
      refine hq_p 5 47 [some (.ref 174), some (.int a1), some (.int a2), some (.int a3)] [.int (((10 : Int32) * a1) + a2), .ref 207, .int x5] (fun n h => rfl) ?_
      obtain ⟨x6, hx6, h⟩ := hq_bind h
      refine hq_iaload rfl rfl List.length_replicate hx6 ?_
      by_cases c7 : x5 < x6
      · rw [if_pos c7] at h
        refine hq_icF rfl (hq_c_ge_F c7) ?_
        refine hq_p 1 52 [some (.ref 174), some (.int a1), some (.int a2), some (.int a3)] [.int a3] (fun n h => rfl) ?_
        have h := Option.some.inj h
        subst h
        exact ⟨1, rfl⟩
      · rw [if_neg c7] at h
        refine hq_icT rfl (hq_c_ge_T c7) ?_
        exact f_X12_nearer_J53_run hd e2 h
    · rw [if_neg c4] at h
      refine hq_icT rfl (hq_c_ne_T c4) ?_
      exact f_X12_nearer_J53_run hd e2 h
  · rw [if_neg c2] at h
    refine hq_icT rfl (hq_c_ge_T c2) ?_
    refine hq_p 1 60 [some (.ref 174), some (.int a1), some (.int a2), some (.int a3)] [.int a1] (fun n h => rfl) ?_
    have h := Option.some.inj h
    subst h
    exact ⟨1, rfl⟩
theorem f_X12_nearer_L2_run {xs : List Int32} {n m d g : Nat} {a1 : Int32} {a2 : Int32} {a3 : Int32} {s : hq_S} {y : (Int32 × hq_S)} (hd : 0 ≤ d) (h : f_X12_nearer_L2 n m a1 a2 a3 s = some y) : hq_R (mm_O xs) d mc_X12_nearer 2 [some (.ref 174), some (.int a1), some (.int a2), some (.int a3)] [] s g (some (.int y.1)) y.2 := by
  induction m generalizing a1 a2 a3 s with
  | zero => cases h
  | succ m ih => exact f_X12_nearer_L2_Brun (n := n) hd (fun a1 a2 a3 s h => ih h) h
def f_X12_nearer (n : Nat) (a1 : Int32) (a2 : Int32) (s : hq_S) : Option (Int32 × hq_S) := f_X12_nearer_L2 n n a1 a2 (0 : Int32) s
theorem f_X12_nearer_run {xs : List Int32} {n d g : Nat} {a1 : Int32} {a2 : Int32} {s : hq_S} {y : (Int32 × hq_S)} (hd : 0 ≤ d) (h : f_X12_nearer n a1 a2 s = some y) : hq_R (mm_O xs) d mc_X12_nearer 0 [some (.ref 174), some (.int a1), some (.int a2), none] [] s g (some (.int y.1)) y.2 := by
  unfold f_X12_nearer at h
  refine hq_p 2 2 [some (.ref 174), some (.int a1), some (.int a2), some (.int (0 : Int32))] [] (fun n h => rfl) ?_
  exact f_X12_nearer_L2_run hd h
def f_X12_walks_J32 (n : Nat) (a1 : Int32) (a2 : Int32) (a3 : Int32) (s : hq_S) : Option hq_S := (hq_ld s 200 69 a3).bind fun x4 => (hq_ld s 201 69 a3).bind fun x5 => (hq_ld s 186 48 (((8 : Int32) * a2) + x5)).bind fun x6 => (if x4 = x6 then (hq_ld s 201 69 a3).bind fun x9 => (hq_ld s 185 6 a2).bind fun x10 => (hq_irem (x9 + (1 : Int32)) x10).bind fun x11 => (hq_st s 201 69 a3 x11).bind fun s12 => some s12 else some s).bind fun z7 => (hq_ld z7 201 69 a3).bind fun x13 => (hq_ld z7 186 48 (((8 : Int32) * a2) + x13)).bind fun x14 => (hq_ld z7 200 69 a3).bind fun x15 => if x15 = x14 then some z7 else (hq_ld z7 200 69 a3).bind fun x17 => (f_X12_nearer n x17 x14 z7).bind fun y18 => (hq_st y18.2 200 69 a3 y18.1).bind fun s19 => some s19
theorem f_X12_walks_J32_run {xs : List Int32} {n d g : Nat} {a1 : Int32} {a2 : Int32} {a3 : Int32} {s : hq_S} {y : hq_S} (hd : 1 ≤ d) (h : f_X12_walks_J32 n a1 a2 a3 s = some y) : hq_R (mm_O xs) d mc_X12_walks 32 [some (.ref 174), some (.int a1), some (.int a2), some (.int a3), none] [] s g none y := by
  unfold f_X12_walks_J32 at h
  refine hq_p 1 33 [some (.ref 174), some (.int a1), some (.int a2), some (.int a3), none] [.ref 174] (fun n h => rfl) ?_
  refine hq_gf (x := .ref 200) rfl rfl rfl rfl rfl ?_
  refine hq_p 1 37 [some (.ref 174), some (.int a1), some (.int a2), some (.int a3), none] [.int a3, .ref 200] (fun n h => rfl) ?_
  obtain ⟨x4, hx4, h⟩ := hq_bind h
  refine hq_iaload rfl rfl List.length_replicate hx4 ?_
  refine hq_p 1 39 [some (.ref 174), some (.int a1), some (.int a2), some (.int a3), none] [.ref 174, .int x4] (fun n h => rfl) ?_
  refine hq_gf (x := .ref 186) rfl rfl rfl rfl rfl ?_
  refine hq_p 4 47 [some (.ref 174), some (.int a1), some (.int a2), some (.int a3), none] [.ref 174, .int ((8 : Int32) * a2), .ref 186, .int x4] (fun n h => rfl) ?_
  refine hq_gf (x := .ref 201) rfl rfl rfl rfl rfl ?_
  refine hq_p 1 51 [some (.ref 174), some (.int a1), some (.int a2), some (.int a3), none] [.int a3, .ref 201, .int ((8 : Int32) * a2), .ref 186, .int x4] (fun n h => rfl) ?_
  obtain ⟨x5, hx5, h⟩ := hq_bind h
  refine hq_iaload rfl rfl List.length_replicate hx5 ?_
  refine hq_p 1 53 [some (.ref 174), some (.int a1), some (.int a2), some (.int a3), none] [.int (((8 : Int32) * a2) + x5), .ref 186, .int x4] (fun n h => rfl) ?_
  obtain ⟨x6, hx6, h⟩ := hq_bind h
  refine hq_iaload rfl rfl List.length_replicate hx6 ?_
  obtain ⟨z7, hz7, h⟩ := hq_bind h
  suffices hT : hq_R (mm_O xs) d mc_X12_walks 78 [some (.ref 174), some (.int a1), some (.int a2), some (.int a3), none] [] z7 g none y from by
    clear h
    have h := hz7
    by_cases c8 : x4 = x6
    · rw [if_pos c8] at h
      refine hq_icF rfl (hq_c_ne_F c8) ?_
      refine hq_p 1 58 [some (.ref 174), some (.int a1), some (.int a2), some (.int a3), none] [.ref 174] (fun n h => rfl) ?_
      refine hq_gf (x := .ref 201) rfl rfl rfl rfl rfl ?_
      refine hq_p 2 63 [some (.ref 174), some (.int a1), some (.int a2), some (.int a3), none] [.ref 174, .int a3, .ref 201] (fun n h => rfl) ?_
      refine hq_gf (x := .ref 201) rfl rfl rfl rfl rfl ?_
      refine hq_p 1 67 [some (.ref 174), some (.int a1), some (.int a2), some (.int a3), none] [.int a3, .ref 201, .int a3, .ref 201] (fun n h => rfl) ?_
      obtain ⟨x9, hx9, h⟩ := hq_bind h
      refine hq_iaload rfl rfl List.length_replicate hx9 ?_
      refine hq_p 3 71 [some (.ref 174), some (.int a1), some (.int a2), some (.int a3), none] [.ref 174, .int (x9 + (1 : Int32)), .int a3, .ref 201] (fun n h => rfl) ?_
      refine hq_gf (x := .ref 185) rfl rfl rfl rfl rfl ?_
      refine hq_p 1 75 [some (.ref 174), some (.int a1), some (.int a2), some (.int a3), none] [.int a2, .ref 185, .int (x9 + (1 : Int32)), .int a3, .ref 201] (fun n h => rfl) ?_
      obtain ⟨x10, hx10, h⟩ := hq_bind h
      refine hq_iaload rfl rfl List.length_replicate hx10 ?_
      obtain ⟨x11, hx11, h⟩ := hq_bind h
      refine hq_irem_ rfl hx11 ?_
      obtain ⟨s12, hs12, h⟩ := hq_bind h
      refine hq_iastore rfl rfl List.length_replicate hs12 ?_
      cases h
      exact hT
    · rw [if_neg c8] at h
      refine hq_icT rfl (hq_c_ne_T c8) ?_
      cases h
      exact hT
  refine hq_p 1 79 [some (.ref 174), some (.int a1), some (.int a2), some (.int a3), none] [.ref 174] (fun n h => rfl) ?_
  refine hq_gf (x := .ref 186) rfl rfl rfl rfl rfl ?_
  refine hq_p 4 87 [some (.ref 174), some (.int a1), some (.int a2), some (.int a3), none] [.ref 174, .int ((8 : Int32) * a2), .ref 186] (fun n h => rfl) ?_
  refine hq_gf (x := .ref 201) rfl rfl rfl rfl rfl ?_
  refine hq_p 1 91 [some (.ref 174), some (.int a1), some (.int a2), some (.int a3), none] [.int a3, .ref 201, .int ((8 : Int32) * a2), .ref 186] (fun n h => rfl) ?_
  obtain ⟨x13, hx13, h⟩ := hq_bind h
  refine hq_iaload rfl rfl List.length_replicate hx13 ?_
  refine hq_p 1 93 [some (.ref 174), some (.int a1), some (.int a2), some (.int a3), none] [.int (((8 : Int32) * a2) + x13), .ref 186] (fun n h => rfl) ?_
  obtain ⟨x14, hx14, h⟩ := hq_bind h
  refine hq_iaload rfl rfl List.length_replicate hx14 ?_
  refine hq_p 2 97 [some (.ref 174), some (.int a1), some (.int a2), some (.int a3), some (.int x14)] [.ref 174] (fun n h => rfl) ?_
  refine hq_gf (x := .ref 200) rfl rfl rfl rfl rfl ?_
  refine hq_p 1 101 [some (.ref 174), some (.int a1), some (.int a2), some (.int a3), some (.int x14)] [.int a3, .ref 200] (fun n h => rfl) ?_
  obtain ⟨x15, hx15, h⟩ := hq_bind h
  refine hq_iaload rfl rfl List.length_replicate hx15 ?_
  refine hq_p 1 104 [some (.ref 174), some (.int a1), some (.int a2), some (.int a3), some (.int x14)] [.int x14, .int x15] (fun n h => rfl) ?_
  by_cases c16 : x15 = x14
  · rw [if_pos c16] at h
    refine hq_icT rfl (hq_c_eq_T c16) ?_
    have h := Option.some.inj h
    subst h
    exact ⟨1, rfl⟩
  · rw [if_neg c16] at h
    refine hq_icF rfl (hq_c_eq_F c16) ?_
    refine hq_p 1 108 [some (.ref 174), some (.int a1), some (.int a2), some (.int a3), some (.int x14)] [.ref 174] (fun n h => rfl) ?_
    refine hq_gf (x := .ref 200) rfl rfl rfl rfl rfl ?_
    refine hq_p 3 114 [some (.ref 174), some (.int a1), some (.int a2), some (.int a3), some (.int x14)] [.ref 174, .ref 174, .int a3, .ref 200] (fun n h => rfl) ?_
    refine hq_gf (x := .ref 200) rfl rfl rfl rfl rfl ?_
    refine hq_p 1 118 [some (.ref 174), some (.int a1), some (.int a2), some (.int a3), some (.int x14)] [.int a3, .ref 200, .ref 174, .int a3, .ref 200] (fun n h => rfl) ?_
    obtain ⟨x17, hx17, h⟩ := hq_bind h
    refine hq_iaload rfl rfl List.length_replicate hx17 ?_
    refine hq_p 1 121 [some (.ref 174), some (.int a1), some (.int a2), some (.int a3), some (.int x14)] [.int x14, .int x17, .ref 174, .int a3, .ref 200] (fun n h => rfl) ?_
    obtain ⟨y18, hy18, h⟩ := hq_bind h
    refine hq_inv rfl rfl (Nat.le_trans (by decide) hd) rfl rfl (hq_rcv rfl rfl) (f_X12_nearer_run (Nat.le_sub_of_add_le (Nat.le_trans (by decide) hd)) hy18) rfl ?_
    obtain ⟨s19, hs19, h⟩ := hq_bind h
    refine hq_iastore rfl rfl List.length_replicate hs19 ?_
    have h := Option.some.inj h
    subst h
    exact ⟨1, rfl⟩
def f_X12_walks (n : Nat) (a1 : Int32) (a2 : Int32) (s : hq_S) : Option hq_S := (hq_ld s 185 6 a2).bind fun x1 => if x1 = 0 then some s else if (hq_gi s 174 49) = (2 : Int32) then if a2 = (hq_gi s 174 50) then some s else f_X12_walks_J32 n a1 a2 (((3 : Int32) * a1) + a2) s else f_X12_walks_J32 n a1 a2 (((3 : Int32) * a1) + a2) s
theorem f_X12_walks_run {xs : List Int32} {n d g : Nat} {a1 : Int32} {a2 : Int32} {s : hq_S} {y : hq_S} (hd : 1 ≤ d) (h : f_X12_walks n a1 a2 s = some y) : hq_R (mm_O xs) d mc_X12_walks 0 [some (.ref 174), some (.int a1), some (.int a2), none, none] [] s g none y := by
  unfold f_X12_walks at h
  refine hq_p 7 7 [some (.ref 174), some (.int a1), some (.int a2), some (.int (((3 : Int32) * a1) + a2)), none] [.ref 174] (fun n h => rfl) ?_
  refine hq_gf (x := .ref 185) rfl rfl rfl rfl rfl ?_
  refine hq_p 1 11 [some (.ref 174), some (.int a1), some (.int a2), some (.int (((3 : Int32) * a1) + a2)), none] [.int a2, .ref 185] (fun n h => rfl) ?_
  obtain ⟨x1, hx1, h⟩ := hq_bind h
  refine hq_iaload rfl rfl List.length_replicate hx1 ?_
  by_cases c2 : x1 = 0
  · rw [if_pos c2] at h
    refine hq_izT rfl (hq_c_eq_T c2) ?_
    have h := Option.some.inj h
    subst h
    exact ⟨1, rfl⟩
  · rw [if_neg c2] at h
    refine hq_izF rfl (hq_c_eq_F c2) ?_
    refine hq_p 1 16 [some (.ref 174), some (.int a1), some (.int a2), some (.int (((3 : Int32) * a1) + a2)), none] [.ref 174] (fun n h => rfl) ?_
    refine hq_gf (x := .int (hq_gi s 174 49)) rfl rfl rfl rfl rfl ?_
    refine hq_p 1 20 [some (.ref 174), some (.int a1), some (.int a2), some (.int (((3 : Int32) * a1) + a2)), none] [.int (2 : Int32), .int (hq_gi s 174 49)] (fun n h => rfl) ?_
    by_cases c3 : (hq_gi s 174 49) = (2 : Int32)
    · rw [if_pos c3] at h
      refine hq_icF rfl (hq_c_ne_F c3) ?_
      refine hq_p 2 25 [some (.ref 174), some (.int a1), some (.int a2), some (.int (((3 : Int32) * a1) + a2)), none] [.ref 174, .int a2] (fun n h => rfl) ?_
      refine hq_gf (x := .int (hq_gi s 174 50)) rfl rfl rfl rfl rfl ?_
      by_cases c20 : a2 = (hq_gi s 174 50)
      · rw [if_pos c20] at h
        refine hq_icF rfl (hq_c_ne_F c20) ?_
        have h := Option.some.inj h
        subst h
        exact ⟨1, rfl⟩
      · rw [if_neg c20] at h
        refine hq_icT rfl (hq_c_ne_T c20) ?_
        exact f_X12_walks_J32_run hd h
    · rw [if_neg c3] at h
      refine hq_icT rfl (hq_c_ne_T c3) ?_
      exact f_X12_walks_J32_run hd h
def f_X12_stirs_J99 (n : Nat) (q46 : Int32 → Int32 → Int32 → Int32 → Int64 → Int32 → Int32 → hq_S → Option hq_S) (a1 : Int32) (a2 : Int32) (a3 : Int32) (a4 : Int32) (j5 : Int64) (a7 : Int32) (a8 : Int32) (s : hq_S) : Option hq_S := q46 a1 a2 a3 a4 j5 a7 (a8 + (1 : Int32)) s
theorem f_X12_stirs_J99_run {xs : List Int32} {n d g : Nat} {a1 : Int32} {a2 : Int32} {a3 : Int32} {a4 : Int32} {j5 : Int64} {a7 : Int32} {a8 : Int32} {o9 : Option Value} {q46 : Int32 → Int32 → Int32 → Int32 → Int64 → Int32 → Int32 → hq_S → Option hq_S} {s : hq_S} {y : hq_S} (hd : 4 ≤ d) (e46 : ∀ (a1 : Int32) (a2 : Int32) (a3 : Int32) (a4 : Int32) (j5 : Int64) (a7 : Int32) (a8 : Int32) (o9 : Option Value) (s : hq_S), q46 a1 a2 a3 a4 j5 a7 a8 s = some y → hq_R (mm_O xs) d mc_X12_stirs 46 [some (.ref 174), some (.int a1), some (.int a2), some (.int a3), some (.int a4), some (.long j5), none, some (.int a7), some (.int a8), o9, none] [] s g none y) (h : f_X12_stirs_J99 n q46 a1 a2 a3 a4 j5 a7 a8 s = some y) : hq_R (mm_O xs) d mc_X12_stirs 99 [some (.ref 174), some (.int a1), some (.int a2), some (.int a3), some (.int a4), some (.long j5), none, some (.int a7), some (.int a8), o9, none] [] s g none y := by
  unfold f_X12_stirs_J99 at h
  refine hq_p 2 46 [some (.ref 174), some (.int a1), some (.int a2), some (.int a3), some (.int a4), some (.long j5), none, some (.int a7), some (.int (a8 + (1 : Int32))), o9, none] [] (fun n h => rfl) ?_
  exact e46 a1 a2 a3 a4 j5 a7 (a8 + (1 : Int32)) _ s h
def f_X12_stirs_L46_B (n : Nat) (q46 : Int32 → Int32 → Int32 → Int32 → Int64 → Int32 → Int32 → hq_S → Option hq_S) (a1 : Int32) (a2 : Int32) (a3 : Int32) (a4 : Int32) (j5 : Int64) (a7 : Int32) (a8 : Int32) (s : hq_S) : Option hq_S := (hq_ld s 176 14 (0 : Int32)).bind fun x6 => if a8 < x6 then if ((a7 >>> (a8 &&& 31)) &&& (1 : Int32)) = 0 then f_X12_stirs_J99 n q46 a1 a2 a3 a4 j5 a7 a8 s else (f_X12_dreadOf n a1 a2 a8 s).bind fun y11 => (if (lg_cmp y11.1 j5) < 0 then some (a8, y11.1) else some (a4, j5)).bind fun z12 => q46 a1 a2 a3 z12.1 z12.2 a7 (a8 + (1 : Int32)) y11.2 else (hq_st s 203 92 a3 a4).bind fun s8 => some s8
def f_X12_stirs_L46 (n : Nat) (m : Nat) : Int32 → Int32 → Int32 → Int32 → Int64 → Int32 → Int32 → hq_S → Option hq_S := Nat.rec (fun _ _ _ _ _ _ _ _ => none) (fun _ q => f_X12_stirs_L46_B n q) m
theorem f_X12_stirs_L46_Brun {xs : List Int32} {n d g : Nat} {a1 : Int32} {a2 : Int32} {a3 : Int32} {a4 : Int32} {j5 : Int64} {a7 : Int32} {a8 : Int32} {o9 : Option Value} {q46 : Int32 → Int32 → Int32 → Int32 → Int64 → Int32 → Int32 → hq_S → Option hq_S} {s : hq_S} {y : hq_S} (hd : 4 ≤ d) (e46 : ∀ (a1 : Int32) (a2 : Int32) (a3 : Int32) (a4 : Int32) (j5 : Int64) (a7 : Int32) (a8 : Int32) (o9 : Option Value) (s : hq_S), q46 a1 a2 a3 a4 j5 a7 a8 s = some y → hq_R (mm_O xs) d mc_X12_stirs 46 [some (.ref 174), some (.int a1), some (.int a2), some (.int a3), some (.int a4), some (.long j5), none, some (.int a7), some (.int a8), o9, none] [] s g none y) (h : f_X12_stirs_L46_B n q46 a1 a2 a3 a4 j5 a7 a8 s = some y) : hq_R (mm_O xs) d mc_X12_stirs 46 [some (.ref 174), some (.int a1), some (.int a2), some (.int a3), some (.int a4), some (.long j5), none, some (.int a7), some (.int a8), o9, none] [] s g none y := by
  unfold f_X12_stirs_L46_B at h
  refine hq_p 2 49 [some (.ref 174), some (.int a1), some (.int a2), some (.int a3), some (.int a4), some (.long j5), none, some (.int a7), some (.int a8), o9, none] [.ref 174, .int a8] (fun n h => rfl) ?_
  refine hq_gf (x := .ref 176) rfl rfl rfl rfl rfl ?_
  refine hq_p 1 53 [some (.ref 174), some (.int a1), some (.int a2), some (.int a3), some (.int a4), some (.long j5), none, some (.int a7), some (.int a8), o9, none] [.int (0 : Int32), .ref 176, .int a8] (fun n h => rfl) ?_
  obtain ⟨x6, hx6, h⟩ := hq_bind h
  refine hq_iaload rfl rfl rfl hx6 ?_
  by_cases c7 : a8 < x6
  · rw [if_pos c7] at h
    refine hq_icF rfl (hq_c_ge_F c7) ?_
    refine hq_p 5 64 [some (.ref 174), some (.int a1), some (.int a2), some (.int a3), some (.int a4), some (.long j5), none, some (.int a7), some (.int a8), o9, none] [.int ((a7 >>> (a8 &&& 31)) &&& (1 : Int32))] (fun n h => rfl) ?_
    by_cases c10 : ((a7 >>> (a8 &&& 31)) &&& (1 : Int32)) = 0
    · rw [if_pos c10] at h
      refine hq_izF rfl (hq_c_ne_F c10) ?_
      refine hq_p 1 99 [some (.ref 174), some (.int a1), some (.int a2), some (.int a3), some (.int a4), some (.long j5), none, some (.int a7), some (.int a8), o9, none] [] (fun n h => rfl) ?_
      exact f_X12_stirs_J99_run hd e46 h
    · rw [if_neg c10] at h
      refine hq_izT rfl (hq_c_ne_T c10) ?_
      refine hq_p 4 75 [some (.ref 174), some (.int a1), some (.int a2), some (.int a3), some (.int a4), some (.long j5), none, some (.int a7), some (.int a8), o9, none] [.int a8, .int a2, .int a1, .ref 174] (fun n h => rfl) ?_
      obtain ⟨y11, hy11, h⟩ := hq_bind h
      refine hq_inv rfl rfl (Nat.le_trans (by decide) hd) rfl rfl (hq_rcv rfl rfl) (f_X12_dreadOf_run (Nat.le_sub_of_add_le (Nat.le_trans (by decide) hd)) hy11) rfl ?_
      refine hq_p 4 85 [some (.ref 174), some (.int a1), some (.int a2), some (.int a3), some (.int a4), some (.long j5), none, some (.int a7), some (.int a8), some (.long y11.1), none] [.int (lg_cmp y11.1 j5)] (fun n h => rfl) ?_
      obtain ⟨z12, hz12, h⟩ := hq_bind h
      suffices hT : hq_R (mm_O xs) d mc_X12_stirs 99 [some (.ref 174), some (.int a1), some (.int a2), some (.int a3), some (.int z12.1), some (.long z12.2), none, some (.int a7), some (.int a8), some (.long y11.1), none] [] y11.2 g none y from by
        clear h
        have h := hz12
        by_cases c13 : (lg_cmp y11.1 j5) < 0
        · rw [if_pos c13] at h
          refine hq_izT rfl (hq_c_lt_T c13) ?_
          refine hq_p 4 99 [some (.ref 174), some (.int a1), some (.int a2), some (.int a3), some (.int a8), some (.long y11.1), none, some (.int a7), some (.int a8), some (.long y11.1), none] [] (fun n h => rfl) ?_
          cases h
          exact hT
        · rw [if_neg c13] at h
          refine hq_izF rfl (hq_c_lt_F c13) ?_
          refine hq_p 1 99 [some (.ref 174), some (.int a1), some (.int a2), some (.int a3), some (.int a4), some (.long j5), none, some (.int a7), some (.int a8), some (.long y11.1), none] [] (fun n h => rfl) ?_
          cases h
          exact hT
      refine hq_p 2 46 [some (.ref 174), some (.int a1), some (.int a2), some (.int a3), some (.int z12.1), some (.long z12.2), none, some (.int a7), some (.int (a8 + (1 : Int32))), some (.long y11.1), none] [] (fun n h => rfl) ?_
      exact e46 a1 a2 a3 z12.1 z12.2 a7 (a8 + (1 : Int32)) _ y11.2 h
  · rw [if_neg c7] at h
    refine hq_icT rfl (hq_c_ge_T c7) ?_
    refine hq_p 1 106 [some (.ref 174), some (.int a1), some (.int a2), some (.int a3), some (.int a4), some (.long j5), none, some (.int a7), some (.int a8), o9, none] [.ref 174] (fun n h => rfl) ?_
    refine hq_gf (x := .ref 203) rfl rfl rfl rfl rfl ?_
    refine hq_p 2 112 [some (.ref 174), some (.int a1), some (.int a2), some (.int a3), some (.int a4), some (.long j5), none, some (.int a7), some (.int a8), o9, none] [.int a4, .int a3, .ref 203] (fun n h => rfl) ?_
    obtain ⟨s8, hs8, h⟩ := hq_bind h
    refine hq_iastore rfl rfl List.length_replicate hs8 ?_
    have h := Option.some.inj h
    subst h
    exact ⟨1, rfl⟩
theorem f_X12_stirs_L46_run {xs : List Int32} {n m d g : Nat} {a1 : Int32} {a2 : Int32} {a3 : Int32} {a4 : Int32} {j5 : Int64} {a7 : Int32} {a8 : Int32} {o9 : Option Value} {s : hq_S} {y : hq_S} (hd : 4 ≤ d) (h : f_X12_stirs_L46 n m a1 a2 a3 a4 j5 a7 a8 s = some y) : hq_R (mm_O xs) d mc_X12_stirs 46 [some (.ref 174), some (.int a1), some (.int a2), some (.int a3), some (.int a4), some (.long j5), none, some (.int a7), some (.int a8), o9, none] [] s g none y := by
  induction m generalizing a1 a2 a3 a4 j5 a7 a8 o9 s with
  | zero => cases h
  | succ m ih => exact f_X12_stirs_L46_Brun (n := n) hd (fun a1 a2 a3 a4 j5 a7 a8 o9 s h => ih h) h
def f_X12_stirs (n : Nat) (a1 : Int32) (a2 : Int32) (s : hq_S) : Option hq_S := (f_X12_doesStir n a1 a2 s).bind fun y1 => if y1.1 = 0 then some y1.2 else (hq_ld y1.2 203 92 (((4 : Int32) * a1) + a2)).bind fun x3 => (f_X12_dreadOf n a1 a2 x3 y1.2).bind fun y4 => (hq_ld y4.2 206 10 x3).bind fun x5 => f_X12_stirs_L46 n n a1 a2 (((4 : Int32) * a1) + a2) x3 y4.1 x5 (0 : Int32) y4.2
theorem f_X12_stirs_run {xs : List Int32} {n d g : Nat} {a1 : Int32} {a2 : Int32} {s : hq_S} {y : hq_S} (hd : 4 ≤ d) (h : f_X12_stirs n a1 a2 s = some y) : hq_R (mm_O xs) d mc_X12_stirs 0 [some (.ref 174), some (.int a1), some (.int a2), none, none, none, none, none, none, none, none] [] s g none y := by
  unfold f_X12_stirs at h
  refine hq_p 9 9 [some (.ref 174), some (.int a1), some (.int a2), some (.int (((4 : Int32) * a1) + a2)), none, none, none, none, none, none, none] [.int a2, .int a1, .ref 174] (fun n h => rfl) ?_
  obtain ⟨y1, hy1, h⟩ := hq_bind h
  refine hq_inv rfl rfl (Nat.le_trans (by decide) hd) rfl rfl (hq_rcv rfl rfl) (f_X12_doesStir_run (Nat.le_sub_of_add_le (Nat.le_trans (by decide) hd)) hy1) rfl ?_
  by_cases c2 : y1.1 = 0
  · rw [if_pos c2] at h
    refine hq_izF rfl (hq_c_ne_F c2) ?_
    have h := Option.some.inj h
    subst h
    exact ⟨1, rfl⟩
  · rw [if_neg c2] at h
    refine hq_izT rfl (hq_c_ne_T c2) ?_
    refine hq_p 1 17 [some (.ref 174), some (.int a1), some (.int a2), some (.int (((4 : Int32) * a1) + a2)), none, none, none, none, none, none, none] [.ref 174] (fun n h => rfl) ?_
    refine hq_gf (x := .ref 203) rfl rfl rfl rfl rfl ?_
    refine hq_p 1 21 [some (.ref 174), some (.int a1), some (.int a2), some (.int (((4 : Int32) * a1) + a2)), none, none, none, none, none, none, none] [.int (((4 : Int32) * a1) + a2), .ref 203] (fun n h => rfl) ?_
    obtain ⟨x3, hx3, h⟩ := hq_bind h
    refine hq_iaload rfl rfl List.length_replicate hx3 ?_
    refine hq_p 5 29 [some (.ref 174), some (.int a1), some (.int a2), some (.int (((4 : Int32) * a1) + a2)), some (.int x3), none, none, none, none, none, none] [.int x3, .int a2, .int a1, .ref 174] (fun n h => rfl) ?_
    obtain ⟨y4, hy4, h⟩ := hq_bind h
    refine hq_inv rfl rfl (Nat.le_trans (by decide) hd) rfl rfl (hq_rcv rfl rfl) (f_X12_dreadOf_run (Nat.le_sub_of_add_le (Nat.le_trans (by decide) hd)) hy4) rfl ?_
    refine hq_p 2 35 [some (.ref 174), some (.int a1), some (.int a2), some (.int (((4 : Int32) * a1) + a2)), some (.int x3), some (.long y4.1), none, none, none, none, none] [.ref 174] (fun n h => rfl) ?_
    refine hq_gf (x := .ref 206) rfl rfl rfl rfl rfl ?_
    refine hq_p 1 40 [some (.ref 174), some (.int a1), some (.int a2), some (.int (((4 : Int32) * a1) + a2)), some (.int x3), some (.long y4.1), none, none, none, none, none] [.int x3, .ref 206] (fun n h => rfl) ?_
    obtain ⟨x5, hx5, h⟩ := hq_bind h
    refine hq_iaload rfl rfl List.length_replicate hx5 ?_
    refine hq_p 3 46 [some (.ref 174), some (.int a1), some (.int a2), some (.int (((4 : Int32) * a1) + a2)), some (.int x3), some (.long y4.1), none, some (.int x5), some (.int (0 : Int32)), none, none] [] (fun n h => rfl) ?_
    exact f_X12_stirs_L46_run hd h
