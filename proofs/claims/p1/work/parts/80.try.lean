def f_X8_lanesBetween (n : Nat) (k0 : Nat) (a1 : Int32) (a2 : Int32) (s : hq_S) : Option (Int32 × hq_S) := (hq_ld s (k0 + 2) 100 ((a1 * (10 : Int32)) + a2)).bind fun x1 => some (x1, s)
theorem f_X8_lanesBetween_run {xs : List Int32} {n d g : Nat} {k0 : Nat} {a1 : Int32} {a2 : Int32} {s : hq_S} {y : (Int32 × hq_S)} (hd : 0 ≤ d) (m0_ : hq_isS k0) (h : f_X8_lanesBetween n k0 a1 a2 s = some y) : hq_R (mm_O xs) d mc_X8_lanesBetween 0 [some (.ref k0), some (.int a1), some (.int a2)] [] s g (some (.int y.1)) y.2 := by
  unfold f_X8_lanesBetween at h
  refine hq_p 1 1 [some (.ref k0), some (.int a1), some (.int a2)] [.ref k0] (fun n h => rfl) ?_
  refine hq_gf (x := .ref (k0 + 2)) rfl (hq_shS m0_) rfl rfl (hq_fldr (hq_shS_u m0_)) ?_
  refine hq_p 5 10 [some (.ref k0), some (.int a1), some (.int a2)] [.int ((a1 * (10 : Int32)) + a2), .ref (k0 + 2)] (fun n h => rfl) ?_
  obtain ⟨x1, hx1, h⟩ := hq_bind h
  refine hq_iaload rfl (hq_shS_2 m0_) rfl hx1 ?_
  cases h
  exact ⟨1, rfl⟩
def f_X8_onward_J41 (n : Nat) (q2 : Nat → Int32 → Int32 → Int32 → hq_S → Option (Int32 × hq_S)) (k0 : Nat) (a1 : Int32) (a2 : Int32) (a3 : Int32) (s : hq_S) : Option (Int32 × hq_S) := q2 k0 a1 a2 (a3 + (1 : Int32)) s
theorem f_X8_onward_J41_run {xs : List Int32} {n d g : Nat} {k0 : Nat} {a1 : Int32} {a2 : Int32} {a3 : Int32} {q2 : Nat → Int32 → Int32 → Int32 → hq_S → Option (Int32 × hq_S)} {s : hq_S} {y : (Int32 × hq_S)} (hd : 1 ≤ d) (e2 : ∀ (k0 : Nat) (a1 : Int32) (a2 : Int32) (a3 : Int32) (s : hq_S) (m0_ : hq_isS k0), q2 k0 a1 a2 a3 s = some y → hq_R (mm_O xs) d mc_X8_onward 2 [some (.ref k0), some (.int a1), some (.int a2), some (.int a3)] [] s g (some (.int y.1)) y.2) (m0_ : hq_isS k0) (h : f_X8_onward_J41 n q2 k0 a1 a2 a3 s = some y) : hq_R (mm_O xs) d mc_X8_onward 41 [some (.ref k0), some (.int a1), some (.int a2), some (.int a3)] [] s g (some (.int y.1)) y.2 := by
  unfold f_X8_onward_J41 at h
  refine hq_p 2 2 [some (.ref k0), some (.int a1), some (.int a2), some (.int (a3 + (1 : Int32)))] [] (fun n h => rfl) ?_
  exact e2 k0 a1 a2 (a3 + (1 : Int32)) s m0_ h
def f_X8_onward_L2_B (n : Nat) (q2 : Nat → Int32 → Int32 → Int32 → hq_S → Option (Int32 × hq_S)) (k0 : Nat) (a1 : Int32) (a2 : Int32) (a3 : Int32) (s : hq_S) : Option (Int32 × hq_S) := if a3 < (hq_gi s k0 0) then (hq_ld s (k0 + 1) 10 a1).bind fun x2 => if ((x2 >>> (a3 &&& 31)) &&& (1 : Int32)) = (1 : Int32) then (f_X8_lanesBetween n k0 a3 a2 s).bind fun y4 => (f_X8_lanesBetween n k0 a1 a2 y4.2).bind fun y5 => if y4.1 < y5.1 then some (a3, y5.2) else f_X8_onward_J41 n q2 k0 a1 a2 a3 y5.2 else f_X8_onward_J41 n q2 k0 a1 a2 a3 s else some ((-1 : Int32), s)
def f_X8_onward_L2 (n : Nat) (m : Nat) : Nat → Int32 → Int32 → Int32 → hq_S → Option (Int32 × hq_S) := Nat.rec (fun _ _ _ _ _ => none) (fun _ q => f_X8_onward_L2_B n q) m
theorem f_X8_onward_L2_Brun {xs : List Int32} {n d g : Nat} {k0 : Nat} {a1 : Int32} {a2 : Int32} {a3 : Int32} {q2 : Nat → Int32 → Int32 → Int32 → hq_S → Option (Int32 × hq_S)} {s : hq_S} {y : (Int32 × hq_S)} (hd : 1 ≤ d) (e2 : ∀ (k0 : Nat) (a1 : Int32) (a2 : Int32) (a3 : Int32) (s : hq_S) (m0_ : hq_isS k0), q2 k0 a1 a2 a3 s = some y → hq_R (mm_O xs) d mc_X8_onward 2 [some (.ref k0), some (.int a1), some (.int a2), some (.int a3)] [] s g (some (.int y.1)) y.2) (m0_ : hq_isS k0) (h : f_X8_onward_L2_B n q2 k0 a1 a2 a3 s = some y) : hq_R (mm_O xs) d mc_X8_onward 2 [some (.ref k0), some (.int a1), some (.int a2), some (.int a3)] [] s g (some (.int y.1)) y.2 := by
  unfold f_X8_onward_L2_B at h
  refine hq_p 2 4 [some (.ref k0), some (.int a1), some (.int a2), some (.int a3)] [.ref k0, .int a3] (fun n h => rfl) ?_
  refine hq_gf (x := .int (hq_gi s k0 0)) rfl (hq_shS m0_) rfl rfl rfl ?_
  by_cases c1 : a3 < (hq_gi s k0 0)
  · rw [if_pos c1] at h
    refine hq_icF rfl (hq_c_ge_F c1) ?_
    refine hq_p 1 11 [some (.ref k0), some (.int a1), some (.int a2), some (.int a3)] [.ref k0] (fun n h => rfl) ?_
    refine hq_gf (x := .ref (k0 + 1)) rfl (hq_shS m0_) rfl rfl (hq_fldr (hq_shS_u m0_)) ?_
    refine hq_p 1 15 [some (.ref k0), some (.int a1), some (.int a2), some (.int a3)] [.int a1, .ref (k0 + 1)] (fun n h => rfl) ?_
    obtain ⟨x2, hx2, h⟩ := hq_bind h
    refine hq_iaload rfl (hq_shS_1 m0_) rfl hx2 ?_
    refine hq_p 5 21 [some (.ref k0), some (.int a1), some (.int a2), some (.int a3)] [.int (1 : Int32), .int ((x2 >>> (a3 &&& 31)) &&& (1 : Int32))] (fun n h => rfl) ?_
    by_cases c3 : ((x2 >>> (a3 &&& 31)) &&& (1 : Int32)) = (1 : Int32)
    · rw [if_pos c3] at h
      refine hq_icF rfl (hq_c_ne_F c3) ?_
      refine hq_p 3 27 [some (.ref k0), some (.int a1), some (.int a2), some (.int a3)] [.int a2, .int a3, .ref k0] (fun n h => rfl) ?_
      obtain ⟨y4, hy4, h⟩ := hq_bind h
      refine hq_inv rfl rfl (Nat.le_trans (by decide) hd) rfl rfl (hq_rcv (hq_shS m0_) rfl) (f_X8_lanesBetween_run (Nat.le_sub_of_add_le (Nat.le_trans (by decide) hd)) m0_ hy4) rfl ?_
      refine hq_p 3 33 [some (.ref k0), some (.int a1), some (.int a2), some (.int a3)] [.int a2, .int a1, .ref k0, .int y4.1] (fun n h => rfl) ?_
      obtain ⟨y5, hy5, h⟩ := hq_bind h
      refine hq_inv rfl rfl (Nat.le_trans (by decide) hd) rfl rfl (hq_rcv (hq_shS m0_) rfl) (f_X8_lanesBetween_run (Nat.le_sub_of_add_le (Nat.le_trans (by decide) hd)) m0_ hy5) rfl ?_
      by_cases c6 : y4.1 < y5.1
      · rw [if_pos c6] at h
        refine hq_icF rfl (hq_c_ge_F c6) ?_
        refine hq_p 1 40 [some (.ref k0), some (.int a1), some (.int a2), some (.int a3)] [.int a3] (fun n h => rfl) ?_
        cases h
        exact ⟨1, rfl⟩
      · rw [if_neg c6] at h
        refine hq_icT rfl (hq_c_ge_T c6) ?_
        exact f_X8_onward_J41_run hd e2 m0_ h
    · rw [if_neg c3] at h
      refine hq_icT rfl (hq_c_ne_T c3) ?_
      exact f_X8_onward_J41_run hd e2 m0_ h
  · rw [if_neg c1] at h
    refine hq_icT rfl (hq_c_ge_T c1) ?_
    refine hq_p 1 48 [some (.ref k0), some (.int a1), some (.int a2), some (.int a3)] [.int (-1 : Int32)] (fun n h => rfl) ?_
    cases h
    exact ⟨1, rfl⟩
theorem f_X8_onward_L2_run {xs : List Int32} {n m d g : Nat} {k0 : Nat} {a1 : Int32} {a2 : Int32} {a3 : Int32} {s : hq_S} {y : (Int32 × hq_S)} (hd : 1 ≤ d) (m0_ : hq_isS k0) (h : f_X8_onward_L2 n m k0 a1 a2 a3 s = some y) : hq_R (mm_O xs) d mc_X8_onward 2 [some (.ref k0), some (.int a1), some (.int a2), some (.int a3)] [] s g (some (.int y.1)) y.2 := by
  induction m generalizing k0 a1 a2 a3 s with
  | zero => cases h
  | succ m ih => exact f_X8_onward_L2_Brun (n := n) hd (fun k0 a1 a2 a3 s m0_ h => ih m0_ h) m0_ h
def f_X8_onward (n : Nat) (k0 : Nat) (a1 : Int32) (a2 : Int32) (s : hq_S) : Option (Int32 × hq_S) := f_X8_onward_L2 n n k0 a1 a2 (0 : Int32) s
theorem f_X8_onward_run {xs : List Int32} {n d g : Nat} {k0 : Nat} {a1 : Int32} {a2 : Int32} {s : hq_S} {y : (Int32 × hq_S)} (hd : 1 ≤ d) (m0_ : hq_isS k0) (h : f_X8_onward n k0 a1 a2 s = some y) : hq_R (mm_O xs) d mc_X8_onward 0 [some (.ref k0), some (.int a1), some (.int a2), none] [] s g (some (.int y.1)) y.2 := by
  unfold f_X8_onward at h
  refine hq_p 2 2 [some (.ref k0), some (.int a1), some (.int a2), some (.int (0 : Int32))] [] (fun n h => rfl) ?_
  exact f_X8_onward_L2_run hd m0_ h
def f_X3_walkBeat_J93 (n : Nat) (a1 : Int32) (a2 : Int32) (s : hq_S) : Option hq_S := if hq_isS (hq_gr s 113 1) then if hq_isT (hq_gr s 113 0) then if hq_isN (hq_gr s 113 2) then (hq_ld s ((hq_gr s 113 2) + 3) 3 a1).bind fun x12 => (hq_ld s ((hq_gr s 113 0) + 6) 24 ((a1 * (8 : Int32)) + x12)).bind fun x13 => (f_X8_onward n (hq_gr s 113 1) a2 x13 s).bind fun y14 => if hq_isN (hq_gr y14.2 113 2) then (if y14.1 = (-1 : Int32) then some a2 else some y14.1).bind fun z16 => (hq_st y14.2 ((hq_gr y14.2 113 2) + 2) 3 a1 z16).bind fun s18 => some s18 else none else none else none else none
theorem f_X3_walkBeat_J93_run {xs : List Int32} {n d g : Nat} {a1 : Int32} {a2 : Int32} {o3 : Option Value} {s : hq_S} {y : hq_S} (hd : 2 ≤ d) (h : f_X3_walkBeat_J93 n a1 a2 s = some y) : hq_R (mm_O xs) d mc_X3_walkBeat 93 [some (.ref 113), some (.int a1), some (.int a2), o3] [] s g none y := by
  unfold f_X3_walkBeat_J93 at h
  refine hq_p 1 94 [some (.ref 113), some (.int a1), some (.int a2), o3] [.ref 113] (fun n h => rfl) ?_
  refine hq_gf (x := .ref (hq_gr s 113 1)) rfl rfl rfl rfl rfl ?_
  have m9 : hq_isS (hq_gr s 113 1) := hq_ifT h
  rw [if_pos m9] at h
  refine hq_p 2 99 [some (.ref 113), some (.int a1), some (.int a2), o3] [.ref 113, .int a2, .ref (hq_gr s 113 1)] (fun n h => rfl) ?_
  refine hq_gf (x := .ref (hq_gr s 113 0)) rfl rfl rfl rfl rfl ?_
  have m10 : hq_isT (hq_gr s 113 0) := hq_ifT h
  rw [if_pos m10] at h
  refine hq_gf (x := .ref ((hq_gr s 113 0) + 6)) rfl (hq_shT m10) rfl rfl (hq_fldr (hq_shT_u m10)) ?_
  refine hq_p 4 110 [some (.ref 113), some (.int a1), some (.int a2), o3] [.ref 113, .int (a1 * (8 : Int32)), .ref ((hq_gr s 113 0) + 6), .int a2, .ref (hq_gr s 113 1)] (fun n h => rfl) ?_
  refine hq_gf (x := .ref (hq_gr s 113 2)) rfl rfl rfl rfl rfl ?_
  have m11 : hq_isN (hq_gr s 113 2) := hq_ifT h
  rw [if_pos m11] at h
  refine hq_gf (x := .ref ((hq_gr s 113 2) + 3)) rfl (hq_shN m11) rfl rfl (hq_fldr (hq_shN_u m11)) ?_
  refine hq_p 1 117 [some (.ref 113), some (.int a1), some (.int a2), o3] [.int a1, .ref ((hq_gr s 113 2) + 3), .int (a1 * (8 : Int32)), .ref ((hq_gr s 113 0) + 6), .int a2, .ref (hq_gr s 113 1)] (fun n h => rfl) ?_
  obtain ⟨x12, hx12, h⟩ := hq_bind h
  refine hq_iaload rfl (hq_shN_3 m11) rfl hx12 ?_
  refine hq_p 1 119 [some (.ref 113), some (.int a1), some (.int a2), o3] [.int ((a1 * (8 : Int32)) + x12), .ref ((hq_gr s 113 0) + 6), .int a2, .ref (hq_gr s 113 1)] (fun n h => rfl) ?_
  obtain ⟨x13, hx13, h⟩ := hq_bind h
  refine hq_iaload rfl (hq_shT_6 m10) rfl hx13 ?_
  obtain ⟨y14, hy14, h⟩ := hq_bind h
  refine hq_inv rfl rfl (Nat.le_trans (by decide) hd) rfl rfl (hq_rcv (hq_shS m9) rfl) (f_X8_onward_run (Nat.le_sub_of_add_le (Nat.le_trans (by decide) hd)) m9 hy14) rfl ?_
  refine hq_p 2 125 [some (.ref 113), some (.int a1), some (.int a2), some (.int y14.1)] [.ref 113] (fun n h => rfl) ?_
  refine hq_gf (x := .ref (hq_gr y14.2 113 2)) rfl rfl rfl rfl rfl ?_
  have m15 : hq_isN (hq_gr y14.2 113 2) := hq_ifT h
  rw [if_pos m15] at h
  refine hq_gf (x := .ref ((hq_gr y14.2 113 2) + 2)) rfl (hq_shN m15) rfl rfl (hq_fldr (hq_shN_u m15)) ?_
  refine hq_p 3 134 [some (.ref 113), some (.int a1), some (.int a2), some (.int y14.1)] [.int (-1 : Int32), .int y14.1, .int a1, .ref ((hq_gr y14.2 113 2) + 2)] (fun n h => rfl) ?_
  obtain ⟨z16, hz16, h⟩ := hq_bind h
  suffices hT : hq_R (mm_O xs) d mc_X3_walkBeat 142 [some (.ref 113), some (.int a1), some (.int a2), some (.int y14.1)] [.int z16, .int a1, .ref ((hq_gr y14.2 113 2) + 2)] y14.2 g none y from by
    clear h
    have h := hz16
    by_cases c17 : y14.1 = (-1 : Int32)
    · rw [if_pos c17] at h
      refine hq_icF rfl (hq_c_ne_F c17) ?_
      refine hq_p 2 142 [some (.ref 113), some (.int a1), some (.int a2), some (.int y14.1)] [.int a2, .int a1, .ref ((hq_gr y14.2 113 2) + 2)] (fun n h => rfl) ?_
      cases h
      exact hT
    · rw [if_neg c17] at h
      refine hq_icT rfl (hq_c_ne_T c17) ?_
      refine hq_p 1 142 [some (.ref 113), some (.int a1), some (.int a2), some (.int y14.1)] [.int y14.1, .int a1, .ref ((hq_gr y14.2 113 2) + 2)] (fun n h => rfl) ?_
      cases h
      exact hT
  obtain ⟨s18, hs18, h⟩ := hq_bind h
  refine hq_iastore rfl (hq_shN_2 m15) rfl hs18 ?_
  cases h
  exact ⟨1, rfl⟩
def f_X3_walkBeat (n : Nat) (a1 : Int32) (s : hq_S) : Option hq_S := if hq_isN (hq_gr s 113 2) then (hq_ld s ((hq_gr s 113 2) + 2) 3 a1).bind fun x2 => if hq_isT (hq_gr s 113 0) then if hq_isN (hq_gr s 113 2) then (hq_ld s ((hq_gr s 113 2) + 3) 3 a1).bind fun x5 => (hq_ld s ((hq_gr s 113 0) + 6) 24 ((a1 * (8 : Int32)) + x5)).bind fun x6 => if x6 = x2 then if hq_isN (hq_gr s 113 2) then (hq_ld s ((hq_gr s 113 2) + 3) 3 a1).bind fun x20 => if hq_isT (hq_gr s 113 0) then (hq_ld s ((hq_gr s 113 0) + 7) 3 a1).bind fun x22 => (if (x20 + (1 : Int32)) < x22 then some (0 : Int32) else some (1 : Int32)).bind fun z23 => if hq_isN (hq_gr s 113 2) then (if z23 = 0 then if hq_isN (hq_gr s 113 2) then (hq_ld s ((hq_gr s 113 2) + 3) 3 a1).bind fun x29 => some (x29 + (1 : Int32)) else none else some (0 : Int32)).bind fun z26 => (hq_st s ((hq_gr s 113 2) + 3) 3 a1 z26).bind fun s30 => f_X3_walkBeat_J93 n a1 x2 s30 else none else none else none else f_X3_walkBeat_J93 n a1 x2 s else none else none else none
theorem f_X3_walkBeat_run {xs : List Int32} {n d g : Nat} {a1 : Int32} {s : hq_S} {y : hq_S} (hd : 2 ≤ d) (h : f_X3_walkBeat n a1 s = some y) : hq_R (mm_O xs) d mc_X3_walkBeat 0 [some (.ref 113), some (.int a1), none, none] [] s g none y := by
  unfold f_X3_walkBeat at h
  refine hq_p 1 1 [some (.ref 113), some (.int a1), none, none] [.ref 113] (fun n h => rfl) ?_
  refine hq_gf (x := .ref (hq_gr s 113 2)) rfl rfl rfl rfl rfl ?_
  have m1 : hq_isN (hq_gr s 113 2) := hq_ifT h
  rw [if_pos m1] at h
  refine hq_gf (x := .ref ((hq_gr s 113 2) + 2)) rfl (hq_shN m1) rfl rfl (hq_fldr (hq_shN_u m1)) ?_
  refine hq_p 1 8 [some (.ref 113), some (.int a1), none, none] [.int a1, .ref ((hq_gr s 113 2) + 2)] (fun n h => rfl) ?_
  obtain ⟨x2, hx2, h⟩ := hq_bind h
  refine hq_iaload rfl (hq_shN_2 m1) rfl hx2 ?_
  refine hq_p 2 11 [some (.ref 113), some (.int a1), some (.int x2), none] [.ref 113] (fun n h => rfl) ?_
  refine hq_gf (x := .ref (hq_gr s 113 0)) rfl rfl rfl rfl rfl ?_
  have m3 : hq_isT (hq_gr s 113 0) := hq_ifT h
  rw [if_pos m3] at h
  refine hq_gf (x := .ref ((hq_gr s 113 0) + 6)) rfl (hq_shT m3) rfl rfl (hq_fldr (hq_shT_u m3)) ?_
  refine hq_p 4 22 [some (.ref 113), some (.int a1), some (.int x2), none] [.ref 113, .int (a1 * (8 : Int32)), .ref ((hq_gr s 113 0) + 6)] (fun n h => rfl) ?_
  refine hq_gf (x := .ref (hq_gr s 113 2)) rfl rfl rfl rfl rfl ?_
  have m4 : hq_isN (hq_gr s 113 2) := hq_ifT h
  rw [if_pos m4] at h
  refine hq_gf (x := .ref ((hq_gr s 113 2) + 3)) rfl (hq_shN m4) rfl rfl (hq_fldr (hq_shN_u m4)) ?_
  refine hq_p 1 29 [some (.ref 113), some (.int a1), some (.int x2), none] [.int a1, .ref ((hq_gr s 113 2) + 3), .int (a1 * (8 : Int32)), .ref ((hq_gr s 113 0) + 6)] (fun n h => rfl) ?_
  obtain ⟨x5, hx5, h⟩ := hq_bind h
  refine hq_iaload rfl (hq_shN_3 m4) rfl hx5 ?_
  refine hq_p 1 31 [some (.ref 113), some (.int a1), some (.int x2), none] [.int ((a1 * (8 : Int32)) + x5), .ref ((hq_gr s 113 0) + 6)] (fun n h => rfl) ?_
  obtain ⟨x6, hx6, h⟩ := hq_bind h
  refine hq_iaload rfl (hq_shT_6 m3) rfl hx6 ?_
  refine hq_p 1 33 [some (.ref 113), some (.int a1), some (.int x2), none] [.int x2, .int x6] (fun n h => rfl) ?_
  by_cases c8 : x6 = x2
  · rw [if_pos c8] at h
    refine hq_icF rfl (hq_c_ne_F c8) ?_
    refine hq_p 1 37 [some (.ref 113), some (.int a1), some (.int x2), none] [.ref 113] (fun n h => rfl) ?_
    refine hq_gf (x := .ref (hq_gr s 113 2)) rfl rfl rfl rfl rfl ?_
    have m19 : hq_isN (hq_gr s 113 2) := hq_ifT h
    rw [if_pos m19] at h
    refine hq_gf (x := .ref ((hq_gr s 113 2) + 3)) rfl (hq_shN m19) rfl rfl (hq_fldr (hq_shN_u m19)) ?_
    refine hq_p 1 44 [some (.ref 113), some (.int a1), some (.int x2), none] [.int a1, .ref ((hq_gr s 113 2) + 3)] (fun n h => rfl) ?_
    obtain ⟨x20, hx20, h⟩ := hq_bind h
    refine hq_iaload rfl (hq_shN_3 m19) rfl hx20 ?_
    refine hq_p 3 48 [some (.ref 113), some (.int a1), some (.int x2), none] [.ref 113, .int (x20 + (1 : Int32))] (fun n h => rfl) ?_
    refine hq_gf (x := .ref (hq_gr s 113 0)) rfl rfl rfl rfl rfl ?_
    have m21 : hq_isT (hq_gr s 113 0) := hq_ifT h
    rw [if_pos m21] at h
    refine hq_gf (x := .ref ((hq_gr s 113 0) + 7)) rfl (hq_shT m21) rfl rfl (hq_fldr (hq_shT_u m21)) ?_
    refine hq_p 1 55 [some (.ref 113), some (.int a1), some (.int x2), none] [.int a1, .ref ((hq_gr s 113 0) + 7), .int (x20 + (1 : Int32))] (fun n h => rfl) ?_
    obtain ⟨x22, hx22, h⟩ := hq_bind h
    refine hq_iaload rfl (hq_shT_7 m21) rfl hx22 ?_
    obtain ⟨z23, hz23, h⟩ := hq_bind h
    suffices hT : hq_R (mm_O xs) d mc_X3_walkBeat 64 [some (.ref 113), some (.int a1), some (.int x2), none] [.int z23] s g none y from by
      clear h
      have h := hz23
      by_cases c24 : (x20 + (1 : Int32)) < x22
      · rw [if_pos c24] at h
        refine hq_icT rfl (hq_c_lt_T c24) ?_
        refine hq_p 1 64 [some (.ref 113), some (.int a1), some (.int x2), none] [.int (0 : Int32)] (fun n h => rfl) ?_
        cases h
        exact hT
      · rw [if_neg c24] at h
        refine hq_icF rfl (hq_c_lt_F c24) ?_
        refine hq_p 2 64 [some (.ref 113), some (.int a1), some (.int x2), none] [.int (1 : Int32)] (fun n h => rfl) ?_
        cases h
        exact hT
    refine hq_p 2 66 [some (.ref 113), some (.int a1), some (.int x2), some (.int z23)] [.ref 113] (fun n h => rfl) ?_
    refine hq_gf (x := .ref (hq_gr s 113 2)) rfl rfl rfl rfl rfl ?_
    have m25 : hq_isN (hq_gr s 113 2) := hq_ifT h
    rw [if_pos m25] at h
    refine hq_gf (x := .ref ((hq_gr s 113 2) + 3)) rfl (hq_shN m25) rfl rfl (hq_fldr (hq_shN_u m25)) ?_
    refine hq_p 2 74 [some (.ref 113), some (.int a1), some (.int x2), some (.int z23)] [.int z23, .int a1, .ref ((hq_gr s 113 2) + 3)] (fun n h => rfl) ?_
    obtain ⟨z26, hz26, h⟩ := hq_bind h
    suffices hT : hq_R (mm_O xs) d mc_X3_walkBeat 92 [some (.ref 113), some (.int a1), some (.int x2), some (.int z23)] [.int z26, .int a1, .ref ((hq_gr s 113 2) + 3)] s g none y from by
      clear h
      have h := hz26
      by_cases c27 : z23 = 0
      · rw [if_pos c27] at h
        refine hq_izT rfl (hq_c_eq_T c27) ?_
        refine hq_p 1 82 [some (.ref 113), some (.int a1), some (.int x2), some (.int z23)] [.ref 113, .int a1, .ref ((hq_gr s 113 2) + 3)] (fun n h => rfl) ?_
        refine hq_gf (x := .ref (hq_gr s 113 2)) rfl rfl rfl rfl rfl ?_
        have m28 : hq_isN (hq_gr s 113 2) := hq_ifT h
        rw [if_pos m28] at h
        refine hq_gf (x := .ref ((hq_gr s 113 2) + 3)) rfl (hq_shN m28) rfl rfl (hq_fldr (hq_shN_u m28)) ?_
        refine hq_p 1 89 [some (.ref 113), some (.int a1), some (.int x2), some (.int z23)] [.int a1, .ref ((hq_gr s 113 2) + 3), .int a1, .ref ((hq_gr s 113 2) + 3)] (fun n h => rfl) ?_
        obtain ⟨x29, hx29, h⟩ := hq_bind h
        refine hq_iaload rfl (hq_shN_3 m28) rfl hx29 ?_
        refine hq_p 2 92 [some (.ref 113), some (.int a1), some (.int x2), some (.int z23)] [.int (x29 + (1 : Int32)), .int a1, .ref ((hq_gr s 113 2) + 3)] (fun n h => rfl) ?_
        cases h
        exact hT
      · rw [if_neg c27] at h
        refine hq_izF rfl (hq_c_eq_F c27) ?_
        refine hq_p 2 92 [some (.ref 113), some (.int a1), some (.int x2), some (.int z23)] [.int (0 : Int32), .int a1, .ref ((hq_gr s 113 2) + 3)] (fun n h => rfl) ?_
        cases h
        exact hT
    obtain ⟨s30, hs30, h⟩ := hq_bind h
    refine hq_iastore rfl (hq_shN_3 m25) rfl hs30 ?_
    exact f_X3_walkBeat_J93_run hd h
  · rw [if_neg c8] at h
    refine hq_icT rfl (hq_c_ne_T c8) ?_
    exact f_X3_walkBeat_J93_run hd h
def f_X5_isFree (n : Nat) (k0 : Nat) (a1 : Int32) (s : hq_S) : Option (Int32 × hq_S) := (hq_ld s (k0 + 8) 4 a1).bind fun x1 => if x1 = (-2 : Int32) then some ((1 : Int32), s) else some ((0 : Int32), s)
theorem f_X5_isFree_run {xs : List Int32} {n d g : Nat} {k0 : Nat} {a1 : Int32} {s : hq_S} {y : (Int32 × hq_S)} (hd : 0 ≤ d) (m0_ : hq_isN k0) (h : f_X5_isFree n k0 a1 s = some y) : hq_R (mm_O xs) d mc_X5_isFree 0 [some (.ref k0), some (.int a1)] [] s g (some (.int y.1)) y.2 := by
  unfold f_X5_isFree at h
  refine hq_p 1 1 [some (.ref k0), some (.int a1)] [.ref k0] (fun n h => rfl) ?_
  refine hq_gf (x := .ref (k0 + 8)) rfl (hq_shN m0_) rfl rfl (hq_fldr (hq_shN_u m0_)) ?_
  refine hq_p 1 5 [some (.ref k0), some (.int a1)] [.int a1, .ref (k0 + 8)] (fun n h => rfl) ?_
  obtain ⟨x1, hx1, h⟩ := hq_bind h
  refine hq_iaload rfl (hq_shN_8 m0_) rfl hx1 ?_
  refine hq_p 1 8 [some (.ref k0), some (.int a1)] [.int (-2 : Int32), .int x1] (fun n h => rfl) ?_
  by_cases c2 : x1 = (-2 : Int32)
  · rw [if_pos c2] at h
    refine hq_icF rfl (hq_c_ne_F c2) ?_
    refine hq_p 2 16 [some (.ref k0), some (.int a1)] [.int (1 : Int32)] (fun n h => rfl) ?_
    cases h
    exact ⟨1, rfl⟩
  · rw [if_neg c2] at h
    refine hq_icT rfl (hq_c_ne_T c2) ?_
    refine hq_p 1 16 [some (.ref k0), some (.int a1)] [.int (0 : Int32)] (fun n h => rfl) ?_
    cases h
    exact ⟨1, rfl⟩
def f_X10_placeOf_L2_B (n : Nat) (q2 : Int32 → Nat → Int32 → Int32 → hq_S → Option (Int32 × hq_S)) (a0 : Int32) (k1 : Nat) (a2 : Int32) (a3 : Int32) (s : hq_S) : Option (Int32 × hq_S) := if a3 < a2 then (hq_alA k1).bind fun x2 => if a3 < x2 then (hq_ldiA s k1 a3).bind fun x4 => if x4 = a0 then some (a3, s) else q2 a0 k1 a2 (a3 + (1 : Int32)) s else some ((-1 : Int32), s) else some ((-1 : Int32), s)
def f_X10_placeOf_L2 (n : Nat) (m : Nat) : Int32 → Nat → Int32 → Int32 → hq_S → Option (Int32 × hq_S) := Nat.rec (fun _ _ _ _ _ => none) (fun _ q => f_X10_placeOf_L2_B n q) m
theorem f_X10_placeOf_L2_Brun {xs : List Int32} {n d g : Nat} {a0 : Int32} {k1 : Nat} {a2 : Int32} {a3 : Int32} {q2 : Int32 → Nat → Int32 → Int32 → hq_S → Option (Int32 × hq_S)} {s : hq_S} {y : (Int32 × hq_S)} (hd : 0 ≤ d) (e2 : ∀ (a0 : Int32) (k1 : Nat) (a2 : Int32) (a3 : Int32) (s : hq_S), q2 a0 k1 a2 a3 s = some y → hq_R (mm_O xs) d mc_X10_placeOf 2 [some (.int a0), some (.ref k1), some (.int a2), some (.int a3)] [] s g (some (.int y.1)) y.2) (h : f_X10_placeOf_L2_B n q2 a0 k1 a2 a3 s = some y) : hq_R (mm_O xs) d mc_X10_placeOf 2 [some (.int a0), some (.ref k1), some (.int a2), some (.int a3)] [] s g (some (.int y.1)) y.2 := by
  unfold f_X10_placeOf_L2_B at h
  refine hq_p 2 4 [some (.int a0), some (.ref k1), some (.int a2), some (.int a3)] [.int a2, .int a3] (fun n h => rfl) ?_
  by_cases c1 : a3 < a2
  · rw [if_pos c1] at h
    refine hq_icF rfl (hq_c_ge_F c1) ?_
    refine hq_p 2 9 [some (.int a0), some (.ref k1), some (.int a2), some (.int a3)] [.ref k1, .int a3] (fun n h => rfl) ?_
    obtain ⟨x2, hx2, h⟩ := hq_bind h
    refine hq_alenA rfl hx2 ?_
    by_cases c3 : a3 < x2
    · rw [if_pos c3] at h
      refine hq_icF rfl (hq_c_ge_F c3) ?_
      refine hq_p 2 15 [some (.int a0), some (.ref k1), some (.int a2), some (.int a3)] [.int a3, .ref k1] (fun n h => rfl) ?_
      obtain ⟨x4, hx4, h⟩ := hq_bind h
      refine hq_ialoadA rfl hx4 ?_
      refine hq_p 1 17 [some (.int a0), some (.ref k1), some (.int a2), some (.int a3)] [.int a0, .int x4] (fun n h => rfl) ?_
      by_cases c5 : x4 = a0
      · rw [if_pos c5] at h
        refine hq_icF rfl (hq_c_ne_F c5) ?_
        refine hq_p 1 21 [some (.int a0), some (.ref k1), some (.int a2), some (.int a3)] [.int a3] (fun n h => rfl) ?_
        cases h
        exact ⟨1, rfl⟩
      · rw [if_neg c5] at h
        refine hq_icT rfl (hq_c_ne_T c5) ?_
        refine hq_p 2 2 [some (.int a0), some (.ref k1), some (.int a2), some (.int (a3 + (1 : Int32)))] [] (fun n h => rfl) ?_
        exact e2 a0 k1 a2 (a3 + (1 : Int32)) s h
    · rw [if_neg c3] at h
      refine hq_icT rfl (hq_c_ge_T c3) ?_
      refine hq_p 1 29 [some (.int a0), some (.ref k1), some (.int a2), some (.int a3)] [.int (-1 : Int32)] (fun n h => rfl) ?_
      cases h
      exact ⟨1, rfl⟩
  · rw [if_neg c1] at h
    refine hq_icT rfl (hq_c_ge_T c1) ?_
    refine hq_p 1 29 [some (.int a0), some (.ref k1), some (.int a2), some (.int a3)] [.int (-1 : Int32)] (fun n h => rfl) ?_
    cases h
    exact ⟨1, rfl⟩
theorem f_X10_placeOf_L2_run {xs : List Int32} {n m d g : Nat} {a0 : Int32} {k1 : Nat} {a2 : Int32} {a3 : Int32} {s : hq_S} {y : (Int32 × hq_S)} (hd : 0 ≤ d) (h : f_X10_placeOf_L2 n m a0 k1 a2 a3 s = some y) : hq_R (mm_O xs) d mc_X10_placeOf 2 [some (.int a0), some (.ref k1), some (.int a2), some (.int a3)] [] s g (some (.int y.1)) y.2 := by
  induction m generalizing a0 k1 a2 a3 s with
  | zero => cases h
  | succ m ih => exact f_X10_placeOf_L2_Brun (n := n) hd (fun a0 k1 a2 a3 s h => ih h) h
def f_X10_placeOf (n : Nat) (a0 : Int32) (k1 : Nat) (a2 : Int32) (s : hq_S) : Option (Int32 × hq_S) := f_X10_placeOf_L2 n n a0 k1 a2 (0 : Int32) s
theorem f_X10_placeOf_run {xs : List Int32} {n d g : Nat} {a0 : Int32} {k1 : Nat} {a2 : Int32} {s : hq_S} {y : (Int32 × hq_S)} (hd : 0 ≤ d) (h : f_X10_placeOf n a0 k1 a2 s = some y) : hq_R (mm_O xs) d mc_X10_placeOf 0 [some (.int a0), some (.ref k1), some (.int a2), none] [] s g (some (.int y.1)) y.2 := by
  unfold f_X10_placeOf at h
  refine hq_p 2 2 [some (.int a0), some (.ref k1), some (.int a2), some (.int (0 : Int32))] [] (fun n h => rfl) ?_
  exact f_X10_placeOf_L2_run hd h
def f_X11_isLane (n : Nat) (a1 : Int32) (s : hq_S) : Option (Int32 × hq_S) := if a1 < 0 then some ((0 : Int32), s) else if hq_isT (hq_gr s 0 2) then if a1 < (hq_gi s (hq_gr s 0 2) 3) then some ((1 : Int32), s) else some ((0 : Int32), s) else none
theorem f_X11_isLane_run {xs : List Int32} {n d g : Nat} {a1 : Int32} {s : hq_S} {y : (Int32 × hq_S)} (hd : 0 ≤ d) (h : f_X11_isLane n a1 s = some y) : hq_R (mm_O xs) d mc_X11_isLane 0 [some (.ref 0), some (.int a1)] [] s g (some (.int y.1)) y.2 := by
  unfold f_X11_isLane at h
  refine hq_p 1 1 [some (.ref 0), some (.int a1)] [.int a1] (fun n h => rfl) ?_
  by_cases c1 : a1 < 0
  · rw [if_pos c1] at h
    refine hq_izT rfl (hq_c_lt_T c1) ?_
    refine hq_p 1 20 [some (.ref 0), some (.int a1)] [.int (0 : Int32)] (fun n h => rfl) ?_
    cases h
    exact ⟨1, rfl⟩
  · rw [if_neg c1] at h
    refine hq_izF rfl (hq_c_lt_F c1) ?_
    refine hq_p 2 6 [some (.ref 0), some (.int a1)] [.ref 0, .int a1] (fun n h => rfl) ?_
    refine hq_gf (x := .ref (hq_gr s 0 2)) rfl rfl rfl rfl rfl ?_
    have m2 : hq_isT (hq_gr s 0 2) := hq_ifT h
    rw [if_pos m2] at h
    refine hq_gf (x := .int (hq_gi s (hq_gr s 0 2) 3)) rfl (hq_shT m2) rfl rfl rfl ?_
    by_cases c3 : a1 < (hq_gi s (hq_gr s 0 2) 3)
    · rw [if_pos c3] at h
      refine hq_icF rfl (hq_c_ge_F c3) ?_
      refine hq_p 2 20 [some (.ref 0), some (.int a1)] [.int (1 : Int32)] (fun n h => rfl) ?_
      cases h
      exact ⟨1, rfl⟩
    · rw [if_neg c3] at h
      refine hq_icT rfl (hq_c_ge_T c3) ?_
      refine hq_p 1 20 [some (.ref 0), some (.int a1)] [.int (0 : Int32)] (fun n h => rfl) ?_
      cases h
      exact ⟨1, rfl⟩
def f_X11_lane (n : Nat) (a1 : Int32) (a2 : Int32) (s : hq_S) : Option (Int32 × hq_S) := (f_X11_isLane n a1 s).bind fun y1 => if y1.1 = 0 then some ((-1 : Int32), y1.2) else if a2 = (0 : Int32) then if hq_isT (hq_gr y1.2 0 2) then (hq_ld y1.2 ((hq_gr y1.2 0 2) + 3) 20 a1).bind fun x5 => some (x5, y1.2) else none else if a2 = (1 : Int32) then if hq_isT (hq_gr y1.2 0 2) then (hq_ld y1.2 ((hq_gr y1.2 0 2) + 4) 20 a1).bind fun x8 => some (x8, y1.2) else none else if a2 = (2 : Int32) then if hq_isT (hq_gr y1.2 0 2) then some ((((hq_gi y1.2 (hq_gr y1.2 0 2) 6) >>> (a1 &&& 31)) &&& (1 : Int32)), y1.2) else none else if a2 = (3 : Int32) then some ((((hq_gi y1.2 76 2) >>> (a1 &&& 31)) &&& (1 : Int32)), y1.2) else some ((-1 : Int32), y1.2)
theorem f_X11_lane_run {xs : List Int32} {n d g : Nat} {a1 : Int32} {a2 : Int32} {s : hq_S} {y : (Int32 × hq_S)} (hd : 1 ≤ d) (h : f_X11_lane n a1 a2 s = some y) : hq_R (mm_O xs) d mc_X11_lane 0 [some (.ref 0), some (.int a1), some (.int a2)] [] s g (some (.int y.1)) y.2 := by
  unfold f_X11_lane at h
  refine hq_p 2 2 [some (.ref 0), some (.int a1), some (.int a2)] [.int a1, .ref 0] (fun n h => rfl) ?_
  obtain ⟨y1, hy1, h⟩ := hq_bind h
  refine hq_inv rfl rfl (Nat.le_trans (by decide) hd) rfl rfl (hq_rcv rfl rfl) (f_X11_isLane_run (Nat.le_sub_of_add_le (Nat.le_trans (by decide) hd)) hy1) rfl ?_
  by_cases c2 : y1.1 = 0
  · rw [if_pos c2] at h
    refine hq_izF rfl (hq_c_ne_F c2) ?_
    refine hq_p 1 9 [some (.ref 0), some (.int a1), some (.int a2)] [.int (-1 : Int32)] (fun n h => rfl) ?_
    cases h
    exact ⟨1, rfl⟩
  · rw [if_neg c2] at h
    refine hq_izT rfl (hq_c_ne_T c2) ?_
    refine hq_p 1 11 [some (.ref 0), some (.int a1), some (.int a2)] [.int a2] (fun n h => rfl) ?_
    by_cases c3 : a2 = (0 : Int32)
    · rw [if_pos c3] at h
      refine hq_tsw rfl (show _ = some 40 from by rw [c3]; decide) ?_
      refine hq_p 1 41 [some (.ref 0), some (.int a1), some (.int a2)] [.ref 0] (fun n h => rfl) ?_
      refine hq_gf (x := .ref (hq_gr y1.2 0 2)) rfl rfl rfl rfl rfl ?_
      have m4 : hq_isT (hq_gr y1.2 0 2) := hq_ifT h
      rw [if_pos m4] at h
      refine hq_gf (x := .ref ((hq_gr y1.2 0 2) + 3)) rfl (hq_shT m4) rfl rfl (hq_fldr (hq_shT_u m4)) ?_
      refine hq_p 1 48 [some (.ref 0), some (.int a1), some (.int a2)] [.int a1, .ref ((hq_gr y1.2 0 2) + 3)] (fun n h => rfl) ?_
      obtain ⟨x5, hx5, h⟩ := hq_bind h
      refine hq_iaload rfl (hq_shT_3 m4) rfl hx5 ?_
      cases h
      exact ⟨1, rfl⟩
    rw [if_neg c3] at h
    by_cases c6 : a2 = (1 : Int32)
    · rw [if_pos c6] at h
      refine hq_tsw rfl (show _ = some 50 from by rw [c6]; decide) ?_
      refine hq_p 1 51 [some (.ref 0), some (.int a1), some (.int a2)] [.ref 0] (fun n h => rfl) ?_
      refine hq_gf (x := .ref (hq_gr y1.2 0 2)) rfl rfl rfl rfl rfl ?_
      have m7 : hq_isT (hq_gr y1.2 0 2) := hq_ifT h
      rw [if_pos m7] at h
      refine hq_gf (x := .ref ((hq_gr y1.2 0 2) + 4)) rfl (hq_shT m7) rfl rfl (hq_fldr (hq_shT_u m7)) ?_
      refine hq_p 1 58 [some (.ref 0), some (.int a1), some (.int a2)] [.int a1, .ref ((hq_gr y1.2 0 2) + 4)] (fun n h => rfl) ?_
      obtain ⟨x8, hx8, h⟩ := hq_bind h
      refine hq_iaload rfl (hq_shT_4 m7) rfl hx8 ?_
      cases h
      exact ⟨1, rfl⟩
    rw [if_neg c6] at h
    by_cases c9 : a2 = (2 : Int32)
    · rw [if_pos c9] at h
      refine hq_tsw rfl (show _ = some 60 from by rw [c9]; decide) ?_
      refine hq_p 1 61 [some (.ref 0), some (.int a1), some (.int a2)] [.ref 0] (fun n h => rfl) ?_
      refine hq_gf (x := .ref (hq_gr y1.2 0 2)) rfl rfl rfl rfl rfl ?_
      have m10 : hq_isT (hq_gr y1.2 0 2) := hq_ifT h
      rw [if_pos m10] at h
      refine hq_gf (x := .int (hq_gi y1.2 (hq_gr y1.2 0 2) 6)) rfl (hq_shT m10) rfl rfl rfl ?_
      refine hq_p 4 71 [some (.ref 0), some (.int a1), some (.int a2)] [.int (((hq_gi y1.2 (hq_gr y1.2 0 2) 6) >>> (a1 &&& 31)) &&& (1 : Int32))] (fun n h => rfl) ?_
      cases h
      exact ⟨1, rfl⟩
    rw [if_neg c9] at h
    by_cases c11 : a2 = (3 : Int32)
    · rw [if_pos c11] at h
      refine hq_tsw rfl (show _ = some 72 from by rw [c11]; decide) ?_
      refine hq_p 1 73 [some (.ref 0), some (.int a1), some (.int a2)] [.ref 0] (fun n h => rfl) ?_
      refine hq_gf (x := .ref 76) rfl rfl rfl rfl rfl ?_
      refine hq_gf (x := .int (hq_gi y1.2 76 2)) rfl rfl rfl rfl rfl ?_
      refine hq_p 4 83 [some (.ref 0), some (.int a1), some (.int a2)] [.int (((hq_gi y1.2 76 2) >>> (a1 &&& 31)) &&& (1 : Int32))] (fun n h => rfl) ?_
      cases h
      exact ⟨1, rfl⟩
    rw [if_neg c11] at h
    refine hq_tsw rfl (hq_tsw_d [(0 : Int32), (1 : Int32), (2 : Int32), (3 : Int32)] (by decide) rfl ⟨c3, c6, c9, c11, trivial⟩) ?_
    refine hq_p 1 85 [some (.ref 0), some (.int a1), some (.int a2)] [.int (-1 : Int32)] (fun n h => rfl) ?_
    cases h
    exact ⟨1, rfl⟩
def f_X12_laysFrom_L53_B (n : Nat) (q39 : Int32 → Int32 → Int32 → Int32 → hq_S → Option hq_S) (q53 : Int32 → Int32 → Int32 → Int32 → Int32 → Int32 → hq_S → Option hq_S) (a1 : Int32) (a2 : Int32) (a3 : Int32) (a4 : Int32) (a5 : Int32) (a6 : Int32) (s : hq_S) : Option hq_S := (hq_ld s 176 14 (0 : Int32)).bind fun x3 => if a6 < x3 then (if ((a3 >>> (a6 &&& 31)) &&& (1 : Int32)) = 0 then some (a5, s) else (hq_st s 207 100 (((10 : Int32) * a1) + a6) a4).bind fun s7 => (hq_ld s7 206 10 a6).bind fun x8 => some ((a5 ||| x8), s7)).bind fun z5 => q53 a1 a2 a3 a4 z5.1 (a6 + (1 : Int32)) z5.2 else q39 a1 a2 (a5 &&& (a2 ^^^ (-1 : Int32))) (a4 + (1 : Int32)) s
def f_X12_laysFrom_L53 (n : Nat) (q39 : Int32 → Int32 → Int32 → Int32 → hq_S → Option hq_S) (m : Nat) : Int32 → Int32 → Int32 → Int32 → Int32 → Int32 → hq_S → Option hq_S := Nat.rec (fun _ _ _ _ _ _ _ => none) (fun _ q => f_X12_laysFrom_L53_B n q39 q) m
theorem f_X12_laysFrom_L53_Brun {xs : List Int32} {n d g : Nat} {a1 : Int32} {a2 : Int32} {a3 : Int32} {a4 : Int32} {a5 : Int32} {a6 : Int32} {q39 : Int32 → Int32 → Int32 → Int32 → hq_S → Option hq_S} {q53 : Int32 → Int32 → Int32 → Int32 → Int32 → Int32 → hq_S → Option hq_S} {s : hq_S} {y : hq_S} (hd : 0 ≤ d) (e39 : ∀ (a1 : Int32) (a2 : Int32) (a3 : Int32) (a4 : Int32) (o5 : Option Value) (o6 : Option Value) (s : hq_S), q39 a1 a2 a3 a4 s = some y → hq_R (mm_O xs) d mc_X12_laysFrom 39 [some (.ref 174), some (.int a1), some (.int a2), some (.int a3), some (.int a4), o5, o6] [] s g none y) (e53 : ∀ (a1 : Int32) (a2 : Int32) (a3 : Int32) (a4 : Int32) (a5 : Int32) (a6 : Int32) (s : hq_S), q53 a1 a2 a3 a4 a5 a6 s = some y → hq_R (mm_O xs) d mc_X12_laysFrom 53 [some (.ref 174), some (.int a1), some (.int a2), some (.int a3), some (.int a4), some (.int a5), some (.int a6)] [] s g none y) (h : f_X12_laysFrom_L53_B n q39 q53 a1 a2 a3 a4 a5 a6 s = some y) : hq_R (mm_O xs) d mc_X12_laysFrom 53 [some (.ref 174), some (.int a1), some (.int a2), some (.int a3), some (.int a4), some (.int a5), some (.int a6)] [] s g none y := by
  unfold f_X12_laysFrom_L53_B at h
  refine hq_p 2 56 [some (.ref 174), some (.int a1), some (.int a2), some (.int a3), some (.int a4), some (.int a5), some (.int a6)] [.ref 174, .int a6] (fun n h => rfl) ?_
  refine hq_gf (x := .ref 176) rfl rfl rfl rfl rfl ?_
  refine hq_p 1 60 [some (.ref 174), some (.int a1), some (.int a2), some (.int a3), some (.int a4), some (.int a5), some (.int a6)] [.int (0 : Int32), .ref 176, .int a6] (fun n h => rfl) ?_
  obtain ⟨x3, hx3, h⟩ := hq_bind h
  refine hq_iaload rfl rfl rfl hx3 ?_
  by_cases c4 : a6 < x3
  · rw [if_pos c4] at h
    refine hq_icF rfl (hq_c_ge_F c4) ?_
    refine hq_p 5 70 [some (.ref 174), some (.int a1), some (.int a2), some (.int a3), some (.int a4), some (.int a5), some (.int a6)] [.int ((a3 >>> (a6 &&& 31)) &&& (1 : Int32))] (fun n h => rfl) ?_
    obtain ⟨z5, hz5, h⟩ := hq_bind h
    suffices hT : hq_R (mm_O xs) d mc_X12_laysFrom 102 [some (.ref 174), some (.int a1), some (.int a2), some (.int a3), some (.int a4), some (.int z5.1), some (.int a6)] [] z5.2 g none y from by
      clear h
      have h := hz5
      by_cases c6 : ((a3 >>> (a6 &&& 31)) &&& (1 : Int32)) = 0
      · rw [if_pos c6] at h
        refine hq_izF rfl (hq_c_ne_F c6) ?_
        refine hq_p 1 102 [some (.ref 174), some (.int a1), some (.int a2), some (.int a3), some (.int a4), some (.int a5), some (.int a6)] [] (fun n h => rfl) ?_
        cases h
        exact hT
      · rw [if_neg c6] at h
        refine hq_izT rfl (hq_c_ne_T c6) ?_
        refine hq_p 1 77 [some (.ref 174), some (.int a1), some (.int a2), some (.int a3), some (.int a4), some (.int a5), some (.int a6)] [.ref 174] (fun n h => rfl) ?_
        refine hq_gf (x := .ref 207) rfl rfl rfl rfl rfl ?_
        refine hq_p 6 89 [some (.ref 174), some (.int a1), some (.int a2), some (.int a3), some (.int a4), some (.int a5), some (.int a6)] [.int a4, .int (((10 : Int32) * a1) + a6), .ref 207] (fun n h => rfl) ?_
        obtain ⟨s7, hs7, h⟩ := hq_bind h
        refine hq_iastore rfl rfl rfl hs7 ?_
        refine hq_p 2 93 [some (.ref 174), some (.int a1), some (.int a2), some (.int a3), some (.int a4), some (.int a5), some (.int a6)] [.ref 174, .int a5] (fun n h => rfl) ?_
        refine hq_gf (x := .ref 206) rfl rfl rfl rfl rfl ?_
        refine hq_p 1 98 [some (.ref 174), some (.int a1), some (.int a2), some (.int a3), some (.int a4), some (.int a5), some (.int a6)] [.int a6, .ref 206, .int a5] (fun n h => rfl) ?_
        obtain ⟨x8, hx8, h⟩ := hq_bind h
        refine hq_iaload rfl rfl rfl hx8 ?_
        refine hq_p 2 102 [some (.ref 174), some (.int a1), some (.int a2), some (.int a3), some (.int a4), some (.int (a5 ||| x8)), some (.int a6)] [] (fun n h => rfl) ?_
        cases h
        exact hT
    refine hq_p 2 53 [some (.ref 174), some (.int a1), some (.int a2), some (.int a3), some (.int a4), some (.int z5.1), some (.int (a6 + (1 : Int32)))] [] (fun n h => rfl) ?_
    exact e53 a1 a2 a3 a4 z5.1 (a6 + (1 : Int32)) z5.2 h
  · rw [if_neg c4] at h
    refine hq_icT rfl (hq_c_ge_T c4) ?_
    refine hq_p 8 39 [some (.ref 174), some (.int a1), some (.int a2), some (.int (a5 &&& (a2 ^^^ (-1 : Int32)))), some (.int (a4 + (1 : Int32))), some (.int a5), some (.int a6)] [] (fun n h => rfl) ?_
    exact e39 a1 a2 (a5 &&& (a2 ^^^ (-1 : Int32))) (a4 + (1 : Int32)) _ _ s h
theorem f_X12_laysFrom_L53_run {xs : List Int32} {n m d g : Nat} {a1 : Int32} {a2 : Int32} {a3 : Int32} {a4 : Int32} {a5 : Int32} {a6 : Int32} {q39 : Int32 → Int32 → Int32 → Int32 → hq_S → Option hq_S} {s : hq_S} {y : hq_S} (hd : 0 ≤ d) (e39 : ∀ (a1 : Int32) (a2 : Int32) (a3 : Int32) (a4 : Int32) (o5 : Option Value) (o6 : Option Value) (s : hq_S), q39 a1 a2 a3 a4 s = some y → hq_R (mm_O xs) d mc_X12_laysFrom 39 [some (.ref 174), some (.int a1), some (.int a2), some (.int a3), some (.int a4), o5, o6] [] s g none y) (h : f_X12_laysFrom_L53 n q39 m a1 a2 a3 a4 a5 a6 s = some y) : hq_R (mm_O xs) d mc_X12_laysFrom 53 [some (.ref 174), some (.int a1), some (.int a2), some (.int a3), some (.int a4), some (.int a5), some (.int a6)] [] s g none y := by
  induction m generalizing a1 a2 a3 a4 a5 a6 s with
  | zero => cases h
  | succ m ih => exact f_X12_laysFrom_L53_Brun (n := n) hd e39 (fun a1 a2 a3 a4 a5 a6 s h => ih h) h
def f_X12_laysFrom_L39_B (n : Nat) (q39 : Int32 → Int32 → Int32 → Int32 → hq_S → Option hq_S) (a1 : Int32) (a2 : Int32) (a3 : Int32) (a4 : Int32) (s : hq_S) : Option hq_S := if a3 = 0 then some s else f_X12_laysFrom_L53 n q39 n a1 (a2 ||| a3) a3 a4 (0 : Int32) (0 : Int32) s
def f_X12_laysFrom_L39 (n : Nat) (m : Nat) : Int32 → Int32 → Int32 → Int32 → hq_S → Option hq_S := Nat.rec (fun _ _ _ _ _ => none) (fun _ q => f_X12_laysFrom_L39_B n q) m
theorem f_X12_laysFrom_L39_Brun {xs : List Int32} {n d g : Nat} {a1 : Int32} {a2 : Int32} {a3 : Int32} {a4 : Int32} {o5 : Option Value} {o6 : Option Value} {q39 : Int32 → Int32 → Int32 → Int32 → hq_S → Option hq_S} {s : hq_S} {y : hq_S} (hd : 0 ≤ d) (e39 : ∀ (a1 : Int32) (a2 : Int32) (a3 : Int32) (a4 : Int32) (o5 : Option Value) (o6 : Option Value) (s : hq_S), q39 a1 a2 a3 a4 s = some y → hq_R (mm_O xs) d mc_X12_laysFrom 39 [some (.ref 174), some (.int a1), some (.int a2), some (.int a3), some (.int a4), o5, o6] [] s g none y) (h : f_X12_laysFrom_L39_B n q39 a1 a2 a3 a4 s = some y) : hq_R (mm_O xs) d mc_X12_laysFrom 39 [some (.ref 174), some (.int a1), some (.int a2), some (.int a3), some (.int a4), o5, o6] [] s g none y := by
  unfold f_X12_laysFrom_L39_B at h
  refine hq_p 1 40 [some (.ref 174), some (.int a1), some (.int a2), some (.int a3), some (.int a4), o5, o6] [.int a3] (fun n h => rfl) ?_
  by_cases c2 : a3 = 0
  · rw [if_pos c2] at h
    refine hq_izT rfl (hq_c_eq_T c2) ?_
    cases h
    exact ⟨1, rfl⟩
  · rw [if_neg c2] at h
    refine hq_izF rfl (hq_c_eq_F c2) ?_
    refine hq_p 8 53 [some (.ref 174), some (.int a1), some (.int (a2 ||| a3)), some (.int a3), some (.int a4), some (.int (0 : Int32)), some (.int (0 : Int32))] [] (fun n h => rfl) ?_
    exact f_X12_laysFrom_L53_run hd e39 h
theorem f_X12_laysFrom_L39_run {xs : List Int32} {n m d g : Nat} {a1 : Int32} {a2 : Int32} {a3 : Int32} {a4 : Int32} {o5 : Option Value} {o6 : Option Value} {s : hq_S} {y : hq_S} (hd : 0 ≤ d) (h : f_X12_laysFrom_L39 n m a1 a2 a3 a4 s = some y) : hq_R (mm_O xs) d mc_X12_laysFrom 39 [some (.ref 174), some (.int a1), some (.int a2), some (.int a3), some (.int a4), o5, o6] [] s g none y := by
  induction m generalizing a1 a2 a3 a4 o5 o6 s with
  | zero => cases h
  | succ m ih => exact f_X12_laysFrom_L39_Brun (n := n) hd (fun a1 a2 a3 a4 o5 o6 s h => ih h) h
def f_X12_laysFrom_L9_B (n : Nat) (q9 : Int32 → Int32 → Int32 → Int32 → hq_S → Option hq_S) (a1 : Int32) (a2 : Int32) (a3 : Int32) (a4 : Int32) (s : hq_S) : Option hq_S := if a4 < (10 : Int32) then (hq_st s 207 100 (((10 : Int32) * a1) + a4) (99 : Int32)).bind fun s9 => q9 a1 a2 a3 (a4 + (1 : Int32)) s9 else f_X12_laysFrom_L39 n n a1 a2 a3 (0 : Int32) s
def f_X12_laysFrom_L9 (n : Nat) (m : Nat) : Int32 → Int32 → Int32 → Int32 → hq_S → Option hq_S := Nat.rec (fun _ _ _ _ _ => none) (fun _ q => f_X12_laysFrom_L9_B n q) m
theorem f_X12_laysFrom_L9_Brun {xs : List Int32} {n d g : Nat} {a1 : Int32} {a2 : Int32} {a3 : Int32} {a4 : Int32} {q9 : Int32 → Int32 → Int32 → Int32 → hq_S → Option hq_S} {s : hq_S} {y : hq_S} (hd : 0 ≤ d) (e9 : ∀ (a1 : Int32) (a2 : Int32) (a3 : Int32) (a4 : Int32) (s : hq_S), q9 a1 a2 a3 a4 s = some y → hq_R (mm_O xs) d mc_X12_laysFrom 9 [some (.ref 174), some (.int a1), some (.int a2), some (.int a3), some (.int a4), none, none] [] s g none y) (h : f_X12_laysFrom_L9_B n q9 a1 a2 a3 a4 s = some y) : hq_R (mm_O xs) d mc_X12_laysFrom 9 [some (.ref 174), some (.int a1), some (.int a2), some (.int a3), some (.int a4), none, none] [] s g none y := by
  unfold f_X12_laysFrom_L9_B at h
  refine hq_p 2 13 [some (.ref 174), some (.int a1), some (.int a2), some (.int a3), some (.int a4), none, none] [.int (10 : Int32), .int a4] (fun n h => rfl) ?_
  by_cases c1 : a4 < (10 : Int32)
  · rw [if_pos c1] at h
    refine hq_icF rfl (hq_c_ge_F c1) ?_
    refine hq_p 1 17 [some (.ref 174), some (.int a1), some (.int a2), some (.int a3), some (.int a4), none, none] [.ref 174] (fun n h => rfl) ?_
    refine hq_gf (x := .ref 207) rfl rfl rfl rfl rfl ?_
    refine hq_p 6 29 [some (.ref 174), some (.int a1), some (.int a2), some (.int a3), some (.int a4), none, none] [.int (99 : Int32), .int (((10 : Int32) * a1) + a4), .ref 207] (fun n h => rfl) ?_
    obtain ⟨s9, hs9, h⟩ := hq_bind h
    refine hq_iastore rfl rfl rfl hs9 ?_
    refine hq_p 2 9 [some (.ref 174), some (.int a1), some (.int a2), some (.int a3), some (.int (a4 + (1 : Int32))), none, none] [] (fun n h => rfl) ?_
    exact e9 a1 a2 a3 (a4 + (1 : Int32)) s9 h
  · rw [if_neg c1] at h
    refine hq_icT rfl (hq_c_ge_T c1) ?_
    refine hq_p 2 39 [some (.ref 174), some (.int a1), some (.int a2), some (.int a3), some (.int (0 : Int32)), none, none] [] (fun n h => rfl) ?_
    exact f_X12_laysFrom_L39_run hd h
theorem f_X12_laysFrom_L9_run {xs : List Int32} {n m d g : Nat} {a1 : Int32} {a2 : Int32} {a3 : Int32} {a4 : Int32} {s : hq_S} {y : hq_S} (hd : 0 ≤ d) (h : f_X12_laysFrom_L9 n m a1 a2 a3 a4 s = some y) : hq_R (mm_O xs) d mc_X12_laysFrom 9 [some (.ref 174), some (.int a1), some (.int a2), some (.int a3), some (.int a4), none, none] [] s g none y := by
  induction m generalizing a1 a2 a3 a4 s with
  | zero => cases h
  | succ m ih => exact f_X12_laysFrom_L9_Brun (n := n) hd (fun a1 a2 a3 a4 s h => ih h) h
def f_X12_laysFrom (n : Nat) (a1 : Int32) (s : hq_S) : Option hq_S := f_X12_laysFrom_L9 n n a1 (0 : Int32) ((1 : Int32) <<< (a1 &&& 31)) (0 : Int32) s
theorem f_X12_laysFrom_run {xs : List Int32} {n d g : Nat} {a1 : Int32} {s : hq_S} {y : hq_S} (hd : 0 ≤ d) (h : f_X12_laysFrom n a1 s = some y) : hq_R (mm_O xs) d mc_X12_laysFrom 0 [some (.ref 174), some (.int a1), none, none, none, none, none] [] s g none y := by
  unfold f_X12_laysFrom at h
  refine hq_p 8 9 [some (.ref 174), some (.int a1), some (.int (0 : Int32)), some (.int ((1 : Int32) <<< (a1 &&& 31))), some (.int (0 : Int32)), none, none] [] (fun n h => rfl) ?_
  exact f_X12_laysFrom_L9_run hd h
def f_X12_lays_L127_B (n : Nat) (q127 : Int32 → Int32 → hq_S → Option hq_S) (a1 : Int32) (a2 : Int32) (s : hq_S) : Option hq_S := (hq_ld s 176 14 (0 : Int32)).bind fun x4 => if a2 < x4 then (f_X12_laysFrom n a2 s).bind fun s6 => q127 a1 (a2 + (1 : Int32)) s6 else some s
def f_X12_lays_L127 (n : Nat) (m : Nat) : Int32 → Int32 → hq_S → Option hq_S := Nat.rec (fun _ _ _ => none) (fun _ q => f_X12_lays_L127_B n q) m
theorem f_X12_lays_L127_Brun {xs : List Int32} {n d g : Nat} {a1 : Int32} {a2 : Int32} {q127 : Int32 → Int32 → hq_S → Option hq_S} {s : hq_S} {y : hq_S} (hd : 1 ≤ d) (e127 : ∀ (a1 : Int32) (a2 : Int32) (s : hq_S), q127 a1 a2 s = some y → hq_R (mm_O xs) d mc_X12_lays 127 [some (.ref 174), some (.int a1), some (.int a2)] [] s g none y) (h : f_X12_lays_L127_B n q127 a1 a2 s = some y) : hq_R (mm_O xs) d mc_X12_lays 127 [some (.ref 174), some (.int a1), some (.int a2)] [] s g none y := by
  unfold f_X12_lays_L127_B at h
  refine hq_p 2 129 [some (.ref 174), some (.int a1), some (.int a2)] [.ref 174, .int a2] (fun n h => rfl) ?_
  refine hq_gf (x := .ref 176) rfl rfl rfl rfl rfl ?_
  refine hq_p 1 133 [some (.ref 174), some (.int a1), some (.int a2)] [.int (0 : Int32), .ref 176, .int a2] (fun n h => rfl) ?_
  obtain ⟨x4, hx4, h⟩ := hq_bind h
  refine hq_iaload rfl rfl rfl hx4 ?_
  by_cases c5 : a2 < x4
  · rw [if_pos c5] at h
    refine hq_icF rfl (hq_c_ge_F c5) ?_
    refine hq_p 2 139 [some (.ref 174), some (.int a1), some (.int a2)] [.int a2, .ref 174] (fun n h => rfl) ?_
    obtain ⟨s6, hs6, h⟩ := hq_bind h
    refine hq_inv rfl rfl (Nat.le_trans (by decide) hd) rfl rfl (hq_rcv rfl rfl) (f_X12_laysFrom_run (Nat.le_sub_of_add_le (Nat.le_trans (by decide) hd)) hs6) rfl ?_
    refine hq_p 2 127 [some (.ref 174), some (.int a1), some (.int (a2 + (1 : Int32)))] [] (fun n h => rfl) ?_
    exact e127 a1 (a2 + (1 : Int32)) s6 h
  · rw [if_neg c5] at h
    refine hq_icT rfl (hq_c_ge_T c5) ?_
    cases h
    exact ⟨1, rfl⟩
theorem f_X12_lays_L127_run {xs : List Int32} {n m d g : Nat} {a1 : Int32} {a2 : Int32} {s : hq_S} {y : hq_S} (hd : 1 ≤ d) (h : f_X12_lays_L127 n m a1 a2 s = some y) : hq_R (mm_O xs) d mc_X12_lays 127 [some (.ref 174), some (.int a1), some (.int a2)] [] s g none y := by
  induction m generalizing a1 a2 s with
  | zero => cases h
  | succ m ih => exact f_X12_lays_L127_Brun (n := n) hd (fun a1 a2 s h => ih h) h
def f_X12_lays_L23_B (n : Nat) (q23 : Int32 → Int32 → hq_S → Option hq_S) (a1 : Int32) (a2 : Int32) (s : hq_S) : Option hq_S := (hq_ld s 176 14 (1 : Int32)).bind fun x2 => if a2 < x2 then (hq_ld s 198 23 a1).bind fun x7 => (if ((x7 >>> (a2 &&& 31)) &&& (1 : Int32)) = (1 : Int32) then if (hq_gi s 174 49) = (4 : Int32) then (hq_ld s 180 40 a2).bind fun x26 => (hq_ld s 206 10 x26).bind fun x27 => (hq_ld s 181 40 a2).bind fun x28 => (hq_st s 206 10 x26 (x27 ||| ((1 : Int32) <<< (x28 &&& 31)))).bind fun s29 => (hq_ld s29 182 40 a2).bind fun x30 => if x30 = 0 then (hq_ld s29 181 40 a2).bind fun x32 => (hq_ld s29 206 10 x32).bind fun x33 => (hq_ld s29 180 40 a2).bind fun x34 => (hq_st s29 206 10 x32 (x33 ||| ((1 : Int32) <<< (x34 &&& 31)))).bind fun s35 => some s35 else if (hq_gi s29 174 49) = (4 : Int32) then (hq_ld s29 181 40 a2).bind fun x37 => (hq_ld s29 206 10 x37).bind fun x38 => (hq_ld s29 180 40 a2).bind fun x39 => (hq_st s29 206 10 x37 (x38 ||| ((1 : Int32) <<< (x39 &&& 31)))).bind fun s40 => some s40 else some s29 else some s else (hq_ld s 180 40 a2).bind fun x10 => (hq_ld s 206 10 x10).bind fun x11 => (hq_ld s 181 40 a2).bind fun x12 => (hq_st s 206 10 x10 (x11 ||| ((1 : Int32) <<< (x12 &&& 31)))).bind fun s13 => (hq_ld s13 182 40 a2).bind fun x14 => if x14 = 0 then (hq_ld s13 181 40 a2).bind fun x16 => (hq_ld s13 206 10 x16).bind fun x17 => (hq_ld s13 180 40 a2).bind fun x18 => (hq_st s13 206 10 x16 (x17 ||| ((1 : Int32) <<< (x18 &&& 31)))).bind fun s19 => some s19 else if (hq_gi s13 174 49) = (4 : Int32) then (hq_ld s13 181 40 a2).bind fun x21 => (hq_ld s13 206 10 x21).bind fun x22 => (hq_ld s13 180 40 a2).bind fun x23 => (hq_st s13 206 10 x21 (x22 ||| ((1 : Int32) <<< (x23 &&& 31)))).bind fun s24 => some s24 else some s13).bind fun z8 => q23 a1 (a2 + (1 : Int32)) z8 else f_X12_lays_L127 n n a1 (0 : Int32) s
def f_X12_lays_L23 (n : Nat) (m : Nat) : Int32 → Int32 → hq_S → Option hq_S := Nat.rec (fun _ _ _ => none) (fun _ q => f_X12_lays_L23_B n q) m
theorem f_X12_lays_L23_Brun {xs : List Int32} {n d g : Nat} {a1 : Int32} {a2 : Int32} {q23 : Int32 → Int32 → hq_S → Option hq_S} {s : hq_S} {y : hq_S} (hd : 1 ≤ d) (e23 : ∀ (a1 : Int32) (a2 : Int32) (s : hq_S), q23 a1 a2 s = some y → hq_R (mm_O xs) d mc_X12_lays 23 [some (.ref 174), some (.int a1), some (.int a2)] [] s g none y) (h : f_X12_lays_L23_B n q23 a1 a2 s = some y) : hq_R (mm_O xs) d mc_X12_lays 23 [some (.ref 174), some (.int a1), some (.int a2)] [] s g none y := by
  unfold f_X12_lays_L23_B at h
  refine hq_p 2 25 [some (.ref 174), some (.int a1), some (.int a2)] [.ref 174, .int a2] (fun n h => rfl) ?_
  refine hq_gf (x := .ref 176) rfl rfl rfl rfl rfl ?_
  refine hq_p 1 29 [some (.ref 174), some (.int a1), some (.int a2)] [.int (1 : Int32), .ref 176, .int a2] (fun n h => rfl) ?_
  obtain ⟨x2, hx2, h⟩ := hq_bind h
  refine hq_iaload rfl rfl rfl hx2 ?_
  by_cases c3 : a2 < x2
  · rw [if_pos c3] at h
    refine hq_icF rfl (hq_c_ge_F c3) ?_
    refine hq_p 1 34 [some (.ref 174), some (.int a1), some (.int a2)] [.ref 174] (fun n h => rfl) ?_
    refine hq_gf (x := .ref 198) rfl rfl rfl rfl rfl ?_
    refine hq_p 1 38 [some (.ref 174), some (.int a1), some (.int a2)] [.int a1, .ref 198] (fun n h => rfl) ?_
    obtain ⟨x7, hx7, h⟩ := hq_bind h
    refine hq_iaload rfl rfl rfl hx7 ?_
    refine hq_p 5 44 [some (.ref 174), some (.int a1), some (.int a2)] [.int (1 : Int32), .int ((x7 >>> (a2 &&& 31)) &&& (1 : Int32))] (fun n h => rfl) ?_
    obtain ⟨z8, hz8, h⟩ := hq_bind h
    suffices hT : hq_R (mm_O xs) d mc_X12_lays 119 [some (.ref 174), some (.int a1), some (.int a2)] [] z8 g none y from by
      clear h
      have h := hz8
      by_cases c9 : ((x7 >>> (a2 &&& 31)) &&& (1 : Int32)) = (1 : Int32)
      · rw [if_pos c9] at h
        refine hq_icF rfl (hq_c_ne_F c9) ?_
        refine hq_p 1 48 [some (.ref 174), some (.int a1), some (.int a2)] [.ref 174] (fun n h => rfl) ?_
        refine hq_gf (x := .int (hq_gi s 174 49)) rfl rfl rfl rfl rfl ?_
        refine hq_p 1 52 [some (.ref 174), some (.int a1), some (.int a2)] [.int (4 : Int32), .int (hq_gi s 174 49)] (fun n h => rfl) ?_
        by_cases c25 : (hq_gi s 174 49) = (4 : Int32)
        · rw [if_pos c25] at h
          refine hq_icT rfl (hq_c_eq_T c25) ?_
          refine hq_p 1 59 [some (.ref 174), some (.int a1), some (.int a2)] [.ref 174] (fun n h => rfl) ?_
          refine hq_gf (x := .ref 206) rfl rfl rfl rfl rfl ?_
          refine hq_p 1 63 [some (.ref 174), some (.int a1), some (.int a2)] [.ref 174, .ref 206] (fun n h => rfl) ?_
          refine hq_gf (x := .ref 180) rfl rfl rfl rfl rfl ?_
          refine hq_p 1 67 [some (.ref 174), some (.int a1), some (.int a2)] [.int a2, .ref 180, .ref 206] (fun n h => rfl) ?_
          obtain ⟨x26, hx26, h⟩ := hq_bind h
          refine hq_iaload rfl rfl rfl hx26 ?_
          refine hq_p 1 69 [some (.ref 174), some (.int a1), some (.int a2)] [.int x26, .ref 206, .int x26, .ref 206] (fun n h => rfl) ?_
          obtain ⟨x27, hx27, h⟩ := hq_bind h
          refine hq_iaload rfl rfl rfl hx27 ?_
          refine hq_p 2 72 [some (.ref 174), some (.int a1), some (.int a2)] [.ref 174, .int (1 : Int32), .int x27, .int x26, .ref 206] (fun n h => rfl) ?_
          refine hq_gf (x := .ref 181) rfl rfl rfl rfl rfl ?_
          refine hq_p 1 76 [some (.ref 174), some (.int a1), some (.int a2)] [.int a2, .ref 181, .int (1 : Int32), .int x27, .int x26, .ref 206] (fun n h => rfl) ?_
          obtain ⟨x28, hx28, h⟩ := hq_bind h
          refine hq_iaload rfl rfl rfl hx28 ?_
          refine hq_p 2 79 [some (.ref 174), some (.int a1), some (.int a2)] [.int (x27 ||| ((1 : Int32) <<< (x28 &&& 31))), .int x26, .ref 206] (fun n h => rfl) ?_
          obtain ⟨s29, hs29, h⟩ := hq_bind h
          refine hq_iastore rfl rfl rfl hs29 ?_
          refine hq_p 1 81 [some (.ref 174), some (.int a1), some (.int a2)] [.ref 174] (fun n h => rfl) ?_
          refine hq_gf (x := .ref 182) rfl rfl rfl rfl rfl ?_
          refine hq_p 1 85 [some (.ref 174), some (.int a1), some (.int a2)] [.int a2, .ref 182] (fun n h => rfl) ?_
          obtain ⟨x30, hx30, h⟩ := hq_bind h
          refine hq_iaload rfl rfl rfl hx30 ?_
          by_cases c31 : x30 = 0
          · rw [if_pos c31] at h
            refine hq_izT rfl (hq_c_eq_T c31) ?_
            refine hq_p 1 98 [some (.ref 174), some (.int a1), some (.int a2)] [.ref 174] (fun n h => rfl) ?_
            refine hq_gf (x := .ref 206) rfl rfl rfl rfl rfl ?_
            refine hq_p 1 102 [some (.ref 174), some (.int a1), some (.int a2)] [.ref 174, .ref 206] (fun n h => rfl) ?_
            refine hq_gf (x := .ref 181) rfl rfl rfl rfl rfl ?_
            refine hq_p 1 106 [some (.ref 174), some (.int a1), some (.int a2)] [.int a2, .ref 181, .ref 206] (fun n h => rfl) ?_
            obtain ⟨x32, hx32, h⟩ := hq_bind h
            refine hq_iaload rfl rfl rfl hx32 ?_
            refine hq_p 1 108 [some (.ref 174), some (.int a1), some (.int a2)] [.int x32, .ref 206, .int x32, .ref 206] (fun n h => rfl) ?_
            obtain ⟨x33, hx33, h⟩ := hq_bind h
            refine hq_iaload rfl rfl rfl hx33 ?_
            refine hq_p 2 111 [some (.ref 174), some (.int a1), some (.int a2)] [.ref 174, .int (1 : Int32), .int x33, .int x32, .ref 206] (fun n h => rfl) ?_
            refine hq_gf (x := .ref 180) rfl rfl rfl rfl rfl ?_
            refine hq_p 1 115 [some (.ref 174), some (.int a1), some (.int a2)] [.int a2, .ref 180, .int (1 : Int32), .int x33, .int x32, .ref 206] (fun n h => rfl) ?_
            obtain ⟨x34, hx34, h⟩ := hq_bind h
            refine hq_iaload rfl rfl rfl hx34 ?_
            refine hq_p 2 118 [some (.ref 174), some (.int a1), some (.int a2)] [.int (x33 ||| ((1 : Int32) <<< (x34 &&& 31))), .int x32, .ref 206] (fun n h => rfl) ?_
            obtain ⟨s35, hs35, h⟩ := hq_bind h
            refine hq_iastore rfl rfl rfl hs35 ?_
            cases h
            exact hT
          · rw [if_neg c31] at h
            refine hq_izF rfl (hq_c_eq_F c31) ?_
            refine hq_p 1 90 [some (.ref 174), some (.int a1), some (.int a2)] [.ref 174] (fun n h => rfl) ?_
            refine hq_gf (x := .int (hq_gi s29 174 49)) rfl rfl rfl rfl rfl ?_
            refine hq_p 1 94 [some (.ref 174), some (.int a1), some (.int a2)] [.int (4 : Int32), .int (hq_gi s29 174 49)] (fun n h => rfl) ?_
            by_cases c36 : (hq_gi s29 174 49) = (4 : Int32)
            · rw [if_pos c36] at h
              refine hq_icF rfl (hq_c_ne_F c36) ?_
              refine hq_p 1 98 [some (.ref 174), some (.int a1), some (.int a2)] [.ref 174] (fun n h => rfl) ?_
              refine hq_gf (x := .ref 206) rfl rfl rfl rfl rfl ?_
              refine hq_p 1 102 [some (.ref 174), some (.int a1), some (.int a2)] [.ref 174, .ref 206] (fun n h => rfl) ?_
              refine hq_gf (x := .ref 181) rfl rfl rfl rfl rfl ?_
              refine hq_p 1 106 [some (.ref 174), some (.int a1), some (.int a2)] [.int a2, .ref 181, .ref 206] (fun n h => rfl) ?_
              obtain ⟨x37, hx37, h⟩ := hq_bind h
              refine hq_iaload rfl rfl rfl hx37 ?_
              refine hq_p 1 108 [some (.ref 174), some (.int a1), some (.int a2)] [.int x37, .ref 206, .int x37, .ref 206] (fun n h => rfl) ?_
              obtain ⟨x38, hx38, h⟩ := hq_bind h
              refine hq_iaload rfl rfl rfl hx38 ?_
              refine hq_p 2 111 [some (.ref 174), some (.int a1), some (.int a2)] [.ref 174, .int (1 : Int32), .int x38, .int x37, .ref 206] (fun n h => rfl) ?_
              refine hq_gf (x := .ref 180) rfl rfl rfl rfl rfl ?_
              refine hq_p 1 115 [some (.ref 174), some (.int a1), some (.int a2)] [.int a2, .ref 180, .int (1 : Int32), .int x38, .int x37, .ref 206] (fun n h => rfl) ?_
              obtain ⟨x39, hx39, h⟩ := hq_bind h
              refine hq_iaload rfl rfl rfl hx39 ?_
              refine hq_p 2 118 [some (.ref 174), some (.int a1), some (.int a2)] [.int (x38 ||| ((1 : Int32) <<< (x39 &&& 31))), .int x37, .ref 206] (fun n h => rfl) ?_
              obtain ⟨s40, hs40, h⟩ := hq_bind h
              refine hq_iastore rfl rfl rfl hs40 ?_
              cases h
              exact hT
            · rw [if_neg c36] at h
              refine hq_icT rfl (hq_c_ne_T c36) ?_
              cases h
              exact hT
        · rw [if_neg c25] at h
          refine hq_icF rfl (hq_c_eq_F c25) ?_
          refine hq_p 1 119 [some (.ref 174), some (.int a1), some (.int a2)] [] (fun n h => rfl) ?_
          cases h
          exact hT
      · rw [if_neg c9] at h
        refine hq_icT rfl (hq_c_ne_T c9) ?_
        refine hq_p 1 59 [some (.ref 174), some (.int a1), some (.int a2)] [.ref 174] (fun n h => rfl) ?_
        refine hq_gf (x := .ref 206) rfl rfl rfl rfl rfl ?_
        refine hq_p 1 63 [some (.ref 174), some (.int a1), some (.int a2)] [.ref 174, .ref 206] (fun n h => rfl) ?_
        refine hq_gf (x := .ref 180) rfl rfl rfl rfl rfl ?_
        refine hq_p 1 67 [some (.ref 174), some (.int a1), some (.int a2)] [.int a2, .ref 180, .ref 206] (fun n h => rfl) ?_
        obtain ⟨x10, hx10, h⟩ := hq_bind h
        refine hq_iaload rfl rfl rfl hx10 ?_
        refine hq_p 1 69 [some (.ref 174), some (.int a1), some (.int a2)] [.int x10, .ref 206, .int x10, .ref 206] (fun n h => rfl) ?_
        obtain ⟨x11, hx11, h⟩ := hq_bind h
        refine hq_iaload rfl rfl rfl hx11 ?_
        refine hq_p 2 72 [some (.ref 174), some (.int a1), some (.int a2)] [.ref 174, .int (1 : Int32), .int x11, .int x10, .ref 206] (fun n h => rfl) ?_
        refine hq_gf (x := .ref 181) rfl rfl rfl rfl rfl ?_
        refine hq_p 1 76 [some (.ref 174), some (.int a1), some (.int a2)] [.int a2, .ref 181, .int (1 : Int32), .int x11, .int x10, .ref 206] (fun n h => rfl) ?_
        obtain ⟨x12, hx12, h⟩ := hq_bind h
        refine hq_iaload rfl rfl rfl hx12 ?_
        refine hq_p 2 79 [some (.ref 174), some (.int a1), some (.int a2)] [.int (x11 ||| ((1 : Int32) <<< (x12 &&& 31))), .int x10, .ref 206] (fun n h => rfl) ?_
        obtain ⟨s13, hs13, h⟩ := hq_bind h
        refine hq_iastore rfl rfl rfl hs13 ?_
        refine hq_p 1 81 [some (.ref 174), some (.int a1), some (.int a2)] [.ref 174] (fun n h => rfl) ?_
        refine hq_gf (x := .ref 182) rfl rfl rfl rfl rfl ?_
        refine hq_p 1 85 [some (.ref 174), some (.int a1), some (.int a2)] [.int a2, .ref 182] (fun n h => rfl) ?_
        obtain ⟨x14, hx14, h⟩ := hq_bind h
        refine hq_iaload rfl rfl rfl hx14 ?_
        by_cases c15 : x14 = 0
        · rw [if_pos c15] at h
          refine hq_izT rfl (hq_c_eq_T c15) ?_
          refine hq_p 1 98 [some (.ref 174), some (.int a1), some (.int a2)] [.ref 174] (fun n h => rfl) ?_
          refine hq_gf (x := .ref 206) rfl rfl rfl rfl rfl ?_
          refine hq_p 1 102 [some (.ref 174), some (.int a1), some (.int a2)] [.ref 174, .ref 206] (fun n h => rfl) ?_
          refine hq_gf (x := .ref 181) rfl rfl rfl rfl rfl ?_
          refine hq_p 1 106 [some (.ref 174), some (.int a1), some (.int a2)] [.int a2, .ref 181, .ref 206] (fun n h => rfl) ?_
          obtain ⟨x16, hx16, h⟩ := hq_bind h
          refine hq_iaload rfl rfl rfl hx16 ?_
          refine hq_p 1 108 [some (.ref 174), some (.int a1), some (.int a2)] [.int x16, .ref 206, .int x16, .ref 206] (fun n h => rfl) ?_
          obtain ⟨x17, hx17, h⟩ := hq_bind h
          refine hq_iaload rfl rfl rfl hx17 ?_
          refine hq_p 2 111 [some (.ref 174), some (.int a1), some (.int a2)] [.ref 174, .int (1 : Int32), .int x17, .int x16, .ref 206] (fun n h => rfl) ?_
          refine hq_gf (x := .ref 180) rfl rfl rfl rfl rfl ?_
          refine hq_p 1 115 [some (.ref 174), some (.int a1), some (.int a2)] [.int a2, .ref 180, .int (1 : Int32), .int x17, .int x16, .ref 206] (fun n h => rfl) ?_
          obtain ⟨x18, hx18, h⟩ := hq_bind h
          refine hq_iaload rfl rfl rfl hx18 ?_
          refine hq_p 2 118 [some (.ref 174), some (.int a1), some (.int a2)] [.int (x17 ||| ((1 : Int32) <<< (x18 &&& 31))), .int x16, .ref 206] (fun n h => rfl) ?_
          obtain ⟨s19, hs19, h⟩ := hq_bind h
          refine hq_iastore rfl rfl rfl hs19 ?_
          cases h
          exact hT
        · rw [if_neg c15] at h
          refine hq_izF rfl (hq_c_eq_F c15) ?_
          refine hq_p 1 90 [some (.ref 174), some (.int a1), some (.int a2)] [.ref 174] (fun n h => rfl) ?_
          refine hq_gf (x := .int (hq_gi s13 174 49)) rfl rfl rfl rfl rfl ?_
          refine hq_p 1 94 [some (.ref 174), some (.int a1), some (.int a2)] [.int (4 : Int32), .int (hq_gi s13 174 49)] (fun n h => rfl) ?_
          by_cases c20 : (hq_gi s13 174 49) = (4 : Int32)
          · rw [if_pos c20] at h
            refine hq_icF rfl (hq_c_ne_F c20) ?_
            refine hq_p 1 98 [some (.ref 174), some (.int a1), some (.int a2)] [.ref 174] (fun n h => rfl) ?_
            refine hq_gf (x := .ref 206) rfl rfl rfl rfl rfl ?_
            refine hq_p 1 102 [some (.ref 174), some (.int a1), some (.int a2)] [.ref 174, .ref 206] (fun n h => rfl) ?_
            refine hq_gf (x := .ref 181) rfl rfl rfl rfl rfl ?_
            refine hq_p 1 106 [some (.ref 174), some (.int a1), some (.int a2)] [.int a2, .ref 181, .ref 206] (fun n h => rfl) ?_
            obtain ⟨x21, hx21, h⟩ := hq_bind h
            refine hq_iaload rfl rfl rfl hx21 ?_
            refine hq_p 1 108 [some (.ref 174), some (.int a1), some (.int a2)] [.int x21, .ref 206, .int x21, .ref 206] (fun n h => rfl) ?_
            obtain ⟨x22, hx22, h⟩ := hq_bind h
            refine hq_iaload rfl rfl rfl hx22 ?_
            refine hq_p 2 111 [some (.ref 174), some (.int a1), some (.int a2)] [.ref 174, .int (1 : Int32), .int x22, .int x21, .ref 206] (fun n h => rfl) ?_
            refine hq_gf (x := .ref 180) rfl rfl rfl rfl rfl ?_
            refine hq_p 1 115 [some (.ref 174), some (.int a1), some (.int a2)] [.int a2, .ref 180, .int (1 : Int32), .int x22, .int x21, .ref 206] (fun n h => rfl) ?_
            obtain ⟨x23, hx23, h⟩ := hq_bind h
            refine hq_iaload rfl rfl rfl hx23 ?_
            refine hq_p 2 118 [some (.ref 174), some (.int a1), some (.int a2)] [.int (x22 ||| ((1 : Int32) <<< (x23 &&& 31))), .int x21, .ref 206] (fun n h => rfl) ?_
            obtain ⟨s24, hs24, h⟩ := hq_bind h
            refine hq_iastore rfl rfl rfl hs24 ?_
            cases h
            exact hT
          · rw [if_neg c20] at h
            refine hq_icT rfl (hq_c_ne_T c20) ?_
            cases h
            exact hT
    refine hq_p 2 23 [some (.ref 174), some (.int a1), some (.int (a2 + (1 : Int32)))] [] (fun n h => rfl) ?_
    exact e23 a1 (a2 + (1 : Int32)) z8 h
  · rw [if_neg c3] at h
    refine hq_icT rfl (hq_c_ge_T c3) ?_
    refine hq_p 2 127 [some (.ref 174), some (.int a1), some (.int (0 : Int32))] [] (fun n h => rfl) ?_
    exact f_X12_lays_L127_run hd h
theorem f_X12_lays_L23_run {xs : List Int32} {n m d g : Nat} {a1 : Int32} {a2 : Int32} {s : hq_S} {y : hq_S} (hd : 1 ≤ d) (h : f_X12_lays_L23 n m a1 a2 s = some y) : hq_R (mm_O xs) d mc_X12_lays 23 [some (.ref 174), some (.int a1), some (.int a2)] [] s g none y := by
  induction m generalizing a1 a2 s with
  | zero => cases h
  | succ m ih => exact f_X12_lays_L23_Brun (n := n) hd (fun a1 a2 s h => ih h) h
def f_X12_lays_L2_B (n : Nat) (q2 : Int32 → Int32 → hq_S → Option hq_S) (a1 : Int32) (a2 : Int32) (s : hq_S) : Option hq_S := if a2 < (10 : Int32) then (hq_st s 206 10 a2 (0 : Int32)).bind fun s41 => q2 a1 (a2 + (1 : Int32)) s41 else f_X12_lays_L23 n n a1 (0 : Int32) s
def f_X12_lays_L2 (n : Nat) (m : Nat) : Int32 → Int32 → hq_S → Option hq_S := Nat.rec (fun _ _ _ => none) (fun _ q => f_X12_lays_L2_B n q) m
theorem f_X12_lays_L2_Brun {xs : List Int32} {n d g : Nat} {a1 : Int32} {a2 : Int32} {q2 : Int32 → Int32 → hq_S → Option hq_S} {s : hq_S} {y : hq_S} (hd : 1 ≤ d) (e2 : ∀ (a1 : Int32) (a2 : Int32) (s : hq_S), q2 a1 a2 s = some y → hq_R (mm_O xs) d mc_X12_lays 2 [some (.ref 174), some (.int a1), some (.int a2)] [] s g none y) (h : f_X12_lays_L2_B n q2 a1 a2 s = some y) : hq_R (mm_O xs) d mc_X12_lays 2 [some (.ref 174), some (.int a1), some (.int a2)] [] s g none y := by
  unfold f_X12_lays_L2_B at h
  refine hq_p 2 5 [some (.ref 174), some (.int a1), some (.int a2)] [.int (10 : Int32), .int a2] (fun n h => rfl) ?_
  by_cases c1 : a2 < (10 : Int32)
  · rw [if_pos c1] at h
    refine hq_icF rfl (hq_c_ge_F c1) ?_
    refine hq_p 1 9 [some (.ref 174), some (.int a1), some (.int a2)] [.ref 174] (fun n h => rfl) ?_
    refine hq_gf (x := .ref 206) rfl rfl rfl rfl rfl ?_
    refine hq_p 2 14 [some (.ref 174), some (.int a1), some (.int a2)] [.int (0 : Int32), .int a2, .ref 206] (fun n h => rfl) ?_
    obtain ⟨s41, hs41, h⟩ := hq_bind h
    refine hq_iastore rfl rfl rfl hs41 ?_
    refine hq_p 2 2 [some (.ref 174), some (.int a1), some (.int (a2 + (1 : Int32)))] [] (fun n h => rfl) ?_
    exact e2 a1 (a2 + (1 : Int32)) s41 h
  · rw [if_neg c1] at h
    refine hq_icT rfl (hq_c_ge_T c1) ?_
    refine hq_p 2 23 [some (.ref 174), some (.int a1), some (.int (0 : Int32))] [] (fun n h => rfl) ?_
    exact f_X12_lays_L23_run hd h
theorem f_X12_lays_L2_run {xs : List Int32} {n m d g : Nat} {a1 : Int32} {a2 : Int32} {s : hq_S} {y : hq_S} (hd : 1 ≤ d) (h : f_X12_lays_L2 n m a1 a2 s = some y) : hq_R (mm_O xs) d mc_X12_lays 2 [some (.ref 174), some (.int a1), some (.int a2)] [] s g none y := by
  induction m generalizing a1 a2 s with
  | zero => cases h
  | succ m ih => exact f_X12_lays_L2_Brun (n := n) hd (fun a1 a2 s h => ih h) h
def f_X12_lays (n : Nat) (a1 : Int32) (s : hq_S) : Option hq_S := f_X12_lays_L2 n n a1 (0 : Int32) s
theorem f_X12_lays_run {xs : List Int32} {n d g : Nat} {a1 : Int32} {s : hq_S} {y : hq_S} (hd : 1 ≤ d) (h : f_X12_lays n a1 s = some y) : hq_R (mm_O xs) d mc_X12_lays 0 [some (.ref 174), some (.int a1), none] [] s g none y := by
  unfold f_X12_lays at h
  refine hq_p 2 2 [some (.ref 174), some (.int a1), some (.int (0 : Int32))] [] (fun n h => rfl) ?_
  exact f_X12_lays_L2_run hd h
def f_X12_farOf_L6_B (n : Nat) (q6 : Int32 → Int32 → Int32 → Int32 → hq_S → Option (Int32 × hq_S)) (a1 : Int32) (a2 : Int32) (a3 : Int32) (a4 : Int32) (s : hq_S) : Option (Int32 × hq_S) := (hq_ld s 176 14 (2 : Int32)).bind fun x1 => if a4 < x1 then (hq_ld s 200 69 (((3 : Int32) * a1) + a4)).bind fun x3 => (hq_ld s 207 100 (((10 : Int32) * x3) + a2)).bind fun x4 => q6 a1 a2 (hq_min a3 x4) (a4 + (1 : Int32)) s else some (a3, s)
def f_X12_farOf_L6 (n : Nat) (m : Nat) : Int32 → Int32 → Int32 → Int32 → hq_S → Option (Int32 × hq_S) := Nat.rec (fun _ _ _ _ _ => none) (fun _ q => f_X12_farOf_L6_B n q) m
theorem f_X12_farOf_L6_Brun {xs : List Int32} {n d g : Nat} {a1 : Int32} {a2 : Int32} {a3 : Int32} {a4 : Int32} {q6 : Int32 → Int32 → Int32 → Int32 → hq_S → Option (Int32 × hq_S)} {s : hq_S} {y : (Int32 × hq_S)} (hd : 1 ≤ d) (e6 : ∀ (a1 : Int32) (a2 : Int32) (a3 : Int32) (a4 : Int32) (s : hq_S), q6 a1 a2 a3 a4 s = some y → hq_R (mm_O xs) d mc_X12_farOf 6 [some (.ref 174), some (.int a1), some (.int a2), some (.int a3), some (.int a4)] [] s g (some (.int y.1)) y.2) (h : f_X12_farOf_L6_B n q6 a1 a2 a3 a4 s = some y) : hq_R (mm_O xs) d mc_X12_farOf 6 [some (.ref 174), some (.int a1), some (.int a2), some (.int a3), some (.int a4)] [] s g (some (.int y.1)) y.2 := by
  unfold f_X12_farOf_L6_B at h
  refine hq_p 2 9 [some (.ref 174), some (.int a1), some (.int a2), some (.int a3), some (.int a4)] [.ref 174, .int a4] (fun n h => rfl) ?_
  refine hq_gf (x := .ref 176) rfl rfl rfl rfl rfl ?_
  refine hq_p 1 13 [some (.ref 174), some (.int a1), some (.int a2), some (.int a3), some (.int a4)] [.int (2 : Int32), .ref 176, .int a4] (fun n h => rfl) ?_
  obtain ⟨x1, hx1, h⟩ := hq_bind h
  refine hq_iaload rfl rfl rfl hx1 ?_
  by_cases c2 : a4 < x1
  · rw [if_pos c2] at h
    refine hq_icF rfl (hq_c_ge_F c2) ?_
    refine hq_p 2 19 [some (.ref 174), some (.int a1), some (.int a2), some (.int a3), some (.int a4)] [.ref 174, .int a3] (fun n h => rfl) ?_
    refine hq_gf (x := .ref 207) rfl rfl rfl rfl rfl ?_
    refine hq_p 2 25 [some (.ref 174), some (.int a1), some (.int a2), some (.int a3), some (.int a4)] [.ref 174, .int (10 : Int32), .ref 207, .int a3] (fun n h => rfl) ?_
    refine hq_gf (x := .ref 200) rfl rfl rfl rfl rfl ?_
    refine hq_p 5 34 [some (.ref 174), some (.int a1), some (.int a2), some (.int a3), some (.int a4)] [.int (((3 : Int32) * a1) + a4), .ref 200, .int (10 : Int32), .ref 207, .int a3] (fun n h => rfl) ?_
    obtain ⟨x3, hx3, h⟩ := hq_bind h
    refine hq_iaload rfl rfl rfl hx3 ?_
    refine hq_p 3 38 [some (.ref 174), some (.int a1), some (.int a2), some (.int a3), some (.int a4)] [.int (((10 : Int32) * x3) + a2), .ref 207, .int a3] (fun n h => rfl) ?_
    obtain ⟨x4, hx4, h⟩ := hq_bind h
    refine hq_iaload rfl rfl rfl hx4 ?_
    refine hq_math rfl rfl rfl (Nat.le_trans (by decide) hd) ?_
    refine hq_p 3 6 [some (.ref 174), some (.int a1), some (.int a2), some (.int (hq_min a3 x4)), some (.int (a4 + (1 : Int32)))] [] (fun n h => rfl) ?_
    exact e6 a1 a2 (hq_min a3 x4) (a4 + (1 : Int32)) s h
  · rw [if_neg c2] at h
    refine hq_icT rfl (hq_c_ge_T c2) ?_
    refine hq_p 1 50 [some (.ref 174), some (.int a1), some (.int a2), some (.int a3), some (.int a4)] [.int a3] (fun n h => rfl) ?_
    cases h
    exact ⟨1, rfl⟩
theorem f_X12_farOf_L6_run {xs : List Int32} {n m d g : Nat} {a1 : Int32} {a2 : Int32} {a3 : Int32} {a4 : Int32} {s : hq_S} {y : (Int32 × hq_S)} (hd : 1 ≤ d) (h : f_X12_farOf_L6 n m a1 a2 a3 a4 s = some y) : hq_R (mm_O xs) d mc_X12_farOf 6 [some (.ref 174), some (.int a1), some (.int a2), some (.int a3), some (.int a4)] [] s g (some (.int y.1)) y.2 := by
  induction m generalizing a1 a2 a3 a4 s with
  | zero => cases h
  | succ m ih => exact f_X12_farOf_L6_Brun (n := n) hd (fun a1 a2 a3 a4 s h => ih h) h
def f_X12_farOf (n : Nat) (a1 : Int32) (a2 : Int32) (s : hq_S) : Option (Int32 × hq_S) := f_X12_farOf_L6 n n a1 a2 (99 : Int32) (0 : Int32) s
theorem f_X12_farOf_run {xs : List Int32} {n d g : Nat} {a1 : Int32} {a2 : Int32} {s : hq_S} {y : (Int32 × hq_S)} (hd : 1 ≤ d) (h : f_X12_farOf n a1 a2 s = some y) : hq_R (mm_O xs) d mc_X12_farOf 0 [some (.ref 174), some (.int a1), some (.int a2), none, none] [] s g (some (.int y.1)) y.2 := by
  unfold f_X12_farOf at h
  refine hq_p 4 6 [some (.ref 174), some (.int a1), some (.int a2), some (.int (99 : Int32)), some (.int (0 : Int32))] [] (fun n h => rfl) ?_
  exact f_X12_farOf_L6_run hd h
def f_X12_nearer_J53 (n : Nat) (q2 : Int32 → Int32 → Int32 → hq_S → Option (Int32 × hq_S)) (a1 : Int32) (a2 : Int32) (a3 : Int32) (s : hq_S) : Option (Int32 × hq_S) := q2 a1 a2 (a3 + (1 : Int32)) s
theorem f_X12_nearer_J53_run {xs : List Int32} {n d g : Nat} {a1 : Int32} {a2 : Int32} {a3 : Int32} {q2 : Int32 → Int32 → Int32 → hq_S → Option (Int32 × hq_S)} {s : hq_S} {y : (Int32 × hq_S)} (hd : 0 ≤ d) (e2 : ∀ (a1 : Int32) (a2 : Int32) (a3 : Int32) (s : hq_S), q2 a1 a2 a3 s = some y → hq_R (mm_O xs) d mc_X12_nearer 2 [some (.ref 174), some (.int a1), some (.int a2), some (.int a3)] [] s g (some (.int y.1)) y.2) (h : f_X12_nearer_J53 n q2 a1 a2 a3 s = some y) : hq_R (mm_O xs) d mc_X12_nearer 53 [some (.ref 174), some (.int a1), some (.int a2), some (.int a3)] [] s g (some (.int y.1)) y.2 := by
  unfold f_X12_nearer_J53 at h
  refine hq_p 2 2 [some (.ref 174), some (.int a1), some (.int a2), some (.int (a3 + (1 : Int32)))] [] (fun n h => rfl) ?_
  exact e2 a1 a2 (a3 + (1 : Int32)) s h
def f_X12_nearer_L2_B (n : Nat) (q2 : Int32 → Int32 → Int32 → hq_S → Option (Int32 × hq_S)) (a1 : Int32) (a2 : Int32) (a3 : Int32) (s : hq_S) : Option (Int32 × hq_S) := (hq_ld s 176 14 (0 : Int32)).bind fun x1 => if a3 < x1 then (hq_ld s 206 10 a1).bind fun x3 => if ((x3 >>> (a3 &&& 31)) &&& (1 : Int32)) = (1 : Int32) then (hq_ld s 207 100 (((10 : Int32) * a3) + a2)).bind fun x5 => (hq_ld s 207 100 (((10 : Int32) * a1) + a2)).bind fun x6 => if x5 < x6 then some (a3, s) else f_X12_nearer_J53 n q2 a1 a2 a3 s else f_X12_nearer_J53 n q2 a1 a2 a3 s else some (a1, s)
def f_X12_nearer_L2 (n : Nat) (m : Nat) : Int32 → Int32 → Int32 → hq_S → Option (Int32 × hq_S) := Nat.rec (fun _ _ _ _ => none) (fun _ q => f_X12_nearer_L2_B n q) m
theorem f_X12_nearer_L2_Brun {xs : List Int32} {n d g : Nat} {a1 : Int32} {a2 : Int32} {a3 : Int32} {q2 : Int32 → Int32 → Int32 → hq_S → Option (Int32 × hq_S)} {s : hq_S} {y : (Int32 × hq_S)} (hd : 0 ≤ d) (e2 : ∀ (a1 : Int32) (a2 : Int32) (a3 : Int32) (s : hq_S), q2 a1 a2 a3 s = some y → hq_R (mm_O xs) d mc_X12_nearer 2 [some (.ref 174), some (.int a1), some (.int a2), some (.int a3)] [] s g (some (.int y.1)) y.2) (h : f_X12_nearer_L2_B n q2 a1 a2 a3 s = some y) : hq_R (mm_O xs) d mc_X12_nearer 2 [some (.ref 174), some (.int a1), some (.int a2), some (.int a3)] [] s g (some (.int y.1)) y.2 := by
  unfold f_X12_nearer_L2_B at h
  refine hq_p 2 4 [some (.ref 174), some (.int a1), some (.int a2), some (.int a3)] [.ref 174, .int a3] (fun n h => rfl) ?_
  refine hq_gf (x := .ref 176) rfl rfl rfl rfl rfl ?_
  refine hq_p 1 8 [some (.ref 174), some (.int a1), some (.int a2), some (.int a3)] [.int (0 : Int32), .ref 176, .int a3] (fun n h => rfl) ?_
  obtain ⟨x1, hx1, h⟩ := hq_bind h
  refine hq_iaload rfl rfl rfl hx1 ?_
  by_cases c2 : a3 < x1
  · rw [if_pos c2] at h
    refine hq_icF rfl (hq_c_ge_F c2) ?_
    refine hq_p 1 13 [some (.ref 174), some (.int a1), some (.int a2), some (.int a3)] [.ref 174] (fun n h => rfl) ?_
    refine hq_gf (x := .ref 206) rfl rfl rfl rfl rfl ?_
    refine hq_p 1 17 [some (.ref 174), some (.int a1), some (.int a2), some (.int a3)] [.int a1, .ref 206] (fun n h => rfl) ?_
    obtain ⟨x3, hx3, h⟩ := hq_bind h
    refine hq_iaload rfl rfl rfl hx3 ?_
    refine hq_p 5 23 [some (.ref 174), some (.int a1), some (.int a2), some (.int a3)] [.int (1 : Int32), .int ((x3 >>> (a3 &&& 31)) &&& (1 : Int32))] (fun n h => rfl) ?_
    by_cases c4 : ((x3 >>> (a3 &&& 31)) &&& (1 : Int32)) = (1 : Int32)
    · rw [if_pos c4] at h
      refine hq_icF rfl (hq_c_ne_F c4) ?_
      refine hq_p 1 27 [some (.ref 174), some (.int a1), some (.int a2), some (.int a3)] [.ref 174] (fun n h => rfl) ?_
      refine hq_gf (x := .ref 207) rfl rfl rfl rfl rfl ?_
      refine hq_p 5 36 [some (.ref 174), some (.int a1), some (.int a2), some (.int a3)] [.int (((10 : Int32) * a3) + a2), .ref 207] (fun n h => rfl) ?_
      obtain ⟨x5, hx5, h⟩ := hq_bind h
      refine hq_iaload rfl rfl rfl hx5 ?_
      refine hq_p 1 38 [some (.ref 174), some (.int a1), some (.int a2), some (.int a3)] [.ref 174, .int x5] (fun n h => rfl) ?_
      refine hq_gf (x := .ref 207) rfl rfl rfl rfl rfl ?_
      refine hq_p 5 47 [some (.ref 174), some (.int a1), some (.int a2), some (.int a3)] [.int (((10 : Int32) * a1) + a2), .ref 207, .int x5] (fun n h => rfl) ?_
      obtain ⟨x6, hx6, h⟩ := hq_bind h
      refine hq_iaload rfl rfl rfl hx6 ?_
      by_cases c7 : x5 < x6
      · rw [if_pos c7] at h
        refine hq_icF rfl (hq_c_ge_F c7) ?_
        refine hq_p 1 52 [some (.ref 174), some (.int a1), some (.int a2), some (.int a3)] [.int a3] (fun n h => rfl) ?_
        cases h
        exact ⟨1, rfl⟩
      · rw [if_neg c7] at h
        refine hq_icT rfl (hq_c_ge_T c7) ?_
        exact f_X12_nearer_J53_run hd e2 h
    · rw [if_neg c4] at h
      refine hq_icT rfl (hq_c_ne_T c4) ?_
      exact f_X12_nearer_J53_run hd e2 h
  · rw [if_neg c2] at h
    refine hq_icT rfl (hq_c_ge_T c2) ?_
    refine hq_p 1 60 [some (.ref 174), some (.int a1), some (.int a2), some (.int a3)] [.int a1] (fun n h => rfl) ?_
    cases h
    exact ⟨1, rfl⟩
theorem f_X12_nearer_L2_run {xs : List Int32} {n m d g : Nat} {a1 : Int32} {a2 : Int32} {a3 : Int32} {s : hq_S} {y : (Int32 × hq_S)} (hd : 0 ≤ d) (h : f_X12_nearer_L2 n m a1 a2 a3 s = some y) : hq_R (mm_O xs) d mc_X12_nearer 2 [some (.ref 174), some (.int a1), some (.int a2), some (.int a3)] [] s g (some (.int y.1)) y.2 := by
  induction m generalizing a1 a2 a3 s with
  | zero => cases h
  | succ m ih => exact f_X12_nearer_L2_Brun (n := n) hd (fun a1 a2 a3 s h => ih h) h
def f_X12_nearer (n : Nat) (a1 : Int32) (a2 : Int32) (s : hq_S) : Option (Int32 × hq_S) := f_X12_nearer_L2 n n a1 a2 (0 : Int32) s
theorem f_X12_nearer_run {xs : List Int32} {n d g : Nat} {a1 : Int32} {a2 : Int32} {s : hq_S} {y : (Int32 × hq_S)} (hd : 0 ≤ d) (h : f_X12_nearer n a1 a2 s = some y) : hq_R (mm_O xs) d mc_X12_nearer 0 [some (.ref 174), some (.int a1), some (.int a2), none] [] s g (some (.int y.1)) y.2 := by
  unfold f_X12_nearer at h
  refine hq_p 2 2 [some (.ref 174), some (.int a1), some (.int a2), some (.int (0 : Int32))] [] (fun n h => rfl) ?_
  exact f_X12_nearer_L2_run hd h
def f_X12_walks_J32 (n : Nat) (a1 : Int32) (a2 : Int32) (a3 : Int32) (s : hq_S) : Option hq_S := (hq_ld s 200 69 a3).bind fun x4 => (hq_ld s 201 69 a3).bind fun x5 => (hq_ld s 186 48 (((8 : Int32) * a2) + x5)).bind fun x6 => (if x4 = x6 then (hq_ld s 201 69 a3).bind fun x9 => (hq_ld s 185 6 a2).bind fun x10 => (hq_irem (x9 + (1 : Int32)) x10).bind fun x11 => (hq_st s 201 69 a3 x11).bind fun s12 => some s12 else some s).bind fun z7 => (hq_ld z7 201 69 a3).bind fun x13 => (hq_ld z7 186 48 (((8 : Int32) * a2) + x13)).bind fun x14 => (hq_ld z7 200 69 a3).bind fun x15 => if x15 = x14 then some z7 else (hq_ld z7 200 69 a3).bind fun x17 => (f_X12_nearer n x17 x14 z7).bind fun y18 => (hq_st y18.2 200 69 a3 y18.1).bind fun s19 => some s19
theorem f_X12_walks_J32_run {xs : List Int32} {n d g : Nat} {a1 : Int32} {a2 : Int32} {a3 : Int32} {s : hq_S} {y : hq_S} (hd : 1 ≤ d) (h : f_X12_walks_J32 n a1 a2 a3 s = some y) : hq_R (mm_O xs) d mc_X12_walks 32 [some (.ref 174), some (.int a1), some (.int a2), some (.int a3), none] [] s g none y := by
  unfold f_X12_walks_J32 at h
  refine hq_p 1 33 [some (.ref 174), some (.int a1), some (.int a2), some (.int a3), none] [.ref 174] (fun n h => rfl) ?_
  refine hq_gf (x := .ref 200) rfl rfl rfl rfl rfl ?_
  refine hq_p 1 37 [some (.ref 174), some (.int a1), some (.int a2), some (.int a3), none] [.int a3, .ref 200] (fun n h => rfl) ?_
  obtain ⟨x4, hx4, h⟩ := hq_bind h
  refine hq_iaload rfl rfl rfl hx4 ?_
  refine hq_p 1 39 [some (.ref 174), some (.int a1), some (.int a2), some (.int a3), none] [.ref 174, .int x4] (fun n h => rfl) ?_
  refine hq_gf (x := .ref 186) rfl rfl rfl rfl rfl ?_
  refine hq_p 4 47 [some (.ref 174), some (.int a1), some (.int a2), some (.int a3), none] [.ref 174, .int ((8 : Int32) * a2), .ref 186, .int x4] (fun n h => rfl) ?_
  refine hq_gf (x := .ref 201) rfl rfl rfl rfl rfl ?_
  refine hq_p 1 51 [some (.ref 174), some (.int a1), some (.int a2), some (.int a3), none] [.int a3, .ref 201, .int ((8 : Int32) * a2), .ref 186, .int x4] (fun n h => rfl) ?_
  obtain ⟨x5, hx5, h⟩ := hq_bind h
  refine hq_iaload rfl rfl rfl hx5 ?_
  refine hq_p 1 53 [some (.ref 174), some (.int a1), some (.int a2), some (.int a3), none] [.int (((8 : Int32) * a2) + x5), .ref 186, .int x4] (fun n h => rfl) ?_
  obtain ⟨x6, hx6, h⟩ := hq_bind h
  refine hq_iaload rfl rfl rfl hx6 ?_
  obtain ⟨z7, hz7, h⟩ := hq_bind h
  suffices hT : hq_R (mm_O xs) d mc_X12_walks 78 [some (.ref 174), some (.int a1), some (.int a2), some (.int a3), none] [] z7 g none y from by
    clear h
    have h := hz7
    by_cases c8 : x4 = x6
    · rw [if_pos c8] at h
      refine hq_icF rfl (hq_c_ne_F c8) ?_
      refine hq_p 1 58 [some (.ref 174), some (.int a1), some (.int a2), some (.int a3), none] [.ref 174] (fun n h => rfl) ?_
      refine hq_gf (x := .ref 201) rfl rfl rfl rfl rfl ?_
      refine hq_p 2 63 [some (.ref 174), some (.int a1), some (.int a2), some (.int a3), none] [.ref 174, .int a3, .ref 201] (fun n h => rfl) ?_
      refine hq_gf (x := .ref 201) rfl rfl rfl rfl rfl ?_
      refine hq_p 1 67 [some (.ref 174), some (.int a1), some (.int a2), some (.int a3), none] [.int a3, .ref 201, .int a3, .ref 201] (fun n h => rfl) ?_
      obtain ⟨x9, hx9, h⟩ := hq_bind h
      refine hq_iaload rfl rfl rfl hx9 ?_
      refine hq_p 3 71 [some (.ref 174), some (.int a1), some (.int a2), some (.int a3), none] [.ref 174, .int (x9 + (1 : Int32)), .int a3, .ref 201] (fun n h => rfl) ?_
      refine hq_gf (x := .ref 185) rfl rfl rfl rfl rfl ?_
      refine hq_p 1 75 [some (.ref 174), some (.int a1), some (.int a2), some (.int a3), none] [.int a2, .ref 185, .int (x9 + (1 : Int32)), .int a3, .ref 201] (fun n h => rfl) ?_
      obtain ⟨x10, hx10, h⟩ := hq_bind h
      refine hq_iaload rfl rfl rfl hx10 ?_
      obtain ⟨x11, hx11, h⟩ := hq_bind h
      refine hq_irem_ rfl hx11 ?_
      obtain ⟨s12, hs12, h⟩ := hq_bind h
      refine hq_iastore rfl rfl rfl hs12 ?_
      cases h
      exact hT
    · rw [if_neg c8] at h
      refine hq_icT rfl (hq_c_ne_T c8) ?_
      cases h
      exact hT
  refine hq_p 1 79 [some (.ref 174), some (.int a1), some (.int a2), some (.int a3), none] [.ref 174] (fun n h => rfl) ?_
  refine hq_gf (x := .ref 186) rfl rfl rfl rfl rfl ?_
  refine hq_p 4 87 [some (.ref 174), some (.int a1), some (.int a2), some (.int a3), none] [.ref 174, .int ((8 : Int32) * a2), .ref 186] (fun n h => rfl) ?_
  refine hq_gf (x := .ref 201) rfl rfl rfl rfl rfl ?_
  refine hq_p 1 91 [some (.ref 174), some (.int a1), some (.int a2), some (.int a3), none] [.int a3, .ref 201, .int ((8 : Int32) * a2), .ref 186] (fun n h => rfl) ?_
  obtain ⟨x13, hx13, h⟩ := hq_bind h
  refine hq_iaload rfl rfl rfl hx13 ?_
  refine hq_p 1 93 [some (.ref 174), some (.int a1), some (.int a2), some (.int a3), none] [.int (((8 : Int32) * a2) + x13), .ref 186] (fun n h => rfl) ?_
  obtain ⟨x14, hx14, h⟩ := hq_bind h
  refine hq_iaload rfl rfl rfl hx14 ?_
  refine hq_p 2 97 [some (.ref 174), some (.int a1), some (.int a2), some (.int a3), some (.int x14)] [.ref 174] (fun n h => rfl) ?_
  refine hq_gf (x := .ref 200) rfl rfl rfl rfl rfl ?_
  refine hq_p 1 101 [some (.ref 174), some (.int a1), some (.int a2), some (.int a3), some (.int x14)] [.int a3, .ref 200] (fun n h => rfl) ?_
  obtain ⟨x15, hx15, h⟩ := hq_bind h
  refine hq_iaload rfl rfl rfl hx15 ?_
  refine hq_p 1 104 [some (.ref 174), some (.int a1), some (.int a2), some (.int a3), some (.int x14)] [.int x14, .int x15] (fun n h => rfl) ?_
  by_cases c16 : x15 = x14
  · rw [if_pos c16] at h
    refine hq_icT rfl (hq_c_eq_T c16) ?_
    cases h
    exact ⟨1, rfl⟩
  · rw [if_neg c16] at h
    refine hq_icF rfl (hq_c_eq_F c16) ?_
    refine hq_p 1 108 [some (.ref 174), some (.int a1), some (.int a2), some (.int a3), some (.int x14)] [.ref 174] (fun n h => rfl) ?_
    refine hq_gf (x := .ref 200) rfl rfl rfl rfl rfl ?_
    refine hq_p 3 114 [some (.ref 174), some (.int a1), some (.int a2), some (.int a3), some (.int x14)] [.ref 174, .ref 174, .int a3, .ref 200] (fun n h => rfl) ?_
    refine hq_gf (x := .ref 200) rfl rfl rfl rfl rfl ?_
    refine hq_p 1 118 [some (.ref 174), some (.int a1), some (.int a2), some (.int a3), some (.int x14)] [.int a3, .ref 200, .ref 174, .int a3, .ref 200] (fun n h => rfl) ?_
    obtain ⟨x17, hx17, h⟩ := hq_bind h
    refine hq_iaload rfl rfl rfl hx17 ?_
    refine hq_p 1 121 [some (.ref 174), some (.int a1), some (.int a2), some (.int a3), some (.int x14)] [.int x14, .int x17, .ref 174, .int a3, .ref 200] (fun n h => rfl) ?_
    obtain ⟨y18, hy18, h⟩ := hq_bind h
    refine hq_inv rfl rfl (Nat.le_trans (by decide) hd) rfl rfl (hq_rcv rfl rfl) (f_X12_nearer_run (Nat.le_sub_of_add_le (Nat.le_trans (by decide) hd)) hy18) rfl ?_
    obtain ⟨s19, hs19, h⟩ := hq_bind h
    refine hq_iastore rfl rfl rfl hs19 ?_
    cases h
    exact ⟨1, rfl⟩
def f_X12_walks (n : Nat) (a1 : Int32) (a2 : Int32) (s : hq_S) : Option hq_S := (hq_ld s 185 6 a2).bind fun x1 => if x1 = 0 then some s else if (hq_gi s 174 49) = (2 : Int32) then if a2 = (hq_gi s 174 50) then some s else f_X12_walks_J32 n a1 a2 (((3 : Int32) * a1) + a2) s else f_X12_walks_J32 n a1 a2 (((3 : Int32) * a1) + a2) s
theorem f_X12_walks_run {xs : List Int32} {n d g : Nat} {a1 : Int32} {a2 : Int32} {s : hq_S} {y : hq_S} (hd : 1 ≤ d) (h : f_X12_walks n a1 a2 s = some y) : hq_R (mm_O xs) d mc_X12_walks 0 [some (.ref 174), some (.int a1), some (.int a2), none, none] [] s g none y := by
  unfold f_X12_walks at h
  refine hq_p 7 7 [some (.ref 174), some (.int a1), some (.int a2), some (.int (((3 : Int32) * a1) + a2)), none] [.ref 174] (fun n h => rfl) ?_
  refine hq_gf (x := .ref 185) rfl rfl rfl rfl rfl ?_
  refine hq_p 1 11 [some (.ref 174), some (.int a1), some (.int a2), some (.int (((3 : Int32) * a1) + a2)), none] [.int a2, .ref 185] (fun n h => rfl) ?_
  obtain ⟨x1, hx1, h⟩ := hq_bind h
  refine hq_iaload rfl rfl rfl hx1 ?_
  by_cases c2 : x1 = 0
  · rw [if_pos c2] at h
    refine hq_izT rfl (hq_c_eq_T c2) ?_
    cases h
    exact ⟨1, rfl⟩
  · rw [if_neg c2] at h
    refine hq_izF rfl (hq_c_eq_F c2) ?_
    refine hq_p 1 16 [some (.ref 174), some (.int a1), some (.int a2), some (.int (((3 : Int32) * a1) + a2)), none] [.ref 174] (fun n h => rfl) ?_
    refine hq_gf (x := .int (hq_gi s 174 49)) rfl rfl rfl rfl rfl ?_
    refine hq_p 1 20 [some (.ref 174), some (.int a1), some (.int a2), some (.int (((3 : Int32) * a1) + a2)), none] [.int (2 : Int32), .int (hq_gi s 174 49)] (fun n h => rfl) ?_
    by_cases c3 : (hq_gi s 174 49) = (2 : Int32)
    · rw [if_pos c3] at h
      refine hq_icF rfl (hq_c_ne_F c3) ?_
      refine hq_p 2 25 [some (.ref 174), some (.int a1), some (.int a2), some (.int (((3 : Int32) * a1) + a2)), none] [.ref 174, .int a2] (fun n h => rfl) ?_
      refine hq_gf (x := .int (hq_gi s 174 50)) rfl rfl rfl rfl rfl ?_
      by_cases c20 : a2 = (hq_gi s 174 50)
      · rw [if_pos c20] at h
        refine hq_icF rfl (hq_c_ne_F c20) ?_
        cases h
        exact ⟨1, rfl⟩
      · rw [if_neg c20] at h
        refine hq_icT rfl (hq_c_ne_T c20) ?_
        exact f_X12_walks_J32_run hd h
    · rw [if_neg c3] at h
      refine hq_icT rfl (hq_c_ne_T c3) ?_
      exact f_X12_walks_J32_run hd h
def f_X12_isLane (n : Nat) (a1 : Int32) (s : hq_S) : Option (Int32 × hq_S) := if a1 < 0 then some ((0 : Int32), s) else (hq_ld s 176 14 (1 : Int32)).bind fun x2 => if a1 < x2 then some ((1 : Int32), s) else some ((0 : Int32), s)
theorem f_X12_isLane_run {xs : List Int32} {n d g : Nat} {a1 : Int32} {s : hq_S} {y : (Int32 × hq_S)} (hd : 0 ≤ d) (h : f_X12_isLane n a1 s = some y) : hq_R (mm_O xs) d mc_X12_isLane 0 [some (.ref 174), some (.int a1)] [] s g (some (.int y.1)) y.2 := by
  unfold f_X12_isLane at h
  refine hq_p 1 1 [some (.ref 174), some (.int a1)] [.int a1] (fun n h => rfl) ?_
  by_cases c1 : a1 < 0
  · rw [if_pos c1] at h
    refine hq_izT rfl (hq_c_lt_T c1) ?_
    refine hq_p 1 19 [some (.ref 174), some (.int a1)] [.int (0 : Int32)] (fun n h => rfl) ?_
    cases h
    exact ⟨1, rfl⟩
  · rw [if_neg c1] at h
    refine hq_izF rfl (hq_c_lt_F c1) ?_
    refine hq_p 2 6 [some (.ref 174), some (.int a1)] [.ref 174, .int a1] (fun n h => rfl) ?_
    refine hq_gf (x := .ref 176) rfl rfl rfl rfl rfl ?_
    refine hq_p 1 10 [some (.ref 174), some (.int a1)] [.int (1 : Int32), .ref 176, .int a1] (fun n h => rfl) ?_
    obtain ⟨x2, hx2, h⟩ := hq_bind h
    refine hq_iaload rfl rfl rfl hx2 ?_
    by_cases c3 : a1 < x2
    · rw [if_pos c3] at h
      refine hq_icF rfl (hq_c_ge_F c3) ?_
      refine hq_p 2 19 [some (.ref 174), some (.int a1)] [.int (1 : Int32)] (fun n h => rfl) ?_
      cases h
      exact ⟨1, rfl⟩
    · rw [if_neg c3] at h
      refine hq_icT rfl (hq_c_ge_T c3) ?_
      refine hq_p 1 19 [some (.ref 174), some (.int a1)] [.int (0 : Int32)] (fun n h => rfl) ?_
      cases h
      exact ⟨1, rfl⟩
def f_X12_lane (n : Nat) (a1 : Int32) (a2 : Int32) (s : hq_S) : Option (Int32 × hq_S) := (hq_pi s 174 0 0 (0 : Int32)).bind fun s1 => (f_X12_isLane n a1 s1).bind fun y2 => if y2.1 = 0 then some ((-1 : Int32), y2.2) else if a2 = (0 : Int32) then (hq_ld y2.2 180 40 a1).bind fun x5 => some (x5, y2.2) else if a2 = (1 : Int32) then (hq_ld y2.2 181 40 a1).bind fun x7 => some (x7, y2.2) else if a2 = (2 : Int32) then (hq_ld y2.2 182 40 a1).bind fun x9 => some (x9, y2.2) else if a2 = (3 : Int32) then (hq_ld y2.2 198 23 (0 : Int32)).bind fun x11 => some (((x11 >>> (a1 &&& 31)) &&& (1 : Int32)), y2.2) else some ((-1 : Int32), y2.2)
theorem f_X12_lane_run {xs : List Int32} {n d g : Nat} {a1 : Int32} {a2 : Int32} {s : hq_S} {y : (Int32 × hq_S)} (hd : 1 ≤ d) (h : f_X12_lane n a1 a2 s = some y) : hq_R (mm_O xs) d mc_X12_lane 0 [some (.ref 174), some (.int a1), some (.int a2)] [] s g (some (.int y.1)) y.2 := by
  unfold f_X12_lane at h
  refine hq_p 2 2 [some (.ref 174), some (.int a1), some (.int a2)] [.int (0 : Int32), .ref 174] (fun n h => rfl) ?_
  obtain ⟨s1, hs1, h⟩ := hq_bind h
  refine hq_pfi rfl rfl rfl rfl rfl hs1 ?_
  refine hq_p 2 7 [some (.ref 174), some (.int a1), some (.int a2)] [.int a1, .ref 174] (fun n h => rfl) ?_
  obtain ⟨y2, hy2, h⟩ := hq_bind h
  refine hq_inv rfl rfl (Nat.le_trans (by decide) hd) rfl rfl (hq_rcv rfl rfl) (f_X12_isLane_run (Nat.le_sub_of_add_le (Nat.le_trans (by decide) hd)) hy2) rfl ?_
  by_cases c3 : y2.1 = 0
  · rw [if_pos c3] at h
    refine hq_izF rfl (hq_c_ne_F c3) ?_
    refine hq_p 1 14 [some (.ref 174), some (.int a1), some (.int a2)] [.int (-1 : Int32)] (fun n h => rfl) ?_
    cases h
    exact ⟨1, rfl⟩
  · rw [if_neg c3] at h
    refine hq_izT rfl (hq_c_ne_T c3) ?_
    refine hq_p 1 16 [some (.ref 174), some (.int a1), some (.int a2)] [.int a2] (fun n h => rfl) ?_
    by_cases c4 : a2 = (0 : Int32)
    · rw [if_pos c4] at h
      refine hq_tsw rfl (show _ = some 48 from by rw [c4]; decide) ?_
      refine hq_p 1 49 [some (.ref 174), some (.int a1), some (.int a2)] [.ref 174] (fun n h => rfl) ?_
      refine hq_gf (x := .ref 180) rfl rfl rfl rfl rfl ?_
      refine hq_p 1 53 [some (.ref 174), some (.int a1), some (.int a2)] [.int a1, .ref 180] (fun n h => rfl) ?_
      obtain ⟨x5, hx5, h⟩ := hq_bind h
      refine hq_iaload rfl rfl rfl hx5 ?_
      cases h
      exact ⟨1, rfl⟩
    rw [if_neg c4] at h
    by_cases c6 : a2 = (1 : Int32)
    · rw [if_pos c6] at h
      refine hq_tsw rfl (show _ = some 55 from by rw [c6]; decide) ?_
      refine hq_p 1 56 [some (.ref 174), some (.int a1), some (.int a2)] [.ref 174] (fun n h => rfl) ?_
      refine hq_gf (x := .ref 181) rfl rfl rfl rfl rfl ?_
      refine hq_p 1 60 [some (.ref 174), some (.int a1), some (.int a2)] [.int a1, .ref 181] (fun n h => rfl) ?_
      obtain ⟨x7, hx7, h⟩ := hq_bind h
      refine hq_iaload rfl rfl rfl hx7 ?_
      cases h
      exact ⟨1, rfl⟩
    rw [if_neg c6] at h
    by_cases c8 : a2 = (2 : Int32)
    · rw [if_pos c8] at h
      refine hq_tsw rfl (show _ = some 62 from by rw [c8]; decide) ?_
      refine hq_p 1 63 [some (.ref 174), some (.int a1), some (.int a2)] [.ref 174] (fun n h => rfl) ?_
      refine hq_gf (x := .ref 182) rfl rfl rfl rfl rfl ?_
      refine hq_p 1 67 [some (.ref 174), some (.int a1), some (.int a2)] [.int a1, .ref 182] (fun n h => rfl) ?_
      obtain ⟨x9, hx9, h⟩ := hq_bind h
      refine hq_iaload rfl rfl rfl hx9 ?_
      cases h
      exact ⟨1, rfl⟩
    rw [if_neg c8] at h
    by_cases c10 : a2 = (3 : Int32)
    · rw [if_pos c10] at h
      refine hq_tsw rfl (show _ = some 69 from by rw [c10]; decide) ?_
      refine hq_p 1 70 [some (.ref 174), some (.int a1), some (.int a2)] [.ref 174] (fun n h => rfl) ?_
      refine hq_gf (x := .ref 198) rfl rfl rfl rfl rfl ?_
      refine hq_p 1 74 [some (.ref 174), some (.int a1), some (.int a2)] [.int (0 : Int32), .ref 198] (fun n h => rfl) ?_
      obtain ⟨x11, hx11, h⟩ := hq_bind h
      refine hq_iaload rfl rfl rfl hx11 ?_
      refine hq_p 4 79 [some (.ref 174), some (.int a1), some (.int a2)] [.int ((x11 >>> (a1 &&& 31)) &&& (1 : Int32))] (fun n h => rfl) ?_
      cases h
      exact ⟨1, rfl⟩
    rw [if_neg c10] at h
    refine hq_tsw rfl (hq_tsw_d [(0 : Int32), (1 : Int32), (2 : Int32), (3 : Int32)] (by decide) rfl ⟨c4, c6, c8, c10, trivial⟩) ?_
    refine hq_p 1 81 [some (.ref 174), some (.int a1), some (.int a2)] [.int (-1 : Int32)] (fun n h => rfl) ?_
    cases h
    exact ⟨1, rfl⟩
