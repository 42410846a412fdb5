def f_X11_named (n : Nat) (a1 : Int32) (a2 : Int32) (s : hq_S) : Option (Int32 × hq_S) := if a1 = 0 then if hq_isT (hq_gr s 0 2) then if hq_isT (hq_gr s 0 2) then (f_X10_placeOf n a2 ((hq_gr s 0 2) + 1) (hq_gi s (hq_gr s 0 2) 0) s).bind fun y12 => some (y12.1, y12.2) else none else none else if a1 = (1 : Int32) then if hq_isT (hq_gr s 0 2) then if hq_isT (hq_gr s 0 2) then (f_X10_placeOf n a2 ((hq_gr s 0 2) + 5) (hq_gi s (hq_gr s 0 2) 7) s).bind fun y9 => some (y9.1, y9.2) else none else none else if a1 = (2 : Int32) then if hq_isT (hq_gr s 0 2) then if hq_isT (hq_gr s 0 2) then (f_X10_placeOf n a2 ((hq_gr s 0 2) + 8) (hq_gi s (hq_gr s 0 2) 11) s).bind fun y6 => some (y6.1, y6.2) else none else none else some ((-1 : Int32), s)
theorem f_X11_named_run {xs : List Int32} {n d g : Nat} {a1 : Int32} {a2 : Int32} {s : hq_S} {y : (Int32 × hq_S)} (hd : 1 ≤ d) (h : f_X11_named n a1 a2 s = some y) : hq_R (mm_O xs) d mc_X11_named 0 [some (.ref 0), some (.int a1), some (.int a2)] [] s g (some (.int y.1)) y.2 := by
  unfold f_X11_named at h
  refine hq_p 1 1 [some (.ref 0), some (.int a1), some (.int a2)] [.int a1] (fun n h => rfl) ?_
  by_cases c1 : a1 = 0
  · rw [if_pos c1] at h
    refine hq_izF rfl (hq_c_ne_F c1) ?_
    refine hq_p 2 6 [some (.ref 0), some (.int a1), some (.int a2)] [.ref 0, .int a2] (fun n h => rfl) ?_
    refine hq_gf (x := .ref (hq_gr s 0 2)) rfl rfl rfl rfl rfl ?_
    have m10 : hq_isT (hq_gr s 0 2) := hq_ifT h
    rw [if_pos m10] at h
    refine hq_gf (x := .ref ((hq_gr s 0 2) + 1)) rfl (hq_shT m10) rfl rfl (hq_fldr (hq_shT_u m10)) ?_
    refine hq_p 1 13 [some (.ref 0), some (.int a1), some (.int a2)] [.ref 0, .ref ((hq_gr s 0 2) + 1), .int a2] (fun n h => rfl) ?_
    refine hq_gf (x := .ref (hq_gr s 0 2)) rfl rfl rfl rfl rfl ?_
    have m11 : hq_isT (hq_gr s 0 2) := hq_ifT h
    rw [if_pos m11] at h
    refine hq_gf (x := .int (hq_gi s (hq_gr s 0 2) 0)) rfl (hq_shT m11) rfl rfl rfl ?_
    obtain ⟨y12, hy12, h⟩ := hq_bind h
    refine hq_ist rfl rfl rfl (Nat.le_trans (by decide) hd) rfl (f_X10_placeOf_run (Nat.le_sub_of_add_le (Nat.le_trans (by decide) hd)) hy12) rfl ?_
    have h := Option.some.inj h
    subst h
    exact ⟨1, rfl⟩
  · rw [if_neg c1] at h
    refine hq_izT rfl (hq_c_ne_T c1) ?_
    refine hq_p 2 25 [some (.ref 0), some (.int a1), some (.int a2)] [.int (1 : Int32), .int a1] (fun n h => rfl) ?_
    by_cases c2 : a1 = (1 : Int32)
    · rw [if_pos c2] at h
      refine hq_icF rfl (hq_c_ne_F c2) ?_
      refine hq_p 2 30 [some (.ref 0), some (.int a1), some (.int a2)] [.ref 0, .int a2] (fun n h => rfl) ?_
      refine hq_gf (x := .ref (hq_gr s 0 2)) rfl rfl rfl rfl rfl ?_
      have m7 : hq_isT (hq_gr s 0 2) := hq_ifT h
      rw [if_pos m7] at h
      refine hq_gf (x := .ref ((hq_gr s 0 2) + 5)) rfl (hq_shT m7) rfl rfl (hq_fldr (hq_shT_u m7)) ?_
      refine hq_p 1 37 [some (.ref 0), some (.int a1), some (.int a2)] [.ref 0, .ref ((hq_gr s 0 2) + 5), .int a2] (fun n h => rfl) ?_
      refine hq_gf (x := .ref (hq_gr s 0 2)) rfl rfl rfl rfl rfl ?_
      have m8 : hq_isT (hq_gr s 0 2) := hq_ifT h
      rw [if_pos m8] at h
      refine hq_gf (x := .int (hq_gi s (hq_gr s 0 2) 7)) rfl (hq_shT m8) rfl rfl rfl ?_
      obtain ⟨y9, hy9, h⟩ := hq_bind h
      refine hq_ist rfl rfl rfl (Nat.le_trans (by decide) hd) rfl (f_X10_placeOf_run (Nat.le_sub_of_add_le (Nat.le_trans (by decide) hd)) hy9) rfl ?_
      have h := Option.some.inj h
      subst h
      exact ⟨1, rfl⟩
    · rw [if_neg c2] at h
      refine hq_icT rfl (hq_c_ne_T c2) ?_
      refine hq_p 2 49 [some (.ref 0), some (.int a1), some (.int a2)] [.int (2 : Int32), .int a1] (fun n h => rfl) ?_
      by_cases c3 : a1 = (2 : Int32)
      · rw [if_pos c3] at h
        refine hq_icF rfl (hq_c_ne_F c3) ?_
        refine hq_p 2 54 [some (.ref 0), some (.int a1), some (.int a2)] [.ref 0, .int a2] (fun n h => rfl) ?_
        refine hq_gf (x := .ref (hq_gr s 0 2)) rfl rfl rfl rfl rfl ?_
        have m4 : hq_isT (hq_gr s 0 2) := hq_ifT h
        rw [if_pos m4] at h
        refine hq_gf (x := .ref ((hq_gr s 0 2) + 8)) rfl (hq_shT m4) rfl rfl (hq_fldr (hq_shT_u m4)) ?_
        refine hq_p 1 61 [some (.ref 0), some (.int a1), some (.int a2)] [.ref 0, .ref ((hq_gr s 0 2) + 8), .int a2] (fun n h => rfl) ?_
        refine hq_gf (x := .ref (hq_gr s 0 2)) rfl rfl rfl rfl rfl ?_
        have m5 : hq_isT (hq_gr s 0 2) := hq_ifT h
        rw [if_pos m5] at h
        refine hq_gf (x := .int (hq_gi s (hq_gr s 0 2) 11)) rfl (hq_shT m5) rfl rfl rfl ?_
        obtain ⟨y6, hy6, h⟩ := hq_bind h
        refine hq_ist rfl rfl rfl (Nat.le_trans (by decide) hd) rfl (f_X10_placeOf_run (Nat.le_sub_of_add_le (Nat.le_trans (by decide) hd)) hy6) rfl ?_
        refine hq_p 1 74 [some (.ref 0), some (.int a1), some (.int a2)] [.int y6.1] (fun n h => rfl) ?_
        have h := Option.some.inj h
        subst h
        exact ⟨1, rfl⟩
      · rw [if_neg c3] at h
        refine hq_icT rfl (hq_c_ne_T c3) ?_
        refine hq_icn (-1 : Int32) rfl (by decide) ?_
        have h := Option.some.inj h
        subst h
        exact ⟨1, rfl⟩
def f_X11_isCorner (n : Nat) (a1 : Int32) (s : hq_S) : Option (Int32 × hq_S) := if a1 < 0 then some ((0 : Int32), s) else if hq_isT (hq_gr s 0 2) then if a1 < (hq_gi s (hq_gr s 0 2) 0) then some ((1 : Int32), s) else some ((0 : Int32), s) else none
theorem f_X11_isCorner_run {xs : List Int32} {n d g : Nat} {a1 : Int32} {s : hq_S} {y : (Int32 × hq_S)} (hd : 0 ≤ d) (h : f_X11_isCorner n a1 s = some y) : hq_R (mm_O xs) d mc_X11_isCorner 0 [some (.ref 0), some (.int a1)] [] s g (some (.int y.1)) y.2 := by
  unfold f_X11_isCorner at h
  refine hq_p 1 1 [some (.ref 0), some (.int a1)] [.int a1] (fun n h => rfl) ?_
  by_cases c1 : a1 < 0
  · rw [if_pos c1] at h
    refine hq_izT rfl (hq_c_lt_T c1) ?_
    refine hq_p 1 20 [some (.ref 0), some (.int a1)] [.int (0 : Int32)] (fun n h => rfl) ?_
    have h := Option.some.inj h
    subst h
    exact ⟨1, rfl⟩
  · rw [if_neg c1] at h
    refine hq_izF rfl (hq_c_lt_F c1) ?_
    refine hq_p 2 6 [some (.ref 0), some (.int a1)] [.ref 0, .int a1] (fun n h => rfl) ?_
    refine hq_gf (x := .ref (hq_gr s 0 2)) rfl rfl rfl rfl rfl ?_
    have m2 : hq_isT (hq_gr s 0 2) := hq_ifT h
    rw [if_pos m2] at h
    refine hq_gf (x := .int (hq_gi s (hq_gr s 0 2) 0)) rfl (hq_shT m2) rfl rfl rfl ?_
    by_cases c3 : a1 < (hq_gi s (hq_gr s 0 2) 0)
    · rw [if_pos c3] at h
      refine hq_icF rfl (hq_c_ge_F c3) ?_
      refine hq_p 2 20 [some (.ref 0), some (.int a1)] [.int (1 : Int32)] (fun n h => rfl) ?_
      have h := Option.some.inj h
      subst h
      exact ⟨1, rfl⟩
    · rw [if_neg c3] at h
      refine hq_icT rfl (hq_c_ge_T c3) ?_
      refine hq_p 1 20 [some (.ref 0), some (.int a1)] [.int (0 : Int32)] (fun n h => rfl) ?_
      have h := Option.some.inj h
      subst h
      exact ⟨1, rfl⟩
def f_X11_guardsAt_L4_B (n : Nat) (q4 : Int32 → Int32 → Int32 → hq_S → Option (Int32 × hq_S)) (a1 : Int32) (a2 : Int32) (a3 : Int32) (s : hq_S) : Option (Int32 × hq_S) := if hq_isT (hq_gr s 0 2) then if a3 < (hq_gi s (hq_gr s 0 2) 7) then (hq_ld s 78 3 a3).bind fun x3 => (if x3 = a1 then some ((1 : Int32) <<< (a3 &&& 31)) else some (0 : Int32)).bind fun z4 => q4 a1 (a2 ||| z4) (a3 + (1 : Int32)) s else some (a2, s) else none
def f_X11_guardsAt_L4 (n : Nat) (m : Nat) : Int32 → Int32 → Int32 → hq_S → Option (Int32 × hq_S) := Nat.rec (fun _ _ _ _ => none) (fun _ q => f_X11_guardsAt_L4_B n q) m
theorem f_X11_guardsAt_L4_Brun {xs : List Int32} {n d g : Nat} {a1 : Int32} {a2 : Int32} {a3 : Int32} {q4 : Int32 → Int32 → Int32 → hq_S → Option (Int32 × hq_S)} {s : hq_S} {y : (Int32 × hq_S)} (hd : 0 ≤ d) (e4 : ∀ (a1 : Int32) (a2 : Int32) (a3 : Int32) (s : hq_S), q4 a1 a2 a3 s = some y → hq_R (mm_O xs) d mc_X11_guardsAt 4 [some (.ref 0), some (.int a1), some (.int a2), some (.int a3)] [] s g (some (.int y.1)) y.2) (h : f_X11_guardsAt_L4_B n q4 a1 a2 a3 s = some y) : hq_R (mm_O xs) d mc_X11_guardsAt 4 [some (.ref 0), some (.int a1), some (.int a2), some (.int a3)] [] s g (some (.int y.1)) y.2 := by
  unfold f_X11_guardsAt_L4_B at h
  refine hq_p 2 6 [some (.ref 0), some (.int a1), some (.int a2), some (.int a3)] [.ref 0, .int a3] (fun n h => rfl) ?_
  refine hq_gf (x := .ref (hq_gr s 0 2)) rfl rfl rfl rfl rfl ?_
  have m1 : hq_isT (hq_gr s 0 2) := hq_ifT h
  rw [if_pos m1] at h
  refine hq_gf (x := .int (hq_gi s (hq_gr s 0 2) 7)) rfl (hq_shT m1) rfl rfl rfl ?_
  by_cases c2 : a3 < (hq_gi s (hq_gr s 0 2) 7)
  · rw [if_pos c2] at h
    refine hq_icF rfl (hq_c_ge_F c2) ?_
    refine hq_p 2 17 [some (.ref 0), some (.int a1), some (.int a2), some (.int a3)] [.ref 0, .int a2] (fun n h => rfl) ?_
    refine hq_gf (x := .ref 76) rfl rfl rfl rfl rfl ?_
    refine hq_gf (x := .ref 78) rfl rfl rfl rfl rfl ?_
    refine hq_p 1 24 [some (.ref 0), some (.int a1), some (.int a2), some (.int a3)] [.int a3, .ref 78, .int a2] (fun n h => rfl) ?_
    obtain ⟨x3, hx3, h⟩ := hq_bind h
    refine hq_iaload rfl rfl List.length_replicate hx3 ?_
    refine hq_p 1 26 [some (.ref 0), some (.int a1), some (.int a2), some (.int a3)] [.int a1, .int x3, .int a2] (fun n h => rfl) ?_
    obtain ⟨z4, hz4, h⟩ := hq_bind h
    suffices hT : hq_R (mm_O xs) d mc_X11_guardsAt 36 [some (.ref 0), some (.int a1), some (.int a2), some (.int a3)] [.int z4, .int a2] s g (some (.int y.1)) y.2 from by
      clear h
      have h := hz4
      by_cases c5 : x3 = a1
      · rw [if_pos c5] at h
        refine hq_icF rfl (hq_c_ne_F c5) ?_
        refine hq_p 4 36 [some (.ref 0), some (.int a1), some (.int a2), some (.int a3)] [.int ((1 : Int32) <<< (a3 &&& 31)), .int a2] (fun n h => rfl) ?_
        cases h
        exact hT
      · rw [if_neg c5] at h
        refine hq_icT rfl (hq_c_ne_T c5) ?_
        refine hq_p 1 36 [some (.ref 0), some (.int a1), some (.int a2), some (.int a3)] [.int (0 : Int32), .int a2] (fun n h => rfl) ?_
        cases h
        exact hT
    refine hq_p 4 4 [some (.ref 0), some (.int a1), some (.int (a2 ||| z4)), some (.int (a3 + (1 : Int32)))] [] (fun n h => rfl) ?_
    exact e4 a1 (a2 ||| z4) (a3 + (1 : Int32)) s h
  · rw [if_neg c2] at h
    refine hq_icT rfl (hq_c_ge_T c2) ?_
    refine hq_p 1 45 [some (.ref 0), some (.int a1), some (.int a2), some (.int a3)] [.int a2] (fun n h => rfl) ?_
    have h := Option.some.inj h
    subst h
    exact ⟨1, rfl⟩
theorem f_X11_guardsAt_L4_run {xs : List Int32} {n m d g : Nat} {a1 : Int32} {a2 : Int32} {a3 : Int32} {s : hq_S} {y : (Int32 × hq_S)} (hd : 0 ≤ d) (h : f_X11_guardsAt_L4 n m a1 a2 a3 s = some y) : hq_R (mm_O xs) d mc_X11_guardsAt 4 [some (.ref 0), some (.int a1), some (.int a2), some (.int a3)] [] s g (some (.int y.1)) y.2 := by
  induction m generalizing a1 a2 a3 s with
  | zero => cases h
  | succ m ih => exact f_X11_guardsAt_L4_Brun (n := n) hd (fun a1 a2 a3 s h => ih h) h
def f_X11_guardsAt (n : Nat) (a1 : Int32) (s : hq_S) : Option (Int32 × hq_S) := f_X11_guardsAt_L4 n n a1 (0 : Int32) (0 : Int32) s
theorem f_X11_guardsAt_run {xs : List Int32} {n d g : Nat} {a1 : Int32} {s : hq_S} {y : (Int32 × hq_S)} (hd : 0 ≤ d) (h : f_X11_guardsAt n a1 s = some y) : hq_R (mm_O xs) d mc_X11_guardsAt 0 [some (.ref 0), some (.int a1), none, none] [] s g (some (.int y.1)) y.2 := by
  unfold f_X11_guardsAt at h
  refine hq_p 4 4 [some (.ref 0), some (.int a1), some (.int (0 : Int32)), some (.int (0 : Int32))] [] (fun n h => rfl) ?_
  exact f_X11_guardsAt_L4_run hd h
def f_X11_thievesAt_L4_B (n : Nat) (q4 : Int32 → Int32 → Int32 → hq_S → Option (Int32 × hq_S)) (a1 : Int32) (a2 : Int32) (a3 : Int32) (s : hq_S) : Option (Int32 × hq_S) := if hq_isT (hq_gr s 0 2) then if a3 < (hq_gi s (hq_gr s 0 2) 11) then (f_X5_isFree n 76 a3 s).bind fun y3 => (if y3.1 = 0 then some (0 : Int32) else (hq_ld y3.2 81 4 a3).bind fun x6 => if x6 = a1 then some ((1 : Int32) <<< (a3 &&& 31)) else some (0 : Int32)).bind fun z4 => q4 a1 (a2 ||| z4) (a3 + (1 : Int32)) y3.2 else some (a2, s) else none
def f_X11_thievesAt_L4 (n : Nat) (m : Nat) : Int32 → Int32 → Int32 → hq_S → Option (Int32 × hq_S) := Nat.rec (fun _ _ _ _ => none) (fun _ q => f_X11_thievesAt_L4_B n q) m
theorem f_X11_thievesAt_L4_Brun {xs : List Int32} {n d g : Nat} {a1 : Int32} {a2 : Int32} {a3 : Int32} {q4 : Int32 → Int32 → Int32 → hq_S → Option (Int32 × hq_S)} {s : hq_S} {y : (Int32 × hq_S)} (hd : 1 ≤ d) (e4 : ∀ (a1 : Int32) (a2 : Int32) (a3 : Int32) (s : hq_S), q4 a1 a2 a3 s = some y → hq_R (mm_O xs) d mc_X11_thievesAt 4 [some (.ref 0), some (.int a1), some (.int a2), some (.int a3)] [] s g (some (.int y.1)) y.2) (h : f_X11_thievesAt_L4_B n q4 a1 a2 a3 s = some y) : hq_R (mm_O xs) d mc_X11_thievesAt 4 [some (.ref 0), some (.int a1), some (.int a2), some (.int a3)] [] s g (some (.int y.1)) y.2 := by
  unfold f_X11_thievesAt_L4_B at h
  refine hq_p 2 6 [some (.ref 0), some (.int a1), some (.int a2), some (.int a3)] [.ref 0, .int a3] (fun n h => rfl) ?_
  refine hq_gf (x := .ref (hq_gr s 0 2)) rfl rfl rfl rfl rfl ?_
  have m1 : hq_isT (hq_gr s 0 2) := hq_ifT h
  rw [if_pos m1] at h
  refine hq_gf (x := .int (hq_gi s (hq_gr s 0 2) 11)) rfl (hq_shT m1) rfl rfl rfl ?_
  by_cases c2 : a3 < (hq_gi s (hq_gr s 0 2) 11)
  · rw [if_pos c2] at h
    refine hq_icF rfl (hq_c_ge_F c2) ?_
    refine hq_p 2 17 [some (.ref 0), some (.int a1), some (.int a2), some (.int a3)] [.ref 0, .int a2] (fun n h => rfl) ?_
    refine hq_gf (x := .ref 76) rfl rfl rfl rfl rfl ?_
    refine hq_p 1 21 [some (.ref 0), some (.int a1), some (.int a2), some (.int a3)] [.int a3, .ref 76, .int a2] (fun n h => rfl) ?_
    obtain ⟨y3, hy3, h⟩ := hq_bind h
    refine hq_inv rfl rfl (Nat.le_trans (by decide) hd) rfl rfl (hq_rcv (hq_shN (by decide)) rfl) (f_X5_isFree_run (Nat.le_sub_of_add_le (Nat.le_trans (by decide) hd)) (by decide) hy3) rfl ?_
    obtain ⟨z4, hz4, h⟩ := hq_bind h
    suffices hT : hq_R (mm_O xs) d mc_X11_thievesAt 47 [some (.ref 0), some (.int a1), some (.int a2), some (.int a3)] [.int z4, .int a2] y3.2 g (some (.int y.1)) y.2 from by
      clear h
      have h := hz4
      by_cases c5 : y3.1 = 0
      · rw [if_pos c5] at h
        refine hq_izT rfl (hq_c_eq_T c5) ?_
        refine hq_p 1 47 [some (.ref 0), some (.int a1), some (.int a2), some (.int a3)] [.int (0 : Int32), .int a2] (fun n h => rfl) ?_
        cases h
        exact hT
      · rw [if_neg c5] at h
        refine hq_izF rfl (hq_c_eq_F c5) ?_
        refine hq_p 1 28 [some (.ref 0), some (.int a1), some (.int a2), some (.int a3)] [.ref 0, .int a2] (fun n h => rfl) ?_
        refine hq_gf (x := .ref 76) rfl rfl rfl rfl rfl ?_
        refine hq_gf (x := .ref 81) rfl rfl rfl rfl rfl ?_
        refine hq_p 1 35 [some (.ref 0), some (.int a1), some (.int a2), some (.int a3)] [.int a3, .ref 81, .int a2] (fun n h => rfl) ?_
        obtain ⟨x6, hx6, h⟩ := hq_bind h
        refine hq_iaload rfl rfl List.length_replicate hx6 ?_
        refine hq_p 1 37 [some (.ref 0), some (.int a1), some (.int a2), some (.int a3)] [.int a1, .int x6, .int a2] (fun n h => rfl) ?_
        by_cases c7 : x6 = a1
        · rw [if_pos c7] at h
          refine hq_icF rfl (hq_c_ne_F c7) ?_
          refine hq_p 4 47 [some (.ref 0), some (.int a1), some (.int a2), some (.int a3)] [.int ((1 : Int32) <<< (a3 &&& 31)), .int a2] (fun n h => rfl) ?_
          cases h
          exact hT
        · rw [if_neg c7] at h
          refine hq_icT rfl (hq_c_ne_T c7) ?_
          refine hq_p 1 47 [some (.ref 0), some (.int a1), some (.int a2), some (.int a3)] [.int (0 : Int32), .int a2] (fun n h => rfl) ?_
          cases h
          exact hT
    refine hq_p 4 4 [some (.ref 0), some (.int a1), some (.int (a2 ||| z4)), some (.int (a3 + (1 : Int32)))] [] (fun n h => rfl) ?_
    exact e4 a1 (a2 ||| z4) (a3 + (1 : Int32)) y3.2 h
  · rw [if_neg c2] at h
    refine hq_icT rfl (hq_c_ge_T c2) ?_
    refine hq_p 1 56 [some (.ref 0), some (.int a1), some (.int a2), some (.int a3)] [.int a2] (fun n h => rfl) ?_
    have h := Option.some.inj h
    subst h
    exact ⟨1, rfl⟩
theorem f_X11_thievesAt_L4_run {xs : List Int32} {n m d g : Nat} {a1 : Int32} {a2 : Int32} {a3 : Int32} {s : hq_S} {y : (Int32 × hq_S)} (hd : 1 ≤ d) (h : f_X11_thievesAt_L4 n m a1 a2 a3 s = some y) : hq_R (mm_O xs) d mc_X11_thievesAt 4 [some (.ref 0), some (.int a1), some (.int a2), some (.int a3)] [] s g (some (.int y.1)) y.2 := by
  induction m generalizing a1 a2 a3 s with
  | zero => cases h
  | succ m ih => exact f_X11_thievesAt_L4_Brun (n := n) hd (fun a1 a2 a3 s h => ih h) h
def f_X11_thievesAt (n : Nat) (a1 : Int32) (s : hq_S) : Option (Int32 × hq_S) := f_X11_thievesAt_L4 n n a1 (0 : Int32) (0 : Int32) s
theorem f_X11_thievesAt_run {xs : List Int32} {n d g : Nat} {a1 : Int32} {s : hq_S} {y : (Int32 × hq_S)} (hd : 1 ≤ d) (h : f_X11_thievesAt n a1 s = some y) : hq_R (mm_O xs) d mc_X11_thievesAt 0 [some (.ref 0), some (.int a1), none, none] [] s g (some (.int y.1)) y.2 := by
  unfold f_X11_thievesAt at h
  refine hq_p 4 4 [some (.ref 0), some (.int a1), some (.int (0 : Int32)), some (.int (0 : Int32))] [] (fun n h => rfl) ?_
  exact f_X11_thievesAt_L4_run hd h
def f_X11_isGuard (n : Nat) (a1 : Int32) (s : hq_S) : Option (Int32 × hq_S) := if a1 < 0 then some ((0 : Int32), s) else if hq_isT (hq_gr s 0 2) then if a1 < (hq_gi s (hq_gr s 0 2) 7) then some ((1 : Int32), s) else some ((0 : Int32), s) else none
theorem f_X11_isGuard_run {xs : List Int32} {n d g : Nat} {a1 : Int32} {s : hq_S} {y : (Int32 × hq_S)} (hd : 0 ≤ d) (h : f_X11_isGuard n a1 s = some y) : hq_R (mm_O xs) d mc_X11_isGuard 0 [some (.ref 0), some (.int a1)] [] s g (some (.int y.1)) y.2 := by
  unfold f_X11_isGuard at h
  refine hq_p 1 1 [some (.ref 0), some (.int a1)] [.int a1] (fun n h => rfl) ?_
  by_cases c1 : a1 < 0
  · rw [if_pos c1] at h
    refine hq_izT rfl (hq_c_lt_T c1) ?_
    refine hq_p 1 20 [some (.ref 0), some (.int a1)] [.int (0 : Int32)] (fun n h => rfl) ?_
    have h := Option.some.inj h
    subst h
    exact ⟨1, rfl⟩
  · rw [if_neg c1] at h
    refine hq_izF rfl (hq_c_lt_F c1) ?_
    refine hq_p 2 6 [some (.ref 0), some (.int a1)] [.ref 0, .int a1] (fun n h => rfl) ?_
    refine hq_gf (x := .ref (hq_gr s 0 2)) rfl rfl rfl rfl rfl ?_
    have m2 : hq_isT (hq_gr s 0 2) := hq_ifT h
    rw [if_pos m2] at h
    refine hq_gf (x := .int (hq_gi s (hq_gr s 0 2) 7)) rfl (hq_shT m2) rfl rfl rfl ?_
    by_cases c3 : a1 < (hq_gi s (hq_gr s 0 2) 7)
    · rw [if_pos c3] at h
      refine hq_icF rfl (hq_c_ge_F c3) ?_
      refine hq_p 2 20 [some (.ref 0), some (.int a1)] [.int (1 : Int32)] (fun n h => rfl) ?_
      have h := Option.some.inj h
      subst h
      exact ⟨1, rfl⟩
    · rw [if_neg c3] at h
      refine hq_icT rfl (hq_c_ge_T c3) ?_
      refine hq_p 1 20 [some (.ref 0), some (.int a1)] [.int (0 : Int32)] (fun n h => rfl) ?_
      have h := Option.some.inj h
      subst h
      exact ⟨1, rfl⟩
def f_X11_guard (n : Nat) (a1 : Int32) (a2 : Int32) (s : hq_S) : Option (Int32 × hq_S) := (f_X11_isGuard n a1 s).bind fun y1 => if y1.1 = 0 then some ((-1 : Int32), y1.2) else if a2 = (0 : Int32) then (hq_ld y1.2 78 3 a1).bind fun x4 => some (x4, y1.2) else if a2 = (1 : Int32) then if hq_isT (hq_gr y1.2 0 2) then (hq_ld y1.2 ((hq_gr y1.2 0 2) + 7) 3 a1).bind fun x7 => if x7 = 0 then some ((-2 : Int32), y1.2) else (hq_ld y1.2 79 3 a1).bind fun x9 => some (x9, y1.2) else none else if a2 = (2 : Int32) then (hq_ld y1.2 80 3 a1).bind fun x11 => some (x11, y1.2) else some ((-1 : Int32), y1.2)
theorem f_X11_guard_run {xs : List Int32} {n d g : Nat} {a1 : Int32} {a2 : Int32} {s : hq_S} {y : (Int32 × hq_S)} (hd : 1 ≤ d) (h : f_X11_guard n a1 a2 s = some y) : hq_R (mm_O xs) d mc_X11_guard 0 [some (.ref 0), some (.int a1), some (.int a2)] [] s g (some (.int y.1)) y.2 := by
  unfold f_X11_guard at h
  refine hq_p 2 2 [some (.ref 0), some (.int a1), some (.int a2)] [.int a1, .ref 0] (fun n h => rfl) ?_
  obtain ⟨y1, hy1, h⟩ := hq_bind h
  refine hq_inv rfl rfl (Nat.le_trans (by decide) hd) rfl rfl (hq_rcv rfl rfl) (f_X11_isGuard_run (Nat.le_sub_of_add_le (Nat.le_trans (by decide) hd)) hy1) rfl ?_
  by_cases c2 : y1.1 = 0
  · rw [if_pos c2] at h
    refine hq_izF rfl (hq_c_ne_F c2) ?_
    refine hq_icn (-1 : Int32) rfl (by decide) ?_
    have h := Option.some.inj h
    subst h
    exact ⟨1, rfl⟩
  · rw [if_neg c2] at h
    refine hq_izT rfl (hq_c_ne_T c2) ?_
    refine hq_p 1 11 [some (.ref 0), some (.int a1), some (.int a2)] [.int a2] (fun n h => rfl) ?_
    by_cases c3 : a2 = (0 : Int32)
    · rw [if_pos c3] at h
      refine hq_tsw rfl (show _ = some 36 from by rw [c3]; decide) ?_
      refine hq_p 1 37 [some (.ref 0), some (.int a1), some (.int a2)] [.ref 0] (fun n h => rfl) ?_
      refine hq_gf (x := .ref 76) rfl rfl rfl rfl rfl ?_
      refine hq_gf (x := .ref 78) rfl rfl rfl rfl rfl ?_
      refine hq_p 1 44 [some (.ref 0), some (.int a1), some (.int a2)] [.int a1, .ref 78] (fun n h => rfl) ?_
      obtain ⟨x4, hx4, h⟩ := hq_bind h
      refine hq_iaload rfl rfl List.length_replicate hx4 ?_
      have h := Option.some.inj h
      subst h
      exact ⟨1, rfl⟩
    rw [if_neg c3] at h
    by_cases c5 : a2 = (1 : Int32)
    · rw [if_pos c5] at h
      refine hq_tsw rfl (show _ = some 46 from by rw [c5]; decide) ?_
      refine hq_p 1 47 [some (.ref 0), some (.int a1), some (.int a2)] [.ref 0] (fun n h => rfl) ?_
      refine hq_gf (x := .ref (hq_gr y1.2 0 2)) rfl rfl rfl rfl rfl ?_
      have m6 : hq_isT (hq_gr y1.2 0 2) := hq_ifT h
      rw [if_pos m6] at h
      refine hq_gf (x := .ref ((hq_gr y1.2 0 2) + 7)) rfl (hq_shT m6) rfl rfl (hq_fldr (hq_shT_u m6)) ?_
      refine hq_p 1 54 [some (.ref 0), some (.int a1), some (.int a2)] [.int a1, .ref ((hq_gr y1.2 0 2) + 7)] (fun n h => rfl) ?_
      obtain ⟨x7, hx7, h⟩ := hq_bind h
      refine hq_iaload rfl (hq_shT_7 m6) List.length_replicate hx7 ?_
      by_cases c8 : x7 = 0
      · rw [if_pos c8] at h
        refine hq_izF rfl (hq_c_ne_F c8) ?_
        refine hq_bip (-2 : Int32) rfl (by decide) ?_
        refine hq_p 1 72 [some (.ref 0), some (.int a1), some (.int a2)] [.int (-2 : Int32)] (fun n h => rfl) ?_
        have h := Option.some.inj h
        subst h
        exact ⟨1, rfl⟩
      · rw [if_neg c8] at h
        refine hq_izT rfl (hq_c_ne_T c8) ?_
        refine hq_p 1 64 [some (.ref 0), some (.int a1), some (.int a2)] [.ref 0] (fun n h => rfl) ?_
        refine hq_gf (x := .ref 76) rfl rfl rfl rfl rfl ?_
        refine hq_gf (x := .ref 79) rfl rfl rfl rfl rfl ?_
        refine hq_p 1 71 [some (.ref 0), some (.int a1), some (.int a2)] [.int a1, .ref 79] (fun n h => rfl) ?_
        obtain ⟨x9, hx9, h⟩ := hq_bind h
        refine hq_iaload rfl rfl List.length_replicate hx9 ?_
        have h := Option.some.inj h
        subst h
        exact ⟨1, rfl⟩
    rw [if_neg c5] at h
    by_cases c10 : a2 = (2 : Int32)
    · rw [if_pos c10] at h
      refine hq_tsw rfl (show _ = some 73 from by rw [c10]; decide) ?_
      refine hq_p 1 74 [some (.ref 0), some (.int a1), some (.int a2)] [.ref 0] (fun n h => rfl) ?_
      refine hq_gf (x := .ref 76) rfl rfl rfl rfl rfl ?_
      refine hq_gf (x := .ref 80) rfl rfl rfl rfl rfl ?_
      refine hq_p 1 81 [some (.ref 0), some (.int a1), some (.int a2)] [.int a1, .ref 80] (fun n h => rfl) ?_
      obtain ⟨x11, hx11, h⟩ := hq_bind h
      refine hq_iaload rfl rfl List.length_replicate hx11 ?_
      have h := Option.some.inj h
      subst h
      exact ⟨1, rfl⟩
    rw [if_neg c10] at h
    refine hq_tsw rfl (hq_tsw_d [(0 : Int32), (1 : Int32), (2 : Int32)] (by decide) rfl ⟨c3, c5, c10, trivial⟩) ?_
    refine hq_icn (-1 : Int32) rfl (by decide) ?_
    have h := Option.some.inj h
    subst h
    exact ⟨1, rfl⟩
def f_X11_isThief (n : Nat) (a1 : Int32) (s : hq_S) : Option (Int32 × hq_S) := if a1 < 0 then some ((0 : Int32), s) else if hq_isT (hq_gr s 0 2) then if a1 < (hq_gi s (hq_gr s 0 2) 11) then some ((1 : Int32), s) else some ((0 : Int32), s) else none
theorem f_X11_isThief_run {xs : List Int32} {n d g : Nat} {a1 : Int32} {s : hq_S} {y : (Int32 × hq_S)} (hd : 0 ≤ d) (h : f_X11_isThief n a1 s = some y) : hq_R (mm_O xs) d mc_X11_isThief 0 [some (.ref 0), some (.int a1)] [] s g (some (.int y.1)) y.2 := by
  unfold f_X11_isThief at h
  refine hq_p 1 1 [some (.ref 0), some (.int a1)] [.int a1] (fun n h => rfl) ?_
  by_cases c1 : a1 < 0
  · rw [if_pos c1] at h
    refine hq_izT rfl (hq_c_lt_T c1) ?_
    refine hq_p 1 20 [some (.ref 0), some (.int a1)] [.int (0 : Int32)] (fun n h => rfl) ?_
    have h := Option.some.inj h
    subst h
    exact ⟨1, rfl⟩
  · rw [if_neg c1] at h
    refine hq_izF rfl (hq_c_lt_F c1) ?_
    refine hq_p 2 6 [some (.ref 0), some (.int a1)] [.ref 0, .int a1] (fun n h => rfl) ?_
    refine hq_gf (x := .ref (hq_gr s 0 2)) rfl rfl rfl rfl rfl ?_
    have m2 : hq_isT (hq_gr s 0 2) := hq_ifT h
    rw [if_pos m2] at h
    refine hq_gf (x := .int (hq_gi s (hq_gr s 0 2) 11)) rfl (hq_shT m2) rfl rfl rfl ?_
    by_cases c3 : a1 < (hq_gi s (hq_gr s 0 2) 11)
    · rw [if_pos c3] at h
      refine hq_icF rfl (hq_c_ge_F c3) ?_
      refine hq_p 2 20 [some (.ref 0), some (.int a1)] [.int (1 : Int32)] (fun n h => rfl) ?_
      have h := Option.some.inj h
      subst h
      exact ⟨1, rfl⟩
    · rw [if_neg c3] at h
      refine hq_icT rfl (hq_c_ge_T c3) ?_
      refine hq_p 1 20 [some (.ref 0), some (.int a1)] [.int (0 : Int32)] (fun n h => rfl) ?_
      have h := Option.some.inj h
      subst h
      exact ⟨1, rfl⟩
def f_X11_thief (n : Nat) (a1 : Int32) (a2 : Int32) (s : hq_S) : Option (Int32 × hq_S) := (f_X11_isThief n a1 s).bind fun y1 => if y1.1 = 0 then some ((-1 : Int32), y1.2) else if a2 = (0 : Int32) then (hq_ld y1.2 81 4 a1).bind fun x4 => some (x4, y1.2) else if a2 = (1 : Int32) then (hq_ld y1.2 82 4 a1).bind fun x6 => some (x6, y1.2) else if a2 = (2 : Int32) then (hq_ld y1.2 83 4 a1).bind fun x8 => some (x8, y1.2) else if a2 = (3 : Int32) then (hq_ld y1.2 84 4 a1).bind fun x10 => some (x10, y1.2) else some ((-1 : Int32), y1.2)
theorem f_X11_thief_run {xs : List Int32} {n d g : Nat} {a1 : Int32} {a2 : Int32} {s : hq_S} {y : (Int32 × hq_S)} (hd : 1 ≤ d) (h : f_X11_thief n a1 a2 s = some y) : hq_R (mm_O xs) d mc_X11_thief 0 [some (.ref 0), some (.int a1), some (.int a2)] [] s g (some (.int y.1)) y.2 := by
  unfold f_X11_thief at h
  refine hq_p 2 2 [some (.ref 0), some (.int a1), some (.int a2)] [.int a1, .ref 0] (fun n h => rfl) ?_
  obtain ⟨y1, hy1, h⟩ := hq_bind h
  refine hq_inv rfl rfl (Nat.le_trans (by decide) hd) rfl rfl (hq_rcv rfl rfl) (f_X11_isThief_run (Nat.le_sub_of_add_le (Nat.le_trans (by decide) hd)) hy1) rfl ?_
  by_cases c2 : y1.1 = 0
  · rw [if_pos c2] at h
    refine hq_izF rfl (hq_c_ne_F c2) ?_
    refine hq_icn (-1 : Int32) rfl (by decide) ?_
    have h := Option.some.inj h
    subst h
    exact ⟨1, rfl⟩
  · rw [if_neg c2] at h
    refine hq_izT rfl (hq_c_ne_T c2) ?_
    refine hq_p 1 11 [some (.ref 0), some (.int a1), some (.int a2)] [.int a2] (fun n h => rfl) ?_
    by_cases c3 : a2 = (0 : Int32)
    · rw [if_pos c3] at h
      refine hq_tsw rfl (show _ = some 40 from by rw [c3]; decide) ?_
      refine hq_p 1 41 [some (.ref 0), some (.int a1), some (.int a2)] [.ref 0] (fun n h => rfl) ?_
      refine hq_gf (x := .ref 76) rfl rfl rfl rfl rfl ?_
      refine hq_gf (x := .ref 81) rfl rfl rfl rfl rfl ?_
      refine hq_p 1 48 [some (.ref 0), some (.int a1), some (.int a2)] [.int a1, .ref 81] (fun n h => rfl) ?_
      obtain ⟨x4, hx4, h⟩ := hq_bind h
      refine hq_iaload rfl rfl List.length_replicate hx4 ?_
      have h := Option.some.inj h
      subst h
      exact ⟨1, rfl⟩
    rw [if_neg c3] at h
    by_cases c5 : a2 = (1 : Int32)
    · rw [if_pos c5] at h
      refine hq_tsw rfl (show _ = some 50 from by rw [c5]; decide) ?_
      refine hq_p 1 51 [some (.ref 0), some (.int a1), some (.int a2)] [.ref 0] (fun n h => rfl) ?_
      refine hq_gf (x := .ref 76) rfl rfl rfl rfl rfl ?_
      refine hq_gf (x := .ref 82) rfl rfl rfl rfl rfl ?_
      refine hq_p 1 58 [some (.ref 0), some (.int a1), some (.int a2)] [.int a1, .ref 82] (fun n h => rfl) ?_
      obtain ⟨x6, hx6, h⟩ := hq_bind h
      refine hq_iaload rfl rfl List.length_replicate hx6 ?_
      have h := Option.some.inj h
      subst h
      exact ⟨1, rfl⟩
    rw [if_neg c5] at h
    by_cases c7 : a2 = (2 : Int32)
    · rw [if_pos c7] at h
      refine hq_tsw rfl (show _ = some 60 from by rw [c7]; decide) ?_
      refine hq_p 1 61 [some (.ref 0), some (.int a1), some (.int a2)] [.ref 0] (fun n h => rfl) ?_
      refine hq_gf (x := .ref 76) rfl rfl rfl rfl rfl ?_
      refine hq_gf (x := .ref 83) rfl rfl rfl rfl rfl ?_
      refine hq_p 1 68 [some (.ref 0), some (.int a1), some (.int a2)] [.int a1, .ref 83] (fun n h => rfl) ?_
      obtain ⟨x8, hx8, h⟩ := hq_bind h
      refine hq_iaload rfl rfl List.length_replicate hx8 ?_
      have h := Option.some.inj h
      subst h
      exact ⟨1, rfl⟩
    rw [if_neg c7] at h
    by_cases c9 : a2 = (3 : Int32)
    · rw [if_pos c9] at h
      refine hq_tsw rfl (show _ = some 70 from by rw [c9]; decide) ?_
      refine hq_p 1 71 [some (.ref 0), some (.int a1), some (.int a2)] [.ref 0] (fun n h => rfl) ?_
      refine hq_gf (x := .ref 76) rfl rfl rfl rfl rfl ?_
      refine hq_gf (x := .ref 84) rfl rfl rfl rfl rfl ?_
      refine hq_p 1 78 [some (.ref 0), some (.int a1), some (.int a2)] [.int a1, .ref 84] (fun n h => rfl) ?_
      obtain ⟨x10, hx10, h⟩ := hq_bind h
      refine hq_iaload rfl rfl List.length_replicate hx10 ?_
      have h := Option.some.inj h
      subst h
      exact ⟨1, rfl⟩
    rw [if_neg c9] at h
    refine hq_tsw rfl (hq_tsw_d [(0 : Int32), (1 : Int32), (2 : Int32), (3 : Int32)] (by decide) rfl ⟨c3, c5, c7, c9, trivial⟩) ?_
    refine hq_icn (-1 : Int32) rfl (by decide) ?_
    have h := Option.some.inj h
    subst h
    exact ⟨1, rfl⟩
def f_X11_isLane (n : Nat) (a1 : Int32) (s : hq_S) : Option (Int32 × hq_S) := if a1 < 0 then some ((0 : Int32), s) else if hq_isT (hq_gr s 0 2) then if a1 < (hq_gi s (hq_gr s 0 2) 3) then some ((1 : Int32), s) else some ((0 : Int32), s) else none
theorem f_X11_isLane_run {xs : List Int32} {n d g : Nat} {a1 : Int32} {s : hq_S} {y : (Int32 × hq_S)} (hd : 0 ≤ d) (h : f_X11_isLane n a1 s = some y) : hq_R (mm_O xs) d mc_X11_isLane 0 [some (.ref 0), some (.int a1)] [] s g (some (.int y.1)) y.2 := by
  unfold f_X11_isLane at h
  refine hq_p 1 1 [some (.ref 0), some (.int a1)] [.int a1] (fun n h => rfl) ?_
  by_cases c1 : a1 < 0
  · rw [if_pos c1] at h
    refine hq_izT rfl (hq_c_lt_T c1) ?_
    refine hq_p 1 20 [some (.ref 0), some (.int a1)] [.int (0 : Int32)] (fun n h => rfl) ?_
    have h := Option.some.inj h
    subst h
    exact ⟨1, rfl⟩
  · rw [if_neg c1] at h
    refine hq_izF rfl (hq_c_lt_F c1) ?_
    refine hq_p 2 6 [some (.ref 0), some (.int a1)] [.ref 0, .int a1] (fun n h => rfl) ?_
    refine hq_gf (x := .ref (hq_gr s 0 2)) rfl rfl rfl rfl rfl ?_
    have m2 : hq_isT (hq_gr s 0 2) := hq_ifT h
    rw [if_pos m2] at h
    refine hq_gf (x := .int (hq_gi s (hq_gr s 0 2) 3)) rfl (hq_shT m2) rfl rfl rfl ?_
    by_cases c3 : a1 < (hq_gi s (hq_gr s 0 2) 3)
    · rw [if_pos c3] at h
      refine hq_icF rfl (hq_c_ge_F c3) ?_
      refine hq_p 2 20 [some (.ref 0), some (.int a1)] [.int (1 : Int32)] (fun n h => rfl) ?_
      have h := Option.some.inj h
      subst h
      exact ⟨1, rfl⟩
    · rw [if_neg c3] at h
      refine hq_icT rfl (hq_c_ge_T c3) ?_
      refine hq_p 1 20 [some (.ref 0), some (.int a1)] [.int (0 : Int32)] (fun n h => rfl) ?_
      have h := Option.some.inj h
      subst h
      exact ⟨1, rfl⟩
def f_X11_lane (n : Nat) (a1 : Int32) (a2 : Int32) (s : hq_S) : Option (Int32 × hq_S) := (f_X11_isLane n a1 s).bind fun y1 => if y1.1 = 0 then some ((-1 : Int32), y1.2) else if a2 = (0 : Int32) then if hq_isT (hq_gr y1.2 0 2) then (hq_ld y1.2 ((hq_gr y1.2 0 2) + 3) 20 a1).bind fun x5 => some (x5, y1.2) else none else if a2 = (1 : Int32) then if hq_isT (hq_gr y1.2 0 2) then (hq_ld y1.2 ((hq_gr y1.2 0 2) + 4) 20 a1).bind fun x8 => some (x8, y1.2) else none else if a2 = (2 : Int32) then if hq_isT (hq_gr y1.2 0 2) then some ((((hq_gi y1.2 (hq_gr y1.2 0 2) 6) >>> (a1 &&& 31)) &&& (1 : Int32)), y1.2) else none else if a2 = (3 : Int32) then some ((((hq_gi y1.2 76 2) >>> (a1 &&& 31)) &&& (1 : Int32)), y1.2) else some ((-1 : Int32), y1.2)
theorem f_X11_lane_run {xs : List Int32} {n d g : Nat} {a1 : Int32} {a2 : Int32} {s : hq_S} {y : (Int32 × hq_S)} (hd : 1 ≤ d) (h : f_X11_lane n a1 a2 s = some y) : hq_R (mm_O xs) d mc_X11_lane 0 [some (.ref 0), some (.int a1), some (.int a2)] [] s g (some (.int y.1)) y.2 := by
  unfold f_X11_lane at h
  refine hq_p 2 2 [some (.ref 0), some (.int a1), some (.int a2)] [.int a1, .ref 0] (fun n h => rfl) ?_
  obtain ⟨y1, hy1, h⟩ := hq_bind h
  refine hq_inv rfl rfl (Nat.le_trans (by decide) hd) rfl rfl (hq_rcv rfl rfl) (f_X11_isLane_run (Nat.le_sub_of_add_le (Nat.le_trans (by decide) hd)) hy1) rfl ?_
  by_cases c2 : y1.1 = 0
  · rw [if_pos c2] at h
    refine hq_izF rfl (hq_c_ne_F c2) ?_
    refine hq_icn (-1 : Int32) rfl (by decide) ?_
    have h := Option.some.inj h
    subst h
    exact ⟨1, rfl⟩
  · rw [if_neg c2] at h
    refine hq_izT rfl (hq_c_ne_T c2) ?_
    refine hq_p 1 11 [some (.ref 0), some (.int a1), some (.int a2)] [.int a2] (fun n h => rfl) ?_
    by_cases c3 : a2 = (0 : Int32)
    · rw [if_pos c3] at h
      refine hq_tsw rfl (show _ = some 40 from by rw [c3]; decide) ?_
      refine hq_p 1 41 [some (.ref 0), some (.int a1), some (.int a2)] [.ref 0] (fun n h => rfl) ?_
      refine hq_gf (x := .ref (hq_gr y1.2 0 2)) rfl rfl rfl rfl rfl ?_
      have m4 : hq_isT (hq_gr y1.2 0 2) := hq_ifT h
      rw [if_pos m4] at h
      refine hq_gf (x := .ref ((hq_gr y1.2 0 2) + 3)) rfl (hq_shT m4) rfl rfl (hq_fldr (hq_shT_u m4)) ?_
      refine hq_p 1 48 [some (.ref 0), some (.int a1), some (.int a2)] [.int a1, .ref ((hq_gr y1.2 0 2) + 3)] (fun n h => rfl) ?_
      obtain ⟨x5, hx5, h⟩ := hq_bind h
      refine hq_iaload rfl (hq_shT_3 m4) List.length_replicate hx5 ?_
      have h := Option.some.inj h
      subst h
      exact ⟨1, rfl⟩
    rw [if_neg c3] at h
    by_cases c6 : a2 = (1 : Int32)
    · rw [if_pos c6] at h
      refine hq_tsw rfl (show _ = some 50 from by rw [c6]; decide) ?_
      refine hq_p 1 51 [some (.ref 0), some (.int a1), some (.int a2)] [.ref 0] (fun n h => rfl) ?_
      refine hq_gf (x := .ref (hq_gr y1.2 0 2)) rfl rfl rfl rfl rfl ?_
      have m7 : hq_isT (hq_gr y1.2 0 2) := hq_ifT h
      rw [if_pos m7] at h
      refine hq_gf (x := .ref ((hq_gr y1.2 0 2) + 4)) rfl (hq_shT m7) rfl rfl (hq_fldr (hq_shT_u m7)) ?_
      refine hq_p 1 58 [some (.ref 0), some (.int a1), some (.int a2)] [.int a1, .ref ((hq_gr y1.2 0 2) + 4)] (fun n h => rfl) ?_
      obtain ⟨x8, hx8, h⟩ := hq_bind h
      refine hq_iaload rfl (hq_shT_4 m7) List.length_replicate hx8 ?_
      have h := Option.some.inj h
      subst h
      exact ⟨1, rfl⟩
    rw [if_neg c6] at h
    by_cases c9 : a2 = (2 : Int32)
    · rw [if_pos c9] at h
      refine hq_tsw rfl (show _ = some 60 from by rw [c9]; decide) ?_
      refine hq_p 1 61 [some (.ref 0), some (.int a1), some (.int a2)] [.ref 0] (fun n h => rfl) ?_
      refine hq_gf (x := .ref (hq_gr y1.2 0 2)) rfl rfl rfl rfl rfl ?_
      have m10 : hq_isT (hq_gr y1.2 0 2) := hq_ifT h
      rw [if_pos m10] at h
      refine hq_gf (x := .int (hq_gi y1.2 (hq_gr y1.2 0 2) 6)) rfl (hq_shT m10) rfl rfl rfl ?_
      refine hq_p 4 71 [some (.ref 0), some (.int a1), some (.int a2)] [.int (((hq_gi y1.2 (hq_gr y1.2 0 2) 6) >>> (a1 &&& 31)) &&& (1 : Int32))] (fun n h => rfl) ?_
      have h := Option.some.inj h
      subst h
      exact ⟨1, rfl⟩
    rw [if_neg c9] at h
    by_cases c11 : a2 = (3 : Int32)
    · rw [if_pos c11] at h
      refine hq_tsw rfl (show _ = some 72 from by rw [c11]; decide) ?_
      refine hq_p 1 73 [some (.ref 0), some (.int a1), some (.int a2)] [.ref 0] (fun n h => rfl) ?_
      refine hq_gf (x := .ref 76) rfl rfl rfl rfl rfl ?_
      refine hq_gf (x := .int (hq_gi y1.2 76 2)) rfl rfl rfl rfl rfl ?_
      refine hq_p 4 83 [some (.ref 0), some (.int a1), some (.int a2)] [.int (((hq_gi y1.2 76 2) >>> (a1 &&& 31)) &&& (1 : Int32))] (fun n h => rfl) ?_
      have h := Option.some.inj h
      subst h
      exact ⟨1, rfl⟩
    rw [if_neg c11] at h
    refine hq_tsw rfl (hq_tsw_d [(0 : Int32), (1 : Int32), (2 : Int32), (3 : Int32)] (by decide) rfl ⟨c3, c6, c9, c11, trivial⟩) ?_
    refine hq_icn (-1 : Int32) rfl (by decide) ?_
    have h := Option.some.inj h
    subst h
    exact ⟨1, rfl⟩
def f_X11_law_J29 (n : Nat) (a1 : Int32) (a2 : Int32) (a3 : Int32) (s : hq_S) : Option (Int64 × hq_S) := some ((-9223372036854775808 : Int64), s)
theorem f_X11_law_J29_run {xs : List Int32} {n d g : Nat} {a1 : Int32} {a2 : Int32} {a3 : Int32} {s : hq_S} {y : (Int64 × hq_S)} (hd : 3 ≤ d) (h : f_X11_law_J29 n a1 a2 a3 s = some y) : hq_R (mm_O xs) d mc_X11_law 29 [some (.ref 0), some (.int a1), some (.int a2), some (.int a3)] [] s g (some (.long y.1)) y.2 := by
  unfold f_X11_law_J29 at h
  refine hq_lc2 (-9223372036854775808 : Int64) rfl (by decide) ?_
  have h := Option.some.inj h
  subst h
  exact ⟨1, rfl⟩
def f_X11_law_J33 (n : Nat) (a1 : Int32) (a2 : Int32) (a3 : Int32) (s : hq_S) : Option (Int64 × hq_S) := if hq_isT (hq_gr s 0 2) then (f_X3_setUp n (hq_gr s 0 2) 103 76 (1 : Int32) s).bind fun s7 => (if a1 = 0 then some a3 else (hq_ld s7 81 4 a2).bind fun x10 => some x10).bind fun z8 => (f_X3_lawValue n a1 a2 z8 s7).bind fun y11 => some (y11.1, y11.2) else none
theorem f_X11_law_J33_run {xs : List Int32} {n d g : Nat} {a1 : Int32} {a2 : Int32} {a3 : Int32} {s : hq_S} {y : (Int64 × hq_S)} (hd : 3 ≤ d) (h : f_X11_law_J33 n a1 a2 a3 s = some y) : hq_R (mm_O xs) d mc_X11_law 33 [some (.ref 0), some (.int a1), some (.int a2), some (.int a3)] [] s g (some (.long y.1)) y.2 := by
  unfold f_X11_law_J33 at h
  refine hq_p 1 34 [some (.ref 0), some (.int a1), some (.int a2), some (.int a3)] [.ref 0] (fun n h => rfl) ?_
  refine hq_gf (x := .ref 113) rfl rfl rfl rfl rfl ?_
  refine hq_p 1 38 [some (.ref 0), some (.int a1), some (.int a2), some (.int a3)] [.ref 0, .ref 113] (fun n h => rfl) ?_
  refine hq_gf (x := .ref (hq_gr s 0 2)) rfl rfl rfl rfl rfl ?_
  have m6 : hq_isT (hq_gr s 0 2) := hq_ifT h
  rw [if_pos m6] at h
  refine hq_p 1 42 [some (.ref 0), some (.int a1), some (.int a2), some (.int a3)] [.ref 0, .ref (hq_gr s 0 2), .ref 113] (fun n h => rfl) ?_
  refine hq_gf (x := .ref 103) rfl rfl rfl rfl rfl ?_
  refine hq_p 1 46 [some (.ref 0), some (.int a1), some (.int a2), some (.int a3)] [.ref 0, .ref 103, .ref (hq_gr s 0 2), .ref 113] (fun n h => rfl) ?_
  refine hq_gf (x := .ref 76) rfl rfl rfl rfl rfl ?_
  refine hq_p 1 50 [some (.ref 0), some (.int a1), some (.int a2), some (.int a3)] [.int (1 : Int32), .ref 76, .ref 103, .ref (hq_gr s 0 2), .ref 113] (fun n h => rfl) ?_
  obtain ⟨s7, hs7, h⟩ := hq_bind h
  refine hq_inv rfl rfl (Nat.le_trans (by decide) hd) rfl rfl (hq_rcv rfl rfl) (f_X3_setUp_run (Nat.le_sub_of_add_le (Nat.le_trans (by decide) hd)) m6 (by decide) (by decide) hs7) rfl ?_
  refine hq_p 1 54 [some (.ref 0), some (.int a1), some (.int a2), some (.int a3)] [.ref 0] (fun n h => rfl) ?_
  refine hq_gf (x := .ref 113) rfl rfl rfl rfl rfl ?_
  refine hq_p 3 60 [some (.ref 0), some (.int a1), some (.int a2), some (.int a3)] [.int a1, .int a2, .int a1, .ref 113] (fun n h => rfl) ?_
  obtain ⟨z8, hz8, h⟩ := hq_bind h
  suffices hT : hq_R (mm_O xs) d mc_X11_law 76 [some (.ref 0), some (.int a1), some (.int a2), some (.int a3)] [.int z8, .int a2, .int a1, .ref 113] s7 g (some (.long y.1)) y.2 from by
    clear h
    have h := hz8
    by_cases c9 : a1 = 0
    · rw [if_pos c9] at h
      refine hq_izF rfl (hq_c_ne_F c9) ?_
      refine hq_p 2 76 [some (.ref 0), some (.int a1), some (.int a2), some (.int a3)] [.int a3, .int a2, .int a1, .ref 113] (fun n h => rfl) ?_
      cases h
      exact hT
    · rw [if_neg c9] at h
      refine hq_izT rfl (hq_c_ne_T c9) ?_
      refine hq_p 1 68 [some (.ref 0), some (.int a1), some (.int a2), some (.int a3)] [.ref 0, .int a2, .int a1, .ref 113] (fun n h => rfl) ?_
      refine hq_gf (x := .ref 76) rfl rfl rfl rfl rfl ?_
      refine hq_gf (x := .ref 81) rfl rfl rfl rfl rfl ?_
      refine hq_p 1 75 [some (.ref 0), some (.int a1), some (.int a2), some (.int a3)] [.int a2, .ref 81, .int a2, .int a1, .ref 113] (fun n h => rfl) ?_
      obtain ⟨x10, hx10, h⟩ := hq_bind h
      refine hq_iaload rfl rfl List.length_replicate hx10 ?_
      cases h
      exact hT
  obtain ⟨y11, hy11, h⟩ := hq_bind h
  refine hq_inv rfl rfl (Nat.le_trans (by decide) hd) rfl rfl (hq_rcv rfl rfl) (f_X3_lawValue_run (Nat.le_sub_of_add_le (Nat.le_trans (by decide) hd)) hy11) rfl ?_
  have h := Option.some.inj h
  subst h
  exact ⟨1, rfl⟩
def f_X11_law (n : Nat) (a1 : Int32) (a2 : Int32) (a3 : Int32) (s : hq_S) : Option (Int64 × hq_S) := if a1 < 0 then f_X11_law_J29 n a1 a2 a3 s else if (2 : Int32) < a1 then f_X11_law_J29 n a1 a2 a3 s else (f_X11_isThief n a2 s).bind fun y3 => if y3.1 = 0 then f_X11_law_J29 n a1 a2 a3 y3.2 else if a1 = 0 then (f_X11_isCorner n a3 y3.2).bind fun y12 => if y12.1 = 0 then f_X11_law_J29 n a1 a2 a3 y12.2 else f_X11_law_J33 n a1 a2 a3 y12.2 else f_X11_law_J33 n a1 a2 a3 y3.2
theorem f_X11_law_run {xs : List Int32} {n d g : Nat} {a1 : Int32} {a2 : Int32} {a3 : Int32} {s : hq_S} {y : (Int64 × hq_S)} (hd : 3 ≤ d) (h : f_X11_law n a1 a2 a3 s = some y) : hq_R (mm_O xs) d mc_X11_law 0 [some (.ref 0), some (.int a1), some (.int a2), some (.int a3)] [] s g (some (.long y.1)) y.2 := by
  unfold f_X11_law at h
  refine hq_p 1 1 [some (.ref 0), some (.int a1), some (.int a2), some (.int a3)] [.int a1] (fun n h => rfl) ?_
  by_cases c1 : a1 < 0
  · rw [if_pos c1] at h
    refine hq_izT rfl (hq_c_lt_T c1) ?_
    exact f_X11_law_J29_run hd h
  · rw [if_neg c1] at h
    refine hq_izF rfl (hq_c_lt_F c1) ?_
    refine hq_p 2 6 [some (.ref 0), some (.int a1), some (.int a2), some (.int a3)] [.int (2 : Int32), .int a1] (fun n h => rfl) ?_
    by_cases c2 : (2 : Int32) < a1
    · rw [if_pos c2] at h
      refine hq_icT rfl (hq_c_gt_T c2) ?_
      exact f_X11_law_J29_run hd h
    · rw [if_neg c2] at h
      refine hq_icF rfl (hq_c_gt_F c2) ?_
      refine hq_p 2 11 [some (.ref 0), some (.int a1), some (.int a2), some (.int a3)] [.int a2, .ref 0] (fun n h => rfl) ?_
      obtain ⟨y3, hy3, h⟩ := hq_bind h
      refine hq_inv rfl rfl (Nat.le_trans (by decide) hd) rfl rfl (hq_rcv rfl rfl) (f_X11_isThief_run (Nat.le_sub_of_add_le (Nat.le_trans (by decide) hd)) hy3) rfl ?_
      by_cases c4 : y3.1 = 0
      · rw [if_pos c4] at h
        refine hq_izT rfl (hq_c_eq_T c4) ?_
        exact f_X11_law_J29_run hd h
      · rw [if_neg c4] at h
        refine hq_izF rfl (hq_c_eq_F c4) ?_
        refine hq_p 1 18 [some (.ref 0), some (.int a1), some (.int a2), some (.int a3)] [.int a1] (fun n h => rfl) ?_
        by_cases c5 : a1 = 0
        · rw [if_pos c5] at h
          refine hq_izF rfl (hq_c_ne_F c5) ?_
          refine hq_p 2 23 [some (.ref 0), some (.int a1), some (.int a2), some (.int a3)] [.int a3, .ref 0] (fun n h => rfl) ?_
          obtain ⟨y12, hy12, h⟩ := hq_bind h
          refine hq_inv rfl rfl (Nat.le_trans (by decide) hd) rfl rfl (hq_rcv rfl rfl) (f_X11_isCorner_run (Nat.le_sub_of_add_le (Nat.le_trans (by decide) hd)) hy12) rfl ?_
          by_cases c13 : y12.1 = 0
          · rw [if_pos c13] at h
            refine hq_izF rfl (hq_c_ne_F c13) ?_
            exact f_X11_law_J29_run hd h
          · rw [if_neg c13] at h
            refine hq_izT rfl (hq_c_ne_T c13) ?_
            exact f_X11_law_J33_run hd h
        · rw [if_neg c5] at h
          refine hq_izT rfl (hq_c_ne_T c5) ?_
          exact f_X11_law_J33_run hd h
def f_X11_send (n : Nat) (a1 : Int32) (a2 : Int32) (s : hq_S) : Option (Int32 × hq_S) := (f_X11_isGuard n a1 s).bind fun y1 => if y1.1 = 0 then some ((0 : Int32), y1.2) else (f_X11_isCorner n a2 y1.2).bind fun y3 => if y3.1 = 0 then some ((0 : Int32), y3.2) else (hq_ld y3.2 78 3 a1).bind fun x5 => (hq_ld y3.2 104 10 x5).bind fun x6 => if ((x6 >>> (a2 &&& 31)) &&& (1 : Int32)) = 0 then some ((0 : Int32), y3.2) else (f_X1_note n (0 : Int32) a1 x5 y3.2).bind fun s8 => (hq_st s8 78 3 a1 a2).bind fun s9 => some ((1 : Int32), s9)
theorem f_X11_send_run {xs : List Int32} {n d g : Nat} {a1 : Int32} {a2 : Int32} {s : hq_S} {y : (Int32 × hq_S)} (hd : 3 ≤ d) (h : f_X11_send n a1 a2 s = some y) : hq_R (mm_O xs) d mc_X11_send 0 [some (.ref 0), some (.int a1), some (.int a2), none] [] s g (some (.int y.1)) y.2 := by
  unfold f_X11_send at h
  refine hq_p 2 2 [some (.ref 0), some (.int a1), some (.int a2), none] [.int a1, .ref 0] (fun n h => rfl) ?_
  obtain ⟨y1, hy1, h⟩ := hq_bind h
  refine hq_inv rfl rfl (Nat.le_trans (by decide) hd) rfl rfl (hq_rcv rfl rfl) (f_X11_isGuard_run (Nat.le_sub_of_add_le (Nat.le_trans (by decide) hd)) hy1) rfl ?_
  by_cases c2 : y1.1 = 0
  · rw [if_pos c2] at h
    refine hq_izT rfl (hq_c_eq_T c2) ?_
    refine hq_p 1 17 [some (.ref 0), some (.int a1), some (.int a2), none] [.int (0 : Int32)] (fun n h => rfl) ?_
    have h := Option.some.inj h
    subst h
    exact ⟨1, rfl⟩
  · rw [if_neg c2] at h
    refine hq_izF rfl (hq_c_eq_F c2) ?_
    refine hq_p 2 10 [some (.ref 0), some (.int a1), some (.int a2), none] [.int a2, .ref 0] (fun n h => rfl) ?_
    obtain ⟨y3, hy3, h⟩ := hq_bind h
    refine hq_inv rfl rfl (Nat.le_trans (by decide) hd) rfl rfl (hq_rcv rfl rfl) (f_X11_isCorner_run (Nat.le_sub_of_add_le (Nat.le_trans (by decide) hd)) hy3) rfl ?_
    by_cases c4 : y3.1 = 0
    · rw [if_pos c4] at h
      refine hq_izF rfl (hq_c_ne_F c4) ?_
      refine hq_p 1 17 [some (.ref 0), some (.int a1), some (.int a2), none] [.int (0 : Int32)] (fun n h => rfl) ?_
      have h := Option.some.inj h
      subst h
      exact ⟨1, rfl⟩
    · rw [if_neg c4] at h
      refine hq_izT rfl (hq_c_ne_T c4) ?_
      refine hq_p 1 19 [some (.ref 0), some (.int a1), some (.int a2), none] [.ref 0] (fun n h => rfl) ?_
      refine hq_gf (x := .ref 76) rfl rfl rfl rfl rfl ?_
      refine hq_gf (x := .ref 78) rfl rfl rfl rfl rfl ?_
      refine hq_p 1 26 [some (.ref 0), some (.int a1), some (.int a2), none] [.int a1, .ref 78] (fun n h => rfl) ?_
      obtain ⟨x5, hx5, h⟩ := hq_bind h
      refine hq_iaload rfl rfl List.length_replicate hx5 ?_
      refine hq_p 2 29 [some (.ref 0), some (.int a1), some (.int a2), some (.int x5)] [.ref 0] (fun n h => rfl) ?_
      refine hq_gf (x := .ref 103) rfl rfl rfl rfl rfl ?_
      refine hq_gf (x := .ref 104) rfl rfl rfl rfl rfl ?_
      refine hq_p 1 36 [some (.ref 0), some (.int a1), some (.int a2), some (.int x5)] [.int x5, .ref 104] (fun n h => rfl) ?_
      obtain ⟨x6, hx6, h⟩ := hq_bind h
      refine hq_iaload rfl rfl List.length_replicate hx6 ?_
      refine hq_p 4 41 [some (.ref 0), some (.int a1), some (.int a2), some (.int x5)] [.int ((x6 >>> (a2 &&& 31)) &&& (1 : Int32))] (fun n h => rfl) ?_
      by_cases c7 : ((x6 >>> (a2 &&& 31)) &&& (1 : Int32)) = 0
      · rw [if_pos c7] at h
        refine hq_izF rfl (hq_c_ne_F c7) ?_
        refine hq_p 1 45 [some (.ref 0), some (.int a1), some (.int a2), some (.int x5)] [.int (0 : Int32)] (fun n h => rfl) ?_
        have h := Option.some.inj h
        subst h
        exact ⟨1, rfl⟩
      · rw [if_neg c7] at h
        refine hq_izT rfl (hq_c_ne_T c7) ?_
        refine hq_p 1 47 [some (.ref 0), some (.int a1), some (.int a2), some (.int x5)] [.ref 0] (fun n h => rfl) ?_
        refine hq_gf (x := .ref 170) rfl rfl rfl rfl rfl ?_
        refine hq_p 3 53 [some (.ref 0), some (.int a1), some (.int a2), some (.int x5)] [.int x5, .int a1, .int (0 : Int32), .ref 170] (fun n h => rfl) ?_
        obtain ⟨s8, hs8, h⟩ := hq_bind h
        refine hq_inv rfl rfl (Nat.le_trans (by decide) hd) rfl rfl (hq_rcv rfl rfl) (f_X1_note_run (Nat.le_sub_of_add_le (Nat.le_trans (by decide) hd)) hs8) rfl ?_
        refine hq_p 1 57 [some (.ref 0), some (.int a1), some (.int a2), some (.int x5)] [.ref 0] (fun n h => rfl) ?_
        refine hq_gf (x := .ref 76) rfl rfl rfl rfl rfl ?_
        refine hq_gf (x := .ref 78) rfl rfl rfl rfl rfl ?_
        refine hq_p 2 65 [some (.ref 0), some (.int a1), some (.int a2), some (.int x5)] [.int a2, .int a1, .ref 78] (fun n h => rfl) ?_
        obtain ⟨s9, hs9, h⟩ := hq_bind h
        refine hq_iastore rfl rfl List.length_replicate hs9 ?_
        refine hq_p 1 67 [some (.ref 0), some (.int a1), some (.int a2), some (.int x5)] [.int (1 : Int32)] (fun n h => rfl) ?_
        have h := Option.some.inj h
        subst h
        exact ⟨1, rfl⟩
def f_X11_turnBar (n : Nat) (a1 : Int32) (s : hq_S) : Option hq_S := (hq_pi s 76 2 0 ((hq_gi s 76 2) ^^^ ((1 : Int32) <<< (a1 &&& 31)))).bind fun s1 => if hq_isT (hq_gr s1 0 2) then (f_X8_build n 103 (hq_gr s1 0 2) (hq_gi s1 76 2) (0 : Int32) s1).bind fun s3 => some s3 else none
theorem f_X11_turnBar_run {xs : List Int32} {n d g : Nat} {a1 : Int32} {s : hq_S} {y : hq_S} (hd : 3 ≤ d) (h : f_X11_turnBar n a1 s = some y) : hq_R (mm_O xs) d mc_X11_turnBar 0 [some (.ref 0), some (.int a1)] [] s g none y := by
  unfold f_X11_turnBar at h
  refine hq_p 1 1 [some (.ref 0), some (.int a1)] [.ref 0] (fun n h => rfl) ?_
  refine hq_gf (x := .ref 76) rfl rfl rfl rfl rfl ?_
  refine hq_p 1 5 [some (.ref 0), some (.int a1)] [.ref 76, .ref 76] (fun n h => rfl) ?_
  refine hq_gf (x := .int (hq_gi s 76 2)) rfl rfl rfl rfl rfl ?_
  refine hq_p 4 12 [some (.ref 0), some (.int a1)] [.int ((hq_gi s 76 2) ^^^ ((1 : Int32) <<< (a1 &&& 31))), .ref 76] (fun n h => rfl) ?_
  obtain ⟨s1, hs1, h⟩ := hq_bind h
  refine hq_pfi rfl (hq_shN (by decide)) rfl rfl rfl hs1 ?_
  refine hq_p 1 16 [some (.ref 0), some (.int a1)] [.ref 0] (fun n h => rfl) ?_
  refine hq_gf (x := .ref 103) rfl rfl rfl rfl rfl ?_
  refine hq_p 1 20 [some (.ref 0), some (.int a1)] [.ref 0, .ref 103] (fun n h => rfl) ?_
  refine hq_gf (x := .ref (hq_gr s1 0 2)) rfl rfl rfl rfl rfl ?_
  have m2 : hq_isT (hq_gr s1 0 2) := hq_ifT h
  rw [if_pos m2] at h
  refine hq_p 1 24 [some (.ref 0), some (.int a1)] [.ref 0, .ref (hq_gr s1 0 2), .ref 103] (fun n h => rfl) ?_
  refine hq_gf (x := .ref 76) rfl rfl rfl rfl rfl ?_
  refine hq_gf (x := .int (hq_gi s1 76 2)) rfl rfl rfl rfl rfl ?_
  refine hq_p 1 31 [some (.ref 0), some (.int a1)] [.int (0 : Int32), .int (hq_gi s1 76 2), .ref (hq_gr s1 0 2), .ref 103] (fun n h => rfl) ?_
  obtain ⟨s3, hs3, h⟩ := hq_bind h
  refine hq_inv rfl rfl (Nat.le_trans (by decide) hd) rfl rfl (hq_rcv (hq_shS (by decide)) rfl) (f_X8_build_run (Nat.le_sub_of_add_le (Nat.le_trans (by decide) hd)) (by decide) m2 hs3) rfl ?_
  have h := Option.some.inj h
  subst h
  exact ⟨1, rfl⟩
def f_X11_bar (n : Nat) (a1 : Int32) (s : hq_S) : Option (Int32 × hq_S) := (f_X11_isLane n a1 s).bind fun y1 => if y1.1 = 0 then some ((-1 : Int32), y1.2) else (f_X1_note n (1 : Int32) a1 (0 : Int32) y1.2).bind fun s3 => (f_X11_turnBar n a1 s3).bind fun s4 => some ((((hq_gi s4 76 2) >>> (a1 &&& 31)) &&& (1 : Int32)), s4)
theorem f_X11_bar_run {xs : List Int32} {n d g : Nat} {a1 : Int32} {s : hq_S} {y : (Int32 × hq_S)} (hd : 4 ≤ d) (h : f_X11_bar n a1 s = some y) : hq_R (mm_O xs) d mc_X11_bar 0 [some (.ref 0), some (.int a1)] [] s g (some (.int y.1)) y.2 := by
  unfold f_X11_bar at h
  refine hq_p 2 2 [some (.ref 0), some (.int a1)] [.int a1, .ref 0] (fun n h => rfl) ?_
  obtain ⟨y1, hy1, h⟩ := hq_bind h
  refine hq_inv rfl rfl (Nat.le_trans (by decide) hd) rfl rfl (hq_rcv rfl rfl) (f_X11_isLane_run (Nat.le_sub_of_add_le (Nat.le_trans (by decide) hd)) hy1) rfl ?_
  by_cases c2 : y1.1 = 0
  · rw [if_pos c2] at h
    refine hq_izF rfl (hq_c_ne_F c2) ?_
    refine hq_icn (-1 : Int32) rfl (by decide) ?_
    have h := Option.some.inj h
    subst h
    exact ⟨1, rfl⟩
  · rw [if_neg c2] at h
    refine hq_izT rfl (hq_c_ne_T c2) ?_
    refine hq_p 1 11 [some (.ref 0), some (.int a1)] [.ref 0] (fun n h => rfl) ?_
    refine hq_gf (x := .ref 170) rfl rfl rfl rfl rfl ?_
    refine hq_p 3 17 [some (.ref 0), some (.int a1)] [.int (0 : Int32), .int a1, .int (1 : Int32), .ref 170] (fun n h => rfl) ?_
    obtain ⟨s3, hs3, h⟩ := hq_bind h
    refine hq_inv rfl rfl (Nat.le_trans (by decide) hd) rfl rfl (hq_rcv rfl rfl) (f_X1_note_run (Nat.le_sub_of_add_le (Nat.le_trans (by decide) hd)) hs3) rfl ?_
    refine hq_p 2 22 [some (.ref 0), some (.int a1)] [.int a1, .ref 0] (fun n h => rfl) ?_
    obtain ⟨s4, hs4, h⟩ := hq_bind h
    refine hq_inv rfl rfl (Nat.le_trans (by decide) hd) rfl rfl (hq_rcv rfl rfl) (f_X11_turnBar_run (Nat.le_sub_of_add_le (Nat.le_trans (by decide) hd)) hs4) rfl ?_
    refine hq_p 1 26 [some (.ref 0), some (.int a1)] [.ref 0] (fun n h => rfl) ?_
    refine hq_gf (x := .ref 76) rfl rfl rfl rfl rfl ?_
    refine hq_gf (x := .int (hq_gi s4 76 2)) rfl rfl rfl rfl rfl ?_
    refine hq_p 4 36 [some (.ref 0), some (.int a1)] [.int (((hq_gi s4 76 2) >>> (a1 &&& 31)) &&& (1 : Int32))] (fun n h => rfl) ?_
    have h := Option.some.inj h
    subst h
    exact ⟨1, rfl⟩
def f_X11_drop (n : Nat) (a1 : Int32) (a2 : Int32) (s : hq_S) : Option (Int32 × hq_S) := (f_X11_isCorner n a1 s).bind fun y1 => if y1.1 = 0 then some ((-1 : Int32), y1.2) else if a2 < (1 : Int32) then some ((-1 : Int32), y1.2) else if (999 : Int32) < a2 then some ((-1 : Int32), y1.2) else (hq_ld y1.2 77 10 a1).bind fun x5 => (f_X1_note n (2 : Int32) a1 x5 y1.2).bind fun s6 => (hq_ld s6 77 10 a1).bind fun x7 => (hq_st s6 77 10 a1 (hq_min (x7 + a2) (9999 : Int32))).bind fun s8 => (hq_ld s8 77 10 a1).bind fun x9 => some (x9, s8)
theorem f_X11_drop_run {xs : List Int32} {n d g : Nat} {a1 : Int32} {a2 : Int32} {s : hq_S} {y : (Int32 × hq_S)} (hd : 3 ≤ d) (h : f_X11_drop n a1 a2 s = some y) : hq_R (mm_O xs) d mc_X11_drop 0 [some (.ref 0), some (.int a1), some (.int a2)] [] s g (some (.int y.1)) y.2 := by
  unfold f_X11_drop at h
  refine hq_p 2 2 [some (.ref 0), some (.int a1), some (.int a2)] [.int a1, .ref 0] (fun n h => rfl) ?_
  obtain ⟨y1, hy1, h⟩ := hq_bind h
  refine hq_inv rfl rfl (Nat.le_trans (by decide) hd) rfl rfl (hq_rcv rfl rfl) (f_X11_isCorner_run (Nat.le_sub_of_add_le (Nat.le_trans (by decide) hd)) hy1) rfl ?_
  by_cases c2 : y1.1 = 0
  · rw [if_pos c2] at h
    refine hq_izT rfl (hq_c_eq_T c2) ?_
    refine hq_icn (-1 : Int32) rfl (by decide) ?_
    have h := Option.some.inj h
    subst h
    exact ⟨1, rfl⟩
  · rw [if_neg c2] at h
    refine hq_izF rfl (hq_c_eq_F c2) ?_
    refine hq_p 2 10 [some (.ref 0), some (.int a1), some (.int a2)] [.int (1 : Int32), .int a2] (fun n h => rfl) ?_
    by_cases c3 : a2 < (1 : Int32)
    · rw [if_pos c3] at h
      refine hq_icT rfl (hq_c_lt_T c3) ?_
      refine hq_icn (-1 : Int32) rfl (by decide) ?_
      have h := Option.some.inj h
      subst h
      exact ⟨1, rfl⟩
    · rw [if_neg c3] at h
      refine hq_icF rfl (hq_c_lt_F c3) ?_
      refine hq_p 1 14 [some (.ref 0), some (.int a1), some (.int a2)] [.int a2] (fun n h => rfl) ?_
      refine hq_sip (999 : Int32) rfl (by decide) ?_
      by_cases c4 : (999 : Int32) < a2
      · rw [if_pos c4] at h
        refine hq_icF rfl (hq_c_le_F c4) ?_
        refine hq_icn (-1 : Int32) rfl (by decide) ?_
        have h := Option.some.inj h
        subst h
        exact ⟨1, rfl⟩
      · rw [if_neg c4] at h
        refine hq_icT rfl (hq_c_le_T c4) ?_
        refine hq_p 1 23 [some (.ref 0), some (.int a1), some (.int a2)] [.ref 0] (fun n h => rfl) ?_
        refine hq_gf (x := .ref 170) rfl rfl rfl rfl rfl ?_
        refine hq_p 3 29 [some (.ref 0), some (.int a1), some (.int a2)] [.ref 0, .int a1, .int (2 : Int32), .ref 170] (fun n h => rfl) ?_
        refine hq_gf (x := .ref 76) rfl rfl rfl rfl rfl ?_
        refine hq_gf (x := .ref 77) rfl rfl rfl rfl rfl ?_
        refine hq_p 1 36 [some (.ref 0), some (.int a1), some (.int a2)] [.int a1, .ref 77, .int a1, .int (2 : Int32), .ref 170] (fun n h => rfl) ?_
        obtain ⟨x5, hx5, h⟩ := hq_bind h
        refine hq_iaload rfl rfl List.length_replicate hx5 ?_
        obtain ⟨s6, hs6, h⟩ := hq_bind h
        refine hq_inv rfl rfl (Nat.le_trans (by decide) hd) rfl rfl (hq_rcv rfl rfl) (f_X1_note_run (Nat.le_sub_of_add_le (Nat.le_trans (by decide) hd)) hs6) rfl ?_
        refine hq_p 1 41 [some (.ref 0), some (.int a1), some (.int a2)] [.ref 0] (fun n h => rfl) ?_
        refine hq_gf (x := .ref 76) rfl rfl rfl rfl rfl ?_
        refine hq_gf (x := .ref 77) rfl rfl rfl rfl rfl ?_
        refine hq_p 2 49 [some (.ref 0), some (.int a1), some (.int a2)] [.ref 0, .int a1, .ref 77] (fun n h => rfl) ?_
        refine hq_gf (x := .ref 76) rfl rfl rfl rfl rfl ?_
        refine hq_gf (x := .ref 77) rfl rfl rfl rfl rfl ?_
        refine hq_p 1 56 [some (.ref 0), some (.int a1), some (.int a2)] [.int a1, .ref 77, .int a1, .ref 77] (fun n h => rfl) ?_
        obtain ⟨x7, hx7, h⟩ := hq_bind h
        refine hq_iaload rfl rfl List.length_replicate hx7 ?_
        refine hq_p 2 59 [some (.ref 0), some (.int a1), some (.int a2)] [.int (x7 + a2), .int a1, .ref 77] (fun n h => rfl) ?_
        refine hq_sip (9999 : Int32) rfl (by decide) ?_
        refine hq_math rfl rfl rfl (Nat.le_trans (by decide) hd) ?_
        obtain ⟨s8, hs8, h⟩ := hq_bind h
        refine hq_iastore rfl rfl List.length_replicate hs8 ?_
        refine hq_p 1 67 [some (.ref 0), some (.int a1), some (.int a2)] [.ref 0] (fun n h => rfl) ?_
        refine hq_gf (x := .ref 76) rfl rfl rfl rfl rfl ?_
        refine hq_gf (x := .ref 77) rfl rfl rfl rfl rfl ?_
        refine hq_p 1 74 [some (.ref 0), some (.int a1), some (.int a2)] [.int a1, .ref 77] (fun n h => rfl) ?_
        obtain ⟨x9, hx9, h⟩ := hq_bind h
        refine hq_iaload rfl rfl List.length_replicate hx9 ?_
        have h := Option.some.inj h
        subst h
        exact ⟨1, rfl⟩
def f_X11_go (n : Nat) (a1 : Int32) (s : hq_S) : Option (Int32 × hq_S) := if a1 < 0 then some ((-1 : Int32), s) else if (200 : Int32) < a1 then some ((-1 : Int32), s) else if (9800 : Int32) < ((hq_gi s 76 0) + a1) then some ((-1 : Int32), s) else if hq_isT (hq_gr s 0 2) then (f_X3_setUp n (hq_gr s 0 2) 103 76 (0 : Int32) s).bind fun s5 => (f_X3_passMany n a1 s5).bind fun s6 => (if 0 < a1 then (f_X1_clear n s6).bind fun s9 => some s9 else some s6).bind fun z7 => some ((hq_gi z7 76 0), z7) else none
theorem f_X11_go_run {xs : List Int32} {n d g : Nat} {a1 : Int32} {s : hq_S} {y : (Int32 × hq_S)} (hd : 7 ≤ d) (h : f_X11_go n a1 s = some y) : hq_R (mm_O xs) d mc_X11_go 0 [some (.ref 0), some (.int a1)] [] s g (some (.int y.1)) y.2 := by
  unfold f_X11_go at h
  refine hq_p 1 1 [some (.ref 0), some (.int a1)] [.int a1] (fun n h => rfl) ?_
  by_cases c1 : a1 < 0
  · rw [if_pos c1] at h
    refine hq_izT rfl (hq_c_lt_T c1) ?_
    refine hq_icn (-1 : Int32) rfl (by decide) ?_
    have h := Option.some.inj h
    subst h
    exact ⟨1, rfl⟩
  · rw [if_neg c1] at h
    refine hq_izF rfl (hq_c_lt_F c1) ?_
    refine hq_p 1 5 [some (.ref 0), some (.int a1)] [.int a1] (fun n h => rfl) ?_
    refine hq_sip (200 : Int32) rfl (by decide) ?_
    by_cases c2 : (200 : Int32) < a1
    · rw [if_pos c2] at h
      refine hq_icT rfl (hq_c_gt_T c2) ?_
      refine hq_icn (-1 : Int32) rfl (by decide) ?_
      have h := Option.some.inj h
      subst h
      exact ⟨1, rfl⟩
    · rw [if_neg c2] at h
      refine hq_icF rfl (hq_c_gt_F c2) ?_
      refine hq_p 1 12 [some (.ref 0), some (.int a1)] [.ref 0] (fun n h => rfl) ?_
      refine hq_gf (x := .ref 76) rfl rfl rfl rfl rfl ?_
      refine hq_gf (x := .int (hq_gi s 76 0)) rfl rfl rfl rfl rfl ?_
      refine hq_p 2 20 [some (.ref 0), some (.int a1)] [.int ((hq_gi s 76 0) + a1)] (fun n h => rfl) ?_
      refine hq_sip (9800 : Int32) rfl (by decide) ?_
      by_cases c3 : (9800 : Int32) < ((hq_gi s 76 0) + a1)
      · rw [if_pos c3] at h
        refine hq_icF rfl (hq_c_le_F c3) ?_
        refine hq_icn (-1 : Int32) rfl (by decide) ?_
        have h := Option.some.inj h
        subst h
        exact ⟨1, rfl⟩
      · rw [if_neg c3] at h
        refine hq_icT rfl (hq_c_le_T c3) ?_
        refine hq_p 1 29 [some (.ref 0), some (.int a1)] [.ref 0] (fun n h => rfl) ?_
        refine hq_gf (x := .ref 113) rfl rfl rfl rfl rfl ?_
        refine hq_p 1 33 [some (.ref 0), some (.int a1)] [.ref 0, .ref 113] (fun n h => rfl) ?_
        refine hq_gf (x := .ref (hq_gr s 0 2)) rfl rfl rfl rfl rfl ?_
        have m4 : hq_isT (hq_gr s 0 2) := hq_ifT h
        rw [if_pos m4] at h
        refine hq_p 1 37 [some (.ref 0), some (.int a1)] [.ref 0, .ref (hq_gr s 0 2), .ref 113] (fun n h => rfl) ?_
        refine hq_gf (x := .ref 103) rfl rfl rfl rfl rfl ?_
        refine hq_p 1 41 [some (.ref 0), some (.int a1)] [.ref 0, .ref 103, .ref (hq_gr s 0 2), .ref 113] (fun n h => rfl) ?_
        refine hq_gf (x := .ref 76) rfl rfl rfl rfl rfl ?_
        refine hq_p 1 45 [some (.ref 0), some (.int a1)] [.int (0 : Int32), .ref 76, .ref 103, .ref (hq_gr s 0 2), .ref 113] (fun n h => rfl) ?_
        obtain ⟨s5, hs5, h⟩ := hq_bind h
        refine hq_inv rfl rfl (Nat.le_trans (by decide) hd) rfl rfl (hq_rcv rfl rfl) (f_X3_setUp_run (Nat.le_sub_of_add_le (Nat.le_trans (by decide) hd)) m4 (by decide) (by decide) hs5) rfl ?_
        refine hq_p 1 49 [some (.ref 0), some (.int a1)] [.ref 0] (fun n h => rfl) ?_
        refine hq_gf (x := .ref 113) rfl rfl rfl rfl rfl ?_
        refine hq_p 1 53 [some (.ref 0), some (.int a1)] [.int a1, .ref 113] (fun n h => rfl) ?_
        obtain ⟨s6, hs6, h⟩ := hq_bind h
        refine hq_inv rfl rfl (Nat.le_trans (by decide) hd) rfl rfl (hq_rcv rfl rfl) (f_X3_passMany_run (Nat.le_sub_of_add_le (Nat.le_trans (by decide) hd)) hs6) rfl ?_
        refine hq_p 1 57 [some (.ref 0), some (.int a1)] [.int a1] (fun n h => rfl) ?_
        obtain ⟨z7, hz7, h⟩ := hq_bind h
        suffices hT : hq_R (mm_O xs) d mc_X11_go 67 [some (.ref 0), some (.int a1)] [] z7 g (some (.int y.1)) y.2 from by
          clear h
          have h := hz7
          by_cases c8 : 0 < a1
          · rw [if_pos c8] at h
            refine hq_izF rfl (hq_c_le_F c8) ?_
            refine hq_p 1 61 [some (.ref 0), some (.int a1)] [.ref 0] (fun n h => rfl) ?_
            refine hq_gf (x := .ref 170) rfl rfl rfl rfl rfl ?_
            obtain ⟨s9, hs9, h⟩ := hq_bind h
            refine hq_inv rfl rfl (Nat.le_trans (by decide) hd) rfl rfl (hq_rcv rfl rfl) (f_X1_clear_run (Nat.le_sub_of_add_le (Nat.le_trans (by decide) hd)) hs9) rfl ?_
            cases h
            exact hT
          · rw [if_neg c8] at h
            refine hq_izT rfl (hq_c_le_T c8) ?_
            cases h
            exact hT
        refine hq_p 1 68 [some (.ref 0), some (.int a1)] [.ref 0] (fun n h => rfl) ?_
        refine hq_gf (x := .ref 76) rfl rfl rfl rfl rfl ?_
        refine hq_gf (x := .int (hq_gi z7 76 0)) rfl rfl rfl rfl rfl ?_
        have h := Option.some.inj h
        subst h
        exact ⟨1, rfl⟩
def f_X11_playAsItGoes (n : Nat) (s : hq_S) : Option hq_S := (f_X5_copyFrom n 94 76 s).bind fun s1 => if hq_isT (hq_gr s1 0 2) then (f_X3_setUp n (hq_gr s1 0 2) 103 94 (1 : Int32) s1).bind fun s3 => some s3 else none
theorem f_X11_playAsItGoes_run {xs : List Int32} {n d g : Nat} {s : hq_S} {y : hq_S} (hd : 2 ≤ d) (h : f_X11_playAsItGoes n s = some y) : hq_R (mm_O xs) d mc_X11_playAsItGoes 0 [some (.ref 0)] [] s g none y := by
  unfold f_X11_playAsItGoes at h
  refine hq_p 1 1 [some (.ref 0)] [.ref 0] (fun n h => rfl) ?_
  refine hq_gf (x := .ref 94) rfl rfl rfl rfl rfl ?_
  refine hq_p 1 5 [some (.ref 0)] [.ref 0, .ref 94] (fun n h => rfl) ?_
  refine hq_gf (x := .ref 76) rfl rfl rfl rfl rfl ?_
  obtain ⟨s1, hs1, h⟩ := hq_bind h
  refine hq_inv rfl rfl (Nat.le_trans (by decide) hd) rfl rfl (hq_rcv (hq_shN (by decide)) rfl) (f_X5_copyFrom_run (Nat.le_sub_of_add_le (Nat.le_trans (by decide) hd)) (by decide) (by decide) hs1) rfl ?_
  refine hq_p 1 12 [some (.ref 0)] [.ref 0] (fun n h => rfl) ?_
  refine hq_gf (x := .ref 113) rfl rfl rfl rfl rfl ?_
  refine hq_p 1 16 [some (.ref 0)] [.ref 0, .ref 113] (fun n h => rfl) ?_
  refine hq_gf (x := .ref (hq_gr s1 0 2)) rfl rfl rfl rfl rfl ?_
  have m2 : hq_isT (hq_gr s1 0 2) := hq_ifT h
  rw [if_pos m2] at h
  refine hq_p 1 20 [some (.ref 0)] [.ref 0, .ref (hq_gr s1 0 2), .ref 113] (fun n h => rfl) ?_
  refine hq_gf (x := .ref 103) rfl rfl rfl rfl rfl ?_
  refine hq_p 1 24 [some (.ref 0)] [.ref 0, .ref 103, .ref (hq_gr s1 0 2), .ref 113] (fun n h => rfl) ?_
  refine hq_gf (x := .ref 94) rfl rfl rfl rfl rfl ?_
  refine hq_p 1 28 [some (.ref 0)] [.int (1 : Int32), .ref 94, .ref 103, .ref (hq_gr s1 0 2), .ref 113] (fun n h => rfl) ?_
  obtain ⟨s3, hs3, h⟩ := hq_bind h
  refine hq_inv rfl rfl (Nat.le_trans (by decide) hd) rfl rfl (hq_rcv rfl rfl) (f_X3_setUp_run (Nat.le_sub_of_add_le (Nat.le_trans (by decide) hd)) m2 (by decide) (by decide) hs3) rfl ?_
  have h := Option.some.inj h
  subst h
  exact ⟨1, rfl⟩
def f_X11_ahead_J65 (n : Nat) (a1 : Int32) (a2 : Int32) (a3 : Int32) (a4 : Int32) (s : hq_S) : Option (Int32 × hq_S) := (f_X11_playAsItGoes n s).bind fun s10 => (f_X3_passMany n a1 s10).bind fun s11 => if a2 = (0 : Int32) then if hq_isT (hq_gr s11 0 2) then (f_X5_howManyCaught n 94 (hq_gi s11 (hq_gr s11 0 2) 11) s11).bind fun y14 => some (y14.1, y14.2) else none else if a2 = (1 : Int32) then (hq_ld s11 101 4 a3).bind fun x16 => some (x16, s11) else if a2 = (2 : Int32) then if hq_isT (hq_gr s11 0 2) then (f_X5_lootOfAll n 94 (hq_gi s11 (hq_gr s11 0 2) 0) s11).bind fun y19 => some (y19.1, y19.2) else none else if a2 = (3 : Int32) then (hq_ld s11 96 3 a3).bind fun x21 => some (x21, s11) else (hq_ld s11 99 4 a3).bind fun x22 => some (x22, s11)
theorem f_X11_ahead_J65_run {xs : List Int32} {n d g : Nat} {a1 : Int32} {a2 : Int32} {a3 : Int32} {a4 : Int32} {s : hq_S} {y : (Int32 × hq_S)} (hd : 7 ≤ d) (h : f_X11_ahead_J65 n a1 a2 a3 a4 s = some y) : hq_R (mm_O xs) d mc_X11_ahead 65 [some (.ref 0), some (.int a1), some (.int a2), some (.int a3), some (.int a4)] [] s g (some (.int y.1)) y.2 := by
  unfold f_X11_ahead_J65 at h
  refine hq_p 1 66 [some (.ref 0), some (.int a1), some (.int a2), some (.int a3), some (.int a4)] [.ref 0] (fun n h => rfl) ?_
  obtain ⟨s10, hs10, h⟩ := hq_bind h
  refine hq_inv rfl rfl (Nat.le_trans (by decide) hd) rfl rfl (hq_rcv rfl rfl) (f_X11_playAsItGoes_run (Nat.le_sub_of_add_le (Nat.le_trans (by decide) hd)) hs10) rfl ?_
  refine hq_p 1 70 [some (.ref 0), some (.int a1), some (.int a2), some (.int a3), some (.int a4)] [.ref 0] (fun n h => rfl) ?_
  refine hq_gf (x := .ref 113) rfl rfl rfl rfl rfl ?_
  refine hq_p 1 74 [some (.ref 0), some (.int a1), some (.int a2), some (.int a3), some (.int a4)] [.int a1, .ref 113] (fun n h => rfl) ?_
  obtain ⟨s11, hs11, h⟩ := hq_bind h
  refine hq_inv rfl rfl (Nat.le_trans (by decide) hd) rfl rfl (hq_rcv rfl rfl) (f_X3_passMany_run (Nat.le_sub_of_add_le (Nat.le_trans (by decide) hd)) hs11) rfl ?_
  refine hq_p 1 78 [some (.ref 0), some (.int a1), some (.int a2), some (.int a3), some (.int a4)] [.int a2] (fun n h => rfl) ?_
  by_cases c12 : a2 = (0 : Int32)
  · rw [if_pos c12] at h
    refine hq_tsw rfl (show _ = some 108 from by rw [c12]; decide) ?_
    refine hq_p 1 109 [some (.ref 0), some (.int a1), some (.int a2), some (.int a3), some (.int a4)] [.ref 0] (fun n h => rfl) ?_
    refine hq_gf (x := .ref 94) rfl rfl rfl rfl rfl ?_
    refine hq_p 1 113 [some (.ref 0), some (.int a1), some (.int a2), some (.int a3), some (.int a4)] [.ref 0, .ref 94] (fun n h => rfl) ?_
    refine hq_gf (x := .ref (hq_gr s11 0 2)) rfl rfl rfl rfl rfl ?_
    have m13 : hq_isT (hq_gr s11 0 2) := hq_ifT h
    rw [if_pos m13] at h
    refine hq_gf (x := .int (hq_gi s11 (hq_gr s11 0 2) 11)) rfl (hq_shT m13) rfl rfl rfl ?_
    obtain ⟨y14, hy14, h⟩ := hq_bind h
    refine hq_inv rfl rfl (Nat.le_trans (by decide) hd) rfl rfl (hq_rcv (hq_shN (by decide)) rfl) (f_X5_howManyCaught_run (Nat.le_sub_of_add_le (Nat.le_trans (by decide) hd)) (by decide) hy14) rfl ?_
    have h := Option.some.inj h
    subst h
    exact ⟨1, rfl⟩
  rw [if_neg c12] at h
  by_cases c15 : a2 = (1 : Int32)
  · rw [if_pos c15] at h
    refine hq_tsw rfl (show _ = some 123 from by rw [c15]; decide) ?_
    refine hq_p 1 124 [some (.ref 0), some (.int a1), some (.int a2), some (.int a3), some (.int a4)] [.ref 0] (fun n h => rfl) ?_
    refine hq_gf (x := .ref 94) rfl rfl rfl rfl rfl ?_
    refine hq_gf (x := .ref 101) rfl rfl rfl rfl rfl ?_
    refine hq_p 1 131 [some (.ref 0), some (.int a1), some (.int a2), some (.int a3), some (.int a4)] [.int a3, .ref 101] (fun n h => rfl) ?_
    obtain ⟨x16, hx16, h⟩ := hq_bind h
    refine hq_iaload rfl rfl List.length_replicate hx16 ?_
    have h := Option.some.inj h
    subst h
    exact ⟨1, rfl⟩
  rw [if_neg c15] at h
  by_cases c17 : a2 = (2 : Int32)
  · rw [if_pos c17] at h
    refine hq_tsw rfl (show _ = some 133 from by rw [c17]; decide) ?_
    refine hq_p 1 134 [some (.ref 0), some (.int a1), some (.int a2), some (.int a3), some (.int a4)] [.ref 0] (fun n h => rfl) ?_
    refine hq_gf (x := .ref 94) rfl rfl rfl rfl rfl ?_
    refine hq_p 1 138 [some (.ref 0), some (.int a1), some (.int a2), some (.int a3), some (.int a4)] [.ref 0, .ref 94] (fun n h => rfl) ?_
    refine hq_gf (x := .ref (hq_gr s11 0 2)) rfl rfl rfl rfl rfl ?_
    have m18 : hq_isT (hq_gr s11 0 2) := hq_ifT h
    rw [if_pos m18] at h
    refine hq_gf (x := .int (hq_gi s11 (hq_gr s11 0 2) 0)) rfl (hq_shT m18) rfl rfl rfl ?_
    obtain ⟨y19, hy19, h⟩ := hq_bind h
    refine hq_inv rfl rfl (Nat.le_trans (by decide) hd) rfl rfl (hq_rcv (hq_shN (by decide)) rfl) (f_X5_lootOfAll_run (Nat.le_sub_of_add_le (Nat.le_trans (by decide) hd)) (by decide) hy19) rfl ?_
    have h := Option.some.inj h
    subst h
    exact ⟨1, rfl⟩
  rw [if_neg c17] at h
  by_cases c20 : a2 = (3 : Int32)
  · rw [if_pos c20] at h
    refine hq_tsw rfl (show _ = some 148 from by rw [c20]; decide) ?_
    refine hq_p 1 149 [some (.ref 0), some (.int a1), some (.int a2), some (.int a3), some (.int a4)] [.ref 0] (fun n h => rfl) ?_
    refine hq_gf (x := .ref 94) rfl rfl rfl rfl rfl ?_
    refine hq_gf (x := .ref 96) rfl rfl rfl rfl rfl ?_
    refine hq_p 1 156 [some (.ref 0), some (.int a1), some (.int a2), some (.int a3), some (.int a4)] [.int a3, .ref 96] (fun n h => rfl) ?_
    obtain ⟨x21, hx21, h⟩ := hq_bind h
    refine hq_iaload rfl rfl List.length_replicate hx21 ?_
    have h := Option.some.inj h
    subst h
    exact ⟨1, rfl⟩
  rw [if_neg c20] at h
  refine hq_tsw rfl (hq_tsw_d [(0 : Int32), (1 : Int32), (2 : Int32), (3 : Int32)] (by decide) rfl ⟨c12, c15, c17, c20, trivial⟩) ?_
  refine hq_p 1 159 [some (.ref 0), some (.int a1), some (.int a2), some (.int a3), some (.int a4)] [.ref 0] (fun n h => rfl) ?_
  refine hq_gf (x := .ref 94) rfl rfl rfl rfl rfl ?_
  refine hq_gf (x := .ref 99) rfl rfl rfl rfl rfl ?_
  refine hq_p 1 166 [some (.ref 0), some (.int a1), some (.int a2), some (.int a3), some (.int a4)] [.int a3, .ref 99] (fun n h => rfl) ?_
  obtain ⟨x22, hx22, h⟩ := hq_bind h
  refine hq_iaload rfl rfl List.length_replicate hx22 ?_
  have h := Option.some.inj h
  subst h
  exact ⟨1, rfl⟩
def f_X11_ahead_J50 (n : Nat) (a1 : Int32) (a2 : Int32) (a3 : Int32) (a4 : Int32) (s : hq_S) : Option (Int32 × hq_S) := if a2 = (3 : Int32) then (f_X11_isGuard n a3 s).bind fun y23 => if y23.1 = 0 then some ((-1 : Int32), y23.2) else f_X11_ahead_J65 n a1 a2 a3 a4 y23.2 else f_X11_ahead_J65 n a1 a2 a3 a4 s
theorem f_X11_ahead_J50_run {xs : List Int32} {n d g : Nat} {a1 : Int32} {a2 : Int32} {a3 : Int32} {a4 : Int32} {s : hq_S} {y : (Int32 × hq_S)} (hd : 7 ≤ d) (h : f_X11_ahead_J50 n a1 a2 a3 a4 s = some y) : hq_R (mm_O xs) d mc_X11_ahead 50 [some (.ref 0), some (.int a1), some (.int a2), some (.int a3), some (.int a4)] [] s g (some (.int y.1)) y.2 := by
  unfold f_X11_ahead_J50 at h
  refine hq_p 2 52 [some (.ref 0), some (.int a1), some (.int a2), some (.int a3), some (.int a4)] [.int (3 : Int32), .int a2] (fun n h => rfl) ?_
  by_cases c9 : a2 = (3 : Int32)
  · rw [if_pos c9] at h
    refine hq_icF rfl (hq_c_ne_F c9) ?_
    refine hq_p 2 57 [some (.ref 0), some (.int a1), some (.int a2), some (.int a3), some (.int a4)] [.int a3, .ref 0] (fun n h => rfl) ?_
    obtain ⟨y23, hy23, h⟩ := hq_bind h
    refine hq_inv rfl rfl (Nat.le_trans (by decide) hd) rfl rfl (hq_rcv rfl rfl) (f_X11_isGuard_run (Nat.le_sub_of_add_le (Nat.le_trans (by decide) hd)) hy23) rfl ?_
    by_cases c24 : y23.1 = 0
    · rw [if_pos c24] at h
      refine hq_izF rfl (hq_c_ne_F c24) ?_
      refine hq_icn (-1 : Int32) rfl (by decide) ?_
      have h := Option.some.inj h
      subst h
      exact ⟨1, rfl⟩
    · rw [if_neg c24] at h
      refine hq_izT rfl (hq_c_ne_T c24) ?_
      exact f_X11_ahead_J65_run hd h
  · rw [if_neg c9] at h
    refine hq_icT rfl (hq_c_ne_T c9) ?_
    exact f_X11_ahead_J65_run hd h
def f_X11_ahead (n : Nat) (a1 : Int32) (a2 : Int32) (a3 : Int32) (s : hq_S) : Option (Int32 × hq_S) := (if a2 = (1 : Int32) then some (1 : Int32) else if a2 = (4 : Int32) then some (1 : Int32) else some (0 : Int32)).bind fun z1 => if a1 < 0 then some ((-1 : Int32), s) else if (200 : Int32) < a1 then some ((-1 : Int32), s) else if a2 < 0 then some ((-1 : Int32), s) else if (4 : Int32) < a2 then some ((-1 : Int32), s) else if z1 = 0 then f_X11_ahead_J50 n a1 a2 a3 z1 s else (f_X11_isThief n a3 s).bind fun y25 => if y25.1 = 0 then some ((-1 : Int32), y25.2) else f_X11_ahead_J50 n a1 a2 a3 z1 y25.2
theorem f_X11_ahead_run {xs : List Int32} {n d g : Nat} {a1 : Int32} {a2 : Int32} {a3 : Int32} {s : hq_S} {y : (Int32 × hq_S)} (hd : 7 ≤ d) (h : f_X11_ahead n a1 a2 a3 s = some y) : hq_R (mm_O xs) d mc_X11_ahead 0 [some (.ref 0), some (.int a1), some (.int a2), some (.int a3), none] [] s g (some (.int y.1)) y.2 := by
  unfold f_X11_ahead at h
  refine hq_p 2 2 [some (.ref 0), some (.int a1), some (.int a2), some (.int a3), none] [.int (1 : Int32), .int a2] (fun n h => rfl) ?_
  obtain ⟨z1, hz1, h⟩ := hq_bind h
  suffices hT : hq_R (mm_O xs) d mc_X11_ahead 15 [some (.ref 0), some (.int a1), some (.int a2), some (.int a3), none] [.int z1] s g (some (.int y.1)) y.2 from by
    clear h
    have h := hz1
    by_cases c2 : a2 = (1 : Int32)
    · rw [if_pos c2] at h
      refine hq_icT rfl (hq_c_eq_T c2) ?_
      refine hq_p 2 15 [some (.ref 0), some (.int a1), some (.int a2), some (.int a3), none] [.int (1 : Int32)] (fun n h => rfl) ?_
      cases h
      exact hT
    · rw [if_neg c2] at h
      refine hq_icF rfl (hq_c_eq_F c2) ?_
      refine hq_p 2 7 [some (.ref 0), some (.int a1), some (.int a2), some (.int a3), none] [.int (4 : Int32), .int a2] (fun n h => rfl) ?_
      by_cases c3 : a2 = (4 : Int32)
      · rw [if_pos c3] at h
        refine hq_icF rfl (hq_c_ne_F c3) ?_
        refine hq_p 2 15 [some (.ref 0), some (.int a1), some (.int a2), some (.int a3), none] [.int (1 : Int32)] (fun n h => rfl) ?_
        cases h
        exact hT
      · rw [if_neg c3] at h
        refine hq_icT rfl (hq_c_ne_T c3) ?_
        refine hq_p 1 15 [some (.ref 0), some (.int a1), some (.int a2), some (.int a3), none] [.int (0 : Int32)] (fun n h => rfl) ?_
        cases h
        exact hT
  refine hq_p 2 18 [some (.ref 0), some (.int a1), some (.int a2), some (.int a3), some (.int z1)] [.int a1] (fun n h => rfl) ?_
  by_cases c4 : a1 < 0
  · rw [if_pos c4] at h
    refine hq_izT rfl (hq_c_lt_T c4) ?_
    refine hq_icn (-1 : Int32) rfl (by decide) ?_
    have h := Option.some.inj h
    subst h
    exact ⟨1, rfl⟩
  · rw [if_neg c4] at h
    refine hq_izF rfl (hq_c_lt_F c4) ?_
    refine hq_p 1 22 [some (.ref 0), some (.int a1), some (.int a2), some (.int a3), some (.int z1)] [.int a1] (fun n h => rfl) ?_
    refine hq_sip (200 : Int32) rfl (by decide) ?_
    by_cases c5 : (200 : Int32) < a1
    · rw [if_pos c5] at h
      refine hq_icT rfl (hq_c_gt_T c5) ?_
      refine hq_icn (-1 : Int32) rfl (by decide) ?_
      have h := Option.some.inj h
      subst h
      exact ⟨1, rfl⟩
    · rw [if_neg c5] at h
      refine hq_icF rfl (hq_c_gt_F c5) ?_
      refine hq_p 1 29 [some (.ref 0), some (.int a1), some (.int a2), some (.int a3), some (.int z1)] [.int a2] (fun n h => rfl) ?_
      by_cases c6 : a2 < 0
      · rw [if_pos c6] at h
        refine hq_izT rfl (hq_c_lt_T c6) ?_
        refine hq_icn (-1 : Int32) rfl (by decide) ?_
        have h := Option.some.inj h
        subst h
        exact ⟨1, rfl⟩
      · rw [if_neg c6] at h
        refine hq_izF rfl (hq_c_lt_F c6) ?_
        refine hq_p 2 34 [some (.ref 0), some (.int a1), some (.int a2), some (.int a3), some (.int z1)] [.int (4 : Int32), .int a2] (fun n h => rfl) ?_
        by_cases c7 : (4 : Int32) < a2
        · rw [if_pos c7] at h
          refine hq_icT rfl (hq_c_gt_T c7) ?_
          refine hq_icn (-1 : Int32) rfl (by decide) ?_
          have h := Option.some.inj h
          subst h
          exact ⟨1, rfl⟩
        · rw [if_neg c7] at h
          refine hq_icF rfl (hq_c_gt_F c7) ?_
          refine hq_p 1 39 [some (.ref 0), some (.int a1), some (.int a2), some (.int a3), some (.int z1)] [.int z1] (fun n h => rfl) ?_
          by_cases c8 : z1 = 0
          · rw [if_pos c8] at h
            refine hq_izT rfl (hq_c_eq_T c8) ?_
            exact f_X11_ahead_J50_run hd h
          · rw [if_neg c8] at h
            refine hq_izF rfl (hq_c_eq_F c8) ?_
            refine hq_p 2 44 [some (.ref 0), some (.int a1), some (.int a2), some (.int a3), some (.int z1)] [.int a3, .ref 0] (fun n h => rfl) ?_
            obtain ⟨y25, hy25, h⟩ := hq_bind h
            refine hq_inv rfl rfl (Nat.le_trans (by decide) hd) rfl rfl (hq_rcv rfl rfl) (f_X11_isThief_run (Nat.le_sub_of_add_le (Nat.le_trans (by decide) hd)) hy25) rfl ?_
            by_cases c26 : y25.1 = 0
            · rw [if_pos c26] at h
              refine hq_izT rfl (hq_c_eq_T c26) ?_
              refine hq_icn (-1 : Int32) rfl (by decide) ?_
              have h := Option.some.inj h
              subst h
              exact ⟨1, rfl⟩
            · rw [if_neg c26] at h
              refine hq_izF rfl (hq_c_eq_F c26) ?_
              exact f_X11_ahead_J50_run hd h
def f_X11_caught_L16_B (n : Nat) (q16 : Int32 → Int32 → hq_S → Option (Int32 × hq_S)) (a1 : Int32) (a2 : Int32) (s : hq_S) : Option (Int32 × hq_S) := if a2 < (199 : Int32) then (f_X5_isFree n 94 a1 s).bind fun y7 => if y7.1 = 0 then some (a2, y7.2) else (f_X3_pass n y7.2).bind fun s9 => q16 a1 (a2 + (1 : Int32)) s9 else (f_X5_isFree n 94 a1 s).bind fun y5 => if y5.1 = 0 then some ((199 : Int32), y5.2) else some ((-2 : Int32), y5.2)
def f_X11_caught_L16 (n : Nat) (m : Nat) : Int32 → Int32 → hq_S → Option (Int32 × hq_S) := Nat.rec (fun _ _ _ => none) (fun _ q => f_X11_caught_L16_B n q) m
theorem f_X11_caught_L16_Brun {xs : List Int32} {n d g : Nat} {a1 : Int32} {a2 : Int32} {q16 : Int32 → Int32 → hq_S → Option (Int32 × hq_S)} {s : hq_S} {y : (Int32 × hq_S)} (hd : 6 ≤ d) (e16 : ∀ (a1 : Int32) (a2 : Int32) (s : hq_S), q16 a1 a2 s = some y → hq_R (mm_O xs) d mc_X11_caught 16 [some (.ref 0), some (.int a1), some (.int a2)] [] s g (some (.int y.1)) y.2) (h : f_X11_caught_L16_B n q16 a1 a2 s = some y) : hq_R (mm_O xs) d mc_X11_caught 16 [some (.ref 0), some (.int a1), some (.int a2)] [] s g (some (.int y.1)) y.2 := by
  unfold f_X11_caught_L16_B at h
  refine hq_p 1 17 [some (.ref 0), some (.int a1), some (.int a2)] [.int a2] (fun n h => rfl) ?_
  refine hq_sip (199 : Int32) rfl (by decide) ?_
  by_cases c4 : a2 < (199 : Int32)
  · rw [if_pos c4] at h
    refine hq_icF rfl (hq_c_ge_F c4) ?_
    refine hq_p 1 24 [some (.ref 0), some (.int a1), some (.int a2)] [.ref 0] (fun n h => rfl) ?_
    refine hq_gf (x := .ref 94) rfl rfl rfl rfl rfl ?_
    refine hq_p 1 28 [some (.ref 0), some (.int a1), some (.int a2)] [.int a1, .ref 94] (fun n h => rfl) ?_
    obtain ⟨y7, hy7, h⟩ := hq_bind h
    refine hq_inv rfl rfl (Nat.le_trans (by decide) hd) rfl rfl (hq_rcv (hq_shN (by decide)) rfl) (f_X5_isFree_run (Nat.le_sub_of_add_le (Nat.le_trans (by decide) hd)) (by decide) hy7) rfl ?_
    by_cases c8 : y7.1 = 0
    · rw [if_pos c8] at h
      refine hq_izF rfl (hq_c_ne_F c8) ?_
      refine hq_p 1 35 [some (.ref 0), some (.int a1), some (.int a2)] [.int a2] (fun n h => rfl) ?_
      have h := Option.some.inj h
      subst h
      exact ⟨1, rfl⟩
    · rw [if_neg c8] at h
      refine hq_izT rfl (hq_c_ne_T c8) ?_
      refine hq_p 1 37 [some (.ref 0), some (.int a1), some (.int a2)] [.ref 0] (fun n h => rfl) ?_
      refine hq_gf (x := .ref 113) rfl rfl rfl rfl rfl ?_
      obtain ⟨s9, hs9, h⟩ := hq_bind h
      refine hq_inv rfl rfl (Nat.le_trans (by decide) hd) rfl rfl (hq_rcv rfl rfl) (f_X3_pass_run (Nat.le_sub_of_add_le (Nat.le_trans (by decide) hd)) hs9) rfl ?_
      refine hq_p 2 16 [some (.ref 0), some (.int a1), some (.int (a2 + (1 : Int32)))] [] (fun n h => rfl) ?_
      exact e16 a1 (a2 + (1 : Int32)) s9 h
  · rw [if_neg c4] at h
    refine hq_icT rfl (hq_c_ge_T c4) ?_
    refine hq_p 1 50 [some (.ref 0), some (.int a1), some (.int a2)] [.ref 0] (fun n h => rfl) ?_
    refine hq_gf (x := .ref 94) rfl rfl rfl rfl rfl ?_
    refine hq_p 1 54 [some (.ref 0), some (.int a1), some (.int a2)] [.int a1, .ref 94] (fun n h => rfl) ?_
    obtain ⟨y5, hy5, h⟩ := hq_bind h
    refine hq_inv rfl rfl (Nat.le_trans (by decide) hd) rfl rfl (hq_rcv (hq_shN (by decide)) rfl) (f_X5_isFree_run (Nat.le_sub_of_add_le (Nat.le_trans (by decide) hd)) (by decide) hy5) rfl ?_
    by_cases c6 : y5.1 = 0
    · rw [if_pos c6] at h
      refine hq_izT rfl (hq_c_eq_T c6) ?_
      refine hq_sip (199 : Int32) rfl (by decide) ?_
      have h := Option.some.inj h
      subst h
      exact ⟨1, rfl⟩
    · rw [if_neg c6] at h
      refine hq_izF rfl (hq_c_eq_F c6) ?_
      refine hq_bip (-2 : Int32) rfl (by decide) ?_
      refine hq_p 1 68 [some (.ref 0), some (.int a1), some (.int a2)] [.int (-2 : Int32)] (fun n h => rfl) ?_
      have h := Option.some.inj h
      subst h
      exact ⟨1, rfl⟩
theorem f_X11_caught_L16_run {xs : List Int32} {n m d g : Nat} {a1 : Int32} {a2 : Int32} {s : hq_S} {y : (Int32 × hq_S)} (hd : 6 ≤ d) (h : f_X11_caught_L16 n m a1 a2 s = some y) : hq_R (mm_O xs) d mc_X11_caught 16 [some (.ref 0), some (.int a1), some (.int a2)] [] s g (some (.int y.1)) y.2 := by
  induction m generalizing a1 a2 s with
  | zero => cases h
  | succ m ih => exact f_X11_caught_L16_Brun (n := n) hd (fun a1 a2 s h => ih h) h
def f_X11_caught (n : Nat) (a1 : Int32) (s : hq_S) : Option (Int32 × hq_S) := (f_X11_isThief n a1 s).bind fun y1 => if y1.1 = 0 then some ((-1 : Int32), y1.2) else (f_X11_playAsItGoes n y1.2).bind fun s3 => f_X11_caught_L16 n n a1 (0 : Int32) s3
theorem f_X11_caught_run {xs : List Int32} {n d g : Nat} {a1 : Int32} {s : hq_S} {y : (Int32 × hq_S)} (hd : 6 ≤ d) (h : f_X11_caught n a1 s = some y) : hq_R (mm_O xs) d mc_X11_caught 0 [some (.ref 0), some (.int a1), none] [] s g (some (.int y.1)) y.2 := by
  unfold f_X11_caught at h
  refine hq_p 2 2 [some (.ref 0), some (.int a1), none] [.int a1, .ref 0] (fun n h => rfl) ?_
  obtain ⟨y1, hy1, h⟩ := hq_bind h
  refine hq_inv rfl rfl (Nat.le_trans (by decide) hd) rfl rfl (hq_rcv rfl rfl) (f_X11_isThief_run (Nat.le_sub_of_add_le (Nat.le_trans (by decide) hd)) hy1) rfl ?_
  by_cases c2 : y1.1 = 0
  · rw [if_pos c2] at h
    refine hq_izF rfl (hq_c_ne_F c2) ?_
    refine hq_icn (-1 : Int32) rfl (by decide) ?_
    have h := Option.some.inj h
    subst h
    exact ⟨1, rfl⟩
  · rw [if_neg c2] at h
    refine hq_izT rfl (hq_c_ne_T c2) ?_
    refine hq_p 1 11 [some (.ref 0), some (.int a1), none] [.ref 0] (fun n h => rfl) ?_
    obtain ⟨s3, hs3, h⟩ := hq_bind h
    refine hq_inv rfl rfl (Nat.le_trans (by decide) hd) rfl rfl (hq_rcv rfl rfl) (f_X11_playAsItGoes_run (Nat.le_sub_of_add_le (Nat.le_trans (by decide) hd)) hs3) rfl ?_
    refine hq_p 2 16 [some (.ref 0), some (.int a1), some (.int (0 : Int32))] [] (fun n h => rfl) ?_
    exact f_X11_caught_L16_run hd h
def f_X11_far (n : Nat) (a1 : Int32) (a2 : Int32) (s : hq_S) : Option (Int32 × hq_S) := (f_X11_isCorner n a1 s).bind fun y1 => if y1.1 = 0 then some ((-1 : Int32), y1.2) else (f_X11_isCorner n a2 y1.2).bind fun y3 => if y3.1 = 0 then some ((-1 : Int32), y3.2) else (f_X8_lanesBetween n 103 a1 a2 y3.2).bind fun y5 => some (y5.1, y5.2)
theorem f_X11_far_run {xs : List Int32} {n d g : Nat} {a1 : Int32} {a2 : Int32} {s : hq_S} {y : (Int32 × hq_S)} (hd : 1 ≤ d) (h : f_X11_far n a1 a2 s = some y) : hq_R (mm_O xs) d mc_X11_far 0 [some (.ref 0), some (.int a1), some (.int a2)] [] s g (some (.int y.1)) y.2 := by
  unfold f_X11_far at h
  refine hq_p 2 2 [some (.ref 0), some (.int a1), some (.int a2)] [.int a1, .ref 0] (fun n h => rfl) ?_
  obtain ⟨y1, hy1, h⟩ := hq_bind h
  refine hq_inv rfl rfl (Nat.le_trans (by decide) hd) rfl rfl (hq_rcv rfl rfl) (f_X11_isCorner_run (Nat.le_sub_of_add_le (Nat.le_trans (by decide) hd)) hy1) rfl ?_
  by_cases c2 : y1.1 = 0
  · rw [if_pos c2] at h
    refine hq_izT rfl (hq_c_eq_T c2) ?_
    refine hq_icn (-1 : Int32) rfl (by decide) ?_
    have h := Option.some.inj h
    subst h
    exact ⟨1, rfl⟩
  · rw [if_neg c2] at h
    refine hq_izF rfl (hq_c_eq_F c2) ?_
    refine hq_p 2 10 [some (.ref 0), some (.int a1), some (.int a2)] [.int a2, .ref 0] (fun n h => rfl) ?_
    obtain ⟨y3, hy3, h⟩ := hq_bind h
    refine hq_inv rfl rfl (Nat.le_trans (by decide) hd) rfl rfl (hq_rcv rfl rfl) (f_X11_isCorner_run (Nat.le_sub_of_add_le (Nat.le_trans (by decide) hd)) hy3) rfl ?_
    by_cases c4 : y3.1 = 0
    · rw [if_pos c4] at h
      refine hq_izT rfl (hq_c_eq_T c4) ?_
      refine hq_icn (-1 : Int32) rfl (by decide) ?_
      have h := Option.some.inj h
      subst h
      exact ⟨1, rfl⟩
    · rw [if_neg c4] at h
      refine hq_izF rfl (hq_c_eq_F c4) ?_
      refine hq_p 1 17 [some (.ref 0), some (.int a1), some (.int a2)] [.ref 0] (fun n h => rfl) ?_
      refine hq_gf (x := .ref 103) rfl rfl rfl rfl rfl ?_
      refine hq_p 2 22 [some (.ref 0), some (.int a1), some (.int a2)] [.int a2, .int a1, .ref 103] (fun n h => rfl) ?_
      obtain ⟨y5, hy5, h⟩ := hq_bind h
      refine hq_inv rfl rfl (Nat.le_trans (by decide) hd) rfl rfl (hq_rcv (hq_shS (by decide)) rfl) (f_X8_lanesBetween_run (Nat.le_sub_of_add_le (Nat.le_trans (by decide) hd)) (by decide) hy5) rfl ?_
      refine hq_p 1 29 [some (.ref 0), some (.int a1), some (.int a2)] [.int y5.1] (fun n h => rfl) ?_
      have h := Option.some.inj h
      subst h
      exact ⟨1, rfl⟩
def f_X11_way_L55_B (n : Nat) (q55 : Int32 → Int32 → Int32 → Int32 → Int32 → Int32 → hq_S → Option (Int32 × hq_S)) (a1 : Int32) (a2 : Int32) (a3 : Int32) (a4 : Int32) (a5 : Int32) (a6 : Int32) (s : hq_S) : Option (Int32 × hq_S) := if a6 < a3 then if a5 = (-1 : Int32) then some (a5, s) else (f_X8_onward n 103 a5 a2 s).bind fun y11 => q55 a1 a2 a3 a4 y11.1 (a6 + (1 : Int32)) y11.2 else some (a5, s)
def f_X11_way_L55 (n : Nat) (m : Nat) : Int32 → Int32 → Int32 → Int32 → Int32 → Int32 → hq_S → Option (Int32 × hq_S) := Nat.rec (fun _ _ _ _ _ _ _ => none) (fun _ q => f_X11_way_L55_B n q) m
theorem f_X11_way_L55_Brun {xs : List Int32} {n d g : Nat} {a1 : Int32} {a2 : Int32} {a3 : Int32} {a4 : Int32} {a5 : Int32} {a6 : Int32} {q55 : Int32 → Int32 → Int32 → Int32 → Int32 → Int32 → hq_S → Option (Int32 × hq_S)} {s : hq_S} {y : (Int32 × hq_S)} (hd : 2 ≤ d) (e55 : ∀ (a1 : Int32) (a2 : Int32) (a3 : Int32) (a4 : Int32) (a5 : Int32) (a6 : Int32) (s : hq_S), q55 a1 a2 a3 a4 a5 a6 s = some y → hq_R (mm_O xs) d mc_X11_way 55 [some (.ref 0), some (.int a1), some (.int a2), some (.int a3), some (.int a4), some (.int a5), some (.int a6)] [] s g (some (.int y.1)) y.2) (h : f_X11_way_L55_B n q55 a1 a2 a3 a4 a5 a6 s = some y) : hq_R (mm_O xs) d mc_X11_way 55 [some (.ref 0), some (.int a1), some (.int a2), some (.int a3), some (.int a4), some (.int a5), some (.int a6)] [] s g (some (.int y.1)) y.2 := by
  unfold f_X11_way_L55_B at h
  refine hq_p 2 58 [some (.ref 0), some (.int a1), some (.int a2), some (.int a3), some (.int a4), some (.int a5), some (.int a6)] [.int a3, .int a6] (fun n h => rfl) ?_
  by_cases c9 : a6 < a3
  · rw [if_pos c9] at h
    refine hq_icF rfl (hq_c_ge_F c9) ?_
    refine hq_p 1 63 [some (.ref 0), some (.int a1), some (.int a2), some (.int a3), some (.int a4), some (.int a5), some (.int a6)] [.int a5] (fun n h => rfl) ?_
    refine hq_icn (-1 : Int32) rfl (by decide) ?_
    by_cases c10 : a5 = (-1 : Int32)
    · rw [if_pos c10] at h
      refine hq_icT rfl (hq_c_eq_T c10) ?_
      refine hq_p 1 87 [some (.ref 0), some (.int a1), some (.int a2), some (.int a3), some (.int a4), some (.int a5), some (.int a6)] [.int a5] (fun n h => rfl) ?_
      have h := Option.some.inj h
      subst h
      exact ⟨1, rfl⟩
    · rw [if_neg c10] at h
      refine hq_icF rfl (hq_c_eq_F c10) ?_
      refine hq_p 1 68 [some (.ref 0), some (.int a1), some (.int a2), some (.int a3), some (.int a4), some (.int a5), some (.int a6)] [.ref 0] (fun n h => rfl) ?_
      refine hq_gf (x := .ref 103) rfl rfl rfl rfl rfl ?_
      refine hq_p 2 74 [some (.ref 0), some (.int a1), some (.int a2), some (.int a3), some (.int a4), some (.int a5), some (.int a6)] [.int a2, .int a5, .ref 103] (fun n h => rfl) ?_
      obtain ⟨y11, hy11, h⟩ := hq_bind h
      refine hq_inv rfl rfl (Nat.le_trans (by decide) hd) rfl rfl (hq_rcv (hq_shS (by decide)) rfl) (f_X8_onward_run (Nat.le_sub_of_add_le (Nat.le_trans (by decide) hd)) (by decide) hy11) rfl ?_
      refine hq_p 3 55 [some (.ref 0), some (.int a1), some (.int a2), some (.int a3), some (.int a4), some (.int y11.1), some (.int (a6 + (1 : Int32)))] [] (fun n h => rfl) ?_
      exact e55 a1 a2 a3 a4 y11.1 (a6 + (1 : Int32)) y11.2 h
  · rw [if_neg c9] at h
    refine hq_icT rfl (hq_c_ge_T c9) ?_
    refine hq_p 1 87 [some (.ref 0), some (.int a1), some (.int a2), some (.int a3), some (.int a4), some (.int a5), some (.int a6)] [.int a5] (fun n h => rfl) ?_
    have h := Option.some.inj h
    subst h
    exact ⟨1, rfl⟩
theorem f_X11_way_L55_run {xs : List Int32} {n m d g : Nat} {a1 : Int32} {a2 : Int32} {a3 : Int32} {a4 : Int32} {a5 : Int32} {a6 : Int32} {s : hq_S} {y : (Int32 × hq_S)} (hd : 2 ≤ d) (h : f_X11_way_L55 n m a1 a2 a3 a4 a5 a6 s = some y) : hq_R (mm_O xs) d mc_X11_way 55 [some (.ref 0), some (.int a1), some (.int a2), some (.int a3), some (.int a4), some (.int a5), some (.int a6)] [] s g (some (.int y.1)) y.2 := by
  induction m generalizing a1 a2 a3 a4 a5 a6 s with
  | zero => cases h
  | succ m ih => exact f_X11_way_L55_Brun (n := n) hd (fun a1 a2 a3 a4 a5 a6 s h => ih h) h
def f_X11_way (n : Nat) (a1 : Int32) (a2 : Int32) (a3 : Int32) (s : hq_S) : Option (Int32 × hq_S) := (f_X11_isCorner n a1 s).bind fun y1 => if y1.1 = 0 then some ((-1 : Int32), y1.2) else (f_X11_isCorner n a2 y1.2).bind fun y3 => if y3.1 = 0 then some ((-1 : Int32), y3.2) else if a3 < 0 then some ((-1 : Int32), y3.2) else (f_X8_lanesBetween n 103 a1 a2 y3.2).bind fun y6 => if y6.1 = (99 : Int32) then some ((-2 : Int32), y6.2) else if y6.1 < a3 then some ((-2 : Int32), y6.2) else f_X11_way_L55 n n a1 a2 a3 y6.1 a1 (0 : Int32) y6.2
theorem f_X11_way_run {xs : List Int32} {n d g : Nat} {a1 : Int32} {a2 : Int32} {a3 : Int32} {s : hq_S} {y : (Int32 × hq_S)} (hd : 2 ≤ d) (h : f_X11_way n a1 a2 a3 s = some y) : hq_R (mm_O xs) d mc_X11_way 0 [some (.ref 0), some (.int a1), some (.int a2), some (.int a3), none, none, none] [] s g (some (.int y.1)) y.2 := by
  unfold f_X11_way at h
  refine hq_p 2 2 [some (.ref 0), some (.int a1), some (.int a2), some (.int a3), none, none, none] [.int a1, .ref 0] (fun n h => rfl) ?_
  obtain ⟨y1, hy1, h⟩ := hq_bind h
  refine hq_inv rfl rfl (Nat.le_trans (by decide) hd) rfl rfl (hq_rcv rfl rfl) (f_X11_isCorner_run (Nat.le_sub_of_add_le (Nat.le_trans (by decide) hd)) hy1) rfl ?_
  by_cases c2 : y1.1 = 0
  · rw [if_pos c2] at h
    refine hq_izT rfl (hq_c_eq_T c2) ?_
    refine hq_icn (-1 : Int32) rfl (by decide) ?_
    have h := Option.some.inj h
    subst h
    exact ⟨1, rfl⟩
  · rw [if_neg c2] at h
    refine hq_izF rfl (hq_c_eq_F c2) ?_
    refine hq_p 2 10 [some (.ref 0), some (.int a1), some (.int a2), some (.int a3), none, none, none] [.int a2, .ref 0] (fun n h => rfl) ?_
    obtain ⟨y3, hy3, h⟩ := hq_bind h
    refine hq_inv rfl rfl (Nat.le_trans (by decide) hd) rfl rfl (hq_rcv rfl rfl) (f_X11_isCorner_run (Nat.le_sub_of_add_le (Nat.le_trans (by decide) hd)) hy3) rfl ?_
    by_cases c4 : y3.1 = 0
    · rw [if_pos c4] at h
      refine hq_izT rfl (hq_c_eq_T c4) ?_
      refine hq_icn (-1 : Int32) rfl (by decide) ?_
      have h := Option.some.inj h
      subst h
      exact ⟨1, rfl⟩
    · rw [if_neg c4] at h
      refine hq_izF rfl (hq_c_eq_F c4) ?_
      refine hq_p 1 17 [some (.ref 0), some (.int a1), some (.int a2), some (.int a3), none, none, none] [.int a3] (fun n h => rfl) ?_
      by_cases c5 : a3 < 0
      · rw [if_pos c5] at h
        refine hq_izF rfl (hq_c_ge_F c5) ?_
        refine hq_icn (-1 : Int32) rfl (by decide) ?_
        have h := Option.some.inj h
        subst h
        exact ⟨1, rfl⟩
      · rw [if_neg c5] at h
        refine hq_izT rfl (hq_c_ge_T c5) ?_
        refine hq_p 1 23 [some (.ref 0), some (.int a1), some (.int a2), some (.int a3), none, none, none] [.ref 0] (fun n h => rfl) ?_
        refine hq_gf (x := .ref 103) rfl rfl rfl rfl rfl ?_
        refine hq_p 2 28 [some (.ref 0), some (.int a1), some (.int a2), some (.int a3), none, none, none] [.int a2, .int a1, .ref 103] (fun n h => rfl) ?_
        obtain ⟨y6, hy6, h⟩ := hq_bind h
        refine hq_inv rfl rfl (Nat.le_trans (by decide) hd) rfl rfl (hq_rcv (hq_shS (by decide)) rfl) (f_X8_lanesBetween_run (Nat.le_sub_of_add_le (Nat.le_trans (by decide) hd)) (by decide) hy6) rfl ?_
        refine hq_p 2 35 [some (.ref 0), some (.int a1), some (.int a2), some (.int a3), some (.int y6.1), none, none] [.int y6.1] (fun n h => rfl) ?_
        refine hq_bip (99 : Int32) rfl (by decide) ?_
        by_cases c7 : y6.1 = (99 : Int32)
        · rw [if_pos c7] at h
          refine hq_icT rfl (hq_c_eq_T c7) ?_
          refine hq_bip (-2 : Int32) rfl (by decide) ?_
          have h := Option.some.inj h
          subst h
          exact ⟨1, rfl⟩
        · rw [if_neg c7] at h
          refine hq_icF rfl (hq_c_eq_F c7) ?_
          refine hq_p 2 43 [some (.ref 0), some (.int a1), some (.int a2), some (.int a3), some (.int y6.1), none, none] [.int y6.1, .int a3] (fun n h => rfl) ?_
          by_cases c8 : y6.1 < a3
          · rw [if_pos c8] at h
            refine hq_icF rfl (hq_c_le_F c8) ?_
            refine hq_bip (-2 : Int32) rfl (by decide) ?_
            have h := Option.some.inj h
            subst h
            exact ⟨1, rfl⟩
          · rw [if_neg c8] at h
            refine hq_icT rfl (hq_c_le_T c8) ?_
            refine hq_p 4 55 [some (.ref 0), some (.int a1), some (.int a2), some (.int a3), some (.int y6.1), some (.int a1), some (.int (0 : Int32))] [] (fun n h => rfl) ?_
            exact f_X11_way_L55_run hd h
def f_X11_reach (n : Nat) (a1 : Int32) (s : hq_S) : Option (Int32 × hq_S) := (f_X11_isCorner n a1 s).bind fun y1 => if y1.1 = 0 then some ((-1 : Int32), y1.2) else (f_X8_reached n 103 a1 y1.2).bind fun y3 => some (y3.1, y3.2)
theorem f_X11_reach_run {xs : List Int32} {n d g : Nat} {a1 : Int32} {s : hq_S} {y : (Int32 × hq_S)} (hd : 2 ≤ d) (h : f_X11_reach n a1 s = some y) : hq_R (mm_O xs) d mc_X11_reach 0 [some (.ref 0), some (.int a1)] [] s g (some (.int y.1)) y.2 := by
  unfold f_X11_reach at h
  refine hq_p 2 2 [some (.ref 0), some (.int a1)] [.int a1, .ref 0] (fun n h => rfl) ?_
  obtain ⟨y1, hy1, h⟩ := hq_bind h
  refine hq_inv rfl rfl (Nat.le_trans (by decide) hd) rfl rfl (hq_rcv rfl rfl) (f_X11_isCorner_run (Nat.le_sub_of_add_le (Nat.le_trans (by decide) hd)) hy1) rfl ?_
  by_cases c2 : y1.1 = 0
  · rw [if_pos c2] at h
    refine hq_izT rfl (hq_c_eq_T c2) ?_
    refine hq_icn (-1 : Int32) rfl (by decide) ?_
    have h := Option.some.inj h
    subst h
    exact ⟨1, rfl⟩
  · rw [if_neg c2] at h
    refine hq_izF rfl (hq_c_eq_F c2) ?_
    refine hq_p 1 9 [some (.ref 0), some (.int a1)] [.ref 0] (fun n h => rfl) ?_
    refine hq_gf (x := .ref 103) rfl rfl rfl rfl rfl ?_
    refine hq_p 1 13 [some (.ref 0), some (.int a1)] [.int a1, .ref 103] (fun n h => rfl) ?_
    obtain ⟨y3, hy3, h⟩ := hq_bind h
    refine hq_inv rfl rfl (Nat.le_trans (by decide) hd) rfl rfl (hq_rcv (hq_shS (by decide)) rfl) (f_X8_reached_run (Nat.le_sub_of_add_le (Nat.le_trans (by decide) hd)) (by decide) hy3) rfl ?_
    refine hq_p 1 20 [some (.ref 0), some (.int a1)] [.int y3.1] (fun n h => rfl) ?_
    have h := Option.some.inj h
    subst h
    exact ⟨1, rfl⟩
def f_X11_parts (n : Nat) (s : hq_S) : Option (Int32 × hq_S) := (f_X8_howManyParts n 103 s).bind fun y1 => some (y1.1, y1.2)
theorem f_X11_parts_run {xs : List Int32} {n d g : Nat} {s : hq_S} {y : (Int32 × hq_S)} (hd : 2 ≤ d) (h : f_X11_parts n s = some y) : hq_R (mm_O xs) d mc_X11_parts 0 [some (.ref 0)] [] s g (some (.int y.1)) y.2 := by
  unfold f_X11_parts at h
  refine hq_p 1 1 [some (.ref 0)] [.ref 0] (fun n h => rfl) ?_
  refine hq_gf (x := .ref 103) rfl rfl rfl rfl rfl ?_
  obtain ⟨y1, hy1, h⟩ := hq_bind h
  refine hq_inv rfl rfl (Nat.le_trans (by decide) hd) rfl rfl (hq_rcv (hq_shS (by decide)) rfl) (f_X8_howManyParts_run (Nat.le_sub_of_add_le (Nat.le_trans (by decide) hd)) (by decide) hy1) rfl ?_
  have h := Option.some.inj h
  subst h
  exact ⟨1, rfl⟩
def f_X11_areGuards (n : Nat) (a1 : Int32) (s : hq_S) : Option (Int32 × hq_S) := if a1 < 0 then some ((0 : Int32), s) else if hq_isT (hq_gr s 0 2) then if a1 < ((1 : Int32) <<< ((hq_gi s (hq_gr s 0 2) 7) &&& 31)) then some ((1 : Int32), s) else some ((0 : Int32), s) else none
theorem f_X11_areGuards_run {xs : List Int32} {n d g : Nat} {a1 : Int32} {s : hq_S} {y : (Int32 × hq_S)} (hd : 0 ≤ d) (h : f_X11_areGuards n a1 s = some y) : hq_R (mm_O xs) d mc_X11_areGuards 0 [some (.ref 0), some (.int a1)] [] s g (some (.int y.1)) y.2 := by
  unfold f_X11_areGuards at h
  refine hq_p 1 1 [some (.ref 0), some (.int a1)] [.int a1] (fun n h => rfl) ?_
  by_cases c1 : a1 < 0
  · rw [if_pos c1] at h
    refine hq_izT rfl (hq_c_lt_T c1) ?_
    refine hq_p 1 22 [some (.ref 0), some (.int a1)] [.int (0 : Int32)] (fun n h => rfl) ?_
    have h := Option.some.inj h
    subst h
    exact ⟨1, rfl⟩
  · rw [if_neg c1] at h
    refine hq_izF rfl (hq_c_lt_F c1) ?_
    refine hq_p 3 7 [some (.ref 0), some (.int a1)] [.ref 0, .int (1 : Int32), .int a1] (fun n h => rfl) ?_
    refine hq_gf (x := .ref (hq_gr s 0 2)) rfl rfl rfl rfl rfl ?_
    have m2 : hq_isT (hq_gr s 0 2) := hq_ifT h
    rw [if_pos m2] at h
    refine hq_gf (x := .int (hq_gi s (hq_gr s 0 2) 7)) rfl (hq_shT m2) rfl rfl rfl ?_
    refine hq_p 1 14 [some (.ref 0), some (.int a1)] [.int ((1 : Int32) <<< ((hq_gi s (hq_gr s 0 2) 7) &&& 31)), .int a1] (fun n h => rfl) ?_
    by_cases c3 : a1 < ((1 : Int32) <<< ((hq_gi s (hq_gr s 0 2) 7) &&& 31))
    · rw [if_pos c3] at h
      refine hq_icF rfl (hq_c_ge_F c3) ?_
      refine hq_p 2 22 [some (.ref 0), some (.int a1)] [.int (1 : Int32)] (fun n h => rfl) ?_
      have h := Option.some.inj h
      subst h
      exact ⟨1, rfl⟩
    · rw [if_neg c3] at h
      refine hq_icT rfl (hq_c_ge_T c3) ?_
      refine hq_p 1 22 [some (.ref 0), some (.int a1)] [.int (0 : Int32)] (fun n h => rfl) ?_
      have h := Option.some.inj h
      subst h
      exact ⟨1, rfl⟩
def f_X11_rowOf_L4_B (n : Nat) (q4 : Int32 → Int32 → Int32 → hq_S → Option (Int32 × hq_S)) (a1 : Int32) (a2 : Int32) (a3 : Int32) (s : hq_S) : Option (Int32 × hq_S) := if hq_isT (hq_gr s 0 2) then if a3 < (hq_gi s (hq_gr s 0 2) 7) then (if ((a1 >>> (a3 &&& 31)) &&& (1 : Int32)) = (1 : Int32) then if hq_isT (hq_gr s 0 2) then (hq_ld s 78 3 a3).bind fun x6 => some ((a2 * (hq_gi s (hq_gr s 0 2) 0)) + x6) else none else some a2).bind fun z3 => q4 a1 z3 (a3 + (1 : Int32)) s else some (a2, s) else none
def f_X11_rowOf_L4 (n : Nat) (m : Nat) : Int32 → Int32 → Int32 → hq_S → Option (Int32 × hq_S) := Nat.rec (fun _ _ _ _ => none) (fun _ q => f_X11_rowOf_L4_B n q) m
theorem f_X11_rowOf_L4_Brun {xs : List Int32} {n d g : Nat} {a1 : Int32} {a2 : Int32} {a3 : Int32} {q4 : Int32 → Int32 → Int32 → hq_S → Option (Int32 × hq_S)} {s : hq_S} {y : (Int32 × hq_S)} (hd : 0 ≤ d) (e4 : ∀ (a1 : Int32) (a2 : Int32) (a3 : Int32) (s : hq_S), q4 a1 a2 a3 s = some y → hq_R (mm_O xs) d mc_X11_rowOf 4 [some (.ref 0), some (.int a1), some (.int a2), some (.int a3)] [] s g (some (.int y.1)) y.2) (h : f_X11_rowOf_L4_B n q4 a1 a2 a3 s = some y) : hq_R (mm_O xs) d mc_X11_rowOf 4 [some (.ref 0), some (.int a1), some (.int a2), some (.int a3)] [] s g (some (.int y.1)) y.2 := by
  unfold f_X11_rowOf_L4_B at h
  refine hq_p 2 6 [some (.ref 0), some (.int a1), some (.int a2), some (.int a3)] [.ref 0, .int a3] (fun n h => rfl) ?_
  refine hq_gf (x := .ref (hq_gr s 0 2)) rfl rfl rfl rfl rfl ?_
  have m1 : hq_isT (hq_gr s 0 2) := hq_ifT h
  rw [if_pos m1] at h
  refine hq_gf (x := .int (hq_gi s (hq_gr s 0 2) 7)) rfl (hq_shT m1) rfl rfl rfl ?_
  by_cases c2 : a3 < (hq_gi s (hq_gr s 0 2) 7)
  · rw [if_pos c2] at h
    refine hq_icF rfl (hq_c_ge_F c2) ?_
    refine hq_p 6 21 [some (.ref 0), some (.int a1), some (.int a2), some (.int a3)] [.int (1 : Int32), .int ((a1 >>> (a3 &&& 31)) &&& (1 : Int32))] (fun n h => rfl) ?_
    obtain ⟨z3, hz3, h⟩ := hq_bind h
    suffices hT : hq_R (mm_O xs) d mc_X11_rowOf 47 [some (.ref 0), some (.int a1), some (.int a2), some (.int a3)] [.int z3] s g (some (.int y.1)) y.2 from by
      clear h
      have h := hz3
      by_cases c4 : ((a1 >>> (a3 &&& 31)) &&& (1 : Int32)) = (1 : Int32)
      · rw [if_pos c4] at h
        refine hq_icF rfl (hq_c_ne_F c4) ?_
        refine hq_p 2 26 [some (.ref 0), some (.int a1), some (.int a2), some (.int a3)] [.ref 0, .int a2] (fun n h => rfl) ?_
        refine hq_gf (x := .ref (hq_gr s 0 2)) rfl rfl rfl rfl rfl ?_
        have m5 : hq_isT (hq_gr s 0 2) := hq_ifT h
        rw [if_pos m5] at h
        refine hq_gf (x := .int (hq_gi s (hq_gr s 0 2) 0)) rfl (hq_shT m5) rfl rfl rfl ?_
        refine hq_p 2 34 [some (.ref 0), some (.int a1), some (.int a2), some (.int a3)] [.ref 0, .int (a2 * (hq_gi s (hq_gr s 0 2) 0))] (fun n h => rfl) ?_
        refine hq_gf (x := .ref 76) rfl rfl rfl rfl rfl ?_
        refine hq_gf (x := .ref 78) rfl rfl rfl rfl rfl ?_
        refine hq_p 1 41 [some (.ref 0), some (.int a1), some (.int a2), some (.int a3)] [.int a3, .ref 78, .int (a2 * (hq_gi s (hq_gr s 0 2) 0))] (fun n h => rfl) ?_
        obtain ⟨x6, hx6, h⟩ := hq_bind h
        refine hq_iaload rfl rfl List.length_replicate hx6 ?_
        refine hq_p 2 47 [some (.ref 0), some (.int a1), some (.int a2), some (.int a3)] [.int ((a2 * (hq_gi s (hq_gr s 0 2) 0)) + x6)] (fun n h => rfl) ?_
        cases h
        exact hT
      · rw [if_neg c4] at h
        refine hq_icT rfl (hq_c_ne_T c4) ?_
        refine hq_p 1 47 [some (.ref 0), some (.int a1), some (.int a2), some (.int a3)] [.int a2] (fun n h => rfl) ?_
        cases h
        exact hT
    refine hq_p 3 4 [some (.ref 0), some (.int a1), some (.int z3), some (.int (a3 + (1 : Int32)))] [] (fun n h => rfl) ?_
    exact e4 a1 z3 (a3 + (1 : Int32)) s h
  · rw [if_neg c2] at h
    refine hq_icT rfl (hq_c_ge_T c2) ?_
    refine hq_p 1 55 [some (.ref 0), some (.int a1), some (.int a2), some (.int a3)] [.int a2] (fun n h => rfl) ?_
    have h := Option.some.inj h
    subst h
    exact ⟨1, rfl⟩
theorem f_X11_rowOf_L4_run {xs : List Int32} {n m d g : Nat} {a1 : Int32} {a2 : Int32} {a3 : Int32} {s : hq_S} {y : (Int32 × hq_S)} (hd : 0 ≤ d) (h : f_X11_rowOf_L4 n m a1 a2 a3 s = some y) : hq_R (mm_O xs) d mc_X11_rowOf 4 [some (.ref 0), some (.int a1), some (.int a2), some (.int a3)] [] s g (some (.int y.1)) y.2 := by
  induction m generalizing a1 a2 a3 s with
  | zero => cases h
  | succ m ih => exact f_X11_rowOf_L4_Brun (n := n) hd (fun a1 a2 a3 s h => ih h) h
def f_X11_rowOf (n : Nat) (a1 : Int32) (s : hq_S) : Option (Int32 × hq_S) := f_X11_rowOf_L4 n n a1 (0 : Int32) (0 : Int32) s
theorem f_X11_rowOf_run {xs : List Int32} {n d g : Nat} {a1 : Int32} {s : hq_S} {y : (Int32 × hq_S)} (hd : 0 ≤ d) (h : f_X11_rowOf n a1 s = some y) : hq_R (mm_O xs) d mc_X11_rowOf 0 [some (.ref 0), some (.int a1), none, none] [] s g (some (.int y.1)) y.2 := by
  unfold f_X11_rowOf at h
  refine hq_p 4 4 [some (.ref 0), some (.int a1), some (.int (0 : Int32)), some (.int (0 : Int32))] [] (fun n h => rfl) ?_
  exact f_X11_rowOf_L4_run hd h
def f_X11_roundsOfChase (n : Nat) (a1 : Int32) (a2 : Int32) (s : hq_S) : Option (Int32 × hq_S) := if a1 = 0 then some ((2147483647 : Int32), s) else (f_J6_bitCount_0f7a4 n a1 s).bind fun y2 => (f_X0_solve n 103 y2.1 y2.2).bind fun s3 => (f_X11_rowOf n a1 s3).bind fun y4 => (f_X0_roundsFrom n y4.1 a2 y4.2).bind fun y5 => some (y5.1, y5.2)
theorem f_X11_roundsOfChase_run {xs : List Int32} {n d g : Nat} {a1 : Int32} {a2 : Int32} {s : hq_S} {y : (Int32 × hq_S)} (hd : 4 ≤ d) (h : f_X11_roundsOfChase n a1 a2 s = some y) : hq_R (mm_O xs) d mc_X11_roundsOfChase 0 [some (.ref 0), some (.int a1), some (.int a2)] [] s g (some (.int y.1)) y.2 := by
  unfold f_X11_roundsOfChase at h
  refine hq_p 1 1 [some (.ref 0), some (.int a1), some (.int a2)] [.int a1] (fun n h => rfl) ?_
  by_cases c1 : a1 = 0
  · rw [if_pos c1] at h
    refine hq_izF rfl (hq_c_ne_F c1) ?_
    refine hq_lcw (2147483647 : Int32) rfl (by decide) ?_
    have h := Option.some.inj h
    subst h
    exact ⟨1, rfl⟩
  · rw [if_neg c1] at h
    refine hq_izT rfl (hq_c_ne_T c1) ?_
    refine hq_p 1 9 [some (.ref 0), some (.int a1), some (.int a2)] [.ref 0] (fun n h => rfl) ?_
    refine hq_gf (x := .ref 152) rfl rfl rfl rfl rfl ?_
    refine hq_p 1 13 [some (.ref 0), some (.int a1), some (.int a2)] [.ref 0, .ref 152] (fun n h => rfl) ?_
    refine hq_gf (x := .ref 103) rfl rfl rfl rfl rfl ?_
    refine hq_p 1 17 [some (.ref 0), some (.int a1), some (.int a2)] [.int a1, .ref 103, .ref 152] (fun n h => rfl) ?_
    obtain ⟨y2, hy2, h⟩ := hq_bind h
    refine hq_ist rfl rfl rfl (Nat.le_trans (by decide) hd) rfl (f_J6_bitCount_0f7a4_run (Nat.le_sub_of_add_le (Nat.le_trans (by decide) hd)) hy2) rfl ?_
    obtain ⟨s3, hs3, h⟩ := hq_bind h
    refine hq_inv rfl rfl (Nat.le_trans (by decide) hd) rfl rfl (hq_rcv rfl rfl) (f_X0_solve_run (Nat.le_sub_of_add_le (Nat.le_trans (by decide) hd)) (by decide) hs3) rfl ?_
    refine hq_p 1 24 [some (.ref 0), some (.int a1), some (.int a2)] [.ref 0] (fun n h => rfl) ?_
    refine hq_gf (x := .ref 152) rfl rfl rfl rfl rfl ?_
    refine hq_p 2 29 [some (.ref 0), some (.int a1), some (.int a2)] [.int a1, .ref 0, .ref 152] (fun n h => rfl) ?_
    obtain ⟨y4, hy4, h⟩ := hq_bind h
    refine hq_inv rfl rfl (Nat.le_trans (by decide) hd) rfl rfl (hq_rcv rfl rfl) (f_X11_rowOf_run (Nat.le_sub_of_add_le (Nat.le_trans (by decide) hd)) hy4) rfl ?_
    refine hq_p 1 33 [some (.ref 0), some (.int a1), some (.int a2)] [.int a2, .int y4.1, .ref 152] (fun n h => rfl) ?_
    obtain ⟨y5, hy5, h⟩ := hq_bind h
    refine hq_inv rfl rfl (Nat.le_trans (by decide) hd) rfl rfl (hq_rcv rfl rfl) (f_X0_roundsFrom_run (Nat.le_sub_of_add_le (Nat.le_trans (by decide) hd)) hy5) rfl ?_
    have h := Option.some.inj h
    subst h
    exact ⟨1, rfl⟩
def f_X11_chase (n : Nat) (a1 : Int32) (a2 : Int32) (s : hq_S) : Option (Int32 × hq_S) := (f_X11_areGuards n a1 s).bind fun y1 => if y1.1 = 0 then some ((-1 : Int32), y1.2) else (f_X11_isCorner n a2 y1.2).bind fun y3 => if y3.1 = 0 then some ((-1 : Int32), y3.2) else (f_X11_roundsOfChase n a1 a2 y3.2).bind fun y5 => if y5.1 = (2147483647 : Int32) then some ((-2 : Int32), y5.2) else some (y5.1, y5.2)
theorem f_X11_chase_run {xs : List Int32} {n d g : Nat} {a1 : Int32} {a2 : Int32} {s : hq_S} {y : (Int32 × hq_S)} (hd : 5 ≤ d) (h : f_X11_chase n a1 a2 s = some y) : hq_R (mm_O xs) d mc_X11_chase 0 [some (.ref 0), some (.int a1), some (.int a2), none] [] s g (some (.int y.1)) y.2 := by
  unfold f_X11_chase at h
  refine hq_p 2 2 [some (.ref 0), some (.int a1), some (.int a2), none] [.int a1, .ref 0] (fun n h => rfl) ?_
  obtain ⟨y1, hy1, h⟩ := hq_bind h
  refine hq_inv rfl rfl (Nat.le_trans (by decide) hd) rfl rfl (hq_rcv rfl rfl) (f_X11_areGuards_run (Nat.le_sub_of_add_le (Nat.le_trans (by decide) hd)) hy1) rfl ?_
  by_cases c2 : y1.1 = 0
  · rw [if_pos c2] at h
    refine hq_izT rfl (hq_c_eq_T c2) ?_
    refine hq_icn (-1 : Int32) rfl (by decide) ?_
    have h := Option.some.inj h
    subst h
    exact ⟨1, rfl⟩
  · rw [if_neg c2] at h
    refine hq_izF rfl (hq_c_eq_F c2) ?_
    refine hq_p 2 10 [some (.ref 0), some (.int a1), some (.int a2), none] [.int a2, .ref 0] (fun n h => rfl) ?_
    obtain ⟨y3, hy3, h⟩ := hq_bind h
    refine hq_inv rfl rfl (Nat.le_trans (by decide) hd) rfl rfl (hq_rcv rfl rfl) (f_X11_isCorner_run (Nat.le_sub_of_add_le (Nat.le_trans (by decide) hd)) hy3) rfl ?_
    by_cases c4 : y3.1 = 0
    · rw [if_pos c4] at h
      refine hq_izF rfl (hq_c_ne_F c4) ?_
      refine hq_icn (-1 : Int32) rfl (by decide) ?_
      have h := Option.some.inj h
      subst h
      exact ⟨1, rfl⟩
    · rw [if_neg c4] at h
      refine hq_izT rfl (hq_c_ne_T c4) ?_
      refine hq_p 3 21 [some (.ref 0), some (.int a1), some (.int a2), none] [.int a2, .int a1, .ref 0] (fun n h => rfl) ?_
      obtain ⟨y5, hy5, h⟩ := hq_bind h
      refine hq_inv rfl rfl (Nat.le_trans (by decide) hd) rfl rfl (hq_rcv rfl rfl) (f_X11_roundsOfChase_run (Nat.le_sub_of_add_le (Nat.le_trans (by decide) hd)) hy5) rfl ?_
      refine hq_p 2 26 [some (.ref 0), some (.int a1), some (.int a2), some (.int y5.1)] [.int y5.1] (fun n h => rfl) ?_
      refine hq_lcw (2147483647 : Int32) rfl (by decide) ?_
      by_cases c6 : y5.1 = (2147483647 : Int32)
      · rw [if_pos c6] at h
        refine hq_icF rfl (hq_c_ne_F c6) ?_
        refine hq_bip (-2 : Int32) rfl (by decide) ?_
        refine hq_p 1 38 [some (.ref 0), some (.int a1), some (.int a2), some (.int y5.1)] [.int (-2 : Int32)] (fun n h => rfl) ?_
        have h := Option.some.inj h
        subst h
        exact ⟨1, rfl⟩
      · rw [if_neg c6] at h
        refine hq_icT rfl (hq_c_ne_T c6) ?_
        refine hq_p 1 38 [some (.ref 0), some (.int a1), some (.int a2), some (.int y5.1)] [.int y5.1] (fun n h => rfl) ?_
        have h := Option.some.inj h
        subst h
        exact ⟨1, rfl⟩
def f_X11_firstGo (n : Nat) (a1 : Int32) (a2 : Int32) (a3 : Int32) (s : hq_S) : Option (Int32 × hq_S) := (f_X11_areGuards n a1 s).bind fun y1 => if y1.1 = 0 then some ((-1 : Int32), y1.2) else (f_X11_isCorner n a2 y1.2).bind fun y3 => if y3.1 = 0 then some ((-1 : Int32), y3.2) else (f_X11_isGuard n a3 y3.2).bind fun y5 => if y5.1 = 0 then some ((-1 : Int32), y5.2) else (f_X11_roundsOfChase n a1 a2 y5.2).bind fun y7 => if y7.1 = 0 then some ((-2 : Int32), y7.2) else if y7.1 = (2147483647 : Int32) then some ((-2 : Int32), y7.2) else if ((a1 >>> (a3 &&& 31)) &&& (1 : Int32)) = 0 then some ((-2 : Int32), y7.2) else (f_J6_bitCount_0f7a4 n (a1 >>> (a3 &&& 31)) y7.2).bind fun y11 => (f_X11_rowOf n a1 y11.2).bind fun y12 => (f_X0_firstRow n y12.1 a2 y12.2).bind fun y13 => (f_X0_cornerIn n y13.1 (y11.1 - (1 : Int32)) y13.2).bind fun y14 => some (y14.1, y14.2)
theorem f_X11_firstGo_run {xs : List Int32} {n d g : Nat} {a1 : Int32} {a2 : Int32} {a3 : Int32} {s : hq_S} {y : (Int32 × hq_S)} (hd : 5 ≤ d) (h : f_X11_firstGo n a1 a2 a3 s = some y) : hq_R (mm_O xs) d mc_X11_firstGo 0 [some (.ref 0), some (.int a1), some (.int a2), some (.int a3), none, none] [] s g (some (.int y.1)) y.2 := by
  unfold f_X11_firstGo at h
  refine hq_p 2 2 [some (.ref 0), some (.int a1), some (.int a2), some (.int a3), none, none] [.int a1, .ref 0] (fun n h => rfl) ?_
  obtain ⟨y1, hy1, h⟩ := hq_bind h
  refine hq_inv rfl rfl (Nat.le_trans (by decide) hd) rfl rfl (hq_rcv rfl rfl) (f_X11_areGuards_run (Nat.le_sub_of_add_le (Nat.le_trans (by decide) hd)) hy1) rfl ?_
  by_cases c2 : y1.1 = 0
  · rw [if_pos c2] at h
    refine hq_izT rfl (hq_c_eq_T c2) ?_
    refine hq_icn (-1 : Int32) rfl (by decide) ?_
    have h := Option.some.inj h
    subst h
    exact ⟨1, rfl⟩
  · rw [if_neg c2] at h
    refine hq_izF rfl (hq_c_eq_F c2) ?_
    refine hq_p 2 10 [some (.ref 0), some (.int a1), some (.int a2), some (.int a3), none, none] [.int a2, .ref 0] (fun n h => rfl) ?_
    obtain ⟨y3, hy3, h⟩ := hq_bind h
    refine hq_inv rfl rfl (Nat.le_trans (by decide) hd) rfl rfl (hq_rcv rfl rfl) (f_X11_isCorner_run (Nat.le_sub_of_add_le (Nat.le_trans (by decide) hd)) hy3) rfl ?_
    by_cases c4 : y3.1 = 0
    · rw [if_pos c4] at h
      refine hq_izT rfl (hq_c_eq_T c4) ?_
      refine hq_icn (-1 : Int32) rfl (by decide) ?_
      have h := Option.some.inj h
      subst h
      exact ⟨1, rfl⟩
    · rw [if_neg c4] at h
      refine hq_izF rfl (hq_c_eq_F c4) ?_
      refine hq_p 2 18 [some (.ref 0), some (.int a1), some (.int a2), some (.int a3), none, none] [.int a3, .ref 0] (fun n h => rfl) ?_
      obtain ⟨y5, hy5, h⟩ := hq_bind h
      refine hq_inv rfl rfl (Nat.le_trans (by decide) hd) rfl rfl (hq_rcv rfl rfl) (f_X11_isGuard_run (Nat.le_sub_of_add_le (Nat.le_trans (by decide) hd)) hy5) rfl ?_
      by_cases c6 : y5.1 = 0
      · rw [if_pos c6] at h
        refine hq_izF rfl (hq_c_ne_F c6) ?_
        refine hq_icn (-1 : Int32) rfl (by decide) ?_
        have h := Option.some.inj h
        subst h
        exact ⟨1, rfl⟩
      · rw [if_neg c6] at h
        refine hq_izT rfl (hq_c_ne_T c6) ?_
        refine hq_p 3 29 [some (.ref 0), some (.int a1), some (.int a2), some (.int a3), none, none] [.int a2, .int a1, .ref 0] (fun n h => rfl) ?_
        obtain ⟨y7, hy7, h⟩ := hq_bind h
        refine hq_inv rfl rfl (Nat.le_trans (by decide) hd) rfl rfl (hq_rcv rfl rfl) (f_X11_roundsOfChase_run (Nat.le_sub_of_add_le (Nat.le_trans (by decide) hd)) hy7) rfl ?_
        refine hq_p 2 36 [some (.ref 0), some (.int a1), some (.int a2), some (.int a3), some (.int y7.1), none] [.int y7.1] (fun n h => rfl) ?_
        by_cases c8 : y7.1 = 0
        · rw [if_pos c8] at h
          refine hq_izT rfl (hq_c_eq_T c8) ?_
          refine hq_bip (-2 : Int32) rfl (by decide) ?_
          have h := Option.some.inj h
          subst h
          exact ⟨1, rfl⟩
        · rw [if_neg c8] at h
          refine hq_izF rfl (hq_c_eq_F c8) ?_
          refine hq_p 1 41 [some (.ref 0), some (.int a1), some (.int a2), some (.int a3), some (.int y7.1), none] [.int y7.1] (fun n h => rfl) ?_
          refine hq_lcw (2147483647 : Int32) rfl (by decide) ?_
          by_cases c9 : y7.1 = (2147483647 : Int32)
          · rw [if_pos c9] at h
            refine hq_icT rfl (hq_c_eq_T c9) ?_
            refine hq_bip (-2 : Int32) rfl (by decide) ?_
            have h := Option.some.inj h
            subst h
            exact ⟨1, rfl⟩
          · rw [if_neg c9] at h
            refine hq_icF rfl (hq_c_eq_F c9) ?_
            refine hq_p 5 52 [some (.ref 0), some (.int a1), some (.int a2), some (.int a3), some (.int y7.1), none] [.int ((a1 >>> (a3 &&& 31)) &&& (1 : Int32))] (fun n h => rfl) ?_
            by_cases c10 : ((a1 >>> (a3 &&& 31)) &&& (1 : Int32)) = 0
            · rw [if_pos c10] at h
              refine hq_izF rfl (hq_c_ne_F c10) ?_
              refine hq_bip (-2 : Int32) rfl (by decide) ?_
              have h := Option.some.inj h
              subst h
              exact ⟨1, rfl⟩
            · rw [if_neg c10] at h
              refine hq_izT rfl (hq_c_ne_T c10) ?_
              refine hq_p 3 61 [some (.ref 0), some (.int a1), some (.int a2), some (.int a3), some (.int y7.1), none] [.int (a1 >>> (a3 &&& 31))] (fun n h => rfl) ?_
              obtain ⟨y11, hy11, h⟩ := hq_bind h
              refine hq_ist rfl rfl rfl (Nat.le_trans (by decide) hd) rfl (f_J6_bitCount_0f7a4_run (Nat.le_sub_of_add_le (Nat.le_trans (by decide) hd)) hy11) rfl ?_
              refine hq_p 4 69 [some (.ref 0), some (.int a1), some (.int a2), some (.int a3), some (.int y7.1), some (.int (y11.1 - (1 : Int32)))] [.ref 0] (fun n h => rfl) ?_
              refine hq_gf (x := .ref 152) rfl rfl rfl rfl rfl ?_
              refine hq_p 1 73 [some (.ref 0), some (.int a1), some (.int a2), some (.int a3), some (.int y7.1), some (.int (y11.1 - (1 : Int32)))] [.ref 0, .ref 152] (fun n h => rfl) ?_
              refine hq_gf (x := .ref 152) rfl rfl rfl rfl rfl ?_
              refine hq_p 2 78 [some (.ref 0), some (.int a1), some (.int a2), some (.int a3), some (.int y7.1), some (.int (y11.1 - (1 : Int32)))] [.int a1, .ref 0, .ref 152, .ref 152] (fun n h => rfl) ?_
              obtain ⟨y12, hy12, h⟩ := hq_bind h
              refine hq_inv rfl rfl (Nat.le_trans (by decide) hd) rfl rfl (hq_rcv rfl rfl) (f_X11_rowOf_run (Nat.le_sub_of_add_le (Nat.le_trans (by decide) hd)) hy12) rfl ?_
              refine hq_p 1 82 [some (.ref 0), some (.int a1), some (.int a2), some (.int a3), some (.int y7.1), some (.int (y11.1 - (1 : Int32)))] [.int a2, .int y12.1, .ref 152, .ref 152] (fun n h => rfl) ?_
              obtain ⟨y13, hy13, h⟩ := hq_bind h
              refine hq_inv rfl rfl (Nat.le_trans (by decide) hd) rfl rfl (hq_rcv rfl rfl) (f_X0_firstRow_run (Nat.le_sub_of_add_le (Nat.le_trans (by decide) hd)) hy13) rfl ?_
              refine hq_p 1 87 [some (.ref 0), some (.int a1), some (.int a2), some (.int a3), some (.int y7.1), some (.int (y11.1 - (1 : Int32)))] [.int (y11.1 - (1 : Int32)), .int y13.1, .ref 152] (fun n h => rfl) ?_
              obtain ⟨y14, hy14, h⟩ := hq_bind h
              refine hq_inv rfl rfl (Nat.le_trans (by decide) hd) rfl rfl (hq_rcv rfl rfl) (f_X0_cornerIn_run (Nat.le_sub_of_add_le (Nat.le_trans (by decide) hd)) hy14) rfl ?_
              have h := Option.some.inj h
              subst h
              exact ⟨1, rfl⟩
def f_X11_firstTurn_L2_B (n : Nat) (q2 : Int32 → Int32 → hq_S → Option (Int32 × hq_S)) (a1 : Int32) (a2 : Int32) (s : hq_S) : Option (Int32 × hq_S) := if a2 < a1 then (hq_ld s 104 10 a1).bind fun x2 => if ((x2 >>> (a2 &&& 31)) &&& (1 : Int32)) = (1 : Int32) then some (a2, s) else q2 a1 (a2 + (1 : Int32)) s else some (a1, s)
def f_X11_firstTurn_L2 (n : Nat) (m : Nat) : Int32 → Int32 → hq_S → Option (Int32 × hq_S) := Nat.rec (fun _ _ _ => none) (fun _ q => f_X11_firstTurn_L2_B n q) m
theorem f_X11_firstTurn_L2_Brun {xs : List Int32} {n d g : Nat} {a1 : Int32} {a2 : Int32} {q2 : Int32 → Int32 → hq_S → Option (Int32 × hq_S)} {s : hq_S} {y : (Int32 × hq_S)} (hd : 0 ≤ d) (e2 : ∀ (a1 : Int32) (a2 : Int32) (s : hq_S), q2 a1 a2 s = some y → hq_R (mm_O xs) d mc_X11_firstTurn 2 [some (.ref 0), some (.int a1), some (.int a2)] [] s g (some (.int y.1)) y.2) (h : f_X11_firstTurn_L2_B n q2 a1 a2 s = some y) : hq_R (mm_O xs) d mc_X11_firstTurn 2 [some (.ref 0), some (.int a1), some (.int a2)] [] s g (some (.int y.1)) y.2 := by
  unfold f_X11_firstTurn_L2_B at h
  refine hq_p 2 4 [some (.ref 0), some (.int a1), some (.int a2)] [.int a1, .int a2] (fun n h => rfl) ?_
  by_cases c1 : a2 < a1
  · rw [if_pos c1] at h
    refine hq_icF rfl (hq_c_ge_F c1) ?_
    refine hq_p 1 8 [some (.ref 0), some (.int a1), some (.int a2)] [.ref 0] (fun n h => rfl) ?_
    refine hq_gf (x := .ref 103) rfl rfl rfl rfl rfl ?_
    refine hq_gf (x := .ref 104) rfl rfl rfl rfl rfl ?_
    refine hq_p 1 15 [some (.ref 0), some (.int a1), some (.int a2)] [.int a1, .ref 104] (fun n h => rfl) ?_
    obtain ⟨x2, hx2, h⟩ := hq_bind h
    refine hq_iaload rfl rfl List.length_replicate hx2 ?_
    refine hq_p 5 21 [some (.ref 0), some (.int a1), some (.int a2)] [.int (1 : Int32), .int ((x2 >>> (a2 &&& 31)) &&& (1 : Int32))] (fun n h => rfl) ?_
    by_cases c3 : ((x2 >>> (a2 &&& 31)) &&& (1 : Int32)) = (1 : Int32)
    · rw [if_pos c3] at h
      refine hq_icF rfl (hq_c_ne_F c3) ?_
      refine hq_p 1 25 [some (.ref 0), some (.int a1), some (.int a2)] [.int a2] (fun n h => rfl) ?_
      have h := Option.some.inj h
      subst h
      exact ⟨1, rfl⟩
    · rw [if_neg c3] at h
      refine hq_icT rfl (hq_c_ne_T c3) ?_
      refine hq_p 2 2 [some (.ref 0), some (.int a1), some (.int (a2 + (1 : Int32)))] [] (fun n h => rfl) ?_
      exact e2 a1 (a2 + (1 : Int32)) s h
  · rw [if_neg c1] at h
    refine hq_icT rfl (hq_c_ge_T c1) ?_
    refine hq_p 1 33 [some (.ref 0), some (.int a1), some (.int a2)] [.int a1] (fun n h => rfl) ?_
    have h := Option.some.inj h
    subst h
    exact ⟨1, rfl⟩
theorem f_X11_firstTurn_L2_run {xs : List Int32} {n m d g : Nat} {a1 : Int32} {a2 : Int32} {s : hq_S} {y : (Int32 × hq_S)} (hd : 0 ≤ d) (h : f_X11_firstTurn_L2 n m a1 a2 s = some y) : hq_R (mm_O xs) d mc_X11_firstTurn 2 [some (.ref 0), some (.int a1), some (.int a2)] [] s g (some (.int y.1)) y.2 := by
  induction m generalizing a1 a2 s with
  | zero => cases h
  | succ m ih => exact f_X11_firstTurn_L2_Brun (n := n) hd (fun a1 a2 s h => ih h) h
def f_X11_firstTurn (n : Nat) (a1 : Int32) (s : hq_S) : Option (Int32 × hq_S) := f_X11_firstTurn_L2 n n a1 (0 : Int32) s
theorem f_X11_firstTurn_run {xs : List Int32} {n d g : Nat} {a1 : Int32} {s : hq_S} {y : (Int32 × hq_S)} (hd : 0 ≤ d) (h : f_X11_firstTurn n a1 s = some y) : hq_R (mm_O xs) d mc_X11_firstTurn 0 [some (.ref 0), some (.int a1), none] [] s g (some (.int y.1)) y.2 := by
  unfold f_X11_firstTurn at h
  refine hq_p 2 2 [some (.ref 0), some (.int a1), some (.int (0 : Int32))] [] (fun n h => rfl) ?_
  exact f_X11_firstTurn_L2_run hd h
def f_X11_flee (n : Nat) (a1 : Int32) (a2 : Int32) (s : hq_S) : Option (Int32 × hq_S) := (f_X11_areGuards n a1 s).bind fun y1 => if y1.1 = 0 then some ((-1 : Int32), y1.2) else (f_X11_isCorner n a2 y1.2).bind fun y3 => if y3.1 = 0 then some ((-1 : Int32), y3.2) else (f_X11_roundsOfChase n a1 a2 y3.2).bind fun y5 => if y5.1 = 0 then some ((-2 : Int32), y5.2) else if a1 = 0 then (f_X11_firstTurn n a2 y5.2).bind fun y10 => some (y10.1, y10.2) else (f_X11_rowOf n a1 y5.2).bind fun y8 => (f_X0_safest n y8.1 a2 y8.2).bind fun y9 => some (y9.1, y9.2)
theorem f_X11_flee_run {xs : List Int32} {n d g : Nat} {a1 : Int32} {a2 : Int32} {s : hq_S} {y : (Int32 × hq_S)} (hd : 5 ≤ d) (h : f_X11_flee n a1 a2 s = some y) : hq_R (mm_O xs) d mc_X11_flee 0 [some (.ref 0), some (.int a1), some (.int a2), none] [] s g (some (.int y.1)) y.2 := by
  unfold f_X11_flee at h
  refine hq_p 2 2 [some (.ref 0), some (.int a1), some (.int a2), none] [.int a1, .ref 0] (fun n h => rfl) ?_
  obtain ⟨y1, hy1, h⟩ := hq_bind h
  refine hq_inv rfl rfl (Nat.le_trans (by decide) hd) rfl rfl (hq_rcv rfl rfl) (f_X11_areGuards_run (Nat.le_sub_of_add_le (Nat.le_trans (by decide) hd)) hy1) rfl ?_
  by_cases c2 : y1.1 = 0
  · rw [if_pos c2] at h
    refine hq_izT rfl (hq_c_eq_T c2) ?_
    refine hq_icn (-1 : Int32) rfl (by decide) ?_
    have h := Option.some.inj h
    subst h
    exact ⟨1, rfl⟩
  · rw [if_neg c2] at h
    refine hq_izF rfl (hq_c_eq_F c2) ?_
    refine hq_p 2 10 [some (.ref 0), some (.int a1), some (.int a2), none] [.int a2, .ref 0] (fun n h => rfl) ?_
    obtain ⟨y3, hy3, h⟩ := hq_bind h
    refine hq_inv rfl rfl (Nat.le_trans (by decide) hd) rfl rfl (hq_rcv rfl rfl) (f_X11_isCorner_run (Nat.le_sub_of_add_le (Nat.le_trans (by decide) hd)) hy3) rfl ?_
    by_cases c4 : y3.1 = 0
    · rw [if_pos c4] at h
      refine hq_izF rfl (hq_c_ne_F c4) ?_
      refine hq_icn (-1 : Int32) rfl (by decide) ?_
      have h := Option.some.inj h
      subst h
      exact ⟨1, rfl⟩
    · rw [if_neg c4] at h
      refine hq_izT rfl (hq_c_ne_T c4) ?_
      refine hq_p 3 21 [some (.ref 0), some (.int a1), some (.int a2), none] [.int a2, .int a1, .ref 0] (fun n h => rfl) ?_
      obtain ⟨y5, hy5, h⟩ := hq_bind h
      refine hq_inv rfl rfl (Nat.le_trans (by decide) hd) rfl rfl (hq_rcv rfl rfl) (f_X11_roundsOfChase_run (Nat.le_sub_of_add_le (Nat.le_trans (by decide) hd)) hy5) rfl ?_
      refine hq_p 2 26 [some (.ref 0), some (.int a1), some (.int a2), some (.int y5.1)] [.int y5.1] (fun n h => rfl) ?_
      by_cases c6 : y5.1 = 0
      · rw [if_pos c6] at h
        refine hq_izF rfl (hq_c_ne_F c6) ?_
        refine hq_bip (-2 : Int32) rfl (by decide) ?_
        have h := Option.some.inj h
        subst h
        exact ⟨1, rfl⟩
      · rw [if_neg c6] at h
        refine hq_izT rfl (hq_c_ne_T c6) ?_
        refine hq_p 1 33 [some (.ref 0), some (.int a1), some (.int a2), some (.int y5.1)] [.int a1] (fun n h => rfl) ?_
        by_cases c7 : a1 = 0
        · rw [if_pos c7] at h
          refine hq_izF rfl (hq_c_ne_F c7) ?_
          refine hq_p 2 38 [some (.ref 0), some (.int a1), some (.int a2), some (.int y5.1)] [.int a2, .ref 0] (fun n h => rfl) ?_
          obtain ⟨y10, hy10, h⟩ := hq_bind h
          refine hq_inv rfl rfl (Nat.le_trans (by decide) hd) rfl rfl (hq_rcv rfl rfl) (f_X11_firstTurn_run (Nat.le_sub_of_add_le (Nat.le_trans (by decide) hd)) hy10) rfl ?_
          refine hq_p 1 57 [some (.ref 0), some (.int a1), some (.int a2), some (.int y5.1)] [.int y10.1] (fun n h => rfl) ?_
          have h := Option.some.inj h
          subst h
          exact ⟨1, rfl⟩
        · rw [if_neg c7] at h
          refine hq_izT rfl (hq_c_ne_T c7) ?_
          refine hq_p 1 45 [some (.ref 0), some (.int a1), some (.int a2), some (.int y5.1)] [.ref 0] (fun n h => rfl) ?_
          refine hq_gf (x := .ref 152) rfl rfl rfl rfl rfl ?_
          refine hq_p 2 50 [some (.ref 0), some (.int a1), some (.int a2), some (.int y5.1)] [.int a1, .ref 0, .ref 152] (fun n h => rfl) ?_
          obtain ⟨y8, hy8, h⟩ := hq_bind h
          refine hq_inv rfl rfl (Nat.le_trans (by decide) hd) rfl rfl (hq_rcv rfl rfl) (f_X11_rowOf_run (Nat.le_sub_of_add_le (Nat.le_trans (by decide) hd)) hy8) rfl ?_
          refine hq_p 1 54 [some (.ref 0), some (.int a1), some (.int a2), some (.int y5.1)] [.int a2, .int y8.1, .ref 152] (fun n h => rfl) ?_
          obtain ⟨y9, hy9, h⟩ := hq_bind h
          refine hq_inv rfl rfl (Nat.le_trans (by decide) hd) rfl rfl (hq_rcv rfl rfl) (f_X0_safest_run (Nat.le_sub_of_add_le (Nat.le_trans (by decide) hd)) hy9) rfl ?_
          have h := Option.some.inj h
          subst h
          exact ⟨1, rfl⟩
def f_X11_takers (n : Nat) (s : hq_S) : Option (Int32 × hq_S) := if hq_isT (hq_gr s 0 2) then if (hq_gi s (hq_gr s 0 2) 0) = 0 then some ((0 : Int32), s) else (f_X0_findPosts n 103 s).bind fun s3 => if (hq_gi s3 152 10) = 0 then some ((-2 : Int32), s3) else some ((hq_gi s3 152 10), s3) else none
theorem f_X11_takers_run {xs : List Int32} {n d g : Nat} {s : hq_S} {y : (Int32 × hq_S)} (hd : 5 ≤ d) (h : f_X11_takers n s = some y) : hq_R (mm_O xs) d mc_X11_takers 0 [some (.ref 0)] [] s g (some (.int y.1)) y.2 := by
  unfold f_X11_takers at h
  refine hq_p 1 1 [some (.ref 0)] [.ref 0] (fun n h => rfl) ?_
  refine hq_gf (x := .ref (hq_gr s 0 2)) rfl rfl rfl rfl rfl ?_
  have m1 : hq_isT (hq_gr s 0 2) := hq_ifT h
  rw [if_pos m1] at h
  refine hq_gf (x := .int (hq_gi s (hq_gr s 0 2) 0)) rfl (hq_shT m1) rfl rfl rfl ?_
  by_cases c2 : (hq_gi s (hq_gr s 0 2) 0) = 0
  · rw [if_pos c2] at h
    refine hq_izF rfl (hq_c_ne_F c2) ?_
    refine hq_p 1 11 [some (.ref 0)] [.int (0 : Int32)] (fun n h => rfl) ?_
    have h := Option.some.inj h
    subst h
    exact ⟨1, rfl⟩
  · rw [if_neg c2] at h
    refine hq_izT rfl (hq_c_ne_T c2) ?_
    refine hq_p 1 13 [some (.ref 0)] [.ref 0] (fun n h => rfl) ?_
    refine hq_gf (x := .ref 152) rfl rfl rfl rfl rfl ?_
    refine hq_p 1 17 [some (.ref 0)] [.ref 0, .ref 152] (fun n h => rfl) ?_
    refine hq_gf (x := .ref 103) rfl rfl rfl rfl rfl ?_
    obtain ⟨s3, hs3, h⟩ := hq_bind h
    refine hq_inv rfl rfl (Nat.le_trans (by decide) hd) rfl rfl (hq_rcv rfl rfl) (f_X0_findPosts_run (Nat.le_sub_of_add_le (Nat.le_trans (by decide) hd)) (by decide) hs3) rfl ?_
    refine hq_p 1 24 [some (.ref 0)] [.ref 0] (fun n h => rfl) ?_
    refine hq_gf (x := .ref 152) rfl rfl rfl rfl rfl ?_
    refine hq_gf (x := .int (hq_gi s3 152 10)) rfl rfl rfl rfl rfl ?_
    by_cases c4 : (hq_gi s3 152 10) = 0
    · rw [if_pos c4] at h
      refine hq_izF rfl (hq_c_ne_F c4) ?_
      refine hq_bip (-2 : Int32) rfl (by decide) ?_
      refine hq_p 1 45 [some (.ref 0)] [.int (-2 : Int32)] (fun n h => rfl) ?_
      have h := Option.some.inj h
      subst h
      exact ⟨1, rfl⟩
    · rw [if_neg c4] at h
      refine hq_izT rfl (hq_c_ne_T c4) ?_
      refine hq_p 1 39 [some (.ref 0)] [.ref 0] (fun n h => rfl) ?_
      refine hq_gf (x := .ref 152) rfl rfl rfl rfl rfl ?_
      refine hq_gf (x := .int (hq_gi s3 152 10)) rfl rfl rfl rfl rfl ?_
      have h := Option.some.inj h
      subst h
      exact ⟨1, rfl⟩
def f_X11_post (n : Nat) (a1 : Int32) (s : hq_S) : Option (Int32 × hq_S) := if a1 < 0 then some ((-1 : Int32), s) else (f_X11_takers n s).bind fun y2 => if a1 < y2.1 then (f_X0_cornerIn n (hq_gi y2.2 152 11) ((y2.1 - (1 : Int32)) - a1) y2.2).bind fun y4 => some (y4.1, y4.2) else some ((-2 : Int32), y2.2)
theorem f_X11_post_run {xs : List Int32} {n d g : Nat} {a1 : Int32} {s : hq_S} {y : (Int32 × hq_S)} (hd : 6 ≤ d) (h : f_X11_post n a1 s = some y) : hq_R (mm_O xs) d mc_X11_post 0 [some (.ref 0), some (.int a1), none] [] s g (some (.int y.1)) y.2 := by
  unfold f_X11_post at h
  refine hq_p 1 1 [some (.ref 0), some (.int a1), none] [.int a1] (fun n h => rfl) ?_
  by_cases c1 : a1 < 0
  · rw [if_pos c1] at h
    refine hq_izF rfl (hq_c_ge_F c1) ?_
    refine hq_icn (-1 : Int32) rfl (by decide) ?_
    have h := Option.some.inj h
    subst h
    exact ⟨1, rfl⟩
  · rw [if_neg c1] at h
    refine hq_izT rfl (hq_c_ge_T c1) ?_
    refine hq_p 1 7 [some (.ref 0), some (.int a1), none] [.ref 0] (fun n h => rfl) ?_
    obtain ⟨y2, hy2, h⟩ := hq_bind h
    refine hq_inv rfl rfl (Nat.le_trans (by decide) hd) rfl rfl (hq_rcv rfl rfl) (f_X11_takers_run (Nat.le_sub_of_add_le (Nat.le_trans (by decide) hd)) hy2) rfl ?_
    refine hq_p 3 13 [some (.ref 0), some (.int a1), some (.int y2.1)] [.int y2.1, .int a1] (fun n h => rfl) ?_
    by_cases c3 : a1 < y2.1
    · rw [if_pos c3] at h
      refine hq_icF rfl (hq_c_ge_F c3) ?_
      refine hq_p 1 17 [some (.ref 0), some (.int a1), some (.int y2.1)] [.ref 0] (fun n h => rfl) ?_
      refine hq_gf (x := .ref 152) rfl rfl rfl rfl rfl ?_
      refine hq_p 1 21 [some (.ref 0), some (.int a1), some (.int y2.1)] [.ref 0, .ref 152] (fun n h => rfl) ?_
      refine hq_gf (x := .ref 152) rfl rfl rfl rfl rfl ?_
      refine hq_gf (x := .int (hq_gi y2.2 152 11)) rfl rfl rfl rfl rfl ?_
      refine hq_p 5 32 [some (.ref 0), some (.int a1), some (.int y2.1)] [.int ((y2.1 - (1 : Int32)) - a1), .int (hq_gi y2.2 152 11), .ref 152] (fun n h => rfl) ?_
      obtain ⟨y4, hy4, h⟩ := hq_bind h
      refine hq_inv rfl rfl (Nat.le_trans (by decide) hd) rfl rfl (hq_rcv rfl rfl) (f_X0_cornerIn_run (Nat.le_sub_of_add_le (Nat.le_trans (by decide) hd)) hy4) rfl ?_
      refine hq_p 1 40 [some (.ref 0), some (.int a1), some (.int y2.1)] [.int y4.1] (fun n h => rfl) ?_
      have h := Option.some.inj h
      subst h
      exact ⟨1, rfl⟩
    · rw [if_neg c3] at h
      refine hq_icT rfl (hq_c_ge_T c3) ?_
      refine hq_bip (-2 : Int32) rfl (by decide) ?_
      have h := Option.some.inj h
      subst h
      exact ⟨1, rfl⟩
def f_X11_sweep (n : Nat) (a1 : Int32) (s : hq_S) : Option (Int32 × hq_S) := if a1 < (1 : Int32) then some ((-1 : Int32), s) else if (10 : Int32) < a1 then some ((-1 : Int32), s) else (f_X7_nightsToSweep n 103 a1 s).bind fun y3 => some (y3.1, y3.2)
theorem f_X11_sweep_run {xs : List Int32} {n d g : Nat} {a1 : Int32} {s : hq_S} {y : (Int32 × hq_S)} (hd : 3 ≤ d) (h : f_X11_sweep n a1 s = some y) : hq_R (mm_O xs) d mc_X11_sweep 0 [some (.ref 0), some (.int a1)] [] s g (some (.int y.1)) y.2 := by
  unfold f_X11_sweep at h
  refine hq_p 2 2 [some (.ref 0), some (.int a1)] [.int (1 : Int32), .int a1] (fun n h => rfl) ?_
  by_cases c1 : a1 < (1 : Int32)
  · rw [if_pos c1] at h
    refine hq_icT rfl (hq_c_lt_T c1) ?_
    refine hq_icn (-1 : Int32) rfl (by decide) ?_
    have h := Option.some.inj h
    subst h
    exact ⟨1, rfl⟩
  · rw [if_neg c1] at h
    refine hq_icF rfl (hq_c_lt_F c1) ?_
    refine hq_p 2 8 [some (.ref 0), some (.int a1)] [.int (10 : Int32), .int a1] (fun n h => rfl) ?_
    by_cases c2 : (10 : Int32) < a1
    · rw [if_pos c2] at h
      refine hq_icF rfl (hq_c_le_F c2) ?_
      refine hq_icn (-1 : Int32) rfl (by decide) ?_
      have h := Option.some.inj h
      subst h
      exact ⟨1, rfl⟩
    · rw [if_neg c2] at h
      refine hq_icT rfl (hq_c_le_T c2) ?_
      refine hq_p 1 14 [some (.ref 0), some (.int a1)] [.ref 0] (fun n h => rfl) ?_
      refine hq_gf (x := .ref 159) rfl rfl rfl rfl rfl ?_
      refine hq_p 1 18 [some (.ref 0), some (.int a1)] [.ref 0, .ref 159] (fun n h => rfl) ?_
      refine hq_gf (x := .ref 103) rfl rfl rfl rfl rfl ?_
      refine hq_p 1 22 [some (.ref 0), some (.int a1)] [.int a1, .ref 103, .ref 159] (fun n h => rfl) ?_
      obtain ⟨y3, hy3, h⟩ := hq_bind h
      refine hq_inv rfl rfl (Nat.le_trans (by decide) hd) rfl rfl (hq_rcv rfl rfl) (f_X7_nightsToSweep_run (Nat.le_sub_of_add_le (Nat.le_trans (by decide) hd)) (by decide) hy3) rfl ?_
      have h := Option.some.inj h
      subst h
      exact ⟨1, rfl⟩
def f_X11_look (n : Nat) (a1 : Int32) (s : hq_S) : Option (Int32 × hq_S) := if a1 < (1 : Int32) then some ((-1 : Int32), s) else if (10 : Int32) < a1 then some ((-1 : Int32), s) else (f_X7_firstLook n 103 a1 s).bind fun y3 => some (y3.1, y3.2)
theorem f_X11_look_run {xs : List Int32} {n d g : Nat} {a1 : Int32} {s : hq_S} {y : (Int32 × hq_S)} (hd : 4 ≤ d) (h : f_X11_look n a1 s = some y) : hq_R (mm_O xs) d mc_X11_look 0 [some (.ref 0), some (.int a1)] [] s g (some (.int y.1)) y.2 := by
  unfold f_X11_look at h
  refine hq_p 2 2 [some (.ref 0), some (.int a1)] [.int (1 : Int32), .int a1] (fun n h => rfl) ?_
  by_cases c1 : a1 < (1 : Int32)
  · rw [if_pos c1] at h
    refine hq_icT rfl (hq_c_lt_T c1) ?_
    refine hq_icn (-1 : Int32) rfl (by decide) ?_
    have h := Option.some.inj h
    subst h
    exact ⟨1, rfl⟩
  · rw [if_neg c1] at h
    refine hq_icF rfl (hq_c_lt_F c1) ?_
    refine hq_p 2 8 [some (.ref 0), some (.int a1)] [.int (10 : Int32), .int a1] (fun n h => rfl) ?_
    by_cases c2 : (10 : Int32) < a1
    · rw [if_pos c2] at h
      refine hq_icF rfl (hq_c_le_F c2) ?_
      refine hq_icn (-1 : Int32) rfl (by decide) ?_
      have h := Option.some.inj h
      subst h
      exact ⟨1, rfl⟩
    · rw [if_neg c2] at h
      refine hq_icT rfl (hq_c_le_T c2) ?_
      refine hq_p 1 14 [some (.ref 0), some (.int a1)] [.ref 0] (fun n h => rfl) ?_
      refine hq_gf (x := .ref 159) rfl rfl rfl rfl rfl ?_
      refine hq_p 1 18 [some (.ref 0), some (.int a1)] [.ref 0, .ref 159] (fun n h => rfl) ?_
      refine hq_gf (x := .ref 103) rfl rfl rfl rfl rfl ?_
      refine hq_p 1 22 [some (.ref 0), some (.int a1)] [.int a1, .ref 103, .ref 159] (fun n h => rfl) ?_
      obtain ⟨y3, hy3, h⟩ := hq_bind h
      refine hq_inv rfl rfl (Nat.le_trans (by decide) hd) rfl rfl (hq_rcv rfl rfl) (f_X7_firstLook_run (Nat.le_sub_of_add_le (Nat.le_trans (by decide) hd)) (by decide) hy3) rfl ?_
      have h := Option.some.inj h
      subst h
      exact ⟨1, rfl⟩
def f_X11_dark_L14_B (n : Nat) (q14 : Int32 → hq_S → Option (Int32 × hq_S)) (a1 : Int32) (s : hq_S) : Option (Int32 × hq_S) := if a1 < (10 : Int32) then (f_X7_nightsToSweep n 103 a1 s).bind fun y4 => if y4.1 = (-2 : Int32) then q14 (a1 + (1 : Int32)) y4.2 else some (a1, y4.2) else some ((10 : Int32), s)
def f_X11_dark_L14 (n : Nat) (m : Nat) : Int32 → hq_S → Option (Int32 × hq_S) := Nat.rec (fun _ _ => none) (fun _ q => f_X11_dark_L14_B n q) m
theorem f_X11_dark_L14_Brun {xs : List Int32} {n d g : Nat} {a1 : Int32} {q14 : Int32 → hq_S → Option (Int32 × hq_S)} {s : hq_S} {y : (Int32 × hq_S)} (hd : 3 ≤ d) (e14 : ∀ (a1 : Int32) (s : hq_S), q14 a1 s = some y → hq_R (mm_O xs) d mc_X11_dark 14 [some (.ref 0), some (.int a1)] [] s g (some (.int y.1)) y.2) (h : f_X11_dark_L14_B n q14 a1 s = some y) : hq_R (mm_O xs) d mc_X11_dark 14 [some (.ref 0), some (.int a1)] [] s g (some (.int y.1)) y.2 := by
  unfold f_X11_dark_L14_B at h
  refine hq_p 2 17 [some (.ref 0), some (.int a1)] [.int (10 : Int32), .int a1] (fun n h => rfl) ?_
  by_cases c3 : a1 < (10 : Int32)
  · rw [if_pos c3] at h
    refine hq_icF rfl (hq_c_ge_F c3) ?_
    refine hq_p 1 21 [some (.ref 0), some (.int a1)] [.ref 0] (fun n h => rfl) ?_
    refine hq_gf (x := .ref 159) rfl rfl rfl rfl rfl ?_
    refine hq_p 1 25 [some (.ref 0), some (.int a1)] [.ref 0, .ref 159] (fun n h => rfl) ?_
    refine hq_gf (x := .ref 103) rfl rfl rfl rfl rfl ?_
    refine hq_p 1 29 [some (.ref 0), some (.int a1)] [.int a1, .ref 103, .ref 159] (fun n h => rfl) ?_
    obtain ⟨y4, hy4, h⟩ := hq_bind h
    refine hq_inv rfl rfl (Nat.le_trans (by decide) hd) rfl rfl (hq_rcv rfl rfl) (f_X7_nightsToSweep_run (Nat.le_sub_of_add_le (Nat.le_trans (by decide) hd)) (by decide) hy4) rfl ?_
    refine hq_bip (-2 : Int32) rfl (by decide) ?_
    by_cases c5 : y4.1 = (-2 : Int32)
    · rw [if_pos c5] at h
      refine hq_icT rfl (hq_c_eq_T c5) ?_
      refine hq_p 2 14 [some (.ref 0), some (.int (a1 + (1 : Int32)))] [] (fun n h => rfl) ?_
      exact e14 (a1 + (1 : Int32)) y4.2 h
    · rw [if_neg c5] at h
      refine hq_icF rfl (hq_c_eq_F c5) ?_
      refine hq_p 1 38 [some (.ref 0), some (.int a1)] [.int a1] (fun n h => rfl) ?_
      have h := Option.some.inj h
      subst h
      exact ⟨1, rfl⟩
  · rw [if_neg c3] at h
    refine hq_icT rfl (hq_c_ge_T c3) ?_
    refine hq_p 1 47 [some (.ref 0), some (.int a1)] [.int (10 : Int32)] (fun n h => rfl) ?_
    have h := Option.some.inj h
    subst h
    exact ⟨1, rfl⟩
theorem f_X11_dark_L14_run {xs : List Int32} {n m d g : Nat} {a1 : Int32} {s : hq_S} {y : (Int32 × hq_S)} (hd : 3 ≤ d) (h : f_X11_dark_L14 n m a1 s = some y) : hq_R (mm_O xs) d mc_X11_dark 14 [some (.ref 0), some (.int a1)] [] s g (some (.int y.1)) y.2 := by
  induction m generalizing a1 s with
  | zero => cases h
  | succ m ih => exact f_X11_dark_L14_Brun (n := n) hd (fun a1 s h => ih h) h
def f_X11_dark (n : Nat) (s : hq_S) : Option (Int32 × hq_S) := if hq_isT (hq_gr s 0 2) then if (hq_gi s (hq_gr s 0 2) 0) = 0 then some ((0 : Int32), s) else f_X11_dark_L14 n n (1 : Int32) s else none
theorem f_X11_dark_run {xs : List Int32} {n d g : Nat} {s : hq_S} {y : (Int32 × hq_S)} (hd : 3 ≤ d) (h : f_X11_dark n s = some y) : hq_R (mm_O xs) d mc_X11_dark 0 [some (.ref 0), none] [] s g (some (.int y.1)) y.2 := by
  unfold f_X11_dark at h
  refine hq_p 1 1 [some (.ref 0), none] [.ref 0] (fun n h => rfl) ?_
  refine hq_gf (x := .ref (hq_gr s 0 2)) rfl rfl rfl rfl rfl ?_
  have m1 : hq_isT (hq_gr s 0 2) := hq_ifT h
  rw [if_pos m1] at h
  refine hq_gf (x := .int (hq_gi s (hq_gr s 0 2) 0)) rfl (hq_shT m1) rfl rfl rfl ?_
  by_cases c2 : (hq_gi s (hq_gr s 0 2) 0) = 0
  · rw [if_pos c2] at h
    refine hq_izF rfl (hq_c_ne_F c2) ?_
    refine hq_p 1 11 [some (.ref 0), none] [.int (0 : Int32)] (fun n h => rfl) ?_
    have h := Option.some.inj h
    subst h
    exact ⟨1, rfl⟩
  · rw [if_neg c2] at h
    refine hq_izT rfl (hq_c_ne_T c2) ?_
    refine hq_p 2 14 [some (.ref 0), some (.int (1 : Int32))] [] (fun n h => rfl) ?_
    exact f_X11_dark_L14_run hd h
def f_X11_could_L79_B (n : Nat) (q52 : Int32 → Int32 → Int32 → Int32 → hq_S → Option (Int32 × hq_S)) (q79 : Int32 → Int32 → Int32 → Int32 → Int32 → hq_S → Option (Int32 × hq_S)) (a1 : Int32) (a2 : Int32) (a3 : Int32) (a4 : Int32) (a5 : Int32) (s : hq_S) : Option (Int32 × hq_S) := if hq_isT (hq_gr s 0 2) then if a5 < (hq_gi s (hq_gr s 0 2) 7) then (hq_ld s 96 3 a5).bind fun x14 => q79 a1 a2 (a3 &&& (((1 : Int32) <<< (x14 &&& 31)) ^^^ (-1 : Int32))) a4 (a5 + (1 : Int32)) s else q52 a1 a2 a3 (a4 + (1 : Int32)) s else none
def f_X11_could_L79 (n : Nat) (q52 : Int32 → Int32 → Int32 → Int32 → hq_S → Option (Int32 × hq_S)) (m : Nat) : Int32 → Int32 → Int32 → Int32 → Int32 → hq_S → Option (Int32 × hq_S) := Nat.rec (fun _ _ _ _ _ _ => none) (fun _ q => f_X11_could_L79_B n q52 q) m
theorem f_X11_could_L79_Brun {xs : List Int32} {n d g : Nat} {a1 : Int32} {a2 : Int32} {a3 : Int32} {a4 : Int32} {a5 : Int32} {q52 : Int32 → Int32 → Int32 → Int32 → hq_S → Option (Int32 × hq_S)} {q79 : Int32 → Int32 → Int32 → Int32 → Int32 → hq_S → Option (Int32 × hq_S)} {s : hq_S} {y : (Int32 × hq_S)} (hd : 4 ≤ d) (e52 : ∀ (a1 : Int32) (a2 : Int32) (a3 : Int32) (a4 : Int32) (o5 : Option Value) (s : hq_S), q52 a1 a2 a3 a4 s = some y → hq_R (mm_O xs) d mc_X11_could 52 [some (.ref 0), some (.int a1), some (.int a2), some (.int a3), some (.int a4), o5] [] s g (some (.int y.1)) y.2) (e79 : ∀ (a1 : Int32) (a2 : Int32) (a3 : Int32) (a4 : Int32) (a5 : Int32) (s : hq_S), q79 a1 a2 a3 a4 a5 s = some y → hq_R (mm_O xs) d mc_X11_could 79 [some (.ref 0), some (.int a1), some (.int a2), some (.int a3), some (.int a4), some (.int a5)] [] s g (some (.int y.1)) y.2) (h : f_X11_could_L79_B n q52 q79 a1 a2 a3 a4 a5 s = some y) : hq_R (mm_O xs) d mc_X11_could 79 [some (.ref 0), some (.int a1), some (.int a2), some (.int a3), some (.int a4), some (.int a5)] [] s g (some (.int y.1)) y.2 := by
  unfold f_X11_could_L79_B at h
  refine hq_p 2 82 [some (.ref 0), some (.int a1), some (.int a2), some (.int a3), some (.int a4), some (.int a5)] [.ref 0, .int a5] (fun n h => rfl) ?_
  refine hq_gf (x := .ref (hq_gr s 0 2)) rfl rfl rfl rfl rfl ?_
  have m12 : hq_isT (hq_gr s 0 2) := hq_ifT h
  rw [if_pos m12] at h
  refine hq_gf (x := .int (hq_gi s (hq_gr s 0 2) 7)) rfl (hq_shT m12) rfl rfl rfl ?_
  by_cases c13 : a5 < (hq_gi s (hq_gr s 0 2) 7)
  · rw [if_pos c13] at h
    refine hq_icF rfl (hq_c_ge_F c13) ?_
    refine hq_p 3 94 [some (.ref 0), some (.int a1), some (.int a2), some (.int a3), some (.int a4), some (.int a5)] [.ref 0, .int (1 : Int32), .int a3] (fun n h => rfl) ?_
    refine hq_gf (x := .ref 94) rfl rfl rfl rfl rfl ?_
    refine hq_gf (x := .ref 96) rfl rfl rfl rfl rfl ?_
    refine hq_p 1 102 [some (.ref 0), some (.int a1), some (.int a2), some (.int a3), some (.int a4), some (.int a5)] [.int a5, .ref 96, .int (1 : Int32), .int a3] (fun n h => rfl) ?_
    obtain ⟨x14, hx14, h⟩ := hq_bind h
    refine hq_iaload rfl rfl List.length_replicate hx14 ?_
    refine hq_p 1 104 [some (.ref 0), some (.int a1), some (.int a2), some (.int a3), some (.int a4), some (.int a5)] [.int ((1 : Int32) <<< (x14 &&& 31)), .int a3] (fun n h => rfl) ?_
    refine hq_icn (-1 : Int32) rfl (by decide) ?_
    refine hq_p 5 79 [some (.ref 0), some (.int a1), some (.int a2), some (.int (a3 &&& (((1 : Int32) <<< (x14 &&& 31)) ^^^ (-1 : Int32)))), some (.int a4), some (.int (a5 + (1 : Int32)))] [] (fun n h => rfl) ?_
    exact e79 a1 a2 (a3 &&& (((1 : Int32) <<< (x14 &&& 31)) ^^^ (-1 : Int32))) a4 (a5 + (1 : Int32)) s h
  · rw [if_neg c13] at h
    refine hq_icT rfl (hq_c_ge_T c13) ?_
    refine hq_p 2 52 [some (.ref 0), some (.int a1), some (.int a2), some (.int a3), some (.int (a4 + (1 : Int32))), some (.int a5)] [] (fun n h => rfl) ?_
    exact e52 a1 a2 a3 (a4 + (1 : Int32)) _ s h
theorem f_X11_could_L79_run {xs : List Int32} {n m d g : Nat} {a1 : Int32} {a2 : Int32} {a3 : Int32} {a4 : Int32} {a5 : Int32} {q52 : Int32 → Int32 → Int32 → Int32 → hq_S → Option (Int32 × hq_S)} {s : hq_S} {y : (Int32 × hq_S)} (hd : 4 ≤ d) (e52 : ∀ (a1 : Int32) (a2 : Int32) (a3 : Int32) (a4 : Int32) (o5 : Option Value) (s : hq_S), q52 a1 a2 a3 a4 s = some y → hq_R (mm_O xs) d mc_X11_could 52 [some (.ref 0), some (.int a1), some (.int a2), some (.int a3), some (.int a4), o5] [] s g (some (.int y.1)) y.2) (h : f_X11_could_L79 n q52 m a1 a2 a3 a4 a5 s = some y) : hq_R (mm_O xs) d mc_X11_could 79 [some (.ref 0), some (.int a1), some (.int a2), some (.int a3), some (.int a4), some (.int a5)] [] s g (some (.int y.1)) y.2 := by
  induction m generalizing a1 a2 a3 a4 a5 s with
  | zero => cases h
  | succ m ih => exact f_X11_could_L79_Brun (n := n) hd e52 (fun a1 a2 a3 a4 a5 s h => ih h) h
def f_X11_could_L52_B (n : Nat) (q52 : Int32 → Int32 → Int32 → Int32 → hq_S → Option (Int32 × hq_S)) (a1 : Int32) (a2 : Int32) (a3 : Int32) (a4 : Int32) (s : hq_S) : Option (Int32 × hq_S) := if a4 < a2 then (f_X3_walkBeats n s).bind fun s10 => (f_X8_nextToAny n 103 a3 s10).bind fun y11 => f_X11_could_L79 n q52 n a1 a2 (a3 ||| y11.1) a4 (0 : Int32) y11.2 else some (a3, s)
def f_X11_could_L52 (n : Nat) (m : Nat) : Int32 → Int32 → Int32 → Int32 → hq_S → Option (Int32 × hq_S) := Nat.rec (fun _ _ _ _ _ => none) (fun _ q => f_X11_could_L52_B n q) m
theorem f_X11_could_L52_Brun {xs : List Int32} {n d g : Nat} {a1 : Int32} {a2 : Int32} {a3 : Int32} {a4 : Int32} {o5 : Option Value} {q52 : Int32 → Int32 → Int32 → Int32 → hq_S → Option (Int32 × hq_S)} {s : hq_S} {y : (Int32 × hq_S)} (hd : 4 ≤ d) (e52 : ∀ (a1 : Int32) (a2 : Int32) (a3 : Int32) (a4 : Int32) (o5 : Option Value) (s : hq_S), q52 a1 a2 a3 a4 s = some y → hq_R (mm_O xs) d mc_X11_could 52 [some (.ref 0), some (.int a1), some (.int a2), some (.int a3), some (.int a4), o5] [] s g (some (.int y.1)) y.2) (h : f_X11_could_L52_B n q52 a1 a2 a3 a4 s = some y) : hq_R (mm_O xs) d mc_X11_could 52 [some (.ref 0), some (.int a1), some (.int a2), some (.int a3), some (.int a4), o5] [] s g (some (.int y.1)) y.2 := by
  unfold f_X11_could_L52_B at h
  refine hq_p 2 55 [some (.ref 0), some (.int a1), some (.int a2), some (.int a3), some (.int a4), o5] [.int a2, .int a4] (fun n h => rfl) ?_
  by_cases c9 : a4 < a2
  · rw [if_pos c9] at h
    refine hq_icF rfl (hq_c_ge_F c9) ?_
    refine hq_p 1 59 [some (.ref 0), some (.int a1), some (.int a2), some (.int a3), some (.int a4), o5] [.ref 0] (fun n h => rfl) ?_
    refine hq_gf (x := .ref 113) rfl rfl rfl rfl rfl ?_
    obtain ⟨s10, hs10, h⟩ := hq_bind h
    refine hq_inv rfl rfl (Nat.le_trans (by decide) hd) rfl rfl (hq_rcv rfl rfl) (f_X3_walkBeats_run (Nat.le_sub_of_add_le (Nat.le_trans (by decide) hd)) hs10) rfl ?_
    refine hq_p 2 67 [some (.ref 0), some (.int a1), some (.int a2), some (.int a3), some (.int a4), o5] [.ref 0, .int a3] (fun n h => rfl) ?_
    refine hq_gf (x := .ref 103) rfl rfl rfl rfl rfl ?_
    refine hq_p 1 71 [some (.ref 0), some (.int a1), some (.int a2), some (.int a3), some (.int a4), o5] [.int a3, .ref 103, .int a3] (fun n h => rfl) ?_
    obtain ⟨y11, hy11, h⟩ := hq_bind h
    refine hq_inv rfl rfl (Nat.le_trans (by decide) hd) rfl rfl (hq_rcv (hq_shS (by decide)) rfl) (f_X8_nextToAny_run (Nat.le_sub_of_add_le (Nat.le_trans (by decide) hd)) (by decide) hy11) rfl ?_
    refine hq_p 4 79 [some (.ref 0), some (.int a1), some (.int a2), some (.int (a3 ||| y11.1)), some (.int a4), some (.int (0 : Int32))] [] (fun n h => rfl) ?_
    exact f_X11_could_L79_run hd e52 h
  · rw [if_neg c9] at h
    refine hq_icT rfl (hq_c_ge_T c9) ?_
    refine hq_p 1 121 [some (.ref 0), some (.int a1), some (.int a2), some (.int a3), some (.int a4), o5] [.int a3] (fun n h => rfl) ?_
    have h := Option.some.inj h
    subst h
    exact ⟨1, rfl⟩
theorem f_X11_could_L52_run {xs : List Int32} {n m d g : Nat} {a1 : Int32} {a2 : Int32} {a3 : Int32} {a4 : Int32} {o5 : Option Value} {s : hq_S} {y : (Int32 × hq_S)} (hd : 4 ≤ d) (h : f_X11_could_L52 n m a1 a2 a3 a4 s = some y) : hq_R (mm_O xs) d mc_X11_could 52 [some (.ref 0), some (.int a1), some (.int a2), some (.int a3), some (.int a4), o5] [] s g (some (.int y.1)) y.2 := by
  induction m generalizing a1 a2 a3 a4 o5 s with
  | zero => cases h
  | succ m ih => exact f_X11_could_L52_Brun (n := n) hd (fun a1 a2 a3 a4 o5 s h => ih h) h
def f_X11_could (n : Nat) (a1 : Int32) (a2 : Int32) (s : hq_S) : Option (Int32 × hq_S) := (f_X11_isThief n a1 s).bind fun y1 => if y1.1 = 0 then some ((-1 : Int32), y1.2) else if a2 < 0 then some ((-1 : Int32), y1.2) else if (60 : Int32) < a2 then some ((-1 : Int32), y1.2) else (f_X5_isFree n 76 a1 y1.2).bind fun y5 => if y5.1 = 0 then some ((0 : Int32), y5.2) else (f_X11_playAsItGoes n y5.2).bind fun s7 => (hq_ld s7 81 4 a1).bind fun x8 => f_X11_could_L52 n n a1 a2 ((1 : Int32) <<< (x8 &&& 31)) (0 : Int32) s7
theorem f_X11_could_run {xs : List Int32} {n d g : Nat} {a1 : Int32} {a2 : Int32} {s : hq_S} {y : (Int32 × hq_S)} (hd : 4 ≤ d) (h : f_X11_could n a1 a2 s = some y) : hq_R (mm_O xs) d mc_X11_could 0 [some (.ref 0), some (.int a1), some (.int a2), none, none, none] [] s g (some (.int y.1)) y.2 := by
  unfold f_X11_could at h
  refine hq_p 2 2 [some (.ref 0), some (.int a1), some (.int a2), none, none, none] [.int a1, .ref 0] (fun n h => rfl) ?_
  obtain ⟨y1, hy1, h⟩ := hq_bind h
  refine hq_inv rfl rfl (Nat.le_trans (by decide) hd) rfl rfl (hq_rcv rfl rfl) (f_X11_isThief_run (Nat.le_sub_of_add_le (Nat.le_trans (by decide) hd)) hy1) rfl ?_
  by_cases c2 : y1.1 = 0
  · rw [if_pos c2] at h
    refine hq_izT rfl (hq_c_eq_T c2) ?_
    refine hq_icn (-1 : Int32) rfl (by decide) ?_
    have h := Option.some.inj h
    subst h
    exact ⟨1, rfl⟩
  · rw [if_neg c2] at h
    refine hq_izF rfl (hq_c_eq_F c2) ?_
    refine hq_p 1 9 [some (.ref 0), some (.int a1), some (.int a2), none, none, none] [.int a2] (fun n h => rfl) ?_
    by_cases c3 : a2 < 0
    · rw [if_pos c3] at h
      refine hq_izT rfl (hq_c_lt_T c3) ?_
      refine hq_icn (-1 : Int32) rfl (by decide) ?_
      have h := Option.some.inj h
      subst h
      exact ⟨1, rfl⟩
    · rw [if_neg c3] at h
      refine hq_izF rfl (hq_c_lt_F c3) ?_
      refine hq_p 1 13 [some (.ref 0), some (.int a1), some (.int a2), none, none, none] [.int a2] (fun n h => rfl) ?_
      refine hq_bip (60 : Int32) rfl (by decide) ?_
      by_cases c4 : (60 : Int32) < a2
      · rw [if_pos c4] at h
        refine hq_icF rfl (hq_c_le_F c4) ?_
        refine hq_icn (-1 : Int32) rfl (by decide) ?_
        have h := Option.some.inj h
        subst h
        exact ⟨1, rfl⟩
      · rw [if_neg c4] at h
        refine hq_icT rfl (hq_c_le_T c4) ?_
        refine hq_p 1 21 [some (.ref 0), some (.int a1), some (.int a2), none, none, none] [.ref 0] (fun n h => rfl) ?_
        refine hq_gf (x := .ref 76) rfl rfl rfl rfl rfl ?_
        refine hq_p 1 25 [some (.ref 0), some (.int a1), some (.int a2), none, none, none] [.int a1, .ref 76] (fun n h => rfl) ?_
        obtain ⟨y5, hy5, h⟩ := hq_bind h
        refine hq_inv rfl rfl (Nat.le_trans (by decide) hd) rfl rfl (hq_rcv (hq_shN (by decide)) rfl) (f_X5_isFree_run (Nat.le_sub_of_add_le (Nat.le_trans (by decide) hd)) (by decide) hy5) rfl ?_
        by_cases c6 : y5.1 = 0
        · rw [if_pos c6] at h
          refine hq_izF rfl (hq_c_ne_F c6) ?_
          refine hq_p 1 32 [some (.ref 0), some (.int a1), some (.int a2), none, none, none] [.int (0 : Int32)] (fun n h => rfl) ?_
          have h := Option.some.inj h
          subst h
          exact ⟨1, rfl⟩
        · rw [if_neg c6] at h
          refine hq_izT rfl (hq_c_ne_T c6) ?_
          refine hq_p 1 34 [some (.ref 0), some (.int a1), some (.int a2), none, none, none] [.ref 0] (fun n h => rfl) ?_
          obtain ⟨s7, hs7, h⟩ := hq_bind h
          refine hq_inv rfl rfl (Nat.le_trans (by decide) hd) rfl rfl (hq_rcv rfl rfl) (f_X11_playAsItGoes_run (Nat.le_sub_of_add_le (Nat.le_trans (by decide) hd)) hs7) rfl ?_
          refine hq_p 2 39 [some (.ref 0), some (.int a1), some (.int a2), none, none, none] [.ref 0, .int (1 : Int32)] (fun n h => rfl) ?_
          refine hq_gf (x := .ref 76) rfl rfl rfl rfl rfl ?_
          refine hq_gf (x := .ref 81) rfl rfl rfl rfl rfl ?_
          refine hq_p 1 46 [some (.ref 0), some (.int a1), some (.int a2), none, none, none] [.int a1, .ref 81, .int (1 : Int32)] (fun n h => rfl) ?_
          obtain ⟨x8, hx8, h⟩ := hq_bind h
          refine hq_iaload rfl rfl List.length_replicate hx8 ?_
          refine hq_p 4 52 [some (.ref 0), some (.int a1), some (.int a2), some (.int ((1 : Int32) <<< (x8 &&& 31))), some (.int (0 : Int32)), none] [] (fun n h => rfl) ?_
          exact f_X11_could_L52_run hd h
def f_X11_unseen_L21_B (n : Nat) (q21 : Int32 → Int32 → Int32 → Int32 → hq_S → Option (Int32 × hq_S)) (a1 : Int32) (a2 : Int32) (a3 : Int32) (a4 : Int32) (s : hq_S) : Option (Int32 × hq_S) := if a4 < (60 : Int32) then (f_X3_walkBeats n s).bind fun s5 => (f_X3_nearest n a1 s5).bind fun y6 => (if y6.1 < (2 : Int32) then some (0 : Int32) else some (a3 + (1 : Int32))).bind fun z7 => q21 a1 (hq_max a2 z7) z7 (a4 + (1 : Int32)) y6.2 else some (a2, s)
def f_X11_unseen_L21 (n : Nat) (m : Nat) : Int32 → Int32 → Int32 → Int32 → hq_S → Option (Int32 × hq_S) := Nat.rec (fun _ _ _ _ _ => none) (fun _ q => f_X11_unseen_L21_B n q) m
theorem f_X11_unseen_L21_Brun {xs : List Int32} {n d g : Nat} {a1 : Int32} {a2 : Int32} {a3 : Int32} {a4 : Int32} {q21 : Int32 → Int32 → Int32 → Int32 → hq_S → Option (Int32 × hq_S)} {s : hq_S} {y : (Int32 × hq_S)} (hd : 4 ≤ d) (e21 : ∀ (a1 : Int32) (a2 : Int32) (a3 : Int32) (a4 : Int32) (s : hq_S), q21 a1 a2 a3 a4 s = some y → hq_R (mm_O xs) d mc_X11_unseen 21 [some (.ref 0), some (.int a1), some (.int a2), some (.int a3), some (.int a4)] [] s g (some (.int y.1)) y.2) (h : f_X11_unseen_L21_B n q21 a1 a2 a3 a4 s = some y) : hq_R (mm_O xs) d mc_X11_unseen 21 [some (.ref 0), some (.int a1), some (.int a2), some (.int a3), some (.int a4)] [] s g (some (.int y.1)) y.2 := by
  unfold f_X11_unseen_L21_B at h
  refine hq_p 1 23 [some (.ref 0), some (.int a1), some (.int a2), some (.int a3), some (.int a4)] [.int a4] (fun n h => rfl) ?_
  refine hq_bip (60 : Int32) rfl (by decide) ?_
  by_cases c4 : a4 < (60 : Int32)
  · rw [if_pos c4] at h
    refine hq_icF rfl (hq_c_ge_F c4) ?_
    refine hq_p 1 29 [some (.ref 0), some (.int a1), some (.int a2), some (.int a3), some (.int a4)] [.ref 0] (fun n h => rfl) ?_
    refine hq_gf (x := .ref 113) rfl rfl rfl rfl rfl ?_
    obtain ⟨s5, hs5, h⟩ := hq_bind h
    refine hq_inv rfl rfl (Nat.le_trans (by decide) hd) rfl rfl (hq_rcv rfl rfl) (f_X3_walkBeats_run (Nat.le_sub_of_add_le (Nat.le_trans (by decide) hd)) hs5) rfl ?_
    refine hq_p 1 36 [some (.ref 0), some (.int a1), some (.int a2), some (.int a3), some (.int a4)] [.ref 0] (fun n h => rfl) ?_
    refine hq_gf (x := .ref 113) rfl rfl rfl rfl rfl ?_
    refine hq_p 1 40 [some (.ref 0), some (.int a1), some (.int a2), some (.int a3), some (.int a4)] [.int a1, .ref 113] (fun n h => rfl) ?_
    obtain ⟨y6, hy6, h⟩ := hq_bind h
    refine hq_inv rfl rfl (Nat.le_trans (by decide) hd) rfl rfl (hq_rcv rfl rfl) (f_X3_nearest_run (Nat.le_sub_of_add_le (Nat.le_trans (by decide) hd)) hy6) rfl ?_
    refine hq_p 1 44 [some (.ref 0), some (.int a1), some (.int a2), some (.int a3), some (.int a4)] [.int (2 : Int32), .int y6.1] (fun n h => rfl) ?_
    obtain ⟨z7, hz7, h⟩ := hq_bind h
    suffices hT : hq_R (mm_O xs) d mc_X11_unseen 54 [some (.ref 0), some (.int a1), some (.int a2), some (.int a3), some (.int a4)] [.int z7] y6.2 g (some (.int y.1)) y.2 from by
      clear h
      have h := hz7
      by_cases c8 : y6.1 < (2 : Int32)
      · rw [if_pos c8] at h
        refine hq_icF rfl (hq_c_ge_F c8) ?_
        refine hq_p 2 54 [some (.ref 0), some (.int a1), some (.int a2), some (.int a3), some (.int a4)] [.int (0 : Int32)] (fun n h => rfl) ?_
        cases h
        exact hT
      · rw [if_neg c8] at h
        refine hq_icT rfl (hq_c_ge_T c8) ?_
        refine hq_p 3 54 [some (.ref 0), some (.int a1), some (.int a2), some (.int a3), some (.int a4)] [.int (a3 + (1 : Int32))] (fun n h => rfl) ?_
        cases h
        exact hT
    refine hq_p 3 57 [some (.ref 0), some (.int a1), some (.int a2), some (.int z7), some (.int a4)] [.int z7, .int a2] (fun n h => rfl) ?_
    refine hq_math rfl rfl rfl (Nat.le_trans (by decide) hd) ?_
    refine hq_p 3 21 [some (.ref 0), some (.int a1), some (.int (hq_max a2 z7)), some (.int z7), some (.int (a4 + (1 : Int32)))] [] (fun n h => rfl) ?_
    exact e21 a1 (hq_max a2 z7) z7 (a4 + (1 : Int32)) y6.2 h
  · rw [if_neg c4] at h
    refine hq_icT rfl (hq_c_ge_T c4) ?_
    refine hq_p 1 68 [some (.ref 0), some (.int a1), some (.int a2), some (.int a3), some (.int a4)] [.int a2] (fun n h => rfl) ?_
    have h := Option.some.inj h
    subst h
    exact ⟨1, rfl⟩
theorem f_X11_unseen_L21_run {xs : List Int32} {n m d g : Nat} {a1 : Int32} {a2 : Int32} {a3 : Int32} {a4 : Int32} {s : hq_S} {y : (Int32 × hq_S)} (hd : 4 ≤ d) (h : f_X11_unseen_L21 n m a1 a2 a3 a4 s = some y) : hq_R (mm_O xs) d mc_X11_unseen 21 [some (.ref 0), some (.int a1), some (.int a2), some (.int a3), some (.int a4)] [] s g (some (.int y.1)) y.2 := by
  induction m generalizing a1 a2 a3 a4 s with
  | zero => cases h
  | succ m ih => exact f_X11_unseen_L21_Brun (n := n) hd (fun a1 a2 a3 a4 s h => ih h) h
def f_X11_unseen (n : Nat) (a1 : Int32) (s : hq_S) : Option (Int32 × hq_S) := (f_X11_isCorner n a1 s).bind fun y1 => if y1.1 = 0 then some ((-1 : Int32), y1.2) else (f_X11_playAsItGoes n y1.2).bind fun s3 => f_X11_unseen_L21 n n a1 (0 : Int32) (0 : Int32) (0 : Int32) s3
theorem f_X11_unseen_run {xs : List Int32} {n d g : Nat} {a1 : Int32} {s : hq_S} {y : (Int32 × hq_S)} (hd : 4 ≤ d) (h : f_X11_unseen n a1 s = some y) : hq_R (mm_O xs) d mc_X11_unseen 0 [some (.ref 0), some (.int a1), none, none, none] [] s g (some (.int y.1)) y.2 := by
  unfold f_X11_unseen at h
  refine hq_p 2 2 [some (.ref 0), some (.int a1), none, none, none] [.int a1, .ref 0] (fun n h => rfl) ?_
  obtain ⟨y1, hy1, h⟩ := hq_bind h
  refine hq_inv rfl rfl (Nat.le_trans (by decide) hd) rfl rfl (hq_rcv rfl rfl) (f_X11_isCorner_run (Nat.le_sub_of_add_le (Nat.le_trans (by decide) hd)) hy1) rfl ?_
  by_cases c2 : y1.1 = 0
  · rw [if_pos c2] at h
    refine hq_izF rfl (hq_c_ne_F c2) ?_
    refine hq_icn (-1 : Int32) rfl (by decide) ?_
    have h := Option.some.inj h
    subst h
    exact ⟨1, rfl⟩
  · rw [if_neg c2] at h
    refine hq_izT rfl (hq_c_ne_T c2) ?_
    refine hq_p 1 11 [some (.ref 0), some (.int a1), none, none, none] [.ref 0] (fun n h => rfl) ?_
    obtain ⟨s3, hs3, h⟩ := hq_bind h
    refine hq_inv rfl rfl (Nat.le_trans (by decide) hd) rfl rfl (hq_rcv rfl rfl) (f_X11_playAsItGoes_run (Nat.le_sub_of_add_le (Nat.le_trans (by decide) hd)) hs3) rfl ?_
    refine hq_p 6 21 [some (.ref 0), some (.int a1), some (.int (0 : Int32)), some (.int (0 : Int32)), some (.int (0 : Int32))] [] (fun n h => rfl) ?_
    exact f_X11_unseen_L21_run hd h
def f_X11_round (n : Nat) (a1 : Int32) (s : hq_S) : Option (Int32 × hq_S) := (f_X11_isCorner n a1 s).bind fun y1 => if y1.1 = 0 then some ((-1 : Int32), y1.2) else (f_X7_lanesOfRound n 103 a1 y1.2).bind fun y3 => some (y3.1, y3.2)
theorem f_X11_round_run {xs : List Int32} {n d g : Nat} {a1 : Int32} {s : hq_S} {y : (Int32 × hq_S)} (hd : 3 ≤ d) (h : f_X11_round n a1 s = some y) : hq_R (mm_O xs) d mc_X11_round 0 [some (.ref 0), some (.int a1)] [] s g (some (.int y.1)) y.2 := by
  unfold f_X11_round at h
  refine hq_p 2 2 [some (.ref 0), some (.int a1)] [.int a1, .ref 0] (fun n h => rfl) ?_
  obtain ⟨y1, hy1, h⟩ := hq_bind h
  refine hq_inv rfl rfl (Nat.le_trans (by decide) hd) rfl rfl (hq_rcv rfl rfl) (f_X11_isCorner_run (Nat.le_sub_of_add_le (Nat.le_trans (by decide) hd)) hy1) rfl ?_
  by_cases c2 : y1.1 = 0
  · rw [if_pos c2] at h
    refine hq_izT rfl (hq_c_eq_T c2) ?_
    refine hq_icn (-1 : Int32) rfl (by decide) ?_
    have h := Option.some.inj h
    subst h
    exact ⟨1, rfl⟩
  · rw [if_neg c2] at h
    refine hq_izF rfl (hq_c_eq_F c2) ?_
    refine hq_p 1 9 [some (.ref 0), some (.int a1)] [.ref 0] (fun n h => rfl) ?_
    refine hq_gf (x := .ref 159) rfl rfl rfl rfl rfl ?_
    refine hq_p 1 13 [some (.ref 0), some (.int a1)] [.ref 0, .ref 159] (fun n h => rfl) ?_
    refine hq_gf (x := .ref 103) rfl rfl rfl rfl rfl ?_
    refine hq_p 1 17 [some (.ref 0), some (.int a1)] [.int a1, .ref 103, .ref 159] (fun n h => rfl) ?_
    obtain ⟨y3, hy3, h⟩ := hq_bind h
    refine hq_inv rfl rfl (Nat.le_trans (by decide) hd) rfl rfl (hq_rcv rfl rfl) (f_X7_lanesOfRound_run (Nat.le_sub_of_add_le (Nat.le_trans (by decide) hd)) (by decide) hy3) rfl ?_
    refine hq_p 1 24 [some (.ref 0), some (.int a1)] [.int y3.1] (fun n h => rfl) ?_
    have h := Option.some.inj h
    subst h
    exact ⟨1, rfl⟩
