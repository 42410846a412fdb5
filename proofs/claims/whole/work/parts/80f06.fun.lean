def f_X11_wall (n : Nat) (a1 : Int32) (a2 : Int32) (s : hq_S) : Option (Int32 × hq_S) := (f_X11_isCorner n a1 s).bind fun y1 => if y1.1 = 0 then some ((-1 : Int32), y1.2) else (f_X11_isCorner n a2 y1.2).bind fun y3 => if y3.1 = 0 then some ((-1 : Int32), y3.2) else if a1 = a2 then some ((-1 : Int32), y3.2) else if hq_isT (hq_gr y3.2 0 2) then (f_X10_fewestBars n (hq_gr y3.2 0 2) (hq_gi y3.2 76 2) a1 a2 y3.2).bind fun y7 => some (y7.1, y7.2) else none
theorem f_X11_wall_run {xs : List Int32} {n d g : Nat} {a1 : Int32} {a2 : Int32} {s : hq_S} {y : (Int32 × hq_S)} (hd : 3 ≤ d) (h : f_X11_wall n a1 a2 s = some y) : hq_R (mm_O xs) d mc_X11_wall 0 [some (.ref 0), some (.int a1), some (.int a2)] [] s g (some (.int y.1)) y.2 := by
  unfold f_X11_wall at h
  refine hq_p 2 2 [some (.ref 0), some (.int a1), some (.int a2)] [.int a1, .ref 0] (fun n h => rfl) ?_
  obtain ⟨y1, hy1, h⟩ := hq_bind h
  refine hq_inv rfl rfl (Nat.le_trans (by decide) hd) rfl rfl (hq_rcv rfl rfl) (f_X11_isCorner_run (Nat.le_sub_of_add_le (Nat.le_trans (by decide) hd)) hy1) rfl ?_
  by_cases c2 : y1.1 = 0
  · rw [if_pos c2] at h
    refine hq_izT rfl (hq_c_eq_T c2) ?_
    refine hq_icn (-1 : Int32) rfl (by decide) ?_
    have h := Option.some.inj h
    subst h
    exact ⟨1, rfl⟩
  · rw [if_neg c2] at h
    refine hq_izF rfl (hq_c_eq_F c2) ?_
    refine hq_p 2 10 [some (.ref 0), some (.int a1), some (.int a2)] [.int a2, .ref 0] (fun n h => rfl) ?_
    obtain ⟨y3, hy3, h⟩ := hq_bind h
    refine hq_inv rfl rfl (Nat.le_trans (by decide) hd) rfl rfl (hq_rcv rfl rfl) (f_X11_isCorner_run (Nat.le_sub_of_add_le (Nat.le_trans (by decide) hd)) hy3) rfl ?_
    by_cases c4 : y3.1 = 0
    · rw [if_pos c4] at h
      refine hq_izT rfl (hq_c_eq_T c4) ?_
      refine hq_icn (-1 : Int32) rfl (by decide) ?_
      have h := Option.some.inj h
      subst h
      exact ⟨1, rfl⟩
    · rw [if_neg c4] at h
      refine hq_izF rfl (hq_c_eq_F c4) ?_
      refine hq_p 2 18 [some (.ref 0), some (.int a1), some (.int a2)] [.int a2, .int a1] (fun n h => rfl) ?_
      by_cases c5 : a1 = a2
      · rw [if_pos c5] at h
        refine hq_icF rfl (hq_c_ne_F c5) ?_
        refine hq_icn (-1 : Int32) rfl (by decide) ?_
        have h := Option.some.inj h
        subst h
        exact ⟨1, rfl⟩
      · rw [if_neg c5] at h
        refine hq_icT rfl (hq_c_ne_T c5) ?_
        refine hq_p 1 24 [some (.ref 0), some (.int a1), some (.int a2)] [.ref 0] (fun n h => rfl) ?_
        refine hq_gf (x := .ref (hq_gr y3.2 0 2)) rfl rfl rfl rfl rfl ?_
        have m6 : hq_isT (hq_gr y3.2 0 2) := hq_ifT h
        rw [if_pos m6] at h
        refine hq_p 1 28 [some (.ref 0), some (.int a1), some (.int a2)] [.ref 0, .ref (hq_gr y3.2 0 2)] (fun n h => rfl) ?_
        refine hq_gf (x := .ref 76) rfl rfl rfl rfl rfl ?_
        refine hq_gf (x := .int (hq_gi y3.2 76 2)) rfl rfl rfl rfl rfl ?_
        refine hq_p 2 36 [some (.ref 0), some (.int a1), some (.int a2)] [.int a2, .int a1, .int (hq_gi y3.2 76 2), .ref (hq_gr y3.2 0 2)] (fun n h => rfl) ?_
        obtain ⟨y7, hy7, h⟩ := hq_bind h
        refine hq_inv rfl rfl (Nat.le_trans (by decide) hd) rfl rfl (hq_rcv (hq_shT m6) rfl) (f_X10_fewestBars_run (Nat.le_sub_of_add_le (Nat.le_trans (by decide) hd)) m6 hy7) rfl ?_
        have h := Option.some.inj h
        subst h
        exact ⟨1, rfl⟩
def f_X11_power_L5_B (n : Nat) (q5 : Int64 → Int32 → Int64 → Int32 → hq_S → Option (Int64 × hq_S)) (j0 : Int64) (a2 : Int32) (j3 : Int64) (a5 : Int32) (s : hq_S) : Option (Int64 × hq_S) := if a5 < a2 then q5 j0 a2 (j3 * j0) (a5 + (1 : Int32)) s else some (j3, s)
def f_X11_power_L5 (n : Nat) (m : Nat) : Int64 → Int32 → Int64 → Int32 → hq_S → Option (Int64 × hq_S) := Nat.rec (fun _ _ _ _ _ => none) (fun _ q => f_X11_power_L5_B n q) m
theorem f_X11_power_L5_Brun {xs : List Int32} {n d g : Nat} {j0 : Int64} {a2 : Int32} {j3 : Int64} {a5 : Int32} {q5 : Int64 → Int32 → Int64 → Int32 → hq_S → Option (Int64 × hq_S)} {s : hq_S} {y : (Int64 × hq_S)} (hd : 0 ≤ d) (e5 : ∀ (j0 : Int64) (a2 : Int32) (j3 : Int64) (a5 : Int32) (s : hq_S), q5 j0 a2 j3 a5 s = some y → hq_R (mm_O xs) d mc_X11_power 5 [some (.long j0), none, some (.int a2), some (.long j3), none, some (.int a5)] [] s g (some (.long y.1)) y.2) (h : f_X11_power_L5_B n q5 j0 a2 j3 a5 s = some y) : hq_R (mm_O xs) d mc_X11_power 5 [some (.long j0), none, some (.int a2), some (.long j3), none, some (.int a5)] [] s g (some (.long y.1)) y.2 := by
  unfold f_X11_power_L5_B at h
  refine hq_p 2 8 [some (.long j0), none, some (.int a2), some (.long j3), none, some (.int a5)] [.int a2, .int a5] (fun n h => rfl) ?_
  by_cases c1 : a5 < a2
  · rw [if_pos c1] at h
    refine hq_icF rfl (hq_c_ge_F c1) ?_
    refine hq_p 6 5 [some (.long j0), none, some (.int a2), some (.long (j3 * j0)), none, some (.int (a5 + (1 : Int32)))] [] (fun n h => rfl) ?_
    exact e5 j0 a2 (j3 * j0) (a5 + (1 : Int32)) s h
  · rw [if_neg c1] at h
    refine hq_icT rfl (hq_c_ge_T c1) ?_
    refine hq_p 1 22 [some (.long j0), none, some (.int a2), some (.long j3), none, some (.int a5)] [.long j3] (fun n h => rfl) ?_
    have h := Option.some.inj h
    subst h
    exact ⟨1, rfl⟩
theorem f_X11_power_L5_run {xs : List Int32} {n m d g : Nat} {j0 : Int64} {a2 : Int32} {j3 : Int64} {a5 : Int32} {s : hq_S} {y : (Int64 × hq_S)} (hd : 0 ≤ d) (h : f_X11_power_L5 n m j0 a2 j3 a5 s = some y) : hq_R (mm_O xs) d mc_X11_power 5 [some (.long j0), none, some (.int a2), some (.long j3), none, some (.int a5)] [] s g (some (.long y.1)) y.2 := by
  induction m generalizing j0 a2 j3 a5 s with
  | zero => cases h
  | succ m ih => exact f_X11_power_L5_Brun (n := n) hd (fun j0 a2 j3 a5 s h => ih h) h
def f_X11_power (n : Nat) (j0 : Int64) (a2 : Int32) (s : hq_S) : Option (Int64 × hq_S) := f_X11_power_L5 n n j0 a2 (1 : Int64) (0 : Int32) s
theorem f_X11_power_run {xs : List Int32} {n d g : Nat} {j0 : Int64} {a2 : Int32} {s : hq_S} {y : (Int64 × hq_S)} (hd : 0 ≤ d) (h : f_X11_power n j0 a2 s = some y) : hq_R (mm_O xs) d mc_X11_power 0 [some (.long j0), none, some (.int a2), none, none, none] [] s g (some (.long y.1)) y.2 := by
  unfold f_X11_power at h
  refine hq_p 4 5 [some (.long j0), none, some (.int a2), some (.long (1 : Int64)), none, some (.int (0 : Int32))] [] (fun n h => rfl) ?_
  exact f_X11_power_L5_run hd h
def f_X11_inLeastTerms_J45 (n : Nat) (j0 : Int64) (j2 : Int64) (a4 : Int32) (j5 : Int64) (j7 : Int64) (a9 : Int32) (s : hq_S) : Option (Int64 × hq_S) := if (lg_cmp j5 (0 : Int64)) = 0 then some ((-1 : Int64), s) else if a4 = 0 then (hq_ldiv j0 j5).bind fun x5 => some (x5, s) else (hq_ldiv j2 j5).bind fun x4 => some (x4, s)
theorem f_X11_inLeastTerms_J45_run {xs : List Int32} {n d g : Nat} {j0 : Int64} {j2 : Int64} {a4 : Int32} {j5 : Int64} {j7 : Int64} {a9 : Int32} {o10 : Option Value} {s : hq_S} {y : (Int64 × hq_S)} (hd : 0 ≤ d) (h : f_X11_inLeastTerms_J45 n j0 j2 a4 j5 j7 a9 s = some y) : hq_R (mm_O xs) d mc_X11_inLeastTerms 45 [some (.long j0), none, some (.long j2), none, some (.int a4), some (.long j5), none, some (.long j7), none, some (.int a9), o10, none] [] s g (some (.long y.1)) y.2 := by
  unfold f_X11_inLeastTerms_J45 at h
  refine hq_p 3 49 [some (.long j0), none, some (.long j2), none, some (.int a4), some (.long j5), none, some (.long j7), none, some (.int a9), o10, none] [.int (lg_cmp j5 (0 : Int64))] (fun n h => rfl) ?_
  by_cases c2 : (lg_cmp j5 (0 : Int64)) = 0
  · rw [if_pos c2] at h
    refine hq_izF rfl (hq_c_ne_F c2) ?_
    refine hq_lc2 (-1 : Int64) rfl (by decide) ?_
    have h := Option.some.inj h
    subst h
    exact ⟨1, rfl⟩
  · rw [if_neg c2] at h
    refine hq_izT rfl (hq_c_ne_T c2) ?_
    refine hq_p 1 58 [some (.long j0), none, some (.long j2), none, some (.int a4), some (.long j5), none, some (.long j7), none, some (.int a9), o10, none] [.int a4] (fun n h => rfl) ?_
    by_cases c3 : a4 = 0
    · rw [if_pos c3] at h
      refine hq_izF rfl (hq_c_ne_F c3) ?_
      refine hq_p 2 64 [some (.long j0), none, some (.long j2), none, some (.int a4), some (.long j5), none, some (.long j7), none, some (.int a9), o10, none] [.long j5, .long j0] (fun n h => rfl) ?_
      obtain ⟨x5, hx5, h⟩ := hq_bind h
      refine hq_ldiv_ rfl hx5 ?_
      refine hq_p 1 72 [some (.long j0), none, some (.long j2), none, some (.int a4), some (.long j5), none, some (.long j7), none, some (.int a9), o10, none] [.long x5] (fun n h => rfl) ?_
      have h := Option.some.inj h
      subst h
      exact ⟨1, rfl⟩
    · rw [if_neg c3] at h
      refine hq_izT rfl (hq_c_ne_T c3) ?_
      refine hq_p 2 71 [some (.long j0), none, some (.long j2), none, some (.int a4), some (.long j5), none, some (.long j7), none, some (.int a9), o10, none] [.long j5, .long j2] (fun n h => rfl) ?_
      obtain ⟨x4, hx4, h⟩ := hq_bind h
      refine hq_ldiv_ rfl hx4 ?_
      have h := Option.some.inj h
      subst h
      exact ⟨1, rfl⟩
def f_X11_inLeastTerms_L9_B (n : Nat) (q9 : Int64 → Int64 → Int32 → Int64 → Int64 → Int32 → hq_S → Option (Int64 × hq_S)) (j0 : Int64) (j2 : Int64) (a4 : Int32) (j5 : Int64) (j7 : Int64) (a9 : Int32) (s : hq_S) : Option (Int64 × hq_S) := if a9 < (200 : Int32) then if (lg_cmp j7 (0 : Int64)) = 0 then f_X11_inLeastTerms_J45 n j0 j2 a4 j5 j7 a9 s else (hq_lrem j5 j7).bind fun x7 => q9 j0 j2 a4 j7 x7 (a9 + (1 : Int32)) s else f_X11_inLeastTerms_J45 n j0 j2 a4 j5 j7 a9 s
def f_X11_inLeastTerms_L9 (n : Nat) (m : Nat) : Int64 → Int64 → Int32 → Int64 → Int64 → Int32 → hq_S → Option (Int64 × hq_S) := Nat.rec (fun _ _ _ _ _ _ _ => none) (fun _ q => f_X11_inLeastTerms_L9_B n q) m
theorem f_X11_inLeastTerms_L9_Brun {xs : List Int32} {n d g : Nat} {j0 : Int64} {j2 : Int64} {a4 : Int32} {j5 : Int64} {j7 : Int64} {a9 : Int32} {o10 : Option Value} {q9 : Int64 → Int64 → Int32 → Int64 → Int64 → Int32 → hq_S → Option (Int64 × hq_S)} {s : hq_S} {y : (Int64 × hq_S)} (hd : 0 ≤ d) (e9 : ∀ (j0 : Int64) (j2 : Int64) (a4 : Int32) (j5 : Int64) (j7 : Int64) (a9 : Int32) (o10 : Option Value) (s : hq_S), q9 j0 j2 a4 j5 j7 a9 s = some y → hq_R (mm_O xs) d mc_X11_inLeastTerms 9 [some (.long j0), none, some (.long j2), none, some (.int a4), some (.long j5), none, some (.long j7), none, some (.int a9), o10, none] [] s g (some (.long y.1)) y.2) (h : f_X11_inLeastTerms_L9_B n q9 j0 j2 a4 j5 j7 a9 s = some y) : hq_R (mm_O xs) d mc_X11_inLeastTerms 9 [some (.long j0), none, some (.long j2), none, some (.int a4), some (.long j5), none, some (.long j7), none, some (.int a9), o10, none] [] s g (some (.long y.1)) y.2 := by
  unfold f_X11_inLeastTerms_L9_B at h
  refine hq_p 1 11 [some (.long j0), none, some (.long j2), none, some (.int a4), some (.long j5), none, some (.long j7), none, some (.int a9), o10, none] [.int a9] (fun n h => rfl) ?_
  refine hq_sip (200 : Int32) rfl (by decide) ?_
  by_cases c1 : a9 < (200 : Int32)
  · rw [if_pos c1] at h
    refine hq_icF rfl (hq_c_ge_F c1) ?_
    refine hq_p 3 21 [some (.long j0), none, some (.long j2), none, some (.int a4), some (.long j5), none, some (.long j7), none, some (.int a9), o10, none] [.int (lg_cmp j7 (0 : Int64))] (fun n h => rfl) ?_
    by_cases c6 : (lg_cmp j7 (0 : Int64)) = 0
    · rw [if_pos c6] at h
      refine hq_izT rfl (hq_c_eq_T c6) ?_
      exact f_X11_inLeastTerms_J45_run hd h
    · rw [if_neg c6] at h
      refine hq_izF rfl (hq_c_eq_F c6) ?_
      refine hq_p 2 28 [some (.long j0), none, some (.long j2), none, some (.int a4), some (.long j5), none, some (.long j7), none, some (.int a9), o10, none] [.long j7, .long j5] (fun n h => rfl) ?_
      obtain ⟨x7, hx7, h⟩ := hq_bind h
      refine hq_lrem_ rfl hx7 ?_
      refine hq_p 7 9 [some (.long j0), none, some (.long j2), none, some (.int a4), some (.long j7), none, some (.long x7), none, some (.int (a9 + (1 : Int32))), some (.long x7), none] [] (fun n h => rfl) ?_
      exact e9 j0 j2 a4 j7 x7 (a9 + (1 : Int32)) _ s h
  · rw [if_neg c1] at h
    refine hq_icT rfl (hq_c_ge_T c1) ?_
    exact f_X11_inLeastTerms_J45_run hd h
theorem f_X11_inLeastTerms_L9_run {xs : List Int32} {n m d g : Nat} {j0 : Int64} {j2 : Int64} {a4 : Int32} {j5 : Int64} {j7 : Int64} {a9 : Int32} {o10 : Option Value} {s : hq_S} {y : (Int64 × hq_S)} (hd : 0 ≤ d) (h : f_X11_inLeastTerms_L9 n m j0 j2 a4 j5 j7 a9 s = some y) : hq_R (mm_O xs) d mc_X11_inLeastTerms 9 [some (.long j0), none, some (.long j2), none, some (.int a4), some (.long j5), none, some (.long j7), none, some (.int a9), o10, none] [] s g (some (.long y.1)) y.2 := by
  induction m generalizing j0 j2 a4 j5 j7 a9 o10 s with
  | zero => cases h
  | succ m ih => exact f_X11_inLeastTerms_L9_Brun (n := n) hd (fun j0 j2 a4 j5 j7 a9 o10 s h => ih h) h
def f_X11_inLeastTerms (n : Nat) (j0 : Int64) (j2 : Int64) (a4 : Int32) (s : hq_S) : Option (Int64 × hq_S) := f_X11_inLeastTerms_L9 n n j0 j2 a4 j2 j0 (0 : Int32) s
theorem f_X11_inLeastTerms_run {xs : List Int32} {n d g : Nat} {j0 : Int64} {j2 : Int64} {a4 : Int32} {s : hq_S} {y : (Int64 × hq_S)} (hd : 0 ≤ d) (h : f_X11_inLeastTerms n j0 j2 a4 s = some y) : hq_R (mm_O xs) d mc_X11_inLeastTerms 0 [some (.long j0), none, some (.long j2), none, some (.int a4), none, none, none, none, none, none, none] [] s g (some (.long y.1)) y.2 := by
  unfold f_X11_inLeastTerms at h
  refine hq_p 6 9 [some (.long j0), none, some (.long j2), none, some (.int a4), some (.long j2), none, some (.long j0), none, some (.int (0 : Int32)), none, none] [] (fun n h => rfl) ?_
  exact f_X11_inLeastTerms_L9_run hd h
def f_X11_drunk_J36 (n : Nat) (a1 : Int32) (a2 : Int32) (a3 : Int32) (a4 : Int32) (s : hq_S) : Option (Int64 × hq_S) := some ((-1 : Int64), s)
theorem f_X11_drunk_J36_run {xs : List Int32} {n d g : Nat} {a1 : Int32} {a2 : Int32} {a3 : Int32} {a4 : Int32} {s : hq_S} {y : (Int64 × hq_S)} (hd : 3 ≤ d) (h : f_X11_drunk_J36 n a1 a2 a3 a4 s = some y) : hq_R (mm_O xs) d mc_X11_drunk 36 [some (.ref 0), some (.int a1), some (.int a2), some (.int a3), some (.int a4), none, none] [] s g (some (.long y.1)) y.2 := by
  unfold f_X11_drunk_J36 at h
  refine hq_lc2 (-1 : Int64) rfl (by decide) ?_
  have h := Option.some.inj h
  subst h
  exact ⟨1, rfl⟩
def f_X11_drunk (n : Nat) (a1 : Int32) (a2 : Int32) (a3 : Int32) (a4 : Int32) (s : hq_S) : Option (Int64 × hq_S) := (f_X11_isCorner n a1 s).bind fun y1 => if y1.1 = 0 then f_X11_drunk_J36 n a1 a2 a3 a4 y1.2 else (f_X11_isCorner n a2 y1.2).bind fun y3 => if y3.1 = 0 then f_X11_drunk_J36 n a1 a2 a3 a4 y3.2 else if a3 < 0 then f_X11_drunk_J36 n a1 a2 a3 a4 y3.2 else if (4 : Int32) < a3 then f_X11_drunk_J36 n a1 a2 a3 a4 y3.2 else if a4 < 0 then f_X11_drunk_J36 n a1 a2 a3 a4 y3.2 else if (1 : Int32) < a4 then f_X11_drunk_J36 n a1 a2 a3 a4 y3.2 else (f_X8_drunkWeight n 103 a1 a2 a3 y3.2).bind fun y9 => (f_X11_power n (2520 : Int64) a3 y9.2).bind fun y10 => (f_X11_inLeastTerms n y9.1 y10.1 a4 y10.2).bind fun y11 => some (y11.1, y11.2)
theorem f_X11_drunk_run {xs : List Int32} {n d g : Nat} {a1 : Int32} {a2 : Int32} {a3 : Int32} {a4 : Int32} {s : hq_S} {y : (Int64 × hq_S)} (hd : 3 ≤ d) (h : f_X11_drunk n a1 a2 a3 a4 s = some y) : hq_R (mm_O xs) d mc_X11_drunk 0 [some (.ref 0), some (.int a1), some (.int a2), some (.int a3), some (.int a4), none, none] [] s g (some (.long y.1)) y.2 := by
  unfold f_X11_drunk at h
  refine hq_p 2 2 [some (.ref 0), some (.int a1), some (.int a2), some (.int a3), some (.int a4), none, none] [.int a1, .ref 0] (fun n h => rfl) ?_
  obtain ⟨y1, hy1, h⟩ := hq_bind h
  refine hq_inv rfl rfl (Nat.le_trans (by decide) hd) rfl rfl (hq_rcv rfl rfl) (f_X11_isCorner_run (Nat.le_sub_of_add_le (Nat.le_trans (by decide) hd)) hy1) rfl ?_
  by_cases c2 : y1.1 = 0
  · rw [if_pos c2] at h
    refine hq_izT rfl (hq_c_eq_T c2) ?_
    exact f_X11_drunk_J36_run hd h
  · rw [if_neg c2] at h
    refine hq_izF rfl (hq_c_eq_F c2) ?_
    refine hq_p 2 10 [some (.ref 0), some (.int a1), some (.int a2), some (.int a3), some (.int a4), none, none] [.int a2, .ref 0] (fun n h => rfl) ?_
    obtain ⟨y3, hy3, h⟩ := hq_bind h
    refine hq_inv rfl rfl (Nat.le_trans (by decide) hd) rfl rfl (hq_rcv rfl rfl) (f_X11_isCorner_run (Nat.le_sub_of_add_le (Nat.le_trans (by decide) hd)) hy3) rfl ?_
    by_cases c4 : y3.1 = 0
    · rw [if_pos c4] at h
      refine hq_izT rfl (hq_c_eq_T c4) ?_
      exact f_X11_drunk_J36_run hd h
    · rw [if_neg c4] at h
      refine hq_izF rfl (hq_c_eq_F c4) ?_
      refine hq_p 1 17 [some (.ref 0), some (.int a1), some (.int a2), some (.int a3), some (.int a4), none, none] [.int a3] (fun n h => rfl) ?_
      by_cases c5 : a3 < 0
      · rw [if_pos c5] at h
        refine hq_izT rfl (hq_c_lt_T c5) ?_
        exact f_X11_drunk_J36_run hd h
      · rw [if_neg c5] at h
        refine hq_izF rfl (hq_c_lt_F c5) ?_
        refine hq_p 2 22 [some (.ref 0), some (.int a1), some (.int a2), some (.int a3), some (.int a4), none, none] [.int (4 : Int32), .int a3] (fun n h => rfl) ?_
        by_cases c6 : (4 : Int32) < a3
        · rw [if_pos c6] at h
          refine hq_icT rfl (hq_c_gt_T c6) ?_
          exact f_X11_drunk_J36_run hd h
        · rw [if_neg c6] at h
          refine hq_icF rfl (hq_c_gt_F c6) ?_
          refine hq_p 1 27 [some (.ref 0), some (.int a1), some (.int a2), some (.int a3), some (.int a4), none, none] [.int a4] (fun n h => rfl) ?_
          by_cases c7 : a4 < 0
          · rw [if_pos c7] at h
            refine hq_izT rfl (hq_c_lt_T c7) ?_
            exact f_X11_drunk_J36_run hd h
          · rw [if_neg c7] at h
            refine hq_izF rfl (hq_c_lt_F c7) ?_
            refine hq_p 2 33 [some (.ref 0), some (.int a1), some (.int a2), some (.int a3), some (.int a4), none, none] [.int (1 : Int32), .int a4] (fun n h => rfl) ?_
            by_cases c8 : (1 : Int32) < a4
            · rw [if_pos c8] at h
              refine hq_icF rfl (hq_c_le_F c8) ?_
              exact f_X11_drunk_J36_run hd h
            · rw [if_neg c8] at h
              refine hq_icT rfl (hq_c_le_T c8) ?_
              refine hq_p 1 41 [some (.ref 0), some (.int a1), some (.int a2), some (.int a3), some (.int a4), none, none] [.ref 0] (fun n h => rfl) ?_
              refine hq_gf (x := .ref 103) rfl rfl rfl rfl rfl ?_
              refine hq_p 3 47 [some (.ref 0), some (.int a1), some (.int a2), some (.int a3), some (.int a4), none, none] [.int a3, .int a2, .int a1, .ref 103] (fun n h => rfl) ?_
              obtain ⟨y9, hy9, h⟩ := hq_bind h
              refine hq_inv rfl rfl (Nat.le_trans (by decide) hd) rfl rfl (hq_rcv (hq_shS (by decide)) rfl) (f_X8_drunkWeight_run (Nat.le_sub_of_add_le (Nat.le_trans (by decide) hd)) (by decide) hy9) rfl ?_
              refine hq_p 2 54 [some (.ref 0), some (.int a1), some (.int a2), some (.int a3), some (.int a4), some (.long y9.1), none] [.long y9.1] (fun n h => rfl) ?_
              refine hq_lc2 (2520 : Int64) rfl (by decide) ?_
              refine hq_p 1 58 [some (.ref 0), some (.int a1), some (.int a2), some (.int a3), some (.int a4), some (.long y9.1), none] [.int a3, .long (2520 : Int64), .long y9.1] (fun n h => rfl) ?_
              obtain ⟨y10, hy10, h⟩ := hq_bind h
              refine hq_ist rfl rfl rfl (Nat.le_trans (by decide) hd) rfl (f_X11_power_run (Nat.le_sub_of_add_le (Nat.le_trans (by decide) hd)) hy10) rfl ?_
              refine hq_p 1 63 [some (.ref 0), some (.int a1), some (.int a2), some (.int a3), some (.int a4), some (.long y9.1), none] [.int a4, .long y10.1, .long y9.1] (fun n h => rfl) ?_
              obtain ⟨y11, hy11, h⟩ := hq_bind h
              refine hq_ist rfl rfl rfl (Nat.le_trans (by decide) hd) rfl (f_X11_inLeastTerms_run (Nat.le_sub_of_add_le (Nat.le_trans (by decide) hd)) hy11) rfl ?_
              have h := Option.some.inj h
              subst h
              exact ⟨1, rfl⟩
def f_X11_thiefInRow (n : Nat) (a1 : Int32) (a2 : Int32) (s : hq_S) : Option (Int32 × hq_S) := if hq_isT (hq_gr s 0 2) then (f_X11_power n (5 : Int64) (((hq_gi s (hq_gr s 0 2) 7) - (1 : Int32)) - a2) s).bind fun y2 => if y2.1.toInt32 = 0 then some ((4 : Int32), y2.2) else (hq_idiv a1 y2.1.toInt32).bind fun x4 => (hq_irem x4 (5 : Int32)).bind fun x5 => some (x5, y2.2) else none
theorem f_X11_thiefInRow_run {xs : List Int32} {n d g : Nat} {a1 : Int32} {a2 : Int32} {s : hq_S} {y : (Int32 × hq_S)} (hd : 1 ≤ d) (h : f_X11_thiefInRow n a1 a2 s = some y) : hq_R (mm_O xs) d mc_X11_thiefInRow 0 [some (.ref 0), some (.int a1), some (.int a2), none] [] s g (some (.int y.1)) y.2 := by
  unfold f_X11_thiefInRow at h
  refine hq_lc2 (5 : Int64) rfl (by decide) ?_
  refine hq_p 1 4 [some (.ref 0), some (.int a1), some (.int a2), none] [.ref 0, .long (5 : Int64)] (fun n h => rfl) ?_
  refine hq_gf (x := .ref (hq_gr s 0 2)) rfl rfl rfl rfl rfl ?_
  have m1 : hq_isT (hq_gr s 0 2) := hq_ifT h
  rw [if_pos m1] at h
  refine hq_gf (x := .int (hq_gi s (hq_gr s 0 2) 7)) rfl (hq_shT m1) rfl rfl rfl ?_
  refine hq_p 4 14 [some (.ref 0), some (.int a1), some (.int a2), none] [.int (((hq_gi s (hq_gr s 0 2) 7) - (1 : Int32)) - a2), .long (5 : Int64)] (fun n h => rfl) ?_
  obtain ⟨y2, hy2, h⟩ := hq_bind h
  refine hq_ist rfl rfl rfl (Nat.le_trans (by decide) hd) rfl (f_X11_power_run (Nat.le_sub_of_add_le (Nat.le_trans (by decide) hd)) hy2) rfl ?_
  refine hq_p 3 20 [some (.ref 0), some (.int a1), some (.int a2), some (.int y2.1.toInt32)] [.int y2.1.toInt32] (fun n h => rfl) ?_
  by_cases c3 : y2.1.toInt32 = 0
  · rw [if_pos c3] at h
    refine hq_izF rfl (hq_c_ne_F c3) ?_
    refine hq_p 2 32 [some (.ref 0), some (.int a1), some (.int a2), some (.int y2.1.toInt32)] [.int (4 : Int32)] (fun n h => rfl) ?_
    have h := Option.some.inj h
    subst h
    exact ⟨1, rfl⟩
  · rw [if_neg c3] at h
    refine hq_izT rfl (hq_c_ne_T c3) ?_
    refine hq_p 2 29 [some (.ref 0), some (.int a1), some (.int a2), some (.int y2.1.toInt32)] [.int y2.1.toInt32, .int a1] (fun n h => rfl) ?_
    obtain ⟨x4, hx4, h⟩ := hq_bind h
    refine hq_idiv_ rfl hx4 ?_
    refine hq_p 1 31 [some (.ref 0), some (.int a1), some (.int a2), some (.int y2.1.toInt32)] [.int (5 : Int32), .int x4] (fun n h => rfl) ?_
    obtain ⟨x5, hx5, h⟩ := hq_bind h
    refine hq_irem_ rfl hx5 ?_
    have h := Option.some.inj h
    subst h
    exact ⟨1, rfl⟩
def f_X11_matchScore_J118 (n : Nat) (q10 : Int32 → Int32 → Int32 → Int32 → Int32 → hq_S → Option (Int32 × hq_S)) (a1 : Int32) (a2 : Int32) (a3 : Int32) (a4 : Int32) (a5 : Int32) (a6 : Int32) (s : hq_S) : Option (Int32 × hq_S) := q10 a1 a2 a3 a4 (a5 + (1 : Int32)) s
theorem f_X11_matchScore_J118_run {xs : List Int32} {n d g : Nat} {a1 : Int32} {a2 : Int32} {a3 : Int32} {a4 : Int32} {a5 : Int32} {a6 : Int32} {q10 : Int32 → Int32 → Int32 → Int32 → Int32 → hq_S → Option (Int32 × hq_S)} {s : hq_S} {y : (Int32 × hq_S)} (hd : 2 ≤ d) (e10 : ∀ (a1 : Int32) (a2 : Int32) (a3 : Int32) (a4 : Int32) (a5 : Int32) (o6 : Option Value) (s : hq_S), q10 a1 a2 a3 a4 a5 s = some y → hq_R (mm_O xs) d mc_X11_matchScore 10 [some (.ref 0), some (.int a1), some (.int a2), some (.int a3), some (.int a4), some (.int a5), o6] [] s g (some (.int y.1)) y.2) (h : f_X11_matchScore_J118 n q10 a1 a2 a3 a4 a5 a6 s = some y) : hq_R (mm_O xs) d mc_X11_matchScore 118 [some (.ref 0), some (.int a1), some (.int a2), some (.int a3), some (.int a4), some (.int a5), some (.int a6)] [] s g (some (.int y.1)) y.2 := by
  unfold f_X11_matchScore_J118 at h
  refine hq_p 2 10 [some (.ref 0), some (.int a1), some (.int a2), some (.int a3), some (.int a4), some (.int (a5 + (1 : Int32))), some (.int a6)] [] (fun n h => rfl) ?_
  exact e10 a1 a2 a3 a4 (a5 + (1 : Int32)) _ s h
def f_X11_matchScore_L10_B (n : Nat) (q10 : Int32 → Int32 → Int32 → Int32 → Int32 → hq_S → Option (Int32 × hq_S)) (a1 : Int32) (a2 : Int32) (a3 : Int32) (a4 : Int32) (a5 : Int32) (s : hq_S) : Option (Int32 × hq_S) := if hq_isT (hq_gr s 0 2) then if a5 < (hq_gi s (hq_gr s 0 2) 7) then (f_X11_thiefInRow n a1 a5 s).bind fun y3 => if y3.1 = (4 : Int32) then f_X11_matchScore_J118 n q10 a1 a2 a3 a4 a5 y3.1 y3.2 else if hq_isT (hq_gr y3.2 0 2) then if y3.1 < (hq_gi y3.2 (hq_gr y3.2 0 2) 11) then (f_X5_isFree n 76 y3.1 y3.2).bind fun y7 => if y7.1 = 0 then some ((-1 : Int32), y7.2) else if ((a2 >>> (y3.1 &&& 31)) &&& (1 : Int32)) = (1 : Int32) then some ((-1 : Int32), y7.2) else (hq_ld y7.2 78 3 a5).bind fun x10 => (hq_ld y7.2 81 4 y3.1).bind fun x11 => (f_X8_lanesBetween n 103 x10 x11 y7.2).bind fun y12 => f_X11_matchScore_J118 n q10 a1 (a2 ||| ((1 : Int32) <<< (y3.1 &&& 31))) (a3 + (1 : Int32)) (a4 + y12.1) a5 y3.1 y12.2 else some ((-1 : Int32), y3.2) else none else some ((((a3 * (1000 : Int32)) + (999 : Int32)) - a4), s) else none
def f_X11_matchScore_L10 (n : Nat) (m : Nat) : Int32 → Int32 → Int32 → Int32 → Int32 → hq_S → Option (Int32 × hq_S) := Nat.rec (fun _ _ _ _ _ _ => none) (fun _ q => f_X11_matchScore_L10_B n q) m
theorem f_X11_matchScore_L10_Brun {xs : List Int32} {n d g : Nat} {a1 : Int32} {a2 : Int32} {a3 : Int32} {a4 : Int32} {a5 : Int32} {o6 : Option Value} {q10 : Int32 → Int32 → Int32 → Int32 → Int32 → hq_S → Option (Int32 × hq_S)} {s : hq_S} {y : (Int32 × hq_S)} (hd : 2 ≤ d) (e10 : ∀ (a1 : Int32) (a2 : Int32) (a3 : Int32) (a4 : Int32) (a5 : Int32) (o6 : Option Value) (s : hq_S), q10 a1 a2 a3 a4 a5 s = some y → hq_R (mm_O xs) d mc_X11_matchScore 10 [some (.ref 0), some (.int a1), some (.int a2), some (.int a3), some (.int a4), some (.int a5), o6] [] s g (some (.int y.1)) y.2) (h : f_X11_matchScore_L10_B n q10 a1 a2 a3 a4 a5 s = some y) : hq_R (mm_O xs) d mc_X11_matchScore 10 [some (.ref 0), some (.int a1), some (.int a2), some (.int a3), some (.int a4), some (.int a5), o6] [] s g (some (.int y.1)) y.2 := by
  unfold f_X11_matchScore_L10_B at h
  refine hq_p 2 13 [some (.ref 0), some (.int a1), some (.int a2), some (.int a3), some (.int a4), some (.int a5), o6] [.ref 0, .int a5] (fun n h => rfl) ?_
  refine hq_gf (x := .ref (hq_gr s 0 2)) rfl rfl rfl rfl rfl ?_
  have m1 : hq_isT (hq_gr s 0 2) := hq_ifT h
  rw [if_pos m1] at h
  refine hq_gf (x := .int (hq_gi s (hq_gr s 0 2) 7)) rfl (hq_shT m1) rfl rfl rfl ?_
  by_cases c2 : a5 < (hq_gi s (hq_gr s 0 2) 7)
  · rw [if_pos c2] at h
    refine hq_icF rfl (hq_c_ge_F c2) ?_
    refine hq_p 3 26 [some (.ref 0), some (.int a1), some (.int a2), some (.int a3), some (.int a4), some (.int a5), o6] [.int a5, .int a1, .ref 0] (fun n h => rfl) ?_
    obtain ⟨y3, hy3, h⟩ := hq_bind h
    refine hq_inv rfl rfl (Nat.le_trans (by decide) hd) rfl rfl (hq_rcv rfl rfl) (f_X11_thiefInRow_run (Nat.le_sub_of_add_le (Nat.le_trans (by decide) hd)) hy3) rfl ?_
    refine hq_p 3 34 [some (.ref 0), some (.int a1), some (.int a2), some (.int a3), some (.int a4), some (.int a5), some (.int y3.1)] [.int (4 : Int32), .int y3.1] (fun n h => rfl) ?_
    by_cases c4 : y3.1 = (4 : Int32)
    · rw [if_pos c4] at h
      refine hq_icF rfl (hq_c_ne_F c4) ?_
      refine hq_p 1 118 [some (.ref 0), some (.int a1), some (.int a2), some (.int a3), some (.int a4), some (.int a5), some (.int y3.1)] [] (fun n h => rfl) ?_
      exact f_X11_matchScore_J118_run hd e10 h
    · rw [if_neg c4] at h
      refine hq_icT rfl (hq_c_ne_T c4) ?_
      refine hq_p 2 43 [some (.ref 0), some (.int a1), some (.int a2), some (.int a3), some (.int a4), some (.int a5), some (.int y3.1)] [.ref 0, .int y3.1] (fun n h => rfl) ?_
      refine hq_gf (x := .ref (hq_gr y3.2 0 2)) rfl rfl rfl rfl rfl ?_
      have m5 : hq_isT (hq_gr y3.2 0 2) := hq_ifT h
      rw [if_pos m5] at h
      refine hq_gf (x := .int (hq_gi y3.2 (hq_gr y3.2 0 2) 11)) rfl (hq_shT m5) rfl rfl rfl ?_
      by_cases c6 : y3.1 < (hq_gi y3.2 (hq_gr y3.2 0 2) 11)
      · rw [if_pos c6] at h
        refine hq_icF rfl (hq_c_ge_F c6) ?_
        refine hq_p 1 53 [some (.ref 0), some (.int a1), some (.int a2), some (.int a3), some (.int a4), some (.int a5), some (.int y3.1)] [.ref 0] (fun n h => rfl) ?_
        refine hq_gf (x := .ref 76) rfl rfl rfl rfl rfl ?_
        refine hq_p 1 58 [some (.ref 0), some (.int a1), some (.int a2), some (.int a3), some (.int a4), some (.int a5), some (.int y3.1)] [.int y3.1, .ref 76] (fun n h => rfl) ?_
        obtain ⟨y7, hy7, h⟩ := hq_bind h
        refine hq_inv rfl rfl (Nat.le_trans (by decide) hd) rfl rfl (hq_rcv (hq_shN (by decide)) rfl) (f_X5_isFree_run (Nat.le_sub_of_add_le (Nat.le_trans (by decide) hd)) (by decide) hy7) rfl ?_
        by_cases c8 : y7.1 = 0
        · rw [if_pos c8] at h
          refine hq_izT rfl (hq_c_eq_T c8) ?_
          refine hq_icn (-1 : Int32) rfl (by decide) ?_
          have h := Option.some.inj h
          subst h
          exact ⟨1, rfl⟩
        · rw [if_neg c8] at h
          refine hq_izF rfl (hq_c_eq_F c8) ?_
          refine hq_p 6 71 [some (.ref 0), some (.int a1), some (.int a2), some (.int a3), some (.int a4), some (.int a5), some (.int y3.1)] [.int (1 : Int32), .int ((a2 >>> (y3.1 &&& 31)) &&& (1 : Int32))] (fun n h => rfl) ?_
          by_cases c9 : ((a2 >>> (y3.1 &&& 31)) &&& (1 : Int32)) = (1 : Int32)
          · rw [if_pos c9] at h
            refine hq_icF rfl (hq_c_ne_F c9) ?_
            refine hq_icn (-1 : Int32) rfl (by decide) ?_
            have h := Option.some.inj h
            subst h
            exact ⟨1, rfl⟩
          · rw [if_neg c9] at h
            refine hq_icT rfl (hq_c_ne_T c9) ?_
            refine hq_p 9 89 [some (.ref 0), some (.int a1), some (.int (a2 ||| ((1 : Int32) <<< (y3.1 &&& 31)))), some (.int (a3 + (1 : Int32))), some (.int a4), some (.int a5), some (.int y3.1)] [.ref 0, .int a4] (fun n h => rfl) ?_
            refine hq_gf (x := .ref 103) rfl rfl rfl rfl rfl ?_
            refine hq_p 1 93 [some (.ref 0), some (.int a1), some (.int (a2 ||| ((1 : Int32) <<< (y3.1 &&& 31)))), some (.int (a3 + (1 : Int32))), some (.int a4), some (.int a5), some (.int y3.1)] [.ref 0, .ref 103, .int a4] (fun n h => rfl) ?_
            refine hq_gf (x := .ref 76) rfl rfl rfl rfl rfl ?_
            refine hq_gf (x := .ref 78) rfl rfl rfl rfl rfl ?_
            refine hq_p 1 101 [some (.ref 0), some (.int a1), some (.int (a2 ||| ((1 : Int32) <<< (y3.1 &&& 31)))), some (.int (a3 + (1 : Int32))), some (.int a4), some (.int a5), some (.int y3.1)] [.int a5, .ref 78, .ref 103, .int a4] (fun n h => rfl) ?_
            obtain ⟨x10, hx10, h⟩ := hq_bind h
            refine hq_iaload rfl rfl List.length_replicate hx10 ?_
            refine hq_p 1 103 [some (.ref 0), some (.int a1), some (.int (a2 ||| ((1 : Int32) <<< (y3.1 &&& 31)))), some (.int (a3 + (1 : Int32))), some (.int a4), some (.int a5), some (.int y3.1)] [.ref 0, .int x10, .ref 103, .int a4] (fun n h => rfl) ?_
            refine hq_gf (x := .ref 76) rfl rfl rfl rfl rfl ?_
            refine hq_gf (x := .ref 81) rfl rfl rfl rfl rfl ?_
            refine hq_p 1 111 [some (.ref 0), some (.int a1), some (.int (a2 ||| ((1 : Int32) <<< (y3.1 &&& 31)))), some (.int (a3 + (1 : Int32))), some (.int a4), some (.int a5), some (.int y3.1)] [.int y3.1, .ref 81, .int x10, .ref 103, .int a4] (fun n h => rfl) ?_
            obtain ⟨x11, hx11, h⟩ := hq_bind h
            refine hq_iaload rfl rfl List.length_replicate hx11 ?_
            obtain ⟨y12, hy12, h⟩ := hq_bind h
            refine hq_inv rfl rfl (Nat.le_trans (by decide) hd) rfl rfl (hq_rcv (hq_shS (by decide)) rfl) (f_X8_lanesBetween_run (Nat.le_sub_of_add_le (Nat.le_trans (by decide) hd)) (by decide) hy12) rfl ?_
            refine hq_p 2 118 [some (.ref 0), some (.int a1), some (.int (a2 ||| ((1 : Int32) <<< (y3.1 &&& 31)))), some (.int (a3 + (1 : Int32))), some (.int (a4 + y12.1)), some (.int a5), some (.int y3.1)] [] (fun n h => rfl) ?_
            exact f_X11_matchScore_J118_run hd e10 h
      · rw [if_neg c6] at h
        refine hq_icT rfl (hq_c_ge_T c6) ?_
        refine hq_icn (-1 : Int32) rfl (by decide) ?_
        have h := Option.some.inj h
        subst h
        exact ⟨1, rfl⟩
  · rw [if_neg c2] at h
    refine hq_icT rfl (hq_c_ge_T c2) ?_
    refine hq_p 1 125 [some (.ref 0), some (.int a1), some (.int a2), some (.int a3), some (.int a4), some (.int a5), o6] [.int a3] (fun n h => rfl) ?_
    refine hq_sip (1000 : Int32) rfl (by decide) ?_
    refine hq_p 1 129 [some (.ref 0), some (.int a1), some (.int a2), some (.int a3), some (.int a4), some (.int a5), o6] [.int (a3 * (1000 : Int32))] (fun n h => rfl) ?_
    refine hq_sip (999 : Int32) rfl (by decide) ?_
    refine hq_p 3 136 [some (.ref 0), some (.int a1), some (.int a2), some (.int a3), some (.int a4), some (.int a5), o6] [.int (((a3 * (1000 : Int32)) + (999 : Int32)) - a4)] (fun n h => rfl) ?_
    have h := Option.some.inj h
    subst h
    exact ⟨1, rfl⟩
theorem f_X11_matchScore_L10_run {xs : List Int32} {n m d g : Nat} {a1 : Int32} {a2 : Int32} {a3 : Int32} {a4 : Int32} {a5 : Int32} {o6 : Option Value} {s : hq_S} {y : (Int32 × hq_S)} (hd : 2 ≤ d) (h : f_X11_matchScore_L10 n m a1 a2 a3 a4 a5 s = some y) : hq_R (mm_O xs) d mc_X11_matchScore 10 [some (.ref 0), some (.int a1), some (.int a2), some (.int a3), some (.int a4), some (.int a5), o6] [] s g (some (.int y.1)) y.2 := by
  induction m generalizing a1 a2 a3 a4 a5 o6 s with
  | zero => cases h
  | succ m ih => exact f_X11_matchScore_L10_Brun (n := n) hd (fun a1 a2 a3 a4 a5 o6 s h => ih h) h
def f_X11_matchScore (n : Nat) (a1 : Int32) (s : hq_S) : Option (Int32 × hq_S) := f_X11_matchScore_L10 n n a1 (0 : Int32) (0 : Int32) (0 : Int32) (0 : Int32) s
theorem f_X11_matchScore_run {xs : List Int32} {n d g : Nat} {a1 : Int32} {s : hq_S} {y : (Int32 × hq_S)} (hd : 2 ≤ d) (h : f_X11_matchScore n a1 s = some y) : hq_R (mm_O xs) d mc_X11_matchScore 0 [some (.ref 0), some (.int a1), none, none, none, none, none] [] s g (some (.int y.1)) y.2 := by
  unfold f_X11_matchScore at h
  refine hq_p 8 10 [some (.ref 0), some (.int a1), some (.int (0 : Int32)), some (.int (0 : Int32)), some (.int (0 : Int32)), some (.int (0 : Int32)), none] [] (fun n h => rfl) ?_
  exact f_X11_matchScore_L10_run hd h
def f_X11_bestMatch_L24_B (n : Nat) (q24 : Int32 → Int32 → Int32 → Int32 → hq_S → Option (Int32 × hq_S)) (a1 : Int32) (a2 : Int32) (a3 : Int32) (a4 : Int32) (s : hq_S) : Option (Int32 × hq_S) := if a4 < a1 then (f_X11_matchScore n a4 s).bind fun y4 => (if a3 < y4.1 then some (a4, y4.1) else some (a2, a3)).bind fun z5 => q24 a1 z5.1 z5.2 (a4 + (1 : Int32)) y4.2 else some (a2, s)
def f_X11_bestMatch_L24 (n : Nat) (m : Nat) : Int32 → Int32 → Int32 → Int32 → hq_S → Option (Int32 × hq_S) := Nat.rec (fun _ _ _ _ _ => none) (fun _ q => f_X11_bestMatch_L24_B n q) m
theorem f_X11_bestMatch_L24_Brun {xs : List Int32} {n d g : Nat} {a1 : Int32} {a2 : Int32} {a3 : Int32} {a4 : Int32} {o5 : Option Value} {q24 : Int32 → Int32 → Int32 → Int32 → hq_S → Option (Int32 × hq_S)} {s : hq_S} {y : (Int32 × hq_S)} (hd : 3 ≤ d) (e24 : ∀ (a1 : Int32) (a2 : Int32) (a3 : Int32) (a4 : Int32) (o5 : Option Value) (s : hq_S), q24 a1 a2 a3 a4 s = some y → hq_R (mm_O xs) d mc_X11_bestMatch 24 [some (.ref 0), some (.int a1), some (.int a2), some (.int a3), some (.int a4), o5] [] s g (some (.int y.1)) y.2) (h : f_X11_bestMatch_L24_B n q24 a1 a2 a3 a4 s = some y) : hq_R (mm_O xs) d mc_X11_bestMatch 24 [some (.ref 0), some (.int a1), some (.int a2), some (.int a3), some (.int a4), o5] [] s g (some (.int y.1)) y.2 := by
  unfold f_X11_bestMatch_L24_B at h
  refine hq_p 2 27 [some (.ref 0), some (.int a1), some (.int a2), some (.int a3), some (.int a4), o5] [.int a1, .int a4] (fun n h => rfl) ?_
  by_cases c3 : a4 < a1
  · rw [if_pos c3] at h
    refine hq_icF rfl (hq_c_ge_F c3) ?_
    refine hq_p 2 33 [some (.ref 0), some (.int a1), some (.int a2), some (.int a3), some (.int a4), o5] [.int a4, .ref 0] (fun n h => rfl) ?_
    obtain ⟨y4, hy4, h⟩ := hq_bind h
    refine hq_inv rfl rfl (Nat.le_trans (by decide) hd) rfl rfl (hq_rcv rfl rfl) (f_X11_matchScore_run (Nat.le_sub_of_add_le (Nat.le_trans (by decide) hd)) hy4) rfl ?_
    refine hq_p 3 41 [some (.ref 0), some (.int a1), some (.int a2), some (.int a3), some (.int a4), some (.int y4.1)] [.int a3, .int y4.1] (fun n h => rfl) ?_
    obtain ⟨z5, hz5, h⟩ := hq_bind h
    suffices hT : hq_R (mm_O xs) d mc_X11_bestMatch 50 [some (.ref 0), some (.int a1), some (.int z5.1), some (.int z5.2), some (.int a4), some (.int y4.1)] [] y4.2 g (some (.int y.1)) y.2 from by
      clear h
      have h := hz5
      by_cases c6 : a3 < y4.1
      · rw [if_pos c6] at h
        refine hq_icF rfl (hq_c_le_F c6) ?_
        refine hq_p 4 50 [some (.ref 0), some (.int a1), some (.int a4), some (.int y4.1), some (.int a4), some (.int y4.1)] [] (fun n h => rfl) ?_
        cases h
        exact hT
      · rw [if_neg c6] at h
        refine hq_icT rfl (hq_c_le_T c6) ?_
        cases h
        exact hT
    refine hq_p 2 24 [some (.ref 0), some (.int a1), some (.int z5.1), some (.int z5.2), some (.int (a4 + (1 : Int32))), some (.int y4.1)] [] (fun n h => rfl) ?_
    exact e24 a1 z5.1 z5.2 (a4 + (1 : Int32)) _ y4.2 h
  · rw [if_neg c3] at h
    refine hq_icT rfl (hq_c_ge_T c3) ?_
    refine hq_p 1 57 [some (.ref 0), some (.int a1), some (.int a2), some (.int a3), some (.int a4), o5] [.int a2] (fun n h => rfl) ?_
    have h := Option.some.inj h
    subst h
    exact ⟨1, rfl⟩
theorem f_X11_bestMatch_L24_run {xs : List Int32} {n m d g : Nat} {a1 : Int32} {a2 : Int32} {a3 : Int32} {a4 : Int32} {o5 : Option Value} {s : hq_S} {y : (Int32 × hq_S)} (hd : 3 ≤ d) (h : f_X11_bestMatch_L24 n m a1 a2 a3 a4 s = some y) : hq_R (mm_O xs) d mc_X11_bestMatch 24 [some (.ref 0), some (.int a1), some (.int a2), some (.int a3), some (.int a4), o5] [] s g (some (.int y.1)) y.2 := by
  induction m generalizing a1 a2 a3 a4 o5 s with
  | zero => cases h
  | succ m ih => exact f_X11_bestMatch_L24_Brun (n := n) hd (fun a1 a2 a3 a4 o5 s h => ih h) h
def f_X11_bestMatch (n : Nat) (s : hq_S) : Option (Int32 × hq_S) := if hq_isT (hq_gr s 0 2) then (f_X11_power n (5 : Int64) (hq_gi s (hq_gr s 0 2) 7) s).bind fun y2 => f_X11_bestMatch_L24 n n y2.1.toInt32 (y2.1.toInt32 - (1 : Int32)) (-1 : Int32) (0 : Int32) y2.2 else none
theorem f_X11_bestMatch_run {xs : List Int32} {n d g : Nat} {s : hq_S} {y : (Int32 × hq_S)} (hd : 3 ≤ d) (h : f_X11_bestMatch n s = some y) : hq_R (mm_O xs) d mc_X11_bestMatch 0 [some (.ref 0), none, none, none, none, none] [] s g (some (.int y.1)) y.2 := by
  unfold f_X11_bestMatch at h
  refine hq_lc2 (5 : Int64) rfl (by decide) ?_
  refine hq_p 1 4 [some (.ref 0), none, none, none, none, none] [.ref 0, .long (5 : Int64)] (fun n h => rfl) ?_
  refine hq_gf (x := .ref (hq_gr s 0 2)) rfl rfl rfl rfl rfl ?_
  have m1 : hq_isT (hq_gr s 0 2) := hq_ifT h
  rw [if_pos m1] at h
  refine hq_gf (x := .int (hq_gi s (hq_gr s 0 2) 7)) rfl (hq_shT m1) rfl rfl rfl ?_
  obtain ⟨y2, hy2, h⟩ := hq_bind h
  refine hq_ist rfl rfl rfl (Nat.le_trans (by decide) hd) rfl (f_X11_power_run (Nat.le_sub_of_add_le (Nat.le_trans (by decide) hd)) hy2) rfl ?_
  refine hq_p 6 19 [some (.ref 0), some (.int y2.1.toInt32), some (.int (y2.1.toInt32 - (1 : Int32))), none, none, none] [] (fun n h => rfl) ?_
  refine hq_icn (-1 : Int32) rfl (by decide) ?_
  refine hq_p 3 24 [some (.ref 0), some (.int y2.1.toInt32), some (.int (y2.1.toInt32 - (1 : Int32))), some (.int (-1 : Int32)), some (.int (0 : Int32)), none] [] (fun n h => rfl) ?_
  exact f_X11_bestMatch_L24_run hd h
def f_X11_match (n : Nat) (a1 : Int32) (s : hq_S) : Option (Int32 × hq_S) := if a1 < 0 then some ((-1 : Int32), s) else if (4 : Int32) < a1 then some ((-1 : Int32), s) else (f_X11_bestMatch n s).bind fun y3 => (f_X11_matchScore n y3.1 y3.2).bind fun y4 => if a1 = (3 : Int32) then (hq_idiv y4.1 (1000 : Int32)).bind fun x12 => some (x12, y4.2) else if a1 = (4 : Int32) then (hq_irem y4.1 (1000 : Int32)).bind fun x11 => some (((999 : Int32) - x11), y4.2) else if hq_isT (hq_gr y4.2 0 2) then if a1 < (hq_gi y4.2 (hq_gr y4.2 0 2) 7) then (f_X11_thiefInRow n y3.1 a1 y4.2).bind fun y9 => if y9.1 = (4 : Int32) then some ((-2 : Int32), y9.2) else some (y9.1, y9.2) else some ((-2 : Int32), y4.2) else none
theorem f_X11_match_run {xs : List Int32} {n d g : Nat} {a1 : Int32} {s : hq_S} {y : (Int32 × hq_S)} (hd : 4 ≤ d) (h : f_X11_match n a1 s = some y) : hq_R (mm_O xs) d mc_X11_match 0 [some (.ref 0), some (.int a1), none, none, none] [] s g (some (.int y.1)) y.2 := by
  unfold f_X11_match at h
  refine hq_p 1 1 [some (.ref 0), some (.int a1), none, none, none] [.int a1] (fun n h => rfl) ?_
  by_cases c1 : a1 < 0
  · rw [if_pos c1] at h
    refine hq_izT rfl (hq_c_lt_T c1) ?_
    refine hq_icn (-1 : Int32) rfl (by decide) ?_
    have h := Option.some.inj h
    subst h
    exact ⟨1, rfl⟩
  · rw [if_neg c1] at h
    refine hq_izF rfl (hq_c_lt_F c1) ?_
    refine hq_p 2 6 [some (.ref 0), some (.int a1), none, none, none] [.int (4 : Int32), .int a1] (fun n h => rfl) ?_
    by_cases c2 : (4 : Int32) < a1
    · rw [if_pos c2] at h
      refine hq_icF rfl (hq_c_le_F c2) ?_
      refine hq_icn (-1 : Int32) rfl (by decide) ?_
      have h := Option.some.inj h
      subst h
      exact ⟨1, rfl⟩
    · rw [if_neg c2] at h
      refine hq_icT rfl (hq_c_le_T c2) ?_
      refine hq_p 1 12 [some (.ref 0), some (.int a1), none, none, none] [.ref 0] (fun n h => rfl) ?_
      obtain ⟨y3, hy3, h⟩ := hq_bind h
      refine hq_inv rfl rfl (Nat.le_trans (by decide) hd) rfl rfl (hq_rcv rfl rfl) (f_X11_bestMatch_run (Nat.le_sub_of_add_le (Nat.le_trans (by decide) hd)) hy3) rfl ?_
      refine hq_p 3 18 [some (.ref 0), some (.int a1), some (.int y3.1), none, none] [.int y3.1, .ref 0] (fun n h => rfl) ?_
      obtain ⟨y4, hy4, h⟩ := hq_bind h
      refine hq_inv rfl rfl (Nat.le_trans (by decide) hd) rfl rfl (hq_rcv rfl rfl) (f_X11_matchScore_run (Nat.le_sub_of_add_le (Nat.le_trans (by decide) hd)) hy4) rfl ?_
      refine hq_p 3 24 [some (.ref 0), some (.int a1), some (.int y3.1), some (.int y4.1), none] [.int (3 : Int32), .int a1] (fun n h => rfl) ?_
      by_cases c5 : a1 = (3 : Int32)
      · rw [if_pos c5] at h
        refine hq_icF rfl (hq_c_ne_F c5) ?_
        refine hq_p 1 28 [some (.ref 0), some (.int a1), some (.int y3.1), some (.int y4.1), none] [.int y4.1] (fun n h => rfl) ?_
        refine hq_sip (1000 : Int32) rfl (by decide) ?_
        obtain ⟨x12, hx12, h⟩ := hq_bind h
        refine hq_idiv_ rfl hx12 ?_
        have h := Option.some.inj h
        subst h
        exact ⟨1, rfl⟩
      · rw [if_neg c5] at h
        refine hq_icT rfl (hq_c_ne_T c5) ?_
        refine hq_p 2 35 [some (.ref 0), some (.int a1), some (.int y3.1), some (.int y4.1), none] [.int (4 : Int32), .int a1] (fun n h => rfl) ?_
        by_cases c6 : a1 = (4 : Int32)
        · rw [if_pos c6] at h
          refine hq_icF rfl (hq_c_ne_F c6) ?_
          refine hq_sip (999 : Int32) rfl (by decide) ?_
          refine hq_p 1 42 [some (.ref 0), some (.int a1), some (.int y3.1), some (.int y4.1), none] [.int y4.1, .int (999 : Int32)] (fun n h => rfl) ?_
          refine hq_sip (1000 : Int32) rfl (by decide) ?_
          obtain ⟨x11, hx11, h⟩ := hq_bind h
          refine hq_irem_ rfl hx11 ?_
          refine hq_p 1 47 [some (.ref 0), some (.int a1), some (.int y3.1), some (.int y4.1), none] [.int ((999 : Int32) - x11)] (fun n h => rfl) ?_
          have h := Option.some.inj h
          subst h
          exact ⟨1, rfl⟩
        · rw [if_neg c6] at h
          refine hq_icT rfl (hq_c_ne_T c6) ?_
          refine hq_p 2 50 [some (.ref 0), some (.int a1), some (.int y3.1), some (.int y4.1), none] [.ref 0, .int a1] (fun n h => rfl) ?_
          refine hq_gf (x := .ref (hq_gr y4.2 0 2)) rfl rfl rfl rfl rfl ?_
          have m7 : hq_isT (hq_gr y4.2 0 2) := hq_ifT h
          rw [if_pos m7] at h
          refine hq_gf (x := .int (hq_gi y4.2 (hq_gr y4.2 0 2) 7)) rfl (hq_shT m7) rfl rfl rfl ?_
          by_cases c8 : a1 < (hq_gi y4.2 (hq_gr y4.2 0 2) 7)
          · rw [if_pos c8] at h
            refine hq_icT rfl (hq_c_lt_T c8) ?_
            refine hq_p 3 65 [some (.ref 0), some (.int a1), some (.int y3.1), some (.int y4.1), none] [.int a1, .int y3.1, .ref 0] (fun n h => rfl) ?_
            obtain ⟨y9, hy9, h⟩ := hq_bind h
            refine hq_inv rfl rfl (Nat.le_trans (by decide) hd) rfl rfl (hq_rcv rfl rfl) (f_X11_thiefInRow_run (Nat.le_sub_of_add_le (Nat.le_trans (by decide) hd)) hy9) rfl ?_
            refine hq_p 3 73 [some (.ref 0), some (.int a1), some (.int y3.1), some (.int y4.1), some (.int y9.1)] [.int (4 : Int32), .int y9.1] (fun n h => rfl) ?_
            by_cases c10 : y9.1 = (4 : Int32)
            · rw [if_pos c10] at h
              refine hq_icF rfl (hq_c_ne_F c10) ?_
              refine hq_bip (-2 : Int32) rfl (by decide) ?_
              refine hq_p 1 83 [some (.ref 0), some (.int a1), some (.int y3.1), some (.int y4.1), some (.int y9.1)] [.int (-2 : Int32)] (fun n h => rfl) ?_
              have h := Option.some.inj h
              subst h
              exact ⟨1, rfl⟩
            · rw [if_neg c10] at h
              refine hq_icT rfl (hq_c_ne_T c10) ?_
              refine hq_p 1 83 [some (.ref 0), some (.int a1), some (.int y3.1), some (.int y4.1), some (.int y9.1)] [.int y9.1] (fun n h => rfl) ?_
              have h := Option.some.inj h
              subst h
              exact ⟨1, rfl⟩
          · rw [if_neg c8] at h
            refine hq_icF rfl (hq_c_lt_F c8) ?_
            refine hq_bip (-2 : Int32) rfl (by decide) ?_
            have h := Option.some.inj h
            subst h
            exact ⟨1, rfl⟩
def f_X11_gain (n : Nat) (a1 : Int32) (a2 : Int32) (a3 : Int32) (a4 : Int32) (s : hq_S) : Option (Int32 × hq_S) := if a3 = 0 then if a4 = 0 then (hq_ld s 82 4 a1).bind fun x7 => (hq_idiv x7 (4 : Int32)).bind fun x8 => some (((3 : Int32) - x8), s) else some ((5 : Int32), s) else if a4 = 0 then some ((0 : Int32), s) else (hq_ld s 83 4 a1).bind fun x3 => (hq_ld s 83 4 a2).bind fun x4 => (hq_idiv (x3 + x4) (100 : Int32)).bind fun x5 => some (((4 : Int32) + x5), s)
theorem f_X11_gain_run {xs : List Int32} {n d g : Nat} {a1 : Int32} {a2 : Int32} {a3 : Int32} {a4 : Int32} {s : hq_S} {y : (Int32 × hq_S)} (hd : 0 ≤ d) (h : f_X11_gain n a1 a2 a3 a4 s = some y) : hq_R (mm_O xs) d mc_X11_gain 0 [some (.ref 0), some (.int a1), some (.int a2), some (.int a3), some (.int a4)] [] s g (some (.int y.1)) y.2 := by
  unfold f_X11_gain at h
  refine hq_p 1 1 [some (.ref 0), some (.int a1), some (.int a2), some (.int a3), some (.int a4)] [.int a3] (fun n h => rfl) ?_
  by_cases c1 : a3 = 0
  · rw [if_pos c1] at h
    refine hq_izF rfl (hq_c_ne_F c1) ?_
    refine hq_p 1 6 [some (.ref 0), some (.int a1), some (.int a2), some (.int a3), some (.int a4)] [.int a4] (fun n h => rfl) ?_
    by_cases c6 : a4 = 0
    · rw [if_pos c6] at h
      refine hq_izF rfl (hq_c_ne_F c6) ?_
      refine hq_p 2 11 [some (.ref 0), some (.int a1), some (.int a2), some (.int a3), some (.int a4)] [.ref 0, .int (3 : Int32)] (fun n h => rfl) ?_
      refine hq_gf (x := .ref 76) rfl rfl rfl rfl rfl ?_
      refine hq_gf (x := .ref 82) rfl rfl rfl rfl rfl ?_
      refine hq_p 1 18 [some (.ref 0), some (.int a1), some (.int a2), some (.int a3), some (.int a4)] [.int a1, .ref 82, .int (3 : Int32)] (fun n h => rfl) ?_
      obtain ⟨x7, hx7, h⟩ := hq_bind h
      refine hq_iaload rfl rfl List.length_replicate hx7 ?_
      refine hq_p 1 20 [some (.ref 0), some (.int a1), some (.int a2), some (.int a3), some (.int a4)] [.int (4 : Int32), .int x7, .int (3 : Int32)] (fun n h => rfl) ?_
      obtain ⟨x8, hx8, h⟩ := hq_bind h
      refine hq_idiv_ rfl hx8 ?_
      refine hq_p 2 26 [some (.ref 0), some (.int a1), some (.int a2), some (.int a3), some (.int a4)] [.int ((3 : Int32) - x8)] (fun n h => rfl) ?_
      have h := Option.some.inj h
      subst h
      exact ⟨1, rfl⟩
    · rw [if_neg c6] at h
      refine hq_izT rfl (hq_c_ne_T c6) ?_
      refine hq_p 1 26 [some (.ref 0), some (.int a1), some (.int a2), some (.int a3), some (.int a4)] [.int (5 : Int32)] (fun n h => rfl) ?_
      have h := Option.some.inj h
      subst h
      exact ⟨1, rfl⟩
  · rw [if_neg c1] at h
    refine hq_izT rfl (hq_c_ne_T c1) ?_
    refine hq_p 1 29 [some (.ref 0), some (.int a1), some (.int a2), some (.int a3), some (.int a4)] [.int a4] (fun n h => rfl) ?_
    by_cases c2 : a4 = 0
    · rw [if_pos c2] at h
      refine hq_izF rfl (hq_c_ne_F c2) ?_
      refine hq_p 2 60 [some (.ref 0), some (.int a1), some (.int a2), some (.int a3), some (.int a4)] [.int (0 : Int32)] (fun n h => rfl) ?_
      have h := Option.some.inj h
      subst h
      exact ⟨1, rfl⟩
    · rw [if_neg c2] at h
      refine hq_izT rfl (hq_c_ne_T c2) ?_
      refine hq_p 2 38 [some (.ref 0), some (.int a1), some (.int a2), some (.int a3), some (.int a4)] [.ref 0, .int (4 : Int32)] (fun n h => rfl) ?_
      refine hq_gf (x := .ref 76) rfl rfl rfl rfl rfl ?_
      refine hq_gf (x := .ref 83) rfl rfl rfl rfl rfl ?_
      refine hq_p 1 45 [some (.ref 0), some (.int a1), some (.int a2), some (.int a3), some (.int a4)] [.int a1, .ref 83, .int (4 : Int32)] (fun n h => rfl) ?_
      obtain ⟨x3, hx3, h⟩ := hq_bind h
      refine hq_iaload rfl rfl List.length_replicate hx3 ?_
      refine hq_p 1 47 [some (.ref 0), some (.int a1), some (.int a2), some (.int a3), some (.int a4)] [.ref 0, .int x3, .int (4 : Int32)] (fun n h => rfl) ?_
      refine hq_gf (x := .ref 76) rfl rfl rfl rfl rfl ?_
      refine hq_gf (x := .ref 83) rfl rfl rfl rfl rfl ?_
      refine hq_p 1 54 [some (.ref 0), some (.int a1), some (.int a2), some (.int a3), some (.int a4)] [.int a2, .ref 83, .int x3, .int (4 : Int32)] (fun n h => rfl) ?_
      obtain ⟨x4, hx4, h⟩ := hq_bind h
      refine hq_iaload rfl rfl List.length_replicate hx4 ?_
      refine hq_p 1 56 [some (.ref 0), some (.int a1), some (.int a2), some (.int a3), some (.int a4)] [.int (x3 + x4), .int (4 : Int32)] (fun n h => rfl) ?_
      refine hq_bip (100 : Int32) rfl (by decide) ?_
      obtain ⟨x5, hx5, h⟩ := hq_bind h
      refine hq_idiv_ rfl hx5 ?_
      refine hq_p 1 60 [some (.ref 0), some (.int a1), some (.int a2), some (.int a3), some (.int a4)] [.int ((4 : Int32) + x5)] (fun n h => rfl) ?_
      have h := Option.some.inj h
      subst h
      exact ⟨1, rfl⟩
def f_X11_isRest (n : Nat) (a1 : Int32) (a2 : Int32) (a3 : Int32) (s : hq_S) : Option (Int32 × hq_S) := (hq_idiv a3 (2 : Int32)).bind fun x1 => (hq_irem a3 (2 : Int32)).bind fun x2 => (f_X11_gain n a1 a2 x1 x2 s).bind fun y3 => (f_X11_gain n a1 a2 ((1 : Int32) - x1) x2 y3.2).bind fun y4 => if y3.1 < y4.1 then some ((0 : Int32), y4.2) else (f_X11_gain n a2 a1 x2 x1 y4.2).bind fun y6 => (f_X11_gain n a2 a1 ((1 : Int32) - x2) x1 y6.2).bind fun y7 => if y6.1 < y7.1 then some ((0 : Int32), y7.2) else some ((1 : Int32), y7.2)
theorem f_X11_isRest_run {xs : List Int32} {n d g : Nat} {a1 : Int32} {a2 : Int32} {a3 : Int32} {s : hq_S} {y : (Int32 × hq_S)} (hd : 1 ≤ d) (h : f_X11_isRest n a1 a2 a3 s = some y) : hq_R (mm_O xs) d mc_X11_isRest 0 [some (.ref 0), some (.int a1), some (.int a2), some (.int a3), none, none] [] s g (some (.int y.1)) y.2 := by
  unfold f_X11_isRest at h
  refine hq_p 2 2 [some (.ref 0), some (.int a1), some (.int a2), some (.int a3), none, none] [.int (2 : Int32), .int a3] (fun n h => rfl) ?_
  obtain ⟨x1, hx1, h⟩ := hq_bind h
  refine hq_idiv_ rfl hx1 ?_
  refine hq_p 3 7 [some (.ref 0), some (.int a1), some (.int a2), some (.int a3), some (.int x1), none] [.int (2 : Int32), .int a3] (fun n h => rfl) ?_
  obtain ⟨x2, hx2, h⟩ := hq_bind h
  refine hq_irem_ rfl hx2 ?_
  refine hq_p 6 17 [some (.ref 0), some (.int a1), some (.int a2), some (.int a3), some (.int x1), some (.int x2)] [.int x2, .int x1, .int a2, .int a1, .ref 0] (fun n h => rfl) ?_
  obtain ⟨y3, hy3, h⟩ := hq_bind h
  refine hq_inv rfl rfl (Nat.le_trans (by decide) hd) rfl rfl (hq_rcv rfl rfl) (f_X11_gain_run (Nat.le_sub_of_add_le (Nat.le_trans (by decide) hd)) hy3) rfl ?_
  refine hq_p 7 29 [some (.ref 0), some (.int a1), some (.int a2), some (.int a3), some (.int x1), some (.int x2)] [.int x2, .int ((1 : Int32) - x1), .int a2, .int a1, .ref 0, .int y3.1] (fun n h => rfl) ?_
  obtain ⟨y4, hy4, h⟩ := hq_bind h
  refine hq_inv rfl rfl (Nat.le_trans (by decide) hd) rfl rfl (hq_rcv rfl rfl) (f_X11_gain_run (Nat.le_sub_of_add_le (Nat.le_trans (by decide) hd)) hy4) rfl ?_
  by_cases c5 : y3.1 < y4.1
  · rw [if_pos c5] at h
    refine hq_icT rfl (hq_c_lt_T c5) ?_
    refine hq_p 1 65 [some (.ref 0), some (.int a1), some (.int a2), some (.int a3), some (.int x1), some (.int x2)] [.int (0 : Int32)] (fun n h => rfl) ?_
    have h := Option.some.inj h
    subst h
    exact ⟨1, rfl⟩
  · rw [if_neg c5] at h
    refine hq_icF rfl (hq_c_lt_F c5) ?_
    refine hq_p 5 42 [some (.ref 0), some (.int a1), some (.int a2), some (.int a3), some (.int x1), some (.int x2)] [.int x1, .int x2, .int a1, .int a2, .ref 0] (fun n h => rfl) ?_
    obtain ⟨y6, hy6, h⟩ := hq_bind h
    refine hq_inv rfl rfl (Nat.le_trans (by decide) hd) rfl rfl (hq_rcv rfl rfl) (f_X11_gain_run (Nat.le_sub_of_add_le (Nat.le_trans (by decide) hd)) hy6) rfl ?_
    refine hq_p 7 54 [some (.ref 0), some (.int a1), some (.int a2), some (.int a3), some (.int x1), some (.int x2)] [.int x1, .int ((1 : Int32) - x2), .int a1, .int a2, .ref 0, .int y6.1] (fun n h => rfl) ?_
    obtain ⟨y7, hy7, h⟩ := hq_bind h
    refine hq_inv rfl rfl (Nat.le_trans (by decide) hd) rfl rfl (hq_rcv rfl rfl) (f_X11_gain_run (Nat.le_sub_of_add_le (Nat.le_trans (by decide) hd)) hy7) rfl ?_
    by_cases c8 : y6.1 < y7.1
    · rw [if_pos c8] at h
      refine hq_icT rfl (hq_c_lt_T c8) ?_
      refine hq_p 1 65 [some (.ref 0), some (.int a1), some (.int a2), some (.int a3), some (.int x1), some (.int x2)] [.int (0 : Int32)] (fun n h => rfl) ?_
      have h := Option.some.inj h
      subst h
      exact ⟨1, rfl⟩
    · rw [if_neg c8] at h
      refine hq_icF rfl (hq_c_lt_F c8) ?_
      refine hq_p 2 65 [some (.ref 0), some (.int a1), some (.int a2), some (.int a3), some (.int x1), some (.int x2)] [.int (1 : Int32)] (fun n h => rfl) ?_
      have h := Option.some.inj h
      subst h
      exact ⟨1, rfl⟩
def f_X11_rests_L28_B (n : Nat) (q28 : Int32 → Int32 → Int32 → Int32 → hq_S → Option (Int32 × hq_S)) (a1 : Int32) (a2 : Int32) (a3 : Int32) (a4 : Int32) (s : hq_S) : Option (Int32 × hq_S) := if a4 < (4 : Int32) then (f_X11_isRest n a1 a2 a4 s).bind fun y7 => (if y7.1 = 0 then some (0 : Int32) else some (1 : Int32)).bind fun z8 => q28 a1 a2 (a3 + z8) (a4 + (1 : Int32)) y7.2 else some (a3, s)
def f_X11_rests_L28 (n : Nat) (m : Nat) : Int32 → Int32 → Int32 → Int32 → hq_S → Option (Int32 × hq_S) := Nat.rec (fun _ _ _ _ _ => none) (fun _ q => f_X11_rests_L28_B n q) m
theorem f_X11_rests_L28_Brun {xs : List Int32} {n d g : Nat} {a1 : Int32} {a2 : Int32} {a3 : Int32} {a4 : Int32} {q28 : Int32 → Int32 → Int32 → Int32 → hq_S → Option (Int32 × hq_S)} {s : hq_S} {y : (Int32 × hq_S)} (hd : 2 ≤ d) (e28 : ∀ (a1 : Int32) (a2 : Int32) (a3 : Int32) (a4 : Int32) (s : hq_S), q28 a1 a2 a3 a4 s = some y → hq_R (mm_O xs) d mc_X11_rests 28 [some (.ref 0), some (.int a1), some (.int a2), some (.int a3), some (.int a4)] [] s g (some (.int y.1)) y.2) (h : f_X11_rests_L28_B n q28 a1 a2 a3 a4 s = some y) : hq_R (mm_O xs) d mc_X11_rests 28 [some (.ref 0), some (.int a1), some (.int a2), some (.int a3), some (.int a4)] [] s g (some (.int y.1)) y.2 := by
  unfold f_X11_rests_L28_B at h
  refine hq_p 2 31 [some (.ref 0), some (.int a1), some (.int a2), some (.int a3), some (.int a4)] [.int (4 : Int32), .int a4] (fun n h => rfl) ?_
  by_cases c6 : a4 < (4 : Int32)
  · rw [if_pos c6] at h
    refine hq_icF rfl (hq_c_ge_F c6) ?_
    refine hq_p 5 40 [some (.ref 0), some (.int a1), some (.int a2), some (.int a3), some (.int a4)] [.int a4, .int a2, .int a1, .ref 0, .int a3] (fun n h => rfl) ?_
    obtain ⟨y7, hy7, h⟩ := hq_bind h
    refine hq_inv rfl rfl (Nat.le_trans (by decide) hd) rfl rfl (hq_rcv rfl rfl) (f_X11_isRest_run (Nat.le_sub_of_add_le (Nat.le_trans (by decide) hd)) hy7) rfl ?_
    obtain ⟨z8, hz8, h⟩ := hq_bind h
    suffices hT : hq_R (mm_O xs) d mc_X11_rests 51 [some (.ref 0), some (.int a1), some (.int a2), some (.int a3), some (.int a4)] [.int z8, .int a3] y7.2 g (some (.int y.1)) y.2 from by
      clear h
      have h := hz8
      by_cases c9 : y7.1 = 0
      · rw [if_pos c9] at h
        refine hq_izT rfl (hq_c_eq_T c9) ?_
        refine hq_p 1 51 [some (.ref 0), some (.int a1), some (.int a2), some (.int a3), some (.int a4)] [.int (0 : Int32), .int a3] (fun n h => rfl) ?_
        cases h
        exact hT
      · rw [if_neg c9] at h
        refine hq_izF rfl (hq_c_eq_F c9) ?_
        refine hq_p 2 51 [some (.ref 0), some (.int a1), some (.int a2), some (.int a3), some (.int a4)] [.int (1 : Int32), .int a3] (fun n h => rfl) ?_
        cases h
        exact hT
    refine hq_p 4 28 [some (.ref 0), some (.int a1), some (.int a2), some (.int (a3 + z8)), some (.int (a4 + (1 : Int32)))] [] (fun n h => rfl) ?_
    exact e28 a1 a2 (a3 + z8) (a4 + (1 : Int32)) y7.2 h
  · rw [if_neg c6] at h
    refine hq_icT rfl (hq_c_ge_T c6) ?_
    refine hq_p 1 60 [some (.ref 0), some (.int a1), some (.int a2), some (.int a3), some (.int a4)] [.int a3] (fun n h => rfl) ?_
    have h := Option.some.inj h
    subst h
    exact ⟨1, rfl⟩
theorem f_X11_rests_L28_run {xs : List Int32} {n m d g : Nat} {a1 : Int32} {a2 : Int32} {a3 : Int32} {a4 : Int32} {s : hq_S} {y : (Int32 × hq_S)} (hd : 2 ≤ d) (h : f_X11_rests_L28 n m a1 a2 a3 a4 s = some y) : hq_R (mm_O xs) d mc_X11_rests 28 [some (.ref 0), some (.int a1), some (.int a2), some (.int a3), some (.int a4)] [] s g (some (.int y.1)) y.2 := by
  induction m generalizing a1 a2 a3 a4 s with
  | zero => cases h
  | succ m ih => exact f_X11_rests_L28_Brun (n := n) hd (fun a1 a2 a3 a4 s h => ih h) h
def f_X11_rests (n : Nat) (a1 : Int32) (a2 : Int32) (s : hq_S) : Option (Int32 × hq_S) := (f_X11_isThief n a1 s).bind fun y1 => if y1.1 = 0 then some ((-1 : Int32), y1.2) else (f_X11_isThief n a2 y1.2).bind fun y3 => if y3.1 = 0 then some ((-1 : Int32), y3.2) else if a1 = a2 then some ((-1 : Int32), y3.2) else f_X11_rests_L28 n n a1 a2 (0 : Int32) (0 : Int32) y3.2
theorem f_X11_rests_run {xs : List Int32} {n d g : Nat} {a1 : Int32} {a2 : Int32} {s : hq_S} {y : (Int32 × hq_S)} (hd : 2 ≤ d) (h : f_X11_rests n a1 a2 s = some y) : hq_R (mm_O xs) d mc_X11_rests 0 [some (.ref 0), some (.int a1), some (.int a2), none, none] [] s g (some (.int y.1)) y.2 := by
  unfold f_X11_rests at h
  refine hq_p 2 2 [some (.ref 0), some (.int a1), some (.int a2), none, none] [.int a1, .ref 0] (fun n h => rfl) ?_
  obtain ⟨y1, hy1, h⟩ := hq_bind h
  refine hq_inv rfl rfl (Nat.le_trans (by decide) hd) rfl rfl (hq_rcv rfl rfl) (f_X11_isThief_run (Nat.le_sub_of_add_le (Nat.le_trans (by decide) hd)) hy1) rfl ?_
  by_cases c2 : y1.1 = 0
  · rw [if_pos c2] at h
    refine hq_izT rfl (hq_c_eq_T c2) ?_
    refine hq_icn (-1 : Int32) rfl (by decide) ?_
    have h := Option.some.inj h
    subst h
    exact ⟨1, rfl⟩
  · rw [if_neg c2] at h
    refine hq_izF rfl (hq_c_eq_F c2) ?_
    refine hq_p 2 10 [some (.ref 0), some (.int a1), some (.int a2), none, none] [.int a2, .ref 0] (fun n h => rfl) ?_
    obtain ⟨y3, hy3, h⟩ := hq_bind h
    refine hq_inv rfl rfl (Nat.le_trans (by decide) hd) rfl rfl (hq_rcv rfl rfl) (f_X11_isThief_run (Nat.le_sub_of_add_le (Nat.le_trans (by decide) hd)) hy3) rfl ?_
    by_cases c4 : y3.1 = 0
    · rw [if_pos c4] at h
      refine hq_izT rfl (hq_c_eq_T c4) ?_
      refine hq_icn (-1 : Int32) rfl (by decide) ?_
      have h := Option.some.inj h
      subst h
      exact ⟨1, rfl⟩
    · rw [if_neg c4] at h
      refine hq_izF rfl (hq_c_eq_F c4) ?_
      refine hq_p 2 18 [some (.ref 0), some (.int a1), some (.int a2), none, none] [.int a2, .int a1] (fun n h => rfl) ?_
      by_cases c5 : a1 = a2
      · rw [if_pos c5] at h
        refine hq_icF rfl (hq_c_ne_F c5) ?_
        refine hq_icn (-1 : Int32) rfl (by decide) ?_
        have h := Option.some.inj h
        subst h
        exact ⟨1, rfl⟩
      · rw [if_neg c5] at h
        refine hq_icT rfl (hq_c_ne_T c5) ?_
        refine hq_p 4 28 [some (.ref 0), some (.int a1), some (.int a2), some (.int (0 : Int32)), some (.int (0 : Int32))] [] (fun n h => rfl) ?_
        exact f_X11_rests_L28_run hd h
def f_X11_rest_J71 (n : Nat) (q33 : Int32 → Int32 → Int32 → Int32 → Int32 → hq_S → Option (Int32 × hq_S)) (a1 : Int32) (a2 : Int32) (a3 : Int32) (a4 : Int32) (a5 : Int32) (s : hq_S) : Option (Int32 × hq_S) := q33 a1 a2 a3 a4 (a5 + (1 : Int32)) s
theorem f_X11_rest_J71_run {xs : List Int32} {n d g : Nat} {a1 : Int32} {a2 : Int32} {a3 : Int32} {a4 : Int32} {a5 : Int32} {q33 : Int32 → Int32 → Int32 → Int32 → Int32 → hq_S → Option (Int32 × hq_S)} {s : hq_S} {y : (Int32 × hq_S)} (hd : 2 ≤ d) (e33 : ∀ (a1 : Int32) (a2 : Int32) (a3 : Int32) (a4 : Int32) (a5 : Int32) (s : hq_S), q33 a1 a2 a3 a4 a5 s = some y → hq_R (mm_O xs) d mc_X11_rest 33 [some (.ref 0), some (.int a1), some (.int a2), some (.int a3), some (.int a4), some (.int a5)] [] s g (some (.int y.1)) y.2) (h : f_X11_rest_J71 n q33 a1 a2 a3 a4 a5 s = some y) : hq_R (mm_O xs) d mc_X11_rest 71 [some (.ref 0), some (.int a1), some (.int a2), some (.int a3), some (.int a4), some (.int a5)] [] s g (some (.int y.1)) y.2 := by
  unfold f_X11_rest_J71 at h
  refine hq_p 2 33 [some (.ref 0), some (.int a1), some (.int a2), some (.int a3), some (.int a4), some (.int (a5 + (1 : Int32)))] [] (fun n h => rfl) ?_
  exact e33 a1 a2 a3 a4 (a5 + (1 : Int32)) s h
def f_X11_rest_L33_B (n : Nat) (q33 : Int32 → Int32 → Int32 → Int32 → Int32 → hq_S → Option (Int32 × hq_S)) (a1 : Int32) (a2 : Int32) (a3 : Int32) (a4 : Int32) (a5 : Int32) (s : hq_S) : Option (Int32 × hq_S) := if a5 < (4 : Int32) then (f_X11_isRest n a1 a2 a5 s).bind fun y8 => if y8.1 = 0 then f_X11_rest_J71 n q33 a1 a2 a3 a4 a5 y8.2 else if a4 = 0 then (hq_idiv a5 (2 : Int32)).bind fun x11 => (hq_irem a5 (2 : Int32)).bind fun x12 => some (((x11 * (10 : Int32)) + x12), y8.2) else f_X11_rest_J71 n q33 a1 a2 a3 (a4 + Int32.ofInt (-1)) a5 y8.2 else some ((-2 : Int32), s)
def f_X11_rest_L33 (n : Nat) (m : Nat) : Int32 → Int32 → Int32 → Int32 → Int32 → hq_S → Option (Int32 × hq_S) := Nat.rec (fun _ _ _ _ _ _ => none) (fun _ q => f_X11_rest_L33_B n q) m
theorem f_X11_rest_L33_Brun {xs : List Int32} {n d g : Nat} {a1 : Int32} {a2 : Int32} {a3 : Int32} {a4 : Int32} {a5 : Int32} {q33 : Int32 → Int32 → Int32 → Int32 → Int32 → hq_S → Option (Int32 × hq_S)} {s : hq_S} {y : (Int32 × hq_S)} (hd : 2 ≤ d) (e33 : ∀ (a1 : Int32) (a2 : Int32) (a3 : Int32) (a4 : Int32) (a5 : Int32) (s : hq_S), q33 a1 a2 a3 a4 a5 s = some y → hq_R (mm_O xs) d mc_X11_rest 33 [some (.ref 0), some (.int a1), some (.int a2), some (.int a3), some (.int a4), some (.int a5)] [] s g (some (.int y.1)) y.2) (h : f_X11_rest_L33_B n q33 a1 a2 a3 a4 a5 s = some y) : hq_R (mm_O xs) d mc_X11_rest 33 [some (.ref 0), some (.int a1), some (.int a2), some (.int a3), some (.int a4), some (.int a5)] [] s g (some (.int y.1)) y.2 := by
  unfold f_X11_rest_L33_B at h
  refine hq_p 2 36 [some (.ref 0), some (.int a1), some (.int a2), some (.int a3), some (.int a4), some (.int a5)] [.int (4 : Int32), .int a5] (fun n h => rfl) ?_
  by_cases c7 : a5 < (4 : Int32)
  · rw [if_pos c7] at h
    refine hq_icF rfl (hq_c_ge_F c7) ?_
    refine hq_p 4 44 [some (.ref 0), some (.int a1), some (.int a2), some (.int a3), some (.int a4), some (.int a5)] [.int a5, .int a2, .int a1, .ref 0] (fun n h => rfl) ?_
    obtain ⟨y8, hy8, h⟩ := hq_bind h
    refine hq_inv rfl rfl (Nat.le_trans (by decide) hd) rfl rfl (hq_rcv rfl rfl) (f_X11_isRest_run (Nat.le_sub_of_add_le (Nat.le_trans (by decide) hd)) hy8) rfl ?_
    by_cases c9 : y8.1 = 0
    · rw [if_pos c9] at h
      refine hq_izT rfl (hq_c_eq_T c9) ?_
      exact f_X11_rest_J71_run hd e33 h
    · rw [if_neg c9] at h
      refine hq_izF rfl (hq_c_eq_F c9) ?_
      refine hq_p 1 52 [some (.ref 0), some (.int a1), some (.int a2), some (.int a3), some (.int a4), some (.int a5)] [.int a4] (fun n h => rfl) ?_
      by_cases c10 : a4 = 0
      · rw [if_pos c10] at h
        refine hq_izF rfl (hq_c_ne_F c10) ?_
        refine hq_p 2 58 [some (.ref 0), some (.int a1), some (.int a2), some (.int a3), some (.int a4), some (.int a5)] [.int (2 : Int32), .int a5] (fun n h => rfl) ?_
        obtain ⟨x11, hx11, h⟩ := hq_bind h
        refine hq_idiv_ rfl hx11 ?_
        refine hq_p 4 65 [some (.ref 0), some (.int a1), some (.int a2), some (.int a3), some (.int a4), some (.int a5)] [.int (2 : Int32), .int a5, .int (x11 * (10 : Int32))] (fun n h => rfl) ?_
        obtain ⟨x12, hx12, h⟩ := hq_bind h
        refine hq_irem_ rfl hx12 ?_
        refine hq_p 1 67 [some (.ref 0), some (.int a1), some (.int a2), some (.int a3), some (.int a4), some (.int a5)] [.int ((x11 * (10 : Int32)) + x12)] (fun n h => rfl) ?_
        have h := Option.some.inj h
        subst h
        exact ⟨1, rfl⟩
      · rw [if_neg c10] at h
        refine hq_izT rfl (hq_c_ne_T c10) ?_
        refine hq_iinc (a4 + Int32.ofInt (-1)) [some (.ref 0), some (.int a1), some (.int a2), some (.int a3), some (.int (a4 + Int32.ofInt (-1))), some (.int a5)] rfl rfl rfl rfl ?_
        exact f_X11_rest_J71_run hd e33 h
  · rw [if_neg c7] at h
    refine hq_icT rfl (hq_c_ge_T c7) ?_
    refine hq_bip (-2 : Int32) rfl (by decide) ?_
    have h := Option.some.inj h
    subst h
    exact ⟨1, rfl⟩
theorem f_X11_rest_L33_run {xs : List Int32} {n m d g : Nat} {a1 : Int32} {a2 : Int32} {a3 : Int32} {a4 : Int32} {a5 : Int32} {s : hq_S} {y : (Int32 × hq_S)} (hd : 2 ≤ d) (h : f_X11_rest_L33 n m a1 a2 a3 a4 a5 s = some y) : hq_R (mm_O xs) d mc_X11_rest 33 [some (.ref 0), some (.int a1), some (.int a2), some (.int a3), some (.int a4), some (.int a5)] [] s g (some (.int y.1)) y.2 := by
  induction m generalizing a1 a2 a3 a4 a5 s with
  | zero => cases h
  | succ m ih => exact f_X11_rest_L33_Brun (n := n) hd (fun a1 a2 a3 a4 a5 s h => ih h) h
def f_X11_rest (n : Nat) (a1 : Int32) (a2 : Int32) (a3 : Int32) (s : hq_S) : Option (Int32 × hq_S) := (f_X11_isThief n a1 s).bind fun y1 => if y1.1 = 0 then some ((-1 : Int32), y1.2) else (f_X11_isThief n a2 y1.2).bind fun y3 => if y3.1 = 0 then some ((-1 : Int32), y3.2) else if a1 = a2 then some ((-1 : Int32), y3.2) else if a3 < 0 then some ((-1 : Int32), y3.2) else f_X11_rest_L33 n n a1 a2 a3 a3 (0 : Int32) y3.2
theorem f_X11_rest_run {xs : List Int32} {n d g : Nat} {a1 : Int32} {a2 : Int32} {a3 : Int32} {s : hq_S} {y : (Int32 × hq_S)} (hd : 2 ≤ d) (h : f_X11_rest n a1 a2 a3 s = some y) : hq_R (mm_O xs) d mc_X11_rest 0 [some (.ref 0), some (.int a1), some (.int a2), some (.int a3), none, none] [] s g (some (.int y.1)) y.2 := by
  unfold f_X11_rest at h
  refine hq_p 2 2 [some (.ref 0), some (.int a1), some (.int a2), some (.int a3), none, none] [.int a1, .ref 0] (fun n h => rfl) ?_
  obtain ⟨y1, hy1, h⟩ := hq_bind h
  refine hq_inv rfl rfl (Nat.le_trans (by decide) hd) rfl rfl (hq_rcv rfl rfl) (f_X11_isThief_run (Nat.le_sub_of_add_le (Nat.le_trans (by decide) hd)) hy1) rfl ?_
  by_cases c2 : y1.1 = 0
  · rw [if_pos c2] at h
    refine hq_izT rfl (hq_c_eq_T c2) ?_
    refine hq_icn (-1 : Int32) rfl (by decide) ?_
    have h := Option.some.inj h
    subst h
    exact ⟨1, rfl⟩
  · rw [if_neg c2] at h
    refine hq_izF rfl (hq_c_eq_F c2) ?_
    refine hq_p 2 10 [some (.ref 0), some (.int a1), some (.int a2), some (.int a3), none, none] [.int a2, .ref 0] (fun n h => rfl) ?_
    obtain ⟨y3, hy3, h⟩ := hq_bind h
    refine hq_inv rfl rfl (Nat.le_trans (by decide) hd) rfl rfl (hq_rcv rfl rfl) (f_X11_isThief_run (Nat.le_sub_of_add_le (Nat.le_trans (by decide) hd)) hy3) rfl ?_
    by_cases c4 : y3.1 = 0
    · rw [if_pos c4] at h
      refine hq_izT rfl (hq_c_eq_T c4) ?_
      refine hq_icn (-1 : Int32) rfl (by decide) ?_
      have h := Option.some.inj h
      subst h
      exact ⟨1, rfl⟩
    · rw [if_neg c4] at h
      refine hq_izF rfl (hq_c_eq_F c4) ?_
      refine hq_p 2 18 [some (.ref 0), some (.int a1), some (.int a2), some (.int a3), none, none] [.int a2, .int a1] (fun n h => rfl) ?_
      by_cases c5 : a1 = a2
      · rw [if_pos c5] at h
        refine hq_icT rfl (hq_c_eq_T c5) ?_
        refine hq_icn (-1 : Int32) rfl (by decide) ?_
        have h := Option.some.inj h
        subst h
        exact ⟨1, rfl⟩
      · rw [if_neg c5] at h
        refine hq_icF rfl (hq_c_eq_F c5) ?_
        refine hq_p 1 22 [some (.ref 0), some (.int a1), some (.int a2), some (.int a3), none, none] [.int a3] (fun n h => rfl) ?_
        by_cases c6 : a3 < 0
        · rw [if_pos c6] at h
          refine hq_izF rfl (hq_c_ge_F c6) ?_
          refine hq_icn (-1 : Int32) rfl (by decide) ?_
          have h := Option.some.inj h
          subst h
          exact ⟨1, rfl⟩
        · rw [if_neg c6] at h
          refine hq_izT rfl (hq_c_ge_T c6) ?_
          refine hq_p 4 33 [some (.ref 0), some (.int a1), some (.int a2), some (.int a3), some (.int a3), some (.int (0 : Int32))] [] (fun n h => rfl) ?_
          exact f_X11_rest_L33_run hd h
def f_X11_holds_J19 (n : Nat) (a1 : Int32) (a2 : Int32) (s : hq_S) : Option (Int64 × hq_S) := some ((-1 : Int64), s)
theorem f_X11_holds_J19_run {xs : List Int32} {n d g : Nat} {a1 : Int32} {a2 : Int32} {s : hq_S} {y : (Int64 × hq_S)} (hd : 1 ≤ d) (h : f_X11_holds_J19 n a1 a2 s = some y) : hq_R (mm_O xs) d mc_X11_holds 19 [some (.ref 0), some (.int a1), some (.int a2)] [] s g (some (.long y.1)) y.2 := by
  unfold f_X11_holds_J19 at h
  refine hq_lc2 (-1 : Int64) rfl (by decide) ?_
  have h := Option.some.inj h
  subst h
  exact ⟨1, rfl⟩
def f_X11_holds (n : Nat) (a1 : Int32) (a2 : Int32) (s : hq_S) : Option (Int64 × hq_S) := if a1 < 0 then f_X11_holds_J19 n a1 a2 s else if (6 : Int32) < a1 then f_X11_holds_J19 n a1 a2 s else if a2 < 0 then f_X11_holds_J19 n a1 a2 s else if (1 : Int32) < a2 then f_X11_holds_J19 n a1 a2 s else if hq_isT (hq_gr s 0 2) then (f_X11_power n ((hq_gi s (hq_gr s 0 2) 13).toInt64) a1 s).bind fun y6 => (f_X11_power n (100 : Int64) a1 y6.2).bind fun y7 => (f_X11_inLeastTerms n y6.1 y7.1 a2 y7.2).bind fun y8 => some (y8.1, y8.2) else none
theorem f_X11_holds_run {xs : List Int32} {n d g : Nat} {a1 : Int32} {a2 : Int32} {s : hq_S} {y : (Int64 × hq_S)} (hd : 1 ≤ d) (h : f_X11_holds n a1 a2 s = some y) : hq_R (mm_O xs) d mc_X11_holds 0 [some (.ref 0), some (.int a1), some (.int a2)] [] s g (some (.long y.1)) y.2 := by
  unfold f_X11_holds at h
  refine hq_p 1 1 [some (.ref 0), some (.int a1), some (.int a2)] [.int a1] (fun n h => rfl) ?_
  by_cases c1 : a1 < 0
  · rw [if_pos c1] at h
    refine hq_izT rfl (hq_c_lt_T c1) ?_
    exact f_X11_holds_J19_run hd h
  · rw [if_neg c1] at h
    refine hq_izF rfl (hq_c_lt_F c1) ?_
    refine hq_p 2 7 [some (.ref 0), some (.int a1), some (.int a2)] [.int (6 : Int32), .int a1] (fun n h => rfl) ?_
    by_cases c2 : (6 : Int32) < a1
    · rw [if_pos c2] at h
      refine hq_icT rfl (hq_c_gt_T c2) ?_
      exact f_X11_holds_J19_run hd h
    · rw [if_neg c2] at h
      refine hq_icF rfl (hq_c_gt_F c2) ?_
      refine hq_p 1 11 [some (.ref 0), some (.int a1), some (.int a2)] [.int a2] (fun n h => rfl) ?_
      by_cases c3 : a2 < 0
      · rw [if_pos c3] at h
        refine hq_izT rfl (hq_c_lt_T c3) ?_
        exact f_X11_holds_J19_run hd h
      · rw [if_neg c3] at h
        refine hq_izF rfl (hq_c_lt_F c3) ?_
        refine hq_p 2 16 [some (.ref 0), some (.int a1), some (.int a2)] [.int (1 : Int32), .int a2] (fun n h => rfl) ?_
        by_cases c4 : (1 : Int32) < a2
        · rw [if_pos c4] at h
          refine hq_icF rfl (hq_c_le_F c4) ?_
          exact f_X11_holds_J19_run hd h
        · rw [if_neg c4] at h
          refine hq_icT rfl (hq_c_le_T c4) ?_
          refine hq_p 1 24 [some (.ref 0), some (.int a1), some (.int a2)] [.ref 0] (fun n h => rfl) ?_
          refine hq_gf (x := .ref (hq_gr s 0 2)) rfl rfl rfl rfl rfl ?_
          have m5 : hq_isT (hq_gr s 0 2) := hq_ifT h
          rw [if_pos m5] at h
          refine hq_gf (x := .int (hq_gi s (hq_gr s 0 2) 13)) rfl (hq_shT m5) rfl rfl rfl ?_
          refine hq_p 2 32 [some (.ref 0), some (.int a1), some (.int a2)] [.int a1, .long (hq_gi s (hq_gr s 0 2) 13).toInt64] (fun n h => rfl) ?_
          obtain ⟨y6, hy6, h⟩ := hq_bind h
          refine hq_ist rfl rfl rfl (Nat.le_trans (by decide) hd) rfl (f_X11_power_run (Nat.le_sub_of_add_le (Nat.le_trans (by decide) hd)) hy6) rfl ?_
          refine hq_lc2 (100 : Int64) rfl (by decide) ?_
          refine hq_p 1 39 [some (.ref 0), some (.int a1), some (.int a2)] [.int a1, .long (100 : Int64), .long y6.1] (fun n h => rfl) ?_
          obtain ⟨y7, hy7, h⟩ := hq_bind h
          refine hq_ist rfl rfl rfl (Nat.le_trans (by decide) hd) rfl (f_X11_power_run (Nat.le_sub_of_add_le (Nat.le_trans (by decide) hd)) hy7) rfl ?_
          refine hq_p 1 43 [some (.ref 0), some (.int a1), some (.int a2)] [.int a2, .long y7.1, .long y6.1] (fun n h => rfl) ?_
          obtain ⟨y8, hy8, h⟩ := hq_bind h
          refine hq_ist rfl rfl rfl (Nat.le_trans (by decide) hd) rfl (f_X11_inLeastTerms_run (Nat.le_sub_of_add_le (Nat.le_trans (by decide) hd)) hy8) rfl ?_
          have h := Option.some.inj h
          subst h
          exact ⟨1, rfl⟩
def f_X11_see (n : Nat) (a1 : Int32) (a2 : Int32) (a3 : Int32) (a4 : Int32) (s : hq_S) : Option (Int32 × hq_S) := if a1 < (1 : Int32) then some ((-1 : Int32), s) else if (60 : Int32) < a1 then some ((-1 : Int32), s) else (f_X11_isThief n a2 s).bind fun y3 => if y3.1 = 0 then some ((-1 : Int32), y3.2) else (f_X11_isCorner n a3 y3.2).bind fun y5 => if y5.1 = 0 then some ((-1 : Int32), y5.2) else (f_X2_addSight n a1 a2 a3 a4 y5.2).bind fun y7 => some (y7.1, y7.2)
theorem f_X11_see_run {xs : List Int32} {n d g : Nat} {a1 : Int32} {a2 : Int32} {a3 : Int32} {a4 : Int32} {s : hq_S} {y : (Int32 × hq_S)} (hd : 1 ≤ d) (h : f_X11_see n a1 a2 a3 a4 s = some y) : hq_R (mm_O xs) d mc_X11_see 0 [some (.ref 0), some (.int a1), some (.int a2), some (.int a3), some (.int a4)] [] s g (some (.int y.1)) y.2 := by
  unfold f_X11_see at h
  refine hq_p 2 2 [some (.ref 0), some (.int a1), some (.int a2), some (.int a3), some (.int a4)] [.int (1 : Int32), .int a1] (fun n h => rfl) ?_
  by_cases c1 : a1 < (1 : Int32)
  · rw [if_pos c1] at h
    refine hq_icT rfl (hq_c_lt_T c1) ?_
    refine hq_icn (-1 : Int32) rfl (by decide) ?_
    have h := Option.some.inj h
    subst h
    exact ⟨1, rfl⟩
  · rw [if_neg c1] at h
    refine hq_icF rfl (hq_c_lt_F c1) ?_
    refine hq_p 1 6 [some (.ref 0), some (.int a1), some (.int a2), some (.int a3), some (.int a4)] [.int a1] (fun n h => rfl) ?_
    refine hq_bip (60 : Int32) rfl (by decide) ?_
    by_cases c2 : (60 : Int32) < a1
    · rw [if_pos c2] at h
      refine hq_icT rfl (hq_c_gt_T c2) ?_
      refine hq_icn (-1 : Int32) rfl (by decide) ?_
      have h := Option.some.inj h
      subst h
      exact ⟨1, rfl⟩
    · rw [if_neg c2] at h
      refine hq_icF rfl (hq_c_gt_F c2) ?_
      refine hq_p 2 13 [some (.ref 0), some (.int a1), some (.int a2), some (.int a3), some (.int a4)] [.int a2, .ref 0] (fun n h => rfl) ?_
      obtain ⟨y3, hy3, h⟩ := hq_bind h
      refine hq_inv rfl rfl (Nat.le_trans (by decide) hd) rfl rfl (hq_rcv rfl rfl) (f_X11_isThief_run (Nat.le_sub_of_add_le (Nat.le_trans (by decide) hd)) hy3) rfl ?_
      by_cases c4 : y3.1 = 0
      · rw [if_pos c4] at h
        refine hq_izT rfl (hq_c_eq_T c4) ?_
        refine hq_icn (-1 : Int32) rfl (by decide) ?_
        have h := Option.some.inj h
        subst h
        exact ⟨1, rfl⟩
      · rw [if_neg c4] at h
        refine hq_izF rfl (hq_c_eq_F c4) ?_
        refine hq_p 2 21 [some (.ref 0), some (.int a1), some (.int a2), some (.int a3), some (.int a4)] [.int a3, .ref 0] (fun n h => rfl) ?_
        obtain ⟨y5, hy5, h⟩ := hq_bind h
        refine hq_inv rfl rfl (Nat.le_trans (by decide) hd) rfl rfl (hq_rcv rfl rfl) (f_X11_isCorner_run (Nat.le_sub_of_add_le (Nat.le_trans (by decide) hd)) hy5) rfl ?_
        by_cases c6 : y5.1 = 0
        · rw [if_pos c6] at h
          refine hq_izF rfl (hq_c_ne_F c6) ?_
          refine hq_icn (-1 : Int32) rfl (by decide) ?_
          have h := Option.some.inj h
          subst h
          exact ⟨1, rfl⟩
        · rw [if_neg c6] at h
          refine hq_izT rfl (hq_c_ne_T c6) ?_
          refine hq_p 1 30 [some (.ref 0), some (.int a1), some (.int a2), some (.int a3), some (.int a4)] [.ref 0] (fun n h => rfl) ?_
          refine hq_gf (x := .ref 163) rfl rfl rfl rfl rfl ?_
          refine hq_p 4 38 [some (.ref 0), some (.int a1), some (.int a2), some (.int a3), some (.int a4)] [.int a4, .int a3, .int a2, .int a1, .ref 163] (fun n h => rfl) ?_
          obtain ⟨y7, hy7, h⟩ := hq_bind h
          refine hq_inv rfl rfl (Nat.le_trans (by decide) hd) rfl rfl (hq_rcv rfl rfl) (f_X2_addSight_run (Nat.le_sub_of_add_le (Nat.le_trans (by decide) hd)) hy7) rfl ?_
          have h := Option.some.inj h
          subst h
          exact ⟨1, rfl⟩
def f_X11_strike (n : Nat) (a1 : Int32) (s : hq_S) : Option (Int32 × hq_S) := (f_X2_addStrike n a1 s).bind fun y1 => some (y1.1, y1.2)
theorem f_X11_strike_run {xs : List Int32} {n d g : Nat} {a1 : Int32} {s : hq_S} {y : (Int32 × hq_S)} (hd : 1 ≤ d) (h : f_X11_strike n a1 s = some y) : hq_R (mm_O xs) d mc_X11_strike 0 [some (.ref 0), some (.int a1)] [] s g (some (.int y.1)) y.2 := by
  unfold f_X11_strike at h
  refine hq_p 1 1 [some (.ref 0), some (.int a1)] [.ref 0] (fun n h => rfl) ?_
  refine hq_gf (x := .ref 163) rfl rfl rfl rfl rfl ?_
  refine hq_p 1 5 [some (.ref 0), some (.int a1)] [.int a1, .ref 163] (fun n h => rfl) ?_
  obtain ⟨y1, hy1, h⟩ := hq_bind h
  refine hq_inv rfl rfl (Nat.le_trans (by decide) hd) rfl rfl (hq_rcv rfl rfl) (f_X2_addStrike_run (Nat.le_sub_of_add_le (Nat.le_trans (by decide) hd)) hy1) rfl ?_
  have h := Option.some.inj h
  subst h
  exact ⟨1, rfl⟩
def f_X11_known (n : Nat) (a1 : Int32) (s : hq_S) : Option (Int32 × hq_S) := (f_X2_knowBy n a1 s).bind fun y1 => if mm_rfit (mm_ret mc_X11_known) y1.1 = true then some (y1.1, y1.2) else none
theorem f_X11_known_run {xs : List Int32} {n d g : Nat} {a1 : Int32} {s : hq_S} {y : (Int32 × hq_S)} (hd : 1 ≤ d) (h : f_X11_known n a1 s = some y) : hq_R (mm_O xs) d mc_X11_known 0 [some (.ref 0), some (.int a1)] [] s g (some (.int y.1)) y.2 := by
  unfold f_X11_known at h
  refine hq_p 1 1 [some (.ref 0), some (.int a1)] [.ref 0] (fun n h => rfl) ?_
  refine hq_gf (x := .ref 163) rfl rfl rfl rfl rfl ?_
  refine hq_p 1 5 [some (.ref 0), some (.int a1)] [.int a1, .ref 163] (fun n h => rfl) ?_
  obtain ⟨y1, hy1, h⟩ := hq_bind h
  refine hq_inv rfl rfl (Nat.le_trans (by decide) hd) rfl rfl (hq_rcv rfl rfl) (f_X2_knowBy_run (Nat.le_sub_of_add_le (Nat.le_trans (by decide) hd)) hy1) rfl ?_
  have hr : mm_rfit (mm_ret mc_X11_known) y1.1 = true := hq_ifT h
  rw [if_pos hr] at h
  have h := Option.some.inj h
  subst h
  exact hq_iret rfl hr
def f_X11_playFromText (n : Nat) (s : hq_S) : Option hq_S := if hq_isT (hq_gr s 0 2) then (f_X8_build n 108 (hq_gr s 0 2) (0 : Int32) (0 : Int32) s).bind fun s2 => if hq_isT (hq_gr s2 0 2) then (f_X3_setUp n (hq_gr s2 0 2) 108 94 (1 : Int32) s2).bind fun s4 => some s4 else none else none
theorem f_X11_playFromText_run {xs : List Int32} {n d g : Nat} {s : hq_S} {y : hq_S} (hd : 3 ≤ d) (h : f_X11_playFromText n s = some y) : hq_R (mm_O xs) d mc_X11_playFromText 0 [some (.ref 0)] [] s g none y := by
  unfold f_X11_playFromText at h
  refine hq_p 1 1 [some (.ref 0)] [.ref 0] (fun n h => rfl) ?_
  refine hq_gf (x := .ref 108) rfl rfl rfl rfl rfl ?_
  refine hq_p 1 5 [some (.ref 0)] [.ref 0, .ref 108] (fun n h => rfl) ?_
  refine hq_gf (x := .ref (hq_gr s 0 2)) rfl rfl rfl rfl rfl ?_
  have m1 : hq_isT (hq_gr s 0 2) := hq_ifT h
  rw [if_pos m1] at h
  refine hq_p 2 10 [some (.ref 0)] [.int (0 : Int32), .int (0 : Int32), .ref (hq_gr s 0 2), .ref 108] (fun n h => rfl) ?_
  obtain ⟨s2, hs2, h⟩ := hq_bind h
  refine hq_inv rfl rfl (Nat.le_trans (by decide) hd) rfl rfl (hq_rcv (hq_shS (by decide)) rfl) (f_X8_build_run (Nat.le_sub_of_add_le (Nat.le_trans (by decide) hd)) (by decide) m1 hs2) rfl ?_
  refine hq_p 1 14 [some (.ref 0)] [.ref 0] (fun n h => rfl) ?_
  refine hq_gf (x := .ref 113) rfl rfl rfl rfl rfl ?_
  refine hq_p 1 18 [some (.ref 0)] [.ref 0, .ref 113] (fun n h => rfl) ?_
  refine hq_gf (x := .ref (hq_gr s2 0 2)) rfl rfl rfl rfl rfl ?_
  have m3 : hq_isT (hq_gr s2 0 2) := hq_ifT h
  rw [if_pos m3] at h
  refine hq_p 1 22 [some (.ref 0)] [.ref 0, .ref (hq_gr s2 0 2), .ref 113] (fun n h => rfl) ?_
  refine hq_gf (x := .ref 108) rfl rfl rfl rfl rfl ?_
  refine hq_p 1 26 [some (.ref 0)] [.ref 0, .ref 108, .ref (hq_gr s2 0 2), .ref 113] (fun n h => rfl) ?_
  refine hq_gf (x := .ref 94) rfl rfl rfl rfl rfl ?_
  refine hq_p 1 30 [some (.ref 0)] [.int (1 : Int32), .ref 94, .ref 108, .ref (hq_gr s2 0 2), .ref 113] (fun n h => rfl) ?_
  obtain ⟨s4, hs4, h⟩ := hq_bind h
  refine hq_inv rfl rfl (Nat.le_trans (by decide) hd) rfl rfl (hq_rcv rfl rfl) (f_X3_setUp_run (Nat.le_sub_of_add_le (Nat.le_trans (by decide) hd)) m3 (by decide) (by decide) hs4) rfl ?_
  have h := Option.some.inj h
  subst h
  exact ⟨1, rfl⟩
def f_X11_bolds (n : Nat) (a1 : Int32) (s : hq_S) : Option (Int32 × hq_S) := (f_X11_isThief n a1 s).bind fun y1 => if y1.1 = 0 then some ((-1 : Int32), y1.2) else (f_X11_playFromText n y1.2).bind fun s3 => if hq_isT (hq_gr s3 0 2) then (f_X2_lastHour n s3).bind fun y5 => (f_X2_boldsOf n a1 ((hq_gr s3 0 2) + 14) y5.1 y5.2).bind fun y6 => some (y6.1, y6.2) else none
theorem f_X11_bolds_run {xs : List Int32} {n d g : Nat} {a1 : Int32} {s : hq_S} {y : (Int32 × hq_S)} (hd : 7 ≤ d) (h : f_X11_bolds n a1 s = some y) : hq_R (mm_O xs) d mc_X11_bolds 0 [some (.ref 0), some (.int a1)] [] s g (some (.int y.1)) y.2 := by
  unfold f_X11_bolds at h
  refine hq_p 2 2 [some (.ref 0), some (.int a1)] [.int a1, .ref 0] (fun n h => rfl) ?_
  obtain ⟨y1, hy1, h⟩ := hq_bind h
  refine hq_inv rfl rfl (Nat.le_trans (by decide) hd) rfl rfl (hq_rcv rfl rfl) (f_X11_isThief_run (Nat.le_sub_of_add_le (Nat.le_trans (by decide) hd)) hy1) rfl ?_
  by_cases c2 : y1.1 = 0
  · rw [if_pos c2] at h
    refine hq_izF rfl (hq_c_ne_F c2) ?_
    refine hq_icn (-1 : Int32) rfl (by decide) ?_
    have h := Option.some.inj h
    subst h
    exact ⟨1, rfl⟩
  · rw [if_neg c2] at h
    refine hq_izT rfl (hq_c_ne_T c2) ?_
    refine hq_p 1 11 [some (.ref 0), some (.int a1)] [.ref 0] (fun n h => rfl) ?_
    obtain ⟨s3, hs3, h⟩ := hq_bind h
    refine hq_inv rfl rfl (Nat.le_trans (by decide) hd) rfl rfl (hq_rcv rfl rfl) (f_X11_playFromText_run (Nat.le_sub_of_add_le (Nat.le_trans (by decide) hd)) hs3) rfl ?_
    refine hq_p 1 15 [some (.ref 0), some (.int a1)] [.ref 0] (fun n h => rfl) ?_
    refine hq_gf (x := .ref 163) rfl rfl rfl rfl rfl ?_
    refine hq_p 2 20 [some (.ref 0), some (.int a1)] [.ref 0, .int a1, .ref 163] (fun n h => rfl) ?_
    refine hq_gf (x := .ref 113) rfl rfl rfl rfl rfl ?_
    refine hq_p 1 24 [some (.ref 0), some (.int a1)] [.ref 0, .ref 113, .int a1, .ref 163] (fun n h => rfl) ?_
    refine hq_gf (x := .ref (hq_gr s3 0 2)) rfl rfl rfl rfl rfl ?_
    have m4 : hq_isT (hq_gr s3 0 2) := hq_ifT h
    rw [if_pos m4] at h
    refine hq_gf (x := .ref ((hq_gr s3 0 2) + 14)) rfl (hq_shT m4) rfl rfl (hq_fldr (hq_shT_u m4)) ?_
    refine hq_p 1 31 [some (.ref 0), some (.int a1)] [.ref 0, .ref ((hq_gr s3 0 2) + 14), .ref 113, .int a1, .ref 163] (fun n h => rfl) ?_
    refine hq_gf (x := .ref 163) rfl rfl rfl rfl rfl ?_
    obtain ⟨y5, hy5, h⟩ := hq_bind h
    refine hq_inv rfl rfl (Nat.le_trans (by decide) hd) rfl rfl (hq_rcv rfl rfl) (f_X2_lastHour_run (Nat.le_sub_of_add_le (Nat.le_trans (by decide) hd)) hy5) rfl ?_
    obtain ⟨y6, hy6, h⟩ := hq_bind h
    refine hq_inv rfl rfl (Nat.le_trans (by decide) hd) rfl rfl (hq_rcv rfl rfl) (f_X2_boldsOf_run (Nat.le_sub_of_add_le (Nat.le_trans (by decide) hd)) (hq_shT_m14 m4) hy6) rfl ?_
    have h := Option.some.inj h
    subst h
    exact ⟨1, rfl⟩
def f_X11_ask (n : Nat) (a1 : Int32) (a2 : Int32) (s : hq_S) : Option (Int32 × hq_S) := (f_X11_isThief n a1 s).bind fun y1 => if y1.1 = 0 then some ((-1 : Int32), y1.2) else if a2 < 0 then some ((-1 : Int32), y1.2) else if (1 : Int32) < a2 then some ((-1 : Int32), y1.2) else (f_X11_playFromText n y1.2).bind fun s5 => if hq_isT (hq_gr s5 0 2) then (f_X2_boldsOf n a1 ((hq_gr s5 0 2) + 14) (60 : Int32) s5).bind fun y7 => (f_X2_chooseQuestion n y7.1 y7.2).bind fun s8 => if a2 = 0 then some ((hq_gi s8 163 8), s8) else some ((hq_gi s8 163 9), s8) else none
theorem f_X11_ask_run {xs : List Int32} {n d g : Nat} {a1 : Int32} {a2 : Int32} {s : hq_S} {y : (Int32 × hq_S)} (hd : 7 ≤ d) (h : f_X11_ask n a1 a2 s = some y) : hq_R (mm_O xs) d mc_X11_ask 0 [some (.ref 0), some (.int a1), some (.int a2)] [] s g (some (.int y.1)) y.2 := by
  unfold f_X11_ask at h
  refine hq_p 2 2 [some (.ref 0), some (.int a1), some (.int a2)] [.int a1, .ref 0] (fun n h => rfl) ?_
  obtain ⟨y1, hy1, h⟩ := hq_bind h
  refine hq_inv rfl rfl (Nat.le_trans (by decide) hd) rfl rfl (hq_rcv rfl rfl) (f_X11_isThief_run (Nat.le_sub_of_add_le (Nat.le_trans (by decide) hd)) hy1) rfl ?_
  by_cases c2 : y1.1 = 0
  · rw [if_pos c2] at h
    refine hq_izT rfl (hq_c_eq_T c2) ?_
    refine hq_icn (-1 : Int32) rfl (by decide) ?_
    have h := Option.some.inj h
    subst h
    exact ⟨1, rfl⟩
  · rw [if_neg c2] at h
    refine hq_izF rfl (hq_c_eq_F c2) ?_
    refine hq_p 1 9 [some (.ref 0), some (.int a1), some (.int a2)] [.int a2] (fun n h => rfl) ?_
    by_cases c3 : a2 < 0
    · rw [if_pos c3] at h
      refine hq_izT rfl (hq_c_lt_T c3) ?_
      refine hq_icn (-1 : Int32) rfl (by decide) ?_
      have h := Option.some.inj h
      subst h
      exact ⟨1, rfl⟩
    · rw [if_neg c3] at h
      refine hq_izF rfl (hq_c_lt_F c3) ?_
      refine hq_p 2 14 [some (.ref 0), some (.int a1), some (.int a2)] [.int (1 : Int32), .int a2] (fun n h => rfl) ?_
      by_cases c4 : (1 : Int32) < a2
      · rw [if_pos c4] at h
        refine hq_icF rfl (hq_c_le_F c4) ?_
        refine hq_icn (-1 : Int32) rfl (by decide) ?_
        have h := Option.some.inj h
        subst h
        exact ⟨1, rfl⟩
      · rw [if_neg c4] at h
        refine hq_icT rfl (hq_c_le_T c4) ?_
        refine hq_p 1 20 [some (.ref 0), some (.int a1), some (.int a2)] [.ref 0] (fun n h => rfl) ?_
        obtain ⟨s5, hs5, h⟩ := hq_bind h
        refine hq_inv rfl rfl (Nat.le_trans (by decide) hd) rfl rfl (hq_rcv rfl rfl) (f_X11_playFromText_run (Nat.le_sub_of_add_le (Nat.le_trans (by decide) hd)) hs5) rfl ?_
        refine hq_p 1 24 [some (.ref 0), some (.int a1), some (.int a2)] [.ref 0] (fun n h => rfl) ?_
        refine hq_gf (x := .ref 163) rfl rfl rfl rfl rfl ?_
        refine hq_p 1 28 [some (.ref 0), some (.int a1), some (.int a2)] [.ref 0, .ref 163] (fun n h => rfl) ?_
        refine hq_gf (x := .ref 163) rfl rfl rfl rfl rfl ?_
        refine hq_p 2 33 [some (.ref 0), some (.int a1), some (.int a2)] [.ref 0, .int a1, .ref 163, .ref 163] (fun n h => rfl) ?_
        refine hq_gf (x := .ref 113) rfl rfl rfl rfl rfl ?_
        refine hq_p 1 37 [some (.ref 0), some (.int a1), some (.int a2)] [.ref 0, .ref 113, .int a1, .ref 163, .ref 163] (fun n h => rfl) ?_
        refine hq_gf (x := .ref (hq_gr s5 0 2)) rfl rfl rfl rfl rfl ?_
        have m6 : hq_isT (hq_gr s5 0 2) := hq_ifT h
        rw [if_pos m6] at h
        refine hq_gf (x := .ref ((hq_gr s5 0 2) + 14)) rfl (hq_shT m6) rfl rfl (hq_fldr (hq_shT_u m6)) ?_
        refine hq_bip (60 : Int32) rfl (by decide) ?_
        obtain ⟨y7, hy7, h⟩ := hq_bind h
        refine hq_inv rfl rfl (Nat.le_trans (by decide) hd) rfl rfl (hq_rcv rfl rfl) (f_X2_boldsOf_run (Nat.le_sub_of_add_le (Nat.le_trans (by decide) hd)) (hq_shT_m14 m6) hy7) rfl ?_
        obtain ⟨s8, hs8, h⟩ := hq_bind h
        refine hq_inv rfl rfl (Nat.le_trans (by decide) hd) rfl rfl (hq_rcv rfl rfl) (f_X2_chooseQuestion_run (Nat.le_sub_of_add_le (Nat.le_trans (by decide) hd)) hs8) rfl ?_
        refine hq_p 1 52 [some (.ref 0), some (.int a1), some (.int a2)] [.int a2] (fun n h => rfl) ?_
        by_cases c9 : a2 = 0
        · rw [if_pos c9] at h
          refine hq_izF rfl (hq_c_ne_F c9) ?_
          refine hq_p 1 56 [some (.ref 0), some (.int a1), some (.int a2)] [.ref 0] (fun n h => rfl) ?_
          refine hq_gf (x := .ref 163) rfl rfl rfl rfl rfl ?_
          refine hq_gf (x := .int (hq_gi s8 163 8)) rfl rfl rfl rfl rfl ?_
          refine hq_p 1 72 [some (.ref 0), some (.int a1), some (.int a2)] [.int (hq_gi s8 163 8)] (fun n h => rfl) ?_
          have h := Option.some.inj h
          subst h
          exact ⟨1, rfl⟩
        · rw [if_neg c9] at h
          refine hq_izT rfl (hq_c_ne_T c9) ?_
          refine hq_p 1 66 [some (.ref 0), some (.int a1), some (.int a2)] [.ref 0] (fun n h => rfl) ?_
          refine hq_gf (x := .ref 163) rfl rfl rfl rfl rfl ?_
          refine hq_gf (x := .int (hq_gi s8 163 9)) rfl rfl rfl rfl rfl ?_
          have h := Option.some.inj h
          subst h
          exact ⟨1, rfl⟩
def f_X11_chance_L35_B (n : Nat) (q35 : Int32 → Int32 → Int32 → Int32 → Int64 → Int32 → hq_S → Option (Int32 × hq_S)) (a1 : Int32) (a2 : Int32) (a3 : Int32) (a4 : Int32) (j5 : Int64) (a7 : Int32) (s : hq_S) : Option (Int32 × hq_S) := if a7 < (10 : Int32) then (f_X5_copyFrom n 94 76 s).bind fun s7 => (hq_pj s7 94 1 j5).bind fun s8 => if hq_isT (hq_gr s8 0 2) then (f_X3_setUp n (hq_gr s8 0 2) 103 94 (0 : Int32) s8).bind fun s10 => (f_X3_passMany n a2 s10).bind fun s11 => (f_X5_isFree n 94 a3 s11).bind fun y12 => (if y12.1 = 0 then some (1 : Int32) else some (0 : Int32)).bind fun z13 => q35 a1 a2 a3 (a4 + z13) (hq_gj s11 94 1) (a7 + (1 : Int32)) y12.2 else none else some (a4, s)
def f_X11_chance_L35 (n : Nat) (m : Nat) : Int32 → Int32 → Int32 → Int32 → Int64 → Int32 → hq_S → Option (Int32 × hq_S) := Nat.rec (fun _ _ _ _ _ _ _ => none) (fun _ q => f_X11_chance_L35_B n q) m
theorem f_X11_chance_L35_Brun {xs : List Int32} {n d g : Nat} {a1 : Int32} {a2 : Int32} {a3 : Int32} {a4 : Int32} {j5 : Int64} {a7 : Int32} {q35 : Int32 → Int32 → Int32 → Int32 → Int64 → Int32 → hq_S → Option (Int32 × hq_S)} {s : hq_S} {y : (Int32 × hq_S)} (hd : 7 ≤ d) (e35 : ∀ (a1 : Int32) (a2 : Int32) (a3 : Int32) (a4 : Int32) (j5 : Int64) (a7 : Int32) (s : hq_S), q35 a1 a2 a3 a4 j5 a7 s = some y → hq_R (mm_O xs) d mc_X11_chance 35 [some (.ref 0), some (.int a1), some (.int a2), some (.int a3), some (.int a4), some (.long j5), none, some (.int a7)] [] s g (some (.int y.1)) y.2) (h : f_X11_chance_L35_B n q35 a1 a2 a3 a4 j5 a7 s = some y) : hq_R (mm_O xs) d mc_X11_chance 35 [some (.ref 0), some (.int a1), some (.int a2), some (.int a3), some (.int a4), some (.long j5), none, some (.int a7)] [] s g (some (.int y.1)) y.2 := by
  unfold f_X11_chance_L35_B at h
  refine hq_p 2 39 [some (.ref 0), some (.int a1), some (.int a2), some (.int a3), some (.int a4), some (.long j5), none, some (.int a7)] [.int (10 : Int32), .int a7] (fun n h => rfl) ?_
  by_cases c6 : a7 < (10 : Int32)
  · rw [if_pos c6] at h
    refine hq_icF rfl (hq_c_ge_F c6) ?_
    refine hq_p 1 43 [some (.ref 0), some (.int a1), some (.int a2), some (.int a3), some (.int a4), some (.long j5), none, some (.int a7)] [.ref 0] (fun n h => rfl) ?_
    refine hq_gf (x := .ref 94) rfl rfl rfl rfl rfl ?_
    refine hq_p 1 47 [some (.ref 0), some (.int a1), some (.int a2), some (.int a3), some (.int a4), some (.long j5), none, some (.int a7)] [.ref 0, .ref 94] (fun n h => rfl) ?_
    refine hq_gf (x := .ref 76) rfl rfl rfl rfl rfl ?_
    obtain ⟨s7, hs7, h⟩ := hq_bind h
    refine hq_inv rfl rfl (Nat.le_trans (by decide) hd) rfl rfl (hq_rcv (hq_shN (by decide)) rfl) (f_X5_copyFrom_run (Nat.le_sub_of_add_le (Nat.le_trans (by decide) hd)) (by decide) (by decide) hs7) rfl ?_
    refine hq_p 1 54 [some (.ref 0), some (.int a1), some (.int a2), some (.int a3), some (.int a4), some (.long j5), none, some (.int a7)] [.ref 0] (fun n h => rfl) ?_
    refine hq_gf (x := .ref 94) rfl rfl rfl rfl rfl ?_
    refine hq_p 1 59 [some (.ref 0), some (.int a1), some (.int a2), some (.int a3), some (.int a4), some (.long j5), none, some (.int a7)] [.long j5, .ref 94] (fun n h => rfl) ?_
    obtain ⟨s8, hs8, h⟩ := hq_bind h
    refine hq_pfj rfl (hq_shN (by decide)) rfl rfl rfl hs8 ?_
    refine hq_p 1 63 [some (.ref 0), some (.int a1), some (.int a2), some (.int a3), some (.int a4), some (.long j5), none, some (.int a7)] [.ref 0] (fun n h => rfl) ?_
    refine hq_gf (x := .ref 113) rfl rfl rfl rfl rfl ?_
    refine hq_p 1 67 [some (.ref 0), some (.int a1), some (.int a2), some (.int a3), some (.int a4), some (.long j5), none, some (.int a7)] [.ref 0, .ref 113] (fun n h => rfl) ?_
    refine hq_gf (x := .ref (hq_gr s8 0 2)) rfl rfl rfl rfl rfl ?_
    have m9 : hq_isT (hq_gr s8 0 2) := hq_ifT h
    rw [if_pos m9] at h
    refine hq_p 1 71 [some (.ref 0), some (.int a1), some (.int a2), some (.int a3), some (.int a4), some (.long j5), none, some (.int a7)] [.ref 0, .ref (hq_gr s8 0 2), .ref 113] (fun n h => rfl) ?_
    refine hq_gf (x := .ref 103) rfl rfl rfl rfl rfl ?_
    refine hq_p 1 75 [some (.ref 0), some (.int a1), some (.int a2), some (.int a3), some (.int a4), some (.long j5), none, some (.int a7)] [.ref 0, .ref 103, .ref (hq_gr s8 0 2), .ref 113] (fun n h => rfl) ?_
    refine hq_gf (x := .ref 94) rfl rfl rfl rfl rfl ?_
    refine hq_p 1 79 [some (.ref 0), some (.int a1), some (.int a2), some (.int a3), some (.int a4), some (.long j5), none, some (.int a7)] [.int (0 : Int32), .ref 94, .ref 103, .ref (hq_gr s8 0 2), .ref 113] (fun n h => rfl) ?_
    obtain ⟨s10, hs10, h⟩ := hq_bind h
    refine hq_inv rfl rfl (Nat.le_trans (by decide) hd) rfl rfl (hq_rcv rfl rfl) (f_X3_setUp_run (Nat.le_sub_of_add_le (Nat.le_trans (by decide) hd)) m9 (by decide) (by decide) hs10) rfl ?_
    refine hq_p 1 83 [some (.ref 0), some (.int a1), some (.int a2), some (.int a3), some (.int a4), some (.long j5), none, some (.int a7)] [.ref 0] (fun n h => rfl) ?_
    refine hq_gf (x := .ref 113) rfl rfl rfl rfl rfl ?_
    refine hq_p 1 87 [some (.ref 0), some (.int a1), some (.int a2), some (.int a3), some (.int a4), some (.long j5), none, some (.int a7)] [.int a2, .ref 113] (fun n h => rfl) ?_
    obtain ⟨s11, hs11, h⟩ := hq_bind h
    refine hq_inv rfl rfl (Nat.le_trans (by decide) hd) rfl rfl (hq_rcv rfl rfl) (f_X3_passMany_run (Nat.le_sub_of_add_le (Nat.le_trans (by decide) hd)) hs11) rfl ?_
    refine hq_p 1 91 [some (.ref 0), some (.int a1), some (.int a2), some (.int a3), some (.int a4), some (.long j5), none, some (.int a7)] [.ref 0] (fun n h => rfl) ?_
    refine hq_gf (x := .ref 94) rfl rfl rfl rfl rfl ?_
    refine hq_gf (x := .long (hq_gj s11 94 1)) rfl rfl rfl rfl rfl ?_
    refine hq_p 3 102 [some (.ref 0), some (.int a1), some (.int a2), some (.int a3), some (.int a4), some (.long (hq_gj s11 94 1)), none, some (.int a7)] [.ref 0, .int a4] (fun n h => rfl) ?_
    refine hq_gf (x := .ref 94) rfl rfl rfl rfl rfl ?_
    refine hq_p 1 106 [some (.ref 0), some (.int a1), some (.int a2), some (.int a3), some (.int a4), some (.long (hq_gj s11 94 1)), none, some (.int a7)] [.int a3, .ref 94, .int a4] (fun n h => rfl) ?_
    obtain ⟨y12, hy12, h⟩ := hq_bind h
    refine hq_inv rfl rfl (Nat.le_trans (by decide) hd) rfl rfl (hq_rcv (hq_shN (by decide)) rfl) (f_X5_isFree_run (Nat.le_sub_of_add_le (Nat.le_trans (by decide) hd)) (by decide) hy12) rfl ?_
    obtain ⟨z13, hz13, h⟩ := hq_bind h
    suffices hT : hq_R (mm_O xs) d mc_X11_chance 117 [some (.ref 0), some (.int a1), some (.int a2), some (.int a3), some (.int a4), some (.long (hq_gj s11 94 1)), none, some (.int a7)] [.int z13, .int a4] y12.2 g (some (.int y.1)) y.2 from by
      clear h
      have h := hz13
      by_cases c14 : y12.1 = 0
      · rw [if_pos c14] at h
        refine hq_izT rfl (hq_c_eq_T c14) ?_
        refine hq_p 1 117 [some (.ref 0), some (.int a1), some (.int a2), some (.int a3), some (.int a4), some (.long (hq_gj s11 94 1)), none, some (.int a7)] [.int (1 : Int32), .int a4] (fun n h => rfl) ?_
        cases h
        exact hT
      · rw [if_neg c14] at h
        refine hq_izF rfl (hq_c_eq_F c14) ?_
        refine hq_p 2 117 [some (.ref 0), some (.int a1), some (.int a2), some (.int a3), some (.int a4), some (.long (hq_gj s11 94 1)), none, some (.int a7)] [.int (0 : Int32), .int a4] (fun n h => rfl) ?_
        cases h
        exact hT
    refine hq_p 4 35 [some (.ref 0), some (.int a1), some (.int a2), some (.int a3), some (.int (a4 + z13)), some (.long (hq_gj s11 94 1)), none, some (.int (a7 + (1 : Int32)))] [] (fun n h => rfl) ?_
    exact e35 a1 a2 a3 (a4 + z13) (hq_gj s11 94 1) (a7 + (1 : Int32)) y12.2 h
  · rw [if_neg c6] at h
    refine hq_icT rfl (hq_c_ge_T c6) ?_
    refine hq_p 1 128 [some (.ref 0), some (.int a1), some (.int a2), some (.int a3), some (.int a4), some (.long j5), none, some (.int a7)] [.int a4] (fun n h => rfl) ?_
    have h := Option.some.inj h
    subst h
    exact ⟨1, rfl⟩
theorem f_X11_chance_L35_run {xs : List Int32} {n m d g : Nat} {a1 : Int32} {a2 : Int32} {a3 : Int32} {a4 : Int32} {j5 : Int64} {a7 : Int32} {s : hq_S} {y : (Int32 × hq_S)} (hd : 7 ≤ d) (h : f_X11_chance_L35 n m a1 a2 a3 a4 j5 a7 s = some y) : hq_R (mm_O xs) d mc_X11_chance 35 [some (.ref 0), some (.int a1), some (.int a2), some (.int a3), some (.int a4), some (.long j5), none, some (.int a7)] [] s g (some (.int y.1)) y.2 := by
  induction m generalizing a1 a2 a3 a4 j5 a7 s with
  | zero => cases h
  | succ m ih => exact f_X11_chance_L35_Brun (n := n) hd (fun a1 a2 a3 a4 j5 a7 s h => ih h) h
def f_X11_chance (n : Nat) (a1 : Int32) (a2 : Int32) (a3 : Int32) (s : hq_S) : Option (Int32 × hq_S) := if a1 < 0 then some ((-1 : Int32), s) else if a2 < (1 : Int32) then some ((-1 : Int32), s) else if (99 : Int32) < a2 then some ((-1 : Int32), s) else (f_X11_isThief n a3 s).bind fun y4 => if y4.1 = 0 then some ((-1 : Int32), y4.2) else f_X11_chance_L35 n n a1 a2 a3 (0 : Int32) a1.toInt64 (0 : Int32) y4.2
theorem f_X11_chance_run {xs : List Int32} {n d g : Nat} {a1 : Int32} {a2 : Int32} {a3 : Int32} {s : hq_S} {y : (Int32 × hq_S)} (hd : 7 ≤ d) (h : f_X11_chance n a1 a2 a3 s = some y) : hq_R (mm_O xs) d mc_X11_chance 0 [some (.ref 0), some (.int a1), some (.int a2), some (.int a3), none, none, none, none] [] s g (some (.int y.1)) y.2 := by
  unfold f_X11_chance at h
  refine hq_p 1 1 [some (.ref 0), some (.int a1), some (.int a2), some (.int a3), none, none, none, none] [.int a1] (fun n h => rfl) ?_
  by_cases c1 : a1 < 0
  · rw [if_pos c1] at h
    refine hq_izT rfl (hq_c_lt_T c1) ?_
    refine hq_icn (-1 : Int32) rfl (by decide) ?_
    have h := Option.some.inj h
    subst h
    exact ⟨1, rfl⟩
  · rw [if_neg c1] at h
    refine hq_izF rfl (hq_c_lt_F c1) ?_
    refine hq_p 2 6 [some (.ref 0), some (.int a1), some (.int a2), some (.int a3), none, none, none, none] [.int (1 : Int32), .int a2] (fun n h => rfl) ?_
    by_cases c2 : a2 < (1 : Int32)
    · rw [if_pos c2] at h
      refine hq_icT rfl (hq_c_lt_T c2) ?_
      refine hq_icn (-1 : Int32) rfl (by decide) ?_
      have h := Option.some.inj h
      subst h
      exact ⟨1, rfl⟩
    · rw [if_neg c2] at h
      refine hq_icF rfl (hq_c_lt_F c2) ?_
      refine hq_p 1 10 [some (.ref 0), some (.int a1), some (.int a2), some (.int a3), none, none, none, none] [.int a2] (fun n h => rfl) ?_
      refine hq_bip (99 : Int32) rfl (by decide) ?_
      by_cases c3 : (99 : Int32) < a2
      · rw [if_pos c3] at h
        refine hq_icT rfl (hq_c_gt_T c3) ?_
        refine hq_icn (-1 : Int32) rfl (by decide) ?_
        have h := Option.some.inj h
        subst h
        exact ⟨1, rfl⟩
      · rw [if_neg c3] at h
        refine hq_icF rfl (hq_c_gt_F c3) ?_
        refine hq_p 2 17 [some (.ref 0), some (.int a1), some (.int a2), some (.int a3), none, none, none, none] [.int a3, .ref 0] (fun n h => rfl) ?_
        obtain ⟨y4, hy4, h⟩ := hq_bind h
        refine hq_inv rfl rfl (Nat.le_trans (by decide) hd) rfl rfl (hq_rcv rfl rfl) (f_X11_isThief_run (Nat.le_sub_of_add_le (Nat.le_trans (by decide) hd)) hy4) rfl ?_
        by_cases c5 : y4.1 = 0
        · rw [if_pos c5] at h
          refine hq_izF rfl (hq_c_ne_F c5) ?_
          refine hq_icn (-1 : Int32) rfl (by decide) ?_
          have h := Option.some.inj h
          subst h
          exact ⟨1, rfl⟩
        · rw [if_neg c5] at h
          refine hq_izT rfl (hq_c_ne_T c5) ?_
          refine hq_p 7 35 [some (.ref 0), some (.int a1), some (.int a2), some (.int a3), some (.int (0 : Int32)), some (.long a1.toInt64), none, some (.int (0 : Int32))] [] (fun n h => rfl) ?_
          exact f_X11_chance_L35_run hd h
def f_X11_tried_J144 (n : Nat) (a1 : Int32) (a2 : Int32) (a3 : Int32) (s : hq_S) : Option (Int32 × hq_S) := (f_X3_passMany n a3 s).bind fun s10 => if hq_isT (hq_gr s10 0 2) then (f_X5_hadByAll n 94 (hq_gi s10 (hq_gr s10 0 2) 11) s10).bind fun y12 => some (y12.1, y12.2) else none
theorem f_X11_tried_J144_run {xs : List Int32} {n d g : Nat} {a1 : Int32} {a2 : Int32} {a3 : Int32} {s : hq_S} {y : (Int32 × hq_S)} (hd : 7 ≤ d) (h : f_X11_tried_J144 n a1 a2 a3 s = some y) : hq_R (mm_O xs) d mc_X11_tried 144 [some (.ref 0), some (.int a1), some (.int a2), some (.int a3)] [] s g (some (.int y.1)) y.2 := by
  unfold f_X11_tried_J144 at h
  refine hq_p 1 145 [some (.ref 0), some (.int a1), some (.int a2), some (.int a3)] [.ref 0] (fun n h => rfl) ?_
  refine hq_gf (x := .ref 113) rfl rfl rfl rfl rfl ?_
  refine hq_p 1 149 [some (.ref 0), some (.int a1), some (.int a2), some (.int a3)] [.int a3, .ref 113] (fun n h => rfl) ?_
  obtain ⟨s10, hs10, h⟩ := hq_bind h
  refine hq_inv rfl rfl (Nat.le_trans (by decide) hd) rfl rfl (hq_rcv rfl rfl) (f_X3_passMany_run (Nat.le_sub_of_add_le (Nat.le_trans (by decide) hd)) hs10) rfl ?_
  refine hq_p 1 153 [some (.ref 0), some (.int a1), some (.int a2), some (.int a3)] [.ref 0] (fun n h => rfl) ?_
  refine hq_gf (x := .ref 94) rfl rfl rfl rfl rfl ?_
  refine hq_p 1 157 [some (.ref 0), some (.int a1), some (.int a2), some (.int a3)] [.ref 0, .ref 94] (fun n h => rfl) ?_
  refine hq_gf (x := .ref (hq_gr s10 0 2)) rfl rfl rfl rfl rfl ?_
  have m11 : hq_isT (hq_gr s10 0 2) := hq_ifT h
  rw [if_pos m11] at h
  refine hq_gf (x := .int (hq_gi s10 (hq_gr s10 0 2) 11)) rfl (hq_shT m11) rfl rfl rfl ?_
  obtain ⟨y12, hy12, h⟩ := hq_bind h
  refine hq_inv rfl rfl (Nat.le_trans (by decide) hd) rfl rfl (hq_rcv (hq_shN (by decide)) rfl) (f_X5_hadByAll_run (Nat.le_sub_of_add_le (Nat.le_trans (by decide) hd)) (by decide) hy12) rfl ?_
  have h := Option.some.inj h
  subst h
  exact ⟨1, rfl⟩
def f_X11_tried_J42 (n : Nat) (a1 : Int32) (a2 : Int32) (a3 : Int32) (s : hq_S) : Option (Int32 × hq_S) := (f_X11_playAsItGoes n s).bind fun s7 => if a1 = (0 : Int32) then (hq_pi s7 113 3 0 (2 : Int32)).bind fun s9 => f_X11_tried_J144 n a1 a2 a3 s9 else if a1 = (1 : Int32) then (hq_pi s7 113 3 0 (3 : Int32)).bind fun s14 => f_X11_tried_J144 n a1 a2 a3 s14 else if a1 = (2 : Int32) then (hq_pi s7 113 4 0 a2).bind fun s16 => f_X11_tried_J144 n a1 a2 a3 s16 else if a1 = (3 : Int32) then (hq_pi s7 113 5 1 (0 : Int32)).bind fun s18 => f_X11_tried_J144 n a1 a2 a3 s18 else if hq_isT (hq_gr s7 0 2) then (f_X8_build n 108 (hq_gr s7 0 2) (0 : Int32) (1 : Int32) s7).bind fun s20 => (hq_pr s20 113 1 108).bind fun s21 => f_X11_tried_J144 n a1 a2 a3 s21 else none
theorem f_X11_tried_J42_run {xs : List Int32} {n d g : Nat} {a1 : Int32} {a2 : Int32} {a3 : Int32} {s : hq_S} {y : (Int32 × hq_S)} (hd : 7 ≤ d) (h : f_X11_tried_J42 n a1 a2 a3 s = some y) : hq_R (mm_O xs) d mc_X11_tried 42 [some (.ref 0), some (.int a1), some (.int a2), some (.int a3)] [] s g (some (.int y.1)) y.2 := by
  unfold f_X11_tried_J42 at h
  refine hq_p 1 43 [some (.ref 0), some (.int a1), some (.int a2), some (.int a3)] [.ref 0] (fun n h => rfl) ?_
  obtain ⟨s7, hs7, h⟩ := hq_bind h
  refine hq_inv rfl rfl (Nat.le_trans (by decide) hd) rfl rfl (hq_rcv rfl rfl) (f_X11_playAsItGoes_run (Nat.le_sub_of_add_le (Nat.le_trans (by decide) hd)) hs7) rfl ?_
  refine hq_p 1 47 [some (.ref 0), some (.int a1), some (.int a2), some (.int a3)] [.int a1] (fun n h => rfl) ?_
  by_cases c8 : a1 = (0 : Int32)
  · rw [if_pos c8] at h
    refine hq_tsw rfl (show _ = some 76 from by rw [c8]; decide) ?_
    refine hq_p 1 77 [some (.ref 0), some (.int a1), some (.int a2), some (.int a3)] [.ref 0] (fun n h => rfl) ?_
    refine hq_gf (x := .ref 113) rfl rfl rfl rfl rfl ?_
    refine hq_p 1 81 [some (.ref 0), some (.int a1), some (.int a2), some (.int a3)] [.int (2 : Int32), .ref 113] (fun n h => rfl) ?_
    obtain ⟨s9, hs9, h⟩ := hq_bind h
    refine hq_pfi rfl rfl rfl rfl rfl hs9 ?_
    refine hq_p 1 144 [some (.ref 0), some (.int a1), some (.int a2), some (.int a3)] [] (fun n h => rfl) ?_
    exact f_X11_tried_J144_run hd h
  rw [if_neg c8] at h
  by_cases c13 : a1 = (1 : Int32)
  · rw [if_pos c13] at h
    refine hq_tsw rfl (show _ = some 87 from by rw [c13]; decide) ?_
    refine hq_p 1 88 [some (.ref 0), some (.int a1), some (.int a2), some (.int a3)] [.ref 0] (fun n h => rfl) ?_
    refine hq_gf (x := .ref 113) rfl rfl rfl rfl rfl ?_
    refine hq_p 1 92 [some (.ref 0), some (.int a1), some (.int a2), some (.int a3)] [.int (3 : Int32), .ref 113] (fun n h => rfl) ?_
    obtain ⟨s14, hs14, h⟩ := hq_bind h
    refine hq_pfi rfl rfl rfl rfl rfl hs14 ?_
    refine hq_p 1 144 [some (.ref 0), some (.int a1), some (.int a2), some (.int a3)] [] (fun n h => rfl) ?_
    exact f_X11_tried_J144_run hd h
  rw [if_neg c13] at h
  by_cases c15 : a1 = (2 : Int32)
  · rw [if_pos c15] at h
    refine hq_tsw rfl (show _ = some 98 from by rw [c15]; decide) ?_
    refine hq_p 1 99 [some (.ref 0), some (.int a1), some (.int a2), some (.int a3)] [.ref 0] (fun n h => rfl) ?_
    refine hq_gf (x := .ref 113) rfl rfl rfl rfl rfl ?_
    refine hq_p 1 103 [some (.ref 0), some (.int a1), some (.int a2), some (.int a3)] [.int a2, .ref 113] (fun n h => rfl) ?_
    obtain ⟨s16, hs16, h⟩ := hq_bind h
    refine hq_pfi rfl rfl rfl rfl rfl hs16 ?_
    refine hq_p 1 144 [some (.ref 0), some (.int a1), some (.int a2), some (.int a3)] [] (fun n h => rfl) ?_
    exact f_X11_tried_J144_run hd h
  rw [if_neg c15] at h
  by_cases c17 : a1 = (3 : Int32)
  · rw [if_pos c17] at h
    refine hq_tsw rfl (show _ = some 109 from by rw [c17]; decide) ?_
    refine hq_p 1 110 [some (.ref 0), some (.int a1), some (.int a2), some (.int a3)] [.ref 0] (fun n h => rfl) ?_
    refine hq_gf (x := .ref 113) rfl rfl rfl rfl rfl ?_
    refine hq_p 1 114 [some (.ref 0), some (.int a1), some (.int a2), some (.int a3)] [.int (0 : Int32), .ref 113] (fun n h => rfl) ?_
    obtain ⟨s18, hs18, h⟩ := hq_bind h
    refine hq_pfi rfl rfl rfl rfl rfl hs18 ?_
    refine hq_p 1 144 [some (.ref 0), some (.int a1), some (.int a2), some (.int a3)] [] (fun n h => rfl) ?_
    exact f_X11_tried_J144_run hd h
  rw [if_neg c17] at h
  refine hq_tsw rfl (hq_tsw_d [(0 : Int32), (1 : Int32), (2 : Int32), (3 : Int32)] (by decide) rfl ⟨c8, c13, c15, c17, trivial⟩) ?_
  refine hq_p 1 121 [some (.ref 0), some (.int a1), some (.int a2), some (.int a3)] [.ref 0] (fun n h => rfl) ?_
  refine hq_gf (x := .ref 108) rfl rfl rfl rfl rfl ?_
  refine hq_p 1 125 [some (.ref 0), some (.int a1), some (.int a2), some (.int a3)] [.ref 0, .ref 108] (fun n h => rfl) ?_
  refine hq_gf (x := .ref (hq_gr s7 0 2)) rfl rfl rfl rfl rfl ?_
  have m19 : hq_isT (hq_gr s7 0 2) := hq_ifT h
  rw [if_pos m19] at h
  refine hq_p 2 130 [some (.ref 0), some (.int a1), some (.int a2), some (.int a3)] [.int (1 : Int32), .int (0 : Int32), .ref (hq_gr s7 0 2), .ref 108] (fun n h => rfl) ?_
  obtain ⟨s20, hs20, h⟩ := hq_bind h
  refine hq_inv rfl rfl (Nat.le_trans (by decide) hd) rfl rfl (hq_rcv (hq_shS (by decide)) rfl) (f_X8_build_run (Nat.le_sub_of_add_le (Nat.le_trans (by decide) hd)) (by decide) m19 hs20) rfl ?_
  refine hq_p 1 134 [some (.ref 0), some (.int a1), some (.int a2), some (.int a3)] [.ref 0] (fun n h => rfl) ?_
  refine hq_gf (x := .ref 113) rfl rfl rfl rfl rfl ?_
  refine hq_p 1 138 [some (.ref 0), some (.int a1), some (.int a2), some (.int a3)] [.ref 0, .ref 113] (fun n h => rfl) ?_
  refine hq_gf (x := .ref 108) rfl rfl rfl rfl rfl ?_
  obtain ⟨s21, hs21, h⟩ := hq_bind h
  refine hq_pfr rfl rfl rfl rfl rfl rfl hs21 ?_
  exact f_X11_tried_J144_run hd h
def f_X11_tried (n : Nat) (a1 : Int32) (a2 : Int32) (a3 : Int32) (s : hq_S) : Option (Int32 × hq_S) := if a1 < 0 then some ((-1 : Int32), s) else if (4 : Int32) < a1 then some ((-1 : Int32), s) else if a3 < 0 then some ((-1 : Int32), s) else if (200 : Int32) < a3 then some ((-1 : Int32), s) else if a1 = (2 : Int32) then (f_X11_isGuard n a2 s).bind fun y22 => if y22.1 = 0 then some ((-1 : Int32), y22.2) else f_X11_tried_J42 n a1 a2 a3 y22.2 else if a2 = 0 then f_X11_tried_J42 n a1 a2 a3 s else some ((-1 : Int32), s)
theorem f_X11_tried_run {xs : List Int32} {n d g : Nat} {a1 : Int32} {a2 : Int32} {a3 : Int32} {s : hq_S} {y : (Int32 × hq_S)} (hd : 7 ≤ d) (h : f_X11_tried n a1 a2 a3 s = some y) : hq_R (mm_O xs) d mc_X11_tried 0 [some (.ref 0), some (.int a1), some (.int a2), some (.int a3)] [] s g (some (.int y.1)) y.2 := by
  unfold f_X11_tried at h
  refine hq_p 1 1 [some (.ref 0), some (.int a1), some (.int a2), some (.int a3)] [.int a1] (fun n h => rfl) ?_
  by_cases c1 : a1 < 0
  · rw [if_pos c1] at h
    refine hq_izT rfl (hq_c_lt_T c1) ?_
    refine hq_icn (-1 : Int32) rfl (by decide) ?_
    have h := Option.some.inj h
    subst h
    exact ⟨1, rfl⟩
  · rw [if_neg c1] at h
    refine hq_izF rfl (hq_c_lt_F c1) ?_
    refine hq_p 2 6 [some (.ref 0), some (.int a1), some (.int a2), some (.int a3)] [.int (4 : Int32), .int a1] (fun n h => rfl) ?_
    by_cases c2 : (4 : Int32) < a1
    · rw [if_pos c2] at h
      refine hq_icT rfl (hq_c_gt_T c2) ?_
      refine hq_icn (-1 : Int32) rfl (by decide) ?_
      have h := Option.some.inj h
      subst h
      exact ⟨1, rfl⟩
    · rw [if_neg c2] at h
      refine hq_icF rfl (hq_c_gt_F c2) ?_
      refine hq_p 1 10 [some (.ref 0), some (.int a1), some (.int a2), some (.int a3)] [.int a3] (fun n h => rfl) ?_
      by_cases c3 : a3 < 0
      · rw [if_pos c3] at h
        refine hq_izT rfl (hq_c_lt_T c3) ?_
        refine hq_icn (-1 : Int32) rfl (by decide) ?_
        have h := Option.some.inj h
        subst h
        exact ⟨1, rfl⟩
      · rw [if_neg c3] at h
        refine hq_izF rfl (hq_c_lt_F c3) ?_
        refine hq_p 1 14 [some (.ref 0), some (.int a1), some (.int a2), some (.int a3)] [.int a3] (fun n h => rfl) ?_
        refine hq_sip (200 : Int32) rfl (by decide) ?_
        by_cases c4 : (200 : Int32) < a3
        · rw [if_pos c4] at h
          refine hq_icT rfl (hq_c_gt_T c4) ?_
          refine hq_icn (-1 : Int32) rfl (by decide) ?_
          have h := Option.some.inj h
          subst h
          exact ⟨1, rfl⟩
        · rw [if_neg c4] at h
          refine hq_icF rfl (hq_c_gt_F c4) ?_
          refine hq_p 2 22 [some (.ref 0), some (.int a1), some (.int a2), some (.int a3)] [.int (2 : Int32), .int a1] (fun n h => rfl) ?_
          by_cases c5 : a1 = (2 : Int32)
          · rw [if_pos c5] at h
            refine hq_icF rfl (hq_c_ne_F c5) ?_
            refine hq_p 2 27 [some (.ref 0), some (.int a1), some (.int a2), some (.int a3)] [.int a2, .ref 0] (fun n h => rfl) ?_
            obtain ⟨y22, hy22, h⟩ := hq_bind h
            refine hq_inv rfl rfl (Nat.le_trans (by decide) hd) rfl rfl (hq_rcv rfl rfl) (f_X11_isGuard_run (Nat.le_sub_of_add_le (Nat.le_trans (by decide) hd)) hy22) rfl ?_
            by_cases c23 : y22.1 = 0
            · rw [if_pos c23] at h
              refine hq_izF rfl (hq_c_ne_F c23) ?_
              refine hq_p 1 40 [some (.ref 0), some (.int a1), some (.int a2), some (.int a3)] [] (fun n h => rfl) ?_
              refine hq_icn (-1 : Int32) rfl (by decide) ?_
              have h := Option.some.inj h
              subst h
              exact ⟨1, rfl⟩
            · rw [if_neg c23] at h
              refine hq_izT rfl (hq_c_ne_T c23) ?_
              exact f_X11_tried_J42_run hd h
          · rw [if_neg c5] at h
            refine hq_icT rfl (hq_c_ne_T c5) ?_
            refine hq_p 1 37 [some (.ref 0), some (.int a1), some (.int a2), some (.int a3)] [.int a2] (fun n h => rfl) ?_
            by_cases c6 : a2 = 0
            · rw [if_pos c6] at h
              refine hq_izT rfl (hq_c_eq_T c6) ?_
              exact f_X11_tried_J42_run hd h
            · rw [if_neg c6] at h
              refine hq_izF rfl (hq_c_eq_F c6) ?_
              refine hq_icn (-1 : Int32) rfl (by decide) ?_
              have h := Option.some.inj h
              subst h
              exact ⟨1, rfl⟩
def f_X11_undo_J113 (n : Nat) (s : hq_S) : Option (Int32 × hq_S) := some ((hq_gi s 170 0), s)
theorem f_X11_undo_J113_run {xs : List Int32} {n d g : Nat} {s : hq_S} {y : (Int32 × hq_S)} (hd : 4 ≤ d) (h : f_X11_undo_J113 n s = some y) : hq_R (mm_O xs) d mc_X11_undo 113 [some (.ref 0)] [] s g (some (.int y.1)) y.2 := by
  unfold f_X11_undo_J113 at h
  refine hq_p 1 114 [some (.ref 0)] [.ref 0] (fun n h => rfl) ?_
  refine hq_gf (x := .ref 170) rfl rfl rfl rfl rfl ?_
  refine hq_gf (x := .int (hq_gi s 170 0)) rfl rfl rfl rfl rfl ?_
  have h := Option.some.inj h
  subst h
  exact ⟨1, rfl⟩
def f_X11_undo (n : Nat) (s : hq_S) : Option (Int32 × hq_S) := if (hq_gi s 170 0) = 0 then some ((-1 : Int32), s) else (f_X1_takeLatest n s).bind fun s2 => if (hq_gi s2 170 4) = (0 : Int32) then (hq_st s2 78 3 (hq_gi s2 170 5) (hq_gi s2 170 6)).bind fun s4 => f_X11_undo_J113 n s4 else if (hq_gi s2 170 4) = (1 : Int32) then (f_X11_turnBar n (hq_gi s2 170 5) s2).bind fun s6 => f_X11_undo_J113 n s6 else (hq_st s2 77 10 (hq_gi s2 170 5) (hq_gi s2 170 6)).bind fun s7 => f_X11_undo_J113 n s7
theorem f_X11_undo_run {xs : List Int32} {n d g : Nat} {s : hq_S} {y : (Int32 × hq_S)} (hd : 4 ≤ d) (h : f_X11_undo n s = some y) : hq_R (mm_O xs) d mc_X11_undo 0 [some (.ref 0)] [] s g (some (.int y.1)) y.2 := by
  unfold f_X11_undo at h
  refine hq_p 1 1 [some (.ref 0)] [.ref 0] (fun n h => rfl) ?_
  refine hq_gf (x := .ref 170) rfl rfl rfl rfl rfl ?_
  refine hq_gf (x := .int (hq_gi s 170 0)) rfl rfl rfl rfl rfl ?_
  by_cases c1 : (hq_gi s 170 0) = 0
  · rw [if_pos c1] at h
    refine hq_izF rfl (hq_c_ne_F c1) ?_
    refine hq_icn (-1 : Int32) rfl (by decide) ?_
    have h := Option.some.inj h
    subst h
    exact ⟨1, rfl⟩
  · rw [if_neg c1] at h
    refine hq_izT rfl (hq_c_ne_T c1) ?_
    refine hq_p 1 13 [some (.ref 0)] [.ref 0] (fun n h => rfl) ?_
    refine hq_gf (x := .ref 170) rfl rfl rfl rfl rfl ?_
    obtain ⟨s2, hs2, h⟩ := hq_bind h
    refine hq_inv rfl rfl (Nat.le_trans (by decide) hd) rfl rfl (hq_rcv rfl rfl) (f_X1_takeLatest_run (Nat.le_sub_of_add_le (Nat.le_trans (by decide) hd)) hs2) rfl ?_
    refine hq_p 1 20 [some (.ref 0)] [.ref 0] (fun n h => rfl) ?_
    refine hq_gf (x := .ref 170) rfl rfl rfl rfl rfl ?_
    refine hq_gf (x := .int (hq_gi s2 170 4)) rfl rfl rfl rfl rfl ?_
    by_cases c3 : (hq_gi s2 170 4) = (0 : Int32)
    · rw [if_pos c3] at h
      refine hq_lsw rfl (show _ = some 52 from by rw [c3]; decide) ?_
      refine hq_p 1 53 [some (.ref 0)] [.ref 0] (fun n h => rfl) ?_
      refine hq_gf (x := .ref 76) rfl rfl rfl rfl rfl ?_
      refine hq_gf (x := .ref 78) rfl rfl rfl rfl rfl ?_
      refine hq_p 1 60 [some (.ref 0)] [.ref 0, .ref 78] (fun n h => rfl) ?_
      refine hq_gf (x := .ref 170) rfl rfl rfl rfl rfl ?_
      refine hq_gf (x := .int (hq_gi s2 170 5)) rfl rfl rfl rfl rfl ?_
      refine hq_p 1 67 [some (.ref 0)] [.ref 0, .int (hq_gi s2 170 5), .ref 78] (fun n h => rfl) ?_
      refine hq_gf (x := .ref 170) rfl rfl rfl rfl rfl ?_
      refine hq_gf (x := .int (hq_gi s2 170 6)) rfl rfl rfl rfl rfl ?_
      obtain ⟨s4, hs4, h⟩ := hq_bind h
      refine hq_iastore rfl rfl List.length_replicate hs4 ?_
      refine hq_p 1 113 [some (.ref 0)] [] (fun n h => rfl) ?_
      exact f_X11_undo_J113_run hd h
    rw [if_neg c3] at h
    by_cases c5 : (hq_gi s2 170 4) = (1 : Int32)
    · rw [if_pos c5] at h
      refine hq_lsw rfl (show _ = some 77 from by rw [c5]; decide) ?_
      refine hq_p 2 79 [some (.ref 0)] [.ref 0, .ref 0] (fun n h => rfl) ?_
      refine hq_gf (x := .ref 170) rfl rfl rfl rfl rfl ?_
      refine hq_gf (x := .int (hq_gi s2 170 5)) rfl rfl rfl rfl rfl ?_
      obtain ⟨s6, hs6, h⟩ := hq_bind h
      refine hq_inv rfl rfl (Nat.le_trans (by decide) hd) rfl rfl (hq_rcv rfl rfl) (f_X11_turnBar_run (Nat.le_sub_of_add_le (Nat.le_trans (by decide) hd)) hs6) rfl ?_
      refine hq_p 1 113 [some (.ref 0)] [] (fun n h => rfl) ?_
      exact f_X11_undo_J113_run hd h
    rw [if_neg c5] at h
    refine hq_lsw rfl (hq_lsw_d [(0 : Int32), (1 : Int32)] (by decide) rfl ⟨c3, c5, trivial⟩) ?_
    refine hq_p 1 92 [some (.ref 0)] [.ref 0] (fun n h => rfl) ?_
    refine hq_gf (x := .ref 76) rfl rfl rfl rfl rfl ?_
    refine hq_gf (x := .ref 77) rfl rfl rfl rfl rfl ?_
    refine hq_p 1 99 [some (.ref 0)] [.ref 0, .ref 77] (fun n h => rfl) ?_
    refine hq_gf (x := .ref 170) rfl rfl rfl rfl rfl ?_
    refine hq_gf (x := .int (hq_gi s2 170 5)) rfl rfl rfl rfl rfl ?_
    refine hq_p 1 106 [some (.ref 0)] [.ref 0, .int (hq_gi s2 170 5), .ref 77] (fun n h => rfl) ?_
    refine hq_gf (x := .ref 170) rfl rfl rfl rfl rfl ?_
    refine hq_gf (x := .int (hq_gi s2 170 6)) rfl rfl rfl rfl rfl ?_
    obtain ⟨s7, hs7, h⟩ := hq_bind h
    refine hq_iastore rfl rfl List.length_replicate hs7 ?_
    exact f_X11_undo_J113_run hd h
def f_X11_keep (n : Nat) (s : hq_S) : Option (Int32 × hq_S) := (f_X5_copyFrom n 85 76 s).bind fun s1 => (hq_pi s1 0 7 1 (1 : Int32)).bind fun s2 => some ((hq_gi s2 76 0), s2)
theorem f_X11_keep_run {xs : List Int32} {n d g : Nat} {s : hq_S} {y : (Int32 × hq_S)} (hd : 2 ≤ d) (h : f_X11_keep n s = some y) : hq_R (mm_O xs) d mc_X11_keep 0 [some (.ref 0)] [] s g (some (.int y.1)) y.2 := by
  unfold f_X11_keep at h
  refine hq_p 1 1 [some (.ref 0)] [.ref 0] (fun n h => rfl) ?_
  refine hq_gf (x := .ref 85) rfl rfl rfl rfl rfl ?_
  refine hq_p 1 5 [some (.ref 0)] [.ref 0, .ref 85] (fun n h => rfl) ?_
  refine hq_gf (x := .ref 76) rfl rfl rfl rfl rfl ?_
  obtain ⟨s1, hs1, h⟩ := hq_bind h
  refine hq_inv rfl rfl (Nat.le_trans (by decide) hd) rfl rfl (hq_rcv (hq_shN (by decide)) rfl) (f_X5_copyFrom_run (Nat.le_sub_of_add_le (Nat.le_trans (by decide) hd)) (by decide) (by decide) hs1) rfl ?_
  refine hq_p 2 13 [some (.ref 0)] [.int (1 : Int32), .ref 0] (fun n h => rfl) ?_
  obtain ⟨s2, hs2, h⟩ := hq_bind h
  refine hq_pfi rfl rfl rfl rfl rfl hs2 ?_
  refine hq_p 1 17 [some (.ref 0)] [.ref 0] (fun n h => rfl) ?_
  refine hq_gf (x := .ref 76) rfl rfl rfl rfl rfl ?_
  refine hq_gf (x := .int (hq_gi s2 76 0)) rfl rfl rfl rfl rfl ?_
  have h := Option.some.inj h
  subst h
  exact ⟨1, rfl⟩
def f_X11_back (n : Nat) (s : hq_S) : Option (Int32 × hq_S) := if (hq_gi s 0 7) = 0 then some ((-1 : Int32), s) else (f_X5_copyFrom n 76 85 s).bind fun s2 => if hq_isT (hq_gr s2 0 2) then (f_X8_build n 103 (hq_gr s2 0 2) (hq_gi s2 76 2) (0 : Int32) s2).bind fun s4 => (f_X1_clear n s4).bind fun s5 => some ((hq_gi s5 76 0), s5) else none
theorem f_X11_back_run {xs : List Int32} {n d g : Nat} {s : hq_S} {y : (Int32 × hq_S)} (hd : 3 ≤ d) (h : f_X11_back n s = some y) : hq_R (mm_O xs) d mc_X11_back 0 [some (.ref 0)] [] s g (some (.int y.1)) y.2 := by
  unfold f_X11_back at h
  refine hq_p 1 1 [some (.ref 0)] [.ref 0] (fun n h => rfl) ?_
  refine hq_gf (x := .int (hq_gi s 0 7)) rfl rfl rfl rfl rfl ?_
  by_cases c1 : (hq_gi s 0 7) = 0
  · rw [if_pos c1] at h
    refine hq_izF rfl (hq_c_ne_F c1) ?_
    refine hq_icn (-1 : Int32) rfl (by decide) ?_
    have h := Option.some.inj h
    subst h
    exact ⟨1, rfl⟩
  · rw [if_neg c1] at h
    refine hq_izT rfl (hq_c_ne_T c1) ?_
    refine hq_p 1 10 [some (.ref 0)] [.ref 0] (fun n h => rfl) ?_
    refine hq_gf (x := .ref 76) rfl rfl rfl rfl rfl ?_
    refine hq_p 1 14 [some (.ref 0)] [.ref 0, .ref 76] (fun n h => rfl) ?_
    refine hq_gf (x := .ref 85) rfl rfl rfl rfl rfl ?_
    obtain ⟨s2, hs2, h⟩ := hq_bind h
    refine hq_inv rfl rfl (Nat.le_trans (by decide) hd) rfl rfl (hq_rcv (hq_shN (by decide)) rfl) (f_X5_copyFrom_run (Nat.le_sub_of_add_le (Nat.le_trans (by decide) hd)) (by decide) (by decide) hs2) rfl ?_
    refine hq_p 1 21 [some (.ref 0)] [.ref 0] (fun n h => rfl) ?_
    refine hq_gf (x := .ref 103) rfl rfl rfl rfl rfl ?_
    refine hq_p 1 25 [some (.ref 0)] [.ref 0, .ref 103] (fun n h => rfl) ?_
    refine hq_gf (x := .ref (hq_gr s2 0 2)) rfl rfl rfl rfl rfl ?_
    have m3 : hq_isT (hq_gr s2 0 2) := hq_ifT h
    rw [if_pos m3] at h
    refine hq_p 1 29 [some (.ref 0)] [.ref 0, .ref (hq_gr s2 0 2), .ref 103] (fun n h => rfl) ?_
    refine hq_gf (x := .ref 76) rfl rfl rfl rfl rfl ?_
    refine hq_gf (x := .int (hq_gi s2 76 2)) rfl rfl rfl rfl rfl ?_
    refine hq_p 1 36 [some (.ref 0)] [.int (0 : Int32), .int (hq_gi s2 76 2), .ref (hq_gr s2 0 2), .ref 103] (fun n h => rfl) ?_
    obtain ⟨s4, hs4, h⟩ := hq_bind h
    refine hq_inv rfl rfl (Nat.le_trans (by decide) hd) rfl rfl (hq_rcv (hq_shS (by decide)) rfl) (f_X8_build_run (Nat.le_sub_of_add_le (Nat.le_trans (by decide) hd)) (by decide) m3 hs4) rfl ?_
    refine hq_p 1 40 [some (.ref 0)] [.ref 0] (fun n h => rfl) ?_
    refine hq_gf (x := .ref 170) rfl rfl rfl rfl rfl ?_
    obtain ⟨s5, hs5, h⟩ := hq_bind h
    refine hq_inv rfl rfl (Nat.le_trans (by decide) hd) rfl rfl (hq_rcv rfl rfl) (f_X1_clear_run (Nat.le_sub_of_add_le (Nat.le_trans (by decide) hd)) hs5) rfl ?_
    refine hq_p 1 47 [some (.ref 0)] [.ref 0] (fun n h => rfl) ?_
    refine hq_gf (x := .ref 76) rfl rfl rfl rfl rfl ?_
    refine hq_gf (x := .int (hq_gi s5 76 0)) rfl rfl rfl rfl rfl ?_
    have h := Option.some.inj h
    subst h
    exact ⟨1, rfl⟩
def f_X11_count (n : Nat) (a1 : Int32) (s : hq_S) : Option (Int32 × hq_S) := if a1 = (0 : Int32) then if hq_isT (hq_gr s 0 2) then some ((hq_gi s (hq_gr s 0 2) 0), s) else none else if a1 = (1 : Int32) then if hq_isT (hq_gr s 0 2) then some ((hq_gi s (hq_gr s 0 2) 3), s) else none else if a1 = (2 : Int32) then if hq_isT (hq_gr s 0 2) then some ((hq_gi s (hq_gr s 0 2) 7), s) else none else if a1 = (3 : Int32) then if hq_isT (hq_gr s 0 2) then some ((hq_gi s (hq_gr s 0 2) 11), s) else none else if a1 = (4 : Int32) then if hq_isT (hq_gr s 0 2) then some ((hq_gi s ((hq_gr s 0 2) + 9) 0), s) else none else if a1 = (5 : Int32) then some ((hq_gi s 76 0), s) else if a1 = (6 : Int32) then if hq_isT (hq_gr s 0 2) then (f_X5_howManyCaught n 76 (hq_gi s (hq_gr s 0 2) 11) s).bind fun y14 => some (y14.1, y14.2) else none else if a1 = (7 : Int32) then if hq_isT (hq_gr s 0 2) then (f_X5_lootOfAll n 76 (hq_gi s (hq_gr s 0 2) 0) s).bind fun y17 => some (y17.1, y17.2) else none else if a1 = (8 : Int32) then if hq_isT (hq_gr s 0 2) then (f_X5_hadByAll n 76 (hq_gi s (hq_gr s 0 2) 11) s).bind fun y20 => some (y20.1, y20.2) else none else if a1 = (9 : Int32) then (f_J6_bitCount_0f7a4 n (hq_gi s 76 2) s).bind fun y22 => some (y22.1, y22.2) else if a1 = (10 : Int32) then some ((hq_gi s 163 0), s) else if a1 = (11 : Int32) then (f_X2_knownBy n s).bind fun y25 => some (y25.1, y25.2) else if a1 = (12 : Int32) then some ((hq_gi s 170 0), s) else some ((-1 : Int32), s)
theorem f_X11_count_run {xs : List Int32} {n d g : Nat} {a1 : Int32} {s : hq_S} {y : (Int32 × hq_S)} (hd : 2 ≤ d) (h : f_X11_count n a1 s = some y) : hq_R (mm_O xs) d mc_X11_count 0 [some (.ref 0), some (.int a1)] [] s g (some (.int y.1)) y.2 := by
  unfold f_X11_count at h
  refine hq_p 1 1 [some (.ref 0), some (.int a1)] [.int a1] (fun n h => rfl) ?_
  by_cases c1 : a1 = (0 : Int32)
  · rw [if_pos c1] at h
    refine hq_tsw rfl (show _ = some 68 from by rw [c1]; decide) ?_
    refine hq_p 1 69 [some (.ref 0), some (.int a1)] [.ref 0] (fun n h => rfl) ?_
    refine hq_gf (x := .ref (hq_gr s 0 2)) rfl rfl rfl rfl rfl ?_
    have m2 : hq_isT (hq_gr s 0 2) := hq_ifT h
    rw [if_pos m2] at h
    refine hq_gf (x := .int (hq_gi s (hq_gr s 0 2) 0)) rfl (hq_shT m2) rfl rfl rfl ?_
    have h := Option.some.inj h
    subst h
    exact ⟨1, rfl⟩
  rw [if_neg c1] at h
  by_cases c3 : a1 = (1 : Int32)
  · rw [if_pos c3] at h
    refine hq_tsw rfl (show _ = some 76 from by rw [c3]; decide) ?_
    refine hq_p 1 77 [some (.ref 0), some (.int a1)] [.ref 0] (fun n h => rfl) ?_
    refine hq_gf (x := .ref (hq_gr s 0 2)) rfl rfl rfl rfl rfl ?_
    have m4 : hq_isT (hq_gr s 0 2) := hq_ifT h
    rw [if_pos m4] at h
    refine hq_gf (x := .int (hq_gi s (hq_gr s 0 2) 3)) rfl (hq_shT m4) rfl rfl rfl ?_
    have h := Option.some.inj h
    subst h
    exact ⟨1, rfl⟩
  rw [if_neg c3] at h
  by_cases c5 : a1 = (2 : Int32)
  · rw [if_pos c5] at h
    refine hq_tsw rfl (show _ = some 84 from by rw [c5]; decide) ?_
    refine hq_p 1 85 [some (.ref 0), some (.int a1)] [.ref 0] (fun n h => rfl) ?_
    refine hq_gf (x := .ref (hq_gr s 0 2)) rfl rfl rfl rfl rfl ?_
    have m6 : hq_isT (hq_gr s 0 2) := hq_ifT h
    rw [if_pos m6] at h
    refine hq_gf (x := .int (hq_gi s (hq_gr s 0 2) 7)) rfl (hq_shT m6) rfl rfl rfl ?_
    have h := Option.some.inj h
    subst h
    exact ⟨1, rfl⟩
  rw [if_neg c5] at h
  by_cases c7 : a1 = (3 : Int32)
  · rw [if_pos c7] at h
    refine hq_tsw rfl (show _ = some 92 from by rw [c7]; decide) ?_
    refine hq_p 1 93 [some (.ref 0), some (.int a1)] [.ref 0] (fun n h => rfl) ?_
    refine hq_gf (x := .ref (hq_gr s 0 2)) rfl rfl rfl rfl rfl ?_
    have m8 : hq_isT (hq_gr s 0 2) := hq_ifT h
    rw [if_pos m8] at h
    refine hq_gf (x := .int (hq_gi s (hq_gr s 0 2) 11)) rfl (hq_shT m8) rfl rfl rfl ?_
    have h := Option.some.inj h
    subst h
    exact ⟨1, rfl⟩
  rw [if_neg c7] at h
  by_cases c9 : a1 = (4 : Int32)
  · rw [if_pos c9] at h
    refine hq_tsw rfl (show _ = some 100 from by rw [c9]; decide) ?_
    refine hq_p 1 101 [some (.ref 0), some (.int a1)] [.ref 0] (fun n h => rfl) ?_
    refine hq_gf (x := .ref (hq_gr s 0 2)) rfl rfl rfl rfl rfl ?_
    have m10 : hq_isT (hq_gr s 0 2) := hq_ifT h
    rw [if_pos m10] at h
    refine hq_gf (x := .ref ((hq_gr s 0 2) + 9)) rfl (hq_shT m10) rfl rfl (hq_fldr (hq_shT_u m10)) ?_
    refine hq_gf (x := .int (hq_gi s ((hq_gr s 0 2) + 9) 0)) rfl (hq_shL (hq_shT_m9 m10)) rfl rfl rfl ?_
    have h := Option.some.inj h
    subst h
    exact ⟨1, rfl⟩
  rw [if_neg c9] at h
  by_cases c11 : a1 = (5 : Int32)
  · rw [if_pos c11] at h
    refine hq_tsw rfl (show _ = some 111 from by rw [c11]; decide) ?_
    refine hq_p 1 112 [some (.ref 0), some (.int a1)] [.ref 0] (fun n h => rfl) ?_
    refine hq_gf (x := .ref 76) rfl rfl rfl rfl rfl ?_
    refine hq_gf (x := .int (hq_gi s 76 0)) rfl rfl rfl rfl rfl ?_
    have h := Option.some.inj h
    subst h
    exact ⟨1, rfl⟩
  rw [if_neg c11] at h
  by_cases c12 : a1 = (6 : Int32)
  · rw [if_pos c12] at h
    refine hq_tsw rfl (show _ = some 119 from by rw [c12]; decide) ?_
    refine hq_p 1 120 [some (.ref 0), some (.int a1)] [.ref 0] (fun n h => rfl) ?_
    refine hq_gf (x := .ref 76) rfl rfl rfl rfl rfl ?_
    refine hq_p 1 124 [some (.ref 0), some (.int a1)] [.ref 0, .ref 76] (fun n h => rfl) ?_
    refine hq_gf (x := .ref (hq_gr s 0 2)) rfl rfl rfl rfl rfl ?_
    have m13 : hq_isT (hq_gr s 0 2) := hq_ifT h
    rw [if_pos m13] at h
    refine hq_gf (x := .int (hq_gi s (hq_gr s 0 2) 11)) rfl (hq_shT m13) rfl rfl rfl ?_
    obtain ⟨y14, hy14, h⟩ := hq_bind h
    refine hq_inv rfl rfl (Nat.le_trans (by decide) hd) rfl rfl (hq_rcv (hq_shN (by decide)) rfl) (f_X5_howManyCaught_run (Nat.le_sub_of_add_le (Nat.le_trans (by decide) hd)) (by decide) hy14) rfl ?_
    have h := Option.some.inj h
    subst h
    exact ⟨1, rfl⟩
  rw [if_neg c12] at h
  by_cases c15 : a1 = (7 : Int32)
  · rw [if_pos c15] at h
    refine hq_tsw rfl (show _ = some 134 from by rw [c15]; decide) ?_
    refine hq_p 1 135 [some (.ref 0), some (.int a1)] [.ref 0] (fun n h => rfl) ?_
    refine hq_gf (x := .ref 76) rfl rfl rfl rfl rfl ?_
    refine hq_p 1 139 [some (.ref 0), some (.int a1)] [.ref 0, .ref 76] (fun n h => rfl) ?_
    refine hq_gf (x := .ref (hq_gr s 0 2)) rfl rfl rfl rfl rfl ?_
    have m16 : hq_isT (hq_gr s 0 2) := hq_ifT h
    rw [if_pos m16] at h
    refine hq_gf (x := .int (hq_gi s (hq_gr s 0 2) 0)) rfl (hq_shT m16) rfl rfl rfl ?_
    obtain ⟨y17, hy17, h⟩ := hq_bind h
    refine hq_inv rfl rfl (Nat.le_trans (by decide) hd) rfl rfl (hq_rcv (hq_shN (by decide)) rfl) (f_X5_lootOfAll_run (Nat.le_sub_of_add_le (Nat.le_trans (by decide) hd)) (by decide) hy17) rfl ?_
    have h := Option.some.inj h
    subst h
    exact ⟨1, rfl⟩
  rw [if_neg c15] at h
  by_cases c18 : a1 = (8 : Int32)
  · rw [if_pos c18] at h
    refine hq_tsw rfl (show _ = some 149 from by rw [c18]; decide) ?_
    refine hq_p 1 150 [some (.ref 0), some (.int a1)] [.ref 0] (fun n h => rfl) ?_
    refine hq_gf (x := .ref 76) rfl rfl rfl rfl rfl ?_
    refine hq_p 1 154 [some (.ref 0), some (.int a1)] [.ref 0, .ref 76] (fun n h => rfl) ?_
    refine hq_gf (x := .ref (hq_gr s 0 2)) rfl rfl rfl rfl rfl ?_
    have m19 : hq_isT (hq_gr s 0 2) := hq_ifT h
    rw [if_pos m19] at h
    refine hq_gf (x := .int (hq_gi s (hq_gr s 0 2) 11)) rfl (hq_shT m19) rfl rfl rfl ?_
    obtain ⟨y20, hy20, h⟩ := hq_bind h
    refine hq_inv rfl rfl (Nat.le_trans (by decide) hd) rfl rfl (hq_rcv (hq_shN (by decide)) rfl) (f_X5_hadByAll_run (Nat.le_sub_of_add_le (Nat.le_trans (by decide) hd)) (by decide) hy20) rfl ?_
    have h := Option.some.inj h
    subst h
    exact ⟨1, rfl⟩
  rw [if_neg c18] at h
  by_cases c21 : a1 = (9 : Int32)
  · rw [if_pos c21] at h
    refine hq_tsw rfl (show _ = some 164 from by rw [c21]; decide) ?_
    refine hq_p 1 165 [some (.ref 0), some (.int a1)] [.ref 0] (fun n h => rfl) ?_
    refine hq_gf (x := .ref 76) rfl rfl rfl rfl rfl ?_
    refine hq_gf (x := .int (hq_gi s 76 2)) rfl rfl rfl rfl rfl ?_
    obtain ⟨y22, hy22, h⟩ := hq_bind h
    refine hq_ist rfl rfl rfl (Nat.le_trans (by decide) hd) rfl (f_J6_bitCount_0f7a4_run (Nat.le_sub_of_add_le (Nat.le_trans (by decide) hd)) hy22) rfl ?_
    have h := Option.some.inj h
    subst h
    exact ⟨1, rfl⟩
  rw [if_neg c21] at h
  by_cases c23 : a1 = (10 : Int32)
  · rw [if_pos c23] at h
    refine hq_tsw rfl (show _ = some 175 from by rw [c23]; decide) ?_
    refine hq_p 1 176 [some (.ref 0), some (.int a1)] [.ref 0] (fun n h => rfl) ?_
    refine hq_gf (x := .ref 163) rfl rfl rfl rfl rfl ?_
    refine hq_gf (x := .int (hq_gi s 163 0)) rfl rfl rfl rfl rfl ?_
    have h := Option.some.inj h
    subst h
    exact ⟨1, rfl⟩
  rw [if_neg c23] at h
  by_cases c24 : a1 = (11 : Int32)
  · rw [if_pos c24] at h
    refine hq_tsw rfl (show _ = some 183 from by rw [c24]; decide) ?_
    refine hq_p 1 184 [some (.ref 0), some (.int a1)] [.ref 0] (fun n h => rfl) ?_
    refine hq_gf (x := .ref 163) rfl rfl rfl rfl rfl ?_
    obtain ⟨y25, hy25, h⟩ := hq_bind h
    refine hq_inv rfl rfl (Nat.le_trans (by decide) hd) rfl rfl (hq_rcv rfl rfl) (f_X2_knownBy_run (Nat.le_sub_of_add_le (Nat.le_trans (by decide) hd)) hy25) rfl ?_
    have h := Option.some.inj h
    subst h
    exact ⟨1, rfl⟩
  rw [if_neg c24] at h
  by_cases c26 : a1 = (12 : Int32)
  · rw [if_pos c26] at h
    refine hq_tsw rfl (show _ = some 191 from by rw [c26]; decide) ?_
    refine hq_p 1 192 [some (.ref 0), some (.int a1)] [.ref 0] (fun n h => rfl) ?_
    refine hq_gf (x := .ref 170) rfl rfl rfl rfl rfl ?_
    refine hq_gf (x := .int (hq_gi s 170 0)) rfl rfl rfl rfl rfl ?_
    have h := Option.some.inj h
    subst h
    exact ⟨1, rfl⟩
  rw [if_neg c26] at h
  refine hq_tsw rfl (hq_tsw_d [(0 : Int32), (1 : Int32), (2 : Int32), (3 : Int32), (4 : Int32), (5 : Int32), (6 : Int32), (7 : Int32), (8 : Int32), (9 : Int32), (10 : Int32), (11 : Int32), (12 : Int32)] (by decide) rfl ⟨c1, c3, c5, c7, c9, c11, c12, c15, c18, c21, c23, c24, c26, trivial⟩) ?_
  refine hq_icn (-1 : Int32) rfl (by decide) ?_
  have h := Option.some.inj h
  subst h
  exact ⟨1, rfl⟩
def f_X12_thrown (n : Nat) (s : hq_S) : Option (Int32 × hq_S) := some ((hq_gi s 174 0), s)
theorem f_X12_thrown_run {xs : List Int32} {n d g : Nat} {s : hq_S} {y : (Int32 × hq_S)} (hd : 0 ≤ d) (h : f_X12_thrown n s = some y) : hq_R (mm_O xs) d mc_X12_thrown 0 [some (.ref 174)] [] s g (some (.int y.1)) y.2 := by
  unfold f_X12_thrown at h
  refine hq_p 1 1 [some (.ref 174)] [.ref 174] (fun n h => rfl) ?_
  refine hq_gf (x := .int (hq_gi s 174 0)) rfl rfl rfl rfl rfl ?_
  have h := Option.some.inj h
  subst h
  exact ⟨1, rfl⟩
def f_X12_feed_L20_B (n : Nat) (q20 : Int32 → Int32 → Int32 → Int32 → Int32 → Int32 → hq_S → Option (Int32 × hq_S)) (a1 : Int32) (a2 : Int32) (a3 : Int32) (a4 : Int32) (a5 : Int32) (a6 : Int32) (s : hq_S) : Option (Int32 × hq_S) := if a6 < (20 : Int32) then (if a6 < (4 : Int32) then some a1 else if a6 < (8 : Int32) then some a2 else if a6 < (12 : Int32) then some a3 else if a6 < (16 : Int32) then some a4 else some a5).bind fun z5 => (hq_irem a6 (4 : Int32)).bind fun x10 => (hq_st s 175 700 ((hq_gi s 174 2) + a6) ((z5 >>> (((24 : Int32) - ((8 : Int32) * x10)) &&& 31)) &&& (255 : Int32))).bind fun s11 => q20 a1 a2 a3 a4 a5 (a6 + (1 : Int32)) s11 else (hq_pi s 174 2 0 ((hq_gi s 174 2) + (20 : Int32))).bind fun s4 => some ((hq_gi s4 174 2), s4)
def f_X12_feed_L20 (n : Nat) (m : Nat) : Int32 → Int32 → Int32 → Int32 → Int32 → Int32 → hq_S → Option (Int32 × hq_S) := Nat.rec (fun _ _ _ _ _ _ _ => none) (fun _ q => f_X12_feed_L20_B n q) m
theorem f_X12_feed_L20_Brun {xs : List Int32} {n d g : Nat} {a1 : Int32} {a2 : Int32} {a3 : Int32} {a4 : Int32} {a5 : Int32} {a6 : Int32} {o7 : Option Value} {q20 : Int32 → Int32 → Int32 → Int32 → Int32 → Int32 → hq_S → Option (Int32 × hq_S)} {s : hq_S} {y : (Int32 × hq_S)} (hd : 0 ≤ d) (e20 : ∀ (a1 : Int32) (a2 : Int32) (a3 : Int32) (a4 : Int32) (a5 : Int32) (a6 : Int32) (o7 : Option Value) (s : hq_S), q20 a1 a2 a3 a4 a5 a6 s = some y → hq_R (mm_O xs) d mc_X12_feed 20 [some (.ref 174), some (.int a1), some (.int a2), some (.int a3), some (.int a4), some (.int a5), some (.int a6), o7] [] s g (some (.int y.1)) y.2) (h : f_X12_feed_L20_B n q20 a1 a2 a3 a4 a5 a6 s = some y) : hq_R (mm_O xs) d mc_X12_feed 20 [some (.ref 174), some (.int a1), some (.int a2), some (.int a3), some (.int a4), some (.int a5), some (.int a6), o7] [] s g (some (.int y.1)) y.2 := by
  unfold f_X12_feed_L20_B at h
  refine hq_p 1 22 [some (.ref 174), some (.int a1), some (.int a2), some (.int a3), some (.int a4), some (.int a5), some (.int a6), o7] [.int a6] (fun n h => rfl) ?_
  refine hq_bip (20 : Int32) rfl (by decide) ?_
  by_cases c3 : a6 < (20 : Int32)
  · rw [if_pos c3] at h
    refine hq_icF rfl (hq_c_ge_F c3) ?_
    refine hq_p 2 30 [some (.ref 174), some (.int a1), some (.int a2), some (.int a3), some (.int a4), some (.int a5), some (.int a6), o7] [.int (4 : Int32), .int a6] (fun n h => rfl) ?_
    obtain ⟨z5, hz5, h⟩ := hq_bind h
    suffices hT : hq_R (mm_O xs) d mc_X12_feed 73 [some (.ref 174), some (.int a1), some (.int a2), some (.int a3), some (.int a4), some (.int a5), some (.int a6), o7] [.int z5] s g (some (.int y.1)) y.2 from by
      clear h
      have h := hz5
      by_cases c6 : a6 < (4 : Int32)
      · rw [if_pos c6] at h
        refine hq_icF rfl (hq_c_ge_F c6) ?_
        refine hq_p 2 73 [some (.ref 174), some (.int a1), some (.int a2), some (.int a3), some (.int a4), some (.int a5), some (.int a6), o7] [.int a1] (fun n h => rfl) ?_
        cases h
        exact hT
      · rw [if_neg c6] at h
        refine hq_icT rfl (hq_c_ge_T c6) ?_
        refine hq_p 2 41 [some (.ref 174), some (.int a1), some (.int a2), some (.int a3), some (.int a4), some (.int a5), some (.int a6), o7] [.int (8 : Int32), .int a6] (fun n h => rfl) ?_
        by_cases c7 : a6 < (8 : Int32)
        · rw [if_pos c7] at h
          refine hq_icF rfl (hq_c_ge_F c7) ?_
          refine hq_p 2 73 [some (.ref 174), some (.int a1), some (.int a2), some (.int a3), some (.int a4), some (.int a5), some (.int a6), o7] [.int a2] (fun n h => rfl) ?_
          cases h
          exact hT
        · rw [if_neg c7] at h
          refine hq_icT rfl (hq_c_ge_T c7) ?_
          refine hq_p 2 52 [some (.ref 174), some (.int a1), some (.int a2), some (.int a3), some (.int a4), some (.int a5), some (.int a6), o7] [.int (12 : Int32), .int a6] (fun n h => rfl) ?_
          by_cases c8 : a6 < (12 : Int32)
          · rw [if_pos c8] at h
            refine hq_icF rfl (hq_c_ge_F c8) ?_
            refine hq_p 2 73 [some (.ref 174), some (.int a1), some (.int a2), some (.int a3), some (.int a4), some (.int a5), some (.int a6), o7] [.int a3] (fun n h => rfl) ?_
            cases h
            exact hT
          · rw [if_neg c8] at h
            refine hq_icT rfl (hq_c_ge_T c8) ?_
            refine hq_p 2 63 [some (.ref 174), some (.int a1), some (.int a2), some (.int a3), some (.int a4), some (.int a5), some (.int a6), o7] [.int (16 : Int32), .int a6] (fun n h => rfl) ?_
            by_cases c9 : a6 < (16 : Int32)
            · rw [if_pos c9] at h
              refine hq_icF rfl (hq_c_ge_F c9) ?_
              refine hq_p 2 73 [some (.ref 174), some (.int a1), some (.int a2), some (.int a3), some (.int a4), some (.int a5), some (.int a6), o7] [.int a4] (fun n h => rfl) ?_
              cases h
              exact hT
            · rw [if_neg c9] at h
              refine hq_icT rfl (hq_c_ge_T c9) ?_
              refine hq_p 1 73 [some (.ref 174), some (.int a1), some (.int a2), some (.int a3), some (.int a4), some (.int a5), some (.int a6), o7] [.int a5] (fun n h => rfl) ?_
              cases h
              exact hT
    refine hq_p 2 76 [some (.ref 174), some (.int a1), some (.int a2), some (.int a3), some (.int a4), some (.int a5), some (.int a6), some (.int z5)] [.ref 174] (fun n h => rfl) ?_
    refine hq_gf (x := .ref 175) rfl rfl rfl rfl rfl ?_
    refine hq_p 1 80 [some (.ref 174), some (.int a1), some (.int a2), some (.int a3), some (.int a4), some (.int a5), some (.int a6), some (.int z5)] [.ref 174, .ref 175] (fun n h => rfl) ?_
    refine hq_gf (x := .int (hq_gi s 174 2)) rfl rfl rfl rfl rfl ?_
    refine hq_p 3 88 [some (.ref 174), some (.int a1), some (.int a2), some (.int a3), some (.int a4), some (.int a5), some (.int a6), some (.int z5)] [.int z5, .int ((hq_gi s 174 2) + a6), .ref 175] (fun n h => rfl) ?_
    refine hq_bip (24 : Int32) rfl (by decide) ?_
    refine hq_p 3 95 [some (.ref 174), some (.int a1), some (.int a2), some (.int a3), some (.int a4), some (.int a5), some (.int a6), some (.int z5)] [.int (4 : Int32), .int a6, .int (8 : Int32), .int (24 : Int32), .int z5, .int ((hq_gi s 174 2) + a6), .ref 175] (fun n h => rfl) ?_
    obtain ⟨x10, hx10, h⟩ := hq_bind h
    refine hq_irem_ rfl hx10 ?_
    refine hq_p 3 99 [some (.ref 174), some (.int a1), some (.int a2), some (.int a3), some (.int a4), some (.int a5), some (.int a6), some (.int z5)] [.int (z5 >>> (((24 : Int32) - ((8 : Int32) * x10)) &&& 31)), .int ((hq_gi s 174 2) + a6), .ref 175] (fun n h => rfl) ?_
    refine hq_sip (255 : Int32) rfl (by decide) ?_
    refine hq_p 1 103 [some (.ref 174), some (.int a1), some (.int a2), some (.int a3), some (.int a4), some (.int a5), some (.int a6), some (.int z5)] [.int ((z5 >>> (((24 : Int32) - ((8 : Int32) * x10)) &&& 31)) &&& (255 : Int32)), .int ((hq_gi s 174 2) + a6), .ref 175] (fun n h => rfl) ?_
    obtain ⟨s11, hs11, h⟩ := hq_bind h
    refine hq_iastore rfl rfl List.length_replicate hs11 ?_
    refine hq_p 2 20 [some (.ref 174), some (.int a1), some (.int a2), some (.int a3), some (.int a4), some (.int a5), some (.int (a6 + (1 : Int32))), some (.int z5)] [] (fun n h => rfl) ?_
    exact e20 a1 a2 a3 a4 a5 (a6 + (1 : Int32)) _ s11 h
  · rw [if_neg c3] at h
    refine hq_icT rfl (hq_c_ge_T c3) ?_
    refine hq_p 2 112 [some (.ref 174), some (.int a1), some (.int a2), some (.int a3), some (.int a4), some (.int a5), some (.int a6), o7] [.ref 174, .ref 174] (fun n h => rfl) ?_
    refine hq_gf (x := .int (hq_gi s 174 2)) rfl rfl rfl rfl rfl ?_
    refine hq_bip (20 : Int32) rfl (by decide) ?_
    refine hq_p 1 118 [some (.ref 174), some (.int a1), some (.int a2), some (.int a3), some (.int a4), some (.int a5), some (.int a6), o7] [.int ((hq_gi s 174 2) + (20 : Int32)), .ref 174] (fun n h => rfl) ?_
    obtain ⟨s4, hs4, h⟩ := hq_bind h
    refine hq_pfi rfl rfl rfl rfl rfl hs4 ?_
    refine hq_p 1 122 [some (.ref 174), some (.int a1), some (.int a2), some (.int a3), some (.int a4), some (.int a5), some (.int a6), o7] [.ref 174] (fun n h => rfl) ?_
    refine hq_gf (x := .int (hq_gi s4 174 2)) rfl rfl rfl rfl rfl ?_
    have h := Option.some.inj h
    subst h
    exact ⟨1, rfl⟩
theorem f_X12_feed_L20_run {xs : List Int32} {n m d g : Nat} {a1 : Int32} {a2 : Int32} {a3 : Int32} {a4 : Int32} {a5 : Int32} {a6 : Int32} {o7 : Option Value} {s : hq_S} {y : (Int32 × hq_S)} (hd : 0 ≤ d) (h : f_X12_feed_L20 n m a1 a2 a3 a4 a5 a6 s = some y) : hq_R (mm_O xs) d mc_X12_feed 20 [some (.ref 174), some (.int a1), some (.int a2), some (.int a3), some (.int a4), some (.int a5), some (.int a6), o7] [] s g (some (.int y.1)) y.2 := by
  induction m generalizing a1 a2 a3 a4 a5 a6 o7 s with
  | zero => cases h
  | succ m ih => exact f_X12_feed_L20_Brun (n := n) hd (fun a1 a2 a3 a4 a5 a6 o7 s h => ih h) h
def f_X12_feed (n : Nat) (a1 : Int32) (a2 : Int32) (a3 : Int32) (a4 : Int32) (a5 : Int32) (s : hq_S) : Option (Int32 × hq_S) := (hq_pi s 174 0 0 (0 : Int32)).bind fun s1 => if (680 : Int32) < (hq_gi s1 174 2) then some ((-1 : Int32), s1) else f_X12_feed_L20 n n a1 a2 a3 a4 a5 (0 : Int32) s1
theorem f_X12_feed_run {xs : List Int32} {n d g : Nat} {a1 : Int32} {a2 : Int32} {a3 : Int32} {a4 : Int32} {a5 : Int32} {s : hq_S} {y : (Int32 × hq_S)} (hd : 0 ≤ d) (h : f_X12_feed n a1 a2 a3 a4 a5 s = some y) : hq_R (mm_O xs) d mc_X12_feed 0 [some (.ref 174), some (.int a1), some (.int a2), some (.int a3), some (.int a4), some (.int a5), none, none] [] s g (some (.int y.1)) y.2 := by
  unfold f_X12_feed at h
  refine hq_p 2 2 [some (.ref 174), some (.int a1), some (.int a2), some (.int a3), some (.int a4), some (.int a5), none, none] [.int (0 : Int32), .ref 174] (fun n h => rfl) ?_
  obtain ⟨s1, hs1, h⟩ := hq_bind h
  refine hq_pfi rfl rfl rfl rfl rfl hs1 ?_
  refine hq_p 1 6 [some (.ref 174), some (.int a1), some (.int a2), some (.int a3), some (.int a4), some (.int a5), none, none] [.ref 174] (fun n h => rfl) ?_
  refine hq_gf (x := .int (hq_gi s1 174 2)) rfl rfl rfl rfl rfl ?_
  refine hq_sip (680 : Int32) rfl (by decide) ?_
  by_cases c2 : (680 : Int32) < (hq_gi s1 174 2)
  · rw [if_pos c2] at h
    refine hq_icF rfl (hq_c_le_F c2) ?_
    refine hq_icn (-1 : Int32) rfl (by decide) ?_
    have h := Option.some.inj h
    subst h
    exact ⟨1, rfl⟩
  · rw [if_neg c2] at h
    refine hq_icT rfl (hq_c_le_T c2) ?_
    refine hq_p 2 20 [some (.ref 174), some (.int a1), some (.int a2), some (.int a3), some (.int a4), some (.int a5), some (.int (0 : Int32)), none] [] (fun n h => rfl) ?_
    exact f_X12_feed_L20_run hd h
def f_X12_here (n : Nat) (s : hq_S) : Option (Int32 × hq_S) := if (hq_gi s 174 24) < (hq_gi s 174 23) then (hq_ld s 175 700 (hq_gi s 174 24)).bind fun x2 => some (x2, s) else some ((-1 : Int32), s)
theorem f_X12_here_run {xs : List Int32} {n d g : Nat} {s : hq_S} {y : (Int32 × hq_S)} (hd : 0 ≤ d) (h : f_X12_here n s = some y) : hq_R (mm_O xs) d mc_X12_here 0 [some (.ref 174)] [] s g (some (.int y.1)) y.2 := by
  unfold f_X12_here at h
  refine hq_p 1 1 [some (.ref 174)] [.ref 174] (fun n h => rfl) ?_
  refine hq_gf (x := .int (hq_gi s 174 24)) rfl rfl rfl rfl rfl ?_
  refine hq_p 1 5 [some (.ref 174)] [.ref 174, .int (hq_gi s 174 24)] (fun n h => rfl) ?_
  refine hq_gf (x := .int (hq_gi s 174 23)) rfl rfl rfl rfl rfl ?_
  by_cases c1 : (hq_gi s 174 24) < (hq_gi s 174 23)
  · rw [if_pos c1] at h
    refine hq_icF rfl (hq_c_ge_F c1) ?_
    refine hq_p 1 12 [some (.ref 174)] [.ref 174] (fun n h => rfl) ?_
    refine hq_gf (x := .ref 175) rfl rfl rfl rfl rfl ?_
    refine hq_p 1 16 [some (.ref 174)] [.ref 174, .ref 175] (fun n h => rfl) ?_
    refine hq_gf (x := .int (hq_gi s 174 24)) rfl rfl rfl rfl rfl ?_
    obtain ⟨x2, hx2, h⟩ := hq_bind h
    refine hq_iaload rfl rfl List.length_replicate hx2 ?_
    refine hq_p 1 24 [some (.ref 174)] [.int x2] (fun n h => rfl) ?_
    have h := Option.some.inj h
    subst h
    exact ⟨1, rfl⟩
  · rw [if_neg c1] at h
    refine hq_icT rfl (hq_c_ge_T c1) ?_
    refine hq_icn (-1 : Int32) rfl (by decide) ?_
    have h := Option.some.inj h
    subst h
    exact ⟨1, rfl⟩
def f_X12_isSmall (n : Nat) (a0 : Int32) (s : hq_S) : Option (Int32 × hq_S) := if a0 < (97 : Int32) then some ((0 : Int32), s) else if (122 : Int32) < a0 then some ((0 : Int32), s) else some ((1 : Int32), s)
theorem f_X12_isSmall_run {xs : List Int32} {n d g : Nat} {a0 : Int32} {s : hq_S} {y : (Int32 × hq_S)} (hd : 0 ≤ d) (h : f_X12_isSmall n a0 s = some y) : hq_R (mm_O xs) d mc_X12_isSmall 0 [some (.int a0)] [] s g (some (.int y.1)) y.2 := by
  unfold f_X12_isSmall at h
  refine hq_p 1 1 [some (.int a0)] [.int a0] (fun n h => rfl) ?_
  refine hq_bip (97 : Int32) rfl (by decide) ?_
  by_cases c1 : a0 < (97 : Int32)
  · rw [if_pos c1] at h
    refine hq_icT rfl (hq_c_lt_T c1) ?_
    refine hq_p 1 17 [some (.int a0)] [.int (0 : Int32)] (fun n h => rfl) ?_
    have h := Option.some.inj h
    subst h
    exact ⟨1, rfl⟩
  · rw [if_neg c1] at h
    refine hq_icF rfl (hq_c_lt_F c1) ?_
    refine hq_p 1 7 [some (.int a0)] [.int a0] (fun n h => rfl) ?_
    refine hq_bip (122 : Int32) rfl (by decide) ?_
    by_cases c2 : (122 : Int32) < a0
    · rw [if_pos c2] at h
      refine hq_icT rfl (hq_c_gt_T c2) ?_
      refine hq_p 1 17 [some (.int a0)] [.int (0 : Int32)] (fun n h => rfl) ?_
      have h := Option.some.inj h
      subst h
      exact ⟨1, rfl⟩
    · rw [if_neg c2] at h
      refine hq_icF rfl (hq_c_gt_F c2) ?_
      refine hq_p 2 17 [some (.int a0)] [.int (1 : Int32)] (fun n h => rfl) ?_
      have h := Option.some.inj h
      subst h
      exact ⟨1, rfl⟩
def f_X12_isDigit (n : Nat) (a0 : Int32) (s : hq_S) : Option (Int32 × hq_S) := if a0 < (48 : Int32) then some ((0 : Int32), s) else if (57 : Int32) < a0 then some ((0 : Int32), s) else some ((1 : Int32), s)
theorem f_X12_isDigit_run {xs : List Int32} {n d g : Nat} {a0 : Int32} {s : hq_S} {y : (Int32 × hq_S)} (hd : 0 ≤ d) (h : f_X12_isDigit n a0 s = some y) : hq_R (mm_O xs) d mc_X12_isDigit 0 [some (.int a0)] [] s g (some (.int y.1)) y.2 := by
  unfold f_X12_isDigit at h
  refine hq_p 1 1 [some (.int a0)] [.int a0] (fun n h => rfl) ?_
  refine hq_bip (48 : Int32) rfl (by decide) ?_
  by_cases c1 : a0 < (48 : Int32)
  · rw [if_pos c1] at h
    refine hq_icT rfl (hq_c_lt_T c1) ?_
    refine hq_p 1 17 [some (.int a0)] [.int (0 : Int32)] (fun n h => rfl) ?_
    have h := Option.some.inj h
    subst h
    exact ⟨1, rfl⟩
  · rw [if_neg c1] at h
    refine hq_icF rfl (hq_c_lt_F c1) ?_
    refine hq_p 1 7 [some (.int a0)] [.int a0] (fun n h => rfl) ?_
    refine hq_bip (57 : Int32) rfl (by decide) ?_
    by_cases c2 : (57 : Int32) < a0
    · rw [if_pos c2] at h
      refine hq_icT rfl (hq_c_gt_T c2) ?_
      refine hq_p 1 17 [some (.int a0)] [.int (0 : Int32)] (fun n h => rfl) ?_
      have h := Option.some.inj h
      subst h
      exact ⟨1, rfl⟩
    · rw [if_neg c2] at h
      refine hq_icF rfl (hq_c_gt_F c2) ?_
      refine hq_p 2 17 [some (.int a0)] [.int (1 : Int32)] (fun n h => rfl) ?_
      have h := Option.some.inj h
      subst h
      exact ⟨1, rfl⟩
def f_X12_word_L97_B (n : Nat) (q4 : Int32 → Int32 → hq_S → Option (Int32 × hq_S)) (q97 : Int32 → Int32 → Int32 → hq_S → Option (Int32 × hq_S)) (a1 : Int32) (a2 : Int32) (a3 : Int32) (s : hq_S) : Option (Int32 × hq_S) := (hq_chr a2).bind fun x6 => if x6 = (32 : Int32) then q4 (a1 + (1 : Int32)) (a2 + (1 : Int32)) s else q97 a1 (a2 + (1 : Int32)) a3 s
def f_X12_word_L97 (n : Nat) (q4 : Int32 → Int32 → hq_S → Option (Int32 × hq_S)) (m : Nat) : Int32 → Int32 → Int32 → hq_S → Option (Int32 × hq_S) := Nat.rec (fun _ _ _ _ => none) (fun _ q => f_X12_word_L97_B n q4 q) m
theorem f_X12_word_L97_Brun {xs : List Int32} {n d g : Nat} {a1 : Int32} {a2 : Int32} {a3 : Int32} {q4 : Int32 → Int32 → hq_S → Option (Int32 × hq_S)} {q97 : Int32 → Int32 → Int32 → hq_S → Option (Int32 × hq_S)} {s : hq_S} {y : (Int32 × hq_S)} (hd : 6 ≤ d) (e4 : ∀ (a1 : Int32) (a2 : Int32) (o3 : Option Value) (s : hq_S), q4 a1 a2 s = some y → hq_R (mm_O xs) d mc_X12_word 4 [some (.ref 174), some (.int a1), some (.int a2), o3] [] s g (some (.int y.1)) y.2) (e97 : ∀ (a1 : Int32) (a2 : Int32) (a3 : Int32) (s : hq_S), q97 a1 a2 a3 s = some y → hq_R (mm_O xs) d mc_X12_word 97 [some (.ref 174), some (.int a1), some (.int a2), some (.int a3)] [] s g (some (.int y.1)) y.2) (h : f_X12_word_L97_B n q4 q97 a1 a2 a3 s = some y) : hq_R (mm_O xs) d mc_X12_word 97 [some (.ref 174), some (.int a1), some (.int a2), some (.int a3)] [] s g (some (.int y.1)) y.2 := by
  unfold f_X12_word_L97_B at h
  refine hq_p 2 100 [some (.ref 174), some (.int a1), some (.int a2), some (.int a3)] [.int a2, .retAddr 5] (fun n h => rfl) ?_
  obtain ⟨x6, hx6, h⟩ := hq_bind h
  refine hq_schr rfl (Nat.le_trans (by decide) hd) rfl hx6 ?_
  refine hq_bip (32 : Int32) rfl (by decide) ?_
  by_cases c7 : x6 = (32 : Int32)
  · rw [if_pos c7] at h
    refine hq_icT rfl (hq_c_eq_T c7) ?_
    refine hq_p 3 4 [some (.ref 174), some (.int (a1 + (1 : Int32))), some (.int (a2 + (1 : Int32))), some (.int a3)] [] (fun n h => rfl) ?_
    exact e4 (a1 + (1 : Int32)) (a2 + (1 : Int32)) _ s h
  · rw [if_neg c7] at h
    refine hq_icF rfl (hq_c_eq_F c7) ?_
    refine hq_p 2 97 [some (.ref 174), some (.int a1), some (.int (a2 + (1 : Int32))), some (.int a3)] [] (fun n h => rfl) ?_
    exact e97 a1 (a2 + (1 : Int32)) a3 s h
theorem f_X12_word_L97_run {xs : List Int32} {n m d g : Nat} {a1 : Int32} {a2 : Int32} {a3 : Int32} {q4 : Int32 → Int32 → hq_S → Option (Int32 × hq_S)} {s : hq_S} {y : (Int32 × hq_S)} (hd : 6 ≤ d) (e4 : ∀ (a1 : Int32) (a2 : Int32) (o3 : Option Value) (s : hq_S), q4 a1 a2 s = some y → hq_R (mm_O xs) d mc_X12_word 4 [some (.ref 174), some (.int a1), some (.int a2), o3] [] s g (some (.int y.1)) y.2) (h : f_X12_word_L97 n q4 m a1 a2 a3 s = some y) : hq_R (mm_O xs) d mc_X12_word 97 [some (.ref 174), some (.int a1), some (.int a2), some (.int a3)] [] s g (some (.int y.1)) y.2 := by
  induction m generalizing a1 a2 a3 s with
  | zero => cases h
  | succ m ih => exact f_X12_word_L97_Brun (n := n) hd e4 (fun a1 a2 a3 s h => ih h) h
def f_X12_word_J69 (n : Nat) (q4 : Int32 → Int32 → hq_S → Option (Int32 × hq_S)) (a1 : Int32) (a2 : Int32) (a3 : Int32) (s : hq_S) : Option (Int32 × hq_S) := (hq_chr (a2 + a3)).bind fun x4 => if x4 = (32 : Int32) then if ((hq_gi s 174 25) + a3) = (hq_gi s 174 24) then some (a1, s) else f_X12_word_L97 n q4 n a1 a2 a3 s else f_X12_word_L97 n q4 n a1 a2 a3 s
theorem f_X12_word_J69_run {xs : List Int32} {n d g : Nat} {a1 : Int32} {a2 : Int32} {a3 : Int32} {q4 : Int32 → Int32 → hq_S → Option (Int32 × hq_S)} {s : hq_S} {y : (Int32 × hq_S)} (hd : 6 ≤ d) (e4 : ∀ (a1 : Int32) (a2 : Int32) (o3 : Option Value) (s : hq_S), q4 a1 a2 s = some y → hq_R (mm_O xs) d mc_X12_word 4 [some (.ref 174), some (.int a1), some (.int a2), o3] [] s g (some (.int y.1)) y.2) (h : f_X12_word_J69 n q4 a1 a2 a3 s = some y) : hq_R (mm_O xs) d mc_X12_word 69 [some (.ref 174), some (.int a1), some (.int a2), some (.int a3)] [] s g (some (.int y.1)) y.2 := by
  unfold f_X12_word_J69 at h
  refine hq_p 4 74 [some (.ref 174), some (.int a1), some (.int a2), some (.int a3)] [.int (a2 + a3), .retAddr 5] (fun n h => rfl) ?_
  obtain ⟨x4, hx4, h⟩ := hq_bind h
  refine hq_schr rfl (Nat.le_trans (by decide) hd) rfl hx4 ?_
  refine hq_bip (32 : Int32) rfl (by decide) ?_
  by_cases c5 : x4 = (32 : Int32)
  · rw [if_pos c5] at h
    refine hq_icF rfl (hq_c_ne_F c5) ?_
    refine hq_p 1 83 [some (.ref 174), some (.int a1), some (.int a2), some (.int a3)] [.ref 174] (fun n h => rfl) ?_
    refine hq_gf (x := .int (hq_gi s 174 25)) rfl rfl rfl rfl rfl ?_
    refine hq_p 3 89 [some (.ref 174), some (.int a1), some (.int a2), some (.int a3)] [.ref 174, .int ((hq_gi s 174 25) + a3)] (fun n h => rfl) ?_
    refine hq_gf (x := .int (hq_gi s 174 24)) rfl rfl rfl rfl rfl ?_
    by_cases c8 : ((hq_gi s 174 25) + a3) = (hq_gi s 174 24)
    · rw [if_pos c8] at h
      refine hq_icF rfl (hq_c_ne_F c8) ?_
      refine hq_p 1 96 [some (.ref 174), some (.int a1), some (.int a2), some (.int a3)] [.int a1] (fun n h => rfl) ?_
      have h := Option.some.inj h
      subst h
      exact ⟨1, rfl⟩
    · rw [if_neg c8] at h
      refine hq_icT rfl (hq_c_ne_T c8) ?_
      exact f_X12_word_L97_run hd e4 h
  · rw [if_neg c5] at h
    refine hq_icT rfl (hq_c_ne_T c5) ?_
    exact f_X12_word_L97_run hd e4 h
def f_X12_word_L15_B (n : Nat) (q4 : Int32 → Int32 → hq_S → Option (Int32 × hq_S)) (q15 : Int32 → Int32 → Int32 → hq_S → Option (Int32 × hq_S)) (a1 : Int32) (a2 : Int32) (a3 : Int32) (s : hq_S) : Option (Int32 × hq_S) := (hq_chr (a2 + a3)).bind fun x2 => if x2 = (32 : Int32) then f_X12_word_J69 n q4 a1 a2 a3 s else if ((hq_gi s 174 25) + a3) < (hq_gi s 174 24) then (hq_ld s 175 700 ((hq_gi s 174 25) + a3)).bind fun x10 => (hq_chr (a2 + a3)).bind fun x11 => if x10 = x11 then q15 a1 a2 (a3 + (1 : Int32)) s else f_X12_word_J69 n q4 a1 a2 a3 s else f_X12_word_J69 n q4 a1 a2 a3 s
def f_X12_word_L15 (n : Nat) (q4 : Int32 → Int32 → hq_S → Option (Int32 × hq_S)) (m : Nat) : Int32 → Int32 → Int32 → hq_S → Option (Int32 × hq_S) := Nat.rec (fun _ _ _ _ => none) (fun _ q => f_X12_word_L15_B n q4 q) m
theorem f_X12_word_L15_Brun {xs : List Int32} {n d g : Nat} {a1 : Int32} {a2 : Int32} {a3 : Int32} {q4 : Int32 → Int32 → hq_S → Option (Int32 × hq_S)} {q15 : Int32 → Int32 → Int32 → hq_S → Option (Int32 × hq_S)} {s : hq_S} {y : (Int32 × hq_S)} (hd : 6 ≤ d) (e4 : ∀ (a1 : Int32) (a2 : Int32) (o3 : Option Value) (s : hq_S), q4 a1 a2 s = some y → hq_R (mm_O xs) d mc_X12_word 4 [some (.ref 174), some (.int a1), some (.int a2), o3] [] s g (some (.int y.1)) y.2) (e15 : ∀ (a1 : Int32) (a2 : Int32) (a3 : Int32) (s : hq_S), q15 a1 a2 a3 s = some y → hq_R (mm_O xs) d mc_X12_word 15 [some (.ref 174), some (.int a1), some (.int a2), some (.int a3)] [] s g (some (.int y.1)) y.2) (h : f_X12_word_L15_B n q4 q15 a1 a2 a3 s = some y) : hq_R (mm_O xs) d mc_X12_word 15 [some (.ref 174), some (.int a1), some (.int a2), some (.int a3)] [] s g (some (.int y.1)) y.2 := by
  unfold f_X12_word_L15_B at h
  refine hq_p 4 20 [some (.ref 174), some (.int a1), some (.int a2), some (.int a3)] [.int (a2 + a3), .retAddr 5] (fun n h => rfl) ?_
  obtain ⟨x2, hx2, h⟩ := hq_bind h
  refine hq_schr rfl (Nat.le_trans (by decide) hd) rfl hx2 ?_
  refine hq_bip (32 : Int32) rfl (by decide) ?_
  by_cases c3 : x2 = (32 : Int32)
  · rw [if_pos c3] at h
    refine hq_icT rfl (hq_c_eq_T c3) ?_
    exact f_X12_word_J69_run hd e4 h
  · rw [if_neg c3] at h
    refine hq_icF rfl (hq_c_eq_F c3) ?_
    refine hq_p 1 29 [some (.ref 174), some (.int a1), some (.int a2), some (.int a3)] [.ref 174] (fun n h => rfl) ?_
    refine hq_gf (x := .int (hq_gi s 174 25)) rfl rfl rfl rfl rfl ?_
    refine hq_p 3 35 [some (.ref 174), some (.int a1), some (.int a2), some (.int a3)] [.ref 174, .int ((hq_gi s 174 25) + a3)] (fun n h => rfl) ?_
    refine hq_gf (x := .int (hq_gi s 174 24)) rfl rfl rfl rfl rfl ?_
    by_cases c9 : ((hq_gi s 174 25) + a3) < (hq_gi s 174 24)
    · rw [if_pos c9] at h
      refine hq_icF rfl (hq_c_ge_F c9) ?_
      refine hq_p 1 42 [some (.ref 174), some (.int a1), some (.int a2), some (.int a3)] [.ref 174] (fun n h => rfl) ?_
      refine hq_gf (x := .ref 175) rfl rfl rfl rfl rfl ?_
      refine hq_p 1 46 [some (.ref 174), some (.int a1), some (.int a2), some (.int a3)] [.ref 174, .ref 175] (fun n h => rfl) ?_
      refine hq_gf (x := .int (hq_gi s 174 25)) rfl rfl rfl rfl rfl ?_
      refine hq_p 2 51 [some (.ref 174), some (.int a1), some (.int a2), some (.int a3)] [.int ((hq_gi s 174 25) + a3), .ref 175] (fun n h => rfl) ?_
      obtain ⟨x10, hx10, h⟩ := hq_bind h
      refine hq_iaload rfl rfl List.length_replicate hx10 ?_
      refine hq_p 4 57 [some (.ref 174), some (.int a1), some (.int a2), some (.int a3)] [.int (a2 + a3), .retAddr 5, .int x10] (fun n h => rfl) ?_
      obtain ⟨x11, hx11, h⟩ := hq_bind h
      refine hq_schr rfl (Nat.le_trans (by decide) hd) rfl hx11 ?_
      by_cases c12 : x10 = x11
      · rw [if_pos c12] at h
        refine hq_icF rfl (hq_c_ne_F c12) ?_
        refine hq_p 2 15 [some (.ref 174), some (.int a1), some (.int a2), some (.int (a3 + (1 : Int32)))] [] (fun n h => rfl) ?_
        exact e15 a1 a2 (a3 + (1 : Int32)) s h
      · rw [if_neg c12] at h
        refine hq_icT rfl (hq_c_ne_T c12) ?_
        exact f_X12_word_J69_run hd e4 h
    · rw [if_neg c9] at h
      refine hq_icT rfl (hq_c_ge_T c9) ?_
      exact f_X12_word_J69_run hd e4 h
theorem f_X12_word_L15_run {xs : List Int32} {n m d g : Nat} {a1 : Int32} {a2 : Int32} {a3 : Int32} {q4 : Int32 → Int32 → hq_S → Option (Int32 × hq_S)} {s : hq_S} {y : (Int32 × hq_S)} (hd : 6 ≤ d) (e4 : ∀ (a1 : Int32) (a2 : Int32) (o3 : Option Value) (s : hq_S), q4 a1 a2 s = some y → hq_R (mm_O xs) d mc_X12_word 4 [some (.ref 174), some (.int a1), some (.int a2), o3] [] s g (some (.int y.1)) y.2) (h : f_X12_word_L15 n q4 m a1 a2 a3 s = some y) : hq_R (mm_O xs) d mc_X12_word 15 [some (.ref 174), some (.int a1), some (.int a2), some (.int a3)] [] s g (some (.int y.1)) y.2 := by
  induction m generalizing a1 a2 a3 s with
  | zero => cases h
  | succ m ih => exact f_X12_word_L15_Brun (n := n) hd e4 (fun a1 a2 a3 s h => ih h) h
def f_X12_word_L4_B (n : Nat) (q4 : Int32 → Int32 → hq_S → Option (Int32 × hq_S)) (a1 : Int32) (a2 : Int32) (s : hq_S) : Option (Int32 × hq_S) := if a2 < (112 : Int32) then f_X12_word_L15 n q4 n a1 a2 (0 : Int32) s else some ((-1 : Int32), s)
def f_X12_word_L4 (n : Nat) (m : Nat) : Int32 → Int32 → hq_S → Option (Int32 × hq_S) := Nat.rec (fun _ _ _ => none) (fun _ q => f_X12_word_L4_B n q) m
theorem f_X12_word_L4_Brun {xs : List Int32} {n d g : Nat} {a1 : Int32} {a2 : Int32} {o3 : Option Value} {q4 : Int32 → Int32 → hq_S → Option (Int32 × hq_S)} {s : hq_S} {y : (Int32 × hq_S)} (hd : 6 ≤ d) (e4 : ∀ (a1 : Int32) (a2 : Int32) (o3 : Option Value) (s : hq_S), q4 a1 a2 s = some y → hq_R (mm_O xs) d mc_X12_word 4 [some (.ref 174), some (.int a1), some (.int a2), o3] [] s g (some (.int y.1)) y.2) (h : f_X12_word_L4_B n q4 a1 a2 s = some y) : hq_R (mm_O xs) d mc_X12_word 4 [some (.ref 174), some (.int a1), some (.int a2), o3] [] s g (some (.int y.1)) y.2 := by
  unfold f_X12_word_L4_B at h
  refine hq_p 2 7 [some (.ref 174), some (.int a1), some (.int a2), o3] [.retAddr 5, .int a2] (fun n h => rfl) ?_
  refine hq_slen rfl (Nat.le_trans (by decide) hd) rfl ?_
  by_cases c1 : a2 < (112 : Int32)
  · rw [if_pos c1] at h
    refine hq_icF rfl (hq_c_ge_F c1) ?_
    refine hq_p 2 15 [some (.ref 174), some (.int a1), some (.int a2), some (.int (0 : Int32))] [] (fun n h => rfl) ?_
    exact f_X12_word_L15_run hd e4 h
  · rw [if_neg c1] at h
    refine hq_icT rfl (hq_c_ge_T c1) ?_
    refine hq_icn (-1 : Int32) rfl (by decide) ?_
    have h := Option.some.inj h
    subst h
    exact ⟨1, rfl⟩
theorem f_X12_word_L4_run {xs : List Int32} {n m d g : Nat} {a1 : Int32} {a2 : Int32} {o3 : Option Value} {s : hq_S} {y : (Int32 × hq_S)} (hd : 6 ≤ d) (h : f_X12_word_L4 n m a1 a2 s = some y) : hq_R (mm_O xs) d mc_X12_word 4 [some (.ref 174), some (.int a1), some (.int a2), o3] [] s g (some (.int y.1)) y.2 := by
  induction m generalizing a1 a2 o3 s with
  | zero => cases h
  | succ m ih => exact f_X12_word_L4_Brun (n := n) hd (fun a1 a2 o3 s h => ih h) h
def f_X12_word (n : Nat) (s : hq_S) : Option (Int32 × hq_S) := f_X12_word_L4 n n (0 : Int32) (0 : Int32) s
theorem f_X12_word_run {xs : List Int32} {n d g : Nat} {s : hq_S} {y : (Int32 × hq_S)} (hd : 6 ≤ d) (h : f_X12_word n s = some y) : hq_R (mm_O xs) d mc_X12_word 0 [some (.ref 174), none, none, none] [] s g (some (.int y.1)) y.2 := by
  unfold f_X12_word at h
  refine hq_p 4 4 [some (.ref 174), some (.int (0 : Int32)), some (.int (0 : Int32)), none] [] (fun n h => rfl) ?_
  exact f_X12_word_L4_run hd h
