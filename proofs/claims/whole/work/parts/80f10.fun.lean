def f_X12_doesGrip_J41 (n : Nat) (a1 : Int32) (a2 : Int32) (a3 : Int32) (s : hq_S) : Option (Int32 × hq_S) := if a3 < (50 : Int32) then some ((0 : Int32), s) else some ((1 : Int32), s)
theorem f_X12_doesGrip_J41_run {xs : List Int32} {n d g : Nat} {a1 : Int32} {a2 : Int32} {a3 : Int32} {s : hq_S} {y : (Int32 × hq_S)} (hd : 0 ≤ d) (h : f_X12_doesGrip_J41 n a1 a2 a3 s = some y) : hq_R (mm_O xs) d mc_X12_doesGrip 41 [some (.ref 174), some (.int a1), some (.int a2), some (.int a3)] [] s g (some (.int y.1)) y.2 := by
  unfold f_X12_doesGrip_J41 at h
  refine hq_p 1 42 [some (.ref 174), some (.int a1), some (.int a2), some (.int a3)] [.int a3] (fun n h => rfl) ?_
  refine hq_bip (50 : Int32) rfl (by decide) ?_
  by_cases c5 : a3 < (50 : Int32)
  · rw [if_pos c5] at h
    refine hq_icT rfl (hq_c_lt_T c5) ?_
    refine hq_p 1 52 [some (.ref 174), some (.int a1), some (.int a2), some (.int a3)] [.int (0 : Int32)] (fun n h => rfl) ?_
    have h := Option.some.inj h
    subst h
    exact ⟨1, rfl⟩
  · rw [if_neg c5] at h
    refine hq_icF rfl (hq_c_lt_F c5) ?_
    refine hq_p 2 52 [some (.ref 174), some (.int a1), some (.int a2), some (.int a3)] [.int (1 : Int32)] (fun n h => rfl) ?_
    have h := Option.some.inj h
    subst h
    exact ⟨1, rfl⟩
def f_X12_doesGrip (n : Nat) (a1 : Int32) (a2 : Int32) (s : hq_S) : Option (Int32 × hq_S) := if (hq_gi s 174 49) = (5 : Int32) then some ((1 : Int32), s) else if (hq_gi s 174 49) = (1 : Int32) then some ((0 : Int32), s) else (hq_ld s 176 14 (4 : Int32)).bind fun x3 => if a2 = 0 then f_X12_doesGrip_J41 n a1 a2 x3 s else if x3 = 0 then f_X12_doesGrip_J41 n a1 a2 x3 s else if x3 = (100 : Int32) then f_X12_doesGrip_J41 n a1 a2 x3 s else (hq_ld s 197 23 a1).bind fun x8 => (hq_st s 197 23 a1 (((x8 * (1103515245 : Int32)) + (12345 : Int32)) &&& (2147483647 : Int32))).bind fun s9 => (hq_ld s9 197 23 a1).bind fun x10 => (hq_irem (x10 >>> ((16 : Int32) &&& 31)) (100 : Int32)).bind fun x11 => if x11 < x3 then some ((1 : Int32), s9) else some ((0 : Int32), s9)
theorem f_X12_doesGrip_run {xs : List Int32} {n d g : Nat} {a1 : Int32} {a2 : Int32} {s : hq_S} {y : (Int32 × hq_S)} (hd : 0 ≤ d) (h : f_X12_doesGrip n a1 a2 s = some y) : hq_R (mm_O xs) d mc_X12_doesGrip 0 [some (.ref 174), some (.int a1), some (.int a2), none] [] s g (some (.int y.1)) y.2 := by
  unfold f_X12_doesGrip at h
  refine hq_p 1 1 [some (.ref 174), some (.int a1), some (.int a2), none] [.ref 174] (fun n h => rfl) ?_
  refine hq_gf (x := .int (hq_gi s 174 49)) rfl rfl rfl rfl rfl ?_
  refine hq_p 1 5 [some (.ref 174), some (.int a1), some (.int a2), none] [.int (5 : Int32), .int (hq_gi s 174 49)] (fun n h => rfl) ?_
  by_cases c1 : (hq_gi s 174 49) = (5 : Int32)
  · rw [if_pos c1] at h
    refine hq_icF rfl (hq_c_ne_F c1) ?_
    refine hq_p 1 9 [some (.ref 174), some (.int a1), some (.int a2), none] [.int (1 : Int32)] (fun n h => rfl) ?_
    have h := Option.some.inj h
    subst h
    exact ⟨1, rfl⟩
  · rw [if_neg c1] at h
    refine hq_icT rfl (hq_c_ne_T c1) ?_
    refine hq_p 1 11 [some (.ref 174), some (.int a1), some (.int a2), none] [.ref 174] (fun n h => rfl) ?_
    refine hq_gf (x := .int (hq_gi s 174 49)) rfl rfl rfl rfl rfl ?_
    refine hq_p 1 15 [some (.ref 174), some (.int a1), some (.int a2), none] [.int (1 : Int32), .int (hq_gi s 174 49)] (fun n h => rfl) ?_
    by_cases c2 : (hq_gi s 174 49) = (1 : Int32)
    · rw [if_pos c2] at h
      refine hq_icF rfl (hq_c_ne_F c2) ?_
      refine hq_p 1 19 [some (.ref 174), some (.int a1), some (.int a2), none] [.int (0 : Int32)] (fun n h => rfl) ?_
      have h := Option.some.inj h
      subst h
      exact ⟨1, rfl⟩
    · rw [if_neg c2] at h
      refine hq_icT rfl (hq_c_ne_T c2) ?_
      refine hq_p 1 21 [some (.ref 174), some (.int a1), some (.int a2), none] [.ref 174] (fun n h => rfl) ?_
      refine hq_gf (x := .ref 176) rfl rfl rfl rfl rfl ?_
      refine hq_p 1 25 [some (.ref 174), some (.int a1), some (.int a2), none] [.int (4 : Int32), .ref 176] (fun n h => rfl) ?_
      obtain ⟨x3, hx3, h⟩ := hq_bind h
      refine hq_iaload rfl rfl rfl hx3 ?_
      refine hq_p 2 28 [some (.ref 174), some (.int a1), some (.int a2), some (.int x3)] [.int a2] (fun n h => rfl) ?_
      by_cases c4 : a2 = 0
      · rw [if_pos c4] at h
        refine hq_izT rfl (hq_c_eq_T c4) ?_
        exact f_X12_doesGrip_J41_run hd h
      · rw [if_neg c4] at h
        refine hq_izF rfl (hq_c_eq_F c4) ?_
        refine hq_p 1 32 [some (.ref 174), some (.int a1), some (.int a2), some (.int x3)] [.int x3] (fun n h => rfl) ?_
        by_cases c6 : x3 = 0
        · rw [if_pos c6] at h
          refine hq_izT rfl (hq_c_eq_T c6) ?_
          exact f_X12_doesGrip_J41_run hd h
        · rw [if_neg c6] at h
          refine hq_izF rfl (hq_c_eq_F c6) ?_
          refine hq_p 1 36 [some (.ref 174), some (.int a1), some (.int a2), some (.int x3)] [.int x3] (fun n h => rfl) ?_
          refine hq_bip (100 : Int32) rfl (by decide) ?_
          by_cases c7 : x3 = (100 : Int32)
          · rw [if_pos c7] at h
            refine hq_icF rfl (hq_c_ne_F c7) ?_
            exact f_X12_doesGrip_J41_run hd h
          · rw [if_neg c7] at h
            refine hq_icT rfl (hq_c_ne_T c7) ?_
            refine hq_p 1 54 [some (.ref 174), some (.int a1), some (.int a2), some (.int x3)] [.ref 174] (fun n h => rfl) ?_
            refine hq_gf (x := .ref 197) rfl rfl rfl rfl rfl ?_
            refine hq_p 2 59 [some (.ref 174), some (.int a1), some (.int a2), some (.int x3)] [.ref 174, .int a1, .ref 197] (fun n h => rfl) ?_
            refine hq_gf (x := .ref 197) rfl rfl rfl rfl rfl ?_
            refine hq_p 1 63 [some (.ref 174), some (.int a1), some (.int a2), some (.int x3)] [.int a1, .ref 197, .int a1, .ref 197] (fun n h => rfl) ?_
            obtain ⟨x8, hx8, h⟩ := hq_bind h
            refine hq_iaload rfl rfl List.length_replicate hx8 ?_
            refine hq_lcw (1103515245 : Int32) rfl (by decide) ?_
            refine hq_p 1 68 [some (.ref 174), some (.int a1), some (.int a2), some (.int x3)] [.int (x8 * (1103515245 : Int32)), .int a1, .ref 197] (fun n h => rfl) ?_
            refine hq_sip (12345 : Int32) rfl (by decide) ?_
            refine hq_p 1 72 [some (.ref 174), some (.int a1), some (.int a2), some (.int x3)] [.int ((x8 * (1103515245 : Int32)) + (12345 : Int32)), .int a1, .ref 197] (fun n h => rfl) ?_
            refine hq_lcw (2147483647 : Int32) rfl (by decide) ?_
            refine hq_p 1 76 [some (.ref 174), some (.int a1), some (.int a2), some (.int x3)] [.int (((x8 * (1103515245 : Int32)) + (12345 : Int32)) &&& (2147483647 : Int32)), .int a1, .ref 197] (fun n h => rfl) ?_
            obtain ⟨s9, hs9, h⟩ := hq_bind h
            refine hq_iastore rfl rfl List.length_replicate hs9 ?_
            refine hq_p 1 78 [some (.ref 174), some (.int a1), some (.int a2), some (.int x3)] [.ref 174] (fun n h => rfl) ?_
            refine hq_gf (x := .ref 197) rfl rfl rfl rfl rfl ?_
            refine hq_p 1 82 [some (.ref 174), some (.int a1), some (.int a2), some (.int x3)] [.int a1, .ref 197] (fun n h => rfl) ?_
            obtain ⟨x10, hx10, h⟩ := hq_bind h
            refine hq_iaload rfl rfl List.length_replicate hx10 ?_
            refine hq_p 2 86 [some (.ref 174), some (.int a1), some (.int a2), some (.int x3)] [.int (x10 >>> ((16 : Int32) &&& 31))] (fun n h => rfl) ?_
            refine hq_bip (100 : Int32) rfl (by decide) ?_
            obtain ⟨x11, hx11, h⟩ := hq_bind h
            refine hq_irem_ rfl hx11 ?_
            refine hq_p 1 90 [some (.ref 174), some (.int a1), some (.int a2), some (.int x3)] [.int x3, .int x11] (fun n h => rfl) ?_
            by_cases c12 : x11 < x3
            · rw [if_pos c12] at h
              refine hq_icF rfl (hq_c_ge_F c12) ?_
              refine hq_p 2 98 [some (.ref 174), some (.int a1), some (.int a2), some (.int x3)] [.int (1 : Int32)] (fun n h => rfl) ?_
              have h := Option.some.inj h
              subst h
              exact ⟨1, rfl⟩
            · rw [if_neg c12] at h
              refine hq_icT rfl (hq_c_ge_T c12) ?_
              refine hq_p 1 98 [some (.ref 174), some (.int a1), some (.int a2), some (.int x3)] [.int (0 : Int32)] (fun n h => rfl) ?_
              have h := Option.some.inj h
              subst h
              exact ⟨1, rfl⟩
def f_X12_takes (n : Nat) (a1 : Int32) (a2 : Int32) (s : hq_S) : Option hq_S := (hq_ld s 203 92 (((4 : Int32) * a1) + a2)).bind fun x1 => (f_X12_boldOf n a2 s).bind fun y2 => (hq_ld y2.2 203 92 (((4 : Int32) * a1) + a2)).bind fun x3 => (f_X12_calls n a1 a2 x3 y2.2).bind fun s4 => (f_X12_hasLaw n (1 : Int32) s4).bind fun y5 => (if y5.1 = 0 then some ((y2.1 + (1 : Int32)), y5.2) else (f_X12_goes n (1 : Int32) y5.2).bind fun y8 => if y8.1 = 0 then some ((y2.1 + (1 : Int32)), y8.2) else (hq_ldj y8.2 195 64 (0 : Int32)).bind fun x10 => some ((hq_maxj (0 : Int64) (hq_minj (99 : Int64) x10)).toInt32, y8.2)).bind fun z6 => (hq_ld z6.2 199 230 (((10 : Int32) * a1) + x1)).bind fun x11 => (hq_ld z6.2 199 230 (((10 : Int32) * a1) + x1)).bind fun x12 => (hq_st z6.2 199 230 (((10 : Int32) * a1) + x1) (x12 - (hq_min z6.1 x11))).bind fun s13 => (hq_ld s13 204 92 (((4 : Int32) * a1) + a2)).bind fun x14 => (hq_st s13 204 92 (((4 : Int32) * a1) + a2) (x14 + (hq_min z6.1 x11))).bind fun s15 => some s15
theorem f_X12_takes_run {xs : List Int32} {n d g : Nat} {a1 : Int32} {a2 : Int32} {s : hq_S} {y : hq_S} (hd : 3 ≤ d) (h : f_X12_takes n a1 a2 s = some y) : hq_R (mm_O xs) d mc_X12_takes 0 [some (.ref 174), some (.int a1), some (.int a2), none, none, none] [] s g none y := by
  unfold f_X12_takes at h
  refine hq_p 10 11 [some (.ref 174), some (.int a1), some (.int a2), some (.int (((4 : Int32) * a1) + a2)), none, none] [.ref 174, .int ((10 : Int32) * a1)] (fun n h => rfl) ?_
  refine hq_gf (x := .ref 203) rfl rfl rfl rfl rfl ?_
  refine hq_p 1 15 [some (.ref 174), some (.int a1), some (.int a2), some (.int (((4 : Int32) * a1) + a2)), none, none] [.int (((4 : Int32) * a1) + a2), .ref 203, .int ((10 : Int32) * a1)] (fun n h => rfl) ?_
  obtain ⟨x1, hx1, h⟩ := hq_bind h
  refine hq_iaload rfl rfl List.length_replicate hx1 ?_
  refine hq_p 4 21 [some (.ref 174), some (.int a1), some (.int a2), some (.int (((4 : Int32) * a1) + a2)), some (.int (((10 : Int32) * a1) + x1)), none] [.int a2, .ref 174] (fun n h => rfl) ?_
  obtain ⟨y2, hy2, h⟩ := hq_bind h
  refine hq_inv rfl rfl (Nat.le_trans (by decide) hd) rfl rfl (hq_rcv rfl rfl) (f_X12_boldOf_run (Nat.le_sub_of_add_le (Nat.le_trans (by decide) hd)) hy2) rfl ?_
  refine hq_p 7 32 [some (.ref 174), some (.int a1), some (.int a2), some (.int (((4 : Int32) * a1) + a2)), some (.int (((10 : Int32) * a1) + x1)), some (.int (y2.1 + (1 : Int32)))] [.ref 174, .int a2, .int a1, .ref 174] (fun n h => rfl) ?_
  refine hq_gf (x := .ref 203) rfl rfl rfl rfl rfl ?_
  refine hq_p 1 36 [some (.ref 174), some (.int a1), some (.int a2), some (.int (((4 : Int32) * a1) + a2)), some (.int (((10 : Int32) * a1) + x1)), some (.int (y2.1 + (1 : Int32)))] [.int (((4 : Int32) * a1) + a2), .ref 203, .int a2, .int a1, .ref 174] (fun n h => rfl) ?_
  obtain ⟨x3, hx3, h⟩ := hq_bind h
  refine hq_iaload rfl rfl List.length_replicate hx3 ?_
  obtain ⟨s4, hs4, h⟩ := hq_bind h
  refine hq_inv rfl rfl (Nat.le_trans (by decide) hd) rfl rfl (hq_rcv rfl rfl) (f_X12_calls_run (Nat.le_sub_of_add_le (Nat.le_trans (by decide) hd)) hs4) rfl ?_
  refine hq_p 2 42 [some (.ref 174), some (.int a1), some (.int a2), some (.int (((4 : Int32) * a1) + a2)), some (.int (((10 : Int32) * a1) + x1)), some (.int (y2.1 + (1 : Int32)))] [.int (1 : Int32), .ref 174] (fun n h => rfl) ?_
  obtain ⟨y5, hy5, h⟩ := hq_bind h
  refine hq_inv rfl rfl (Nat.le_trans (by decide) hd) rfl rfl (hq_rcv rfl rfl) (f_X12_hasLaw_run (Nat.le_sub_of_add_le (Nat.le_trans (by decide) hd)) hy5) rfl ?_
  obtain ⟨z6, hz6, h⟩ := hq_bind h
  suffices hT : hq_R (mm_O xs) d mc_X12_takes 75 [some (.ref 174), some (.int a1), some (.int a2), some (.int (((4 : Int32) * a1) + a2)), some (.int (((10 : Int32) * a1) + x1)), some (.int z6.1)] [] z6.2 g none y from by
    clear h
    have h := hz6
    by_cases c7 : y5.1 = 0
    · rw [if_pos c7] at h
      refine hq_izT rfl (hq_c_eq_T c7) ?_
      cases h
      exact hT
    · rw [if_neg c7] at h
      refine hq_izF rfl (hq_c_eq_F c7) ?_
      refine hq_p 2 50 [some (.ref 174), some (.int a1), some (.int a2), some (.int (((4 : Int32) * a1) + a2)), some (.int (((10 : Int32) * a1) + x1)), some (.int (y2.1 + (1 : Int32)))] [.int (1 : Int32), .ref 174] (fun n h => rfl) ?_
      obtain ⟨y8, hy8, h⟩ := hq_bind h
      refine hq_inv rfl rfl (Nat.le_trans (by decide) hd) rfl rfl (hq_rcv rfl rfl) (f_X12_goes_run (Nat.le_sub_of_add_le (Nat.le_trans (by decide) hd)) hy8) rfl ?_
      by_cases c9 : y8.1 = 0
      · rw [if_pos c9] at h
        refine hq_izT rfl (hq_c_eq_T c9) ?_
        cases h
        exact hT
      · rw [if_neg c9] at h
        refine hq_izF rfl (hq_c_eq_F c9) ?_
        refine hq_p 1 57 [some (.ref 174), some (.int a1), some (.int a2), some (.int (((4 : Int32) * a1) + a2)), some (.int (((10 : Int32) * a1) + x1)), some (.int (y2.1 + (1 : Int32)))] [.long (0 : Int64)] (fun n h => rfl) ?_
        refine hq_lc2 (99 : Int64) rfl (by decide) ?_
        refine hq_p 1 61 [some (.ref 174), some (.int a1), some (.int a2), some (.int (((4 : Int32) * a1) + a2)), some (.int (((10 : Int32) * a1) + x1)), some (.int (y2.1 + (1 : Int32)))] [.ref 174, .long (99 : Int64), .long (0 : Int64)] (fun n h => rfl) ?_
        refine hq_gf (x := .ref 195) rfl rfl rfl rfl rfl ?_
        refine hq_p 1 65 [some (.ref 174), some (.int a1), some (.int a2), some (.int (((4 : Int32) * a1) + a2)), some (.int (((10 : Int32) * a1) + x1)), some (.int (y2.1 + (1 : Int32)))] [.int (0 : Int32), .ref 195, .long (99 : Int64), .long (0 : Int64)] (fun n h => rfl) ?_
        obtain ⟨x10, hx10, h⟩ := hq_bind h
        refine hq_laload rfl rfl List.length_replicate hx10 ?_
        refine hq_math rfl rfl rfl (Nat.le_trans (by decide) hd) ?_
        refine hq_math rfl rfl rfl (Nat.le_trans (by decide) hd) ?_
        refine hq_p 2 75 [some (.ref 174), some (.int a1), some (.int a2), some (.int (((4 : Int32) * a1) + a2)), some (.int (((10 : Int32) * a1) + x1)), some (.int (hq_maxj (0 : Int64) (hq_minj (99 : Int64) x10)).toInt32)] [] (fun n h => rfl) ?_
        cases h
        exact hT
  refine hq_p 2 78 [some (.ref 174), some (.int a1), some (.int a2), some (.int (((4 : Int32) * a1) + a2)), some (.int (((10 : Int32) * a1) + x1)), some (.int z6.1)] [.ref 174, .int z6.1] (fun n h => rfl) ?_
  refine hq_gf (x := .ref 199) rfl rfl rfl rfl rfl ?_
  refine hq_p 1 83 [some (.ref 174), some (.int a1), some (.int a2), some (.int (((4 : Int32) * a1) + a2)), some (.int (((10 : Int32) * a1) + x1)), some (.int z6.1)] [.int (((10 : Int32) * a1) + x1), .ref 199, .int z6.1] (fun n h => rfl) ?_
  obtain ⟨x11, hx11, h⟩ := hq_bind h
  refine hq_iaload rfl rfl List.length_replicate hx11 ?_
  refine hq_math rfl rfl rfl (Nat.le_trans (by decide) hd) ?_
  refine hq_p 2 90 [some (.ref 174), some (.int a1), some (.int a2), some (.int (((4 : Int32) * a1) + a2)), some (.int (((10 : Int32) * a1) + x1)), some (.int (hq_min z6.1 x11))] [.ref 174] (fun n h => rfl) ?_
  refine hq_gf (x := .ref 199) rfl rfl rfl rfl rfl ?_
  refine hq_p 2 96 [some (.ref 174), some (.int a1), some (.int a2), some (.int (((4 : Int32) * a1) + a2)), some (.int (((10 : Int32) * a1) + x1)), some (.int (hq_min z6.1 x11))] [.int (((10 : Int32) * a1) + x1), .ref 199, .int (((10 : Int32) * a1) + x1), .ref 199] (fun n h => rfl) ?_
  obtain ⟨x12, hx12, h⟩ := hq_bind h
  refine hq_iaload rfl rfl List.length_replicate hx12 ?_
  refine hq_p 2 100 [some (.ref 174), some (.int a1), some (.int a2), some (.int (((4 : Int32) * a1) + a2)), some (.int (((10 : Int32) * a1) + x1)), some (.int (hq_min z6.1 x11))] [.int (x12 - (hq_min z6.1 x11)), .int (((10 : Int32) * a1) + x1), .ref 199] (fun n h => rfl) ?_
  obtain ⟨s13, hs13, h⟩ := hq_bind h
  refine hq_iastore rfl rfl List.length_replicate hs13 ?_
  refine hq_p 1 102 [some (.ref 174), some (.int a1), some (.int a2), some (.int (((4 : Int32) * a1) + a2)), some (.int (((10 : Int32) * a1) + x1)), some (.int (hq_min z6.1 x11))] [.ref 174] (fun n h => rfl) ?_
  refine hq_gf (x := .ref 204) rfl rfl rfl rfl rfl ?_
  refine hq_p 2 107 [some (.ref 174), some (.int a1), some (.int a2), some (.int (((4 : Int32) * a1) + a2)), some (.int (((10 : Int32) * a1) + x1)), some (.int (hq_min z6.1 x11))] [.int (((4 : Int32) * a1) + a2), .ref 204, .int (((4 : Int32) * a1) + a2), .ref 204] (fun n h => rfl) ?_
  obtain ⟨x14, hx14, h⟩ := hq_bind h
  refine hq_iaload rfl rfl List.length_replicate hx14 ?_
  refine hq_p 2 111 [some (.ref 174), some (.int a1), some (.int a2), some (.int (((4 : Int32) * a1) + a2)), some (.int (((10 : Int32) * a1) + x1)), some (.int (hq_min z6.1 x11))] [.int (x14 + (hq_min z6.1 x11)), .int (((4 : Int32) * a1) + a2), .ref 204] (fun n h => rfl) ?_
  obtain ⟨s15, hs15, h⟩ := hq_bind h
  refine hq_iastore rfl rfl List.length_replicate hs15 ?_
  have h := Option.some.inj h
  subst h
  exact ⟨1, rfl⟩
def f_X12_passes_L174_B (n : Nat) (q174 : Int32 → Int32 → Int32 → hq_S → Option hq_S) (a1 : Int32) (a2 : Int32) (a3 : Int32) (s : hq_S) : Option hq_S := (hq_ld s 176 14 (3 : Int32)).bind fun x8 => if a3 < x8 then (f_X12_isFree n a1 a3 s).bind fun y12 => (if y12.1 = 0 then some y12.2 else (f_X12_takes n a1 a3 y12.2).bind fun s15 => some s15).bind fun z13 => q174 a1 a2 (a3 + (1 : Int32)) z13 else (hq_ld s 196 23 a1).bind fun x10 => (hq_st s 196 23 a1 (x10 + (1 : Int32))).bind fun s11 => some s11
def f_X12_passes_L174 (n : Nat) (m : Nat) : Int32 → Int32 → Int32 → hq_S → Option hq_S := Nat.rec (fun _ _ _ _ => none) (fun _ q => f_X12_passes_L174_B n q) m
theorem f_X12_passes_L174_Brun {xs : List Int32} {n d g : Nat} {a1 : Int32} {a2 : Int32} {a3 : Int32} {o4 : Option Value} {q174 : Int32 → Int32 → Int32 → hq_S → Option hq_S} {s : hq_S} {y : hq_S} (hd : 5 ≤ d) (e174 : ∀ (a1 : Int32) (a2 : Int32) (a3 : Int32) (o4 : Option Value) (s : hq_S), q174 a1 a2 a3 s = some y → hq_R (mm_O xs) d mc_X12_passes 174 [some (.ref 174), some (.int a1), some (.int a2), some (.int a3), o4] [] s g none y) (h : f_X12_passes_L174_B n q174 a1 a2 a3 s = some y) : hq_R (mm_O xs) d mc_X12_passes 174 [some (.ref 174), some (.int a1), some (.int a2), some (.int a3), o4] [] s g none y := by
  unfold f_X12_passes_L174_B at h
  refine hq_p 2 176 [some (.ref 174), some (.int a1), some (.int a2), some (.int a3), o4] [.ref 174, .int a3] (fun n h => rfl) ?_
  refine hq_gf (x := .ref 176) rfl rfl rfl rfl rfl ?_
  refine hq_p 1 180 [some (.ref 174), some (.int a1), some (.int a2), some (.int a3), o4] [.int (3 : Int32), .ref 176, .int a3] (fun n h => rfl) ?_
  obtain ⟨x8, hx8, h⟩ := hq_bind h
  refine hq_iaload rfl rfl rfl hx8 ?_
  by_cases c9 : a3 < x8
  · rw [if_pos c9] at h
    refine hq_icF rfl (hq_c_ge_F c9) ?_
    refine hq_p 3 187 [some (.ref 174), some (.int a1), some (.int a2), some (.int a3), o4] [.int a3, .int a1, .ref 174] (fun n h => rfl) ?_
    obtain ⟨y12, hy12, h⟩ := hq_bind h
    refine hq_inv rfl rfl (Nat.le_trans (by decide) hd) rfl rfl (hq_rcv rfl rfl) (f_X12_isFree_run (Nat.le_sub_of_add_le (Nat.le_trans (by decide) hd)) hy12) rfl ?_
    obtain ⟨z13, hz13, h⟩ := hq_bind h
    suffices hT : hq_R (mm_O xs) d mc_X12_passes 199 [some (.ref 174), some (.int a1), some (.int a2), some (.int a3), o4] [] z13 g none y from by
      clear h
      have h := hz13
      by_cases c14 : y12.1 = 0
      · rw [if_pos c14] at h
        refine hq_izT rfl (hq_c_eq_T c14) ?_
        cases h
        exact hT
      · rw [if_neg c14] at h
        refine hq_izF rfl (hq_c_eq_F c14) ?_
        refine hq_p 3 196 [some (.ref 174), some (.int a1), some (.int a2), some (.int a3), o4] [.int a3, .int a1, .ref 174] (fun n h => rfl) ?_
        obtain ⟨s15, hs15, h⟩ := hq_bind h
        refine hq_inv rfl rfl (Nat.le_trans (by decide) hd) rfl rfl (hq_rcv rfl rfl) (f_X12_takes_run (Nat.le_sub_of_add_le (Nat.le_trans (by decide) hd)) hs15) rfl ?_
        cases h
        exact hT
    refine hq_p 2 174 [some (.ref 174), some (.int a1), some (.int a2), some (.int (a3 + (1 : Int32))), o4] [] (fun n h => rfl) ?_
    exact e174 a1 a2 (a3 + (1 : Int32)) _ z13 h
  · rw [if_neg c9] at h
    refine hq_icT rfl (hq_c_ge_T c9) ?_
    refine hq_p 1 206 [some (.ref 174), some (.int a1), some (.int a2), some (.int a3), o4] [.ref 174] (fun n h => rfl) ?_
    refine hq_gf (x := .ref 196) rfl rfl rfl rfl rfl ?_
    refine hq_p 2 211 [some (.ref 174), some (.int a1), some (.int a2), some (.int a3), o4] [.int a1, .ref 196, .int a1, .ref 196] (fun n h => rfl) ?_
    obtain ⟨x10, hx10, h⟩ := hq_bind h
    refine hq_iaload rfl rfl List.length_replicate hx10 ?_
    refine hq_p 2 214 [some (.ref 174), some (.int a1), some (.int a2), some (.int a3), o4] [.int (x10 + (1 : Int32)), .int a1, .ref 196] (fun n h => rfl) ?_
    obtain ⟨s11, hs11, h⟩ := hq_bind h
    refine hq_iastore rfl rfl List.length_replicate hs11 ?_
    have h := Option.some.inj h
    subst h
    exact ⟨1, rfl⟩
theorem f_X12_passes_L174_run {xs : List Int32} {n m d g : Nat} {a1 : Int32} {a2 : Int32} {a3 : Int32} {o4 : Option Value} {s : hq_S} {y : hq_S} (hd : 5 ≤ d) (h : f_X12_passes_L174 n m a1 a2 a3 s = some y) : hq_R (mm_O xs) d mc_X12_passes 174 [some (.ref 174), some (.int a1), some (.int a2), some (.int a3), o4] [] s g none y := by
  induction m generalizing a1 a2 a3 o4 s with
  | zero => cases h
  | succ m ih => exact f_X12_passes_L174_Brun (n := n) hd (fun a1 a2 a3 o4 s h => ih h) h
def f_X12_passes_L77_B (n : Nat) (q64 : Int32 → Int32 → Int32 → hq_S → Option hq_S) (q77 : Int32 → Int32 → Int32 → Int32 → hq_S → Option hq_S) (a1 : Int32) (a2 : Int32) (a3 : Int32) (a4 : Int32) (s : hq_S) : Option hq_S := (hq_ld s 176 14 (3 : Int32)).bind fun x16 => if a4 < x16 then (f_X12_isFree n a1 a4 s).bind fun y18 => (if y18.1 = 0 then some y18.2 else (hq_ld y18.2 203 92 (((4 : Int32) * a1) + a4)).bind fun x21 => (hq_ld y18.2 200 69 (((3 : Int32) * a1) + a3)).bind fun x22 => if x21 = x22 then (f_X12_doesGrip n a1 a2 y18.2).bind fun y24 => if y24.1 = 0 then some y24.2 else (hq_st y24.2 205 92 (((4 : Int32) * a1) + a4) a3).bind fun s26 => (hq_ld s26 202 69 (((3 : Int32) * a1) + a3)).bind fun x27 => (hq_st s26 202 69 (((3 : Int32) * a1) + a3) (x27 + (1 : Int32))).bind fun s28 => some s28 else some y18.2).bind fun z19 => q77 a1 a2 a3 (a4 + (1 : Int32)) z19 else q64 a1 a2 (a3 + (1 : Int32)) s
def f_X12_passes_L77 (n : Nat) (q64 : Int32 → Int32 → Int32 → hq_S → Option hq_S) (m : Nat) : Int32 → Int32 → Int32 → Int32 → hq_S → Option hq_S := Nat.rec (fun _ _ _ _ _ => none) (fun _ q => f_X12_passes_L77_B n q64 q) m
theorem f_X12_passes_L77_Brun {xs : List Int32} {n d g : Nat} {a1 : Int32} {a2 : Int32} {a3 : Int32} {a4 : Int32} {q64 : Int32 → Int32 → Int32 → hq_S → Option hq_S} {q77 : Int32 → Int32 → Int32 → Int32 → hq_S → Option hq_S} {s : hq_S} {y : hq_S} (hd : 5 ≤ d) (e64 : ∀ (a1 : Int32) (a2 : Int32) (a3 : Int32) (o4 : Option Value) (s : hq_S), q64 a1 a2 a3 s = some y → hq_R (mm_O xs) d mc_X12_passes 64 [some (.ref 174), some (.int a1), some (.int a2), some (.int a3), o4] [] s g none y) (e77 : ∀ (a1 : Int32) (a2 : Int32) (a3 : Int32) (a4 : Int32) (s : hq_S), q77 a1 a2 a3 a4 s = some y → hq_R (mm_O xs) d mc_X12_passes 77 [some (.ref 174), some (.int a1), some (.int a2), some (.int a3), some (.int a4)] [] s g none y) (h : f_X12_passes_L77_B n q64 q77 a1 a2 a3 a4 s = some y) : hq_R (mm_O xs) d mc_X12_passes 77 [some (.ref 174), some (.int a1), some (.int a2), some (.int a3), some (.int a4)] [] s g none y := by
  unfold f_X12_passes_L77_B at h
  refine hq_p 2 80 [some (.ref 174), some (.int a1), some (.int a2), some (.int a3), some (.int a4)] [.ref 174, .int a4] (fun n h => rfl) ?_
  refine hq_gf (x := .ref 176) rfl rfl rfl rfl rfl ?_
  refine hq_p 1 84 [some (.ref 174), some (.int a1), some (.int a2), some (.int a3), some (.int a4)] [.int (3 : Int32), .ref 176, .int a4] (fun n h => rfl) ?_
  obtain ⟨x16, hx16, h⟩ := hq_bind h
  refine hq_iaload rfl rfl rfl hx16 ?_
  by_cases c17 : a4 < x16
  · rw [if_pos c17] at h
    refine hq_icF rfl (hq_c_ge_F c17) ?_
    refine hq_p 3 92 [some (.ref 174), some (.int a1), some (.int a2), some (.int a3), some (.int a4)] [.int a4, .int a1, .ref 174] (fun n h => rfl) ?_
    obtain ⟨y18, hy18, h⟩ := hq_bind h
    refine hq_inv rfl rfl (Nat.le_trans (by decide) hd) rfl rfl (hq_rcv rfl rfl) (f_X12_isFree_run (Nat.le_sub_of_add_le (Nat.le_trans (by decide) hd)) hy18) rfl ?_
    obtain ⟨z19, hz19, h⟩ := hq_bind h
    suffices hT : hq_R (mm_O xs) d mc_X12_passes 160 [some (.ref 174), some (.int a1), some (.int a2), some (.int a3), some (.int a4)] [] z19 g none y from by
      clear h
      have h := hz19
      by_cases c20 : y18.1 = 0
      · rw [if_pos c20] at h
        refine hq_izT rfl (hq_c_eq_T c20) ?_
        cases h
        exact hT
      · rw [if_neg c20] at h
        refine hq_izF rfl (hq_c_eq_F c20) ?_
        refine hq_p 1 99 [some (.ref 174), some (.int a1), some (.int a2), some (.int a3), some (.int a4)] [.ref 174] (fun n h => rfl) ?_
        refine hq_gf (x := .ref 203) rfl rfl rfl rfl rfl ?_
        refine hq_p 5 108 [some (.ref 174), some (.int a1), some (.int a2), some (.int a3), some (.int a4)] [.int (((4 : Int32) * a1) + a4), .ref 203] (fun n h => rfl) ?_
        obtain ⟨x21, hx21, h⟩ := hq_bind h
        refine hq_iaload rfl rfl List.length_replicate hx21 ?_
        refine hq_p 1 110 [some (.ref 174), some (.int a1), some (.int a2), some (.int a3), some (.int a4)] [.ref 174, .int x21] (fun n h => rfl) ?_
        refine hq_gf (x := .ref 200) rfl rfl rfl rfl rfl ?_
        refine hq_p 5 118 [some (.ref 174), some (.int a1), some (.int a2), some (.int a3), some (.int a4)] [.int (((3 : Int32) * a1) + a3), .ref 200, .int x21] (fun n h => rfl) ?_
        obtain ⟨x22, hx22, h⟩ := hq_bind h
        refine hq_iaload rfl rfl List.length_replicate hx22 ?_
        by_cases c23 : x21 = x22
        · rw [if_pos c23] at h
          refine hq_icF rfl (hq_c_ne_F c23) ?_
          refine hq_p 3 125 [some (.ref 174), some (.int a1), some (.int a2), some (.int a3), some (.int a4)] [.int a2, .int a1, .ref 174] (fun n h => rfl) ?_
          obtain ⟨y24, hy24, h⟩ := hq_bind h
          refine hq_inv rfl rfl (Nat.le_trans (by decide) hd) rfl rfl (hq_rcv rfl rfl) (f_X12_doesGrip_run (Nat.le_sub_of_add_le (Nat.le_trans (by decide) hd)) hy24) rfl ?_
          by_cases c25 : y24.1 = 0
          · rw [if_pos c25] at h
            refine hq_izF rfl (hq_c_ne_F c25) ?_
            refine hq_p 1 160 [some (.ref 174), some (.int a1), some (.int a2), some (.int a3), some (.int a4)] [] (fun n h => rfl) ?_
            cases h
            exact hT
          · rw [if_neg c25] at h
            refine hq_izT rfl (hq_c_ne_T c25) ?_
            refine hq_p 1 135 [some (.ref 174), some (.int a1), some (.int a2), some (.int a3), some (.int a4)] [.ref 174] (fun n h => rfl) ?_
            refine hq_gf (x := .ref 205) rfl rfl rfl rfl rfl ?_
            refine hq_p 6 145 [some (.ref 174), some (.int a1), some (.int a2), some (.int a3), some (.int a4)] [.int a3, .int (((4 : Int32) * a1) + a4), .ref 205] (fun n h => rfl) ?_
            obtain ⟨s26, hs26, h⟩ := hq_bind h
            refine hq_iastore rfl rfl rfl hs26 ?_
            refine hq_p 1 147 [some (.ref 174), some (.int a1), some (.int a2), some (.int a3), some (.int a4)] [.ref 174] (fun n h => rfl) ?_
            refine hq_gf (x := .ref 202) rfl rfl rfl rfl rfl ?_
            refine hq_p 6 156 [some (.ref 174), some (.int a1), some (.int a2), some (.int a3), some (.int a4)] [.int (((3 : Int32) * a1) + a3), .ref 202, .int (((3 : Int32) * a1) + a3), .ref 202] (fun n h => rfl) ?_
            obtain ⟨x27, hx27, h⟩ := hq_bind h
            refine hq_iaload rfl rfl List.length_replicate hx27 ?_
            refine hq_p 2 159 [some (.ref 174), some (.int a1), some (.int a2), some (.int a3), some (.int a4)] [.int (x27 + (1 : Int32)), .int (((3 : Int32) * a1) + a3), .ref 202] (fun n h => rfl) ?_
            obtain ⟨s28, hs28, h⟩ := hq_bind h
            refine hq_iastore rfl rfl List.length_replicate hs28 ?_
            cases h
            exact hT
        · rw [if_neg c23] at h
          refine hq_icT rfl (hq_c_ne_T c23) ?_
          cases h
          exact hT
    refine hq_p 2 77 [some (.ref 174), some (.int a1), some (.int a2), some (.int a3), some (.int (a4 + (1 : Int32)))] [] (fun n h => rfl) ?_
    exact e77 a1 a2 a3 (a4 + (1 : Int32)) z19 h
  · rw [if_neg c17] at h
    refine hq_icT rfl (hq_c_ge_T c17) ?_
    refine hq_p 2 64 [some (.ref 174), some (.int a1), some (.int a2), some (.int (a3 + (1 : Int32))), some (.int a4)] [] (fun n h => rfl) ?_
    exact e64 a1 a2 (a3 + (1 : Int32)) _ s h
theorem f_X12_passes_L77_run {xs : List Int32} {n m d g : Nat} {a1 : Int32} {a2 : Int32} {a3 : Int32} {a4 : Int32} {q64 : Int32 → Int32 → Int32 → hq_S → Option hq_S} {s : hq_S} {y : hq_S} (hd : 5 ≤ d) (e64 : ∀ (a1 : Int32) (a2 : Int32) (a3 : Int32) (o4 : Option Value) (s : hq_S), q64 a1 a2 a3 s = some y → hq_R (mm_O xs) d mc_X12_passes 64 [some (.ref 174), some (.int a1), some (.int a2), some (.int a3), o4] [] s g none y) (h : f_X12_passes_L77 n q64 m a1 a2 a3 a4 s = some y) : hq_R (mm_O xs) d mc_X12_passes 77 [some (.ref 174), some (.int a1), some (.int a2), some (.int a3), some (.int a4)] [] s g none y := by
  induction m generalizing a1 a2 a3 a4 s with
  | zero => cases h
  | succ m ih => exact f_X12_passes_L77_Brun (n := n) hd e64 (fun a1 a2 a3 a4 s h => ih h) h
def f_X12_passes_L64_B (n : Nat) (q64 : Int32 → Int32 → Int32 → hq_S → Option hq_S) (a1 : Int32) (a2 : Int32) (a3 : Int32) (s : hq_S) : Option hq_S := (hq_ld s 176 14 (2 : Int32)).bind fun x6 => if a3 < x6 then f_X12_passes_L77 n q64 n a1 a2 a3 (0 : Int32) s else f_X12_passes_L174 n n a1 a2 (0 : Int32) s
def f_X12_passes_L64 (n : Nat) (m : Nat) : Int32 → Int32 → Int32 → hq_S → Option hq_S := Nat.rec (fun _ _ _ _ => none) (fun _ q => f_X12_passes_L64_B n q) m
theorem f_X12_passes_L64_Brun {xs : List Int32} {n d g : Nat} {a1 : Int32} {a2 : Int32} {a3 : Int32} {o4 : Option Value} {q64 : Int32 → Int32 → Int32 → hq_S → Option hq_S} {s : hq_S} {y : hq_S} (hd : 5 ≤ d) (e64 : ∀ (a1 : Int32) (a2 : Int32) (a3 : Int32) (o4 : Option Value) (s : hq_S), q64 a1 a2 a3 s = some y → hq_R (mm_O xs) d mc_X12_passes 64 [some (.ref 174), some (.int a1), some (.int a2), some (.int a3), o4] [] s g none y) (h : f_X12_passes_L64_B n q64 a1 a2 a3 s = some y) : hq_R (mm_O xs) d mc_X12_passes 64 [some (.ref 174), some (.int a1), some (.int a2), some (.int a3), o4] [] s g none y := by
  unfold f_X12_passes_L64_B at h
  refine hq_p 2 66 [some (.ref 174), some (.int a1), some (.int a2), some (.int a3), o4] [.ref 174, .int a3] (fun n h => rfl) ?_
  refine hq_gf (x := .ref 176) rfl rfl rfl rfl rfl ?_
  refine hq_p 1 70 [some (.ref 174), some (.int a1), some (.int a2), some (.int a3), o4] [.int (2 : Int32), .ref 176, .int a3] (fun n h => rfl) ?_
  obtain ⟨x6, hx6, h⟩ := hq_bind h
  refine hq_iaload rfl rfl rfl hx6 ?_
  by_cases c7 : a3 < x6
  · rw [if_pos c7] at h
    refine hq_icF rfl (hq_c_ge_F c7) ?_
    refine hq_p 2 77 [some (.ref 174), some (.int a1), some (.int a2), some (.int a3), some (.int (0 : Int32))] [] (fun n h => rfl) ?_
    exact f_X12_passes_L77_run hd e64 h
  · rw [if_neg c7] at h
    refine hq_icT rfl (hq_c_ge_T c7) ?_
    refine hq_p 2 174 [some (.ref 174), some (.int a1), some (.int a2), some (.int (0 : Int32)), o4] [] (fun n h => rfl) ?_
    exact f_X12_passes_L174_run hd h
theorem f_X12_passes_L64_run {xs : List Int32} {n m d g : Nat} {a1 : Int32} {a2 : Int32} {a3 : Int32} {o4 : Option Value} {s : hq_S} {y : hq_S} (hd : 5 ≤ d) (h : f_X12_passes_L64 n m a1 a2 a3 s = some y) : hq_R (mm_O xs) d mc_X12_passes 64 [some (.ref 174), some (.int a1), some (.int a2), some (.int a3), o4] [] s g none y := by
  induction m generalizing a1 a2 a3 o4 s with
  | zero => cases h
  | succ m ih => exact f_X12_passes_L64_Brun (n := n) hd (fun a1 a2 a3 o4 s h => ih h) h
def f_X12_passes_L31_B (n : Nat) (q31 : Int32 → Int32 → Int32 → hq_S → Option hq_S) (a1 : Int32) (a2 : Int32) (a3 : Int32) (s : hq_S) : Option hq_S := (hq_ld s 176 14 (3 : Int32)).bind fun x4 => if a3 < x4 then (f_X12_isFree n a1 a3 s).bind fun y29 => (if y29.1 = 0 then some y29.2 else (f_X12_stirs n a1 a3 y29.2).bind fun s32 => some s32).bind fun z30 => q31 a1 a2 (a3 + (1 : Int32)) z30 else f_X12_passes_L64 n n a1 a2 (0 : Int32) s
def f_X12_passes_L31 (n : Nat) (m : Nat) : Int32 → Int32 → Int32 → hq_S → Option hq_S := Nat.rec (fun _ _ _ _ => none) (fun _ q => f_X12_passes_L31_B n q) m
theorem f_X12_passes_L31_Brun {xs : List Int32} {n d g : Nat} {a1 : Int32} {a2 : Int32} {a3 : Int32} {q31 : Int32 → Int32 → Int32 → hq_S → Option hq_S} {s : hq_S} {y : hq_S} (hd : 5 ≤ d) (e31 : ∀ (a1 : Int32) (a2 : Int32) (a3 : Int32) (s : hq_S), q31 a1 a2 a3 s = some y → hq_R (mm_O xs) d mc_X12_passes 31 [some (.ref 174), some (.int a1), some (.int a2), some (.int a3), none] [] s g none y) (h : f_X12_passes_L31_B n q31 a1 a2 a3 s = some y) : hq_R (mm_O xs) d mc_X12_passes 31 [some (.ref 174), some (.int a1), some (.int a2), some (.int a3), none] [] s g none y := by
  unfold f_X12_passes_L31_B at h
  refine hq_p 2 33 [some (.ref 174), some (.int a1), some (.int a2), some (.int a3), none] [.ref 174, .int a3] (fun n h => rfl) ?_
  refine hq_gf (x := .ref 176) rfl rfl rfl rfl rfl ?_
  refine hq_p 1 37 [some (.ref 174), some (.int a1), some (.int a2), some (.int a3), none] [.int (3 : Int32), .ref 176, .int a3] (fun n h => rfl) ?_
  obtain ⟨x4, hx4, h⟩ := hq_bind h
  refine hq_iaload rfl rfl rfl hx4 ?_
  by_cases c5 : a3 < x4
  · rw [if_pos c5] at h
    refine hq_icF rfl (hq_c_ge_F c5) ?_
    refine hq_p 3 44 [some (.ref 174), some (.int a1), some (.int a2), some (.int a3), none] [.int a3, .int a1, .ref 174] (fun n h => rfl) ?_
    obtain ⟨y29, hy29, h⟩ := hq_bind h
    refine hq_inv rfl rfl (Nat.le_trans (by decide) hd) rfl rfl (hq_rcv rfl rfl) (f_X12_isFree_run (Nat.le_sub_of_add_le (Nat.le_trans (by decide) hd)) hy29) rfl ?_
    obtain ⟨z30, hz30, h⟩ := hq_bind h
    suffices hT : hq_R (mm_O xs) d mc_X12_passes 56 [some (.ref 174), some (.int a1), some (.int a2), some (.int a3), none] [] z30 g none y from by
      clear h
      have h := hz30
      by_cases c31 : y29.1 = 0
      · rw [if_pos c31] at h
        refine hq_izT rfl (hq_c_eq_T c31) ?_
        cases h
        exact hT
      · rw [if_neg c31] at h
        refine hq_izF rfl (hq_c_eq_F c31) ?_
        refine hq_p 3 53 [some (.ref 174), some (.int a1), some (.int a2), some (.int a3), none] [.int a3, .int a1, .ref 174] (fun n h => rfl) ?_
        obtain ⟨s32, hs32, h⟩ := hq_bind h
        refine hq_inv rfl rfl (Nat.le_trans (by decide) hd) rfl rfl (hq_rcv rfl rfl) (f_X12_stirs_run (Nat.le_sub_of_add_le (Nat.le_trans (by decide) hd)) hs32) rfl ?_
        cases h
        exact hT
    refine hq_p 2 31 [some (.ref 174), some (.int a1), some (.int a2), some (.int (a3 + (1 : Int32))), none] [] (fun n h => rfl) ?_
    exact e31 a1 a2 (a3 + (1 : Int32)) z30 h
  · rw [if_neg c5] at h
    refine hq_icT rfl (hq_c_ge_T c5) ?_
    refine hq_p 2 64 [some (.ref 174), some (.int a1), some (.int a2), some (.int (0 : Int32)), none] [] (fun n h => rfl) ?_
    exact f_X12_passes_L64_run hd h
theorem f_X12_passes_L31_run {xs : List Int32} {n m d g : Nat} {a1 : Int32} {a2 : Int32} {a3 : Int32} {s : hq_S} {y : hq_S} (hd : 5 ≤ d) (h : f_X12_passes_L31 n m a1 a2 a3 s = some y) : hq_R (mm_O xs) d mc_X12_passes 31 [some (.ref 174), some (.int a1), some (.int a2), some (.int a3), none] [] s g none y := by
  induction m generalizing a1 a2 a3 s with
  | zero => cases h
  | succ m ih => exact f_X12_passes_L31_Brun (n := n) hd (fun a1 a2 a3 s h => ih h) h
def f_X12_passes_L7_B (n : Nat) (q7 : Int32 → Int32 → Int32 → hq_S → Option hq_S) (a1 : Int32) (a2 : Int32) (a3 : Int32) (s : hq_S) : Option hq_S := (hq_ld s 176 14 (2 : Int32)).bind fun x2 => if a3 < x2 then (f_X12_walks n a1 a3 s).bind fun s33 => q7 a1 a2 (a3 + (1 : Int32)) s33 else f_X12_passes_L31 n n a1 a2 (0 : Int32) s
def f_X12_passes_L7 (n : Nat) (m : Nat) : Int32 → Int32 → Int32 → hq_S → Option hq_S := Nat.rec (fun _ _ _ _ => none) (fun _ q => f_X12_passes_L7_B n q) m
theorem f_X12_passes_L7_Brun {xs : List Int32} {n d g : Nat} {a1 : Int32} {a2 : Int32} {a3 : Int32} {q7 : Int32 → Int32 → Int32 → hq_S → Option hq_S} {s : hq_S} {y : hq_S} (hd : 5 ≤ d) (e7 : ∀ (a1 : Int32) (a2 : Int32) (a3 : Int32) (s : hq_S), q7 a1 a2 a3 s = some y → hq_R (mm_O xs) d mc_X12_passes 7 [some (.ref 174), some (.int a1), some (.int a2), some (.int a3), none] [] s g none y) (h : f_X12_passes_L7_B n q7 a1 a2 a3 s = some y) : hq_R (mm_O xs) d mc_X12_passes 7 [some (.ref 174), some (.int a1), some (.int a2), some (.int a3), none] [] s g none y := by
  unfold f_X12_passes_L7_B at h
  refine hq_p 2 9 [some (.ref 174), some (.int a1), some (.int a2), some (.int a3), none] [.ref 174, .int a3] (fun n h => rfl) ?_
  refine hq_gf (x := .ref 176) rfl rfl rfl rfl rfl ?_
  refine hq_p 1 13 [some (.ref 174), some (.int a1), some (.int a2), some (.int a3), none] [.int (2 : Int32), .ref 176, .int a3] (fun n h => rfl) ?_
  obtain ⟨x2, hx2, h⟩ := hq_bind h
  refine hq_iaload rfl rfl rfl hx2 ?_
  by_cases c3 : a3 < x2
  · rw [if_pos c3] at h
    refine hq_icF rfl (hq_c_ge_F c3) ?_
    refine hq_p 3 20 [some (.ref 174), some (.int a1), some (.int a2), some (.int a3), none] [.int a3, .int a1, .ref 174] (fun n h => rfl) ?_
    obtain ⟨s33, hs33, h⟩ := hq_bind h
    refine hq_inv rfl rfl (Nat.le_trans (by decide) hd) rfl rfl (hq_rcv rfl rfl) (f_X12_walks_run (Nat.le_sub_of_add_le (Nat.le_trans (by decide) hd)) hs33) rfl ?_
    refine hq_p 2 7 [some (.ref 174), some (.int a1), some (.int a2), some (.int (a3 + (1 : Int32))), none] [] (fun n h => rfl) ?_
    exact e7 a1 a2 (a3 + (1 : Int32)) s33 h
  · rw [if_neg c3] at h
    refine hq_icT rfl (hq_c_ge_T c3) ?_
    refine hq_p 2 31 [some (.ref 174), some (.int a1), some (.int a2), some (.int (0 : Int32)), none] [] (fun n h => rfl) ?_
    exact f_X12_passes_L31_run hd h
theorem f_X12_passes_L7_run {xs : List Int32} {n m d g : Nat} {a1 : Int32} {a2 : Int32} {a3 : Int32} {s : hq_S} {y : hq_S} (hd : 5 ≤ d) (h : f_X12_passes_L7 n m a1 a2 a3 s = some y) : hq_R (mm_O xs) d mc_X12_passes 7 [some (.ref 174), some (.int a1), some (.int a2), some (.int a3), none] [] s g none y := by
  induction m generalizing a1 a2 a3 s with
  | zero => cases h
  | succ m ih => exact f_X12_passes_L7_Brun (n := n) hd (fun a1 a2 a3 s h => ih h) h
def f_X12_passes (n : Nat) (a1 : Int32) (a2 : Int32) (s : hq_S) : Option hq_S := (f_X12_lays n a1 s).bind fun s1 => f_X12_passes_L7 n n a1 a2 (0 : Int32) s1
theorem f_X12_passes_run {xs : List Int32} {n d g : Nat} {a1 : Int32} {a2 : Int32} {s : hq_S} {y : hq_S} (hd : 5 ≤ d) (h : f_X12_passes n a1 a2 s = some y) : hq_R (mm_O xs) d mc_X12_passes 0 [some (.ref 174), some (.int a1), some (.int a2), none, none] [] s g none y := by
  unfold f_X12_passes at h
  refine hq_p 2 2 [some (.ref 174), some (.int a1), some (.int a2), none, none] [.int a1, .ref 174] (fun n h => rfl) ?_
  obtain ⟨s1, hs1, h⟩ := hq_bind h
  refine hq_inv rfl rfl (Nat.le_trans (by decide) hd) rfl rfl (hq_rcv rfl rfl) (f_X12_lays_run (Nat.le_sub_of_add_le (Nat.le_trans (by decide) hd)) hs1) rfl ?_
  refine hq_p 2 7 [some (.ref 174), some (.int a1), some (.int a2), some (.int (0 : Int32)), none] [] (fun n h => rfl) ?_
  exact f_X12_passes_L7_run hd h
def f_X12_goesOn_L2_B (n : Nat) (q2 : Int32 → Int32 → hq_S → Option hq_S) (a1 : Int32) (a2 : Int32) (s : hq_S) : Option hq_S := if a2 < a1 then (f_X12_passes n (1 : Int32) (0 : Int32) s).bind fun s2 => q2 a1 (a2 + (1 : Int32)) s2 else some s
def f_X12_goesOn_L2 (n : Nat) (m : Nat) : Int32 → Int32 → hq_S → Option hq_S := Nat.rec (fun _ _ _ => none) (fun _ q => f_X12_goesOn_L2_B n q) m
theorem f_X12_goesOn_L2_Brun {xs : List Int32} {n d g : Nat} {a1 : Int32} {a2 : Int32} {q2 : Int32 → Int32 → hq_S → Option hq_S} {s : hq_S} {y : hq_S} (hd : 6 ≤ d) (e2 : ∀ (a1 : Int32) (a2 : Int32) (s : hq_S), q2 a1 a2 s = some y → hq_R (mm_O xs) d mc_X12_goesOn 2 [some (.ref 174), some (.int a1), some (.int a2)] [] s g none y) (h : f_X12_goesOn_L2_B n q2 a1 a2 s = some y) : hq_R (mm_O xs) d mc_X12_goesOn 2 [some (.ref 174), some (.int a1), some (.int a2)] [] s g none y := by
  unfold f_X12_goesOn_L2_B at h
  refine hq_p 2 4 [some (.ref 174), some (.int a1), some (.int a2)] [.int a1, .int a2] (fun n h => rfl) ?_
  by_cases c1 : a2 < a1
  · rw [if_pos c1] at h
    refine hq_icF rfl (hq_c_ge_F c1) ?_
    refine hq_p 3 10 [some (.ref 174), some (.int a1), some (.int a2)] [.int (0 : Int32), .int (1 : Int32), .ref 174] (fun n h => rfl) ?_
    obtain ⟨s2, hs2, h⟩ := hq_bind h
    refine hq_inv rfl rfl (Nat.le_trans (by decide) hd) rfl rfl (hq_rcv rfl rfl) (f_X12_passes_run (Nat.le_sub_of_add_le (Nat.le_trans (by decide) hd)) hs2) rfl ?_
    refine hq_p 2 2 [some (.ref 174), some (.int a1), some (.int (a2 + (1 : Int32)))] [] (fun n h => rfl) ?_
    exact e2 a1 (a2 + (1 : Int32)) s2 h
  · rw [if_neg c1] at h
    refine hq_icT rfl (hq_c_ge_T c1) ?_
    have h := Option.some.inj h
    subst h
    exact ⟨1, rfl⟩
theorem f_X12_goesOn_L2_run {xs : List Int32} {n m d g : Nat} {a1 : Int32} {a2 : Int32} {s : hq_S} {y : hq_S} (hd : 6 ≤ d) (h : f_X12_goesOn_L2 n m a1 a2 s = some y) : hq_R (mm_O xs) d mc_X12_goesOn 2 [some (.ref 174), some (.int a1), some (.int a2)] [] s g none y := by
  induction m generalizing a1 a2 s with
  | zero => cases h
  | succ m ih => exact f_X12_goesOn_L2_Brun (n := n) hd (fun a1 a2 s h => ih h) h
def f_X12_goesOn (n : Nat) (a1 : Int32) (s : hq_S) : Option hq_S := f_X12_goesOn_L2 n n a1 (0 : Int32) s
theorem f_X12_goesOn_run {xs : List Int32} {n d g : Nat} {a1 : Int32} {s : hq_S} {y : hq_S} (hd : 6 ≤ d) (h : f_X12_goesOn n a1 s = some y) : hq_R (mm_O xs) d mc_X12_goesOn 0 [some (.ref 174), some (.int a1), none] [] s g none y := by
  unfold f_X12_goesOn at h
  refine hq_p 2 2 [some (.ref 174), some (.int a1), some (.int (0 : Int32))] [] (fun n h => rfl) ?_
  exact f_X12_goesOn_L2_run hd h
def f_X12_sumOf_L6_B (n : Nat) (q6 : Nat → Int32 → Int32 → Int32 → Int32 → hq_S → Option (Int32 × hq_S)) (k1 : Nat) (a2 : Int32) (a3 : Int32) (a4 : Int32) (a5 : Int32) (s : hq_S) : Option (Int32 × hq_S) := if a5 < a2 then (hq_ldiA s k1 ((a2 * a3) + a5)).bind fun x2 => q6 k1 a2 a3 (a4 + x2) (a5 + (1 : Int32)) s else some (a4, s)
def f_X12_sumOf_L6 (n : Nat) (m : Nat) : Nat → Int32 → Int32 → Int32 → Int32 → hq_S → Option (Int32 × hq_S) := Nat.rec (fun _ _ _ _ _ _ => none) (fun _ q => f_X12_sumOf_L6_B n q) m
theorem f_X12_sumOf_L6_Brun {xs : List Int32} {n d g : Nat} {k1 : Nat} {a2 : Int32} {a3 : Int32} {a4 : Int32} {a5 : Int32} {q6 : Nat → Int32 → Int32 → Int32 → Int32 → hq_S → Option (Int32 × hq_S)} {s : hq_S} {y : (Int32 × hq_S)} (hd : 0 ≤ d) (e6 : ∀ (k1 : Nat) (a2 : Int32) (a3 : Int32) (a4 : Int32) (a5 : Int32) (s : hq_S), q6 k1 a2 a3 a4 a5 s = some y → hq_R (mm_O xs) d mc_X12_sumOf 6 [some (.ref 174), some (.ref k1), some (.int a2), some (.int a3), some (.int a4), some (.int a5)] [] s g (some (.int y.1)) y.2) (h : f_X12_sumOf_L6_B n q6 k1 a2 a3 a4 a5 s = some y) : hq_R (mm_O xs) d mc_X12_sumOf 6 [some (.ref 174), some (.ref k1), some (.int a2), some (.int a3), some (.int a4), some (.int a5)] [] s g (some (.int y.1)) y.2 := by
  unfold f_X12_sumOf_L6_B at h
  refine hq_p 2 9 [some (.ref 174), some (.ref k1), some (.int a2), some (.int a3), some (.int a4), some (.int a5)] [.int a2, .int a5] (fun n h => rfl) ?_
  by_cases c1 : a5 < a2
  · rw [if_pos c1] at h
    refine hq_icF rfl (hq_c_ge_F c1) ?_
    refine hq_p 7 21 [some (.ref 174), some (.ref k1), some (.int a2), some (.int a3), some (.int a4), some (.int a5)] [.int ((a2 * a3) + a5), .ref k1, .int a4] (fun n h => rfl) ?_
    obtain ⟨x2, hx2, h⟩ := hq_bind h
    refine hq_ialoadA rfl hx2 ?_
    refine hq_p 4 6 [some (.ref 174), some (.ref k1), some (.int a2), some (.int a3), some (.int (a4 + x2)), some (.int (a5 + (1 : Int32)))] [] (fun n h => rfl) ?_
    exact e6 k1 a2 a3 (a4 + x2) (a5 + (1 : Int32)) s h
  · rw [if_neg c1] at h
    refine hq_icT rfl (hq_c_ge_T c1) ?_
    refine hq_p 1 33 [some (.ref 174), some (.ref k1), some (.int a2), some (.int a3), some (.int a4), some (.int a5)] [.int a4] (fun n h => rfl) ?_
    have h := Option.some.inj h
    subst h
    exact ⟨1, rfl⟩
theorem f_X12_sumOf_L6_run {xs : List Int32} {n m d g : Nat} {k1 : Nat} {a2 : Int32} {a3 : Int32} {a4 : Int32} {a5 : Int32} {s : hq_S} {y : (Int32 × hq_S)} (hd : 0 ≤ d) (h : f_X12_sumOf_L6 n m k1 a2 a3 a4 a5 s = some y) : hq_R (mm_O xs) d mc_X12_sumOf 6 [some (.ref 174), some (.ref k1), some (.int a2), some (.int a3), some (.int a4), some (.int a5)] [] s g (some (.int y.1)) y.2 := by
  induction m generalizing k1 a2 a3 a4 a5 s with
  | zero => cases h
  | succ m ih => exact f_X12_sumOf_L6_Brun (n := n) hd (fun k1 a2 a3 a4 a5 s h => ih h) h
def f_X12_sumOf (n : Nat) (k1 : Nat) (a2 : Int32) (a3 : Int32) (s : hq_S) : Option (Int32 × hq_S) := f_X12_sumOf_L6 n n k1 a2 a3 (0 : Int32) (0 : Int32) s
theorem f_X12_sumOf_run {xs : List Int32} {n d g : Nat} {k1 : Nat} {a2 : Int32} {a3 : Int32} {s : hq_S} {y : (Int32 × hq_S)} (hd : 0 ≤ d) (h : f_X12_sumOf n k1 a2 a3 s = some y) : hq_R (mm_O xs) d mc_X12_sumOf 0 [some (.ref 174), some (.ref k1), some (.int a2), some (.int a3), none, none] [] s g (some (.int y.1)) y.2 := by
  unfold f_X12_sumOf at h
  refine hq_p 4 6 [some (.ref 174), some (.ref k1), some (.int a2), some (.int a3), some (.int (0 : Int32)), some (.int (0 : Int32))] [] (fun n h => rfl) ?_
  exact f_X12_sumOf_L6_run hd h
def f_X12_caughtOnes_L4_B (n : Nat) (q4 : Int32 → Int32 → Int32 → hq_S → Option (Int32 × hq_S)) (a1 : Int32) (a2 : Int32) (a3 : Int32) (s : hq_S) : Option (Int32 × hq_S) := (hq_ld s 176 14 (3 : Int32)).bind fun x1 => if a3 < x1 then (f_X12_isFree n a1 a3 s).bind fun y3 => (if y3.1 = 0 then some (1 : Int32) else some (0 : Int32)).bind fun z4 => q4 a1 (a2 + z4) (a3 + (1 : Int32)) y3.2 else some (a2, s)
def f_X12_caughtOnes_L4 (n : Nat) (m : Nat) : Int32 → Int32 → Int32 → hq_S → Option (Int32 × hq_S) := Nat.rec (fun _ _ _ _ => none) (fun _ q => f_X12_caughtOnes_L4_B n q) m
theorem f_X12_caughtOnes_L4_Brun {xs : List Int32} {n d g : Nat} {a1 : Int32} {a2 : Int32} {a3 : Int32} {q4 : Int32 → Int32 → Int32 → hq_S → Option (Int32 × hq_S)} {s : hq_S} {y : (Int32 × hq_S)} (hd : 1 ≤ d) (e4 : ∀ (a1 : Int32) (a2 : Int32) (a3 : Int32) (s : hq_S), q4 a1 a2 a3 s = some y → hq_R (mm_O xs) d mc_X12_caughtOnes 4 [some (.ref 174), some (.int a1), some (.int a2), some (.int a3)] [] s g (some (.int y.1)) y.2) (h : f_X12_caughtOnes_L4_B n q4 a1 a2 a3 s = some y) : hq_R (mm_O xs) d mc_X12_caughtOnes 4 [some (.ref 174), some (.int a1), some (.int a2), some (.int a3)] [] s g (some (.int y.1)) y.2 := by
  unfold f_X12_caughtOnes_L4_B at h
  refine hq_p 2 6 [some (.ref 174), some (.int a1), some (.int a2), some (.int a3)] [.ref 174, .int a3] (fun n h => rfl) ?_
  refine hq_gf (x := .ref 176) rfl rfl rfl rfl rfl ?_
  refine hq_p 1 10 [some (.ref 174), some (.int a1), some (.int a2), some (.int a3)] [.int (3 : Int32), .ref 176, .int a3] (fun n h => rfl) ?_
  obtain ⟨x1, hx1, h⟩ := hq_bind h
  refine hq_iaload rfl rfl rfl hx1 ?_
  by_cases c2 : a3 < x1
  · rw [if_pos c2] at h
    refine hq_icF rfl (hq_c_ge_F c2) ?_
    refine hq_p 4 18 [some (.ref 174), some (.int a1), some (.int a2), some (.int a3)] [.int a3, .int a1, .ref 174, .int a2] (fun n h => rfl) ?_
    obtain ⟨y3, hy3, h⟩ := hq_bind h
    refine hq_inv rfl rfl (Nat.le_trans (by decide) hd) rfl rfl (hq_rcv rfl rfl) (f_X12_isFree_run (Nat.le_sub_of_add_le (Nat.le_trans (by decide) hd)) hy3) rfl ?_
    obtain ⟨z4, hz4, h⟩ := hq_bind h
    suffices hT : hq_R (mm_O xs) d mc_X12_caughtOnes 29 [some (.ref 174), some (.int a1), some (.int a2), some (.int a3)] [.int z4, .int a2] y3.2 g (some (.int y.1)) y.2 from by
      clear h
      have h := hz4
      by_cases c5 : y3.1 = 0
      · rw [if_pos c5] at h
        refine hq_izT rfl (hq_c_eq_T c5) ?_
        refine hq_p 1 29 [some (.ref 174), some (.int a1), some (.int a2), some (.int a3)] [.int (1 : Int32), .int a2] (fun n h => rfl) ?_
        cases h
        exact hT
      · rw [if_neg c5] at h
        refine hq_izF rfl (hq_c_eq_F c5) ?_
        refine hq_p 2 29 [some (.ref 174), some (.int a1), some (.int a2), some (.int a3)] [.int (0 : Int32), .int a2] (fun n h => rfl) ?_
        cases h
        exact hT
    refine hq_p 4 4 [some (.ref 174), some (.int a1), some (.int (a2 + z4)), some (.int (a3 + (1 : Int32)))] [] (fun n h => rfl) ?_
    exact e4 a1 (a2 + z4) (a3 + (1 : Int32)) y3.2 h
  · rw [if_neg c2] at h
    refine hq_icT rfl (hq_c_ge_T c2) ?_
    refine hq_p 1 38 [some (.ref 174), some (.int a1), some (.int a2), some (.int a3)] [.int a2] (fun n h => rfl) ?_
    have h := Option.some.inj h
    subst h
    exact ⟨1, rfl⟩
theorem f_X12_caughtOnes_L4_run {xs : List Int32} {n m d g : Nat} {a1 : Int32} {a2 : Int32} {a3 : Int32} {s : hq_S} {y : (Int32 × hq_S)} (hd : 1 ≤ d) (h : f_X12_caughtOnes_L4 n m a1 a2 a3 s = some y) : hq_R (mm_O xs) d mc_X12_caughtOnes 4 [some (.ref 174), some (.int a1), some (.int a2), some (.int a3)] [] s g (some (.int y.1)) y.2 := by
  induction m generalizing a1 a2 a3 s with
  | zero => cases h
  | succ m ih => exact f_X12_caughtOnes_L4_Brun (n := n) hd (fun a1 a2 a3 s h => ih h) h
def f_X12_caughtOnes (n : Nat) (a1 : Int32) (s : hq_S) : Option (Int32 × hq_S) := f_X12_caughtOnes_L4 n n a1 (0 : Int32) (0 : Int32) s
theorem f_X12_caughtOnes_run {xs : List Int32} {n d g : Nat} {a1 : Int32} {s : hq_S} {y : (Int32 × hq_S)} (hd : 1 ≤ d) (h : f_X12_caughtOnes n a1 s = some y) : hq_R (mm_O xs) d mc_X12_caughtOnes 0 [some (.ref 174), some (.int a1), none, none] [] s g (some (.int y.1)) y.2 := by
  unfold f_X12_caughtOnes at h
  refine hq_p 4 4 [some (.ref 174), some (.int a1), some (.int (0 : Int32)), some (.int (0 : Int32))] [] (fun n h => rfl) ?_
  exact f_X12_caughtOnes_L4_run hd h
def f_X12_thievesAt_L4_B (n : Nat) (q4 : Int32 → Int32 → Int32 → hq_S → Option (Int32 × hq_S)) (a1 : Int32) (a2 : Int32) (a3 : Int32) (s : hq_S) : Option (Int32 × hq_S) := (hq_ld s 176 14 (3 : Int32)).bind fun x1 => if a3 < x1 then (f_X12_isFree n (0 : Int32) a3 s).bind fun y3 => (if y3.1 = 0 then some (0 : Int32) else (hq_ld y3.2 203 92 a3).bind fun x6 => if x6 = a1 then some ((1 : Int32) <<< (a3 &&& 31)) else some (0 : Int32)).bind fun z4 => q4 a1 (a2 ||| z4) (a3 + (1 : Int32)) y3.2 else some (a2, s)
def f_X12_thievesAt_L4 (n : Nat) (m : Nat) : Int32 → Int32 → Int32 → hq_S → Option (Int32 × hq_S) := Nat.rec (fun _ _ _ _ => none) (fun _ q => f_X12_thievesAt_L4_B n q) m
theorem f_X12_thievesAt_L4_Brun {xs : List Int32} {n d g : Nat} {a1 : Int32} {a2 : Int32} {a3 : Int32} {q4 : Int32 → Int32 → Int32 → hq_S → Option (Int32 × hq_S)} {s : hq_S} {y : (Int32 × hq_S)} (hd : 1 ≤ d) (e4 : ∀ (a1 : Int32) (a2 : Int32) (a3 : Int32) (s : hq_S), q4 a1 a2 a3 s = some y → hq_R (mm_O xs) d mc_X12_thievesAt 4 [some (.ref 174), some (.int a1), some (.int a2), some (.int a3)] [] s g (some (.int y.1)) y.2) (h : f_X12_thievesAt_L4_B n q4 a1 a2 a3 s = some y) : hq_R (mm_O xs) d mc_X12_thievesAt 4 [some (.ref 174), some (.int a1), some (.int a2), some (.int a3)] [] s g (some (.int y.1)) y.2 := by
  unfold f_X12_thievesAt_L4_B at h
  refine hq_p 2 6 [some (.ref 174), some (.int a1), some (.int a2), some (.int a3)] [.ref 174, .int a3] (fun n h => rfl) ?_
  refine hq_gf (x := .ref 176) rfl rfl rfl rfl rfl ?_
  refine hq_p 1 10 [some (.ref 174), some (.int a1), some (.int a2), some (.int a3)] [.int (3 : Int32), .ref 176, .int a3] (fun n h => rfl) ?_
  obtain ⟨x1, hx1, h⟩ := hq_bind h
  refine hq_iaload rfl rfl rfl hx1 ?_
  by_cases c2 : a3 < x1
  · rw [if_pos c2] at h
    refine hq_icF rfl (hq_c_ge_F c2) ?_
    refine hq_p 4 18 [some (.ref 174), some (.int a1), some (.int a2), some (.int a3)] [.int a3, .int (0 : Int32), .ref 174, .int a2] (fun n h => rfl) ?_
    obtain ⟨y3, hy3, h⟩ := hq_bind h
    refine hq_inv rfl rfl (Nat.le_trans (by decide) hd) rfl rfl (hq_rcv rfl rfl) (f_X12_isFree_run (Nat.le_sub_of_add_le (Nat.le_trans (by decide) hd)) hy3) rfl ?_
    obtain ⟨z4, hz4, h⟩ := hq_bind h
    suffices hT : hq_R (mm_O xs) d mc_X12_thievesAt 41 [some (.ref 174), some (.int a1), some (.int a2), some (.int a3)] [.int z4, .int a2] y3.2 g (some (.int y.1)) y.2 from by
      clear h
      have h := hz4
      by_cases c5 : y3.1 = 0
      · rw [if_pos c5] at h
        refine hq_izT rfl (hq_c_eq_T c5) ?_
        refine hq_p 1 41 [some (.ref 174), some (.int a1), some (.int a2), some (.int a3)] [.int (0 : Int32), .int a2] (fun n h => rfl) ?_
        cases h
        exact hT
      · rw [if_neg c5] at h
        refine hq_izF rfl (hq_c_eq_F c5) ?_
        refine hq_p 1 25 [some (.ref 174), some (.int a1), some (.int a2), some (.int a3)] [.ref 174, .int a2] (fun n h => rfl) ?_
        refine hq_gf (x := .ref 203) rfl rfl rfl rfl rfl ?_
        refine hq_p 1 29 [some (.ref 174), some (.int a1), some (.int a2), some (.int a3)] [.int a3, .ref 203, .int a2] (fun n h => rfl) ?_
        obtain ⟨x6, hx6, h⟩ := hq_bind h
        refine hq_iaload rfl rfl List.length_replicate hx6 ?_
        refine hq_p 1 31 [some (.ref 174), some (.int a1), some (.int a2), some (.int a3)] [.int a1, .int x6, .int a2] (fun n h => rfl) ?_
        by_cases c7 : x6 = a1
        · rw [if_pos c7] at h
          refine hq_icF rfl (hq_c_ne_F c7) ?_
          refine hq_p 4 41 [some (.ref 174), some (.int a1), some (.int a2), some (.int a3)] [.int ((1 : Int32) <<< (a3 &&& 31)), .int a2] (fun n h => rfl) ?_
          cases h
          exact hT
        · rw [if_neg c7] at h
          refine hq_icT rfl (hq_c_ne_T c7) ?_
          refine hq_p 1 41 [some (.ref 174), some (.int a1), some (.int a2), some (.int a3)] [.int (0 : Int32), .int a2] (fun n h => rfl) ?_
          cases h
          exact hT
    refine hq_p 4 4 [some (.ref 174), some (.int a1), some (.int (a2 ||| z4)), some (.int (a3 + (1 : Int32)))] [] (fun n h => rfl) ?_
    exact e4 a1 (a2 ||| z4) (a3 + (1 : Int32)) y3.2 h
  · rw [if_neg c2] at h
    refine hq_icT rfl (hq_c_ge_T c2) ?_
    refine hq_p 1 50 [some (.ref 174), some (.int a1), some (.int a2), some (.int a3)] [.int a2] (fun n h => rfl) ?_
    have h := Option.some.inj h
    subst h
    exact ⟨1, rfl⟩
theorem f_X12_thievesAt_L4_run {xs : List Int32} {n m d g : Nat} {a1 : Int32} {a2 : Int32} {a3 : Int32} {s : hq_S} {y : (Int32 × hq_S)} (hd : 1 ≤ d) (h : f_X12_thievesAt_L4 n m a1 a2 a3 s = some y) : hq_R (mm_O xs) d mc_X12_thievesAt 4 [some (.ref 174), some (.int a1), some (.int a2), some (.int a3)] [] s g (some (.int y.1)) y.2 := by
  induction m generalizing a1 a2 a3 s with
  | zero => cases h
  | succ m ih => exact f_X12_thievesAt_L4_Brun (n := n) hd (fun a1 a2 a3 s h => ih h) h
def f_X12_thievesAt (n : Nat) (a1 : Int32) (s : hq_S) : Option (Int32 × hq_S) := f_X12_thievesAt_L4 n n a1 (0 : Int32) (0 : Int32) s
theorem f_X12_thievesAt_run {xs : List Int32} {n d g : Nat} {a1 : Int32} {s : hq_S} {y : (Int32 × hq_S)} (hd : 1 ≤ d) (h : f_X12_thievesAt n a1 s = some y) : hq_R (mm_O xs) d mc_X12_thievesAt 0 [some (.ref 174), some (.int a1), none, none] [] s g (some (.int y.1)) y.2 := by
  unfold f_X12_thievesAt at h
  refine hq_p 4 4 [some (.ref 174), some (.int a1), some (.int (0 : Int32)), some (.int (0 : Int32))] [] (fun n h => rfl) ?_
  exact f_X12_thievesAt_L4_run hd h
def f_X12_corner (n : Nat) (a1 : Int32) (a2 : Int32) (s : hq_S) : Option (Int32 × hq_S) := (f_X12_isCorner n a1 s).bind fun y1 => (if y1.1 = 0 then some (1 : Int32) else if a2 < 0 then some (2 : Int32) else if (4 : Int32) < a2 then some (2 : Int32) else some (0 : Int32)).bind fun z2 => (hq_pi y1.2 174 0 0 z2).bind fun s6 => if (hq_gi s6 174 0) = 0 then (f_X12_lays n (0 : Int32) s6).bind fun s8 => if a2 = (0 : Int32) then (hq_ld s8 178 20 a1).bind fun x10 => some (x10, s8) else if a2 = (1 : Int32) then (hq_ld s8 199 230 a1).bind fun x12 => some (x12, s8) else if a2 = (2 : Int32) then (f_X12_guardsAt n (0 : Int32) a1 s8).bind fun y14 => some (y14.1, y14.2) else if a2 = (3 : Int32) then (f_X12_thievesAt n a1 s8).bind fun y16 => some (y16.1, y16.2) else (hq_ld s8 206 10 a1).bind fun x17 => some (x17, s8) else some ((0 : Int32), s6)
theorem f_X12_corner_run {xs : List Int32} {n d g : Nat} {a1 : Int32} {a2 : Int32} {s : hq_S} {y : (Int32 × hq_S)} (hd : 2 ≤ d) (h : f_X12_corner n a1 a2 s = some y) : hq_R (mm_O xs) d mc_X12_corner 0 [some (.ref 174), some (.int a1), some (.int a2)] [] s g (some (.int y.1)) y.2 := by
  unfold f_X12_corner at h
  refine hq_p 3 3 [some (.ref 174), some (.int a1), some (.int a2)] [.int a1, .ref 174, .ref 174] (fun n h => rfl) ?_
  obtain ⟨y1, hy1, h⟩ := hq_bind h
  refine hq_inv rfl rfl (Nat.le_trans (by decide) hd) rfl rfl (hq_rcv rfl rfl) (f_X12_isCorner_run (Nat.le_sub_of_add_le (Nat.le_trans (by decide) hd)) hy1) rfl ?_
  obtain ⟨z2, hz2, h⟩ := hq_bind h
  suffices hT : hq_R (mm_O xs) d mc_X12_corner 27 [some (.ref 174), some (.int a1), some (.int a2)] [.int z2, .ref 174] y1.2 g (some (.int y.1)) y.2 from by
    clear h
    have h := hz2
    by_cases c3 : y1.1 = 0
    · rw [if_pos c3] at h
      refine hq_izF rfl (hq_c_ne_F c3) ?_
      refine hq_p 2 27 [some (.ref 174), some (.int a1), some (.int a2)] [.int (1 : Int32), .ref 174] (fun n h => rfl) ?_
      cases h
      exact hT
    · rw [if_neg c3] at h
      refine hq_izT rfl (hq_c_ne_T c3) ?_
      refine hq_p 1 14 [some (.ref 174), some (.int a1), some (.int a2)] [.int a2, .ref 174] (fun n h => rfl) ?_
      by_cases c4 : a2 < 0
      · rw [if_pos c4] at h
        refine hq_izT rfl (hq_c_lt_T c4) ?_
        refine hq_p 2 27 [some (.ref 174), some (.int a1), some (.int a2)] [.int (2 : Int32), .ref 174] (fun n h => rfl) ?_
        cases h
        exact hT
      · rw [if_neg c4] at h
        refine hq_izF rfl (hq_c_lt_F c4) ?_
        refine hq_p 2 19 [some (.ref 174), some (.int a1), some (.int a2)] [.int (4 : Int32), .int a2, .ref 174] (fun n h => rfl) ?_
        by_cases c5 : (4 : Int32) < a2
        · rw [if_pos c5] at h
          refine hq_icF rfl (hq_c_le_F c5) ?_
          refine hq_p 2 27 [some (.ref 174), some (.int a1), some (.int a2)] [.int (2 : Int32), .ref 174] (fun n h => rfl) ?_
          cases h
          exact hT
        · rw [if_neg c5] at h
          refine hq_icT rfl (hq_c_le_T c5) ?_
          refine hq_p 1 27 [some (.ref 174), some (.int a1), some (.int a2)] [.int (0 : Int32), .ref 174] (fun n h => rfl) ?_
          cases h
          exact hT
  obtain ⟨s6, hs6, h⟩ := hq_bind h
  refine hq_pfi rfl rfl rfl rfl rfl hs6 ?_
  refine hq_p 1 31 [some (.ref 174), some (.int a1), some (.int a2)] [.ref 174] (fun n h => rfl) ?_
  refine hq_gf (x := .int (hq_gi s6 174 0)) rfl rfl rfl rfl rfl ?_
  by_cases c7 : (hq_gi s6 174 0) = 0
  · rw [if_pos c7] at h
    refine hq_izT rfl (hq_c_eq_T c7) ?_
    refine hq_p 2 41 [some (.ref 174), some (.int a1), some (.int a2)] [.int (0 : Int32), .ref 174] (fun n h => rfl) ?_
    obtain ⟨s8, hs8, h⟩ := hq_bind h
    refine hq_inv rfl rfl (Nat.le_trans (by decide) hd) rfl rfl (hq_rcv rfl rfl) (f_X12_lays_run (Nat.le_sub_of_add_le (Nat.le_trans (by decide) hd)) hs8) rfl ?_
    refine hq_p 1 45 [some (.ref 174), some (.int a1), some (.int a2)] [.int a2] (fun n h => rfl) ?_
    by_cases c9 : a2 = (0 : Int32)
    · rw [if_pos c9] at h
      refine hq_tsw rfl (show _ = some 76 from by rw [c9]; decide) ?_
      refine hq_p 1 77 [some (.ref 174), some (.int a1), some (.int a2)] [.ref 174] (fun n h => rfl) ?_
      refine hq_gf (x := .ref 178) rfl rfl rfl rfl rfl ?_
      refine hq_p 1 81 [some (.ref 174), some (.int a1), some (.int a2)] [.int a1, .ref 178] (fun n h => rfl) ?_
      obtain ⟨x10, hx10, h⟩ := hq_bind h
      refine hq_iaload rfl rfl List.length_replicate hx10 ?_
      have h := Option.some.inj h
      subst h
      exact ⟨1, rfl⟩
    rw [if_neg c9] at h
    by_cases c11 : a2 = (1 : Int32)
    · rw [if_pos c11] at h
      refine hq_tsw rfl (show _ = some 83 from by rw [c11]; decide) ?_
      refine hq_p 1 84 [some (.ref 174), some (.int a1), some (.int a2)] [.ref 174] (fun n h => rfl) ?_
      refine hq_gf (x := .ref 199) rfl rfl rfl rfl rfl ?_
      refine hq_p 1 88 [some (.ref 174), some (.int a1), some (.int a2)] [.int a1, .ref 199] (fun n h => rfl) ?_
      obtain ⟨x12, hx12, h⟩ := hq_bind h
      refine hq_iaload rfl rfl List.length_replicate hx12 ?_
      have h := Option.some.inj h
      subst h
      exact ⟨1, rfl⟩
    rw [if_neg c11] at h
    by_cases c13 : a2 = (2 : Int32)
    · rw [if_pos c13] at h
      refine hq_tsw rfl (show _ = some 90 from by rw [c13]; decide) ?_
      refine hq_p 3 93 [some (.ref 174), some (.int a1), some (.int a2)] [.int a1, .int (0 : Int32), .ref 174] (fun n h => rfl) ?_
      obtain ⟨y14, hy14, h⟩ := hq_bind h
      refine hq_inv rfl rfl (Nat.le_trans (by decide) hd) rfl rfl (hq_rcv rfl rfl) (f_X12_guardsAt_run (Nat.le_sub_of_add_le (Nat.le_trans (by decide) hd)) hy14) rfl ?_
      have h := Option.some.inj h
      subst h
      exact ⟨1, rfl⟩
    rw [if_neg c13] at h
    by_cases c15 : a2 = (3 : Int32)
    · rw [if_pos c15] at h
      refine hq_tsw rfl (show _ = some 97 from by rw [c15]; decide) ?_
      refine hq_p 2 99 [some (.ref 174), some (.int a1), some (.int a2)] [.int a1, .ref 174] (fun n h => rfl) ?_
      obtain ⟨y16, hy16, h⟩ := hq_bind h
      refine hq_inv rfl rfl (Nat.le_trans (by decide) hd) rfl rfl (hq_rcv rfl rfl) (f_X12_thievesAt_run (Nat.le_sub_of_add_le (Nat.le_trans (by decide) hd)) hy16) rfl ?_
      have h := Option.some.inj h
      subst h
      exact ⟨1, rfl⟩
    rw [if_neg c15] at h
    refine hq_tsw rfl (hq_tsw_d [(0 : Int32), (1 : Int32), (2 : Int32), (3 : Int32)] (by decide) rfl ⟨c9, c11, c13, c15, trivial⟩) ?_
    refine hq_p 1 104 [some (.ref 174), some (.int a1), some (.int a2)] [.ref 174] (fun n h => rfl) ?_
    refine hq_gf (x := .ref 206) rfl rfl rfl rfl rfl ?_
    refine hq_p 1 108 [some (.ref 174), some (.int a1), some (.int a2)] [.int a1, .ref 206] (fun n h => rfl) ?_
    obtain ⟨x17, hx17, h⟩ := hq_bind h
    refine hq_iaload rfl rfl List.length_replicate hx17 ?_
    have h := Option.some.inj h
    subst h
    exact ⟨1, rfl⟩
  · rw [if_neg c7] at h
    refine hq_izF rfl (hq_c_eq_F c7) ?_
    refine hq_p 1 38 [some (.ref 174), some (.int a1), some (.int a2)] [.int (0 : Int32)] (fun n h => rfl) ?_
    have h := Option.some.inj h
    subst h
    exact ⟨1, rfl⟩
def f_X12_guard (n : Nat) (a1 : Int32) (a2 : Int32) (s : hq_S) : Option (Int32 × hq_S) := (hq_pi s 174 0 0 (0 : Int32)).bind fun s1 => (f_X12_isGuard n a1 s1).bind fun y2 => if y2.1 = 0 then some ((-1 : Int32), y2.2) else if a2 = (0 : Int32) then (hq_ld y2.2 200 69 a1).bind fun x5 => some (x5, y2.2) else if a2 = (1 : Int32) then (hq_ld y2.2 185 6 a1).bind fun x7 => if x7 = 0 then some ((-2 : Int32), y2.2) else (hq_ld y2.2 201 69 a1).bind fun x9 => some (x9, y2.2) else if a2 = (2 : Int32) then (hq_ld y2.2 202 69 a1).bind fun x11 => some (x11, y2.2) else some ((-1 : Int32), y2.2)
theorem f_X12_guard_run {xs : List Int32} {n d g : Nat} {a1 : Int32} {a2 : Int32} {s : hq_S} {y : (Int32 × hq_S)} (hd : 1 ≤ d) (h : f_X12_guard n a1 a2 s = some y) : hq_R (mm_O xs) d mc_X12_guard 0 [some (.ref 174), some (.int a1), some (.int a2)] [] s g (some (.int y.1)) y.2 := by
  unfold f_X12_guard at h
  refine hq_p 2 2 [some (.ref 174), some (.int a1), some (.int a2)] [.int (0 : Int32), .ref 174] (fun n h => rfl) ?_
  obtain ⟨s1, hs1, h⟩ := hq_bind h
  refine hq_pfi rfl rfl rfl rfl rfl hs1 ?_
  refine hq_p 2 7 [some (.ref 174), some (.int a1), some (.int a2)] [.int a1, .ref 174] (fun n h => rfl) ?_
  obtain ⟨y2, hy2, h⟩ := hq_bind h
  refine hq_inv rfl rfl (Nat.le_trans (by decide) hd) rfl rfl (hq_rcv rfl rfl) (f_X12_isGuard_run (Nat.le_sub_of_add_le (Nat.le_trans (by decide) hd)) hy2) rfl ?_
  by_cases c3 : y2.1 = 0
  · rw [if_pos c3] at h
    refine hq_izF rfl (hq_c_ne_F c3) ?_
    refine hq_icn (-1 : Int32) rfl (by decide) ?_
    have h := Option.some.inj h
    subst h
    exact ⟨1, rfl⟩
  · rw [if_neg c3] at h
    refine hq_izT rfl (hq_c_ne_T c3) ?_
    refine hq_p 1 16 [some (.ref 174), some (.int a1), some (.int a2)] [.int a2] (fun n h => rfl) ?_
    by_cases c4 : a2 = (0 : Int32)
    · rw [if_pos c4] at h
      refine hq_tsw rfl (show _ = some 44 from by rw [c4]; decide) ?_
      refine hq_p 1 45 [some (.ref 174), some (.int a1), some (.int a2)] [.ref 174] (fun n h => rfl) ?_
      refine hq_gf (x := .ref 200) rfl rfl rfl rfl rfl ?_
      refine hq_p 1 49 [some (.ref 174), some (.int a1), some (.int a2)] [.int a1, .ref 200] (fun n h => rfl) ?_
      obtain ⟨x5, hx5, h⟩ := hq_bind h
      refine hq_iaload rfl rfl List.length_replicate hx5 ?_
      have h := Option.some.inj h
      subst h
      exact ⟨1, rfl⟩
    rw [if_neg c4] at h
    by_cases c6 : a2 = (1 : Int32)
    · rw [if_pos c6] at h
      refine hq_tsw rfl (show _ = some 51 from by rw [c6]; decide) ?_
      refine hq_p 1 52 [some (.ref 174), some (.int a1), some (.int a2)] [.ref 174] (fun n h => rfl) ?_
      refine hq_gf (x := .ref 185) rfl rfl rfl rfl rfl ?_
      refine hq_p 1 56 [some (.ref 174), some (.int a1), some (.int a2)] [.int a1, .ref 185] (fun n h => rfl) ?_
      obtain ⟨x7, hx7, h⟩ := hq_bind h
      refine hq_iaload rfl rfl List.length_replicate hx7 ?_
      by_cases c8 : x7 = 0
      · rw [if_pos c8] at h
        refine hq_izF rfl (hq_c_ne_F c8) ?_
        refine hq_bip (-2 : Int32) rfl (by decide) ?_
        refine hq_p 1 71 [some (.ref 174), some (.int a1), some (.int a2)] [.int (-2 : Int32)] (fun n h => rfl) ?_
        have h := Option.some.inj h
        subst h
        exact ⟨1, rfl⟩
      · rw [if_neg c8] at h
        refine hq_izT rfl (hq_c_ne_T c8) ?_
        refine hq_p 1 66 [some (.ref 174), some (.int a1), some (.int a2)] [.ref 174] (fun n h => rfl) ?_
        refine hq_gf (x := .ref 201) rfl rfl rfl rfl rfl ?_
        refine hq_p 1 70 [some (.ref 174), some (.int a1), some (.int a2)] [.int a1, .ref 201] (fun n h => rfl) ?_
        obtain ⟨x9, hx9, h⟩ := hq_bind h
        refine hq_iaload rfl rfl List.length_replicate hx9 ?_
        have h := Option.some.inj h
        subst h
        exact ⟨1, rfl⟩
    rw [if_neg c6] at h
    by_cases c10 : a2 = (2 : Int32)
    · rw [if_pos c10] at h
      refine hq_tsw rfl (show _ = some 72 from by rw [c10]; decide) ?_
      refine hq_p 1 73 [some (.ref 174), some (.int a1), some (.int a2)] [.ref 174] (fun n h => rfl) ?_
      refine hq_gf (x := .ref 202) rfl rfl rfl rfl rfl ?_
      refine hq_p 1 77 [some (.ref 174), some (.int a1), some (.int a2)] [.int a1, .ref 202] (fun n h => rfl) ?_
      obtain ⟨x11, hx11, h⟩ := hq_bind h
      refine hq_iaload rfl rfl List.length_replicate hx11 ?_
      have h := Option.some.inj h
      subst h
      exact ⟨1, rfl⟩
    rw [if_neg c10] at h
    refine hq_tsw rfl (hq_tsw_d [(0 : Int32), (1 : Int32), (2 : Int32)] (by decide) rfl ⟨c4, c6, c10, trivial⟩) ?_
    refine hq_icn (-1 : Int32) rfl (by decide) ?_
    have h := Option.some.inj h
    subst h
    exact ⟨1, rfl⟩
def f_X12_thief (n : Nat) (a1 : Int32) (a2 : Int32) (s : hq_S) : Option (Int32 × hq_S) := (hq_pi s 174 0 0 (0 : Int32)).bind fun s1 => (f_X12_isThief n a1 s1).bind fun y2 => if y2.1 = 0 then some ((-1 : Int32), y2.2) else if a2 = (0 : Int32) then (hq_ld y2.2 203 92 a1).bind fun x5 => some (x5, y2.2) else if a2 = (1 : Int32) then (hq_ld y2.2 189 8 a1).bind fun x7 => some (x7, y2.2) else if a2 = (2 : Int32) then (hq_ld y2.2 204 92 a1).bind fun x9 => some (x9, y2.2) else if a2 = (3 : Int32) then (f_X12_isFree n (0 : Int32) a1 y2.2).bind fun y11 => if y11.1 = 0 then (hq_ld y11.2 205 92 a1).bind fun x13 => some (x13, y11.2) else some ((-2 : Int32), y11.2) else some ((-1 : Int32), y2.2)
theorem f_X12_thief_run {xs : List Int32} {n d g : Nat} {a1 : Int32} {a2 : Int32} {s : hq_S} {y : (Int32 × hq_S)} (hd : 1 ≤ d) (h : f_X12_thief n a1 a2 s = some y) : hq_R (mm_O xs) d mc_X12_thief 0 [some (.ref 174), some (.int a1), some (.int a2)] [] s g (some (.int y.1)) y.2 := by
  unfold f_X12_thief at h
  refine hq_p 2 2 [some (.ref 174), some (.int a1), some (.int a2)] [.int (0 : Int32), .ref 174] (fun n h => rfl) ?_
  obtain ⟨s1, hs1, h⟩ := hq_bind h
  refine hq_pfi rfl rfl rfl rfl rfl hs1 ?_
  refine hq_p 2 7 [some (.ref 174), some (.int a1), some (.int a2)] [.int a1, .ref 174] (fun n h => rfl) ?_
  obtain ⟨y2, hy2, h⟩ := hq_bind h
  refine hq_inv rfl rfl (Nat.le_trans (by decide) hd) rfl rfl (hq_rcv rfl rfl) (f_X12_isThief_run (Nat.le_sub_of_add_le (Nat.le_trans (by decide) hd)) hy2) rfl ?_
  by_cases c3 : y2.1 = 0
  · rw [if_pos c3] at h
    refine hq_izF rfl (hq_c_ne_F c3) ?_
    refine hq_icn (-1 : Int32) rfl (by decide) ?_
    have h := Option.some.inj h
    subst h
    exact ⟨1, rfl⟩
  · rw [if_neg c3] at h
    refine hq_izT rfl (hq_c_ne_T c3) ?_
    refine hq_p 1 16 [some (.ref 174), some (.int a1), some (.int a2)] [.int a2] (fun n h => rfl) ?_
    by_cases c4 : a2 = (0 : Int32)
    · rw [if_pos c4] at h
      refine hq_tsw rfl (show _ = some 48 from by rw [c4]; decide) ?_
      refine hq_p 1 49 [some (.ref 174), some (.int a1), some (.int a2)] [.ref 174] (fun n h => rfl) ?_
      refine hq_gf (x := .ref 203) rfl rfl rfl rfl rfl ?_
      refine hq_p 1 53 [some (.ref 174), some (.int a1), some (.int a2)] [.int a1, .ref 203] (fun n h => rfl) ?_
      obtain ⟨x5, hx5, h⟩ := hq_bind h
      refine hq_iaload rfl rfl List.length_replicate hx5 ?_
      have h := Option.some.inj h
      subst h
      exact ⟨1, rfl⟩
    rw [if_neg c4] at h
    by_cases c6 : a2 = (1 : Int32)
    · rw [if_pos c6] at h
      refine hq_tsw rfl (show _ = some 55 from by rw [c6]; decide) ?_
      refine hq_p 1 56 [some (.ref 174), some (.int a1), some (.int a2)] [.ref 174] (fun n h => rfl) ?_
      refine hq_gf (x := .ref 189) rfl rfl rfl rfl rfl ?_
      refine hq_p 1 60 [some (.ref 174), some (.int a1), some (.int a2)] [.int a1, .ref 189] (fun n h => rfl) ?_
      obtain ⟨x7, hx7, h⟩ := hq_bind h
      refine hq_iaload rfl rfl List.length_replicate hx7 ?_
      have h := Option.some.inj h
      subst h
      exact ⟨1, rfl⟩
    rw [if_neg c6] at h
    by_cases c8 : a2 = (2 : Int32)
    · rw [if_pos c8] at h
      refine hq_tsw rfl (show _ = some 62 from by rw [c8]; decide) ?_
      refine hq_p 1 63 [some (.ref 174), some (.int a1), some (.int a2)] [.ref 174] (fun n h => rfl) ?_
      refine hq_gf (x := .ref 204) rfl rfl rfl rfl rfl ?_
      refine hq_p 1 67 [some (.ref 174), some (.int a1), some (.int a2)] [.int a1, .ref 204] (fun n h => rfl) ?_
      obtain ⟨x9, hx9, h⟩ := hq_bind h
      refine hq_iaload rfl rfl List.length_replicate hx9 ?_
      have h := Option.some.inj h
      subst h
      exact ⟨1, rfl⟩
    rw [if_neg c8] at h
    by_cases c10 : a2 = (3 : Int32)
    · rw [if_pos c10] at h
      refine hq_tsw rfl (show _ = some 69 from by rw [c10]; decide) ?_
      refine hq_p 3 72 [some (.ref 174), some (.int a1), some (.int a2)] [.int a1, .int (0 : Int32), .ref 174] (fun n h => rfl) ?_
      obtain ⟨y11, hy11, h⟩ := hq_bind h
      refine hq_inv rfl rfl (Nat.le_trans (by decide) hd) rfl rfl (hq_rcv rfl rfl) (f_X12_isFree_run (Nat.le_sub_of_add_le (Nat.le_trans (by decide) hd)) hy11) rfl ?_
      by_cases c12 : y11.1 = 0
      · rw [if_pos c12] at h
        refine hq_izT rfl (hq_c_eq_T c12) ?_
        refine hq_p 1 84 [some (.ref 174), some (.int a1), some (.int a2)] [.ref 174] (fun n h => rfl) ?_
        refine hq_gf (x := .ref 205) rfl rfl rfl rfl rfl ?_
        refine hq_p 1 88 [some (.ref 174), some (.int a1), some (.int a2)] [.int a1, .ref 205] (fun n h => rfl) ?_
        obtain ⟨x13, hx13, h⟩ := hq_bind h
        refine hq_iaload rfl rfl rfl hx13 ?_
        have h := Option.some.inj h
        subst h
        exact ⟨1, rfl⟩
      · rw [if_neg c12] at h
        refine hq_izF rfl (hq_c_eq_F c12) ?_
        refine hq_bip (-2 : Int32) rfl (by decide) ?_
        refine hq_p 1 89 [some (.ref 174), some (.int a1), some (.int a2)] [.int (-2 : Int32)] (fun n h => rfl) ?_
        have h := Option.some.inj h
        subst h
        exact ⟨1, rfl⟩
    rw [if_neg c10] at h
    refine hq_tsw rfl (hq_tsw_d [(0 : Int32), (1 : Int32), (2 : Int32), (3 : Int32)] (by decide) rfl ⟨c4, c6, c8, c10, trivial⟩) ?_
    refine hq_icn (-1 : Int32) rfl (by decide) ?_
    have h := Option.some.inj h
    subst h
    exact ⟨1, rfl⟩
def f_X12_isLane (n : Nat) (a1 : Int32) (s : hq_S) : Option (Int32 × hq_S) := if a1 < 0 then some ((0 : Int32), s) else (hq_ld s 176 14 (1 : Int32)).bind fun x2 => if a1 < x2 then some ((1 : Int32), s) else some ((0 : Int32), s)
theorem f_X12_isLane_run {xs : List Int32} {n d g : Nat} {a1 : Int32} {s : hq_S} {y : (Int32 × hq_S)} (hd : 0 ≤ d) (h : f_X12_isLane n a1 s = some y) : hq_R (mm_O xs) d mc_X12_isLane 0 [some (.ref 174), some (.int a1)] [] s g (some (.int y.1)) y.2 := by
  unfold f_X12_isLane at h
  refine hq_p 1 1 [some (.ref 174), some (.int a1)] [.int a1] (fun n h => rfl) ?_
  by_cases c1 : a1 < 0
  · rw [if_pos c1] at h
    refine hq_izT rfl (hq_c_lt_T c1) ?_
    refine hq_p 1 19 [some (.ref 174), some (.int a1)] [.int (0 : Int32)] (fun n h => rfl) ?_
    have h := Option.some.inj h
    subst h
    exact ⟨1, rfl⟩
  · rw [if_neg c1] at h
    refine hq_izF rfl (hq_c_lt_F c1) ?_
    refine hq_p 2 6 [some (.ref 174), some (.int a1)] [.ref 174, .int a1] (fun n h => rfl) ?_
    refine hq_gf (x := .ref 176) rfl rfl rfl rfl rfl ?_
    refine hq_p 1 10 [some (.ref 174), some (.int a1)] [.int (1 : Int32), .ref 176, .int a1] (fun n h => rfl) ?_
    obtain ⟨x2, hx2, h⟩ := hq_bind h
    refine hq_iaload rfl rfl rfl hx2 ?_
    by_cases c3 : a1 < x2
    · rw [if_pos c3] at h
      refine hq_icF rfl (hq_c_ge_F c3) ?_
      refine hq_p 2 19 [some (.ref 174), some (.int a1)] [.int (1 : Int32)] (fun n h => rfl) ?_
      have h := Option.some.inj h
      subst h
      exact ⟨1, rfl⟩
    · rw [if_neg c3] at h
      refine hq_icT rfl (hq_c_ge_T c3) ?_
      refine hq_p 1 19 [some (.ref 174), some (.int a1)] [.int (0 : Int32)] (fun n h => rfl) ?_
      have h := Option.some.inj h
      subst h
      exact ⟨1, rfl⟩
def f_X12_lane (n : Nat) (a1 : Int32) (a2 : Int32) (s : hq_S) : Option (Int32 × hq_S) := (hq_pi s 174 0 0 (0 : Int32)).bind fun s1 => (f_X12_isLane n a1 s1).bind fun y2 => if y2.1 = 0 then some ((-1 : Int32), y2.2) else if a2 = (0 : Int32) then (hq_ld y2.2 180 40 a1).bind fun x5 => some (x5, y2.2) else if a2 = (1 : Int32) then (hq_ld y2.2 181 40 a1).bind fun x7 => some (x7, y2.2) else if a2 = (2 : Int32) then (hq_ld y2.2 182 40 a1).bind fun x9 => some (x9, y2.2) else if a2 = (3 : Int32) then (hq_ld y2.2 198 23 (0 : Int32)).bind fun x11 => some (((x11 >>> (a1 &&& 31)) &&& (1 : Int32)), y2.2) else some ((-1 : Int32), y2.2)
theorem f_X12_lane_run {xs : List Int32} {n d g : Nat} {a1 : Int32} {a2 : Int32} {s : hq_S} {y : (Int32 × hq_S)} (hd : 1 ≤ d) (h : f_X12_lane n a1 a2 s = some y) : hq_R (mm_O xs) d mc_X12_lane 0 [some (.ref 174), some (.int a1), some (.int a2)] [] s g (some (.int y.1)) y.2 := by
  unfold f_X12_lane at h
  refine hq_p 2 2 [some (.ref 174), some (.int a1), some (.int a2)] [.int (0 : Int32), .ref 174] (fun n h => rfl) ?_
  obtain ⟨s1, hs1, h⟩ := hq_bind h
  refine hq_pfi rfl rfl rfl rfl rfl hs1 ?_
  refine hq_p 2 7 [some (.ref 174), some (.int a1), some (.int a2)] [.int a1, .ref 174] (fun n h => rfl) ?_
  obtain ⟨y2, hy2, h⟩ := hq_bind h
  refine hq_inv rfl rfl (Nat.le_trans (by decide) hd) rfl rfl (hq_rcv rfl rfl) (f_X12_isLane_run (Nat.le_sub_of_add_le (Nat.le_trans (by decide) hd)) hy2) rfl ?_
  by_cases c3 : y2.1 = 0
  · rw [if_pos c3] at h
    refine hq_izF rfl (hq_c_ne_F c3) ?_
    refine hq_icn (-1 : Int32) rfl (by decide) ?_
    have h := Option.some.inj h
    subst h
    exact ⟨1, rfl⟩
  · rw [if_neg c3] at h
    refine hq_izT rfl (hq_c_ne_T c3) ?_
    refine hq_p 1 16 [some (.ref 174), some (.int a1), some (.int a2)] [.int a2] (fun n h => rfl) ?_
    by_cases c4 : a2 = (0 : Int32)
    · rw [if_pos c4] at h
      refine hq_tsw rfl (show _ = some 48 from by rw [c4]; decide) ?_
      refine hq_p 1 49 [some (.ref 174), some (.int a1), some (.int a2)] [.ref 174] (fun n h => rfl) ?_
      refine hq_gf (x := .ref 180) rfl rfl rfl rfl rfl ?_
      refine hq_p 1 53 [some (.ref 174), some (.int a1), some (.int a2)] [.int a1, .ref 180] (fun n h => rfl) ?_
      obtain ⟨x5, hx5, h⟩ := hq_bind h
      refine hq_iaload rfl rfl List.length_replicate hx5 ?_
      have h := Option.some.inj h
      subst h
      exact ⟨1, rfl⟩
    rw [if_neg c4] at h
    by_cases c6 : a2 = (1 : Int32)
    · rw [if_pos c6] at h
      refine hq_tsw rfl (show _ = some 55 from by rw [c6]; decide) ?_
      refine hq_p 1 56 [some (.ref 174), some (.int a1), some (.int a2)] [.ref 174] (fun n h => rfl) ?_
      refine hq_gf (x := .ref 181) rfl rfl rfl rfl rfl ?_
      refine hq_p 1 60 [some (.ref 174), some (.int a1), some (.int a2)] [.int a1, .ref 181] (fun n h => rfl) ?_
      obtain ⟨x7, hx7, h⟩ := hq_bind h
      refine hq_iaload rfl rfl List.length_replicate hx7 ?_
      have h := Option.some.inj h
      subst h
      exact ⟨1, rfl⟩
    rw [if_neg c6] at h
    by_cases c8 : a2 = (2 : Int32)
    · rw [if_pos c8] at h
      refine hq_tsw rfl (show _ = some 62 from by rw [c8]; decide) ?_
      refine hq_p 1 63 [some (.ref 174), some (.int a1), some (.int a2)] [.ref 174] (fun n h => rfl) ?_
      refine hq_gf (x := .ref 182) rfl rfl rfl rfl rfl ?_
      refine hq_p 1 67 [some (.ref 174), some (.int a1), some (.int a2)] [.int a1, .ref 182] (fun n h => rfl) ?_
      obtain ⟨x9, hx9, h⟩ := hq_bind h
      refine hq_iaload rfl rfl List.length_replicate hx9 ?_
      have h := Option.some.inj h
      subst h
      exact ⟨1, rfl⟩
    rw [if_neg c8] at h
    by_cases c10 : a2 = (3 : Int32)
    · rw [if_pos c10] at h
      refine hq_tsw rfl (show _ = some 69 from by rw [c10]; decide) ?_
      refine hq_p 1 70 [some (.ref 174), some (.int a1), some (.int a2)] [.ref 174] (fun n h => rfl) ?_
      refine hq_gf (x := .ref 198) rfl rfl rfl rfl rfl ?_
      refine hq_p 1 74 [some (.ref 174), some (.int a1), some (.int a2)] [.int (0 : Int32), .ref 198] (fun n h => rfl) ?_
      obtain ⟨x11, hx11, h⟩ := hq_bind h
      refine hq_iaload rfl rfl List.length_replicate hx11 ?_
      refine hq_p 4 79 [some (.ref 174), some (.int a1), some (.int a2)] [.int ((x11 >>> (a1 &&& 31)) &&& (1 : Int32))] (fun n h => rfl) ?_
      have h := Option.some.inj h
      subst h
      exact ⟨1, rfl⟩
    rw [if_neg c10] at h
    refine hq_tsw rfl (hq_tsw_d [(0 : Int32), (1 : Int32), (2 : Int32), (3 : Int32)] (by decide) rfl ⟨c4, c6, c8, c10, trivial⟩) ?_
    refine hq_icn (-1 : Int32) rfl (by decide) ?_
    have h := Option.some.inj h
    subst h
    exact ⟨1, rfl⟩
def f_X12_law_J42 (n : Nat) (a1 : Int32) (a2 : Int32) (a3 : Int32) (s : hq_S) : Option (Int64 × hq_S) := some ((-9223372036854775808 : Int64), s)
theorem f_X12_law_J42_run {xs : List Int32} {n d g : Nat} {a1 : Int32} {a2 : Int32} {a3 : Int32} {s : hq_S} {y : (Int64 × hq_S)} (hd : 3 ≤ d) (h : f_X12_law_J42 n a1 a2 a3 s = some y) : hq_R (mm_O xs) d mc_X12_law 42 [some (.ref 174), some (.int a1), some (.int a2), some (.int a3)] [] s g (some (.long y.1)) y.2 := by
  unfold f_X12_law_J42 at h
  refine hq_lc2 (-9223372036854775808 : Int64) rfl (by decide) ?_
  have h := Option.some.inj h
  subst h
  exact ⟨1, rfl⟩
def f_X12_law_J46 (n : Nat) (a1 : Int32) (a2 : Int32) (a3 : Int32) (s : hq_S) : Option (Int64 × hq_S) := (f_X12_lays n (0 : Int32) s).bind fun s9 => (if a1 = 0 then some a3 else (hq_ld s9 203 92 a2).bind fun x12 => some x12).bind fun z10 => (f_X12_calls n (0 : Int32) a2 z10 s9).bind fun s13 => (f_X12_goes n a1 s13).bind fun y14 => if y14.1 = 0 then some ((-9223372036854775808 : Int64), y14.2) else (hq_ldj y14.2 195 64 (0 : Int32)).bind fun x16 => some (x16, y14.2)
theorem f_X12_law_J46_run {xs : List Int32} {n d g : Nat} {a1 : Int32} {a2 : Int32} {a3 : Int32} {s : hq_S} {y : (Int64 × hq_S)} (hd : 3 ≤ d) (h : f_X12_law_J46 n a1 a2 a3 s = some y) : hq_R (mm_O xs) d mc_X12_law 46 [some (.ref 174), some (.int a1), some (.int a2), some (.int a3)] [] s g (some (.long y.1)) y.2 := by
  unfold f_X12_law_J46 at h
  refine hq_p 2 48 [some (.ref 174), some (.int a1), some (.int a2), some (.int a3)] [.int (0 : Int32), .ref 174] (fun n h => rfl) ?_
  obtain ⟨s9, hs9, h⟩ := hq_bind h
  refine hq_inv rfl rfl (Nat.le_trans (by decide) hd) rfl rfl (hq_rcv rfl rfl) (f_X12_lays_run (Nat.le_sub_of_add_le (Nat.le_trans (by decide) hd)) hs9) rfl ?_
  refine hq_p 4 55 [some (.ref 174), some (.int a1), some (.int a2), some (.int a3)] [.int a1, .int a2, .int (0 : Int32), .ref 174] (fun n h => rfl) ?_
  obtain ⟨z10, hz10, h⟩ := hq_bind h
  suffices hT : hq_R (mm_O xs) d mc_X12_law 68 [some (.ref 174), some (.int a1), some (.int a2), some (.int a3)] [.int z10, .int a2, .int (0 : Int32), .ref 174] s9 g (some (.long y.1)) y.2 from by
    clear h
    have h := hz10
    by_cases c11 : a1 = 0
    · rw [if_pos c11] at h
      refine hq_izF rfl (hq_c_ne_F c11) ?_
      refine hq_p 2 68 [some (.ref 174), some (.int a1), some (.int a2), some (.int a3)] [.int a3, .int a2, .int (0 : Int32), .ref 174] (fun n h => rfl) ?_
      cases h
      exact hT
    · rw [if_neg c11] at h
      refine hq_izT rfl (hq_c_ne_T c11) ?_
      refine hq_p 1 63 [some (.ref 174), some (.int a1), some (.int a2), some (.int a3)] [.ref 174, .int a2, .int (0 : Int32), .ref 174] (fun n h => rfl) ?_
      refine hq_gf (x := .ref 203) rfl rfl rfl rfl rfl ?_
      refine hq_p 1 67 [some (.ref 174), some (.int a1), some (.int a2), some (.int a3)] [.int a2, .ref 203, .int a2, .int (0 : Int32), .ref 174] (fun n h => rfl) ?_
      obtain ⟨x12, hx12, h⟩ := hq_bind h
      refine hq_iaload rfl rfl List.length_replicate hx12 ?_
      cases h
      exact hT
  obtain ⟨s13, hs13, h⟩ := hq_bind h
  refine hq_inv rfl rfl (Nat.le_trans (by decide) hd) rfl rfl (hq_rcv rfl rfl) (f_X12_calls_run (Nat.le_sub_of_add_le (Nat.le_trans (by decide) hd)) hs13) rfl ?_
  refine hq_p 2 73 [some (.ref 174), some (.int a1), some (.int a2), some (.int a3)] [.int a1, .ref 174] (fun n h => rfl) ?_
  obtain ⟨y14, hy14, h⟩ := hq_bind h
  refine hq_inv rfl rfl (Nat.le_trans (by decide) hd) rfl rfl (hq_rcv rfl rfl) (f_X12_goes_run (Nat.le_sub_of_add_le (Nat.le_trans (by decide) hd)) hy14) rfl ?_
  by_cases c15 : y14.1 = 0
  · rw [if_pos c15] at h
    refine hq_izT rfl (hq_c_eq_T c15) ?_
    refine hq_lc2 (-9223372036854775808 : Int64) rfl (by decide) ?_
    have h := Option.some.inj h
    subst h
    exact ⟨1, rfl⟩
  · rw [if_neg c15] at h
    refine hq_izF rfl (hq_c_eq_F c15) ?_
    refine hq_p 1 80 [some (.ref 174), some (.int a1), some (.int a2), some (.int a3)] [.ref 174] (fun n h => rfl) ?_
    refine hq_gf (x := .ref 195) rfl rfl rfl rfl rfl ?_
    refine hq_p 1 84 [some (.ref 174), some (.int a1), some (.int a2), some (.int a3)] [.int (0 : Int32), .ref 195] (fun n h => rfl) ?_
    obtain ⟨x16, hx16, h⟩ := hq_bind h
    refine hq_laload rfl rfl List.length_replicate hx16 ?_
    refine hq_p 1 91 [some (.ref 174), some (.int a1), some (.int a2), some (.int a3)] [.long x16] (fun n h => rfl) ?_
    have h := Option.some.inj h
    subst h
    exact ⟨1, rfl⟩
def f_X12_law (n : Nat) (a1 : Int32) (a2 : Int32) (a3 : Int32) (s : hq_S) : Option (Int64 × hq_S) := (hq_pi s 174 0 0 (0 : Int32)).bind fun s1 => if a1 < 0 then f_X12_law_J42 n a1 a2 a3 s1 else if (2 : Int32) < a1 then f_X12_law_J42 n a1 a2 a3 s1 else (f_X12_hasLaw n a1 s1).bind fun y4 => if y4.1 = 0 then f_X12_law_J42 n a1 a2 a3 y4.2 else (f_X12_isThief n a2 y4.2).bind fun y6 => if y6.1 = 0 then f_X12_law_J42 n a1 a2 a3 y6.2 else if a1 = 0 then (f_X12_isCorner n a3 y6.2).bind fun y17 => if y17.1 = 0 then f_X12_law_J42 n a1 a2 a3 y17.2 else f_X12_law_J46 n a1 a2 a3 y17.2 else f_X12_law_J46 n a1 a2 a3 y6.2
theorem f_X12_law_run {xs : List Int32} {n d g : Nat} {a1 : Int32} {a2 : Int32} {a3 : Int32} {s : hq_S} {y : (Int64 × hq_S)} (hd : 3 ≤ d) (h : f_X12_law n a1 a2 a3 s = some y) : hq_R (mm_O xs) d mc_X12_law 0 [some (.ref 174), some (.int a1), some (.int a2), some (.int a3)] [] s g (some (.long y.1)) y.2 := by
  unfold f_X12_law at h
  refine hq_p 2 2 [some (.ref 174), some (.int a1), some (.int a2), some (.int a3)] [.int (0 : Int32), .ref 174] (fun n h => rfl) ?_
  obtain ⟨s1, hs1, h⟩ := hq_bind h
  refine hq_pfi rfl rfl rfl rfl rfl hs1 ?_
  refine hq_p 1 6 [some (.ref 174), some (.int a1), some (.int a2), some (.int a3)] [.int a1] (fun n h => rfl) ?_
  by_cases c2 : a1 < 0
  · rw [if_pos c2] at h
    refine hq_izT rfl (hq_c_lt_T c2) ?_
    exact f_X12_law_J42_run hd h
  · rw [if_neg c2] at h
    refine hq_izF rfl (hq_c_lt_F c2) ?_
    refine hq_p 2 11 [some (.ref 174), some (.int a1), some (.int a2), some (.int a3)] [.int (2 : Int32), .int a1] (fun n h => rfl) ?_
    by_cases c3 : (2 : Int32) < a1
    · rw [if_pos c3] at h
      refine hq_icT rfl (hq_c_gt_T c3) ?_
      exact f_X12_law_J42_run hd h
    · rw [if_neg c3] at h
      refine hq_icF rfl (hq_c_gt_F c3) ?_
      refine hq_p 2 16 [some (.ref 174), some (.int a1), some (.int a2), some (.int a3)] [.int a1, .ref 174] (fun n h => rfl) ?_
      obtain ⟨y4, hy4, h⟩ := hq_bind h
      refine hq_inv rfl rfl (Nat.le_trans (by decide) hd) rfl rfl (hq_rcv rfl rfl) (f_X12_hasLaw_run (Nat.le_sub_of_add_le (Nat.le_trans (by decide) hd)) hy4) rfl ?_
      by_cases c5 : y4.1 = 0
      · rw [if_pos c5] at h
        refine hq_izT rfl (hq_c_eq_T c5) ?_
        exact f_X12_law_J42_run hd h
      · rw [if_neg c5] at h
        refine hq_izF rfl (hq_c_eq_F c5) ?_
        refine hq_p 2 24 [some (.ref 174), some (.int a1), some (.int a2), some (.int a3)] [.int a2, .ref 174] (fun n h => rfl) ?_
        obtain ⟨y6, hy6, h⟩ := hq_bind h
        refine hq_inv rfl rfl (Nat.le_trans (by decide) hd) rfl rfl (hq_rcv rfl rfl) (f_X12_isThief_run (Nat.le_sub_of_add_le (Nat.le_trans (by decide) hd)) hy6) rfl ?_
        by_cases c7 : y6.1 = 0
        · rw [if_pos c7] at h
          refine hq_izT rfl (hq_c_eq_T c7) ?_
          exact f_X12_law_J42_run hd h
        · rw [if_neg c7] at h
          refine hq_izF rfl (hq_c_eq_F c7) ?_
          refine hq_p 1 31 [some (.ref 174), some (.int a1), some (.int a2), some (.int a3)] [.int a1] (fun n h => rfl) ?_
          by_cases c8 : a1 = 0
          · rw [if_pos c8] at h
            refine hq_izF rfl (hq_c_ne_F c8) ?_
            refine hq_p 2 36 [some (.ref 174), some (.int a1), some (.int a2), some (.int a3)] [.int a3, .ref 174] (fun n h => rfl) ?_
            obtain ⟨y17, hy17, h⟩ := hq_bind h
            refine hq_inv rfl rfl (Nat.le_trans (by decide) hd) rfl rfl (hq_rcv rfl rfl) (f_X12_isCorner_run (Nat.le_sub_of_add_le (Nat.le_trans (by decide) hd)) hy17) rfl ?_
            by_cases c18 : y17.1 = 0
            · rw [if_pos c18] at h
              refine hq_izF rfl (hq_c_ne_F c18) ?_
              exact f_X12_law_J42_run hd h
            · rw [if_neg c18] at h
              refine hq_izT rfl (hq_c_ne_T c18) ?_
              exact f_X12_law_J46_run hd h
          · rw [if_neg c8] at h
            refine hq_izT rfl (hq_c_ne_T c8) ?_
            exact f_X12_law_J46_run hd h
def f_X12_keepNow_J45 (n : Nat) (s : hq_S) : Option hq_S := (f_X12_copies n ((3 : Int32) + (hq_gi s 174 48)) (0 : Int32) s).bind fun s2 => (hq_pi s2 174 48 0 ((hq_gi s2 174 48) + (1 : Int32))).bind fun s3 => some s3
theorem f_X12_keepNow_J45_run {xs : List Int32} {n d g : Nat} {o1 : Option Value} {s : hq_S} {y : hq_S} (hd : 1 ≤ d) (h : f_X12_keepNow_J45 n s = some y) : hq_R (mm_O xs) d mc_X12_keepNow 45 [some (.ref 174), o1] [] s g none y := by
  unfold f_X12_keepNow_J45 at h
  refine hq_p 3 48 [some (.ref 174), o1] [.ref 174, .int (3 : Int32), .ref 174] (fun n h => rfl) ?_
  refine hq_gf (x := .int (hq_gi s 174 48)) rfl rfl rfl rfl rfl ?_
  refine hq_p 2 53 [some (.ref 174), o1] [.int (0 : Int32), .int ((3 : Int32) + (hq_gi s 174 48)), .ref 174] (fun n h => rfl) ?_
  obtain ⟨s2, hs2, h⟩ := hq_bind h
  refine hq_inv rfl rfl (Nat.le_trans (by decide) hd) rfl rfl (hq_rcv rfl rfl) (f_X12_copies_run (Nat.le_sub_of_add_le (Nat.le_trans (by decide) hd)) hs2) rfl ?_
  refine hq_p 2 58 [some (.ref 174), o1] [.ref 174, .ref 174] (fun n h => rfl) ?_
  refine hq_gf (x := .int (hq_gi s2 174 48)) rfl rfl rfl rfl rfl ?_
  refine hq_p 2 63 [some (.ref 174), o1] [.int ((hq_gi s2 174 48) + (1 : Int32)), .ref 174] (fun n h => rfl) ?_
  obtain ⟨s3, hs3, h⟩ := hq_bind h
  refine hq_pfi rfl rfl rfl rfl rfl hs3 ?_
  have h := Option.some.inj h
  subst h
  exact ⟨1, rfl⟩
def f_X12_keepNow_L11_B (n : Nat) (q11 : Int32 → hq_S → Option hq_S) (a1 : Int32) (s : hq_S) : Option hq_S := if a1 < (20 : Int32) then (f_X12_copies n (((3 : Int32) + a1) - (1 : Int32)) ((3 : Int32) + a1) s).bind fun s6 => q11 (a1 + (1 : Int32)) s6 else (hq_pi s 174 48 0 ((hq_gi s 174 48) - (1 : Int32))).bind fun s5 => f_X12_keepNow_J45 n s5
def f_X12_keepNow_L11 (n : Nat) (m : Nat) : Int32 → hq_S → Option hq_S := Nat.rec (fun _ _ => none) (fun _ q => f_X12_keepNow_L11_B n q) m
theorem f_X12_keepNow_L11_Brun {xs : List Int32} {n d g : Nat} {a1 : Int32} {q11 : Int32 → hq_S → Option hq_S} {s : hq_S} {y : hq_S} (hd : 1 ≤ d) (e11 : ∀ (a1 : Int32) (s : hq_S), q11 a1 s = some y → hq_R (mm_O xs) d mc_X12_keepNow 11 [some (.ref 174), some (.int a1)] [] s g none y) (h : f_X12_keepNow_L11_B n q11 a1 s = some y) : hq_R (mm_O xs) d mc_X12_keepNow 11 [some (.ref 174), some (.int a1)] [] s g none y := by
  unfold f_X12_keepNow_L11_B at h
  refine hq_p 1 12 [some (.ref 174), some (.int a1)] [.int a1] (fun n h => rfl) ?_
  refine hq_bip (20 : Int32) rfl (by decide) ?_
  by_cases c4 : a1 < (20 : Int32)
  · rw [if_pos c4] at h
    refine hq_icF rfl (hq_c_ge_F c4) ?_
    refine hq_p 9 26 [some (.ref 174), some (.int a1)] [.int ((3 : Int32) + a1), .int (((3 : Int32) + a1) - (1 : Int32)), .ref 174] (fun n h => rfl) ?_
    obtain ⟨s6, hs6, h⟩ := hq_bind h
    refine hq_inv rfl rfl (Nat.le_trans (by decide) hd) rfl rfl (hq_rcv rfl rfl) (f_X12_copies_run (Nat.le_sub_of_add_le (Nat.le_trans (by decide) hd)) hs6) rfl ?_
    refine hq_p 2 11 [some (.ref 174), some (.int (a1 + (1 : Int32)))] [] (fun n h => rfl) ?_
    exact e11 (a1 + (1 : Int32)) s6 h
  · rw [if_neg c4] at h
    refine hq_icT rfl (hq_c_ge_T c4) ?_
    refine hq_p 2 37 [some (.ref 174), some (.int a1)] [.ref 174, .ref 174] (fun n h => rfl) ?_
    refine hq_gf (x := .int (hq_gi s 174 48)) rfl rfl rfl rfl rfl ?_
    refine hq_p 2 42 [some (.ref 174), some (.int a1)] [.int ((hq_gi s 174 48) - (1 : Int32)), .ref 174] (fun n h => rfl) ?_
    obtain ⟨s5, hs5, h⟩ := hq_bind h
    refine hq_pfi rfl rfl rfl rfl rfl hs5 ?_
    exact f_X12_keepNow_J45_run hd h
theorem f_X12_keepNow_L11_run {xs : List Int32} {n m d g : Nat} {a1 : Int32} {s : hq_S} {y : hq_S} (hd : 1 ≤ d) (h : f_X12_keepNow_L11 n m a1 s = some y) : hq_R (mm_O xs) d mc_X12_keepNow 11 [some (.ref 174), some (.int a1)] [] s g none y := by
  induction m generalizing a1 s with
  | zero => cases h
  | succ m ih => exact f_X12_keepNow_L11_Brun (n := n) hd (fun a1 s h => ih h) h
def f_X12_keepNow (n : Nat) (s : hq_S) : Option hq_S := if (hq_gi s 174 48) = (20 : Int32) then f_X12_keepNow_L11 n n (1 : Int32) s else f_X12_keepNow_J45 n s
theorem f_X12_keepNow_run {xs : List Int32} {n d g : Nat} {s : hq_S} {y : hq_S} (hd : 1 ≤ d) (h : f_X12_keepNow n s = some y) : hq_R (mm_O xs) d mc_X12_keepNow 0 [some (.ref 174), none] [] s g none y := by
  unfold f_X12_keepNow at h
  refine hq_p 1 1 [some (.ref 174), none] [.ref 174] (fun n h => rfl) ?_
  refine hq_gf (x := .int (hq_gi s 174 48)) rfl rfl rfl rfl rfl ?_
  refine hq_bip (20 : Int32) rfl (by decide) ?_
  by_cases c1 : (hq_gi s 174 48) = (20 : Int32)
  · rw [if_pos c1] at h
    refine hq_icF rfl (hq_c_ne_F c1) ?_
    refine hq_p 2 11 [some (.ref 174), some (.int (1 : Int32))] [] (fun n h => rfl) ?_
    exact f_X12_keepNow_L11_run hd h
  · rw [if_neg c1] at h
    refine hq_icT rfl (hq_c_ne_T c1) ?_
    exact f_X12_keepNow_J45_run hd h
def f_X12_send (n : Nat) (a1 : Int32) (a2 : Int32) (s : hq_S) : Option (Int32 × hq_S) := (hq_pi s 174 0 0 (0 : Int32)).bind fun s1 => (f_X12_isGuard n a1 s1).bind fun y2 => if y2.1 = 0 then some ((0 : Int32), y2.2) else (f_X12_isCorner n a2 y2.2).bind fun y4 => if y4.1 = 0 then some ((0 : Int32), y4.2) else (f_X12_lays n (0 : Int32) y4.2).bind fun s6 => (hq_ld s6 200 69 a1).bind fun x7 => (hq_ld s6 206 10 x7).bind fun x8 => if ((x8 >>> (a2 &&& 31)) &&& (1 : Int32)) = 0 then some ((0 : Int32), s6) else (f_X12_keepNow n s6).bind fun s10 => (hq_st s10 200 69 a1 a2).bind fun s11 => some ((1 : Int32), s11)
theorem f_X12_send_run {xs : List Int32} {n d g : Nat} {a1 : Int32} {a2 : Int32} {s : hq_S} {y : (Int32 × hq_S)} (hd : 2 ≤ d) (h : f_X12_send n a1 a2 s = some y) : hq_R (mm_O xs) d mc_X12_send 0 [some (.ref 174), some (.int a1), some (.int a2)] [] s g (some (.int y.1)) y.2 := by
  unfold f_X12_send at h
  refine hq_p 2 2 [some (.ref 174), some (.int a1), some (.int a2)] [.int (0 : Int32), .ref 174] (fun n h => rfl) ?_
  obtain ⟨s1, hs1, h⟩ := hq_bind h
  refine hq_pfi rfl rfl rfl rfl rfl hs1 ?_
  refine hq_p 2 7 [some (.ref 174), some (.int a1), some (.int a2)] [.int a1, .ref 174] (fun n h => rfl) ?_
  obtain ⟨y2, hy2, h⟩ := hq_bind h
  refine hq_inv rfl rfl (Nat.le_trans (by decide) hd) rfl rfl (hq_rcv rfl rfl) (f_X12_isGuard_run (Nat.le_sub_of_add_le (Nat.le_trans (by decide) hd)) hy2) rfl ?_
  by_cases c3 : y2.1 = 0
  · rw [if_pos c3] at h
    refine hq_izT rfl (hq_c_eq_T c3) ?_
    refine hq_p 1 22 [some (.ref 174), some (.int a1), some (.int a2)] [.int (0 : Int32)] (fun n h => rfl) ?_
    have h := Option.some.inj h
    subst h
    exact ⟨1, rfl⟩
  · rw [if_neg c3] at h
    refine hq_izF rfl (hq_c_eq_F c3) ?_
    refine hq_p 2 15 [some (.ref 174), some (.int a1), some (.int a2)] [.int a2, .ref 174] (fun n h => rfl) ?_
    obtain ⟨y4, hy4, h⟩ := hq_bind h
    refine hq_inv rfl rfl (Nat.le_trans (by decide) hd) rfl rfl (hq_rcv rfl rfl) (f_X12_isCorner_run (Nat.le_sub_of_add_le (Nat.le_trans (by decide) hd)) hy4) rfl ?_
    by_cases c5 : y4.1 = 0
    · rw [if_pos c5] at h
      refine hq_izF rfl (hq_c_ne_F c5) ?_
      refine hq_p 1 22 [some (.ref 174), some (.int a1), some (.int a2)] [.int (0 : Int32)] (fun n h => rfl) ?_
      have h := Option.some.inj h
      subst h
      exact ⟨1, rfl⟩
    · rw [if_neg c5] at h
      refine hq_izT rfl (hq_c_ne_T c5) ?_
      refine hq_p 2 25 [some (.ref 174), some (.int a1), some (.int a2)] [.int (0 : Int32), .ref 174] (fun n h => rfl) ?_
      obtain ⟨s6, hs6, h⟩ := hq_bind h
      refine hq_inv rfl rfl (Nat.le_trans (by decide) hd) rfl rfl (hq_rcv rfl rfl) (f_X12_lays_run (Nat.le_sub_of_add_le (Nat.le_trans (by decide) hd)) hs6) rfl ?_
      refine hq_p 1 29 [some (.ref 174), some (.int a1), some (.int a2)] [.ref 174] (fun n h => rfl) ?_
      refine hq_gf (x := .ref 206) rfl rfl rfl rfl rfl ?_
      refine hq_p 1 33 [some (.ref 174), some (.int a1), some (.int a2)] [.ref 174, .ref 206] (fun n h => rfl) ?_
      refine hq_gf (x := .ref 200) rfl rfl rfl rfl rfl ?_
      refine hq_p 1 37 [some (.ref 174), some (.int a1), some (.int a2)] [.int a1, .ref 200, .ref 206] (fun n h => rfl) ?_
      obtain ⟨x7, hx7, h⟩ := hq_bind h
      refine hq_iaload rfl rfl List.length_replicate hx7 ?_
      obtain ⟨x8, hx8, h⟩ := hq_bind h
      refine hq_iaload rfl rfl List.length_replicate hx8 ?_
      refine hq_p 4 43 [some (.ref 174), some (.int a1), some (.int a2)] [.int ((x8 >>> (a2 &&& 31)) &&& (1 : Int32))] (fun n h => rfl) ?_
      by_cases c9 : ((x8 >>> (a2 &&& 31)) &&& (1 : Int32)) = 0
      · rw [if_pos c9] at h
        refine hq_izF rfl (hq_c_ne_F c9) ?_
        refine hq_p 1 47 [some (.ref 174), some (.int a1), some (.int a2)] [.int (0 : Int32)] (fun n h => rfl) ?_
        have h := Option.some.inj h
        subst h
        exact ⟨1, rfl⟩
      · rw [if_neg c9] at h
        refine hq_izT rfl (hq_c_ne_T c9) ?_
        refine hq_p 1 49 [some (.ref 174), some (.int a1), some (.int a2)] [.ref 174] (fun n h => rfl) ?_
        obtain ⟨s10, hs10, h⟩ := hq_bind h
        refine hq_inv rfl rfl (Nat.le_trans (by decide) hd) rfl rfl (hq_rcv rfl rfl) (f_X12_keepNow_run (Nat.le_sub_of_add_le (Nat.le_trans (by decide) hd)) hs10) rfl ?_
        refine hq_p 1 53 [some (.ref 174), some (.int a1), some (.int a2)] [.ref 174] (fun n h => rfl) ?_
        refine hq_gf (x := .ref 200) rfl rfl rfl rfl rfl ?_
        refine hq_p 2 58 [some (.ref 174), some (.int a1), some (.int a2)] [.int a2, .int a1, .ref 200] (fun n h => rfl) ?_
        obtain ⟨s11, hs11, h⟩ := hq_bind h
        refine hq_iastore rfl rfl List.length_replicate hs11 ?_
        refine hq_p 1 60 [some (.ref 174), some (.int a1), some (.int a2)] [.int (1 : Int32)] (fun n h => rfl) ?_
        have h := Option.some.inj h
        subst h
        exact ⟨1, rfl⟩
def f_X12_bar (n : Nat) (a1 : Int32) (s : hq_S) : Option (Int32 × hq_S) := (hq_pi s 174 0 0 (0 : Int32)).bind fun s1 => (f_X12_isLane n a1 s1).bind fun y2 => if y2.1 = 0 then some ((-1 : Int32), y2.2) else (f_X12_keepNow n y2.2).bind fun s4 => (hq_ld s4 198 23 (0 : Int32)).bind fun x5 => (hq_st s4 198 23 (0 : Int32) (x5 ^^^ ((1 : Int32) <<< (a1 &&& 31)))).bind fun s6 => (hq_ld s6 198 23 (0 : Int32)).bind fun x7 => some (((x7 >>> (a1 &&& 31)) &&& (1 : Int32)), s6)
theorem f_X12_bar_run {xs : List Int32} {n d g : Nat} {a1 : Int32} {s : hq_S} {y : (Int32 × hq_S)} (hd : 2 ≤ d) (h : f_X12_bar n a1 s = some y) : hq_R (mm_O xs) d mc_X12_bar 0 [some (.ref 174), some (.int a1)] [] s g (some (.int y.1)) y.2 := by
  unfold f_X12_bar at h
  refine hq_p 2 2 [some (.ref 174), some (.int a1)] [.int (0 : Int32), .ref 174] (fun n h => rfl) ?_
  obtain ⟨s1, hs1, h⟩ := hq_bind h
  refine hq_pfi rfl rfl rfl rfl rfl hs1 ?_
  refine hq_p 2 7 [some (.ref 174), some (.int a1)] [.int a1, .ref 174] (fun n h => rfl) ?_
  obtain ⟨y2, hy2, h⟩ := hq_bind h
  refine hq_inv rfl rfl (Nat.le_trans (by decide) hd) rfl rfl (hq_rcv rfl rfl) (f_X12_isLane_run (Nat.le_sub_of_add_le (Nat.le_trans (by decide) hd)) hy2) rfl ?_
  by_cases c3 : y2.1 = 0
  · rw [if_pos c3] at h
    refine hq_izF rfl (hq_c_ne_F c3) ?_
    refine hq_icn (-1 : Int32) rfl (by decide) ?_
    have h := Option.some.inj h
    subst h
    exact ⟨1, rfl⟩
  · rw [if_neg c3] at h
    refine hq_izT rfl (hq_c_ne_T c3) ?_
    refine hq_p 1 16 [some (.ref 174), some (.int a1)] [.ref 174] (fun n h => rfl) ?_
    obtain ⟨s4, hs4, h⟩ := hq_bind h
    refine hq_inv rfl rfl (Nat.le_trans (by decide) hd) rfl rfl (hq_rcv rfl rfl) (f_X12_keepNow_run (Nat.le_sub_of_add_le (Nat.le_trans (by decide) hd)) hs4) rfl ?_
    refine hq_p 1 20 [some (.ref 174), some (.int a1)] [.ref 174] (fun n h => rfl) ?_
    refine hq_gf (x := .ref 198) rfl rfl rfl rfl rfl ?_
    refine hq_p 2 25 [some (.ref 174), some (.int a1)] [.int (0 : Int32), .ref 198, .int (0 : Int32), .ref 198] (fun n h => rfl) ?_
    obtain ⟨x5, hx5, h⟩ := hq_bind h
    refine hq_iaload rfl rfl List.length_replicate hx5 ?_
    refine hq_p 4 30 [some (.ref 174), some (.int a1)] [.int (x5 ^^^ ((1 : Int32) <<< (a1 &&& 31))), .int (0 : Int32), .ref 198] (fun n h => rfl) ?_
    obtain ⟨s6, hs6, h⟩ := hq_bind h
    refine hq_iastore rfl rfl List.length_replicate hs6 ?_
    refine hq_p 1 32 [some (.ref 174), some (.int a1)] [.ref 174] (fun n h => rfl) ?_
    refine hq_gf (x := .ref 198) rfl rfl rfl rfl rfl ?_
    refine hq_p 1 36 [some (.ref 174), some (.int a1)] [.int (0 : Int32), .ref 198] (fun n h => rfl) ?_
    obtain ⟨x7, hx7, h⟩ := hq_bind h
    refine hq_iaload rfl rfl List.length_replicate hx7 ?_
    refine hq_p 4 41 [some (.ref 174), some (.int a1)] [.int ((x7 >>> (a1 &&& 31)) &&& (1 : Int32))] (fun n h => rfl) ?_
    have h := Option.some.inj h
    subst h
    exact ⟨1, rfl⟩
def f_X12_drop (n : Nat) (a1 : Int32) (a2 : Int32) (s : hq_S) : Option (Int32 × hq_S) := (hq_pi s 174 0 0 (0 : Int32)).bind fun s1 => (f_X12_isCorner n a1 s1).bind fun y2 => if y2.1 = 0 then some ((-1 : Int32), y2.2) else if a2 < (1 : Int32) then some ((-1 : Int32), y2.2) else if (999 : Int32) < a2 then some ((-1 : Int32), y2.2) else (f_X12_keepNow n y2.2).bind fun s6 => (hq_ld s6 199 230 a1).bind fun x7 => (hq_st s6 199 230 a1 (hq_min (9999 : Int32) (x7 + a2))).bind fun s8 => (hq_ld s8 199 230 a1).bind fun x9 => some (x9, s8)
theorem f_X12_drop_run {xs : List Int32} {n d g : Nat} {a1 : Int32} {a2 : Int32} {s : hq_S} {y : (Int32 × hq_S)} (hd : 2 ≤ d) (h : f_X12_drop n a1 a2 s = some y) : hq_R (mm_O xs) d mc_X12_drop 0 [some (.ref 174), some (.int a1), some (.int a2)] [] s g (some (.int y.1)) y.2 := by
  unfold f_X12_drop at h
  refine hq_p 2 2 [some (.ref 174), some (.int a1), some (.int a2)] [.int (0 : Int32), .ref 174] (fun n h => rfl) ?_
  obtain ⟨s1, hs1, h⟩ := hq_bind h
  refine hq_pfi rfl rfl rfl rfl rfl hs1 ?_
  refine hq_p 2 7 [some (.ref 174), some (.int a1), some (.int a2)] [.int a1, .ref 174] (fun n h => rfl) ?_
  obtain ⟨y2, hy2, h⟩ := hq_bind h
  refine hq_inv rfl rfl (Nat.le_trans (by decide) hd) rfl rfl (hq_rcv rfl rfl) (f_X12_isCorner_run (Nat.le_sub_of_add_le (Nat.le_trans (by decide) hd)) hy2) rfl ?_
  by_cases c3 : y2.1 = 0
  · rw [if_pos c3] at h
    refine hq_izT rfl (hq_c_eq_T c3) ?_
    refine hq_icn (-1 : Int32) rfl (by decide) ?_
    have h := Option.some.inj h
    subst h
    exact ⟨1, rfl⟩
  · rw [if_neg c3] at h
    refine hq_izF rfl (hq_c_eq_F c3) ?_
    refine hq_p 2 15 [some (.ref 174), some (.int a1), some (.int a2)] [.int (1 : Int32), .int a2] (fun n h => rfl) ?_
    by_cases c4 : a2 < (1 : Int32)
    · rw [if_pos c4] at h
      refine hq_icT rfl (hq_c_lt_T c4) ?_
      refine hq_icn (-1 : Int32) rfl (by decide) ?_
      have h := Option.some.inj h
      subst h
      exact ⟨1, rfl⟩
    · rw [if_neg c4] at h
      refine hq_icF rfl (hq_c_lt_F c4) ?_
      refine hq_p 1 19 [some (.ref 174), some (.int a1), some (.int a2)] [.int a2] (fun n h => rfl) ?_
      refine hq_sip (999 : Int32) rfl (by decide) ?_
      by_cases c5 : (999 : Int32) < a2
      · rw [if_pos c5] at h
        refine hq_icF rfl (hq_c_le_F c5) ?_
        refine hq_icn (-1 : Int32) rfl (by decide) ?_
        have h := Option.some.inj h
        subst h
        exact ⟨1, rfl⟩
      · rw [if_neg c5] at h
        refine hq_icT rfl (hq_c_le_T c5) ?_
        refine hq_p 1 28 [some (.ref 174), some (.int a1), some (.int a2)] [.ref 174] (fun n h => rfl) ?_
        obtain ⟨s6, hs6, h⟩ := hq_bind h
        refine hq_inv rfl rfl (Nat.le_trans (by decide) hd) rfl rfl (hq_rcv rfl rfl) (f_X12_keepNow_run (Nat.le_sub_of_add_le (Nat.le_trans (by decide) hd)) hs6) rfl ?_
        refine hq_p 1 32 [some (.ref 174), some (.int a1), some (.int a2)] [.ref 174] (fun n h => rfl) ?_
        refine hq_gf (x := .ref 199) rfl rfl rfl rfl rfl ?_
        refine hq_p 1 36 [some (.ref 174), some (.int a1), some (.int a2)] [.int a1, .ref 199] (fun n h => rfl) ?_
        refine hq_sip (9999 : Int32) rfl (by decide) ?_
        refine hq_p 1 40 [some (.ref 174), some (.int a1), some (.int a2)] [.ref 174, .int (9999 : Int32), .int a1, .ref 199] (fun n h => rfl) ?_
        refine hq_gf (x := .ref 199) rfl rfl rfl rfl rfl ?_
        refine hq_p 1 44 [some (.ref 174), some (.int a1), some (.int a2)] [.int a1, .ref 199, .int (9999 : Int32), .int a1, .ref 199] (fun n h => rfl) ?_
        obtain ⟨x7, hx7, h⟩ := hq_bind h
        refine hq_iaload rfl rfl List.length_replicate hx7 ?_
        refine hq_p 2 47 [some (.ref 174), some (.int a1), some (.int a2)] [.int (x7 + a2), .int (9999 : Int32), .int a1, .ref 199] (fun n h => rfl) ?_
        refine hq_math rfl rfl rfl (Nat.le_trans (by decide) hd) ?_
        obtain ⟨s8, hs8, h⟩ := hq_bind h
        refine hq_iastore rfl rfl List.length_replicate hs8 ?_
        refine hq_p 1 52 [some (.ref 174), some (.int a1), some (.int a2)] [.ref 174] (fun n h => rfl) ?_
        refine hq_gf (x := .ref 199) rfl rfl rfl rfl rfl ?_
        refine hq_p 1 56 [some (.ref 174), some (.int a1), some (.int a2)] [.int a1, .ref 199] (fun n h => rfl) ?_
        obtain ⟨x9, hx9, h⟩ := hq_bind h
        refine hq_iaload rfl rfl List.length_replicate hx9 ?_
        have h := Option.some.inj h
        subst h
        exact ⟨1, rfl⟩
def f_X12_go_L43_B (n : Nat) (q43 : Int32 → Int32 → hq_S → Option (Int32 × hq_S)) (a1 : Int32) (a2 : Int32) (s : hq_S) : Option (Int32 × hq_S) := if a2 < a1 then (f_X12_passes n (0 : Int32) (1 : Int32) s).bind fun s11 => q43 a1 (a2 + (1 : Int32)) s11 else (hq_ld s 196 23 (0 : Int32)).bind fun x10 => some (x10, s)
def f_X12_go_L43 (n : Nat) (m : Nat) : Int32 → Int32 → hq_S → Option (Int32 × hq_S) := Nat.rec (fun _ _ _ => none) (fun _ q => f_X12_go_L43_B n q) m
theorem f_X12_go_L43_Brun {xs : List Int32} {n d g : Nat} {a1 : Int32} {a2 : Int32} {q43 : Int32 → Int32 → hq_S → Option (Int32 × hq_S)} {s : hq_S} {y : (Int32 × hq_S)} (hd : 6 ≤ d) (e43 : ∀ (a1 : Int32) (a2 : Int32) (s : hq_S), q43 a1 a2 s = some y → hq_R (mm_O xs) d mc_X12_go 43 [some (.ref 174), some (.int a1), some (.int a2)] [] s g (some (.int y.1)) y.2) (h : f_X12_go_L43_B n q43 a1 a2 s = some y) : hq_R (mm_O xs) d mc_X12_go 43 [some (.ref 174), some (.int a1), some (.int a2)] [] s g (some (.int y.1)) y.2 := by
  unfold f_X12_go_L43_B at h
  refine hq_p 2 45 [some (.ref 174), some (.int a1), some (.int a2)] [.int a1, .int a2] (fun n h => rfl) ?_
  by_cases c9 : a2 < a1
  · rw [if_pos c9] at h
    refine hq_icF rfl (hq_c_ge_F c9) ?_
    refine hq_p 3 51 [some (.ref 174), some (.int a1), some (.int a2)] [.int (1 : Int32), .int (0 : Int32), .ref 174] (fun n h => rfl) ?_
    obtain ⟨s11, hs11, h⟩ := hq_bind h
    refine hq_inv rfl rfl (Nat.le_trans (by decide) hd) rfl rfl (hq_rcv rfl rfl) (f_X12_passes_run (Nat.le_sub_of_add_le (Nat.le_trans (by decide) hd)) hs11) rfl ?_
    refine hq_p 2 43 [some (.ref 174), some (.int a1), some (.int (a2 + (1 : Int32)))] [] (fun n h => rfl) ?_
    exact e43 a1 (a2 + (1 : Int32)) s11 h
  · rw [if_neg c9] at h
    refine hq_icT rfl (hq_c_ge_T c9) ?_
    refine hq_p 1 61 [some (.ref 174), some (.int a1), some (.int a2)] [.ref 174] (fun n h => rfl) ?_
    refine hq_gf (x := .ref 196) rfl rfl rfl rfl rfl ?_
    refine hq_p 1 65 [some (.ref 174), some (.int a1), some (.int a2)] [.int (0 : Int32), .ref 196] (fun n h => rfl) ?_
    obtain ⟨x10, hx10, h⟩ := hq_bind h
    refine hq_iaload rfl rfl List.length_replicate hx10 ?_
    have h := Option.some.inj h
    subst h
    exact ⟨1, rfl⟩
theorem f_X12_go_L43_run {xs : List Int32} {n m d g : Nat} {a1 : Int32} {a2 : Int32} {s : hq_S} {y : (Int32 × hq_S)} (hd : 6 ≤ d) (h : f_X12_go_L43 n m a1 a2 s = some y) : hq_R (mm_O xs) d mc_X12_go 43 [some (.ref 174), some (.int a1), some (.int a2)] [] s g (some (.int y.1)) y.2 := by
  induction m generalizing a1 a2 s with
  | zero => cases h
  | succ m ih => exact f_X12_go_L43_Brun (n := n) hd (fun a1 a2 s h => ih h) h
def f_X12_go (n : Nat) (a1 : Int32) (s : hq_S) : Option (Int32 × hq_S) := (hq_pi s 174 0 0 (0 : Int32)).bind fun s1 => if a1 < 0 then some ((-1 : Int32), s1) else if (200 : Int32) < a1 then some ((-1 : Int32), s1) else (hq_ld s1 196 23 (0 : Int32)).bind fun x4 => if (9800 : Int32) < (x4 + a1) then some ((-1 : Int32), s1) else (if 0 < a1 then (hq_pi s1 174 48 0 (0 : Int32)).bind fun s8 => some s8 else some s1).bind fun z6 => f_X12_go_L43 n n a1 (0 : Int32) z6
theorem f_X12_go_run {xs : List Int32} {n d g : Nat} {a1 : Int32} {s : hq_S} {y : (Int32 × hq_S)} (hd : 6 ≤ d) (h : f_X12_go n a1 s = some y) : hq_R (mm_O xs) d mc_X12_go 0 [some (.ref 174), some (.int a1), none] [] s g (some (.int y.1)) y.2 := by
  unfold f_X12_go at h
  refine hq_p 2 2 [some (.ref 174), some (.int a1), none] [.int (0 : Int32), .ref 174] (fun n h => rfl) ?_
  obtain ⟨s1, hs1, h⟩ := hq_bind h
  refine hq_pfi rfl rfl rfl rfl rfl hs1 ?_
  refine hq_p 1 6 [some (.ref 174), some (.int a1), none] [.int a1] (fun n h => rfl) ?_
  by_cases c2 : a1 < 0
  · rw [if_pos c2] at h
    refine hq_izT rfl (hq_c_lt_T c2) ?_
    refine hq_icn (-1 : Int32) rfl (by decide) ?_
    have h := Option.some.inj h
    subst h
    exact ⟨1, rfl⟩
  · rw [if_neg c2] at h
    refine hq_izF rfl (hq_c_lt_F c2) ?_
    refine hq_p 1 10 [some (.ref 174), some (.int a1), none] [.int a1] (fun n h => rfl) ?_
    refine hq_sip (200 : Int32) rfl (by decide) ?_
    by_cases c3 : (200 : Int32) < a1
    · rw [if_pos c3] at h
      refine hq_icT rfl (hq_c_gt_T c3) ?_
      refine hq_icn (-1 : Int32) rfl (by decide) ?_
      have h := Option.some.inj h
      subst h
      exact ⟨1, rfl⟩
    · rw [if_neg c3] at h
      refine hq_icF rfl (hq_c_gt_F c3) ?_
      refine hq_p 1 17 [some (.ref 174), some (.int a1), none] [.ref 174] (fun n h => rfl) ?_
      refine hq_gf (x := .ref 196) rfl rfl rfl rfl rfl ?_
      refine hq_p 1 21 [some (.ref 174), some (.int a1), none] [.int (0 : Int32), .ref 196] (fun n h => rfl) ?_
      obtain ⟨x4, hx4, h⟩ := hq_bind h
      refine hq_iaload rfl rfl List.length_replicate hx4 ?_
      refine hq_p 2 24 [some (.ref 174), some (.int a1), none] [.int (x4 + a1)] (fun n h => rfl) ?_
      refine hq_sip (9800 : Int32) rfl (by decide) ?_
      by_cases c5 : (9800 : Int32) < (x4 + a1)
      · rw [if_pos c5] at h
        refine hq_icF rfl (hq_c_le_F c5) ?_
        refine hq_icn (-1 : Int32) rfl (by decide) ?_
        have h := Option.some.inj h
        subst h
        exact ⟨1, rfl⟩
      · rw [if_neg c5] at h
        refine hq_icT rfl (hq_c_le_T c5) ?_
        refine hq_p 1 33 [some (.ref 174), some (.int a1), none] [.int a1] (fun n h => rfl) ?_
        obtain ⟨z6, hz6, h⟩ := hq_bind h
        suffices hT : hq_R (mm_O xs) d mc_X12_go 41 [some (.ref 174), some (.int a1), none] [] z6 g (some (.int y.1)) y.2 from by
          clear h
          have h := hz6
          by_cases c7 : 0 < a1
          · rw [if_pos c7] at h
            refine hq_izF rfl (hq_c_le_F c7) ?_
            refine hq_p 2 38 [some (.ref 174), some (.int a1), none] [.int (0 : Int32), .ref 174] (fun n h => rfl) ?_
            obtain ⟨s8, hs8, h⟩ := hq_bind h
            refine hq_pfi rfl rfl rfl rfl rfl hs8 ?_
            cases h
            exact hT
          · rw [if_neg c7] at h
            refine hq_izT rfl (hq_c_le_T c7) ?_
            cases h
            exact hT
        refine hq_p 2 43 [some (.ref 174), some (.int a1), some (.int (0 : Int32))] [] (fun n h => rfl) ?_
        exact f_X12_go_L43_run hd h
def f_X12_ahead (n : Nat) (a1 : Int32) (a2 : Int32) (a3 : Int32) (s : hq_S) : Option (Int32 × hq_S) := (hq_pi s 174 0 0 (0 : Int32)).bind fun s1 => (if a2 = 0 then some ((1 : Int32), s1) else if a2 = (2 : Int32) then some ((1 : Int32), s1) else if a2 = (1 : Int32) then (f_X12_isThief n a3 s1).bind fun y6 => if y6.1 = 0 then if a2 = (3 : Int32) then (f_X12_isGuard n a3 y6.2).bind fun y9 => if y9.1 = 0 then some ((0 : Int32), y9.2) else some ((1 : Int32), y9.2) else some ((0 : Int32), y6.2) else some ((1 : Int32), y6.2) else if a2 = (4 : Int32) then (f_X12_isThief n a3 s1).bind fun y15 => if y15.1 = 0 then if a2 = (3 : Int32) then (f_X12_isGuard n a3 y15.2).bind fun y18 => if y18.1 = 0 then some ((0 : Int32), y18.2) else some ((1 : Int32), y18.2) else some ((0 : Int32), y15.2) else some ((1 : Int32), y15.2) else if a2 = (3 : Int32) then (f_X12_isGuard n a3 s1).bind fun y13 => if y13.1 = 0 then some ((0 : Int32), y13.2) else some ((1 : Int32), y13.2) else some ((0 : Int32), s1)).bind fun z2 => if a1 < 0 then some ((-1 : Int32), z2.2) else if (200 : Int32) < a1 then some ((-1 : Int32), z2.2) else if z2.1 = 0 then some ((-1 : Int32), z2.2) else (f_X12_copies n (1 : Int32) (0 : Int32) z2.2).bind fun s23 => (f_X12_goesOn n a1 s23).bind fun s24 => if a2 = (0 : Int32) then (f_X12_caughtOnes n (1 : Int32) s24).bind fun y26 => some (y26.1, y26.2) else if a2 = (1 : Int32) then (hq_ld s24 204 92 ((4 : Int32) + a3)).bind fun x28 => some (x28, s24) else if a2 = (2 : Int32) then (f_X12_sumOf n 199 (10 : Int32) (1 : Int32) s24).bind fun y30 => some (y30.1, y30.2) else if a2 = (3 : Int32) then (hq_ld s24 200 69 ((3 : Int32) + a3)).bind fun x32 => some (x32, s24) else (hq_ld s24 203 92 ((4 : Int32) + a3)).bind fun x33 => some (x33, s24)
theorem f_X12_ahead_run {xs : List Int32} {n d g : Nat} {a1 : Int32} {a2 : Int32} {a3 : Int32} {s : hq_S} {y : (Int32 × hq_S)} (hd : 7 ≤ d) (h : f_X12_ahead n a1 a2 a3 s = some y) : hq_R (mm_O xs) d mc_X12_ahead 0 [some (.ref 174), some (.int a1), some (.int a2), some (.int a3), none] [] s g (some (.int y.1)) y.2 := by
  unfold f_X12_ahead at h
  refine hq_p 2 2 [some (.ref 174), some (.int a1), some (.int a2), some (.int a3), none] [.int (0 : Int32), .ref 174] (fun n h => rfl) ?_
  obtain ⟨s1, hs1, h⟩ := hq_bind h
  refine hq_pfi rfl rfl rfl rfl rfl hs1 ?_
  refine hq_p 1 6 [some (.ref 174), some (.int a1), some (.int a2), some (.int a3), none] [.int a2] (fun n h => rfl) ?_
  obtain ⟨z2, hz2, h⟩ := hq_bind h
  suffices hT : hq_R (mm_O xs) d mc_X12_ahead 50 [some (.ref 174), some (.int a1), some (.int a2), some (.int a3), none] [.int z2.1] z2.2 g (some (.int y.1)) y.2 from by
    clear h
    have h := hz2
    by_cases c3 : a2 = 0
    · rw [if_pos c3] at h
      refine hq_izT rfl (hq_c_eq_T c3) ?_
      refine hq_p 2 50 [some (.ref 174), some (.int a1), some (.int a2), some (.int a3), none] [.int (1 : Int32)] (fun n h => rfl) ?_
      cases h
      exact hT
    · rw [if_neg c3] at h
      refine hq_izF rfl (hq_c_eq_F c3) ?_
      refine hq_p 2 11 [some (.ref 174), some (.int a1), some (.int a2), some (.int a3), none] [.int (2 : Int32), .int a2] (fun n h => rfl) ?_
      by_cases c4 : a2 = (2 : Int32)
      · rw [if_pos c4] at h
        refine hq_icT rfl (hq_c_eq_T c4) ?_
        refine hq_p 2 50 [some (.ref 174), some (.int a1), some (.int a2), some (.int a3), none] [.int (1 : Int32)] (fun n h => rfl) ?_
        cases h
        exact hT
      · rw [if_neg c4] at h
        refine hq_icF rfl (hq_c_eq_F c4) ?_
        refine hq_p 2 16 [some (.ref 174), some (.int a1), some (.int a2), some (.int a3), none] [.int (1 : Int32), .int a2] (fun n h => rfl) ?_
        by_cases c5 : a2 = (1 : Int32)
        · rw [if_pos c5] at h
          refine hq_icT rfl (hq_c_eq_T c5) ?_
          refine hq_p 2 26 [some (.ref 174), some (.int a1), some (.int a2), some (.int a3), none] [.int a3, .ref 174] (fun n h => rfl) ?_
          obtain ⟨y6, hy6, h⟩ := hq_bind h
          refine hq_inv rfl rfl (Nat.le_trans (by decide) hd) rfl rfl (hq_rcv rfl rfl) (f_X12_isThief_run (Nat.le_sub_of_add_le (Nat.le_trans (by decide) hd)) hy6) rfl ?_
          by_cases c7 : y6.1 = 0
          · rw [if_pos c7] at h
            refine hq_izF rfl (hq_c_ne_F c7) ?_
            refine hq_p 2 34 [some (.ref 174), some (.int a1), some (.int a2), some (.int a3), none] [.int (3 : Int32), .int a2] (fun n h => rfl) ?_
            by_cases c8 : a2 = (3 : Int32)
            · rw [if_pos c8] at h
              refine hq_icF rfl (hq_c_ne_F c8) ?_
              refine hq_p 2 39 [some (.ref 174), some (.int a1), some (.int a2), some (.int a3), none] [.int a3, .ref 174] (fun n h => rfl) ?_
              obtain ⟨y9, hy9, h⟩ := hq_bind h
              refine hq_inv rfl rfl (Nat.le_trans (by decide) hd) rfl rfl (hq_rcv rfl rfl) (f_X12_isGuard_run (Nat.le_sub_of_add_le (Nat.le_trans (by decide) hd)) hy9) rfl ?_
              by_cases c10 : y9.1 = 0
              · rw [if_pos c10] at h
                refine hq_izT rfl (hq_c_eq_T c10) ?_
                refine hq_p 1 50 [some (.ref 174), some (.int a1), some (.int a2), some (.int a3), none] [.int (0 : Int32)] (fun n h => rfl) ?_
                cases h
                exact hT
              · rw [if_neg c10] at h
                refine hq_izF rfl (hq_c_eq_F c10) ?_
                refine hq_p 2 50 [some (.ref 174), some (.int a1), some (.int a2), some (.int a3), none] [.int (1 : Int32)] (fun n h => rfl) ?_
                cases h
                exact hT
            · rw [if_neg c8] at h
              refine hq_icT rfl (hq_c_ne_T c8) ?_
              refine hq_p 1 50 [some (.ref 174), some (.int a1), some (.int a2), some (.int a3), none] [.int (0 : Int32)] (fun n h => rfl) ?_
              cases h
              exact hT
          · rw [if_neg c7] at h
            refine hq_izT rfl (hq_c_ne_T c7) ?_
            refine hq_p 2 50 [some (.ref 174), some (.int a1), some (.int a2), some (.int a3), none] [.int (1 : Int32)] (fun n h => rfl) ?_
            cases h
            exact hT
        · rw [if_neg c5] at h
          refine hq_icF rfl (hq_c_eq_F c5) ?_
          refine hq_p 2 21 [some (.ref 174), some (.int a1), some (.int a2), some (.int a3), none] [.int (4 : Int32), .int a2] (fun n h => rfl) ?_
          by_cases c11 : a2 = (4 : Int32)
          · rw [if_pos c11] at h
            refine hq_icF rfl (hq_c_ne_F c11) ?_
            refine hq_p 2 26 [some (.ref 174), some (.int a1), some (.int a2), some (.int a3), none] [.int a3, .ref 174] (fun n h => rfl) ?_
            obtain ⟨y15, hy15, h⟩ := hq_bind h
            refine hq_inv rfl rfl (Nat.le_trans (by decide) hd) rfl rfl (hq_rcv rfl rfl) (f_X12_isThief_run (Nat.le_sub_of_add_le (Nat.le_trans (by decide) hd)) hy15) rfl ?_
            by_cases c16 : y15.1 = 0
            · rw [if_pos c16] at h
              refine hq_izF rfl (hq_c_ne_F c16) ?_
              refine hq_p 2 34 [some (.ref 174), some (.int a1), some (.int a2), some (.int a3), none] [.int (3 : Int32), .int a2] (fun n h => rfl) ?_
              by_cases c17 : a2 = (3 : Int32)
              · rw [if_pos c17] at h
                refine hq_icF rfl (hq_c_ne_F c17) ?_
                refine hq_p 2 39 [some (.ref 174), some (.int a1), some (.int a2), some (.int a3), none] [.int a3, .ref 174] (fun n h => rfl) ?_
                obtain ⟨y18, hy18, h⟩ := hq_bind h
                refine hq_inv rfl rfl (Nat.le_trans (by decide) hd) rfl rfl (hq_rcv rfl rfl) (f_X12_isGuard_run (Nat.le_sub_of_add_le (Nat.le_trans (by decide) hd)) hy18) rfl ?_
                by_cases c19 : y18.1 = 0
                · rw [if_pos c19] at h
                  refine hq_izT rfl (hq_c_eq_T c19) ?_
                  refine hq_p 1 50 [some (.ref 174), some (.int a1), some (.int a2), some (.int a3), none] [.int (0 : Int32)] (fun n h => rfl) ?_
                  cases h
                  exact hT
                · rw [if_neg c19] at h
                  refine hq_izF rfl (hq_c_eq_F c19) ?_
                  refine hq_p 2 50 [some (.ref 174), some (.int a1), some (.int a2), some (.int a3), none] [.int (1 : Int32)] (fun n h => rfl) ?_
                  cases h
                  exact hT
              · rw [if_neg c17] at h
                refine hq_icT rfl (hq_c_ne_T c17) ?_
                refine hq_p 1 50 [some (.ref 174), some (.int a1), some (.int a2), some (.int a3), none] [.int (0 : Int32)] (fun n h => rfl) ?_
                cases h
                exact hT
            · rw [if_neg c16] at h
              refine hq_izT rfl (hq_c_ne_T c16) ?_
              refine hq_p 2 50 [some (.ref 174), some (.int a1), some (.int a2), some (.int a3), none] [.int (1 : Int32)] (fun n h => rfl) ?_
              cases h
              exact hT
          · rw [if_neg c11] at h
            refine hq_icT rfl (hq_c_ne_T c11) ?_
            refine hq_p 2 34 [some (.ref 174), some (.int a1), some (.int a2), some (.int a3), none] [.int (3 : Int32), .int a2] (fun n h => rfl) ?_
            by_cases c12 : a2 = (3 : Int32)
            · rw [if_pos c12] at h
              refine hq_icF rfl (hq_c_ne_F c12) ?_
              refine hq_p 2 39 [some (.ref 174), some (.int a1), some (.int a2), some (.int a3), none] [.int a3, .ref 174] (fun n h => rfl) ?_
              obtain ⟨y13, hy13, h⟩ := hq_bind h
              refine hq_inv rfl rfl (Nat.le_trans (by decide) hd) rfl rfl (hq_rcv rfl rfl) (f_X12_isGuard_run (Nat.le_sub_of_add_le (Nat.le_trans (by decide) hd)) hy13) rfl ?_
              by_cases c14 : y13.1 = 0
              · rw [if_pos c14] at h
                refine hq_izT rfl (hq_c_eq_T c14) ?_
                refine hq_p 1 50 [some (.ref 174), some (.int a1), some (.int a2), some (.int a3), none] [.int (0 : Int32)] (fun n h => rfl) ?_
                cases h
                exact hT
              · rw [if_neg c14] at h
                refine hq_izF rfl (hq_c_eq_F c14) ?_
                refine hq_p 2 50 [some (.ref 174), some (.int a1), some (.int a2), some (.int a3), none] [.int (1 : Int32)] (fun n h => rfl) ?_
                cases h
                exact hT
            · rw [if_neg c12] at h
              refine hq_icT rfl (hq_c_ne_T c12) ?_
              refine hq_p 1 50 [some (.ref 174), some (.int a1), some (.int a2), some (.int a3), none] [.int (0 : Int32)] (fun n h => rfl) ?_
              cases h
              exact hT
  refine hq_p 2 53 [some (.ref 174), some (.int a1), some (.int a2), some (.int a3), some (.int z2.1)] [.int a1] (fun n h => rfl) ?_
  by_cases c20 : a1 < 0
  · rw [if_pos c20] at h
    refine hq_izT rfl (hq_c_lt_T c20) ?_
    refine hq_icn (-1 : Int32) rfl (by decide) ?_
    have h := Option.some.inj h
    subst h
    exact ⟨1, rfl⟩
  · rw [if_neg c20] at h
    refine hq_izF rfl (hq_c_lt_F c20) ?_
    refine hq_p 1 57 [some (.ref 174), some (.int a1), some (.int a2), some (.int a3), some (.int z2.1)] [.int a1] (fun n h => rfl) ?_
    refine hq_sip (200 : Int32) rfl (by decide) ?_
    by_cases c21 : (200 : Int32) < a1
    · rw [if_pos c21] at h
      refine hq_icT rfl (hq_c_gt_T c21) ?_
      refine hq_icn (-1 : Int32) rfl (by decide) ?_
      have h := Option.some.inj h
      subst h
      exact ⟨1, rfl⟩
    · rw [if_neg c21] at h
      refine hq_icF rfl (hq_c_gt_F c21) ?_
      refine hq_p 1 65 [some (.ref 174), some (.int a1), some (.int a2), some (.int a3), some (.int z2.1)] [.int z2.1] (fun n h => rfl) ?_
      by_cases c22 : z2.1 = 0
      · rw [if_pos c22] at h
        refine hq_izF rfl (hq_c_ne_F c22) ?_
        refine hq_icn (-1 : Int32) rfl (by decide) ?_
        have h := Option.some.inj h
        subst h
        exact ⟨1, rfl⟩
      · rw [if_neg c22] at h
        refine hq_izT rfl (hq_c_ne_T c22) ?_
        refine hq_p 3 73 [some (.ref 174), some (.int a1), some (.int a2), some (.int a3), some (.int z2.1)] [.int (0 : Int32), .int (1 : Int32), .ref 174] (fun n h => rfl) ?_
        obtain ⟨s23, hs23, h⟩ := hq_bind h
        refine hq_inv rfl rfl (Nat.le_trans (by decide) hd) rfl rfl (hq_rcv rfl rfl) (f_X12_copies_run (Nat.le_sub_of_add_le (Nat.le_trans (by decide) hd)) hs23) rfl ?_
        refine hq_p 2 78 [some (.ref 174), some (.int a1), some (.int a2), some (.int a3), some (.int z2.1)] [.int a1, .ref 174] (fun n h => rfl) ?_
        obtain ⟨s24, hs24, h⟩ := hq_bind h
        refine hq_inv rfl rfl (Nat.le_trans (by decide) hd) rfl rfl (hq_rcv rfl rfl) (f_X12_goesOn_run (Nat.le_sub_of_add_le (Nat.le_trans (by decide) hd)) hs24) rfl ?_
        refine hq_p 1 82 [some (.ref 174), some (.int a1), some (.int a2), some (.int a3), some (.int z2.1)] [.int a2] (fun n h => rfl) ?_
        by_cases c25 : a2 = (0 : Int32)
        · rw [if_pos c25] at h
          refine hq_tsw rfl (show _ = some 112 from by rw [c25]; decide) ?_
          refine hq_p 2 114 [some (.ref 174), some (.int a1), some (.int a2), some (.int a3), some (.int z2.1)] [.int (1 : Int32), .ref 174] (fun n h => rfl) ?_
          obtain ⟨y26, hy26, h⟩ := hq_bind h
          refine hq_inv rfl rfl (Nat.le_trans (by decide) hd) rfl rfl (hq_rcv rfl rfl) (f_X12_caughtOnes_run (Nat.le_sub_of_add_le (Nat.le_trans (by decide) hd)) hy26) rfl ?_
          have h := Option.some.inj h
          subst h
          exact ⟨1, rfl⟩
        rw [if_neg c25] at h
        by_cases c27 : a2 = (1 : Int32)
        · rw [if_pos c27] at h
          refine hq_tsw rfl (show _ = some 118 from by rw [c27]; decide) ?_
          refine hq_p 1 119 [some (.ref 174), some (.int a1), some (.int a2), some (.int a3), some (.int z2.1)] [.ref 174] (fun n h => rfl) ?_
          refine hq_gf (x := .ref 204) rfl rfl rfl rfl rfl ?_
          refine hq_p 3 125 [some (.ref 174), some (.int a1), some (.int a2), some (.int a3), some (.int z2.1)] [.int ((4 : Int32) + a3), .ref 204] (fun n h => rfl) ?_
          obtain ⟨x28, hx28, h⟩ := hq_bind h
          refine hq_iaload rfl rfl List.length_replicate hx28 ?_
          have h := Option.some.inj h
          subst h
          exact ⟨1, rfl⟩
        rw [if_neg c27] at h
        by_cases c29 : a2 = (2 : Int32)
        · rw [if_pos c29] at h
          refine hq_tsw rfl (show _ = some 127 from by rw [c29]; decide) ?_
          refine hq_p 2 129 [some (.ref 174), some (.int a1), some (.int a2), some (.int a3), some (.int z2.1)] [.ref 174, .ref 174] (fun n h => rfl) ?_
          refine hq_gf (x := .ref 199) rfl rfl rfl rfl rfl ?_
          refine hq_p 2 135 [some (.ref 174), some (.int a1), some (.int a2), some (.int a3), some (.int z2.1)] [.int (1 : Int32), .int (10 : Int32), .ref 199, .ref 174] (fun n h => rfl) ?_
          obtain ⟨y30, hy30, h⟩ := hq_bind h
          refine hq_inv rfl rfl (Nat.le_trans (by decide) hd) rfl rfl (hq_rcv rfl rfl) (f_X12_sumOf_run (Nat.le_sub_of_add_le (Nat.le_trans (by decide) hd)) hy30) rfl ?_
          have h := Option.some.inj h
          subst h
          exact ⟨1, rfl⟩
        rw [if_neg c29] at h
        by_cases c31 : a2 = (3 : Int32)
        · rw [if_pos c31] at h
          refine hq_tsw rfl (show _ = some 139 from by rw [c31]; decide) ?_
          refine hq_p 1 140 [some (.ref 174), some (.int a1), some (.int a2), some (.int a3), some (.int z2.1)] [.ref 174] (fun n h => rfl) ?_
          refine hq_gf (x := .ref 200) rfl rfl rfl rfl rfl ?_
          refine hq_p 3 146 [some (.ref 174), some (.int a1), some (.int a2), some (.int a3), some (.int z2.1)] [.int ((3 : Int32) + a3), .ref 200] (fun n h => rfl) ?_
          obtain ⟨x32, hx32, h⟩ := hq_bind h
          refine hq_iaload rfl rfl List.length_replicate hx32 ?_
          have h := Option.some.inj h
          subst h
          exact ⟨1, rfl⟩
        rw [if_neg c31] at h
        refine hq_tsw rfl (hq_tsw_d [(0 : Int32), (1 : Int32), (2 : Int32), (3 : Int32)] (by decide) rfl ⟨c25, c27, c29, c31, trivial⟩) ?_
        refine hq_p 1 149 [some (.ref 174), some (.int a1), some (.int a2), some (.int a3), some (.int z2.1)] [.ref 174] (fun n h => rfl) ?_
        refine hq_gf (x := .ref 203) rfl rfl rfl rfl rfl ?_
        refine hq_p 3 155 [some (.ref 174), some (.int a1), some (.int a2), some (.int a3), some (.int z2.1)] [.int ((4 : Int32) + a3), .ref 203] (fun n h => rfl) ?_
        obtain ⟨x33, hx33, h⟩ := hq_bind h
        refine hq_iaload rfl rfl List.length_replicate hx33 ?_
        have h := Option.some.inj h
        subst h
        exact ⟨1, rfl⟩
def f_X12_caught_L23_B (n : Nat) (q23 : Int32 → Int32 → hq_S → Option (Int32 × hq_S)) (a1 : Int32) (a2 : Int32) (s : hq_S) : Option (Int32 × hq_S) := if (199 : Int32) < a2 then some ((-2 : Int32), s) else (f_X12_isFree n (1 : Int32) a1 s).bind fun y6 => if y6.1 = 0 then some (a2, y6.2) else (f_X12_passes n (1 : Int32) (0 : Int32) y6.2).bind fun s8 => q23 a1 (a2 + (1 : Int32)) s8
def f_X12_caught_L23 (n : Nat) (m : Nat) : Int32 → Int32 → hq_S → Option (Int32 × hq_S) := Nat.rec (fun _ _ _ => none) (fun _ q => f_X12_caught_L23_B n q) m
theorem f_X12_caught_L23_Brun {xs : List Int32} {n d g : Nat} {a1 : Int32} {a2 : Int32} {q23 : Int32 → Int32 → hq_S → Option (Int32 × hq_S)} {s : hq_S} {y : (Int32 × hq_S)} (hd : 6 ≤ d) (e23 : ∀ (a1 : Int32) (a2 : Int32) (s : hq_S), q23 a1 a2 s = some y → hq_R (mm_O xs) d mc_X12_caught 23 [some (.ref 174), some (.int a1), some (.int a2)] [] s g (some (.int y.1)) y.2) (h : f_X12_caught_L23_B n q23 a1 a2 s = some y) : hq_R (mm_O xs) d mc_X12_caught 23 [some (.ref 174), some (.int a1), some (.int a2)] [] s g (some (.int y.1)) y.2 := by
  unfold f_X12_caught_L23_B at h
  refine hq_p 1 24 [some (.ref 174), some (.int a1), some (.int a2)] [.int a2] (fun n h => rfl) ?_
  refine hq_sip (199 : Int32) rfl (by decide) ?_
  by_cases c5 : (199 : Int32) < a2
  · rw [if_pos c5] at h
    refine hq_icT rfl (hq_c_gt_T c5) ?_
    refine hq_bip (-2 : Int32) rfl (by decide) ?_
    have h := Option.some.inj h
    subst h
    exact ⟨1, rfl⟩
  · rw [if_neg c5] at h
    refine hq_icF rfl (hq_c_gt_F c5) ?_
    refine hq_p 3 33 [some (.ref 174), some (.int a1), some (.int a2)] [.int a1, .int (1 : Int32), .ref 174] (fun n h => rfl) ?_
    obtain ⟨y6, hy6, h⟩ := hq_bind h
    refine hq_inv rfl rfl (Nat.le_trans (by decide) hd) rfl rfl (hq_rcv rfl rfl) (f_X12_isFree_run (Nat.le_sub_of_add_le (Nat.le_trans (by decide) hd)) hy6) rfl ?_
    by_cases c7 : y6.1 = 0
    · rw [if_pos c7] at h
      refine hq_izF rfl (hq_c_ne_F c7) ?_
      refine hq_p 1 40 [some (.ref 174), some (.int a1), some (.int a2)] [.int a2] (fun n h => rfl) ?_
      have h := Option.some.inj h
      subst h
      exact ⟨1, rfl⟩
    · rw [if_neg c7] at h
      refine hq_izT rfl (hq_c_ne_T c7) ?_
      refine hq_p 3 44 [some (.ref 174), some (.int a1), some (.int a2)] [.int (0 : Int32), .int (1 : Int32), .ref 174] (fun n h => rfl) ?_
      obtain ⟨s8, hs8, h⟩ := hq_bind h
      refine hq_inv rfl rfl (Nat.le_trans (by decide) hd) rfl rfl (hq_rcv rfl rfl) (f_X12_passes_run (Nat.le_sub_of_add_le (Nat.le_trans (by decide) hd)) hs8) rfl ?_
      refine hq_p 2 23 [some (.ref 174), some (.int a1), some (.int (a2 + (1 : Int32)))] [] (fun n h => rfl) ?_
      exact e23 a1 (a2 + (1 : Int32)) s8 h
theorem f_X12_caught_L23_run {xs : List Int32} {n m d g : Nat} {a1 : Int32} {a2 : Int32} {s : hq_S} {y : (Int32 × hq_S)} (hd : 6 ≤ d) (h : f_X12_caught_L23 n m a1 a2 s = some y) : hq_R (mm_O xs) d mc_X12_caught 23 [some (.ref 174), some (.int a1), some (.int a2)] [] s g (some (.int y.1)) y.2 := by
  induction m generalizing a1 a2 s with
  | zero => cases h
  | succ m ih => exact f_X12_caught_L23_Brun (n := n) hd (fun a1 a2 s h => ih h) h
def f_X12_caught (n : Nat) (a1 : Int32) (s : hq_S) : Option (Int32 × hq_S) := (hq_pi s 174 0 0 (0 : Int32)).bind fun s1 => (f_X12_isThief n a1 s1).bind fun y2 => if y2.1 = 0 then some ((-1 : Int32), y2.2) else (f_X12_copies n (1 : Int32) (0 : Int32) y2.2).bind fun s4 => f_X12_caught_L23 n n a1 (0 : Int32) s4
theorem f_X12_caught_run {xs : List Int32} {n d g : Nat} {a1 : Int32} {s : hq_S} {y : (Int32 × hq_S)} (hd : 6 ≤ d) (h : f_X12_caught n a1 s = some y) : hq_R (mm_O xs) d mc_X12_caught 0 [some (.ref 174), some (.int a1), none] [] s g (some (.int y.1)) y.2 := by
  unfold f_X12_caught at h
  refine hq_p 2 2 [some (.ref 174), some (.int a1), none] [.int (0 : Int32), .ref 174] (fun n h => rfl) ?_
  obtain ⟨s1, hs1, h⟩ := hq_bind h
  refine hq_pfi rfl rfl rfl rfl rfl hs1 ?_
  refine hq_p 2 7 [some (.ref 174), some (.int a1), none] [.int a1, .ref 174] (fun n h => rfl) ?_
  obtain ⟨y2, hy2, h⟩ := hq_bind h
  refine hq_inv rfl rfl (Nat.le_trans (by decide) hd) rfl rfl (hq_rcv rfl rfl) (f_X12_isThief_run (Nat.le_sub_of_add_le (Nat.le_trans (by decide) hd)) hy2) rfl ?_
  by_cases c3 : y2.1 = 0
  · rw [if_pos c3] at h
    refine hq_izF rfl (hq_c_ne_F c3) ?_
    refine hq_icn (-1 : Int32) rfl (by decide) ?_
    have h := Option.some.inj h
    subst h
    exact ⟨1, rfl⟩
  · rw [if_neg c3] at h
    refine hq_izT rfl (hq_c_ne_T c3) ?_
    refine hq_p 3 18 [some (.ref 174), some (.int a1), none] [.int (0 : Int32), .int (1 : Int32), .ref 174] (fun n h => rfl) ?_
    obtain ⟨s4, hs4, h⟩ := hq_bind h
    refine hq_inv rfl rfl (Nat.le_trans (by decide) hd) rfl rfl (hq_rcv rfl rfl) (f_X12_copies_run (Nat.le_sub_of_add_le (Nat.le_trans (by decide) hd)) hs4) rfl ?_
    refine hq_p 2 23 [some (.ref 174), some (.int a1), some (.int (0 : Int32))] [] (fun n h => rfl) ?_
    exact f_X12_caught_L23_run hd h
def f_X12_far (n : Nat) (a1 : Int32) (a2 : Int32) (s : hq_S) : Option (Int32 × hq_S) := (hq_pi s 174 0 0 (0 : Int32)).bind fun s1 => (f_X12_isCorner n a1 s1).bind fun y2 => if y2.1 = 0 then some ((-1 : Int32), y2.2) else (f_X12_isCorner n a2 y2.2).bind fun y4 => if y4.1 = 0 then some ((-1 : Int32), y4.2) else (f_X12_lays n (0 : Int32) y4.2).bind fun s6 => (hq_ld s6 207 100 (((10 : Int32) * a1) + a2)).bind fun x7 => some (x7, s6)
theorem f_X12_far_run {xs : List Int32} {n d g : Nat} {a1 : Int32} {a2 : Int32} {s : hq_S} {y : (Int32 × hq_S)} (hd : 2 ≤ d) (h : f_X12_far n a1 a2 s = some y) : hq_R (mm_O xs) d mc_X12_far 0 [some (.ref 174), some (.int a1), some (.int a2)] [] s g (some (.int y.1)) y.2 := by
  unfold f_X12_far at h
  refine hq_p 2 2 [some (.ref 174), some (.int a1), some (.int a2)] [.int (0 : Int32), .ref 174] (fun n h => rfl) ?_
  obtain ⟨s1, hs1, h⟩ := hq_bind h
  refine hq_pfi rfl rfl rfl rfl rfl hs1 ?_
  refine hq_p 2 7 [some (.ref 174), some (.int a1), some (.int a2)] [.int a1, .ref 174] (fun n h => rfl) ?_
  obtain ⟨y2, hy2, h⟩ := hq_bind h
  refine hq_inv rfl rfl (Nat.le_trans (by decide) hd) rfl rfl (hq_rcv rfl rfl) (f_X12_isCorner_run (Nat.le_sub_of_add_le (Nat.le_trans (by decide) hd)) hy2) rfl ?_
  by_cases c3 : y2.1 = 0
  · rw [if_pos c3] at h
    refine hq_izT rfl (hq_c_eq_T c3) ?_
    refine hq_icn (-1 : Int32) rfl (by decide) ?_
    have h := Option.some.inj h
    subst h
    exact ⟨1, rfl⟩
  · rw [if_neg c3] at h
    refine hq_izF rfl (hq_c_eq_F c3) ?_
    refine hq_p 2 15 [some (.ref 174), some (.int a1), some (.int a2)] [.int a2, .ref 174] (fun n h => rfl) ?_
    obtain ⟨y4, hy4, h⟩ := hq_bind h
    refine hq_inv rfl rfl (Nat.le_trans (by decide) hd) rfl rfl (hq_rcv rfl rfl) (f_X12_isCorner_run (Nat.le_sub_of_add_le (Nat.le_trans (by decide) hd)) hy4) rfl ?_
    by_cases c5 : y4.1 = 0
    · rw [if_pos c5] at h
      refine hq_izF rfl (hq_c_ne_F c5) ?_
      refine hq_icn (-1 : Int32) rfl (by decide) ?_
      have h := Option.some.inj h
      subst h
      exact ⟨1, rfl⟩
    · rw [if_neg c5] at h
      refine hq_izT rfl (hq_c_ne_T c5) ?_
      refine hq_p 2 25 [some (.ref 174), some (.int a1), some (.int a2)] [.int (0 : Int32), .ref 174] (fun n h => rfl) ?_
      obtain ⟨s6, hs6, h⟩ := hq_bind h
      refine hq_inv rfl rfl (Nat.le_trans (by decide) hd) rfl rfl (hq_rcv rfl rfl) (f_X12_lays_run (Nat.le_sub_of_add_le (Nat.le_trans (by decide) hd)) hs6) rfl ?_
      refine hq_p 1 29 [some (.ref 174), some (.int a1), some (.int a2)] [.ref 174] (fun n h => rfl) ?_
      refine hq_gf (x := .ref 207) rfl rfl rfl rfl rfl ?_
      refine hq_p 5 38 [some (.ref 174), some (.int a1), some (.int a2)] [.int (((10 : Int32) * a1) + a2), .ref 207] (fun n h => rfl) ?_
      obtain ⟨x7, hx7, h⟩ := hq_bind h
      refine hq_iaload rfl rfl List.length_replicate hx7 ?_
      have h := Option.some.inj h
      subst h
      exact ⟨1, rfl⟩
def f_X12_way_L67_B (n : Nat) (q67 : Int32 → Int32 → Int32 → Int32 → Int32 → Int32 → hq_S → Option (Int32 × hq_S)) (a1 : Int32) (a2 : Int32) (a3 : Int32) (a4 : Int32) (a5 : Int32) (a6 : Int32) (s : hq_S) : Option (Int32 × hq_S) := if a6 < a3 then (f_X12_nearer n a5 a2 s).bind fun y12 => q67 a1 a2 a3 a4 y12.1 (a6 + (1 : Int32)) y12.2 else some (a5, s)
def f_X12_way_L67 (n : Nat) (m : Nat) : Int32 → Int32 → Int32 → Int32 → Int32 → Int32 → hq_S → Option (Int32 × hq_S) := Nat.rec (fun _ _ _ _ _ _ _ => none) (fun _ q => f_X12_way_L67_B n q) m
theorem f_X12_way_L67_Brun {xs : List Int32} {n d g : Nat} {a1 : Int32} {a2 : Int32} {a3 : Int32} {a4 : Int32} {a5 : Int32} {a6 : Int32} {q67 : Int32 → Int32 → Int32 → Int32 → Int32 → Int32 → hq_S → Option (Int32 × hq_S)} {s : hq_S} {y : (Int32 × hq_S)} (hd : 2 ≤ d) (e67 : ∀ (a1 : Int32) (a2 : Int32) (a3 : Int32) (a4 : Int32) (a5 : Int32) (a6 : Int32) (s : hq_S), q67 a1 a2 a3 a4 a5 a6 s = some y → hq_R (mm_O xs) d mc_X12_way 67 [some (.ref 174), some (.int a1), some (.int a2), some (.int a3), some (.int a4), some (.int a5), some (.int a6)] [] s g (some (.int y.1)) y.2) (h : f_X12_way_L67_B n q67 a1 a2 a3 a4 a5 a6 s = some y) : hq_R (mm_O xs) d mc_X12_way 67 [some (.ref 174), some (.int a1), some (.int a2), some (.int a3), some (.int a4), some (.int a5), some (.int a6)] [] s g (some (.int y.1)) y.2 := by
  unfold f_X12_way_L67_B at h
  refine hq_p 2 70 [some (.ref 174), some (.int a1), some (.int a2), some (.int a3), some (.int a4), some (.int a5), some (.int a6)] [.int a3, .int a6] (fun n h => rfl) ?_
  by_cases c11 : a6 < a3
  · rw [if_pos c11] at h
    refine hq_icF rfl (hq_c_ge_F c11) ?_
    refine hq_p 3 77 [some (.ref 174), some (.int a1), some (.int a2), some (.int a3), some (.int a4), some (.int a5), some (.int a6)] [.int a2, .int a5, .ref 174] (fun n h => rfl) ?_
    obtain ⟨y12, hy12, h⟩ := hq_bind h
    refine hq_inv rfl rfl (Nat.le_trans (by decide) hd) rfl rfl (hq_rcv rfl rfl) (f_X12_nearer_run (Nat.le_sub_of_add_le (Nat.le_trans (by decide) hd)) hy12) rfl ?_
    refine hq_p 3 67 [some (.ref 174), some (.int a1), some (.int a2), some (.int a3), some (.int a4), some (.int y12.1), some (.int (a6 + (1 : Int32)))] [] (fun n h => rfl) ?_
    exact e67 a1 a2 a3 a4 y12.1 (a6 + (1 : Int32)) y12.2 h
  · rw [if_neg c11] at h
    refine hq_icT rfl (hq_c_ge_T c11) ?_
    refine hq_p 1 90 [some (.ref 174), some (.int a1), some (.int a2), some (.int a3), some (.int a4), some (.int a5), some (.int a6)] [.int a5] (fun n h => rfl) ?_
    have h := Option.some.inj h
    subst h
    exact ⟨1, rfl⟩
theorem f_X12_way_L67_run {xs : List Int32} {n m d g : Nat} {a1 : Int32} {a2 : Int32} {a3 : Int32} {a4 : Int32} {a5 : Int32} {a6 : Int32} {s : hq_S} {y : (Int32 × hq_S)} (hd : 2 ≤ d) (h : f_X12_way_L67 n m a1 a2 a3 a4 a5 a6 s = some y) : hq_R (mm_O xs) d mc_X12_way 67 [some (.ref 174), some (.int a1), some (.int a2), some (.int a3), some (.int a4), some (.int a5), some (.int a6)] [] s g (some (.int y.1)) y.2 := by
  induction m generalizing a1 a2 a3 a4 a5 a6 s with
  | zero => cases h
  | succ m ih => exact f_X12_way_L67_Brun (n := n) hd (fun a1 a2 a3 a4 a5 a6 s h => ih h) h
def f_X12_way (n : Nat) (a1 : Int32) (a2 : Int32) (a3 : Int32) (s : hq_S) : Option (Int32 × hq_S) := (hq_pi s 174 0 0 (0 : Int32)).bind fun s1 => (f_X12_isCorner n a1 s1).bind fun y2 => if y2.1 = 0 then some ((-1 : Int32), y2.2) else (f_X12_isCorner n a2 y2.2).bind fun y4 => if y4.1 = 0 then some ((-1 : Int32), y4.2) else if a3 < 0 then some ((-1 : Int32), y4.2) else (f_X12_lays n (0 : Int32) y4.2).bind fun s7 => (hq_ld s7 207 100 (((10 : Int32) * a1) + a2)).bind fun x8 => if x8 = (99 : Int32) then some ((-2 : Int32), s7) else if x8 < a3 then some ((-2 : Int32), s7) else f_X12_way_L67 n n a1 a2 a3 x8 a1 (0 : Int32) s7
theorem f_X12_way_run {xs : List Int32} {n d g : Nat} {a1 : Int32} {a2 : Int32} {a3 : Int32} {s : hq_S} {y : (Int32 × hq_S)} (hd : 2 ≤ d) (h : f_X12_way n a1 a2 a3 s = some y) : hq_R (mm_O xs) d mc_X12_way 0 [some (.ref 174), some (.int a1), some (.int a2), some (.int a3), none, none, none] [] s g (some (.int y.1)) y.2 := by
  unfold f_X12_way at h
  refine hq_p 2 2 [some (.ref 174), some (.int a1), some (.int a2), some (.int a3), none, none, none] [.int (0 : Int32), .ref 174] (fun n h => rfl) ?_
  obtain ⟨s1, hs1, h⟩ := hq_bind h
  refine hq_pfi rfl rfl rfl rfl rfl hs1 ?_
  refine hq_p 2 7 [some (.ref 174), some (.int a1), some (.int a2), some (.int a3), none, none, none] [.int a1, .ref 174] (fun n h => rfl) ?_
  obtain ⟨y2, hy2, h⟩ := hq_bind h
  refine hq_inv rfl rfl (Nat.le_trans (by decide) hd) rfl rfl (hq_rcv rfl rfl) (f_X12_isCorner_run (Nat.le_sub_of_add_le (Nat.le_trans (by decide) hd)) hy2) rfl ?_
  by_cases c3 : y2.1 = 0
  · rw [if_pos c3] at h
    refine hq_izT rfl (hq_c_eq_T c3) ?_
    refine hq_icn (-1 : Int32) rfl (by decide) ?_
    have h := Option.some.inj h
    subst h
    exact ⟨1, rfl⟩
  · rw [if_neg c3] at h
    refine hq_izF rfl (hq_c_eq_F c3) ?_
    refine hq_p 2 15 [some (.ref 174), some (.int a1), some (.int a2), some (.int a3), none, none, none] [.int a2, .ref 174] (fun n h => rfl) ?_
    obtain ⟨y4, hy4, h⟩ := hq_bind h
    refine hq_inv rfl rfl (Nat.le_trans (by decide) hd) rfl rfl (hq_rcv rfl rfl) (f_X12_isCorner_run (Nat.le_sub_of_add_le (Nat.le_trans (by decide) hd)) hy4) rfl ?_
    by_cases c5 : y4.1 = 0
    · rw [if_pos c5] at h
      refine hq_izT rfl (hq_c_eq_T c5) ?_
      refine hq_icn (-1 : Int32) rfl (by decide) ?_
      have h := Option.some.inj h
      subst h
      exact ⟨1, rfl⟩
    · rw [if_neg c5] at h
      refine hq_izF rfl (hq_c_eq_F c5) ?_
      refine hq_p 1 22 [some (.ref 174), some (.int a1), some (.int a2), some (.int a3), none, none, none] [.int a3] (fun n h => rfl) ?_
      by_cases c6 : a3 < 0
      · rw [if_pos c6] at h
        refine hq_izF rfl (hq_c_ge_F c6) ?_
        refine hq_icn (-1 : Int32) rfl (by decide) ?_
        have h := Option.some.inj h
        subst h
        exact ⟨1, rfl⟩
      · rw [if_neg c6] at h
        refine hq_izT rfl (hq_c_ge_T c6) ?_
        refine hq_p 2 29 [some (.ref 174), some (.int a1), some (.int a2), some (.int a3), none, none, none] [.int (0 : Int32), .ref 174] (fun n h => rfl) ?_
        obtain ⟨s7, hs7, h⟩ := hq_bind h
        refine hq_inv rfl rfl (Nat.le_trans (by decide) hd) rfl rfl (hq_rcv rfl rfl) (f_X12_lays_run (Nat.le_sub_of_add_le (Nat.le_trans (by decide) hd)) hs7) rfl ?_
        refine hq_p 1 33 [some (.ref 174), some (.int a1), some (.int a2), some (.int a3), none, none, none] [.ref 174] (fun n h => rfl) ?_
        refine hq_gf (x := .ref 207) rfl rfl rfl rfl rfl ?_
        refine hq_p 5 42 [some (.ref 174), some (.int a1), some (.int a2), some (.int a3), none, none, none] [.int (((10 : Int32) * a1) + a2), .ref 207] (fun n h => rfl) ?_
        obtain ⟨x8, hx8, h⟩ := hq_bind h
        refine hq_iaload rfl rfl List.length_replicate hx8 ?_
        refine hq_p 2 47 [some (.ref 174), some (.int a1), some (.int a2), some (.int a3), some (.int x8), none, none] [.int x8] (fun n h => rfl) ?_
        refine hq_bip (99 : Int32) rfl (by decide) ?_
        by_cases c9 : x8 = (99 : Int32)
        · rw [if_pos c9] at h
          refine hq_icT rfl (hq_c_eq_T c9) ?_
          refine hq_bip (-2 : Int32) rfl (by decide) ?_
          have h := Option.some.inj h
          subst h
          exact ⟨1, rfl⟩
        · rw [if_neg c9] at h
          refine hq_icF rfl (hq_c_eq_F c9) ?_
          refine hq_p 2 55 [some (.ref 174), some (.int a1), some (.int a2), some (.int a3), some (.int x8), none, none] [.int x8, .int a3] (fun n h => rfl) ?_
          by_cases c10 : x8 < a3
          · rw [if_pos c10] at h
            refine hq_icF rfl (hq_c_le_F c10) ?_
            refine hq_bip (-2 : Int32) rfl (by decide) ?_
            have h := Option.some.inj h
            subst h
            exact ⟨1, rfl⟩
          · rw [if_neg c10] at h
            refine hq_icT rfl (hq_c_le_T c10) ?_
            refine hq_p 4 67 [some (.ref 174), some (.int a1), some (.int a2), some (.int a3), some (.int x8), some (.int a1), some (.int (0 : Int32))] [] (fun n h => rfl) ?_
            exact f_X12_way_L67_run hd h
def f_X12_reachOf_L4_B (n : Nat) (q4 : Int32 → Int32 → Int32 → hq_S → Option (Int32 × hq_S)) (a1 : Int32) (a2 : Int32) (a3 : Int32) (s : hq_S) : Option (Int32 × hq_S) := (hq_ld s 176 14 (0 : Int32)).bind fun x1 => if a3 < x1 then (hq_ld s 207 100 (((10 : Int32) * a1) + a3)).bind fun x3 => (if x3 = (99 : Int32) then some (0 : Int32) else some ((1 : Int32) <<< (a3 &&& 31))).bind fun z4 => q4 a1 (a2 ||| z4) (a3 + (1 : Int32)) s else some (a2, s)
def f_X12_reachOf_L4 (n : Nat) (m : Nat) : Int32 → Int32 → Int32 → hq_S → Option (Int32 × hq_S) := Nat.rec (fun _ _ _ _ => none) (fun _ q => f_X12_reachOf_L4_B n q) m
theorem f_X12_reachOf_L4_Brun {xs : List Int32} {n d g : Nat} {a1 : Int32} {a2 : Int32} {a3 : Int32} {q4 : Int32 → Int32 → Int32 → hq_S → Option (Int32 × hq_S)} {s : hq_S} {y : (Int32 × hq_S)} (hd : 0 ≤ d) (e4 : ∀ (a1 : Int32) (a2 : Int32) (a3 : Int32) (s : hq_S), q4 a1 a2 a3 s = some y → hq_R (mm_O xs) d mc_X12_reachOf 4 [some (.ref 174), some (.int a1), some (.int a2), some (.int a3)] [] s g (some (.int y.1)) y.2) (h : f_X12_reachOf_L4_B n q4 a1 a2 a3 s = some y) : hq_R (mm_O xs) d mc_X12_reachOf 4 [some (.ref 174), some (.int a1), some (.int a2), some (.int a3)] [] s g (some (.int y.1)) y.2 := by
  unfold f_X12_reachOf_L4_B at h
  refine hq_p 2 6 [some (.ref 174), some (.int a1), some (.int a2), some (.int a3)] [.ref 174, .int a3] (fun n h => rfl) ?_
  refine hq_gf (x := .ref 176) rfl rfl rfl rfl rfl ?_
  refine hq_p 1 10 [some (.ref 174), some (.int a1), some (.int a2), some (.int a3)] [.int (0 : Int32), .ref 176, .int a3] (fun n h => rfl) ?_
  obtain ⟨x1, hx1, h⟩ := hq_bind h
  refine hq_iaload rfl rfl rfl hx1 ?_
  by_cases c2 : a3 < x1
  · rw [if_pos c2] at h
    refine hq_icF rfl (hq_c_ge_F c2) ?_
    refine hq_p 2 16 [some (.ref 174), some (.int a1), some (.int a2), some (.int a3)] [.ref 174, .int a2] (fun n h => rfl) ?_
    refine hq_gf (x := .ref 207) rfl rfl rfl rfl rfl ?_
    refine hq_p 5 25 [some (.ref 174), some (.int a1), some (.int a2), some (.int a3)] [.int (((10 : Int32) * a1) + a3), .ref 207, .int a2] (fun n h => rfl) ?_
    obtain ⟨x3, hx3, h⟩ := hq_bind h
    refine hq_iaload rfl rfl List.length_replicate hx3 ?_
    refine hq_bip (99 : Int32) rfl (by decide) ?_
    obtain ⟨z4, hz4, h⟩ := hq_bind h
    suffices hT : hq_R (mm_O xs) d mc_X12_reachOf 38 [some (.ref 174), some (.int a1), some (.int a2), some (.int a3)] [.int z4, .int a2] s g (some (.int y.1)) y.2 from by
      clear h
      have h := hz4
      by_cases c5 : x3 = (99 : Int32)
      · rw [if_pos c5] at h
        refine hq_icT rfl (hq_c_eq_T c5) ?_
        refine hq_p 1 38 [some (.ref 174), some (.int a1), some (.int a2), some (.int a3)] [.int (0 : Int32), .int a2] (fun n h => rfl) ?_
        cases h
        exact hT
      · rw [if_neg c5] at h
        refine hq_icF rfl (hq_c_eq_F c5) ?_
        refine hq_p 4 38 [some (.ref 174), some (.int a1), some (.int a2), some (.int a3)] [.int ((1 : Int32) <<< (a3 &&& 31)), .int a2] (fun n h => rfl) ?_
        cases h
        exact hT
    refine hq_p 4 4 [some (.ref 174), some (.int a1), some (.int (a2 ||| z4)), some (.int (a3 + (1 : Int32)))] [] (fun n h => rfl) ?_
    exact e4 a1 (a2 ||| z4) (a3 + (1 : Int32)) s h
  · rw [if_neg c2] at h
    refine hq_icT rfl (hq_c_ge_T c2) ?_
    refine hq_p 1 47 [some (.ref 174), some (.int a1), some (.int a2), some (.int a3)] [.int a2] (fun n h => rfl) ?_
    have h := Option.some.inj h
    subst h
    exact ⟨1, rfl⟩
theorem f_X12_reachOf_L4_run {xs : List Int32} {n m d g : Nat} {a1 : Int32} {a2 : Int32} {a3 : Int32} {s : hq_S} {y : (Int32 × hq_S)} (hd : 0 ≤ d) (h : f_X12_reachOf_L4 n m a1 a2 a3 s = some y) : hq_R (mm_O xs) d mc_X12_reachOf 4 [some (.ref 174), some (.int a1), some (.int a2), some (.int a3)] [] s g (some (.int y.1)) y.2 := by
  induction m generalizing a1 a2 a3 s with
  | zero => cases h
  | succ m ih => exact f_X12_reachOf_L4_Brun (n := n) hd (fun a1 a2 a3 s h => ih h) h
def f_X12_reachOf (n : Nat) (a1 : Int32) (s : hq_S) : Option (Int32 × hq_S) := f_X12_reachOf_L4 n n a1 (0 : Int32) (0 : Int32) s
theorem f_X12_reachOf_run {xs : List Int32} {n d g : Nat} {a1 : Int32} {s : hq_S} {y : (Int32 × hq_S)} (hd : 0 ≤ d) (h : f_X12_reachOf n a1 s = some y) : hq_R (mm_O xs) d mc_X12_reachOf 0 [some (.ref 174), some (.int a1), none, none] [] s g (some (.int y.1)) y.2 := by
  unfold f_X12_reachOf at h
  refine hq_p 4 4 [some (.ref 174), some (.int a1), some (.int (0 : Int32)), some (.int (0 : Int32))] [] (fun n h => rfl) ?_
  exact f_X12_reachOf_L4_run hd h
def f_X12_reach (n : Nat) (a1 : Int32) (s : hq_S) : Option (Int32 × hq_S) := (hq_pi s 174 0 0 (0 : Int32)).bind fun s1 => (f_X12_isCorner n a1 s1).bind fun y2 => if y2.1 = 0 then some ((-1 : Int32), y2.2) else (f_X12_lays n (0 : Int32) y2.2).bind fun s4 => (f_X12_reachOf n a1 s4).bind fun y5 => some (y5.1, y5.2)
theorem f_X12_reach_run {xs : List Int32} {n d g : Nat} {a1 : Int32} {s : hq_S} {y : (Int32 × hq_S)} (hd : 2 ≤ d) (h : f_X12_reach n a1 s = some y) : hq_R (mm_O xs) d mc_X12_reach 0 [some (.ref 174), some (.int a1)] [] s g (some (.int y.1)) y.2 := by
  unfold f_X12_reach at h
  refine hq_p 2 2 [some (.ref 174), some (.int a1)] [.int (0 : Int32), .ref 174] (fun n h => rfl) ?_
  obtain ⟨s1, hs1, h⟩ := hq_bind h
  refine hq_pfi rfl rfl rfl rfl rfl hs1 ?_
  refine hq_p 2 7 [some (.ref 174), some (.int a1)] [.int a1, .ref 174] (fun n h => rfl) ?_
  obtain ⟨y2, hy2, h⟩ := hq_bind h
  refine hq_inv rfl rfl (Nat.le_trans (by decide) hd) rfl rfl (hq_rcv rfl rfl) (f_X12_isCorner_run (Nat.le_sub_of_add_le (Nat.le_trans (by decide) hd)) hy2) rfl ?_
  by_cases c3 : y2.1 = 0
  · rw [if_pos c3] at h
    refine hq_izF rfl (hq_c_ne_F c3) ?_
    refine hq_icn (-1 : Int32) rfl (by decide) ?_
    have h := Option.some.inj h
    subst h
    exact ⟨1, rfl⟩
  · rw [if_neg c3] at h
    refine hq_izT rfl (hq_c_ne_T c3) ?_
    refine hq_p 2 17 [some (.ref 174), some (.int a1)] [.int (0 : Int32), .ref 174] (fun n h => rfl) ?_
    obtain ⟨s4, hs4, h⟩ := hq_bind h
    refine hq_inv rfl rfl (Nat.le_trans (by decide) hd) rfl rfl (hq_rcv rfl rfl) (f_X12_lays_run (Nat.le_sub_of_add_le (Nat.le_trans (by decide) hd)) hs4) rfl ?_
    refine hq_p 2 22 [some (.ref 174), some (.int a1)] [.int a1, .ref 174] (fun n h => rfl) ?_
    obtain ⟨y5, hy5, h⟩ := hq_bind h
    refine hq_inv rfl rfl (Nat.le_trans (by decide) hd) rfl rfl (hq_rcv rfl rfl) (f_X12_reachOf_run (Nat.le_sub_of_add_le (Nat.le_trans (by decide) hd)) hy5) rfl ?_
    have h := Option.some.inj h
    subst h
    exact ⟨1, rfl⟩
def f_X12_parts_L29_B (n : Nat) (q14 : Int32 → Int32 → hq_S → Option (Int32 × hq_S)) (q29 : Int32 → Int32 → Int32 → Int32 → hq_S → Option (Int32 × hq_S)) (a1 : Int32) (a2 : Int32) (a3 : Int32) (a4 : Int32) (s : hq_S) : Option (Int32 × hq_S) := if a4 < a2 then (f_X12_reachOf n a2 s).bind fun y8 => (f_X12_reachOf n a4 y8.2).bind fun y9 => (if (((y8.1 >>> (a4 &&& 31)) &&& (y9.1 >>> (a2 &&& 31))) &&& (1 : Int32)) = 0 then some (1 : Int32) else some (0 : Int32)).bind fun z10 => q29 a1 a2 (a3 &&& z10) (a4 + (1 : Int32)) y9.2 else (if a3 = 0 then some (0 : Int32) else some (1 : Int32)).bind fun z6 => q14 (a1 + z6) (a2 + (1 : Int32)) s
def f_X12_parts_L29 (n : Nat) (q14 : Int32 → Int32 → hq_S → Option (Int32 × hq_S)) (m : Nat) : Int32 → Int32 → Int32 → Int32 → hq_S → Option (Int32 × hq_S) := Nat.rec (fun _ _ _ _ _ => none) (fun _ q => f_X12_parts_L29_B n q14 q) m
theorem f_X12_parts_L29_Brun {xs : List Int32} {n d g : Nat} {a1 : Int32} {a2 : Int32} {a3 : Int32} {a4 : Int32} {q14 : Int32 → Int32 → hq_S → Option (Int32 × hq_S)} {q29 : Int32 → Int32 → Int32 → Int32 → hq_S → Option (Int32 × hq_S)} {s : hq_S} {y : (Int32 × hq_S)} (hd : 2 ≤ d) (e14 : ∀ (a1 : Int32) (a2 : Int32) (o3 : Option Value) (o4 : Option Value) (s : hq_S), q14 a1 a2 s = some y → hq_R (mm_O xs) d mc_X12_parts 14 [some (.ref 174), some (.int a1), some (.int a2), o3, o4] [] s g (some (.int y.1)) y.2) (e29 : ∀ (a1 : Int32) (a2 : Int32) (a3 : Int32) (a4 : Int32) (s : hq_S), q29 a1 a2 a3 a4 s = some y → hq_R (mm_O xs) d mc_X12_parts 29 [some (.ref 174), some (.int a1), some (.int a2), some (.int a3), some (.int a4)] [] s g (some (.int y.1)) y.2) (h : f_X12_parts_L29_B n q14 q29 a1 a2 a3 a4 s = some y) : hq_R (mm_O xs) d mc_X12_parts 29 [some (.ref 174), some (.int a1), some (.int a2), some (.int a3), some (.int a4)] [] s g (some (.int y.1)) y.2 := by
  unfold f_X12_parts_L29_B at h
  refine hq_p 2 32 [some (.ref 174), some (.int a1), some (.int a2), some (.int a3), some (.int a4)] [.int a2, .int a4] (fun n h => rfl) ?_
  by_cases c5 : a4 < a2
  · rw [if_pos c5] at h
    refine hq_icF rfl (hq_c_ge_F c5) ?_
    refine hq_p 3 38 [some (.ref 174), some (.int a1), some (.int a2), some (.int a3), some (.int a4)] [.int a2, .ref 174, .int a3] (fun n h => rfl) ?_
    obtain ⟨y8, hy8, h⟩ := hq_bind h
    refine hq_inv rfl rfl (Nat.le_trans (by decide) hd) rfl rfl (hq_rcv rfl rfl) (f_X12_reachOf_run (Nat.le_sub_of_add_le (Nat.le_trans (by decide) hd)) hy8) rfl ?_
    refine hq_p 4 47 [some (.ref 174), some (.int a1), some (.int a2), some (.int a3), some (.int a4)] [.int a4, .ref 174, .int (y8.1 >>> (a4 &&& 31)), .int a3] (fun n h => rfl) ?_
    obtain ⟨y9, hy9, h⟩ := hq_bind h
    refine hq_inv rfl rfl (Nat.le_trans (by decide) hd) rfl rfl (hq_rcv rfl rfl) (f_X12_reachOf_run (Nat.le_sub_of_add_le (Nat.le_trans (by decide) hd)) hy9) rfl ?_
    refine hq_p 5 55 [some (.ref 174), some (.int a1), some (.int a2), some (.int a3), some (.int a4)] [.int (((y8.1 >>> (a4 &&& 31)) &&& (y9.1 >>> (a2 &&& 31))) &&& (1 : Int32)), .int a3] (fun n h => rfl) ?_
    obtain ⟨z10, hz10, h⟩ := hq_bind h
    suffices hT : hq_R (mm_O xs) d mc_X12_parts 63 [some (.ref 174), some (.int a1), some (.int a2), some (.int a3), some (.int a4)] [.int z10, .int a3] y9.2 g (some (.int y.1)) y.2 from by
      clear h
      have h := hz10
      by_cases c11 : (((y8.1 >>> (a4 &&& 31)) &&& (y9.1 >>> (a2 &&& 31))) &&& (1 : Int32)) = 0
      · rw [if_pos c11] at h
        refine hq_izF rfl (hq_c_ne_F c11) ?_
        refine hq_p 2 63 [some (.ref 174), some (.int a1), some (.int a2), some (.int a3), some (.int a4)] [.int (1 : Int32), .int a3] (fun n h => rfl) ?_
        cases h
        exact hT
      · rw [if_neg c11] at h
        refine hq_izT rfl (hq_c_ne_T c11) ?_
        refine hq_p 1 63 [some (.ref 174), some (.int a1), some (.int a2), some (.int a3), some (.int a4)] [.int (0 : Int32), .int a3] (fun n h => rfl) ?_
        cases h
        exact hT
    refine hq_p 4 29 [some (.ref 174), some (.int a1), some (.int a2), some (.int (a3 &&& z10)), some (.int (a4 + (1 : Int32)))] [] (fun n h => rfl) ?_
    exact e29 a1 a2 (a3 &&& z10) (a4 + (1 : Int32)) y9.2 h
  · rw [if_neg c5] at h
    refine hq_icT rfl (hq_c_ge_T c5) ?_
    refine hq_p 2 73 [some (.ref 174), some (.int a1), some (.int a2), some (.int a3), some (.int a4)] [.int a3, .int a1] (fun n h => rfl) ?_
    obtain ⟨z6, hz6, h⟩ := hq_bind h
    suffices hT : hq_R (mm_O xs) d mc_X12_parts 81 [some (.ref 174), some (.int a1), some (.int a2), some (.int a3), some (.int a4)] [.int z6, .int a1] s g (some (.int y.1)) y.2 from by
      clear h
      have h := hz6
      by_cases c7 : a3 = 0
      · rw [if_pos c7] at h
        refine hq_izT rfl (hq_c_eq_T c7) ?_
        refine hq_p 1 81 [some (.ref 174), some (.int a1), some (.int a2), some (.int a3), some (.int a4)] [.int (0 : Int32), .int a1] (fun n h => rfl) ?_
        cases h
        exact hT
      · rw [if_neg c7] at h
        refine hq_izF rfl (hq_c_eq_F c7) ?_
        refine hq_p 2 81 [some (.ref 174), some (.int a1), some (.int a2), some (.int a3), some (.int a4)] [.int (1 : Int32), .int a1] (fun n h => rfl) ?_
        cases h
        exact hT
    refine hq_p 4 14 [some (.ref 174), some (.int (a1 + z6)), some (.int (a2 + (1 : Int32))), some (.int a3), some (.int a4)] [] (fun n h => rfl) ?_
    exact e14 (a1 + z6) (a2 + (1 : Int32)) _ _ s h
theorem f_X12_parts_L29_run {xs : List Int32} {n m d g : Nat} {a1 : Int32} {a2 : Int32} {a3 : Int32} {a4 : Int32} {q14 : Int32 → Int32 → hq_S → Option (Int32 × hq_S)} {s : hq_S} {y : (Int32 × hq_S)} (hd : 2 ≤ d) (e14 : ∀ (a1 : Int32) (a2 : Int32) (o3 : Option Value) (o4 : Option Value) (s : hq_S), q14 a1 a2 s = some y → hq_R (mm_O xs) d mc_X12_parts 14 [some (.ref 174), some (.int a1), some (.int a2), o3, o4] [] s g (some (.int y.1)) y.2) (h : f_X12_parts_L29 n q14 m a1 a2 a3 a4 s = some y) : hq_R (mm_O xs) d mc_X12_parts 29 [some (.ref 174), some (.int a1), some (.int a2), some (.int a3), some (.int a4)] [] s g (some (.int y.1)) y.2 := by
  induction m generalizing a1 a2 a3 a4 s with
  | zero => cases h
  | succ m ih => exact f_X12_parts_L29_Brun (n := n) hd e14 (fun a1 a2 a3 a4 s h => ih h) h
def f_X12_parts_L14_B (n : Nat) (q14 : Int32 → Int32 → hq_S → Option (Int32 × hq_S)) (a1 : Int32) (a2 : Int32) (s : hq_S) : Option (Int32 × hq_S) := (hq_ld s 176 14 (0 : Int32)).bind fun x3 => if a2 < x3 then f_X12_parts_L29 n q14 n a1 a2 (1 : Int32) (0 : Int32) s else some (a1, s)
def f_X12_parts_L14 (n : Nat) (m : Nat) : Int32 → Int32 → hq_S → Option (Int32 × hq_S) := Nat.rec (fun _ _ _ => none) (fun _ q => f_X12_parts_L14_B n q) m
theorem f_X12_parts_L14_Brun {xs : List Int32} {n d g : Nat} {a1 : Int32} {a2 : Int32} {o3 : Option Value} {o4 : Option Value} {q14 : Int32 → Int32 → hq_S → Option (Int32 × hq_S)} {s : hq_S} {y : (Int32 × hq_S)} (hd : 2 ≤ d) (e14 : ∀ (a1 : Int32) (a2 : Int32) (o3 : Option Value) (o4 : Option Value) (s : hq_S), q14 a1 a2 s = some y → hq_R (mm_O xs) d mc_X12_parts 14 [some (.ref 174), some (.int a1), some (.int a2), o3, o4] [] s g (some (.int y.1)) y.2) (h : f_X12_parts_L14_B n q14 a1 a2 s = some y) : hq_R (mm_O xs) d mc_X12_parts 14 [some (.ref 174), some (.int a1), some (.int a2), o3, o4] [] s g (some (.int y.1)) y.2 := by
  unfold f_X12_parts_L14_B at h
  refine hq_p 2 16 [some (.ref 174), some (.int a1), some (.int a2), o3, o4] [.ref 174, .int a2] (fun n h => rfl) ?_
  refine hq_gf (x := .ref 176) rfl rfl rfl rfl rfl ?_
  refine hq_p 1 20 [some (.ref 174), some (.int a1), some (.int a2), o3, o4] [.int (0 : Int32), .ref 176, .int a2] (fun n h => rfl) ?_
  obtain ⟨x3, hx3, h⟩ := hq_bind h
  refine hq_iaload rfl rfl rfl hx3 ?_
  by_cases c4 : a2 < x3
  · rw [if_pos c4] at h
    refine hq_icF rfl (hq_c_ge_F c4) ?_
    refine hq_p 4 29 [some (.ref 174), some (.int a1), some (.int a2), some (.int (1 : Int32)), some (.int (0 : Int32))] [] (fun n h => rfl) ?_
    exact f_X12_parts_L29_run hd e14 h
  · rw [if_neg c4] at h
    refine hq_icT rfl (hq_c_ge_T c4) ?_
    refine hq_p 1 90 [some (.ref 174), some (.int a1), some (.int a2), o3, o4] [.int a1] (fun n h => rfl) ?_
    have h := Option.some.inj h
    subst h
    exact ⟨1, rfl⟩
theorem f_X12_parts_L14_run {xs : List Int32} {n m d g : Nat} {a1 : Int32} {a2 : Int32} {o3 : Option Value} {o4 : Option Value} {s : hq_S} {y : (Int32 × hq_S)} (hd : 2 ≤ d) (h : f_X12_parts_L14 n m a1 a2 s = some y) : hq_R (mm_O xs) d mc_X12_parts 14 [some (.ref 174), some (.int a1), some (.int a2), o3, o4] [] s g (some (.int y.1)) y.2 := by
  induction m generalizing a1 a2 o3 o4 s with
  | zero => cases h
  | succ m ih => exact f_X12_parts_L14_Brun (n := n) hd (fun a1 a2 o3 o4 s h => ih h) h
def f_X12_parts (n : Nat) (s : hq_S) : Option (Int32 × hq_S) := (hq_pi s 174 0 0 (0 : Int32)).bind fun s1 => (f_X12_lays n (0 : Int32) s1).bind fun s2 => f_X12_parts_L14 n n (0 : Int32) (0 : Int32) s2
theorem f_X12_parts_run {xs : List Int32} {n d g : Nat} {s : hq_S} {y : (Int32 × hq_S)} (hd : 2 ≤ d) (h : f_X12_parts n s = some y) : hq_R (mm_O xs) d mc_X12_parts 0 [some (.ref 174), none, none, none, none] [] s g (some (.int y.1)) y.2 := by
  unfold f_X12_parts at h
  refine hq_p 2 2 [some (.ref 174), none, none, none, none] [.int (0 : Int32), .ref 174] (fun n h => rfl) ?_
  obtain ⟨s1, hs1, h⟩ := hq_bind h
  refine hq_pfi rfl rfl rfl rfl rfl hs1 ?_
  refine hq_p 2 7 [some (.ref 174), none, none, none, none] [.int (0 : Int32), .ref 174] (fun n h => rfl) ?_
  obtain ⟨s2, hs2, h⟩ := hq_bind h
  refine hq_inv rfl rfl (Nat.le_trans (by decide) hd) rfl rfl (hq_rcv rfl rfl) (f_X12_lays_run (Nat.le_sub_of_add_le (Nat.le_trans (by decide) hd)) hs2) rfl ?_
  refine hq_p 4 14 [some (.ref 174), some (.int (0 : Int32)), some (.int (0 : Int32)), none, none] [] (fun n h => rfl) ?_
  exact f_X12_parts_L14_run hd h
