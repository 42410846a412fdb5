def f_X12_line_J16 (n : Nat) (s : hq_S) : Option hq_S := (f_X12_wrong n (1 : Int32) s).bind fun s2 => some s2
theorem f_X12_line_J16_run {xs : List Int32} {n d g : Nat} {s : hq_S} {y : hq_S} (hd : 211 ≤ d) (h : f_X12_line_J16 n s = some y) : hq_R (mm_O xs) d mc_X12_line 16 [some (.ref 174), none, none, none, none] [] s g none y := by
  unfold f_X12_line_J16 at h
  refine hq_p 2 18 [some (.ref 174), none, none, none, none] [.int (1 : Int32), .ref 174] (fun n h => rfl) ?_
  obtain ⟨s2, hs2, h⟩ := hq_bind h
  refine hq_inv rfl rfl (Nat.le_trans (by decide) hd) rfl rfl (hq_rcv rfl rfl) (f_X12_wrong_run (Nat.le_sub_of_add_le (Nat.le_trans (by decide) hd)) hs2) rfl ?_
  cases h
  exact ⟨1, rfl⟩
def f_X12_line_J404 (n : Nat) (a1 : Int32) (s : hq_S) : Option hq_S := if (hq_gi s 174 28) = 0 then (f_X12_isSign n (59 : Int32) s).bind fun y29 => (if y29.1 = 0 then (f_X12_wrong n (1 : Int32) y29.2).bind fun s33 => some s33 else (f_X12_token n y29.2).bind fun s32 => some s32).bind fun z30 => (hq_pi z30 174 22 0 ((hq_gi z30 174 22) + (1 : Int32))).bind fun s34 => some s34 else some s
theorem f_X12_line_J404_run {xs : List Int32} {n d g : Nat} {a1 : Int32} {o2 : Option Value} {o3 : Option Value} {o4 : Option Value} {s : hq_S} {y : hq_S} (hd : 211 ≤ d) (h : f_X12_line_J404 n a1 s = some y) : hq_R (mm_O xs) d mc_X12_line 404 [some (.ref 174), some (.int a1), o2, o3, o4] [] s g none y := by
  unfold f_X12_line_J404 at h
  refine hq_p 1 405 [some (.ref 174), some (.int a1), o2, o3, o4] [.ref 174] (fun n h => rfl) ?_
  refine hq_gf (x := .int (hq_gi s 174 28)) rfl rfl rfl rfl rfl ?_
  by_cases c28 : (hq_gi s 174 28) = 0
  · rw [if_pos c28] at h
    refine hq_izT rfl (hq_c_eq_T c28) ?_
    refine hq_p 2 415 [some (.ref 174), some (.int a1), o2, o3, o4] [.int (59 : Int32), .ref 174] (fun n h => rfl) ?_
    obtain ⟨y29, hy29, h⟩ := hq_bind h
    refine hq_inv rfl rfl (Nat.le_trans (by decide) hd) rfl rfl (hq_rcv rfl rfl) (f_X12_isSign_run (Nat.le_sub_of_add_le (Nat.le_trans (by decide) hd)) hy29) rfl ?_
    obtain ⟨z30, hz30, h⟩ := hq_bind h
    suffices hT : hq_R (mm_O xs) d mc_X12_line 433 [some (.ref 174), some (.int a1), o2, o3, o4] [] z30 g none y from by
      clear h
      have h := hz30
      by_cases c31 : y29.1 = 0
      · rw [if_pos c31] at h
        refine hq_izF rfl (hq_c_ne_F c31) ?_
        refine hq_p 2 423 [some (.ref 174), some (.int a1), o2, o3, o4] [.int (1 : Int32), .ref 174] (fun n h => rfl) ?_
        obtain ⟨s33, hs33, h⟩ := hq_bind h
        refine hq_inv rfl rfl (Nat.le_trans (by decide) hd) rfl rfl (hq_rcv rfl rfl) (f_X12_wrong_run (Nat.le_sub_of_add_le (Nat.le_trans (by decide) hd)) hs33) rfl ?_
        refine hq_p 1 433 [some (.ref 174), some (.int a1), o2, o3, o4] [] (fun n h => rfl) ?_
        cases h
        exact hT
      · rw [if_neg c31] at h
        refine hq_izT rfl (hq_c_ne_T c31) ?_
        refine hq_p 1 430 [some (.ref 174), some (.int a1), o2, o3, o4] [.ref 174] (fun n h => rfl) ?_
        obtain ⟨s32, hs32, h⟩ := hq_bind h
        refine hq_inv rfl rfl (Nat.le_trans (by decide) hd) rfl rfl (hq_rcv rfl rfl) (f_X12_token_run (Nat.le_sub_of_add_le (Nat.le_trans (by decide) hd)) hs32) rfl ?_
        cases h
        exact hT
    refine hq_p 2 435 [some (.ref 174), some (.int a1), o2, o3, o4] [.ref 174, .ref 174] (fun n h => rfl) ?_
    refine hq_gf (x := .int (hq_gi z30 174 22)) rfl rfl rfl rfl rfl ?_
    refine hq_p 2 440 [some (.ref 174), some (.int a1), o2, o3, o4] [.int ((hq_gi z30 174 22) + (1 : Int32)), .ref 174] (fun n h => rfl) ?_
    obtain ⟨s34, hs34, h⟩ := hq_bind h
    refine hq_pfi rfl rfl rfl rfl rfl hs34 ?_
    cases h
    exact ⟨1, rfl⟩
  · rw [if_neg c28] at h
    refine hq_izF rfl (hq_c_eq_F c28) ?_
    cases h
    exact ⟨1, rfl⟩
def f_X12_line (n : Nat) (s : hq_S) : Option hq_S := if (hq_gi s 174 26) = 0 then if (8 : Int32) < (hq_gi s 174 27) then f_X12_line_J16 n s else (f_X12_isFull n (hq_gi s 174 27) s).bind fun y4 => (if y4.1 = 0 then if (hq_gi s 174 27) = (6 : Int32) then if (((hq_gi y4.2 174 21) >>> ((hq_gi s 174 27) &&& 31)) &&& (1 : Int32)) = (1 : Int32) then (f_X12_wrong n (3 : Int32) y4.2).bind fun s9 => some s9 else some y4.2 else if (hq_gi s 174 27) = (7 : Int32) then if (((hq_gi y4.2 174 21) >>> ((hq_gi s 174 27) &&& 31)) &&& (1 : Int32)) = (1 : Int32) then (f_X12_wrong n (3 : Int32) y4.2).bind fun s12 => some s12 else some y4.2 else some y4.2 else (f_X12_wrong n (2 : Int32) y4.2).bind fun s13 => some s13).bind fun z5 => if (hq_gi z5 174 28) = 0 then (hq_pi z5 174 21 0 ((hq_gi z5 174 21) ||| ((1 : Int32) <<< ((hq_gi s 174 27) &&& 31)))).bind fun s15 => (f_X12_token n s15).bind fun s16 => if (hq_gi s 174 27) = (0 : Int32) then (f_X12_fresher n (0 : Int32) s16).bind fun y18 => (f_X12_fresher n (0 : Int32) y18.2).bind fun y19 => (f_X12_fresh n 177 (10 : Int32) y19.1 y19.2).bind fun y20 => (hq_st y20.2 177 20 ((10 : Int32) + y18.1) y20.1).bind fun s21 => (f_X12_numeral n (0 : Int32) (9 : Int32) s21).bind fun y22 => (hq_st y22.2 178 20 ((10 : Int32) + y18.1) y22.1).bind fun s23 => (f_X12_numeral n (0 : Int32) (999 : Int32) s23).bind fun y24 => (hq_st y24.2 179 20 ((10 : Int32) + y18.1) y24.1).bind fun s25 => (f_X12_fresher n (0 : Int32) s25).bind fun y26 => (f_X12_reads n (0 : Int32) (y26.1 + (1 : Int32)) y26.2).bind fun s27 => f_X12_line_J404 n (hq_gi s 174 27) s27 else if (hq_gi s 174 27) = (1 : Int32) then (if (hq_gi s 174 27) = (2 : Int32) then some (1 : Int32) else some (0 : Int32)).bind fun z36 => (f_X12_laneLine n z36 s16).bind fun s38 => f_X12_line_J404 n (hq_gi s 174 27) s38 else if (hq_gi s 174 27) = (2 : Int32) then (if (hq_gi s 174 27) = (2 : Int32) then some (1 : Int32) else some (0 : Int32)).bind fun z40 => (f_X12_laneLine n z40 s16).bind fun s42 => f_X12_line_J404 n (hq_gi s 174 27) s42 else if (hq_gi s 174 27) = (3 : Int32) then (f_X12_fresher n (2 : Int32) s16).bind fun y44 => (f_X12_fresher n (2 : Int32) y44.2).bind fun y45 => (f_X12_fresh n 183 (3 : Int32) y45.1 y45.2).bind fun y46 => (hq_st y46.2 183 6 ((3 : Int32) + y44.1) y46.1).bind fun s47 => (f_X12_cornerAhead n s47).bind fun y48 => (hq_st y48.2 184 6 ((3 : Int32) + y44.1) y48.1).bind fun s49 => (hq_st s49 185 6 ((3 : Int32) + y44.1) (0 : Int32)).bind fun s50 => (f_X12_fresher n (2 : Int32) s50).bind fun y51 => (f_X12_reads n (2 : Int32) (y51.1 + (1 : Int32)) y51.2).bind fun s52 => f_X12_line_J404 n (hq_gi s 174 27) s52 else if (hq_gi s 174 27) = (4 : Int32) then (f_X12_beatLine n s16).bind fun s54 => f_X12_line_J404 n (hq_gi s 174 27) s54 else if (hq_gi s 174 27) = (5 : Int32) then (f_X12_fresher n (3 : Int32) s16).bind fun y56 => (f_X12_fresher n (3 : Int32) y56.2).bind fun y57 => (f_X12_fresh n 187 (4 : Int32) y57.1 y57.2).bind fun y58 => (hq_st y58.2 187 8 ((4 : Int32) + y56.1) y58.1).bind fun s59 => (f_X12_cornerAhead n s59).bind fun y60 => (hq_st y60.2 188 8 ((4 : Int32) + y56.1) y60.1).bind fun s61 => (f_X12_numeral n (0 : Int32) (9 : Int32) s61).bind fun y62 => (hq_st y62.2 189 8 ((4 : Int32) + y56.1) y62.1).bind fun s63 => (f_X12_fresher n (3 : Int32) s63).bind fun y64 => (f_X12_reads n (3 : Int32) (y64.1 + (1 : Int32)) y64.2).bind fun s65 => f_X12_line_J404 n (hq_gi s 174 27) s65 else if (hq_gi s 174 27) = (6 : Int32) then (f_X12_numeral n (0 : Int32) (100 : Int32) s16).bind fun y67 => (f_X12_reads n (4 : Int32) y67.1 y67.2).bind fun s68 => f_X12_line_J404 n (hq_gi s 174 27) s68 else if (hq_gi s 174 27) = (7 : Int32) then (f_X12_numeral n (0 : Int32) (99999 : Int32) s16).bind fun y70 => (f_X12_reads n (5 : Int32) y70.1 y70.2).bind fun s71 => f_X12_line_J404 n (hq_gi s 174 27) s71 else (f_X12_lawLine n s16).bind fun s72 => f_X12_line_J404 n (hq_gi s 174 27) s72 else some z5 else f_X12_line_J16 n s
theorem f_X12_line_run {xs : List Int32} {n d g : Nat} {s : hq_S} {y : hq_S} (hd : 211 ≤ d) (h : f_X12_line n s = some y) : hq_R (mm_O xs) d mc_X12_line 0 [some (.ref 174), none, none, none, none] [] s g none y := by
  unfold f_X12_line at h
  refine hq_p 1 1 [some (.ref 174), none, none, none, none] [.ref 174] (fun n h => rfl) ?_
  refine hq_gf (x := .int (hq_gi s 174 26)) rfl rfl rfl rfl rfl ?_
  by_cases c1 : (hq_gi s 174 26) = 0
  · rw [if_pos c1] at h
    refine hq_izF rfl (hq_c_ne_F c1) ?_
    refine hq_p 1 8 [some (.ref 174), none, none, none, none] [.ref 174] (fun n h => rfl) ?_
    refine hq_gf (x := .int (hq_gi s 174 27)) rfl rfl rfl rfl rfl ?_
    refine hq_p 1 13 [some (.ref 174), none, none, none, none] [.int (8 : Int32), .int (hq_gi s 174 27)] (fun n h => rfl) ?_
    by_cases c3 : (8 : Int32) < (hq_gi s 174 27)
    · rw [if_pos c3] at h
      refine hq_icF rfl (hq_c_le_F c3) ?_
      exact f_X12_line_J16_run hd h
    · rw [if_neg c3] at h
      refine hq_icT rfl (hq_c_le_T c3) ?_
      refine hq_p 1 23 [some (.ref 174), none, none, none, none] [.ref 174] (fun n h => rfl) ?_
      refine hq_gf (x := .int (hq_gi s 174 27)) rfl rfl rfl rfl rfl ?_
      refine hq_p 3 29 [some (.ref 174), some (.int (hq_gi s 174 27)), none, none, none] [.int (hq_gi s 174 27), .ref 174] (fun n h => rfl) ?_
      obtain ⟨y4, hy4, h⟩ := hq_bind h
      refine hq_inv rfl rfl (Nat.le_trans (by decide) hd) rfl rfl (hq_rcv rfl rfl) (f_X12_isFull_run (Nat.le_sub_of_add_le (Nat.le_trans (by decide) hd)) hy4) rfl ?_
      obtain ⟨z5, hz5, h⟩ := hq_bind h
      suffices hT : hq_R (mm_O xs) d mc_X12_line 72 [some (.ref 174), some (.int (hq_gi s 174 27)), none, none, none] [] z5 g none y from by
        clear h
        have h := hz5
        by_cases c6 : y4.1 = 0
        · rw [if_pos c6] at h
          refine hq_izT rfl (hq_c_eq_T c6) ?_
          refine hq_p 2 46 [some (.ref 174), some (.int (hq_gi s 174 27)), none, none, none] [.int (6 : Int32), .int (hq_gi s 174 27)] (fun n h => rfl) ?_
          by_cases c7 : (hq_gi s 174 27) = (6 : Int32)
          · rw [if_pos c7] at h
            refine hq_icT rfl (hq_c_eq_T c7) ?_
            refine hq_p 1 56 [some (.ref 174), some (.int (hq_gi s 174 27)), none, none, none] [.ref 174] (fun n h => rfl) ?_
            refine hq_gf (x := .int (hq_gi y4.2 174 21)) rfl rfl rfl rfl rfl ?_
            refine hq_p 5 64 [some (.ref 174), some (.int (hq_gi s 174 27)), none, none, none] [.int (1 : Int32), .int (((hq_gi y4.2 174 21) >>> ((hq_gi s 174 27) &&& 31)) &&& (1 : Int32))] (fun n h => rfl) ?_
            by_cases c8 : (((hq_gi y4.2 174 21) >>> ((hq_gi s 174 27) &&& 31)) &&& (1 : Int32)) = (1 : Int32)
            · rw [if_pos c8] at h
              refine hq_icF rfl (hq_c_ne_F c8) ?_
              refine hq_p 2 69 [some (.ref 174), some (.int (hq_gi s 174 27)), none, none, none] [.int (3 : Int32), .ref 174] (fun n h => rfl) ?_
              obtain ⟨s9, hs9, h⟩ := hq_bind h
              refine hq_inv rfl rfl (Nat.le_trans (by decide) hd) rfl rfl (hq_rcv rfl rfl) (f_X12_wrong_run (Nat.le_sub_of_add_le (Nat.le_trans (by decide) hd)) hs9) rfl ?_
              cases h
              exact hT
            · rw [if_neg c8] at h
              refine hq_icT rfl (hq_c_ne_T c8) ?_
              cases h
              exact hT
          · rw [if_neg c7] at h
            refine hq_icF rfl (hq_c_eq_F c7) ?_
            refine hq_p 2 52 [some (.ref 174), some (.int (hq_gi s 174 27)), none, none, none] [.int (7 : Int32), .int (hq_gi s 174 27)] (fun n h => rfl) ?_
            by_cases c10 : (hq_gi s 174 27) = (7 : Int32)
            · rw [if_pos c10] at h
              refine hq_icF rfl (hq_c_ne_F c10) ?_
              refine hq_p 1 56 [some (.ref 174), some (.int (hq_gi s 174 27)), none, none, none] [.ref 174] (fun n h => rfl) ?_
              refine hq_gf (x := .int (hq_gi y4.2 174 21)) rfl rfl rfl rfl rfl ?_
              refine hq_p 5 64 [some (.ref 174), some (.int (hq_gi s 174 27)), none, none, none] [.int (1 : Int32), .int (((hq_gi y4.2 174 21) >>> ((hq_gi s 174 27) &&& 31)) &&& (1 : Int32))] (fun n h => rfl) ?_
              by_cases c11 : (((hq_gi y4.2 174 21) >>> ((hq_gi s 174 27) &&& 31)) &&& (1 : Int32)) = (1 : Int32)
              · rw [if_pos c11] at h
                refine hq_icF rfl (hq_c_ne_F c11) ?_
                refine hq_p 2 69 [some (.ref 174), some (.int (hq_gi s 174 27)), none, none, none] [.int (3 : Int32), .ref 174] (fun n h => rfl) ?_
                obtain ⟨s12, hs12, h⟩ := hq_bind h
                refine hq_inv rfl rfl (Nat.le_trans (by decide) hd) rfl rfl (hq_rcv rfl rfl) (f_X12_wrong_run (Nat.le_sub_of_add_le (Nat.le_trans (by decide) hd)) hs12) rfl ?_
                cases h
                exact hT
              · rw [if_neg c11] at h
                refine hq_icT rfl (hq_c_ne_T c11) ?_
                cases h
                exact hT
            · rw [if_neg c10] at h
              refine hq_icT rfl (hq_c_ne_T c10) ?_
              cases h
              exact hT
        · rw [if_neg c6] at h
          refine hq_izF rfl (hq_c_eq_F c6) ?_
          refine hq_p 2 37 [some (.ref 174), some (.int (hq_gi s 174 27)), none, none, none] [.int (2 : Int32), .ref 174] (fun n h => rfl) ?_
          obtain ⟨s13, hs13, h⟩ := hq_bind h
          refine hq_inv rfl rfl (Nat.le_trans (by decide) hd) rfl rfl (hq_rcv rfl rfl) (f_X12_wrong_run (Nat.le_sub_of_add_le (Nat.le_trans (by decide) hd)) hs13) rfl ?_
          refine hq_p 1 72 [some (.ref 174), some (.int (hq_gi s 174 27)), none, none, none] [] (fun n h => rfl) ?_
          cases h
          exact hT
      refine hq_p 1 73 [some (.ref 174), some (.int (hq_gi s 174 27)), none, none, none] [.ref 174] (fun n h => rfl) ?_
      refine hq_gf (x := .int (hq_gi z5 174 28)) rfl rfl rfl rfl rfl ?_
      by_cases c14 : (hq_gi z5 174 28) = 0
      · rw [if_pos c14] at h
        refine hq_izT rfl (hq_c_eq_T c14) ?_
        refine hq_p 2 82 [some (.ref 174), some (.int (hq_gi s 174 27)), none, none, none] [.ref 174, .ref 174] (fun n h => rfl) ?_
        refine hq_gf (x := .int (hq_gi z5 174 21)) rfl rfl rfl rfl rfl ?_
        refine hq_p 4 89 [some (.ref 174), some (.int (hq_gi s 174 27)), none, none, none] [.int ((hq_gi z5 174 21) ||| ((1 : Int32) <<< ((hq_gi s 174 27) &&& 31))), .ref 174] (fun n h => rfl) ?_
        obtain ⟨s15, hs15, h⟩ := hq_bind h
        refine hq_pfi rfl rfl rfl rfl rfl hs15 ?_
        refine hq_p 1 93 [some (.ref 174), some (.int (hq_gi s 174 27)), none, none, none] [.ref 174] (fun n h => rfl) ?_
        obtain ⟨s16, hs16, h⟩ := hq_bind h
        refine hq_inv rfl rfl (Nat.le_trans (by decide) hd) rfl rfl (hq_rcv rfl rfl) (f_X12_token_run (Nat.le_sub_of_add_le (Nat.le_trans (by decide) hd)) hs16) rfl ?_
        refine hq_p 1 97 [some (.ref 174), some (.int (hq_gi s 174 27)), none, none, none] [.int (hq_gi s 174 27)] (fun n h => rfl) ?_
        by_cases c17 : (hq_gi s 174 27) = (0 : Int32)
        · rw [if_pos c17] at h
          refine hq_tsw rfl (show _ = some 144 from by rw [c17]; decide) ?_
          refine hq_p 3 148 [some (.ref 174), some (.int (hq_gi s 174 27)), none, none, none] [.int (0 : Int32), .ref 174, .int (10 : Int32)] (fun n h => rfl) ?_
          obtain ⟨y18, hy18, h⟩ := hq_bind h
          refine hq_inv rfl rfl (Nat.le_trans (by decide) hd) rfl rfl (hq_rcv rfl rfl) (f_X12_fresher_run (Nat.le_sub_of_add_le (Nat.le_trans (by decide) hd)) hy18) rfl ?_
          refine hq_p 3 154 [some (.ref 174), some (.int (hq_gi s 174 27)), some (.int ((10 : Int32) + y18.1)), none, none] [.ref 174] (fun n h => rfl) ?_
          refine hq_gf (x := .ref 177) rfl rfl rfl rfl rfl ?_
          refine hq_p 3 160 [some (.ref 174), some (.int (hq_gi s 174 27)), some (.int ((10 : Int32) + y18.1)), none, none] [.ref 174, .ref 174, .int ((10 : Int32) + y18.1), .ref 177] (fun n h => rfl) ?_
          refine hq_gf (x := .ref 177) rfl rfl rfl rfl rfl ?_
          refine hq_p 3 167 [some (.ref 174), some (.int (hq_gi s 174 27)), some (.int ((10 : Int32) + y18.1)), none, none] [.int (0 : Int32), .ref 174, .int (10 : Int32), .ref 177, .ref 174, .int ((10 : Int32) + y18.1), .ref 177] (fun n h => rfl) ?_
          obtain ⟨y19, hy19, h⟩ := hq_bind h
          refine hq_inv rfl rfl (Nat.le_trans (by decide) hd) rfl rfl (hq_rcv rfl rfl) (f_X12_fresher_run (Nat.le_sub_of_add_le (Nat.le_trans (by decide) hd)) hy19) rfl ?_
          obtain ⟨y20, hy20, h⟩ := hq_bind h
          refine hq_inv rfl rfl (Nat.le_trans (by decide) hd) rfl rfl (hq_rcv rfl rfl) (f_X12_fresh_run (Nat.le_sub_of_add_le (Nat.le_trans (by decide) hd)) hy20) rfl ?_
          obtain ⟨s21, hs21, h⟩ := hq_bind h
          refine hq_iastore rfl rfl rfl hs21 ?_
          refine hq_p 1 175 [some (.ref 174), some (.int (hq_gi s 174 27)), some (.int ((10 : Int32) + y18.1)), none, none] [.ref 174] (fun n h => rfl) ?_
          refine hq_gf (x := .ref 178) rfl rfl rfl rfl rfl ?_
          refine hq_p 4 183 [some (.ref 174), some (.int (hq_gi s 174 27)), some (.int ((10 : Int32) + y18.1)), none, none] [.int (9 : Int32), .int (0 : Int32), .ref 174, .int ((10 : Int32) + y18.1), .ref 178] (fun n h => rfl) ?_
          obtain ⟨y22, hy22, h⟩ := hq_bind h
          refine hq_inv rfl rfl (Nat.le_trans (by decide) hd) rfl rfl (hq_rcv rfl rfl) (f_X12_numeral_run (Nat.le_sub_of_add_le (Nat.le_trans (by decide) hd)) hy22) rfl ?_
          obtain ⟨s23, hs23, h⟩ := hq_bind h
          refine hq_iastore rfl rfl rfl hs23 ?_
          refine hq_p 1 188 [some (.ref 174), some (.int (hq_gi s 174 27)), some (.int ((10 : Int32) + y18.1)), none, none] [.ref 174] (fun n h => rfl) ?_
          refine hq_gf (x := .ref 179) rfl rfl rfl rfl rfl ?_
          refine hq_p 4 197 [some (.ref 174), some (.int (hq_gi s 174 27)), some (.int ((10 : Int32) + y18.1)), none, none] [.int (999 : Int32), .int (0 : Int32), .ref 174, .int ((10 : Int32) + y18.1), .ref 179] (fun n h => rfl) ?_
          obtain ⟨y24, hy24, h⟩ := hq_bind h
          refine hq_inv rfl rfl (Nat.le_trans (by decide) hd) rfl rfl (hq_rcv rfl rfl) (f_X12_numeral_run (Nat.le_sub_of_add_le (Nat.le_trans (by decide) hd)) hy24) rfl ?_
          obtain ⟨s25, hs25, h⟩ := hq_bind h
          refine hq_iastore rfl rfl rfl hs25 ?_
          refine hq_p 4 205 [some (.ref 174), some (.int (hq_gi s 174 27)), some (.int ((10 : Int32) + y18.1)), none, none] [.int (0 : Int32), .ref 174, .int (0 : Int32), .ref 174] (fun n h => rfl) ?_
          obtain ⟨y26, hy26, h⟩ := hq_bind h
          refine hq_inv rfl rfl (Nat.le_trans (by decide) hd) rfl rfl (hq_rcv rfl rfl) (f_X12_fresher_run (Nat.le_sub_of_add_le (Nat.le_trans (by decide) hd)) hy26) rfl ?_
          refine hq_p 2 210 [some (.ref 174), some (.int (hq_gi s 174 27)), some (.int ((10 : Int32) + y18.1)), none, none] [.int (y26.1 + (1 : Int32)), .int (0 : Int32), .ref 174] (fun n h => rfl) ?_
          obtain ⟨s27, hs27, h⟩ := hq_bind h
          refine hq_inv rfl rfl (Nat.le_trans (by decide) hd) rfl rfl (hq_rcv rfl rfl) (f_X12_reads_run (Nat.le_sub_of_add_le (Nat.le_trans (by decide) hd)) hs27) rfl ?_
          refine hq_p 1 404 [some (.ref 174), some (.int (hq_gi s 174 27)), some (.int ((10 : Int32) + y18.1)), none, none] [] (fun n h => rfl) ?_
          exact f_X12_line_J404_run hd h
        rw [if_neg c17] at h
        by_cases c35 : (hq_gi s 174 27) = (1 : Int32)
        · rw [if_pos c35] at h
          refine hq_tsw rfl (show _ = some 216 from by rw [c35]; decide) ?_
          refine hq_p 3 219 [some (.ref 174), some (.int (hq_gi s 174 27)), none, none, none] [.int (2 : Int32), .int (hq_gi s 174 27), .ref 174] (fun n h => rfl) ?_
          obtain ⟨z36, hz36, h⟩ := hq_bind h
          suffices hT : hq_R (mm_O xs) d mc_X12_line 227 [some (.ref 174), some (.int (hq_gi s 174 27)), none, none, none] [.int z36, .ref 174] s16 g none y from by
            clear h
            have h := hz36
            by_cases c37 : (hq_gi s 174 27) = (2 : Int32)
            · rw [if_pos c37] at h
              refine hq_icF rfl (hq_c_ne_F c37) ?_
              refine hq_p 2 227 [some (.ref 174), some (.int (hq_gi s 174 27)), none, none, none] [.int (1 : Int32), .ref 174] (fun n h => rfl) ?_
              cases h
              exact hT
            · rw [if_neg c37] at h
              refine hq_icT rfl (hq_c_ne_T c37) ?_
              refine hq_p 1 227 [some (.ref 174), some (.int (hq_gi s 174 27)), none, none, none] [.int (0 : Int32), .ref 174] (fun n h => rfl) ?_
              cases h
              exact hT
          obtain ⟨s38, hs38, h⟩ := hq_bind h
          refine hq_inv rfl rfl (Nat.le_trans (by decide) hd) rfl rfl (hq_rcv rfl rfl) (f_X12_laneLine_run (Nat.le_sub_of_add_le (Nat.le_trans (by decide) hd)) hs38) rfl ?_
          refine hq_p 1 404 [some (.ref 174), some (.int (hq_gi s 174 27)), none, none, none] [] (fun n h => rfl) ?_
          exact f_X12_line_J404_run hd h
        rw [if_neg c35] at h
        by_cases c39 : (hq_gi s 174 27) = (2 : Int32)
        · rw [if_pos c39] at h
          refine hq_tsw rfl (show _ = some 216 from by rw [c39]; decide) ?_
          refine hq_p 3 219 [some (.ref 174), some (.int (hq_gi s 174 27)), none, none, none] [.int (2 : Int32), .int (hq_gi s 174 27), .ref 174] (fun n h => rfl) ?_
          obtain ⟨z40, hz40, h⟩ := hq_bind h
          suffices hT : hq_R (mm_O xs) d mc_X12_line 227 [some (.ref 174), some (.int (hq_gi s 174 27)), none, none, none] [.int z40, .ref 174] s16 g none y from by
            clear h
            have h := hz40
            by_cases c41 : (hq_gi s 174 27) = (2 : Int32)
            · rw [if_pos c41] at h
              refine hq_icF rfl (hq_c_ne_F c41) ?_
              refine hq_p 2 227 [some (.ref 174), some (.int (hq_gi s 174 27)), none, none, none] [.int (1 : Int32), .ref 174] (fun n h => rfl) ?_
              cases h
              exact hT
            · rw [if_neg c41] at h
              refine hq_icT rfl (hq_c_ne_T c41) ?_
              refine hq_p 1 227 [some (.ref 174), some (.int (hq_gi s 174 27)), none, none, none] [.int (0 : Int32), .ref 174] (fun n h => rfl) ?_
              cases h
              exact hT
          obtain ⟨s42, hs42, h⟩ := hq_bind h
          refine hq_inv rfl rfl (Nat.le_trans (by decide) hd) rfl rfl (hq_rcv rfl rfl) (f_X12_laneLine_run (Nat.le_sub_of_add_le (Nat.le_trans (by decide) hd)) hs42) rfl ?_
          refine hq_p 1 404 [some (.ref 174), some (.int (hq_gi s 174 27)), none, none, none] [] (fun n h => rfl) ?_
          exact f_X12_line_J404_run hd h
        rw [if_neg c39] at h
        by_cases c43 : (hq_gi s 174 27) = (3 : Int32)
        · rw [if_pos c43] at h
          refine hq_tsw rfl (show _ = some 233 from by rw [c43]; decide) ?_
          refine hq_p 3 236 [some (.ref 174), some (.int (hq_gi s 174 27)), none, none, none] [.int (2 : Int32), .ref 174, .int (3 : Int32)] (fun n h => rfl) ?_
          obtain ⟨y44, hy44, h⟩ := hq_bind h
          refine hq_inv rfl rfl (Nat.le_trans (by decide) hd) rfl rfl (hq_rcv rfl rfl) (f_X12_fresher_run (Nat.le_sub_of_add_le (Nat.le_trans (by decide) hd)) hy44) rfl ?_
          refine hq_p 3 242 [some (.ref 174), some (.int (hq_gi s 174 27)), none, some (.int ((3 : Int32) + y44.1)), none] [.ref 174] (fun n h => rfl) ?_
          refine hq_gf (x := .ref 183) rfl rfl rfl rfl rfl ?_
          refine hq_p 3 248 [some (.ref 174), some (.int (hq_gi s 174 27)), none, some (.int ((3 : Int32) + y44.1)), none] [.ref 174, .ref 174, .int ((3 : Int32) + y44.1), .ref 183] (fun n h => rfl) ?_
          refine hq_gf (x := .ref 183) rfl rfl rfl rfl rfl ?_
          refine hq_p 3 254 [some (.ref 174), some (.int (hq_gi s 174 27)), none, some (.int ((3 : Int32) + y44.1)), none] [.int (2 : Int32), .ref 174, .int (3 : Int32), .ref 183, .ref 174, .int ((3 : Int32) + y44.1), .ref 183] (fun n h => rfl) ?_
          obtain ⟨y45, hy45, h⟩ := hq_bind h
          refine hq_inv rfl rfl (Nat.le_trans (by decide) hd) rfl rfl (hq_rcv rfl rfl) (f_X12_fresher_run (Nat.le_sub_of_add_le (Nat.le_trans (by decide) hd)) hy45) rfl ?_
          obtain ⟨y46, hy46, h⟩ := hq_bind h
          refine hq_inv rfl rfl (Nat.le_trans (by decide) hd) rfl rfl (hq_rcv rfl rfl) (f_X12_fresh_run (Nat.le_sub_of_add_le (Nat.le_trans (by decide) hd)) hy46) rfl ?_
          obtain ⟨s47, hs47, h⟩ := hq_bind h
          refine hq_iastore rfl rfl rfl hs47 ?_
          refine hq_p 1 262 [some (.ref 174), some (.int (hq_gi s 174 27)), none, some (.int ((3 : Int32) + y44.1)), none] [.ref 174] (fun n h => rfl) ?_
          refine hq_gf (x := .ref 184) rfl rfl rfl rfl rfl ?_
          refine hq_p 2 267 [some (.ref 174), some (.int (hq_gi s 174 27)), none, some (.int ((3 : Int32) + y44.1)), none] [.ref 174, .int ((3 : Int32) + y44.1), .ref 184] (fun n h => rfl) ?_
          obtain ⟨y48, hy48, h⟩ := hq_bind h
          refine hq_inv rfl rfl (Nat.le_trans (by decide) hd) rfl rfl (hq_rcv rfl rfl) (f_X12_cornerAhead_run (Nat.le_sub_of_add_le (Nat.le_trans (by decide) hd)) hy48) rfl ?_
          obtain ⟨s49, hs49, h⟩ := hq_bind h
          refine hq_iastore rfl rfl rfl hs49 ?_
          refine hq_p 1 272 [some (.ref 174), some (.int (hq_gi s 174 27)), none, some (.int ((3 : Int32) + y44.1)), none] [.ref 174] (fun n h => rfl) ?_
          refine hq_gf (x := .ref 185) rfl rfl rfl rfl rfl ?_
          refine hq_p 2 277 [some (.ref 174), some (.int (hq_gi s 174 27)), none, some (.int ((3 : Int32) + y44.1)), none] [.int (0 : Int32), .int ((3 : Int32) + y44.1), .ref 185] (fun n h => rfl) ?_
          obtain ⟨s50, hs50, h⟩ := hq_bind h
          refine hq_iastore rfl rfl rfl hs50 ?_
          refine hq_p 4 282 [some (.ref 174), some (.int (hq_gi s 174 27)), none, some (.int ((3 : Int32) + y44.1)), none] [.int (2 : Int32), .ref 174, .int (2 : Int32), .ref 174] (fun n h => rfl) ?_
          obtain ⟨y51, hy51, h⟩ := hq_bind h
          refine hq_inv rfl rfl (Nat.le_trans (by decide) hd) rfl rfl (hq_rcv rfl rfl) (f_X12_fresher_run (Nat.le_sub_of_add_le (Nat.le_trans (by decide) hd)) hy51) rfl ?_
          refine hq_p 2 287 [some (.ref 174), some (.int (hq_gi s 174 27)), none, some (.int ((3 : Int32) + y44.1)), none] [.int (y51.1 + (1 : Int32)), .int (2 : Int32), .ref 174] (fun n h => rfl) ?_
          obtain ⟨s52, hs52, h⟩ := hq_bind h
          refine hq_inv rfl rfl (Nat.le_trans (by decide) hd) rfl rfl (hq_rcv rfl rfl) (f_X12_reads_run (Nat.le_sub_of_add_le (Nat.le_trans (by decide) hd)) hs52) rfl ?_
          refine hq_p 1 404 [some (.ref 174), some (.int (hq_gi s 174 27)), none, some (.int ((3 : Int32) + y44.1)), none] [] (fun n h => rfl) ?_
          exact f_X12_line_J404_run hd h
        rw [if_neg c43] at h
        by_cases c53 : (hq_gi s 174 27) = (4 : Int32)
        · rw [if_pos c53] at h
          refine hq_tsw rfl (show _ = some 293 from by rw [c53]; decide) ?_
          refine hq_p 1 294 [some (.ref 174), some (.int (hq_gi s 174 27)), none, none, none] [.ref 174] (fun n h => rfl) ?_
          obtain ⟨s54, hs54, h⟩ := hq_bind h
          refine hq_inv rfl rfl (Nat.le_trans (by decide) hd) rfl rfl (hq_rcv rfl rfl) (f_X12_beatLine_run (Nat.le_sub_of_add_le (Nat.le_trans (by decide) hd)) hs54) rfl ?_
          refine hq_p 1 404 [some (.ref 174), some (.int (hq_gi s 174 27)), none, none, none] [] (fun n h => rfl) ?_
          exact f_X12_line_J404_run hd h
        rw [if_neg c53] at h
        by_cases c55 : (hq_gi s 174 27) = (5 : Int32)
        · rw [if_pos c55] at h
          refine hq_tsw rfl (show _ = some 300 from by rw [c55]; decide) ?_
          refine hq_p 3 303 [some (.ref 174), some (.int (hq_gi s 174 27)), none, none, none] [.int (3 : Int32), .ref 174, .int (4 : Int32)] (fun n h => rfl) ?_
          obtain ⟨y56, hy56, h⟩ := hq_bind h
          refine hq_inv rfl rfl (Nat.le_trans (by decide) hd) rfl rfl (hq_rcv rfl rfl) (f_X12_fresher_run (Nat.le_sub_of_add_le (Nat.le_trans (by decide) hd)) hy56) rfl ?_
          refine hq_p 3 310 [some (.ref 174), some (.int (hq_gi s 174 27)), none, none, some (.int ((4 : Int32) + y56.1))] [.ref 174] (fun n h => rfl) ?_
          refine hq_gf (x := .ref 187) rfl rfl rfl rfl rfl ?_
          refine hq_p 3 317 [some (.ref 174), some (.int (hq_gi s 174 27)), none, none, some (.int ((4 : Int32) + y56.1))] [.ref 174, .ref 174, .int ((4 : Int32) + y56.1), .ref 187] (fun n h => rfl) ?_
          refine hq_gf (x := .ref 187) rfl rfl rfl rfl rfl ?_
          refine hq_p 3 323 [some (.ref 174), some (.int (hq_gi s 174 27)), none, none, some (.int ((4 : Int32) + y56.1))] [.int (3 : Int32), .ref 174, .int (4 : Int32), .ref 187, .ref 174, .int ((4 : Int32) + y56.1), .ref 187] (fun n h => rfl) ?_
          obtain ⟨y57, hy57, h⟩ := hq_bind h
          refine hq_inv rfl rfl (Nat.le_trans (by decide) hd) rfl rfl (hq_rcv rfl rfl) (f_X12_fresher_run (Nat.le_sub_of_add_le (Nat.le_trans (by decide) hd)) hy57) rfl ?_
          obtain ⟨y58, hy58, h⟩ := hq_bind h
          refine hq_inv rfl rfl (Nat.le_trans (by decide) hd) rfl rfl (hq_rcv rfl rfl) (f_X12_fresh_run (Nat.le_sub_of_add_le (Nat.le_trans (by decide) hd)) hy58) rfl ?_
          obtain ⟨s59, hs59, h⟩ := hq_bind h
          refine hq_iastore rfl rfl rfl hs59 ?_
          refine hq_p 1 331 [some (.ref 174), some (.int (hq_gi s 174 27)), none, none, some (.int ((4 : Int32) + y56.1))] [.ref 174] (fun n h => rfl) ?_
          refine hq_gf (x := .ref 188) rfl rfl rfl rfl rfl ?_
          refine hq_p 2 337 [some (.ref 174), some (.int (hq_gi s 174 27)), none, none, some (.int ((4 : Int32) + y56.1))] [.ref 174, .int ((4 : Int32) + y56.1), .ref 188] (fun n h => rfl) ?_
          obtain ⟨y60, hy60, h⟩ := hq_bind h
          refine hq_inv rfl rfl (Nat.le_trans (by decide) hd) rfl rfl (hq_rcv rfl rfl) (f_X12_cornerAhead_run (Nat.le_sub_of_add_le (Nat.le_trans (by decide) hd)) hy60) rfl ?_
          obtain ⟨s61, hs61, h⟩ := hq_bind h
          refine hq_iastore rfl rfl rfl hs61 ?_
          refine hq_p 1 342 [some (.ref 174), some (.int (hq_gi s 174 27)), none, none, some (.int ((4 : Int32) + y56.1))] [.ref 174] (fun n h => rfl) ?_
          refine hq_gf (x := .ref 189) rfl rfl rfl rfl rfl ?_
          refine hq_p 4 351 [some (.ref 174), some (.int (hq_gi s 174 27)), none, none, some (.int ((4 : Int32) + y56.1))] [.int (9 : Int32), .int (0 : Int32), .ref 174, .int ((4 : Int32) + y56.1), .ref 189] (fun n h => rfl) ?_
          obtain ⟨y62, hy62, h⟩ := hq_bind h
          refine hq_inv rfl rfl (Nat.le_trans (by decide) hd) rfl rfl (hq_rcv rfl rfl) (f_X12_numeral_run (Nat.le_sub_of_add_le (Nat.le_trans (by decide) hd)) hy62) rfl ?_
          obtain ⟨s63, hs63, h⟩ := hq_bind h
          refine hq_iastore rfl rfl rfl hs63 ?_
          refine hq_p 4 359 [some (.ref 174), some (.int (hq_gi s 174 27)), none, none, some (.int ((4 : Int32) + y56.1))] [.int (3 : Int32), .ref 174, .int (3 : Int32), .ref 174] (fun n h => rfl) ?_
          obtain ⟨y64, hy64, h⟩ := hq_bind h
          refine hq_inv rfl rfl (Nat.le_trans (by decide) hd) rfl rfl (hq_rcv rfl rfl) (f_X12_fresher_run (Nat.le_sub_of_add_le (Nat.le_trans (by decide) hd)) hy64) rfl ?_
          refine hq_p 2 364 [some (.ref 174), some (.int (hq_gi s 174 27)), none, none, some (.int ((4 : Int32) + y56.1))] [.int (y64.1 + (1 : Int32)), .int (3 : Int32), .ref 174] (fun n h => rfl) ?_
          obtain ⟨s65, hs65, h⟩ := hq_bind h
          refine hq_inv rfl rfl (Nat.le_trans (by decide) hd) rfl rfl (hq_rcv rfl rfl) (f_X12_reads_run (Nat.le_sub_of_add_le (Nat.le_trans (by decide) hd)) hs65) rfl ?_
          refine hq_p 1 404 [some (.ref 174), some (.int (hq_gi s 174 27)), none, none, some (.int ((4 : Int32) + y56.1))] [] (fun n h => rfl) ?_
          exact f_X12_line_J404_run hd h
        rw [if_neg c55] at h
        by_cases c66 : (hq_gi s 174 27) = (6 : Int32)
        · rw [if_pos c66] at h
          refine hq_tsw rfl (show _ = some 370 from by rw [c66]; decide) ?_
          refine hq_p 5 376 [some (.ref 174), some (.int (hq_gi s 174 27)), none, none, none] [.int (100 : Int32), .int (0 : Int32), .ref 174, .int (4 : Int32), .ref 174] (fun n h => rfl) ?_
          obtain ⟨y67, hy67, h⟩ := hq_bind h
          refine hq_inv rfl rfl (Nat.le_trans (by decide) hd) rfl rfl (hq_rcv rfl rfl) (f_X12_numeral_run (Nat.le_sub_of_add_le (Nat.le_trans (by decide) hd)) hy67) rfl ?_
          obtain ⟨s68, hs68, h⟩ := hq_bind h
          refine hq_inv rfl rfl (Nat.le_trans (by decide) hd) rfl rfl (hq_rcv rfl rfl) (f_X12_reads_run (Nat.le_sub_of_add_le (Nat.le_trans (by decide) hd)) hs68) rfl ?_
          refine hq_p 1 404 [some (.ref 174), some (.int (hq_gi s 174 27)), none, none, none] [] (fun n h => rfl) ?_
          exact f_X12_line_J404_run hd h
        rw [if_neg c66] at h
        by_cases c69 : (hq_gi s 174 27) = (7 : Int32)
        · rw [if_pos c69] at h
          refine hq_tsw rfl (show _ = some 385 from by rw [c69]; decide) ?_
          refine hq_p 5 391 [some (.ref 174), some (.int (hq_gi s 174 27)), none, none, none] [.int (99999 : Int32), .int (0 : Int32), .ref 174, .int (5 : Int32), .ref 174] (fun n h => rfl) ?_
          obtain ⟨y70, hy70, h⟩ := hq_bind h
          refine hq_inv rfl rfl (Nat.le_trans (by decide) hd) rfl rfl (hq_rcv rfl rfl) (f_X12_numeral_run (Nat.le_sub_of_add_le (Nat.le_trans (by decide) hd)) hy70) rfl ?_
          obtain ⟨s71, hs71, h⟩ := hq_bind h
          refine hq_inv rfl rfl (Nat.le_trans (by decide) hd) rfl rfl (hq_rcv rfl rfl) (f_X12_reads_run (Nat.le_sub_of_add_le (Nat.le_trans (by decide) hd)) hs71) rfl ?_
          refine hq_p 1 404 [some (.ref 174), some (.int (hq_gi s 174 27)), none, none, none] [] (fun n h => rfl) ?_
          exact f_X12_line_J404_run hd h
        rw [if_neg c69] at h
        refine hq_tsw rfl (hq_tsw_d [(0 : Int32), (1 : Int32), (2 : Int32), (3 : Int32), (4 : Int32), (5 : Int32), (6 : Int32), (7 : Int32)] (by decide) rfl ⟨c17, c35, c39, c43, c53, c55, c66, c69, trivial⟩) ?_
        refine hq_p 1 401 [some (.ref 174), some (.int (hq_gi s 174 27)), none, none, none] [.ref 174] (fun n h => rfl) ?_
        obtain ⟨s72, hs72, h⟩ := hq_bind h
        refine hq_inv rfl rfl (Nat.le_trans (by decide) hd) rfl rfl (hq_rcv rfl rfl) (f_X12_lawLine_run (Nat.le_sub_of_add_le (Nat.le_trans (by decide) hd)) hs72) rfl ?_
        exact f_X12_line_J404_run hd h
      · rw [if_neg c14] at h
        refine hq_izF rfl (hq_c_eq_F c14) ?_
        cases h
        exact ⟨1, rfl⟩
  · rw [if_neg c1] at h
    refine hq_izT rfl (hq_c_ne_T c1) ?_
    exact f_X12_line_J16_run hd h
def f_X12_half_L7_B (n : Nat) (q7 : Nat → Int32 → Int32 → hq_S → Option hq_S) (k0 : Nat) (a1 : Int32) (a2 : Int32) (s : hq_S) : Option hq_S := if a2 < a1 then (hq_ldiA s k0 (a1 + a2)).bind fun x4 => (hq_stiA s k0 a2 x4).bind fun s5 => q7 k0 a1 (a2 + (1 : Int32)) s5 else some s
def f_X12_half_L7 (n : Nat) (m : Nat) : Nat → Int32 → Int32 → hq_S → Option hq_S := Nat.rec (fun _ _ _ _ => none) (fun _ q => f_X12_half_L7_B n q) m
theorem f_X12_half_L7_Brun {xs : List Int32} {n d g : Nat} {k0 : Nat} {a1 : Int32} {a2 : Int32} {q7 : Nat → Int32 → Int32 → hq_S → Option hq_S} {s : hq_S} {y : hq_S} (hd : 0 ≤ d) (e7 : ∀ (k0 : Nat) (a1 : Int32) (a2 : Int32) (s : hq_S), q7 k0 a1 a2 s = some y → hq_R (mm_O xs) d mc_X12_half 7 [some (.ref k0), some (.int a1), some (.int a2)] [] s g none y) (h : f_X12_half_L7_B n q7 k0 a1 a2 s = some y) : hq_R (mm_O xs) d mc_X12_half 7 [some (.ref k0), some (.int a1), some (.int a2)] [] s g none y := by
  unfold f_X12_half_L7_B at h
  refine hq_p 2 9 [some (.ref k0), some (.int a1), some (.int a2)] [.int a1, .int a2] (fun n h => rfl) ?_
  by_cases c3 : a2 < a1
  · rw [if_pos c3] at h
    refine hq_icF rfl (hq_c_ge_F c3) ?_
    refine hq_p 6 18 [some (.ref k0), some (.int a1), some (.int a2)] [.int (a1 + a2), .ref k0, .int a2, .ref k0] (fun n h => rfl) ?_
    obtain ⟨x4, hx4, h⟩ := hq_bind h
    refine hq_ialoadA rfl hx4 ?_
    obtain ⟨s5, hs5, h⟩ := hq_bind h
    refine hq_iastoreA rfl hs5 ?_
    refine hq_p 2 7 [some (.ref k0), some (.int a1), some (.int (a2 + (1 : Int32)))] [] (fun n h => rfl) ?_
    exact e7 k0 a1 (a2 + (1 : Int32)) s5 h
  · rw [if_neg c3] at h
    refine hq_icT rfl (hq_c_ge_T c3) ?_
    cases h
    exact ⟨1, rfl⟩
theorem f_X12_half_L7_run {xs : List Int32} {n m d g : Nat} {k0 : Nat} {a1 : Int32} {a2 : Int32} {s : hq_S} {y : hq_S} (hd : 0 ≤ d) (h : f_X12_half_L7 n m k0 a1 a2 s = some y) : hq_R (mm_O xs) d mc_X12_half 7 [some (.ref k0), some (.int a1), some (.int a2)] [] s g none y := by
  induction m generalizing k0 a1 a2 s with
  | zero => cases h
  | succ m ih => exact f_X12_half_L7_Brun (n := n) hd (fun k0 a1 a2 s h => ih h) h
def f_X12_half (n : Nat) (k0 : Nat) (s : hq_S) : Option hq_S := (hq_alA k0).bind fun x1 => (hq_idiv x1 (2 : Int32)).bind fun x2 => f_X12_half_L7 n n k0 x2 (0 : Int32) s
theorem f_X12_half_run {xs : List Int32} {n d g : Nat} {k0 : Nat} {s : hq_S} {y : hq_S} (hd : 0 ≤ d) (h : f_X12_half n k0 s = some y) : hq_R (mm_O xs) d mc_X12_half 0 [some (.ref k0), none, none] [] s g none y := by
  unfold f_X12_half at h
  refine hq_p 1 1 [some (.ref k0), none, none] [.ref k0] (fun n h => rfl) ?_
  obtain ⟨x1, hx1, h⟩ := hq_bind h
  refine hq_alenA rfl hx1 ?_
  refine hq_p 1 3 [some (.ref k0), none, none] [.int (2 : Int32), .int x1] (fun n h => rfl) ?_
  obtain ⟨x2, hx2, h⟩ := hq_bind h
  refine hq_idiv_ rfl hx2 ?_
  refine hq_p 3 7 [some (.ref k0), some (.int x2), some (.int (0 : Int32))] [] (fun n h => rfl) ?_
  exact f_X12_half_L7_run hd h
def f_X12_starts_L124_B (n : Nat) (q124 : Int32 → Int32 → hq_S → Option hq_S) (a1 : Int32) (a2 : Int32) (s : hq_S) : Option hq_S := if a2 < (4 : Int32) then (hq_ld s 188 8 a2).bind fun x8 => (hq_st s 203 92 (((4 : Int32) * a1) + a2) x8).bind fun s9 => (hq_st s9 204 92 (((4 : Int32) * a1) + a2) (0 : Int32)).bind fun s10 => (hq_st s10 205 92 (((4 : Int32) * a1) + a2) (-1 : Int32)).bind fun s11 => q124 a1 (a2 + (1 : Int32)) s11 else some s
def f_X12_starts_L124 (n : Nat) (m : Nat) : Int32 → Int32 → hq_S → Option hq_S := Nat.rec (fun _ _ _ => none) (fun _ q => f_X12_starts_L124_B n q) m
theorem f_X12_starts_L124_Brun {xs : List Int32} {n d g : Nat} {a1 : Int32} {a2 : Int32} {q124 : Int32 → Int32 → hq_S → Option hq_S} {s : hq_S} {y : hq_S} (hd : 0 ≤ d) (e124 : ∀ (a1 : Int32) (a2 : Int32) (s : hq_S), q124 a1 a2 s = some y → hq_R (mm_O xs) d mc_X12_starts 124 [some (.ref 174), some (.int a1), some (.int a2)] [] s g none y) (h : f_X12_starts_L124_B n q124 a1 a2 s = some y) : hq_R (mm_O xs) d mc_X12_starts 124 [some (.ref 174), some (.int a1), some (.int a2)] [] s g none y := by
  unfold f_X12_starts_L124_B at h
  refine hq_p 2 126 [some (.ref 174), some (.int a1), some (.int a2)] [.int (4 : Int32), .int a2] (fun n h => rfl) ?_
  by_cases c7 : a2 < (4 : Int32)
  · rw [if_pos c7] at h
    refine hq_icF rfl (hq_c_ge_F c7) ?_
    refine hq_p 1 130 [some (.ref 174), some (.int a1), some (.int a2)] [.ref 174] (fun n h => rfl) ?_
    refine hq_gf (x := .ref 203) rfl rfl rfl rfl rfl ?_
    refine hq_p 6 139 [some (.ref 174), some (.int a1), some (.int a2)] [.ref 174, .int (((4 : Int32) * a1) + a2), .ref 203] (fun n h => rfl) ?_
    refine hq_gf (x := .ref 188) rfl rfl rfl rfl rfl ?_
    refine hq_p 1 143 [some (.ref 174), some (.int a1), some (.int a2)] [.int a2, .ref 188, .int (((4 : Int32) * a1) + a2), .ref 203] (fun n h => rfl) ?_
    obtain ⟨x8, hx8, h⟩ := hq_bind h
    refine hq_iaload rfl rfl rfl hx8 ?_
    obtain ⟨s9, hs9, h⟩ := hq_bind h
    refine hq_iastore rfl rfl rfl hs9 ?_
    refine hq_p 1 146 [some (.ref 174), some (.int a1), some (.int a2)] [.ref 174] (fun n h => rfl) ?_
    refine hq_gf (x := .ref 204) rfl rfl rfl rfl rfl ?_
    refine hq_p 6 155 [some (.ref 174), some (.int a1), some (.int a2)] [.int (0 : Int32), .int (((4 : Int32) * a1) + a2), .ref 204] (fun n h => rfl) ?_
    obtain ⟨s10, hs10, h⟩ := hq_bind h
    refine hq_iastore rfl rfl rfl hs10 ?_
    refine hq_p 1 157 [some (.ref 174), some (.int a1), some (.int a2)] [.ref 174] (fun n h => rfl) ?_
    refine hq_gf (x := .ref 205) rfl rfl rfl rfl rfl ?_
    refine hq_p 6 166 [some (.ref 174), some (.int a1), some (.int a2)] [.int (-1 : Int32), .int (((4 : Int32) * a1) + a2), .ref 205] (fun n h => rfl) ?_
    obtain ⟨s11, hs11, h⟩ := hq_bind h
    refine hq_iastore rfl rfl rfl hs11 ?_
    refine hq_p 2 124 [some (.ref 174), some (.int a1), some (.int (a2 + (1 : Int32)))] [] (fun n h => rfl) ?_
    exact e124 a1 (a2 + (1 : Int32)) s11 h
  · rw [if_neg c7] at h
    refine hq_icT rfl (hq_c_ge_T c7) ?_
    cases h
    exact ⟨1, rfl⟩
theorem f_X12_starts_L124_run {xs : List Int32} {n m d g : Nat} {a1 : Int32} {a2 : Int32} {s : hq_S} {y : hq_S} (hd : 0 ≤ d) (h : f_X12_starts_L124 n m a1 a2 s = some y) : hq_R (mm_O xs) d mc_X12_starts 124 [some (.ref 174), some (.int a1), some (.int a2)] [] s g none y := by
  induction m generalizing a1 a2 s with
  | zero => cases h
  | succ m ih => exact f_X12_starts_L124_Brun (n := n) hd (fun a1 a2 s h => ih h) h
def f_X12_starts_L73_B (n : Nat) (q73 : Int32 → Int32 → hq_S → Option hq_S) (a1 : Int32) (a2 : Int32) (s : hq_S) : Option hq_S := if a2 < (3 : Int32) then (hq_ld s 184 6 a2).bind fun x12 => (hq_st s 200 69 (((3 : Int32) * a1) + a2) x12).bind fun s13 => (hq_st s13 201 69 (((3 : Int32) * a1) + a2) (0 : Int32)).bind fun s14 => (hq_st s14 202 69 (((3 : Int32) * a1) + a2) (0 : Int32)).bind fun s15 => q73 a1 (a2 + (1 : Int32)) s15 else f_X12_starts_L124 n n a1 (0 : Int32) s
def f_X12_starts_L73 (n : Nat) (m : Nat) : Int32 → Int32 → hq_S → Option hq_S := Nat.rec (fun _ _ _ => none) (fun _ q => f_X12_starts_L73_B n q) m
theorem f_X12_starts_L73_Brun {xs : List Int32} {n d g : Nat} {a1 : Int32} {a2 : Int32} {q73 : Int32 → Int32 → hq_S → Option hq_S} {s : hq_S} {y : hq_S} (hd : 0 ≤ d) (e73 : ∀ (a1 : Int32) (a2 : Int32) (s : hq_S), q73 a1 a2 s = some y → hq_R (mm_O xs) d mc_X12_starts 73 [some (.ref 174), some (.int a1), some (.int a2)] [] s g none y) (h : f_X12_starts_L73_B n q73 a1 a2 s = some y) : hq_R (mm_O xs) d mc_X12_starts 73 [some (.ref 174), some (.int a1), some (.int a2)] [] s g none y := by
  unfold f_X12_starts_L73_B at h
  refine hq_p 2 75 [some (.ref 174), some (.int a1), some (.int a2)] [.int (3 : Int32), .int a2] (fun n h => rfl) ?_
  by_cases c6 : a2 < (3 : Int32)
  · rw [if_pos c6] at h
    refine hq_icF rfl (hq_c_ge_F c6) ?_
    refine hq_p 1 79 [some (.ref 174), some (.int a1), some (.int a2)] [.ref 174] (fun n h => rfl) ?_
    refine hq_gf (x := .ref 200) rfl rfl rfl rfl rfl ?_
    refine hq_p 6 88 [some (.ref 174), some (.int a1), some (.int a2)] [.ref 174, .int (((3 : Int32) * a1) + a2), .ref 200] (fun n h => rfl) ?_
    refine hq_gf (x := .ref 184) rfl rfl rfl rfl rfl ?_
    refine hq_p 1 92 [some (.ref 174), some (.int a1), some (.int a2)] [.int a2, .ref 184, .int (((3 : Int32) * a1) + a2), .ref 200] (fun n h => rfl) ?_
    obtain ⟨x12, hx12, h⟩ := hq_bind h
    refine hq_iaload rfl rfl rfl hx12 ?_
    obtain ⟨s13, hs13, h⟩ := hq_bind h
    refine hq_iastore rfl rfl rfl hs13 ?_
    refine hq_p 1 95 [some (.ref 174), some (.int a1), some (.int a2)] [.ref 174] (fun n h => rfl) ?_
    refine hq_gf (x := .ref 201) rfl rfl rfl rfl rfl ?_
    refine hq_p 6 104 [some (.ref 174), some (.int a1), some (.int a2)] [.int (0 : Int32), .int (((3 : Int32) * a1) + a2), .ref 201] (fun n h => rfl) ?_
    obtain ⟨s14, hs14, h⟩ := hq_bind h
    refine hq_iastore rfl rfl rfl hs14 ?_
    refine hq_p 1 106 [some (.ref 174), some (.int a1), some (.int a2)] [.ref 174] (fun n h => rfl) ?_
    refine hq_gf (x := .ref 202) rfl rfl rfl rfl rfl ?_
    refine hq_p 6 115 [some (.ref 174), some (.int a1), some (.int a2)] [.int (0 : Int32), .int (((3 : Int32) * a1) + a2), .ref 202] (fun n h => rfl) ?_
    obtain ⟨s15, hs15, h⟩ := hq_bind h
    refine hq_iastore rfl rfl rfl hs15 ?_
    refine hq_p 2 73 [some (.ref 174), some (.int a1), some (.int (a2 + (1 : Int32)))] [] (fun n h => rfl) ?_
    exact e73 a1 (a2 + (1 : Int32)) s15 h
  · rw [if_neg c6] at h
    refine hq_icT rfl (hq_c_ge_T c6) ?_
    refine hq_p 2 124 [some (.ref 174), some (.int a1), some (.int (0 : Int32))] [] (fun n h => rfl) ?_
    exact f_X12_starts_L124_run hd h
theorem f_X12_starts_L73_run {xs : List Int32} {n m d g : Nat} {a1 : Int32} {a2 : Int32} {s : hq_S} {y : hq_S} (hd : 0 ≤ d) (h : f_X12_starts_L73 n m a1 a2 s = some y) : hq_R (mm_O xs) d mc_X12_starts 73 [some (.ref 174), some (.int a1), some (.int a2)] [] s g none y := by
  induction m generalizing a1 a2 s with
  | zero => cases h
  | succ m ih => exact f_X12_starts_L73_Brun (n := n) hd (fun a1 a2 s h => ih h) h
def f_X12_starts_L28_B (n : Nat) (q28 : Int32 → Int32 → hq_S → Option hq_S) (a1 : Int32) (a2 : Int32) (s : hq_S) : Option hq_S := if a2 < (10 : Int32) then (hq_ld s 176 14 (0 : Int32)).bind fun x16 => (if a2 < x16 then (hq_ld s 179 20 a2).bind fun x19 => some x19 else some (0 : Int32)).bind fun z17 => (hq_st s 199 230 (((10 : Int32) * a1) + a2) z17).bind fun s20 => q28 a1 (a2 + (1 : Int32)) s20 else f_X12_starts_L73 n n a1 (0 : Int32) s
def f_X12_starts_L28 (n : Nat) (m : Nat) : Int32 → Int32 → hq_S → Option hq_S := Nat.rec (fun _ _ _ => none) (fun _ q => f_X12_starts_L28_B n q) m
theorem f_X12_starts_L28_Brun {xs : List Int32} {n d g : Nat} {a1 : Int32} {a2 : Int32} {q28 : Int32 → Int32 → hq_S → Option hq_S} {s : hq_S} {y : hq_S} (hd : 0 ≤ d) (e28 : ∀ (a1 : Int32) (a2 : Int32) (s : hq_S), q28 a1 a2 s = some y → hq_R (mm_O xs) d mc_X12_starts 28 [some (.ref 174), some (.int a1), some (.int a2)] [] s g none y) (h : f_X12_starts_L28_B n q28 a1 a2 s = some y) : hq_R (mm_O xs) d mc_X12_starts 28 [some (.ref 174), some (.int a1), some (.int a2)] [] s g none y := by
  unfold f_X12_starts_L28_B at h
  refine hq_p 2 31 [some (.ref 174), some (.int a1), some (.int a2)] [.int (10 : Int32), .int a2] (fun n h => rfl) ?_
  by_cases c5 : a2 < (10 : Int32)
  · rw [if_pos c5] at h
    refine hq_icF rfl (hq_c_ge_F c5) ?_
    refine hq_p 1 35 [some (.ref 174), some (.int a1), some (.int a2)] [.ref 174] (fun n h => rfl) ?_
    refine hq_gf (x := .ref 199) rfl rfl rfl rfl rfl ?_
    refine hq_p 7 46 [some (.ref 174), some (.int a1), some (.int a2)] [.ref 174, .int a2, .int (((10 : Int32) * a1) + a2), .ref 199] (fun n h => rfl) ?_
    refine hq_gf (x := .ref 176) rfl rfl rfl rfl rfl ?_
    refine hq_p 1 50 [some (.ref 174), some (.int a1), some (.int a2)] [.int (0 : Int32), .ref 176, .int a2, .int (((10 : Int32) * a1) + a2), .ref 199] (fun n h => rfl) ?_
    obtain ⟨x16, hx16, h⟩ := hq_bind h
    refine hq_iaload rfl rfl rfl hx16 ?_
    obtain ⟨z17, hz17, h⟩ := hq_bind h
    suffices hT : hq_R (mm_O xs) d mc_X12_starts 64 [some (.ref 174), some (.int a1), some (.int a2)] [.int z17, .int (((10 : Int32) * a1) + a2), .ref 199] s g none y from by
      clear h
      have h := hz17
      by_cases c18 : a2 < x16
      · rw [if_pos c18] at h
        refine hq_icF rfl (hq_c_ge_F c18) ?_
        refine hq_p 1 55 [some (.ref 174), some (.int a1), some (.int a2)] [.ref 174, .int (((10 : Int32) * a1) + a2), .ref 199] (fun n h => rfl) ?_
        refine hq_gf (x := .ref 179) rfl rfl rfl rfl rfl ?_
        refine hq_p 1 59 [some (.ref 174), some (.int a1), some (.int a2)] [.int a2, .ref 179, .int (((10 : Int32) * a1) + a2), .ref 199] (fun n h => rfl) ?_
        obtain ⟨x19, hx19, h⟩ := hq_bind h
        refine hq_iaload rfl rfl rfl hx19 ?_
        refine hq_p 1 64 [some (.ref 174), some (.int a1), some (.int a2)] [.int x19, .int (((10 : Int32) * a1) + a2), .ref 199] (fun n h => rfl) ?_
        cases h
        exact hT
      · rw [if_neg c18] at h
        refine hq_icT rfl (hq_c_ge_T c18) ?_
        refine hq_p 1 64 [some (.ref 174), some (.int a1), some (.int a2)] [.int (0 : Int32), .int (((10 : Int32) * a1) + a2), .ref 199] (fun n h => rfl) ?_
        cases h
        exact hT
    obtain ⟨s20, hs20, h⟩ := hq_bind h
    refine hq_iastore rfl rfl rfl hs20 ?_
    refine hq_p 2 28 [some (.ref 174), some (.int a1), some (.int (a2 + (1 : Int32)))] [] (fun n h => rfl) ?_
    exact e28 a1 (a2 + (1 : Int32)) s20 h
  · rw [if_neg c5] at h
    refine hq_icT rfl (hq_c_ge_T c5) ?_
    refine hq_p 2 73 [some (.ref 174), some (.int a1), some (.int (0 : Int32))] [] (fun n h => rfl) ?_
    exact f_X12_starts_L73_run hd h
theorem f_X12_starts_L28_run {xs : List Int32} {n m d g : Nat} {a1 : Int32} {a2 : Int32} {s : hq_S} {y : hq_S} (hd : 0 ≤ d) (h : f_X12_starts_L28 n m a1 a2 s = some y) : hq_R (mm_O xs) d mc_X12_starts 28 [some (.ref 174), some (.int a1), some (.int a2)] [] s g none y := by
  induction m generalizing a1 a2 s with
  | zero => cases h
  | succ m ih => exact f_X12_starts_L28_Brun (n := n) hd (fun a1 a2 s h => ih h) h
def f_X12_starts (n : Nat) (a1 : Int32) (s : hq_S) : Option hq_S := (hq_st s 196 23 a1 (0 : Int32)).bind fun s1 => (hq_ld s1 176 14 (5 : Int32)).bind fun x2 => (hq_st s1 197 23 a1 x2).bind fun s3 => (hq_st s3 198 23 a1 (0 : Int32)).bind fun s4 => f_X12_starts_L28 n n a1 (0 : Int32) s4
theorem f_X12_starts_run {xs : List Int32} {n d g : Nat} {a1 : Int32} {s : hq_S} {y : hq_S} (hd : 0 ≤ d) (h : f_X12_starts n a1 s = some y) : hq_R (mm_O xs) d mc_X12_starts 0 [some (.ref 174), some (.int a1), none] [] s g none y := by
  unfold f_X12_starts at h
  refine hq_p 1 1 [some (.ref 174), some (.int a1), none] [.ref 174] (fun n h => rfl) ?_
  refine hq_gf (x := .ref 196) rfl rfl rfl rfl rfl ?_
  refine hq_p 2 6 [some (.ref 174), some (.int a1), none] [.int (0 : Int32), .int a1, .ref 196] (fun n h => rfl) ?_
  obtain ⟨s1, hs1, h⟩ := hq_bind h
  refine hq_iastore rfl rfl rfl hs1 ?_
  refine hq_p 1 8 [some (.ref 174), some (.int a1), none] [.ref 174] (fun n h => rfl) ?_
  refine hq_gf (x := .ref 197) rfl rfl rfl rfl rfl ?_
  refine hq_p 2 13 [some (.ref 174), some (.int a1), none] [.ref 174, .int a1, .ref 197] (fun n h => rfl) ?_
  refine hq_gf (x := .ref 176) rfl rfl rfl rfl rfl ?_
  refine hq_p 1 17 [some (.ref 174), some (.int a1), none] [.int (5 : Int32), .ref 176, .int a1, .ref 197] (fun n h => rfl) ?_
  obtain ⟨x2, hx2, h⟩ := hq_bind h
  refine hq_iaload rfl rfl rfl hx2 ?_
  obtain ⟨s3, hs3, h⟩ := hq_bind h
  refine hq_iastore rfl rfl rfl hs3 ?_
  refine hq_p 1 20 [some (.ref 174), some (.int a1), none] [.ref 174] (fun n h => rfl) ?_
  refine hq_gf (x := .ref 198) rfl rfl rfl rfl rfl ?_
  refine hq_p 2 25 [some (.ref 174), some (.int a1), none] [.int (0 : Int32), .int a1, .ref 198] (fun n h => rfl) ?_
  obtain ⟨s4, hs4, h⟩ := hq_bind h
  refine hq_iastore rfl rfl rfl hs4 ?_
  refine hq_p 2 28 [some (.ref 174), some (.int a1), some (.int (0 : Int32))] [] (fun n h => rfl) ?_
  exact f_X12_starts_L28_run hd h
def f_X12_begins (n : Nat) (s : hq_S) : Option hq_S := (f_X12_starts n (0 : Int32) s).bind fun s1 => some s1
theorem f_X12_begins_run {xs : List Int32} {n d g : Nat} {s : hq_S} {y : hq_S} (hd : 1 ≤ d) (h : f_X12_begins n s = some y) : hq_R (mm_O xs) d mc_X12_begins 0 [some (.ref 174)] [] s g none y := by
  unfold f_X12_begins at h
  refine hq_p 2 2 [some (.ref 174)] [.int (0 : Int32), .ref 174] (fun n h => rfl) ?_
  obtain ⟨s1, hs1, h⟩ := hq_bind h
  refine hq_inv rfl rfl (Nat.le_trans (by decide) hd) rfl rfl (hq_rcv rfl rfl) (f_X12_starts_run (Nat.le_sub_of_add_le (Nat.le_trans (by decide) hd)) hs1) rfl ?_
  cases h
  exact ⟨1, rfl⟩
def f_X12_text_J149 (n : Nat) (a1 : Int32) (a2 : Int32) (s : hq_S) : Option (Int32 × hq_S) := (hq_pi s 174 30 0 (hq_gi s 174 28)).bind fun s17 => (hq_pi s17 174 31 0 (hq_gi s17 174 29)).bind fun s18 => if (hq_gi s18 174 28) = 0 then (f_X12_half n 176 s18).bind fun s20 => (f_X12_half n 177 s20).bind fun s21 => (f_X12_half n 178 s21).bind fun s22 => (f_X12_half n 179 s22).bind fun s23 => (f_X12_half n 180 s23).bind fun s24 => (f_X12_half n 181 s24).bind fun s25 => (f_X12_half n 182 s25).bind fun s26 => (f_X12_half n 183 s26).bind fun s27 => (f_X12_half n 184 s27).bind fun s28 => (f_X12_half n 185 s28).bind fun s29 => (f_X12_half n 186 s29).bind fun s30 => (f_X12_half n 187 s30).bind fun s31 => (f_X12_half n 188 s31).bind fun s32 => (f_X12_half n 189 s32).bind fun s33 => (f_X12_half n 190 s33).bind fun s34 => (f_X12_half n 191 s34).bind fun s35 => (f_X12_half n 192 s35).bind fun s36 => (f_X12_half n 193 s36).bind fun s37 => (hq_pi s37 174 74 0 (0 : Int32)).bind fun s38 => (hq_pi s38 174 75 0 (-1 : Int32)).bind fun s39 => (hq_pi s39 174 47 1 (0 : Int32)).bind fun s40 => (hq_pi s40 174 48 0 (0 : Int32)).bind fun s41 => (f_X12_begins n s41).bind fun s42 => some ((hq_gi s42 174 22), s42) else some ((-1 : Int32), s18)
theorem f_X12_text_J149_run {xs : List Int32} {n d g : Nat} {a1 : Int32} {a2 : Int32} {s : hq_S} {y : (Int32 × hq_S)} (hd : 212 ≤ d) (h : f_X12_text_J149 n a1 a2 s = some y) : hq_R (mm_O xs) d mc_X12_text 149 [some (.ref 174), some (.int a1), some (.int a2)] [] s g (some (.int y.1)) y.2 := by
  unfold f_X12_text_J149 at h
  refine hq_p 2 151 [some (.ref 174), some (.int a1), some (.int a2)] [.ref 174, .ref 174] (fun n h => rfl) ?_
  refine hq_gf (x := .int (hq_gi s 174 28)) rfl rfl rfl rfl rfl ?_
  obtain ⟨s17, hs17, h⟩ := hq_bind h
  refine hq_pfi rfl rfl rfl rfl rfl hs17 ?_
  refine hq_p 2 159 [some (.ref 174), some (.int a1), some (.int a2)] [.ref 174, .ref 174] (fun n h => rfl) ?_
  refine hq_gf (x := .int (hq_gi s17 174 29)) rfl rfl rfl rfl rfl ?_
  obtain ⟨s18, hs18, h⟩ := hq_bind h
  refine hq_pfi rfl rfl rfl rfl rfl hs18 ?_
  refine hq_p 1 166 [some (.ref 174), some (.int a1), some (.int a2)] [.ref 174] (fun n h => rfl) ?_
  refine hq_gf (x := .int (hq_gi s18 174 28)) rfl rfl rfl rfl rfl ?_
  by_cases c19 : (hq_gi s18 174 28) = 0
  · rw [if_pos c19] at h
    refine hq_izT rfl (hq_c_eq_T c19) ?_
    refine hq_p 1 175 [some (.ref 174), some (.int a1), some (.int a2)] [.ref 174] (fun n h => rfl) ?_
    refine hq_gf (x := .ref 176) rfl rfl rfl rfl rfl ?_
    obtain ⟨s20, hs20, h⟩ := hq_bind h
    refine hq_ist rfl rfl rfl (Nat.le_trans (by decide) hd) rfl (f_X12_half_run (Nat.le_sub_of_add_le (Nat.le_trans (by decide) hd)) hs20) rfl ?_
    refine hq_p 1 182 [some (.ref 174), some (.int a1), some (.int a2)] [.ref 174] (fun n h => rfl) ?_
    refine hq_gf (x := .ref 177) rfl rfl rfl rfl rfl ?_
    obtain ⟨s21, hs21, h⟩ := hq_bind h
    refine hq_ist rfl rfl rfl (Nat.le_trans (by decide) hd) rfl (f_X12_half_run (Nat.le_sub_of_add_le (Nat.le_trans (by decide) hd)) hs21) rfl ?_
    refine hq_p 1 189 [some (.ref 174), some (.int a1), some (.int a2)] [.ref 174] (fun n h => rfl) ?_
    refine hq_gf (x := .ref 178) rfl rfl rfl rfl rfl ?_
    obtain ⟨s22, hs22, h⟩ := hq_bind h
    refine hq_ist rfl rfl rfl (Nat.le_trans (by decide) hd) rfl (f_X12_half_run (Nat.le_sub_of_add_le (Nat.le_trans (by decide) hd)) hs22) rfl ?_
    refine hq_p 1 196 [some (.ref 174), some (.int a1), some (.int a2)] [.ref 174] (fun n h => rfl) ?_
    refine hq_gf (x := .ref 179) rfl rfl rfl rfl rfl ?_
    obtain ⟨s23, hs23, h⟩ := hq_bind h
    refine hq_ist rfl rfl rfl (Nat.le_trans (by decide) hd) rfl (f_X12_half_run (Nat.le_sub_of_add_le (Nat.le_trans (by decide) hd)) hs23) rfl ?_
    refine hq_p 1 203 [some (.ref 174), some (.int a1), some (.int a2)] [.ref 174] (fun n h => rfl) ?_
    refine hq_gf (x := .ref 180) rfl rfl rfl rfl rfl ?_
    obtain ⟨s24, hs24, h⟩ := hq_bind h
    refine hq_ist rfl rfl rfl (Nat.le_trans (by decide) hd) rfl (f_X12_half_run (Nat.le_sub_of_add_le (Nat.le_trans (by decide) hd)) hs24) rfl ?_
    refine hq_p 1 210 [some (.ref 174), some (.int a1), some (.int a2)] [.ref 174] (fun n h => rfl) ?_
    refine hq_gf (x := .ref 181) rfl rfl rfl rfl rfl ?_
    obtain ⟨s25, hs25, h⟩ := hq_bind h
    refine hq_ist rfl rfl rfl (Nat.le_trans (by decide) hd) rfl (f_X12_half_run (Nat.le_sub_of_add_le (Nat.le_trans (by decide) hd)) hs25) rfl ?_
    refine hq_p 1 217 [some (.ref 174), some (.int a1), some (.int a2)] [.ref 174] (fun n h => rfl) ?_
    refine hq_gf (x := .ref 182) rfl rfl rfl rfl rfl ?_
    obtain ⟨s26, hs26, h⟩ := hq_bind h
    refine hq_ist rfl rfl rfl (Nat.le_trans (by decide) hd) rfl (f_X12_half_run (Nat.le_sub_of_add_le (Nat.le_trans (by decide) hd)) hs26) rfl ?_
    refine hq_p 1 224 [some (.ref 174), some (.int a1), some (.int a2)] [.ref 174] (fun n h => rfl) ?_
    refine hq_gf (x := .ref 183) rfl rfl rfl rfl rfl ?_
    obtain ⟨s27, hs27, h⟩ := hq_bind h
    refine hq_ist rfl rfl rfl (Nat.le_trans (by decide) hd) rfl (f_X12_half_run (Nat.le_sub_of_add_le (Nat.le_trans (by decide) hd)) hs27) rfl ?_
    refine hq_p 1 231 [some (.ref 174), some (.int a1), some (.int a2)] [.ref 174] (fun n h => rfl) ?_
    refine hq_gf (x := .ref 184) rfl rfl rfl rfl rfl ?_
    obtain ⟨s28, hs28, h⟩ := hq_bind h
    refine hq_ist rfl rfl rfl (Nat.le_trans (by decide) hd) rfl (f_X12_half_run (Nat.le_sub_of_add_le (Nat.le_trans (by decide) hd)) hs28) rfl ?_
    refine hq_p 1 238 [some (.ref 174), some (.int a1), some (.int a2)] [.ref 174] (fun n h => rfl) ?_
    refine hq_gf (x := .ref 185) rfl rfl rfl rfl rfl ?_
    obtain ⟨s29, hs29, h⟩ := hq_bind h
    refine hq_ist rfl rfl rfl (Nat.le_trans (by decide) hd) rfl (f_X12_half_run (Nat.le_sub_of_add_le (Nat.le_trans (by decide) hd)) hs29) rfl ?_
    refine hq_p 1 245 [some (.ref 174), some (.int a1), some (.int a2)] [.ref 174] (fun n h => rfl) ?_
    refine hq_gf (x := .ref 186) rfl rfl rfl rfl rfl ?_
    obtain ⟨s30, hs30, h⟩ := hq_bind h
    refine hq_ist rfl rfl rfl (Nat.le_trans (by decide) hd) rfl (f_X12_half_run (Nat.le_sub_of_add_le (Nat.le_trans (by decide) hd)) hs30) rfl ?_
    refine hq_p 1 252 [some (.ref 174), some (.int a1), some (.int a2)] [.ref 174] (fun n h => rfl) ?_
    refine hq_gf (x := .ref 187) rfl rfl rfl rfl rfl ?_
    obtain ⟨s31, hs31, h⟩ := hq_bind h
    refine hq_ist rfl rfl rfl (Nat.le_trans (by decide) hd) rfl (f_X12_half_run (Nat.le_sub_of_add_le (Nat.le_trans (by decide) hd)) hs31) rfl ?_
    refine hq_p 1 259 [some (.ref 174), some (.int a1), some (.int a2)] [.ref 174] (fun n h => rfl) ?_
    refine hq_gf (x := .ref 188) rfl rfl rfl rfl rfl ?_
    obtain ⟨s32, hs32, h⟩ := hq_bind h
    refine hq_ist rfl rfl rfl (Nat.le_trans (by decide) hd) rfl (f_X12_half_run (Nat.le_sub_of_add_le (Nat.le_trans (by decide) hd)) hs32) rfl ?_
    refine hq_p 1 266 [some (.ref 174), some (.int a1), some (.int a2)] [.ref 174] (fun n h => rfl) ?_
    refine hq_gf (x := .ref 189) rfl rfl rfl rfl rfl ?_
    obtain ⟨s33, hs33, h⟩ := hq_bind h
    refine hq_ist rfl rfl rfl (Nat.le_trans (by decide) hd) rfl (f_X12_half_run (Nat.le_sub_of_add_le (Nat.le_trans (by decide) hd)) hs33) rfl ?_
    refine hq_p 1 273 [some (.ref 174), some (.int a1), some (.int a2)] [.ref 174] (fun n h => rfl) ?_
    refine hq_gf (x := .ref 190) rfl rfl rfl rfl rfl ?_
    obtain ⟨s34, hs34, h⟩ := hq_bind h
    refine hq_ist rfl rfl rfl (Nat.le_trans (by decide) hd) rfl (f_X12_half_run (Nat.le_sub_of_add_le (Nat.le_trans (by decide) hd)) hs34) rfl ?_
    refine hq_p 1 280 [some (.ref 174), some (.int a1), some (.int a2)] [.ref 174] (fun n h => rfl) ?_
    refine hq_gf (x := .ref 191) rfl rfl rfl rfl rfl ?_
    obtain ⟨s35, hs35, h⟩ := hq_bind h
    refine hq_ist rfl rfl rfl (Nat.le_trans (by decide) hd) rfl (f_X12_half_run (Nat.le_sub_of_add_le (Nat.le_trans (by decide) hd)) hs35) rfl ?_
    refine hq_p 1 287 [some (.ref 174), some (.int a1), some (.int a2)] [.ref 174] (fun n h => rfl) ?_
    refine hq_gf (x := .ref 192) rfl rfl rfl rfl rfl ?_
    obtain ⟨s36, hs36, h⟩ := hq_bind h
    refine hq_ist rfl rfl rfl (Nat.le_trans (by decide) hd) rfl (f_X12_half_run (Nat.le_sub_of_add_le (Nat.le_trans (by decide) hd)) hs36) rfl ?_
    refine hq_p 1 294 [some (.ref 174), some (.int a1), some (.int a2)] [.ref 174] (fun n h => rfl) ?_
    refine hq_gf (x := .ref 193) rfl rfl rfl rfl rfl ?_
    obtain ⟨s37, hs37, h⟩ := hq_bind h
    refine hq_ist rfl rfl rfl (Nat.le_trans (by decide) hd) rfl (f_X12_half_run (Nat.le_sub_of_add_le (Nat.le_trans (by decide) hd)) hs37) rfl ?_
    refine hq_p 2 302 [some (.ref 174), some (.int a1), some (.int a2)] [.int (0 : Int32), .ref 174] (fun n h => rfl) ?_
    obtain ⟨s38, hs38, h⟩ := hq_bind h
    refine hq_pfi rfl rfl rfl rfl rfl hs38 ?_
    refine hq_p 2 307 [some (.ref 174), some (.int a1), some (.int a2)] [.int (-1 : Int32), .ref 174] (fun n h => rfl) ?_
    obtain ⟨s39, hs39, h⟩ := hq_bind h
    refine hq_pfi rfl rfl rfl rfl rfl hs39 ?_
    refine hq_p 2 312 [some (.ref 174), some (.int a1), some (.int a2)] [.int (0 : Int32), .ref 174] (fun n h => rfl) ?_
    obtain ⟨s40, hs40, h⟩ := hq_bind h
    refine hq_pfi rfl rfl rfl rfl rfl hs40 ?_
    refine hq_p 2 317 [some (.ref 174), some (.int a1), some (.int a2)] [.int (0 : Int32), .ref 174] (fun n h => rfl) ?_
    obtain ⟨s41, hs41, h⟩ := hq_bind h
    refine hq_pfi rfl rfl rfl rfl rfl hs41 ?_
    refine hq_p 1 321 [some (.ref 174), some (.int a1), some (.int a2)] [.ref 174] (fun n h => rfl) ?_
    obtain ⟨s42, hs42, h⟩ := hq_bind h
    refine hq_inv rfl rfl (Nat.le_trans (by decide) hd) rfl rfl (hq_rcv rfl rfl) (f_X12_begins_run (Nat.le_sub_of_add_le (Nat.le_trans (by decide) hd)) hs42) rfl ?_
    refine hq_p 1 325 [some (.ref 174), some (.int a1), some (.int a2)] [.ref 174] (fun n h => rfl) ?_
    refine hq_gf (x := .int (hq_gi s42 174 22)) rfl rfl rfl rfl rfl ?_
    cases h
    exact ⟨1, rfl⟩
  · rw [if_neg c19] at h
    refine hq_izF rfl (hq_c_eq_F c19) ?_
    refine hq_p 1 173 [some (.ref 174), some (.int a1), some (.int a2)] [.int (-1 : Int32)] (fun n h => rfl) ?_
    cases h
    exact ⟨1, rfl⟩
def f_X12_text_L127_B (n : Nat) (q127 : Int32 → Int32 → hq_S → Option (Int32 × hq_S)) (a1 : Int32) (a2 : Int32) (s : hq_S) : Option (Int32 × hq_S) := if (hq_gi s 174 28) = 0 then if (hq_gi s 174 26) = (4 : Int32) then f_X12_text_J149 n a1 a2 s else (f_X12_line n s).bind fun s44 => q127 a1 a2 s44 else f_X12_text_J149 n a1 a2 s
def f_X12_text_L127 (n : Nat) (m : Nat) : Int32 → Int32 → hq_S → Option (Int32 × hq_S) := Nat.rec (fun _ _ _ => none) (fun _ q => f_X12_text_L127_B n q) m
theorem f_X12_text_L127_Brun {xs : List Int32} {n d g : Nat} {a1 : Int32} {a2 : Int32} {q127 : Int32 → Int32 → hq_S → Option (Int32 × hq_S)} {s : hq_S} {y : (Int32 × hq_S)} (hd : 212 ≤ d) (e127 : ∀ (a1 : Int32) (a2 : Int32) (s : hq_S), q127 a1 a2 s = some y → hq_R (mm_O xs) d mc_X12_text 127 [some (.ref 174), some (.int a1), some (.int a2)] [] s g (some (.int y.1)) y.2) (h : f_X12_text_L127_B n q127 a1 a2 s = some y) : hq_R (mm_O xs) d mc_X12_text 127 [some (.ref 174), some (.int a1), some (.int a2)] [] s g (some (.int y.1)) y.2 := by
  unfold f_X12_text_L127_B at h
  refine hq_p 1 128 [some (.ref 174), some (.int a1), some (.int a2)] [.ref 174] (fun n h => rfl) ?_
  refine hq_gf (x := .int (hq_gi s 174 28)) rfl rfl rfl rfl rfl ?_
  by_cases c16 : (hq_gi s 174 28) = 0
  · rw [if_pos c16] at h
    refine hq_izF rfl (hq_c_ne_F c16) ?_
    refine hq_p 1 135 [some (.ref 174), some (.int a1), some (.int a2)] [.ref 174] (fun n h => rfl) ?_
    refine hq_gf (x := .int (hq_gi s 174 26)) rfl rfl rfl rfl rfl ?_
    refine hq_p 1 139 [some (.ref 174), some (.int a1), some (.int a2)] [.int (4 : Int32), .int (hq_gi s 174 26)] (fun n h => rfl) ?_
    by_cases c43 : (hq_gi s 174 26) = (4 : Int32)
    · rw [if_pos c43] at h
      refine hq_icT rfl (hq_c_eq_T c43) ?_
      exact f_X12_text_J149_run hd h
    · rw [if_neg c43] at h
      refine hq_icF rfl (hq_c_eq_F c43) ?_
      refine hq_p 1 143 [some (.ref 174), some (.int a1), some (.int a2)] [.ref 174] (fun n h => rfl) ?_
      obtain ⟨s44, hs44, h⟩ := hq_bind h
      refine hq_inv rfl rfl (Nat.le_trans (by decide) hd) rfl rfl (hq_rcv rfl rfl) (f_X12_line_run (Nat.le_sub_of_add_le (Nat.le_trans (by decide) hd)) hs44) rfl ?_
      refine hq_p 1 127 [some (.ref 174), some (.int a1), some (.int a2)] [] (fun n h => rfl) ?_
      exact e127 a1 a2 s44 h
  · rw [if_neg c16] at h
    refine hq_izT rfl (hq_c_ne_T c16) ?_
    exact f_X12_text_J149_run hd h
theorem f_X12_text_L127_run {xs : List Int32} {n m d g : Nat} {a1 : Int32} {a2 : Int32} {s : hq_S} {y : (Int32 × hq_S)} (hd : 212 ≤ d) (h : f_X12_text_L127 n m a1 a2 s = some y) : hq_R (mm_O xs) d mc_X12_text 127 [some (.ref 174), some (.int a1), some (.int a2)] [] s g (some (.int y.1)) y.2 := by
  induction m generalizing a1 a2 s with
  | zero => cases h
  | succ m ih => exact f_X12_text_L127_Brun (n := n) hd (fun a1 a2 s h => ih h) h
def f_X12_text_L77_B (n : Nat) (q77 : Int32 → Int32 → hq_S → Option (Int32 × hq_S)) (a1 : Int32) (a2 : Int32) (s : hq_S) : Option (Int32 × hq_S) := if a2 < (6 : Int32) then (hq_st s 190 6 a2 (0 : Int32)).bind fun s45 => (hq_st s45 191 6 a2 (0 : Int32)).bind fun s46 => q77 a1 (a2 + (1 : Int32)) s46 else (hq_pi s 174 21 0 (0 : Int32)).bind fun s11 => (hq_pi s11 174 22 0 (0 : Int32)).bind fun s12 => (hq_pi s12 174 32 0 (0 : Int32)).bind fun s13 => (hq_pi s13 174 33 0 (0 : Int32)).bind fun s14 => (f_X12_token n s14).bind fun s15 => f_X12_text_L127 n n a1 a2 s15
def f_X12_text_L77 (n : Nat) (m : Nat) : Int32 → Int32 → hq_S → Option (Int32 × hq_S) := Nat.rec (fun _ _ _ => none) (fun _ q => f_X12_text_L77_B n q) m
theorem f_X12_text_L77_Brun {xs : List Int32} {n d g : Nat} {a1 : Int32} {a2 : Int32} {q77 : Int32 → Int32 → hq_S → Option (Int32 × hq_S)} {s : hq_S} {y : (Int32 × hq_S)} (hd : 212 ≤ d) (e77 : ∀ (a1 : Int32) (a2 : Int32) (s : hq_S), q77 a1 a2 s = some y → hq_R (mm_O xs) d mc_X12_text 77 [some (.ref 174), some (.int a1), some (.int a2)] [] s g (some (.int y.1)) y.2) (h : f_X12_text_L77_B n q77 a1 a2 s = some y) : hq_R (mm_O xs) d mc_X12_text 77 [some (.ref 174), some (.int a1), some (.int a2)] [] s g (some (.int y.1)) y.2 := by
  unfold f_X12_text_L77_B at h
  refine hq_p 2 80 [some (.ref 174), some (.int a1), some (.int a2)] [.int (6 : Int32), .int a2] (fun n h => rfl) ?_
  by_cases c10 : a2 < (6 : Int32)
  · rw [if_pos c10] at h
    refine hq_icF rfl (hq_c_ge_F c10) ?_
    refine hq_p 1 84 [some (.ref 174), some (.int a1), some (.int a2)] [.ref 174] (fun n h => rfl) ?_
    refine hq_gf (x := .ref 190) rfl rfl rfl rfl rfl ?_
    refine hq_p 2 89 [some (.ref 174), some (.int a1), some (.int a2)] [.int (0 : Int32), .int a2, .ref 190] (fun n h => rfl) ?_
    obtain ⟨s45, hs45, h⟩ := hq_bind h
    refine hq_iastore rfl rfl rfl hs45 ?_
    refine hq_p 1 91 [some (.ref 174), some (.int a1), some (.int a2)] [.ref 174] (fun n h => rfl) ?_
    refine hq_gf (x := .ref 191) rfl rfl rfl rfl rfl ?_
    refine hq_p 2 96 [some (.ref 174), some (.int a1), some (.int a2)] [.int (0 : Int32), .int a2, .ref 191] (fun n h => rfl) ?_
    obtain ⟨s46, hs46, h⟩ := hq_bind h
    refine hq_iastore rfl rfl rfl hs46 ?_
    refine hq_p 2 77 [some (.ref 174), some (.int a1), some (.int (a2 + (1 : Int32)))] [] (fun n h => rfl) ?_
    exact e77 a1 (a2 + (1 : Int32)) s46 h
  · rw [if_neg c10] at h
    refine hq_icT rfl (hq_c_ge_T c10) ?_
    refine hq_p 2 105 [some (.ref 174), some (.int a1), some (.int a2)] [.int (0 : Int32), .ref 174] (fun n h => rfl) ?_
    obtain ⟨s11, hs11, h⟩ := hq_bind h
    refine hq_pfi rfl rfl rfl rfl rfl hs11 ?_
    refine hq_p 2 110 [some (.ref 174), some (.int a1), some (.int a2)] [.int (0 : Int32), .ref 174] (fun n h => rfl) ?_
    obtain ⟨s12, hs12, h⟩ := hq_bind h
    refine hq_pfi rfl rfl rfl rfl rfl hs12 ?_
    refine hq_p 2 115 [some (.ref 174), some (.int a1), some (.int a2)] [.int (0 : Int32), .ref 174] (fun n h => rfl) ?_
    obtain ⟨s13, hs13, h⟩ := hq_bind h
    refine hq_pfi rfl rfl rfl rfl rfl hs13 ?_
    refine hq_p 2 120 [some (.ref 174), some (.int a1), some (.int a2)] [.int (0 : Int32), .ref 174] (fun n h => rfl) ?_
    obtain ⟨s14, hs14, h⟩ := hq_bind h
    refine hq_pfi rfl rfl rfl rfl rfl hs14 ?_
    refine hq_p 1 124 [some (.ref 174), some (.int a1), some (.int a2)] [.ref 174] (fun n h => rfl) ?_
    obtain ⟨s15, hs15, h⟩ := hq_bind h
    refine hq_inv rfl rfl (Nat.le_trans (by decide) hd) rfl rfl (hq_rcv rfl rfl) (f_X12_token_run (Nat.le_sub_of_add_le (Nat.le_trans (by decide) hd)) hs15) rfl ?_
    exact f_X12_text_L127_run hd h
theorem f_X12_text_L77_run {xs : List Int32} {n m d g : Nat} {a1 : Int32} {a2 : Int32} {s : hq_S} {y : (Int32 × hq_S)} (hd : 212 ≤ d) (h : f_X12_text_L77 n m a1 a2 s = some y) : hq_R (mm_O xs) d mc_X12_text 77 [some (.ref 174), some (.int a1), some (.int a2)] [] s g (some (.int y.1)) y.2 := by
  induction m generalizing a1 a2 s with
  | zero => cases h
  | succ m ih => exact f_X12_text_L77_Brun (n := n) hd (fun a1 a2 s h => ih h) h
def f_X12_text_L47_B (n : Nat) (q47 : Int32 → Int32 → hq_S → Option (Int32 × hq_S)) (a1 : Int32) (a2 : Int32) (s : hq_S) : Option (Int32 × hq_S) := if a2 < (7 : Int32) then (if a2 = (4 : Int32) then some (100 : Int32) else some (0 : Int32)).bind fun z47 => (f_X12_reads n a2 z47 s).bind fun s49 => q47 a1 (a2 + (1 : Int32)) s49 else f_X12_text_L77 n n a1 (3 : Int32) s
def f_X12_text_L47 (n : Nat) (m : Nat) : Int32 → Int32 → hq_S → Option (Int32 × hq_S) := Nat.rec (fun _ _ _ => none) (fun _ q => f_X12_text_L47_B n q) m
theorem f_X12_text_L47_Brun {xs : List Int32} {n d g : Nat} {a1 : Int32} {a2 : Int32} {q47 : Int32 → Int32 → hq_S → Option (Int32 × hq_S)} {s : hq_S} {y : (Int32 × hq_S)} (hd : 212 ≤ d) (e47 : ∀ (a1 : Int32) (a2 : Int32) (s : hq_S), q47 a1 a2 s = some y → hq_R (mm_O xs) d mc_X12_text 47 [some (.ref 174), some (.int a1), some (.int a2)] [] s g (some (.int y.1)) y.2) (h : f_X12_text_L47_B n q47 a1 a2 s = some y) : hq_R (mm_O xs) d mc_X12_text 47 [some (.ref 174), some (.int a1), some (.int a2)] [] s g (some (.int y.1)) y.2 := by
  unfold f_X12_text_L47_B at h
  refine hq_p 2 50 [some (.ref 174), some (.int a1), some (.int a2)] [.int (7 : Int32), .int a2] (fun n h => rfl) ?_
  by_cases c9 : a2 < (7 : Int32)
  · rw [if_pos c9] at h
    refine hq_icF rfl (hq_c_ge_F c9) ?_
    refine hq_p 4 57 [some (.ref 174), some (.int a1), some (.int a2)] [.int (4 : Int32), .int a2, .int a2, .ref 174] (fun n h => rfl) ?_
    obtain ⟨z47, hz47, h⟩ := hq_bind h
    suffices hT : hq_R (mm_O xs) d mc_X12_text 66 [some (.ref 174), some (.int a1), some (.int a2)] [.int z47, .int a2, .ref 174] s g (some (.int y.1)) y.2 from by
      clear h
      have h := hz47
      by_cases c48 : a2 = (4 : Int32)
      · rw [if_pos c48] at h
        refine hq_icF rfl (hq_c_ne_F c48) ?_
        refine hq_p 2 66 [some (.ref 174), some (.int a1), some (.int a2)] [.int (100 : Int32), .int a2, .ref 174] (fun n h => rfl) ?_
        cases h
        exact hT
      · rw [if_neg c48] at h
        refine hq_icT rfl (hq_c_ne_T c48) ?_
        refine hq_p 1 66 [some (.ref 174), some (.int a1), some (.int a2)] [.int (0 : Int32), .int a2, .ref 174] (fun n h => rfl) ?_
        cases h
        exact hT
    obtain ⟨s49, hs49, h⟩ := hq_bind h
    refine hq_inv rfl rfl (Nat.le_trans (by decide) hd) rfl rfl (hq_rcv rfl rfl) (f_X12_reads_run (Nat.le_sub_of_add_le (Nat.le_trans (by decide) hd)) hs49) rfl ?_
    refine hq_p 2 47 [some (.ref 174), some (.int a1), some (.int (a2 + (1 : Int32)))] [] (fun n h => rfl) ?_
    exact e47 a1 (a2 + (1 : Int32)) s49 h
  · rw [if_neg c9] at h
    refine hq_icT rfl (hq_c_ge_T c9) ?_
    refine hq_p 2 77 [some (.ref 174), some (.int a1), some (.int (3 : Int32))] [] (fun n h => rfl) ?_
    exact f_X12_text_L77_run hd h
theorem f_X12_text_L47_run {xs : List Int32} {n m d g : Nat} {a1 : Int32} {a2 : Int32} {s : hq_S} {y : (Int32 × hq_S)} (hd : 212 ≤ d) (h : f_X12_text_L47 n m a1 a2 s = some y) : hq_R (mm_O xs) d mc_X12_text 47 [some (.ref 174), some (.int a1), some (.int a2)] [] s g (some (.int y.1)) y.2 := by
  induction m generalizing a1 a2 s with
  | zero => cases h
  | succ m ih => exact f_X12_text_L47_Brun (n := n) hd (fun a1 a2 s h => ih h) h
def f_X12_text (n : Nat) (a1 : Int32) (s : hq_S) : Option (Int32 × hq_S) := (hq_pi s 174 0 0 (0 : Int32)).bind fun s1 => if a1 < 0 then some ((-2 : Int32), s1) else if (hq_gi s1 174 2) < a1 then some ((-2 : Int32), s1) else (hq_pi s1 174 23 0 a1).bind fun s4 => (hq_pi s4 174 2 0 (0 : Int32)).bind fun s5 => (hq_pi s5 174 24 0 (0 : Int32)).bind fun s6 => (hq_pi s6 174 28 0 (0 : Int32)).bind fun s7 => (hq_pi s7 174 29 0 (-1 : Int32)).bind fun s8 => f_X12_text_L47 n n a1 (0 : Int32) s8
theorem f_X12_text_run {xs : List Int32} {n d g : Nat} {a1 : Int32} {s : hq_S} {y : (Int32 × hq_S)} (hd : 212 ≤ d) (h : f_X12_text n a1 s = some y) : hq_R (mm_O xs) d mc_X12_text 0 [some (.ref 174), some (.int a1), none] [] s g (some (.int y.1)) y.2 := by
  unfold f_X12_text at h
  refine hq_p 2 2 [some (.ref 174), some (.int a1), none] [.int (0 : Int32), .ref 174] (fun n h => rfl) ?_
  obtain ⟨s1, hs1, h⟩ := hq_bind h
  refine hq_pfi rfl rfl rfl rfl rfl hs1 ?_
  refine hq_p 1 6 [some (.ref 174), some (.int a1), none] [.int a1] (fun n h => rfl) ?_
  by_cases c2 : a1 < 0
  · rw [if_pos c2] at h
    refine hq_izT rfl (hq_c_lt_T c2) ?_
    refine hq_p 1 19 [some (.ref 174), some (.int a1), none] [.int (-2 : Int32)] (fun n h => rfl) ?_
    cases h
    exact ⟨1, rfl⟩
  · rw [if_neg c2] at h
    refine hq_izF rfl (hq_c_lt_F c2) ?_
    refine hq_p 2 11 [some (.ref 174), some (.int a1), none] [.ref 174, .int a1] (fun n h => rfl) ?_
    refine hq_gf (x := .int (hq_gi s1 174 2)) rfl rfl rfl rfl rfl ?_
    by_cases c3 : (hq_gi s1 174 2) < a1
    · rw [if_pos c3] at h
      refine hq_icF rfl (hq_c_le_F c3) ?_
      refine hq_p 1 19 [some (.ref 174), some (.int a1), none] [.int (-2 : Int32)] (fun n h => rfl) ?_
      cases h
      exact ⟨1, rfl⟩
    · rw [if_neg c3] at h
      refine hq_icT rfl (hq_c_le_T c3) ?_
      refine hq_p 2 22 [some (.ref 174), some (.int a1), none] [.int a1, .ref 174] (fun n h => rfl) ?_
      obtain ⟨s4, hs4, h⟩ := hq_bind h
      refine hq_pfi rfl rfl rfl rfl rfl hs4 ?_
      refine hq_p 2 27 [some (.ref 174), some (.int a1), none] [.int (0 : Int32), .ref 174] (fun n h => rfl) ?_
      obtain ⟨s5, hs5, h⟩ := hq_bind h
      refine hq_pfi rfl rfl rfl rfl rfl hs5 ?_
      refine hq_p 2 32 [some (.ref 174), some (.int a1), none] [.int (0 : Int32), .ref 174] (fun n h => rfl) ?_
      obtain ⟨s6, hs6, h⟩ := hq_bind h
      refine hq_pfi rfl rfl rfl rfl rfl hs6 ?_
      refine hq_p 2 37 [some (.ref 174), some (.int a1), none] [.int (0 : Int32), .ref 174] (fun n h => rfl) ?_
      obtain ⟨s7, hs7, h⟩ := hq_bind h
      refine hq_pfi rfl rfl rfl rfl rfl hs7 ?_
      refine hq_p 2 42 [some (.ref 174), some (.int a1), none] [.int (-1 : Int32), .ref 174] (fun n h => rfl) ?_
      obtain ⟨s8, hs8, h⟩ := hq_bind h
      refine hq_pfi rfl rfl rfl rfl rfl hs8 ?_
      refine hq_p 2 47 [some (.ref 174), some (.int a1), some (.int (0 : Int32))] [] (fun n h => rfl) ?_
      exact f_X12_text_L47_run hd h
def f_X12_fault (n : Nat) (a1 : Int32) (s : hq_S) : Option (Int32 × hq_S) := (hq_pi s 174 0 0 (0 : Int32)).bind fun s1 => if a1 = 0 then some ((hq_gi s1 174 30), s1) else if a1 = (1 : Int32) then some ((hq_gi s1 174 31), s1) else some ((-1 : Int32), s1)
theorem f_X12_fault_run {xs : List Int32} {n d g : Nat} {a1 : Int32} {s : hq_S} {y : (Int32 × hq_S)} (hd : 0 ≤ d) (h : f_X12_fault n a1 s = some y) : hq_R (mm_O xs) d mc_X12_fault 0 [some (.ref 174), some (.int a1)] [] s g (some (.int y.1)) y.2 := by
  unfold f_X12_fault at h
  refine hq_p 2 2 [some (.ref 174), some (.int a1)] [.int (0 : Int32), .ref 174] (fun n h => rfl) ?_
  obtain ⟨s1, hs1, h⟩ := hq_bind h
  refine hq_pfi rfl rfl rfl rfl rfl hs1 ?_
  refine hq_p 1 6 [some (.ref 174), some (.int a1)] [.int a1] (fun n h => rfl) ?_
  by_cases c2 : a1 = 0
  · rw [if_pos c2] at h
    refine hq_izF rfl (hq_c_ne_F c2) ?_
    refine hq_p 1 10 [some (.ref 174), some (.int a1)] [.ref 174] (fun n h => rfl) ?_
    refine hq_gf (x := .int (hq_gi s1 174 30)) rfl rfl rfl rfl rfl ?_
    refine hq_p 1 29 [some (.ref 174), some (.int a1)] [.int (hq_gi s1 174 30)] (fun n h => rfl) ?_
    cases h
    exact ⟨1, rfl⟩
  · rw [if_neg c2] at h
    refine hq_izT rfl (hq_c_ne_T c2) ?_
    refine hq_p 2 18 [some (.ref 174), some (.int a1)] [.int (1 : Int32), .int a1] (fun n h => rfl) ?_
    by_cases c3 : a1 = (1 : Int32)
    · rw [if_pos c3] at h
      refine hq_icF rfl (hq_c_ne_F c3) ?_
      refine hq_p 1 22 [some (.ref 174), some (.int a1)] [.ref 174] (fun n h => rfl) ?_
      refine hq_gf (x := .int (hq_gi s1 174 31)) rfl rfl rfl rfl rfl ?_
      refine hq_p 1 29 [some (.ref 174), some (.int a1)] [.int (hq_gi s1 174 31)] (fun n h => rfl) ?_
      cases h
      exact ⟨1, rfl⟩
    · rw [if_neg c3] at h
      refine hq_icT rfl (hq_c_ne_T c3) ?_
      refine hq_p 1 29 [some (.ref 174), some (.int a1)] [.int (-1 : Int32)] (fun n h => rfl) ?_
      cases h
      exact ⟨1, rfl⟩
def f_X12_named (n : Nat) (a1 : Int32) (a2 : Int32) (s : hq_S) : Option (Int32 × hq_S) := (hq_pi s 174 0 0 (0 : Int32)).bind fun s1 => if a1 = (0 : Int32) then (hq_ld s1 176 14 (0 : Int32)).bind fun x3 => (f_X12_found n 177 (0 : Int32) x3 a2 s1).bind fun y4 => some (y4.1, y4.2) else if a1 = (1 : Int32) then (hq_ld s1 176 14 (2 : Int32)).bind fun x6 => (f_X12_found n 183 (0 : Int32) x6 a2 s1).bind fun y7 => some (y7.1, y7.2) else if a1 = (2 : Int32) then (hq_ld s1 176 14 (3 : Int32)).bind fun x9 => (f_X12_found n 187 (0 : Int32) x9 a2 s1).bind fun y10 => some (y10.1, y10.2) else some ((-1 : Int32), s1)
theorem f_X12_named_run {xs : List Int32} {n d g : Nat} {a1 : Int32} {a2 : Int32} {s : hq_S} {y : (Int32 × hq_S)} (hd : 1 ≤ d) (h : f_X12_named n a1 a2 s = some y) : hq_R (mm_O xs) d mc_X12_named 0 [some (.ref 174), some (.int a1), some (.int a2)] [] s g (some (.int y.1)) y.2 := by
  unfold f_X12_named at h
  refine hq_p 2 2 [some (.ref 174), some (.int a1), some (.int a2)] [.int (0 : Int32), .ref 174] (fun n h => rfl) ?_
  obtain ⟨s1, hs1, h⟩ := hq_bind h
  refine hq_pfi rfl rfl rfl rfl rfl hs1 ?_
  refine hq_p 1 6 [some (.ref 174), some (.int a1), some (.int a2)] [.int a1] (fun n h => rfl) ?_
  by_cases c2 : a1 = (0 : Int32)
  · rw [if_pos c2] at h
    refine hq_tsw rfl (show _ = some 32 from by rw [c2]; decide) ?_
    refine hq_p 1 33 [some (.ref 174), some (.int a1), some (.int a2)] [.ref 174] (fun n h => rfl) ?_
    refine hq_gf (x := .ref 177) rfl rfl rfl rfl rfl ?_
    refine hq_p 2 38 [some (.ref 174), some (.int a1), some (.int a2)] [.ref 174, .int (0 : Int32), .ref 177] (fun n h => rfl) ?_
    refine hq_gf (x := .ref 176) rfl rfl rfl rfl rfl ?_
    refine hq_p 1 42 [some (.ref 174), some (.int a1), some (.int a2)] [.int (0 : Int32), .ref 176, .int (0 : Int32), .ref 177] (fun n h => rfl) ?_
    obtain ⟨x3, hx3, h⟩ := hq_bind h
    refine hq_iaload rfl rfl rfl hx3 ?_
    refine hq_p 1 44 [some (.ref 174), some (.int a1), some (.int a2)] [.int a2, .int x3, .int (0 : Int32), .ref 177] (fun n h => rfl) ?_
    obtain ⟨y4, hy4, h⟩ := hq_bind h
    refine hq_ist rfl rfl rfl (Nat.le_trans (by decide) hd) rfl (f_X12_found_run (Nat.le_sub_of_add_le (Nat.le_trans (by decide) hd)) hy4) rfl ?_
    cases h
    exact ⟨1, rfl⟩
  rw [if_neg c2] at h
  by_cases c5 : a1 = (1 : Int32)
  · rw [if_pos c5] at h
    refine hq_tsw rfl (show _ = some 48 from by rw [c5]; decide) ?_
    refine hq_p 1 49 [some (.ref 174), some (.int a1), some (.int a2)] [.ref 174] (fun n h => rfl) ?_
    refine hq_gf (x := .ref 183) rfl rfl rfl rfl rfl ?_
    refine hq_p 2 54 [some (.ref 174), some (.int a1), some (.int a2)] [.ref 174, .int (0 : Int32), .ref 183] (fun n h => rfl) ?_
    refine hq_gf (x := .ref 176) rfl rfl rfl rfl rfl ?_
    refine hq_p 1 58 [some (.ref 174), some (.int a1), some (.int a2)] [.int (2 : Int32), .ref 176, .int (0 : Int32), .ref 183] (fun n h => rfl) ?_
    obtain ⟨x6, hx6, h⟩ := hq_bind h
    refine hq_iaload rfl rfl rfl hx6 ?_
    refine hq_p 1 60 [some (.ref 174), some (.int a1), some (.int a2)] [.int a2, .int x6, .int (0 : Int32), .ref 183] (fun n h => rfl) ?_
    obtain ⟨y7, hy7, h⟩ := hq_bind h
    refine hq_ist rfl rfl rfl (Nat.le_trans (by decide) hd) rfl (f_X12_found_run (Nat.le_sub_of_add_le (Nat.le_trans (by decide) hd)) hy7) rfl ?_
    cases h
    exact ⟨1, rfl⟩
  rw [if_neg c5] at h
  by_cases c8 : a1 = (2 : Int32)
  · rw [if_pos c8] at h
    refine hq_tsw rfl (show _ = some 64 from by rw [c8]; decide) ?_
    refine hq_p 1 65 [some (.ref 174), some (.int a1), some (.int a2)] [.ref 174] (fun n h => rfl) ?_
    refine hq_gf (x := .ref 187) rfl rfl rfl rfl rfl ?_
    refine hq_p 2 70 [some (.ref 174), some (.int a1), some (.int a2)] [.ref 174, .int (0 : Int32), .ref 187] (fun n h => rfl) ?_
    refine hq_gf (x := .ref 176) rfl rfl rfl rfl rfl ?_
    refine hq_p 1 74 [some (.ref 174), some (.int a1), some (.int a2)] [.int (3 : Int32), .ref 176, .int (0 : Int32), .ref 187] (fun n h => rfl) ?_
    obtain ⟨x9, hx9, h⟩ := hq_bind h
    refine hq_iaload rfl rfl rfl hx9 ?_
    refine hq_p 1 76 [some (.ref 174), some (.int a1), some (.int a2)] [.int a2, .int x9, .int (0 : Int32), .ref 187] (fun n h => rfl) ?_
    obtain ⟨y10, hy10, h⟩ := hq_bind h
    refine hq_ist rfl rfl rfl (Nat.le_trans (by decide) hd) rfl (f_X12_found_run (Nat.le_sub_of_add_le (Nat.le_trans (by decide) hd)) hy10) rfl ?_
    cases h
    exact ⟨1, rfl⟩
  rw [if_neg c8] at h
  refine hq_tsw rfl (hq_tsw_d [(0 : Int32), (1 : Int32), (2 : Int32)] (by decide) rfl ⟨c2, c5, c8, trivial⟩) ?_
  refine hq_p 1 81 [some (.ref 174), some (.int a1), some (.int a2)] [.int (-1 : Int32)] (fun n h => rfl) ?_
  cases h
  exact ⟨1, rfl⟩
def f_X12_is (n : Nat) (a0 : Int32) (s : hq_S) : Option (Int64 × hq_S) := if a0 = 0 then some ((0 : Int64), s) else some ((1 : Int64), s)
theorem f_X12_is_run {xs : List Int32} {n d g : Nat} {a0 : Int32} {s : hq_S} {y : (Int64 × hq_S)} (hd : 0 ≤ d) (h : f_X12_is n a0 s = some y) : hq_R (mm_O xs) d mc_X12_is 0 [some (.int a0)] [] s g (some (.long y.1)) y.2 := by
  unfold f_X12_is at h
  refine hq_p 1 1 [some (.int a0)] [.int a0] (fun n h => rfl) ?_
  by_cases c1 : a0 = 0
  · rw [if_pos c1] at h
    refine hq_izT rfl (hq_c_eq_T c1) ?_
    refine hq_p 1 9 [some (.int a0)] [.long (0 : Int64)] (fun n h => rfl) ?_
    cases h
    exact ⟨1, rfl⟩
  · rw [if_neg c1] at h
    refine hq_izF rfl (hq_c_eq_F c1) ?_
    refine hq_p 2 9 [some (.int a0)] [.long (1 : Int64)] (fun n h => rfl) ?_
    cases h
    exact ⟨1, rfl⟩
def f_X12_works_J407 (n : Nat) (a1 : Int32) (j2 : Int64) (j4 : Int64) (j6 : Int64) (s : hq_S) : Option (Int32 × hq_S) := (hq_stj s 195 64 ((hq_gi s 174 36) - (1 : Int32)) j6).bind fun s7 => if 0 < (lg_cmp j6 (1000000000000 : Int64)) then some ((0 : Int32), s7) else if (lg_cmp j6 (-1000000000000 : Int64)) < 0 then some ((0 : Int32), s7) else some ((1 : Int32), s7)
theorem f_X12_works_J407_run {xs : List Int32} {n d g : Nat} {a1 : Int32} {j2 : Int64} {j4 : Int64} {j6 : Int64} {s : hq_S} {y : (Int32 × hq_S)} (hd : 1 ≤ d) (h : f_X12_works_J407 n a1 j2 j4 j6 s = some y) : hq_R (mm_O xs) d mc_X12_works 407 [some (.ref 174), some (.int a1), some (.long j2), none, some (.long j4), none, some (.long j6), none] [] s g (some (.int y.1)) y.2 := by
  unfold f_X12_works_J407 at h
  refine hq_p 1 408 [some (.ref 174), some (.int a1), some (.long j2), none, some (.long j4), none, some (.long j6), none] [.ref 174] (fun n h => rfl) ?_
  refine hq_gf (x := .ref 195) rfl rfl rfl rfl rfl ?_
  refine hq_p 1 412 [some (.ref 174), some (.int a1), some (.long j2), none, some (.long j4), none, some (.long j6), none] [.ref 174, .ref 195] (fun n h => rfl) ?_
  refine hq_gf (x := .int (hq_gi s 174 36)) rfl rfl rfl rfl rfl ?_
  refine hq_p 3 419 [some (.ref 174), some (.int a1), some (.long j2), none, some (.long j4), none, some (.long j6), none] [.long j6, .int ((hq_gi s 174 36) - (1 : Int32)), .ref 195] (fun n h => rfl) ?_
  obtain ⟨s7, hs7, h⟩ := hq_bind h
  refine hq_lastore rfl rfl rfl hs7 ?_
  refine hq_p 3 426 [some (.ref 174), some (.int a1), some (.long j2), none, some (.long j4), none, some (.long j6), none] [.int (lg_cmp j6 (1000000000000 : Int64))] (fun n h => rfl) ?_
  by_cases c8 : 0 < (lg_cmp j6 (1000000000000 : Int64))
  · rw [if_pos c8] at h
    refine hq_izT rfl (hq_c_gt_T c8) ?_
    refine hq_p 1 443 [some (.ref 174), some (.int a1), some (.long j2), none, some (.long j4), none, some (.long j6), none] [.int (0 : Int32)] (fun n h => rfl) ?_
    cases h
    exact ⟨1, rfl⟩
  · rw [if_neg c8] at h
    refine hq_izF rfl (hq_c_gt_F c8) ?_
    refine hq_p 3 435 [some (.ref 174), some (.int a1), some (.long j2), none, some (.long j4), none, some (.long j6), none] [.int (lg_cmp j6 (-1000000000000 : Int64))] (fun n h => rfl) ?_
    by_cases c9 : (lg_cmp j6 (-1000000000000 : Int64)) < 0
    · rw [if_pos c9] at h
      refine hq_izT rfl (hq_c_lt_T c9) ?_
      refine hq_p 1 443 [some (.ref 174), some (.int a1), some (.long j2), none, some (.long j4), none, some (.long j6), none] [.int (0 : Int32)] (fun n h => rfl) ?_
      cases h
      exact ⟨1, rfl⟩
    · rw [if_neg c9] at h
      refine hq_izF rfl (hq_c_lt_F c9) ?_
      refine hq_p 2 443 [some (.ref 174), some (.int a1), some (.long j2), none, some (.long j4), none, some (.long j6), none] [.int (1 : Int32)] (fun n h => rfl) ?_
      cases h
      exact ⟨1, rfl⟩
def f_X12_works_J212 (n : Nat) (a1 : Int32) (j2 : Int64) (j4 : Int64) (s : hq_S) : Option (Int32 × hq_S) := f_X12_works_J407 n a1 j2 j4 (j4 * j2) s
theorem f_X12_works_J212_run {xs : List Int32} {n d g : Nat} {a1 : Int32} {j2 : Int64} {j4 : Int64} {s : hq_S} {y : (Int32 × hq_S)} (hd : 1 ≤ d) (h : f_X12_works_J212 n a1 j2 j4 s = some y) : hq_R (mm_O xs) d mc_X12_works 212 [some (.ref 174), some (.int a1), some (.long j2), none, some (.long j4), none, none, none] [] s g (some (.int y.1)) y.2 := by
  unfold f_X12_works_J212 at h
  refine hq_p 5 407 [some (.ref 174), some (.int a1), some (.long j2), none, some (.long j4), none, some (.long (j4 * j2)), none] [] (fun n h => rfl) ?_
  exact f_X12_works_J407_run hd h
def f_X12_works (n : Nat) (a1 : Int32) (s : hq_S) : Option (Int32 × hq_S) := (hq_ldj s 195 64 ((hq_gi s 174 36) - (1 : Int32))).bind fun x1 => if a1 = (260 : Int32) then (if (lg_cmp x1 (0 : Int64)) = 0 then some (1 : Int32) else some (0 : Int32)).bind fun z50 => (f_X12_is n z50 s).bind fun y52 => (hq_stj y52.2 195 64 ((hq_gi s 174 36) - (1 : Int32)) y52.1).bind fun s53 => some ((1 : Int32), s53) else (hq_ldj s 195 64 ((hq_gi s 174 36) - (2 : Int32))).bind fun x3 => (hq_pi s 174 36 0 ((hq_gi s 174 36) - (1 : Int32))).bind fun s4 => if a1 = (42 : Int32) then if (lg_cmp x3 (0 : Int64)) = 0 then f_X12_works_J212 n a1 x1 x3 s4 else (hq_ldiv (1000000000000 : Int64) (hq_absj x3)).bind fun x10 => if 0 < (lg_cmp (hq_absj x1) x10) then some ((0 : Int32), s4) else f_X12_works_J212 n a1 x1 x3 s4 else if a1 = (43 : Int32) then f_X12_works_J407 n a1 x1 x3 (x3 + x1) s4 else if a1 = (45 : Int32) then f_X12_works_J407 n a1 x1 x3 (x3 - x1) s4 else if a1 = (47 : Int32) then if (lg_cmp x1 (0 : Int64)) = 0 then some ((0 : Int32), s4) else (hq_ldiv x3 x1).bind fun x16 => f_X12_works_J407 n a1 x1 x3 x16 s4 else if a1 = (60 : Int32) then (if (lg_cmp x3 x1) < 0 then some (1 : Int32) else some (0 : Int32)).bind fun z18 => (f_X12_is n z18 s4).bind fun y20 => f_X12_works_J407 n a1 x1 x3 y20.1 y20.2 else if a1 = (61 : Int32) then (if (lg_cmp x3 x1) = 0 then some (1 : Int32) else some (0 : Int32)).bind fun z22 => (f_X12_is n z22 s4).bind fun y24 => f_X12_works_J407 n a1 x1 x3 y24.1 y24.2 else if a1 = (62 : Int32) then (if 0 < (lg_cmp x3 x1) then some (1 : Int32) else some (0 : Int32)).bind fun z26 => (f_X12_is n z26 s4).bind fun y28 => f_X12_works_J407 n a1 x1 x3 y28.1 y28.2 else if a1 = (256 : Int32) then (if 0 < (lg_cmp x3 x1) then some (0 : Int32) else some (1 : Int32)).bind fun z30 => (f_X12_is n z30 s4).bind fun y32 => f_X12_works_J407 n a1 x1 x3 y32.1 y32.2 else if a1 = (257 : Int32) then (if (lg_cmp x3 x1) = 0 then some (0 : Int32) else some (1 : Int32)).bind fun z34 => (f_X12_is n z34 s4).bind fun y36 => f_X12_works_J407 n a1 x1 x3 y36.1 y36.2 else if a1 = (258 : Int32) then (if (lg_cmp x3 x1) < 0 then some (0 : Int32) else some (1 : Int32)).bind fun z38 => (f_X12_is n z38 s4).bind fun y40 => f_X12_works_J407 n a1 x1 x3 y40.1 y40.2 else if a1 = (261 : Int32) then (if (lg_cmp x3 (0 : Int64)) = 0 then some (0 : Int32) else if (lg_cmp x1 (0 : Int64)) = 0 then some (0 : Int32) else some (1 : Int32)).bind fun z42 => (f_X12_is n z42 s4).bind fun y45 => f_X12_works_J407 n a1 x1 x3 y45.1 y45.2 else (if (lg_cmp x3 (0 : Int64)) = 0 then if (lg_cmp x1 (0 : Int64)) = 0 then some (0 : Int32) else some (1 : Int32) else some (1 : Int32)).bind fun z46 => (f_X12_is n z46 s4).bind fun y49 => f_X12_works_J407 n a1 x1 x3 y49.1 y49.2
theorem f_X12_works_run {xs : List Int32} {n d g : Nat} {a1 : Int32} {s : hq_S} {y : (Int32 × hq_S)} (hd : 1 ≤ d) (h : f_X12_works n a1 s = some y) : hq_R (mm_O xs) d mc_X12_works 0 [some (.ref 174), some (.int a1), none, none, none, none, none, none] [] s g (some (.int y.1)) y.2 := by
  unfold f_X12_works at h
  refine hq_p 1 1 [some (.ref 174), some (.int a1), none, none, none, none, none, none] [.ref 174] (fun n h => rfl) ?_
  refine hq_gf (x := .ref 195) rfl rfl rfl rfl rfl ?_
  refine hq_p 1 5 [some (.ref 174), some (.int a1), none, none, none, none, none, none] [.ref 174, .ref 195] (fun n h => rfl) ?_
  refine hq_gf (x := .int (hq_gi s 174 36)) rfl rfl rfl rfl rfl ?_
  refine hq_p 2 10 [some (.ref 174), some (.int a1), none, none, none, none, none, none] [.int ((hq_gi s 174 36) - (1 : Int32)), .ref 195] (fun n h => rfl) ?_
  obtain ⟨x1, hx1, h⟩ := hq_bind h
  refine hq_laload rfl rfl rfl hx1 ?_
  refine hq_p 3 16 [some (.ref 174), some (.int a1), some (.long x1), none, none, none, none, none] [.int (260 : Int32), .int a1] (fun n h => rfl) ?_
  by_cases c2 : a1 = (260 : Int32)
  · rw [if_pos c2] at h
    refine hq_icF rfl (hq_c_ne_F c2) ?_
    refine hq_p 1 20 [some (.ref 174), some (.int a1), some (.long x1), none, none, none, none, none] [.ref 174] (fun n h => rfl) ?_
    refine hq_gf (x := .ref 195) rfl rfl rfl rfl rfl ?_
    refine hq_p 1 24 [some (.ref 174), some (.int a1), some (.long x1), none, none, none, none, none] [.ref 174, .ref 195] (fun n h => rfl) ?_
    refine hq_gf (x := .int (hq_gi s 174 36)) rfl rfl rfl rfl rfl ?_
    refine hq_p 5 32 [some (.ref 174), some (.int a1), some (.long x1), none, none, none, none, none] [.int (lg_cmp x1 (0 : Int64)), .int ((hq_gi s 174 36) - (1 : Int32)), .ref 195] (fun n h => rfl) ?_
    obtain ⟨z50, hz50, h⟩ := hq_bind h
    suffices hT : hq_R (mm_O xs) d mc_X12_works 40 [some (.ref 174), some (.int a1), some (.long x1), none, none, none, none, none] [.int z50, .int ((hq_gi s 174 36) - (1 : Int32)), .ref 195] s g (some (.int y.1)) y.2 from by
      clear h
      have h := hz50
      by_cases c51 : (lg_cmp x1 (0 : Int64)) = 0
      · rw [if_pos c51] at h
        refine hq_izF rfl (hq_c_ne_F c51) ?_
        refine hq_p 2 40 [some (.ref 174), some (.int a1), some (.long x1), none, none, none, none, none] [.int (1 : Int32), .int ((hq_gi s 174 36) - (1 : Int32)), .ref 195] (fun n h => rfl) ?_
        cases h
        exact hT
      · rw [if_neg c51] at h
        refine hq_izT rfl (hq_c_ne_T c51) ?_
        refine hq_p 1 40 [some (.ref 174), some (.int a1), some (.long x1), none, none, none, none, none] [.int (0 : Int32), .int ((hq_gi s 174 36) - (1 : Int32)), .ref 195] (fun n h => rfl) ?_
        cases h
        exact hT
    obtain ⟨y52, hy52, h⟩ := hq_bind h
    refine hq_ist rfl rfl rfl (Nat.le_trans (by decide) hd) rfl (f_X12_is_run (Nat.le_sub_of_add_le (Nat.le_trans (by decide) hd)) hy52) rfl ?_
    obtain ⟨s53, hs53, h⟩ := hq_bind h
    refine hq_lastore rfl rfl rfl hs53 ?_
    refine hq_p 1 45 [some (.ref 174), some (.int a1), some (.long x1), none, none, none, none, none] [.int (1 : Int32)] (fun n h => rfl) ?_
    cases h
    exact ⟨1, rfl⟩
  · rw [if_neg c2] at h
    refine hq_icT rfl (hq_c_ne_T c2) ?_
    refine hq_p 1 47 [some (.ref 174), some (.int a1), some (.long x1), none, none, none, none, none] [.ref 174] (fun n h => rfl) ?_
    refine hq_gf (x := .ref 195) rfl rfl rfl rfl rfl ?_
    refine hq_p 1 51 [some (.ref 174), some (.int a1), some (.long x1), none, none, none, none, none] [.ref 174, .ref 195] (fun n h => rfl) ?_
    refine hq_gf (x := .int (hq_gi s 174 36)) rfl rfl rfl rfl rfl ?_
    refine hq_p 2 56 [some (.ref 174), some (.int a1), some (.long x1), none, none, none, none, none] [.int ((hq_gi s 174 36) - (2 : Int32)), .ref 195] (fun n h => rfl) ?_
    obtain ⟨x3, hx3, h⟩ := hq_bind h
    refine hq_laload rfl rfl rfl hx3 ?_
    refine hq_p 3 61 [some (.ref 174), some (.int a1), some (.long x1), none, some (.long x3), none, none, none] [.ref 174, .ref 174] (fun n h => rfl) ?_
    refine hq_gf (x := .int (hq_gi s 174 36)) rfl rfl rfl rfl rfl ?_
    refine hq_p 2 66 [some (.ref 174), some (.int a1), some (.long x1), none, some (.long x3), none, none, none] [.int ((hq_gi s 174 36) - (1 : Int32)), .ref 174] (fun n h => rfl) ?_
    obtain ⟨s4, hs4, h⟩ := hq_bind h
    refine hq_pfi rfl rfl rfl rfl rfl hs4 ?_
    refine hq_p 1 70 [some (.ref 174), some (.int a1), some (.long x1), none, some (.long x3), none, none, none] [.int a1] (fun n h => rfl) ?_
    by_cases c5 : a1 = (42 : Int32)
    · rw [if_pos c5] at h
      refine hq_lsw rfl (show _ = some 186 from by rw [c5]; decide) ?_
      refine hq_p 3 190 [some (.ref 174), some (.int a1), some (.long x1), none, some (.long x3), none, none, none] [.int (lg_cmp x3 (0 : Int64))] (fun n h => rfl) ?_
      by_cases c6 : (lg_cmp x3 (0 : Int64)) = 0
      · rw [if_pos c6] at h
        refine hq_izT rfl (hq_c_eq_T c6) ?_
        exact f_X12_works_J212_run hd h
      · rw [if_neg c6] at h
        refine hq_izF rfl (hq_c_eq_F c6) ?_
        refine hq_p 1 194 [some (.ref 174), some (.int a1), some (.long x1), none, some (.long x3), none, none, none] [.long x1] (fun n h => rfl) ?_
        refine hq_math rfl rfl rfl (Nat.le_trans (by decide) hd) ?_
        refine hq_p 2 202 [some (.ref 174), some (.int a1), some (.long x1), none, some (.long x3), none, none, none] [.long x3, .long (1000000000000 : Int64), .long (hq_absj x1)] (fun n h => rfl) ?_
        refine hq_math rfl rfl rfl (Nat.le_trans (by decide) hd) ?_
        obtain ⟨x10, hx10, h⟩ := hq_bind h
        refine hq_ldiv_ rfl hx10 ?_
        refine hq_p 1 207 [some (.ref 174), some (.int a1), some (.long x1), none, some (.long x3), none, none, none] [.int (lg_cmp (hq_absj x1) x10)] (fun n h => rfl) ?_
        by_cases c11 : 0 < (lg_cmp (hq_absj x1) x10)
        · rw [if_pos c11] at h
          refine hq_izF rfl (hq_c_le_F c11) ?_
          refine hq_p 1 211 [some (.ref 174), some (.int a1), some (.long x1), none, some (.long x3), none, none, none] [.int (0 : Int32)] (fun n h => rfl) ?_
          cases h
          exact ⟨1, rfl⟩
        · rw [if_neg c11] at h
          refine hq_izT rfl (hq_c_le_T c11) ?_
          exact f_X12_works_J212_run hd h
    rw [if_neg c5] at h
    by_cases c12 : a1 = (43 : Int32)
    · rw [if_pos c12] at h
      refine hq_lsw rfl (show _ = some 168 from by rw [c12]; decide) ?_
      refine hq_p 5 407 [some (.ref 174), some (.int a1), some (.long x1), none, some (.long x3), none, some (.long (x3 + x1)), none] [] (fun n h => rfl) ?_
      exact f_X12_works_J407_run hd h
    rw [if_neg c12] at h
    by_cases c13 : a1 = (45 : Int32)
    · rw [if_pos c13] at h
      refine hq_lsw rfl (show _ = some 177 from by rw [c13]; decide) ?_
      refine hq_p 5 407 [some (.ref 174), some (.int a1), some (.long x1), none, some (.long x3), none, some (.long (x3 - x1)), none] [] (fun n h => rfl) ?_
      exact f_X12_works_J407_run hd h
    rw [if_neg c13] at h
    by_cases c14 : a1 = (47 : Int32)
    · rw [if_pos c14] at h
      refine hq_lsw rfl (show _ = some 221 from by rw [c14]; decide) ?_
      refine hq_p 3 224 [some (.ref 174), some (.int a1), some (.long x1), none, some (.long x3), none, none, none] [.int (lg_cmp x1 (0 : Int64))] (fun n h => rfl) ?_
      by_cases c15 : (lg_cmp x1 (0 : Int64)) = 0
      · rw [if_pos c15] at h
        refine hq_izF rfl (hq_c_ne_F c15) ?_
        refine hq_p 1 228 [some (.ref 174), some (.int a1), some (.long x1), none, some (.long x3), none, none, none] [.int (0 : Int32)] (fun n h => rfl) ?_
        cases h
        exact ⟨1, rfl⟩
      · rw [if_neg c15] at h
        refine hq_izT rfl (hq_c_ne_T c15) ?_
        refine hq_p 2 232 [some (.ref 174), some (.int a1), some (.long x1), none, some (.long x3), none, none, none] [.long x1, .long x3] (fun n h => rfl) ?_
        obtain ⟨x16, hx16, h⟩ := hq_bind h
        refine hq_ldiv_ rfl hx16 ?_
        refine hq_p 2 407 [some (.ref 174), some (.int a1), some (.long x1), none, some (.long x3), none, some (.long x16), none] [] (fun n h => rfl) ?_
        exact f_X12_works_J407_run hd h
    rw [if_neg c14] at h
    by_cases c17 : a1 = (60 : Int32)
    · rw [if_pos c17] at h
      refine hq_lsw rfl (show _ = some 238 from by rw [c17]; decide) ?_
      refine hq_p 3 242 [some (.ref 174), some (.int a1), some (.long x1), none, some (.long x3), none, none, none] [.int (lg_cmp x3 x1)] (fun n h => rfl) ?_
      obtain ⟨z18, hz18, h⟩ := hq_bind h
      suffices hT : hq_R (mm_O xs) d mc_X12_works 250 [some (.ref 174), some (.int a1), some (.long x1), none, some (.long x3), none, none, none] [.int z18] s4 g (some (.int y.1)) y.2 from by
        clear h
        have h := hz18
        by_cases c19 : (lg_cmp x3 x1) < 0
        · rw [if_pos c19] at h
          refine hq_izF rfl (hq_c_ge_F c19) ?_
          refine hq_p 2 250 [some (.ref 174), some (.int a1), some (.long x1), none, some (.long x3), none, none, none] [.int (1 : Int32)] (fun n h => rfl) ?_
          cases h
          exact hT
        · rw [if_neg c19] at h
          refine hq_izT rfl (hq_c_ge_T c19) ?_
          refine hq_p 1 250 [some (.ref 174), some (.int a1), some (.long x1), none, some (.long x3), none, none, none] [.int (0 : Int32)] (fun n h => rfl) ?_
          cases h
          exact hT
      obtain ⟨y20, hy20, h⟩ := hq_bind h
      refine hq_ist rfl rfl rfl (Nat.le_trans (by decide) hd) rfl (f_X12_is_run (Nat.le_sub_of_add_le (Nat.le_trans (by decide) hd)) hy20) rfl ?_
      refine hq_p 2 407 [some (.ref 174), some (.int a1), some (.long x1), none, some (.long x3), none, some (.long y20.1), none] [] (fun n h => rfl) ?_
      exact f_X12_works_J407_run hd h
    rw [if_neg c17] at h
    by_cases c21 : a1 = (61 : Int32)
    · rw [if_pos c21] at h
      refine hq_lsw rfl (show _ = some 278 from by rw [c21]; decide) ?_
      refine hq_p 3 282 [some (.ref 174), some (.int a1), some (.long x1), none, some (.long x3), none, none, none] [.int (lg_cmp x3 x1)] (fun n h => rfl) ?_
      obtain ⟨z22, hz22, h⟩ := hq_bind h
      suffices hT : hq_R (mm_O xs) d mc_X12_works 290 [some (.ref 174), some (.int a1), some (.long x1), none, some (.long x3), none, none, none] [.int z22] s4 g (some (.int y.1)) y.2 from by
        clear h
        have h := hz22
        by_cases c23 : (lg_cmp x3 x1) = 0
        · rw [if_pos c23] at h
          refine hq_izF rfl (hq_c_ne_F c23) ?_
          refine hq_p 2 290 [some (.ref 174), some (.int a1), some (.long x1), none, some (.long x3), none, none, none] [.int (1 : Int32)] (fun n h => rfl) ?_
          cases h
          exact hT
        · rw [if_neg c23] at h
          refine hq_izT rfl (hq_c_ne_T c23) ?_
          refine hq_p 1 290 [some (.ref 174), some (.int a1), some (.long x1), none, some (.long x3), none, none, none] [.int (0 : Int32)] (fun n h => rfl) ?_
          cases h
          exact hT
      obtain ⟨y24, hy24, h⟩ := hq_bind h
      refine hq_ist rfl rfl rfl (Nat.le_trans (by decide) hd) rfl (f_X12_is_run (Nat.le_sub_of_add_le (Nat.le_trans (by decide) hd)) hy24) rfl ?_
      refine hq_p 2 407 [some (.ref 174), some (.int a1), some (.long x1), none, some (.long x3), none, some (.long y24.1), none] [] (fun n h => rfl) ?_
      exact f_X12_works_J407_run hd h
    rw [if_neg c21] at h
    by_cases c25 : a1 = (62 : Int32)
    · rw [if_pos c25] at h
      refine hq_lsw rfl (show _ = some 258 from by rw [c25]; decide) ?_
      refine hq_p 3 262 [some (.ref 174), some (.int a1), some (.long x1), none, some (.long x3), none, none, none] [.int (lg_cmp x3 x1)] (fun n h => rfl) ?_
      obtain ⟨z26, hz26, h⟩ := hq_bind h
      suffices hT : hq_R (mm_O xs) d mc_X12_works 270 [some (.ref 174), some (.int a1), some (.long x1), none, some (.long x3), none, none, none] [.int z26] s4 g (some (.int y.1)) y.2 from by
        clear h
        have h := hz26
        by_cases c27 : 0 < (lg_cmp x3 x1)
        · rw [if_pos c27] at h
          refine hq_izF rfl (hq_c_le_F c27) ?_
          refine hq_p 2 270 [some (.ref 174), some (.int a1), some (.long x1), none, some (.long x3), none, none, none] [.int (1 : Int32)] (fun n h => rfl) ?_
          cases h
          exact hT
        · rw [if_neg c27] at h
          refine hq_izT rfl (hq_c_le_T c27) ?_
          refine hq_p 1 270 [some (.ref 174), some (.int a1), some (.long x1), none, some (.long x3), none, none, none] [.int (0 : Int32)] (fun n h => rfl) ?_
          cases h
          exact hT
      obtain ⟨y28, hy28, h⟩ := hq_bind h
      refine hq_ist rfl rfl rfl (Nat.le_trans (by decide) hd) rfl (f_X12_is_run (Nat.le_sub_of_add_le (Nat.le_trans (by decide) hd)) hy28) rfl ?_
      refine hq_p 2 407 [some (.ref 174), some (.int a1), some (.long x1), none, some (.long x3), none, some (.long y28.1), none] [] (fun n h => rfl) ?_
      exact f_X12_works_J407_run hd h
    rw [if_neg c25] at h
    by_cases c29 : a1 = (256 : Int32)
    · rw [if_pos c29] at h
      refine hq_lsw rfl (show _ = some 298 from by rw [c29]; decide) ?_
      refine hq_p 3 302 [some (.ref 174), some (.int a1), some (.long x1), none, some (.long x3), none, none, none] [.int (lg_cmp x3 x1)] (fun n h => rfl) ?_
      obtain ⟨z30, hz30, h⟩ := hq_bind h
      suffices hT : hq_R (mm_O xs) d mc_X12_works 310 [some (.ref 174), some (.int a1), some (.long x1), none, some (.long x3), none, none, none] [.int z30] s4 g (some (.int y.1)) y.2 from by
        clear h
        have h := hz30
        by_cases c31 : 0 < (lg_cmp x3 x1)
        · rw [if_pos c31] at h
          refine hq_izT rfl (hq_c_gt_T c31) ?_
          refine hq_p 1 310 [some (.ref 174), some (.int a1), some (.long x1), none, some (.long x3), none, none, none] [.int (0 : Int32)] (fun n h => rfl) ?_
          cases h
          exact hT
        · rw [if_neg c31] at h
          refine hq_izF rfl (hq_c_gt_F c31) ?_
          refine hq_p 2 310 [some (.ref 174), some (.int a1), some (.long x1), none, some (.long x3), none, none, none] [.int (1 : Int32)] (fun n h => rfl) ?_
          cases h
          exact hT
      obtain ⟨y32, hy32, h⟩ := hq_bind h
      refine hq_ist rfl rfl rfl (Nat.le_trans (by decide) hd) rfl (f_X12_is_run (Nat.le_sub_of_add_le (Nat.le_trans (by decide) hd)) hy32) rfl ?_
      refine hq_p 2 407 [some (.ref 174), some (.int a1), some (.long x1), none, some (.long x3), none, some (.long y32.1), none] [] (fun n h => rfl) ?_
      exact f_X12_works_J407_run hd h
    rw [if_neg c29] at h
    by_cases c33 : a1 = (257 : Int32)
    · rw [if_pos c33] at h
      refine hq_lsw rfl (show _ = some 338 from by rw [c33]; decide) ?_
      refine hq_p 3 342 [some (.ref 174), some (.int a1), some (.long x1), none, some (.long x3), none, none, none] [.int (lg_cmp x3 x1)] (fun n h => rfl) ?_
      obtain ⟨z34, hz34, h⟩ := hq_bind h
      suffices hT : hq_R (mm_O xs) d mc_X12_works 350 [some (.ref 174), some (.int a1), some (.long x1), none, some (.long x3), none, none, none] [.int z34] s4 g (some (.int y.1)) y.2 from by
        clear h
        have h := hz34
        by_cases c35 : (lg_cmp x3 x1) = 0
        · rw [if_pos c35] at h
          refine hq_izT rfl (hq_c_eq_T c35) ?_
          refine hq_p 1 350 [some (.ref 174), some (.int a1), some (.long x1), none, some (.long x3), none, none, none] [.int (0 : Int32)] (fun n h => rfl) ?_
          cases h
          exact hT
        · rw [if_neg c35] at h
          refine hq_izF rfl (hq_c_eq_F c35) ?_
          refine hq_p 2 350 [some (.ref 174), some (.int a1), some (.long x1), none, some (.long x3), none, none, none] [.int (1 : Int32)] (fun n h => rfl) ?_
          cases h
          exact hT
      obtain ⟨y36, hy36, h⟩ := hq_bind h
      refine hq_ist rfl rfl rfl (Nat.le_trans (by decide) hd) rfl (f_X12_is_run (Nat.le_sub_of_add_le (Nat.le_trans (by decide) hd)) hy36) rfl ?_
      refine hq_p 2 407 [some (.ref 174), some (.int a1), some (.long x1), none, some (.long x3), none, some (.long y36.1), none] [] (fun n h => rfl) ?_
      exact f_X12_works_J407_run hd h
    rw [if_neg c33] at h
    by_cases c37 : a1 = (258 : Int32)
    · rw [if_pos c37] at h
      refine hq_lsw rfl (show _ = some 318 from by rw [c37]; decide) ?_
      refine hq_p 3 322 [some (.ref 174), some (.int a1), some (.long x1), none, some (.long x3), none, none, none] [.int (lg_cmp x3 x1)] (fun n h => rfl) ?_
      obtain ⟨z38, hz38, h⟩ := hq_bind h
      suffices hT : hq_R (mm_O xs) d mc_X12_works 330 [some (.ref 174), some (.int a1), some (.long x1), none, some (.long x3), none, none, none] [.int z38] s4 g (some (.int y.1)) y.2 from by
        clear h
        have h := hz38
        by_cases c39 : (lg_cmp x3 x1) < 0
        · rw [if_pos c39] at h
          refine hq_izT rfl (hq_c_lt_T c39) ?_
          refine hq_p 1 330 [some (.ref 174), some (.int a1), some (.long x1), none, some (.long x3), none, none, none] [.int (0 : Int32)] (fun n h => rfl) ?_
          cases h
          exact hT
        · rw [if_neg c39] at h
          refine hq_izF rfl (hq_c_lt_F c39) ?_
          refine hq_p 2 330 [some (.ref 174), some (.int a1), some (.long x1), none, some (.long x3), none, none, none] [.int (1 : Int32)] (fun n h => rfl) ?_
          cases h
          exact hT
      obtain ⟨y40, hy40, h⟩ := hq_bind h
      refine hq_ist rfl rfl rfl (Nat.le_trans (by decide) hd) rfl (f_X12_is_run (Nat.le_sub_of_add_le (Nat.le_trans (by decide) hd)) hy40) rfl ?_
      refine hq_p 2 407 [some (.ref 174), some (.int a1), some (.long x1), none, some (.long x3), none, some (.long y40.1), none] [] (fun n h => rfl) ?_
      exact f_X12_works_J407_run hd h
    rw [if_neg c37] at h
    by_cases c41 : a1 = (261 : Int32)
    · rw [if_pos c41] at h
      refine hq_lsw rfl (show _ = some 358 from by rw [c41]; decide) ?_
      refine hq_p 3 362 [some (.ref 174), some (.int a1), some (.long x1), none, some (.long x3), none, none, none] [.int (lg_cmp x3 (0 : Int64))] (fun n h => rfl) ?_
      obtain ⟨z42, hz42, h⟩ := hq_bind h
      suffices hT : hq_R (mm_O xs) d mc_X12_works 376 [some (.ref 174), some (.int a1), some (.long x1), none, some (.long x3), none, none, none] [.int z42] s4 g (some (.int y.1)) y.2 from by
        clear h
        have h := hz42
        by_cases c43 : (lg_cmp x3 (0 : Int64)) = 0
        · rw [if_pos c43] at h
          refine hq_izT rfl (hq_c_eq_T c43) ?_
          refine hq_p 1 376 [some (.ref 174), some (.int a1), some (.long x1), none, some (.long x3), none, none, none] [.int (0 : Int32)] (fun n h => rfl) ?_
          cases h
          exact hT
        · rw [if_neg c43] at h
          refine hq_izF rfl (hq_c_eq_F c43) ?_
          refine hq_p 3 368 [some (.ref 174), some (.int a1), some (.long x1), none, some (.long x3), none, none, none] [.int (lg_cmp x1 (0 : Int64))] (fun n h => rfl) ?_
          by_cases c44 : (lg_cmp x1 (0 : Int64)) = 0
          · rw [if_pos c44] at h
            refine hq_izT rfl (hq_c_eq_T c44) ?_
            refine hq_p 1 376 [some (.ref 174), some (.int a1), some (.long x1), none, some (.long x3), none, none, none] [.int (0 : Int32)] (fun n h => rfl) ?_
            cases h
            exact hT
          · rw [if_neg c44] at h
            refine hq_izF rfl (hq_c_eq_F c44) ?_
            refine hq_p 2 376 [some (.ref 174), some (.int a1), some (.long x1), none, some (.long x3), none, none, none] [.int (1 : Int32)] (fun n h => rfl) ?_
            cases h
            exact hT
      obtain ⟨y45, hy45, h⟩ := hq_bind h
      refine hq_ist rfl rfl rfl (Nat.le_trans (by decide) hd) rfl (f_X12_is_run (Nat.le_sub_of_add_le (Nat.le_trans (by decide) hd)) hy45) rfl ?_
      refine hq_p 2 407 [some (.ref 174), some (.int a1), some (.long x1), none, some (.long x3), none, some (.long y45.1), none] [] (fun n h => rfl) ?_
      exact f_X12_works_J407_run hd h
    rw [if_neg c41] at h
    refine hq_lsw rfl (hq_lsw_d [(42 : Int32), (43 : Int32), (45 : Int32), (47 : Int32), (60 : Int32), (61 : Int32), (62 : Int32), (256 : Int32), (257 : Int32), (258 : Int32), (261 : Int32)] (by decide) rfl ⟨c5, c12, c13, c14, c17, c21, c25, c29, c33, c37, c41, trivial⟩) ?_
    refine hq_p 3 388 [some (.ref 174), some (.int a1), some (.long x1), none, some (.long x3), none, none, none] [.int (lg_cmp x3 (0 : Int64))] (fun n h => rfl) ?_
    obtain ⟨z46, hz46, h⟩ := hq_bind h
    suffices hT : hq_R (mm_O xs) d mc_X12_works 402 [some (.ref 174), some (.int a1), some (.long x1), none, some (.long x3), none, none, none] [.int z46] s4 g (some (.int y.1)) y.2 from by
      clear h
      have h := hz46
      by_cases c47 : (lg_cmp x3 (0 : Int64)) = 0
      · rw [if_pos c47] at h
        refine hq_izF rfl (hq_c_ne_F c47) ?_
        refine hq_p 3 394 [some (.ref 174), some (.int a1), some (.long x1), none, some (.long x3), none, none, none] [.int (lg_cmp x1 (0 : Int64))] (fun n h => rfl) ?_
        by_cases c48 : (lg_cmp x1 (0 : Int64)) = 0
        · rw [if_pos c48] at h
          refine hq_izT rfl (hq_c_eq_T c48) ?_
          refine hq_p 1 402 [some (.ref 174), some (.int a1), some (.long x1), none, some (.long x3), none, none, none] [.int (0 : Int32)] (fun n h => rfl) ?_
          cases h
          exact hT
        · rw [if_neg c48] at h
          refine hq_izF rfl (hq_c_eq_F c48) ?_
          refine hq_p 2 402 [some (.ref 174), some (.int a1), some (.long x1), none, some (.long x3), none, none, none] [.int (1 : Int32)] (fun n h => rfl) ?_
          cases h
          exact hT
      · rw [if_neg c47] at h
        refine hq_izT rfl (hq_c_ne_T c47) ?_
        refine hq_p 2 402 [some (.ref 174), some (.int a1), some (.long x1), none, some (.long x3), none, none, none] [.int (1 : Int32)] (fun n h => rfl) ?_
        cases h
        exact hT
    obtain ⟨y49, hy49, h⟩ := hq_bind h
    refine hq_ist rfl rfl rfl (Nat.le_trans (by decide) hd) rfl (f_X12_is_run (Nat.le_sub_of_add_le (Nat.le_trans (by decide) hd)) hy49) rfl ?_
    refine hq_p 1 407 [some (.ref 174), some (.int a1), some (.long x1), none, some (.long x3), none, some (.long y49.1), none] [] (fun n h => rfl) ?_
    exact f_X12_works_J407_run hd h
def f_X12_goes_J96 (n : Nat) (q12 : Int32 → Int32 → hq_S → Option (Int32 × hq_S)) (a1 : Int32) (a2 : Int32) (s : hq_S) : Option (Int32 × hq_S) := q12 a1 (a2 + (1 : Int32)) s
theorem f_X12_goes_J96_run {xs : List Int32} {n d g : Nat} {a1 : Int32} {a2 : Int32} {q12 : Int32 → Int32 → hq_S → Option (Int32 × hq_S)} {s : hq_S} {y : (Int32 × hq_S)} (hd : 2 ≤ d) (e12 : ∀ (a1 : Int32) (a2 : Int32) (s : hq_S), q12 a1 a2 s = some y → hq_R (mm_O xs) d mc_X12_goes 12 [some (.ref 174), some (.int a1), some (.int a2)] [] s g (some (.int y.1)) y.2) (h : f_X12_goes_J96 n q12 a1 a2 s = some y) : hq_R (mm_O xs) d mc_X12_goes 96 [some (.ref 174), some (.int a1), some (.int a2)] [] s g (some (.int y.1)) y.2 := by
  unfold f_X12_goes_J96 at h
  refine hq_p 2 12 [some (.ref 174), some (.int a1), some (.int (a2 + (1 : Int32)))] [] (fun n h => rfl) ?_
  exact e12 a1 (a2 + (1 : Int32)) s h
def f_X12_goes_L12_B (n : Nat) (q12 : Int32 → Int32 → hq_S → Option (Int32 × hq_S)) (a1 : Int32) (a2 : Int32) (s : hq_S) : Option (Int32 × hq_S) := (hq_ld s 191 6 a1).bind fun x3 => if a2 < x3 then (hq_ld s 192 128 a2).bind fun x5 => if x5 = (2 : Int32) then (hq_ld s 193 128 a2).bind fun x15 => (f_X12_works n x15 s).bind fun y16 => if y16.1 = 0 then some ((0 : Int32), y16.2) else f_X12_goes_J96 n q12 a1 a2 y16.2 else (hq_ld s 192 128 a2).bind fun x7 => (if x7 = 0 then (hq_ld s 193 128 a2).bind fun x12 => some x12.toInt64 else (hq_ld s 193 128 a2).bind fun x10 => (hq_ldj s 194 7 x10).bind fun x11 => some x11).bind fun z8 => (hq_stj s 195 64 (hq_gi s 174 36) z8).bind fun s13 => (hq_pi s13 174 36 0 ((hq_gi s13 174 36) + (1 : Int32))).bind fun s14 => f_X12_goes_J96 n q12 a1 a2 s14 else some ((1 : Int32), s)
def f_X12_goes_L12 (n : Nat) (m : Nat) : Int32 → Int32 → hq_S → Option (Int32 × hq_S) := Nat.rec (fun _ _ _ => none) (fun _ q => f_X12_goes_L12_B n q) m
theorem f_X12_goes_L12_Brun {xs : List Int32} {n d g : Nat} {a1 : Int32} {a2 : Int32} {q12 : Int32 → Int32 → hq_S → Option (Int32 × hq_S)} {s : hq_S} {y : (Int32 × hq_S)} (hd : 2 ≤ d) (e12 : ∀ (a1 : Int32) (a2 : Int32) (s : hq_S), q12 a1 a2 s = some y → hq_R (mm_O xs) d mc_X12_goes 12 [some (.ref 174), some (.int a1), some (.int a2)] [] s g (some (.int y.1)) y.2) (h : f_X12_goes_L12_B n q12 a1 a2 s = some y) : hq_R (mm_O xs) d mc_X12_goes 12 [some (.ref 174), some (.int a1), some (.int a2)] [] s g (some (.int y.1)) y.2 := by
  unfold f_X12_goes_L12_B at h
  refine hq_p 2 14 [some (.ref 174), some (.int a1), some (.int a2)] [.ref 174, .int a2] (fun n h => rfl) ?_
  refine hq_gf (x := .ref 191) rfl rfl rfl rfl rfl ?_
  refine hq_p 1 18 [some (.ref 174), some (.int a1), some (.int a2)] [.int a1, .ref 191, .int a2] (fun n h => rfl) ?_
  obtain ⟨x3, hx3, h⟩ := hq_bind h
  refine hq_iaload rfl rfl rfl hx3 ?_
  by_cases c4 : a2 < x3
  · rw [if_pos c4] at h
    refine hq_icF rfl (hq_c_ge_F c4) ?_
    refine hq_p 1 23 [some (.ref 174), some (.int a1), some (.int a2)] [.ref 174] (fun n h => rfl) ?_
    refine hq_gf (x := .ref 192) rfl rfl rfl rfl rfl ?_
    refine hq_p 1 27 [some (.ref 174), some (.int a1), some (.int a2)] [.int a2, .ref 192] (fun n h => rfl) ?_
    obtain ⟨x5, hx5, h⟩ := hq_bind h
    refine hq_iaload rfl rfl rfl hx5 ?_
    refine hq_p 1 29 [some (.ref 174), some (.int a1), some (.int a2)] [.int (2 : Int32), .int x5] (fun n h => rfl) ?_
    by_cases c6 : x5 = (2 : Int32)
    · rw [if_pos c6] at h
      refine hq_icF rfl (hq_c_ne_F c6) ?_
      refine hq_p 2 34 [some (.ref 174), some (.int a1), some (.int a2)] [.ref 174, .ref 174] (fun n h => rfl) ?_
      refine hq_gf (x := .ref 193) rfl rfl rfl rfl rfl ?_
      refine hq_p 1 38 [some (.ref 174), some (.int a1), some (.int a2)] [.int a2, .ref 193, .ref 174] (fun n h => rfl) ?_
      obtain ⟨x15, hx15, h⟩ := hq_bind h
      refine hq_iaload rfl rfl rfl hx15 ?_
      obtain ⟨y16, hy16, h⟩ := hq_bind h
      refine hq_inv rfl rfl (Nat.le_trans (by decide) hd) rfl rfl (hq_rcv rfl rfl) (f_X12_works_run (Nat.le_sub_of_add_le (Nat.le_trans (by decide) hd)) hy16) rfl ?_
      by_cases c17 : y16.1 = 0
      · rw [if_pos c17] at h
        refine hq_izF rfl (hq_c_ne_F c17) ?_
        refine hq_p 1 46 [some (.ref 174), some (.int a1), some (.int a2)] [.int (0 : Int32)] (fun n h => rfl) ?_
        cases h
        exact ⟨1, rfl⟩
      · rw [if_neg c17] at h
        refine hq_izT rfl (hq_c_ne_T c17) ?_
        exact f_X12_goes_J96_run hd e12 h
    · rw [if_neg c6] at h
      refine hq_icT rfl (hq_c_ne_T c6) ?_
      refine hq_p 1 48 [some (.ref 174), some (.int a1), some (.int a2)] [.ref 174] (fun n h => rfl) ?_
      refine hq_gf (x := .ref 195) rfl rfl rfl rfl rfl ?_
      refine hq_p 1 52 [some (.ref 174), some (.int a1), some (.int a2)] [.ref 174, .ref 195] (fun n h => rfl) ?_
      refine hq_gf (x := .int (hq_gi s 174 36)) rfl rfl rfl rfl rfl ?_
      refine hq_p 1 56 [some (.ref 174), some (.int a1), some (.int a2)] [.ref 174, .int (hq_gi s 174 36), .ref 195] (fun n h => rfl) ?_
      refine hq_gf (x := .ref 192) rfl rfl rfl rfl rfl ?_
      refine hq_p 1 60 [some (.ref 174), some (.int a1), some (.int a2)] [.int a2, .ref 192, .int (hq_gi s 174 36), .ref 195] (fun n h => rfl) ?_
      obtain ⟨x7, hx7, h⟩ := hq_bind h
      refine hq_iaload rfl rfl rfl hx7 ?_
      obtain ⟨z8, hz8, h⟩ := hq_bind h
      suffices hT : hq_R (mm_O xs) d mc_X12_goes 85 [some (.ref 174), some (.int a1), some (.int a2)] [.long z8, .int (hq_gi s 174 36), .ref 195] s g (some (.int y.1)) y.2 from by
        clear h
        have h := hz8
        by_cases c9 : x7 = 0
        · rw [if_pos c9] at h
          refine hq_izF rfl (hq_c_ne_F c9) ?_
          refine hq_p 1 65 [some (.ref 174), some (.int a1), some (.int a2)] [.ref 174, .int (hq_gi s 174 36), .ref 195] (fun n h => rfl) ?_
          refine hq_gf (x := .ref 193) rfl rfl rfl rfl rfl ?_
          refine hq_p 1 69 [some (.ref 174), some (.int a1), some (.int a2)] [.int a2, .ref 193, .int (hq_gi s 174 36), .ref 195] (fun n h => rfl) ?_
          obtain ⟨x12, hx12, h⟩ := hq_bind h
          refine hq_iaload rfl rfl rfl hx12 ?_
          refine hq_p 2 85 [some (.ref 174), some (.int a1), some (.int a2)] [.long x12.toInt64, .int (hq_gi s 174 36), .ref 195] (fun n h => rfl) ?_
          cases h
          exact hT
        · rw [if_neg c9] at h
          refine hq_izT rfl (hq_c_ne_T c9) ?_
          refine hq_p 1 75 [some (.ref 174), some (.int a1), some (.int a2)] [.ref 174, .int (hq_gi s 174 36), .ref 195] (fun n h => rfl) ?_
          refine hq_gf (x := .ref 194) rfl rfl rfl rfl rfl ?_
          refine hq_p 1 79 [some (.ref 174), some (.int a1), some (.int a2)] [.ref 174, .ref 194, .int (hq_gi s 174 36), .ref 195] (fun n h => rfl) ?_
          refine hq_gf (x := .ref 193) rfl rfl rfl rfl rfl ?_
          refine hq_p 1 83 [some (.ref 174), some (.int a1), some (.int a2)] [.int a2, .ref 193, .ref 194, .int (hq_gi s 174 36), .ref 195] (fun n h => rfl) ?_
          obtain ⟨x10, hx10, h⟩ := hq_bind h
          refine hq_iaload rfl rfl rfl hx10 ?_
          obtain ⟨x11, hx11, h⟩ := hq_bind h
          refine hq_laload rfl rfl rfl hx11 ?_
          cases h
          exact hT
      obtain ⟨s13, hs13, h⟩ := hq_bind h
      refine hq_lastore rfl rfl rfl hs13 ?_
      refine hq_p 2 88 [some (.ref 174), some (.int a1), some (.int a2)] [.ref 174, .ref 174] (fun n h => rfl) ?_
      refine hq_gf (x := .int (hq_gi s13 174 36)) rfl rfl rfl rfl rfl ?_
      refine hq_p 2 93 [some (.ref 174), some (.int a1), some (.int a2)] [.int ((hq_gi s13 174 36) + (1 : Int32)), .ref 174] (fun n h => rfl) ?_
      obtain ⟨s14, hs14, h⟩ := hq_bind h
      refine hq_pfi rfl rfl rfl rfl rfl hs14 ?_
      exact f_X12_goes_J96_run hd e12 h
  · rw [if_neg c4] at h
    refine hq_icT rfl (hq_c_ge_T c4) ?_
    refine hq_p 1 103 [some (.ref 174), some (.int a1), some (.int a2)] [.int (1 : Int32)] (fun n h => rfl) ?_
    cases h
    exact ⟨1, rfl⟩
theorem f_X12_goes_L12_run {xs : List Int32} {n m d g : Nat} {a1 : Int32} {a2 : Int32} {s : hq_S} {y : (Int32 × hq_S)} (hd : 2 ≤ d) (h : f_X12_goes_L12 n m a1 a2 s = some y) : hq_R (mm_O xs) d mc_X12_goes 12 [some (.ref 174), some (.int a1), some (.int a2)] [] s g (some (.int y.1)) y.2 := by
  induction m generalizing a1 a2 s with
  | zero => cases h
  | succ m ih => exact f_X12_goes_L12_Brun (n := n) hd (fun a1 a2 s h => ih h) h
def f_X12_goes (n : Nat) (a1 : Int32) (s : hq_S) : Option (Int32 × hq_S) := (hq_pi s 174 36 0 (0 : Int32)).bind fun s1 => (hq_ld s1 190 6 a1).bind fun x2 => f_X12_goes_L12 n n a1 x2 s1
theorem f_X12_goes_run {xs : List Int32} {n d g : Nat} {a1 : Int32} {s : hq_S} {y : (Int32 × hq_S)} (hd : 2 ≤ d) (h : f_X12_goes n a1 s = some y) : hq_R (mm_O xs) d mc_X12_goes 0 [some (.ref 174), some (.int a1), none] [] s g (some (.int y.1)) y.2 := by
  unfold f_X12_goes at h
  refine hq_p 2 2 [some (.ref 174), some (.int a1), none] [.int (0 : Int32), .ref 174] (fun n h => rfl) ?_
  obtain ⟨s1, hs1, h⟩ := hq_bind h
  refine hq_pfi rfl rfl rfl rfl rfl hs1 ?_
  refine hq_p 1 6 [some (.ref 174), some (.int a1), none] [.ref 174] (fun n h => rfl) ?_
  refine hq_gf (x := .ref 190) rfl rfl rfl rfl rfl ?_
  refine hq_p 1 10 [some (.ref 174), some (.int a1), none] [.int a1, .ref 190] (fun n h => rfl) ?_
  obtain ⟨x2, hx2, h⟩ := hq_bind h
  refine hq_iaload rfl rfl rfl hx2 ?_
  refine hq_p 1 12 [some (.ref 174), some (.int a1), some (.int x2)] [] (fun n h => rfl) ?_
  exact f_X12_goes_L12_run hd h
def f_X12_hasLaw (n : Nat) (a1 : Int32) (s : hq_S) : Option (Int32 × hq_S) := (hq_ld s 191 6 a1).bind fun x1 => (hq_ld s 190 6 a1).bind fun x2 => if x2 < x1 then some ((1 : Int32), s) else some ((0 : Int32), s)
theorem f_X12_hasLaw_run {xs : List Int32} {n d g : Nat} {a1 : Int32} {s : hq_S} {y : (Int32 × hq_S)} (hd : 0 ≤ d) (h : f_X12_hasLaw n a1 s = some y) : hq_R (mm_O xs) d mc_X12_hasLaw 0 [some (.ref 174), some (.int a1)] [] s g (some (.int y.1)) y.2 := by
  unfold f_X12_hasLaw at h
  refine hq_p 1 1 [some (.ref 174), some (.int a1)] [.ref 174] (fun n h => rfl) ?_
  refine hq_gf (x := .ref 191) rfl rfl rfl rfl rfl ?_
  refine hq_p 1 5 [some (.ref 174), some (.int a1)] [.int a1, .ref 191] (fun n h => rfl) ?_
  obtain ⟨x1, hx1, h⟩ := hq_bind h
  refine hq_iaload rfl rfl rfl hx1 ?_
  refine hq_p 1 7 [some (.ref 174), some (.int a1)] [.ref 174, .int x1] (fun n h => rfl) ?_
  refine hq_gf (x := .ref 190) rfl rfl rfl rfl rfl ?_
  refine hq_p 1 11 [some (.ref 174), some (.int a1)] [.int a1, .ref 190, .int x1] (fun n h => rfl) ?_
  obtain ⟨x2, hx2, h⟩ := hq_bind h
  refine hq_iaload rfl rfl rfl hx2 ?_
  by_cases c3 : x2 < x1
  · rw [if_pos c3] at h
    refine hq_icF rfl (hq_c_le_F c3) ?_
    refine hq_p 2 20 [some (.ref 174), some (.int a1)] [.int (1 : Int32)] (fun n h => rfl) ?_
    cases h
    exact ⟨1, rfl⟩
  · rw [if_neg c3] at h
    refine hq_icT rfl (hq_c_le_T c3) ?_
    refine hq_p 1 20 [some (.ref 174), some (.int a1)] [.int (0 : Int32)] (fun n h => rfl) ?_
    cases h
    exact ⟨1, rfl⟩
def f_X12_copies_L147_B (n : Nat) (q147 : Int32 → Int32 → Int32 → hq_S → Option hq_S) (a1 : Int32) (a2 : Int32) (a3 : Int32) (s : hq_S) : Option hq_S := if a3 < (4 : Int32) then (hq_ld s 203 92 (((4 : Int32) * a2) + a3)).bind fun x10 => (hq_st s 203 92 (((4 : Int32) * a1) + a3) x10).bind fun s11 => (hq_ld s11 204 92 (((4 : Int32) * a2) + a3)).bind fun x12 => (hq_st s11 204 92 (((4 : Int32) * a1) + a3) x12).bind fun s13 => (hq_ld s13 205 92 (((4 : Int32) * a2) + a3)).bind fun x14 => (hq_st s13 205 92 (((4 : Int32) * a1) + a3) x14).bind fun s15 => q147 a1 a2 (a3 + (1 : Int32)) s15 else some s
def f_X12_copies_L147 (n : Nat) (m : Nat) : Int32 → Int32 → Int32 → hq_S → Option hq_S := Nat.rec (fun _ _ _ _ => none) (fun _ q => f_X12_copies_L147_B n q) m
theorem f_X12_copies_L147_Brun {xs : List Int32} {n d g : Nat} {a1 : Int32} {a2 : Int32} {a3 : Int32} {q147 : Int32 → Int32 → Int32 → hq_S → Option hq_S} {s : hq_S} {y : hq_S} (hd : 0 ≤ d) (e147 : ∀ (a1 : Int32) (a2 : Int32) (a3 : Int32) (s : hq_S), q147 a1 a2 a3 s = some y → hq_R (mm_O xs) d mc_X12_copies 147 [some (.ref 174), some (.int a1), some (.int a2), some (.int a3)] [] s g none y) (h : f_X12_copies_L147_B n q147 a1 a2 a3 s = some y) : hq_R (mm_O xs) d mc_X12_copies 147 [some (.ref 174), some (.int a1), some (.int a2), some (.int a3)] [] s g none y := by
  unfold f_X12_copies_L147_B at h
  refine hq_p 2 149 [some (.ref 174), some (.int a1), some (.int a2), some (.int a3)] [.int (4 : Int32), .int a3] (fun n h => rfl) ?_
  by_cases c9 : a3 < (4 : Int32)
  · rw [if_pos c9] at h
    refine hq_icF rfl (hq_c_ge_F c9) ?_
    refine hq_p 1 153 [some (.ref 174), some (.int a1), some (.int a2), some (.int a3)] [.ref 174] (fun n h => rfl) ?_
    refine hq_gf (x := .ref 203) rfl rfl rfl rfl rfl ?_
    refine hq_p 6 162 [some (.ref 174), some (.int a1), some (.int a2), some (.int a3)] [.ref 174, .int (((4 : Int32) * a1) + a3), .ref 203] (fun n h => rfl) ?_
    refine hq_gf (x := .ref 203) rfl rfl rfl rfl rfl ?_
    refine hq_p 5 170 [some (.ref 174), some (.int a1), some (.int a2), some (.int a3)] [.int (((4 : Int32) * a2) + a3), .ref 203, .int (((4 : Int32) * a1) + a3), .ref 203] (fun n h => rfl) ?_
    obtain ⟨x10, hx10, h⟩ := hq_bind h
    refine hq_iaload rfl rfl rfl hx10 ?_
    obtain ⟨s11, hs11, h⟩ := hq_bind h
    refine hq_iastore rfl rfl rfl hs11 ?_
    refine hq_p 1 173 [some (.ref 174), some (.int a1), some (.int a2), some (.int a3)] [.ref 174] (fun n h => rfl) ?_
    refine hq_gf (x := .ref 204) rfl rfl rfl rfl rfl ?_
    refine hq_p 6 182 [some (.ref 174), some (.int a1), some (.int a2), some (.int a3)] [.ref 174, .int (((4 : Int32) * a1) + a3), .ref 204] (fun n h => rfl) ?_
    refine hq_gf (x := .ref 204) rfl rfl rfl rfl rfl ?_
    refine hq_p 5 190 [some (.ref 174), some (.int a1), some (.int a2), some (.int a3)] [.int (((4 : Int32) * a2) + a3), .ref 204, .int (((4 : Int32) * a1) + a3), .ref 204] (fun n h => rfl) ?_
    obtain ⟨x12, hx12, h⟩ := hq_bind h
    refine hq_iaload rfl rfl rfl hx12 ?_
    obtain ⟨s13, hs13, h⟩ := hq_bind h
    refine hq_iastore rfl rfl rfl hs13 ?_
    refine hq_p 1 193 [some (.ref 174), some (.int a1), some (.int a2), some (.int a3)] [.ref 174] (fun n h => rfl) ?_
    refine hq_gf (x := .ref 205) rfl rfl rfl rfl rfl ?_
    refine hq_p 6 202 [some (.ref 174), some (.int a1), some (.int a2), some (.int a3)] [.ref 174, .int (((4 : Int32) * a1) + a3), .ref 205] (fun n h => rfl) ?_
    refine hq_gf (x := .ref 205) rfl rfl rfl rfl rfl ?_
    refine hq_p 5 210 [some (.ref 174), some (.int a1), some (.int a2), some (.int a3)] [.int (((4 : Int32) * a2) + a3), .ref 205, .int (((4 : Int32) * a1) + a3), .ref 205] (fun n h => rfl) ?_
    obtain ⟨x14, hx14, h⟩ := hq_bind h
    refine hq_iaload rfl rfl rfl hx14 ?_
    obtain ⟨s15, hs15, h⟩ := hq_bind h
    refine hq_iastore rfl rfl rfl hs15 ?_
    refine hq_p 2 147 [some (.ref 174), some (.int a1), some (.int a2), some (.int (a3 + (1 : Int32)))] [] (fun n h => rfl) ?_
    exact e147 a1 a2 (a3 + (1 : Int32)) s15 h
  · rw [if_neg c9] at h
    refine hq_icT rfl (hq_c_ge_T c9) ?_
    cases h
    exact ⟨1, rfl⟩
theorem f_X12_copies_L147_run {xs : List Int32} {n m d g : Nat} {a1 : Int32} {a2 : Int32} {a3 : Int32} {s : hq_S} {y : hq_S} (hd : 0 ≤ d) (h : f_X12_copies_L147 n m a1 a2 a3 s = some y) : hq_R (mm_O xs) d mc_X12_copies 147 [some (.ref 174), some (.int a1), some (.int a2), some (.int a3)] [] s g none y := by
  induction m generalizing a1 a2 a3 s with
  | zero => cases h
  | succ m ih => exact f_X12_copies_L147_Brun (n := n) hd (fun a1 a2 a3 s h => ih h) h
def f_X12_copies_L74_B (n : Nat) (q74 : Int32 → Int32 → Int32 → hq_S → Option hq_S) (a1 : Int32) (a2 : Int32) (a3 : Int32) (s : hq_S) : Option hq_S := if a3 < (3 : Int32) then (hq_ld s 200 69 (((3 : Int32) * a2) + a3)).bind fun x16 => (hq_st s 200 69 (((3 : Int32) * a1) + a3) x16).bind fun s17 => (hq_ld s17 201 69 (((3 : Int32) * a2) + a3)).bind fun x18 => (hq_st s17 201 69 (((3 : Int32) * a1) + a3) x18).bind fun s19 => (hq_ld s19 202 69 (((3 : Int32) * a2) + a3)).bind fun x20 => (hq_st s19 202 69 (((3 : Int32) * a1) + a3) x20).bind fun s21 => q74 a1 a2 (a3 + (1 : Int32)) s21 else f_X12_copies_L147 n n a1 a2 (0 : Int32) s
def f_X12_copies_L74 (n : Nat) (m : Nat) : Int32 → Int32 → Int32 → hq_S → Option hq_S := Nat.rec (fun _ _ _ _ => none) (fun _ q => f_X12_copies_L74_B n q) m
theorem f_X12_copies_L74_Brun {xs : List Int32} {n d g : Nat} {a1 : Int32} {a2 : Int32} {a3 : Int32} {q74 : Int32 → Int32 → Int32 → hq_S → Option hq_S} {s : hq_S} {y : hq_S} (hd : 0 ≤ d) (e74 : ∀ (a1 : Int32) (a2 : Int32) (a3 : Int32) (s : hq_S), q74 a1 a2 a3 s = some y → hq_R (mm_O xs) d mc_X12_copies 74 [some (.ref 174), some (.int a1), some (.int a2), some (.int a3)] [] s g none y) (h : f_X12_copies_L74_B n q74 a1 a2 a3 s = some y) : hq_R (mm_O xs) d mc_X12_copies 74 [some (.ref 174), some (.int a1), some (.int a2), some (.int a3)] [] s g none y := by
  unfold f_X12_copies_L74_B at h
  refine hq_p 2 76 [some (.ref 174), some (.int a1), some (.int a2), some (.int a3)] [.int (3 : Int32), .int a3] (fun n h => rfl) ?_
  by_cases c8 : a3 < (3 : Int32)
  · rw [if_pos c8] at h
    refine hq_icF rfl (hq_c_ge_F c8) ?_
    refine hq_p 1 80 [some (.ref 174), some (.int a1), some (.int a2), some (.int a3)] [.ref 174] (fun n h => rfl) ?_
    refine hq_gf (x := .ref 200) rfl rfl rfl rfl rfl ?_
    refine hq_p 6 89 [some (.ref 174), some (.int a1), some (.int a2), some (.int a3)] [.ref 174, .int (((3 : Int32) * a1) + a3), .ref 200] (fun n h => rfl) ?_
    refine hq_gf (x := .ref 200) rfl rfl rfl rfl rfl ?_
    refine hq_p 5 97 [some (.ref 174), some (.int a1), some (.int a2), some (.int a3)] [.int (((3 : Int32) * a2) + a3), .ref 200, .int (((3 : Int32) * a1) + a3), .ref 200] (fun n h => rfl) ?_
    obtain ⟨x16, hx16, h⟩ := hq_bind h
    refine hq_iaload rfl rfl rfl hx16 ?_
    obtain ⟨s17, hs17, h⟩ := hq_bind h
    refine hq_iastore rfl rfl rfl hs17 ?_
    refine hq_p 1 100 [some (.ref 174), some (.int a1), some (.int a2), some (.int a3)] [.ref 174] (fun n h => rfl) ?_
    refine hq_gf (x := .ref 201) rfl rfl rfl rfl rfl ?_
    refine hq_p 6 109 [some (.ref 174), some (.int a1), some (.int a2), some (.int a3)] [.ref 174, .int (((3 : Int32) * a1) + a3), .ref 201] (fun n h => rfl) ?_
    refine hq_gf (x := .ref 201) rfl rfl rfl rfl rfl ?_
    refine hq_p 5 117 [some (.ref 174), some (.int a1), some (.int a2), some (.int a3)] [.int (((3 : Int32) * a2) + a3), .ref 201, .int (((3 : Int32) * a1) + a3), .ref 201] (fun n h => rfl) ?_
    obtain ⟨x18, hx18, h⟩ := hq_bind h
    refine hq_iaload rfl rfl rfl hx18 ?_
    obtain ⟨s19, hs19, h⟩ := hq_bind h
    refine hq_iastore rfl rfl rfl hs19 ?_
    refine hq_p 1 120 [some (.ref 174), some (.int a1), some (.int a2), some (.int a3)] [.ref 174] (fun n h => rfl) ?_
    refine hq_gf (x := .ref 202) rfl rfl rfl rfl rfl ?_
    refine hq_p 6 129 [some (.ref 174), some (.int a1), some (.int a2), some (.int a3)] [.ref 174, .int (((3 : Int32) * a1) + a3), .ref 202] (fun n h => rfl) ?_
    refine hq_gf (x := .ref 202) rfl rfl rfl rfl rfl ?_
    refine hq_p 5 137 [some (.ref 174), some (.int a1), some (.int a2), some (.int a3)] [.int (((3 : Int32) * a2) + a3), .ref 202, .int (((3 : Int32) * a1) + a3), .ref 202] (fun n h => rfl) ?_
    obtain ⟨x20, hx20, h⟩ := hq_bind h
    refine hq_iaload rfl rfl rfl hx20 ?_
    obtain ⟨s21, hs21, h⟩ := hq_bind h
    refine hq_iastore rfl rfl rfl hs21 ?_
    refine hq_p 2 74 [some (.ref 174), some (.int a1), some (.int a2), some (.int (a3 + (1 : Int32)))] [] (fun n h => rfl) ?_
    exact e74 a1 a2 (a3 + (1 : Int32)) s21 h
  · rw [if_neg c8] at h
    refine hq_icT rfl (hq_c_ge_T c8) ?_
    refine hq_p 2 147 [some (.ref 174), some (.int a1), some (.int a2), some (.int (0 : Int32))] [] (fun n h => rfl) ?_
    exact f_X12_copies_L147_run hd h
theorem f_X12_copies_L74_run {xs : List Int32} {n m d g : Nat} {a1 : Int32} {a2 : Int32} {a3 : Int32} {s : hq_S} {y : hq_S} (hd : 0 ≤ d) (h : f_X12_copies_L74 n m a1 a2 a3 s = some y) : hq_R (mm_O xs) d mc_X12_copies 74 [some (.ref 174), some (.int a1), some (.int a2), some (.int a3)] [] s g none y := by
  induction m generalizing a1 a2 a3 s with
  | zero => cases h
  | succ m ih => exact f_X12_copies_L74_Brun (n := n) hd (fun a1 a2 a3 s h => ih h) h
def f_X12_copies_L38_B (n : Nat) (q38 : Int32 → Int32 → Int32 → hq_S → Option hq_S) (a1 : Int32) (a2 : Int32) (a3 : Int32) (s : hq_S) : Option hq_S := if a3 < (10 : Int32) then (hq_ld s 199 230 (((10 : Int32) * a2) + a3)).bind fun x22 => (hq_st s 199 230 (((10 : Int32) * a1) + a3) x22).bind fun s23 => q38 a1 a2 (a3 + (1 : Int32)) s23 else f_X12_copies_L74 n n a1 a2 (0 : Int32) s
def f_X12_copies_L38 (n : Nat) (m : Nat) : Int32 → Int32 → Int32 → hq_S → Option hq_S := Nat.rec (fun _ _ _ _ => none) (fun _ q => f_X12_copies_L38_B n q) m
theorem f_X12_copies_L38_Brun {xs : List Int32} {n d g : Nat} {a1 : Int32} {a2 : Int32} {a3 : Int32} {q38 : Int32 → Int32 → Int32 → hq_S → Option hq_S} {s : hq_S} {y : hq_S} (hd : 0 ≤ d) (e38 : ∀ (a1 : Int32) (a2 : Int32) (a3 : Int32) (s : hq_S), q38 a1 a2 a3 s = some y → hq_R (mm_O xs) d mc_X12_copies 38 [some (.ref 174), some (.int a1), some (.int a2), some (.int a3)] [] s g none y) (h : f_X12_copies_L38_B n q38 a1 a2 a3 s = some y) : hq_R (mm_O xs) d mc_X12_copies 38 [some (.ref 174), some (.int a1), some (.int a2), some (.int a3)] [] s g none y := by
  unfold f_X12_copies_L38_B at h
  refine hq_p 2 41 [some (.ref 174), some (.int a1), some (.int a2), some (.int a3)] [.int (10 : Int32), .int a3] (fun n h => rfl) ?_
  by_cases c7 : a3 < (10 : Int32)
  · rw [if_pos c7] at h
    refine hq_icF rfl (hq_c_ge_F c7) ?_
    refine hq_p 1 45 [some (.ref 174), some (.int a1), some (.int a2), some (.int a3)] [.ref 174] (fun n h => rfl) ?_
    refine hq_gf (x := .ref 199) rfl rfl rfl rfl rfl ?_
    refine hq_p 6 55 [some (.ref 174), some (.int a1), some (.int a2), some (.int a3)] [.ref 174, .int (((10 : Int32) * a1) + a3), .ref 199] (fun n h => rfl) ?_
    refine hq_gf (x := .ref 199) rfl rfl rfl rfl rfl ?_
    refine hq_p 5 64 [some (.ref 174), some (.int a1), some (.int a2), some (.int a3)] [.int (((10 : Int32) * a2) + a3), .ref 199, .int (((10 : Int32) * a1) + a3), .ref 199] (fun n h => rfl) ?_
    obtain ⟨x22, hx22, h⟩ := hq_bind h
    refine hq_iaload rfl rfl rfl hx22 ?_
    obtain ⟨s23, hs23, h⟩ := hq_bind h
    refine hq_iastore rfl rfl rfl hs23 ?_
    refine hq_p 2 38 [some (.ref 174), some (.int a1), some (.int a2), some (.int (a3 + (1 : Int32)))] [] (fun n h => rfl) ?_
    exact e38 a1 a2 (a3 + (1 : Int32)) s23 h
  · rw [if_neg c7] at h
    refine hq_icT rfl (hq_c_ge_T c7) ?_
    refine hq_p 2 74 [some (.ref 174), some (.int a1), some (.int a2), some (.int (0 : Int32))] [] (fun n h => rfl) ?_
    exact f_X12_copies_L74_run hd h
theorem f_X12_copies_L38_run {xs : List Int32} {n m d g : Nat} {a1 : Int32} {a2 : Int32} {a3 : Int32} {s : hq_S} {y : hq_S} (hd : 0 ≤ d) (h : f_X12_copies_L38 n m a1 a2 a3 s = some y) : hq_R (mm_O xs) d mc_X12_copies 38 [some (.ref 174), some (.int a1), some (.int a2), some (.int a3)] [] s g none y := by
  induction m generalizing a1 a2 a3 s with
  | zero => cases h
  | succ m ih => exact f_X12_copies_L38_Brun (n := n) hd (fun a1 a2 a3 s h => ih h) h
def f_X12_copies (n : Nat) (a1 : Int32) (a2 : Int32) (s : hq_S) : Option hq_S := (hq_ld s 196 23 a2).bind fun x1 => (hq_st s 196 23 a1 x1).bind fun s2 => (hq_ld s2 197 23 a2).bind fun x3 => (hq_st s2 197 23 a1 x3).bind fun s4 => (hq_ld s4 198 23 a2).bind fun x5 => (hq_st s4 198 23 a1 x5).bind fun s6 => f_X12_copies_L38 n n a1 a2 (0 : Int32) s6
theorem f_X12_copies_run {xs : List Int32} {n d g : Nat} {a1 : Int32} {a2 : Int32} {s : hq_S} {y : hq_S} (hd : 0 ≤ d) (h : f_X12_copies n a1 a2 s = some y) : hq_R (mm_O xs) d mc_X12_copies 0 [some (.ref 174), some (.int a1), some (.int a2), none] [] s g none y := by
  unfold f_X12_copies at h
  refine hq_p 1 1 [some (.ref 174), some (.int a1), some (.int a2), none] [.ref 174] (fun n h => rfl) ?_
  refine hq_gf (x := .ref 196) rfl rfl rfl rfl rfl ?_
  refine hq_p 2 6 [some (.ref 174), some (.int a1), some (.int a2), none] [.ref 174, .int a1, .ref 196] (fun n h => rfl) ?_
  refine hq_gf (x := .ref 196) rfl rfl rfl rfl rfl ?_
  refine hq_p 1 10 [some (.ref 174), some (.int a1), some (.int a2), none] [.int a2, .ref 196, .int a1, .ref 196] (fun n h => rfl) ?_
  obtain ⟨x1, hx1, h⟩ := hq_bind h
  refine hq_iaload rfl rfl rfl hx1 ?_
  obtain ⟨s2, hs2, h⟩ := hq_bind h
  refine hq_iastore rfl rfl rfl hs2 ?_
  refine hq_p 1 13 [some (.ref 174), some (.int a1), some (.int a2), none] [.ref 174] (fun n h => rfl) ?_
  refine hq_gf (x := .ref 197) rfl rfl rfl rfl rfl ?_
  refine hq_p 2 18 [some (.ref 174), some (.int a1), some (.int a2), none] [.ref 174, .int a1, .ref 197] (fun n h => rfl) ?_
  refine hq_gf (x := .ref 197) rfl rfl rfl rfl rfl ?_
  refine hq_p 1 22 [some (.ref 174), some (.int a1), some (.int a2), none] [.int a2, .ref 197, .int a1, .ref 197] (fun n h => rfl) ?_
  obtain ⟨x3, hx3, h⟩ := hq_bind h
  refine hq_iaload rfl rfl rfl hx3 ?_
  obtain ⟨s4, hs4, h⟩ := hq_bind h
  refine hq_iastore rfl rfl rfl hs4 ?_
  refine hq_p 1 25 [some (.ref 174), some (.int a1), some (.int a2), none] [.ref 174] (fun n h => rfl) ?_
  refine hq_gf (x := .ref 198) rfl rfl rfl rfl rfl ?_
  refine hq_p 2 30 [some (.ref 174), some (.int a1), some (.int a2), none] [.ref 174, .int a1, .ref 198] (fun n h => rfl) ?_
  refine hq_gf (x := .ref 198) rfl rfl rfl rfl rfl ?_
  refine hq_p 1 34 [some (.ref 174), some (.int a1), some (.int a2), none] [.int a2, .ref 198, .int a1, .ref 198] (fun n h => rfl) ?_
  obtain ⟨x5, hx5, h⟩ := hq_bind h
  refine hq_iaload rfl rfl rfl hx5 ?_
  obtain ⟨s6, hs6, h⟩ := hq_bind h
  refine hq_iastore rfl rfl rfl hs6 ?_
  refine hq_p 2 38 [some (.ref 174), some (.int a1), some (.int a2), some (.int (0 : Int32))] [] (fun n h => rfl) ?_
  exact f_X12_copies_L38_run hd h
def f_X12_isCorner (n : Nat) (a1 : Int32) (s : hq_S) : Option (Int32 × hq_S) := if a1 < 0 then some ((0 : Int32), s) else (hq_ld s 176 14 (0 : Int32)).bind fun x2 => if a1 < x2 then some ((1 : Int32), s) else some ((0 : Int32), s)
theorem f_X12_isCorner_run {xs : List Int32} {n d g : Nat} {a1 : Int32} {s : hq_S} {y : (Int32 × hq_S)} (hd : 0 ≤ d) (h : f_X12_isCorner n a1 s = some y) : hq_R (mm_O xs) d mc_X12_isCorner 0 [some (.ref 174), some (.int a1)] [] s g (some (.int y.1)) y.2 := by
  unfold f_X12_isCorner at h
  refine hq_p 1 1 [some (.ref 174), some (.int a1)] [.int a1] (fun n h => rfl) ?_
  by_cases c1 : a1 < 0
  · rw [if_pos c1] at h
    refine hq_izT rfl (hq_c_lt_T c1) ?_
    refine hq_p 1 19 [some (.ref 174), some (.int a1)] [.int (0 : Int32)] (fun n h => rfl) ?_
    cases h
    exact ⟨1, rfl⟩
  · rw [if_neg c1] at h
    refine hq_izF rfl (hq_c_lt_F c1) ?_
    refine hq_p 2 6 [some (.ref 174), some (.int a1)] [.ref 174, .int a1] (fun n h => rfl) ?_
    refine hq_gf (x := .ref 176) rfl rfl rfl rfl rfl ?_
    refine hq_p 1 10 [some (.ref 174), some (.int a1)] [.int (0 : Int32), .ref 176, .int a1] (fun n h => rfl) ?_
    obtain ⟨x2, hx2, h⟩ := hq_bind h
    refine hq_iaload rfl rfl rfl hx2 ?_
    by_cases c3 : a1 < x2
    · rw [if_pos c3] at h
      refine hq_icF rfl (hq_c_ge_F c3) ?_
      refine hq_p 2 19 [some (.ref 174), some (.int a1)] [.int (1 : Int32)] (fun n h => rfl) ?_
      cases h
      exact ⟨1, rfl⟩
    · rw [if_neg c3] at h
      refine hq_icT rfl (hq_c_ge_T c3) ?_
      refine hq_p 1 19 [some (.ref 174), some (.int a1)] [.int (0 : Int32)] (fun n h => rfl) ?_
      cases h
      exact ⟨1, rfl⟩
def f_X12_isGuard (n : Nat) (a1 : Int32) (s : hq_S) : Option (Int32 × hq_S) := if a1 < 0 then some ((0 : Int32), s) else (hq_ld s 176 14 (2 : Int32)).bind fun x2 => if a1 < x2 then some ((1 : Int32), s) else some ((0 : Int32), s)
theorem f_X12_isGuard_run {xs : List Int32} {n d g : Nat} {a1 : Int32} {s : hq_S} {y : (Int32 × hq_S)} (hd : 0 ≤ d) (h : f_X12_isGuard n a1 s = some y) : hq_R (mm_O xs) d mc_X12_isGuard 0 [some (.ref 174), some (.int a1)] [] s g (some (.int y.1)) y.2 := by
  unfold f_X12_isGuard at h
  refine hq_p 1 1 [some (.ref 174), some (.int a1)] [.int a1] (fun n h => rfl) ?_
  by_cases c1 : a1 < 0
  · rw [if_pos c1] at h
    refine hq_izT rfl (hq_c_lt_T c1) ?_
    refine hq_p 1 19 [some (.ref 174), some (.int a1)] [.int (0 : Int32)] (fun n h => rfl) ?_
    cases h
    exact ⟨1, rfl⟩
  · rw [if_neg c1] at h
    refine hq_izF rfl (hq_c_lt_F c1) ?_
    refine hq_p 2 6 [some (.ref 174), some (.int a1)] [.ref 174, .int a1] (fun n h => rfl) ?_
    refine hq_gf (x := .ref 176) rfl rfl rfl rfl rfl ?_
    refine hq_p 1 10 [some (.ref 174), some (.int a1)] [.int (2 : Int32), .ref 176, .int a1] (fun n h => rfl) ?_
    obtain ⟨x2, hx2, h⟩ := hq_bind h
    refine hq_iaload rfl rfl rfl hx2 ?_
    by_cases c3 : a1 < x2
    · rw [if_pos c3] at h
      refine hq_icF rfl (hq_c_ge_F c3) ?_
      refine hq_p 2 19 [some (.ref 174), some (.int a1)] [.int (1 : Int32)] (fun n h => rfl) ?_
      cases h
      exact ⟨1, rfl⟩
    · rw [if_neg c3] at h
      refine hq_icT rfl (hq_c_ge_T c3) ?_
      refine hq_p 1 19 [some (.ref 174), some (.int a1)] [.int (0 : Int32)] (fun n h => rfl) ?_
      cases h
      exact ⟨1, rfl⟩
def f_X12_isThief (n : Nat) (a1 : Int32) (s : hq_S) : Option (Int32 × hq_S) := if a1 < 0 then some ((0 : Int32), s) else (hq_ld s 176 14 (3 : Int32)).bind fun x2 => if a1 < x2 then some ((1 : Int32), s) else some ((0 : Int32), s)
theorem f_X12_isThief_run {xs : List Int32} {n d g : Nat} {a1 : Int32} {s : hq_S} {y : (Int32 × hq_S)} (hd : 0 ≤ d) (h : f_X12_isThief n a1 s = some y) : hq_R (mm_O xs) d mc_X12_isThief 0 [some (.ref 174), some (.int a1)] [] s g (some (.int y.1)) y.2 := by
  unfold f_X12_isThief at h
  refine hq_p 1 1 [some (.ref 174), some (.int a1)] [.int a1] (fun n h => rfl) ?_
  by_cases c1 : a1 < 0
  · rw [if_pos c1] at h
    refine hq_izT rfl (hq_c_lt_T c1) ?_
    refine hq_p 1 19 [some (.ref 174), some (.int a1)] [.int (0 : Int32)] (fun n h => rfl) ?_
    cases h
    exact ⟨1, rfl⟩
  · rw [if_neg c1] at h
    refine hq_izF rfl (hq_c_lt_F c1) ?_
    refine hq_p 2 6 [some (.ref 174), some (.int a1)] [.ref 174, .int a1] (fun n h => rfl) ?_
    refine hq_gf (x := .ref 176) rfl rfl rfl rfl rfl ?_
    refine hq_p 1 10 [some (.ref 174), some (.int a1)] [.int (3 : Int32), .ref 176, .int a1] (fun n h => rfl) ?_
    obtain ⟨x2, hx2, h⟩ := hq_bind h
    refine hq_iaload rfl rfl rfl hx2 ?_
    by_cases c3 : a1 < x2
    · rw [if_pos c3] at h
      refine hq_icF rfl (hq_c_ge_F c3) ?_
      refine hq_p 2 19 [some (.ref 174), some (.int a1)] [.int (1 : Int32)] (fun n h => rfl) ?_
      cases h
      exact ⟨1, rfl⟩
    · rw [if_neg c3] at h
      refine hq_icT rfl (hq_c_ge_T c3) ?_
      refine hq_p 1 19 [some (.ref 174), some (.int a1)] [.int (0 : Int32)] (fun n h => rfl) ?_
      cases h
      exact ⟨1, rfl⟩
def f_X12_bitsOf_L4_B (n : Nat) (q4 : Int32 → Int32 → Int32 → hq_S → Option (Int32 × hq_S)) (a0 : Int32) (a1 : Int32) (a2 : Int32) (s : hq_S) : Option (Int32 × hq_S) := if a2 < (20 : Int32) then q4 a0 (a1 + ((a0 >>> (a2 &&& 31)) &&& (1 : Int32))) (a2 + (1 : Int32)) s else some (a1, s)
def f_X12_bitsOf_L4 (n : Nat) (m : Nat) : Int32 → Int32 → Int32 → hq_S → Option (Int32 × hq_S) := Nat.rec (fun _ _ _ _ => none) (fun _ q => f_X12_bitsOf_L4_B n q) m
theorem f_X12_bitsOf_L4_Brun {xs : List Int32} {n d g : Nat} {a0 : Int32} {a1 : Int32} {a2 : Int32} {q4 : Int32 → Int32 → Int32 → hq_S → Option (Int32 × hq_S)} {s : hq_S} {y : (Int32 × hq_S)} (hd : 0 ≤ d) (e4 : ∀ (a0 : Int32) (a1 : Int32) (a2 : Int32) (s : hq_S), q4 a0 a1 a2 s = some y → hq_R (mm_O xs) d mc_X12_bitsOf 4 [some (.int a0), some (.int a1), some (.int a2)] [] s g (some (.int y.1)) y.2) (h : f_X12_bitsOf_L4_B n q4 a0 a1 a2 s = some y) : hq_R (mm_O xs) d mc_X12_bitsOf 4 [some (.int a0), some (.int a1), some (.int a2)] [] s g (some (.int y.1)) y.2 := by
  unfold f_X12_bitsOf_L4_B at h
  refine hq_p 2 7 [some (.int a0), some (.int a1), some (.int a2)] [.int (20 : Int32), .int a2] (fun n h => rfl) ?_
  by_cases c1 : a2 < (20 : Int32)
  · rw [if_pos c1] at h
    refine hq_icF rfl (hq_c_ge_F c1) ?_
    refine hq_p 10 4 [some (.int a0), some (.int (a1 + ((a0 >>> (a2 &&& 31)) &&& (1 : Int32)))), some (.int (a2 + (1 : Int32)))] [] (fun n h => rfl) ?_
    exact e4 a0 (a1 + ((a0 >>> (a2 &&& 31)) &&& (1 : Int32))) (a2 + (1 : Int32)) s h
  · rw [if_neg c1] at h
    refine hq_icT rfl (hq_c_ge_T c1) ?_
    refine hq_p 1 25 [some (.int a0), some (.int a1), some (.int a2)] [.int a1] (fun n h => rfl) ?_
    cases h
    exact ⟨1, rfl⟩
theorem f_X12_bitsOf_L4_run {xs : List Int32} {n m d g : Nat} {a0 : Int32} {a1 : Int32} {a2 : Int32} {s : hq_S} {y : (Int32 × hq_S)} (hd : 0 ≤ d) (h : f_X12_bitsOf_L4 n m a0 a1 a2 s = some y) : hq_R (mm_O xs) d mc_X12_bitsOf 4 [some (.int a0), some (.int a1), some (.int a2)] [] s g (some (.int y.1)) y.2 := by
  induction m generalizing a0 a1 a2 s with
  | zero => cases h
  | succ m ih => exact f_X12_bitsOf_L4_Brun (n := n) hd (fun a0 a1 a2 s h => ih h) h
def f_X12_bitsOf (n : Nat) (a0 : Int32) (s : hq_S) : Option (Int32 × hq_S) := f_X12_bitsOf_L4 n n a0 (0 : Int32) (0 : Int32) s
theorem f_X12_bitsOf_run {xs : List Int32} {n d g : Nat} {a0 : Int32} {s : hq_S} {y : (Int32 × hq_S)} (hd : 0 ≤ d) (h : f_X12_bitsOf n a0 s = some y) : hq_R (mm_O xs) d mc_X12_bitsOf 0 [some (.int a0), none, none] [] s g (some (.int y.1)) y.2 := by
  unfold f_X12_bitsOf at h
  refine hq_p 4 4 [some (.int a0), some (.int (0 : Int32)), some (.int (0 : Int32))] [] (fun n h => rfl) ?_
  exact f_X12_bitsOf_L4_run hd h
def f_X12_laysFrom_L53_B (n : Nat) (q39 : Int32 → Int32 → Int32 → Int32 → hq_S → Option hq_S) (q53 : Int32 → Int32 → Int32 → Int32 → Int32 → Int32 → hq_S → Option hq_S) (a1 : Int32) (a2 : Int32) (a3 : Int32) (a4 : Int32) (a5 : Int32) (a6 : Int32) (s : hq_S) : Option hq_S := (hq_ld s 176 14 (0 : Int32)).bind fun x3 => if a6 < x3 then (if ((a3 >>> (a6 &&& 31)) &&& (1 : Int32)) = 0 then some (a5, s) else (hq_st s 207 100 (((10 : Int32) * a1) + a6) a4).bind fun s7 => (hq_ld s7 206 10 a6).bind fun x8 => some ((a5 ||| x8), s7)).bind fun z5 => q53 a1 a2 a3 a4 z5.1 (a6 + (1 : Int32)) z5.2 else q39 a1 a2 (a5 &&& (a2 ^^^ (-1 : Int32))) (a4 + (1 : Int32)) s
def f_X12_laysFrom_L53 (n : Nat) (q39 : Int32 → Int32 → Int32 → Int32 → hq_S → Option hq_S) (m : Nat) : Int32 → Int32 → Int32 → Int32 → Int32 → Int32 → hq_S → Option hq_S := Nat.rec (fun _ _ _ _ _ _ _ => none) (fun _ q => f_X12_laysFrom_L53_B n q39 q) m
theorem f_X12_laysFrom_L53_Brun {xs : List Int32} {n d g : Nat} {a1 : Int32} {a2 : Int32} {a3 : Int32} {a4 : Int32} {a5 : Int32} {a6 : Int32} {q39 : Int32 → Int32 → Int32 → Int32 → hq_S → Option hq_S} {q53 : Int32 → Int32 → Int32 → Int32 → Int32 → Int32 → hq_S → Option hq_S} {s : hq_S} {y : hq_S} (hd : 0 ≤ d) (e39 : ∀ (a1 : Int32) (a2 : Int32) (a3 : Int32) (a4 : Int32) (o5 : Option Value) (o6 : Option Value) (s : hq_S), q39 a1 a2 a3 a4 s = some y → hq_R (mm_O xs) d mc_X12_laysFrom 39 [some (.ref 174), some (.int a1), some (.int a2), some (.int a3), some (.int a4), o5, o6] [] s g none y) (e53 : ∀ (a1 : Int32) (a2 : Int32) (a3 : Int32) (a4 : Int32) (a5 : Int32) (a6 : Int32) (s : hq_S), q53 a1 a2 a3 a4 a5 a6 s = some y → hq_R (mm_O xs) d mc_X12_laysFrom 53 [some (.ref 174), some (.int a1), some (.int a2), some (.int a3), some (.int a4), some (.int a5), some (.int a6)] [] s g none y) (h : f_X12_laysFrom_L53_B n q39 q53 a1 a2 a3 a4 a5 a6 s = some y) : hq_R (mm_O xs) d mc_X12_laysFrom 53 [some (.ref 174), some (.int a1), some (.int a2), some (.int a3), some (.int a4), some (.int a5), some (.int a6)] [] s g none y := by
  unfold f_X12_laysFrom_L53_B at h
  refine hq_p 2 56 [some (.ref 174), some (.int a1), some (.int a2), some (.int a3), some (.int a4), some (.int a5), some (.int a6)] [.ref 174, .int a6] (fun n h => rfl) ?_
  refine hq_gf (x := .ref 176) rfl rfl rfl rfl rfl ?_
  refine hq_p 1 60 [some (.ref 174), some (.int a1), some (.int a2), some (.int a3), some (.int a4), some (.int a5), some (.int a6)] [.int (0 : Int32), .ref 176, .int a6] (fun n h => rfl) ?_
  obtain ⟨x3, hx3, h⟩ := hq_bind h
  refine hq_iaload rfl rfl rfl hx3 ?_
  by_cases c4 : a6 < x3
  · rw [if_pos c4] at h
    refine hq_icF rfl (hq_c_ge_F c4) ?_
    refine hq_p 5 70 [some (.ref 174), some (.int a1), some (.int a2), some (.int a3), some (.int a4), some (.int a5), some (.int a6)] [.int ((a3 >>> (a6 &&& 31)) &&& (1 : Int32))] (fun n h => rfl) ?_
    obtain ⟨z5, hz5, h⟩ := hq_bind h
    suffices hT : hq_R (mm_O xs) d mc_X12_laysFrom 102 [some (.ref 174), some (.int a1), some (.int a2), some (.int a3), some (.int a4), some (.int z5.1), some (.int a6)] [] z5.2 g none y from by
      clear h
      have h := hz5
      by_cases c6 : ((a3 >>> (a6 &&& 31)) &&& (1 : Int32)) = 0
      · rw [if_pos c6] at h
        refine hq_izF rfl (hq_c_ne_F c6) ?_
        refine hq_p 1 102 [some (.ref 174), some (.int a1), some (.int a2), some (.int a3), some (.int a4), some (.int a5), some (.int a6)] [] (fun n h => rfl) ?_
        cases h
        exact hT
      · rw [if_neg c6] at h
        refine hq_izT rfl (hq_c_ne_T c6) ?_
        refine hq_p 1 77 [some (.ref 174), some (.int a1), some (.int a2), some (.int a3), some (.int a4), some (.int a5), some (.int a6)] [.ref 174] (fun n h => rfl) ?_
        refine hq_gf (x := .ref 207) rfl rfl rfl rfl rfl ?_
        refine hq_p 6 89 [some (.ref 174), some (.int a1), some (.int a2), some (.int a3), some (.int a4), some (.int a5), some (.int a6)] [.int a4, .int (((10 : Int32) * a1) + a6), .ref 207] (fun n h => rfl) ?_
        obtain ⟨s7, hs7, h⟩ := hq_bind h
        refine hq_iastore rfl rfl rfl hs7 ?_
        refine hq_p 2 93 [some (.ref 174), some (.int a1), some (.int a2), some (.int a3), some (.int a4), some (.int a5), some (.int a6)] [.ref 174, .int a5] (fun n h => rfl) ?_
        refine hq_gf (x := .ref 206) rfl rfl rfl rfl rfl ?_
        refine hq_p 1 98 [some (.ref 174), some (.int a1), some (.int a2), some (.int a3), some (.int a4), some (.int a5), some (.int a6)] [.int a6, .ref 206, .int a5] (fun n h => rfl) ?_
        obtain ⟨x8, hx8, h⟩ := hq_bind h
        refine hq_iaload rfl rfl rfl hx8 ?_
        refine hq_p 2 102 [some (.ref 174), some (.int a1), some (.int a2), some (.int a3), some (.int a4), some (.int (a5 ||| x8)), some (.int a6)] [] (fun n h => rfl) ?_
        cases h
        exact hT
    refine hq_p 2 53 [some (.ref 174), some (.int a1), some (.int a2), some (.int a3), some (.int a4), some (.int z5.1), some (.int (a6 + (1 : Int32)))] [] (fun n h => rfl) ?_
    exact e53 a1 a2 a3 a4 z5.1 (a6 + (1 : Int32)) z5.2 h
  · rw [if_neg c4] at h
    refine hq_icT rfl (hq_c_ge_T c4) ?_
    refine hq_p 8 39 [some (.ref 174), some (.int a1), some (.int a2), some (.int (a5 &&& (a2 ^^^ (-1 : Int32)))), some (.int (a4 + (1 : Int32))), some (.int a5), some (.int a6)] [] (fun n h => rfl) ?_
    exact e39 a1 a2 (a5 &&& (a2 ^^^ (-1 : Int32))) (a4 + (1 : Int32)) _ _ s h
theorem f_X12_laysFrom_L53_run {xs : List Int32} {n m d g : Nat} {a1 : Int32} {a2 : Int32} {a3 : Int32} {a4 : Int32} {a5 : Int32} {a6 : Int32} {q39 : Int32 → Int32 → Int32 → Int32 → hq_S → Option hq_S} {s : hq_S} {y : hq_S} (hd : 0 ≤ d) (e39 : ∀ (a1 : Int32) (a2 : Int32) (a3 : Int32) (a4 : Int32) (o5 : Option Value) (o6 : Option Value) (s : hq_S), q39 a1 a2 a3 a4 s = some y → hq_R (mm_O xs) d mc_X12_laysFrom 39 [some (.ref 174), some (.int a1), some (.int a2), some (.int a3), some (.int a4), o5, o6] [] s g none y) (h : f_X12_laysFrom_L53 n q39 m a1 a2 a3 a4 a5 a6 s = some y) : hq_R (mm_O xs) d mc_X12_laysFrom 53 [some (.ref 174), some (.int a1), some (.int a2), some (.int a3), some (.int a4), some (.int a5), some (.int a6)] [] s g none y := by
  induction m generalizing a1 a2 a3 a4 a5 a6 s with
  | zero => cases h
  | succ m ih => exact f_X12_laysFrom_L53_Brun (n := n) hd e39 (fun a1 a2 a3 a4 a5 a6 s h => ih h) h
def f_X12_laysFrom_L39_B (n : Nat) (q39 : Int32 → Int32 → Int32 → Int32 → hq_S → Option hq_S) (a1 : Int32) (a2 : Int32) (a3 : Int32) (a4 : Int32) (s : hq_S) : Option hq_S := if a3 = 0 then some s else f_X12_laysFrom_L53 n q39 n a1 (a2 ||| a3) a3 a4 (0 : Int32) (0 : Int32) s
def f_X12_laysFrom_L39 (n : Nat) (m : Nat) : Int32 → Int32 → Int32 → Int32 → hq_S → Option hq_S := Nat.rec (fun _ _ _ _ _ => none) (fun _ q => f_X12_laysFrom_L39_B n q) m
theorem f_X12_laysFrom_L39_Brun {xs : List Int32} {n d g : Nat} {a1 : Int32} {a2 : Int32} {a3 : Int32} {a4 : Int32} {o5 : Option Value} {o6 : Option Value} {q39 : Int32 → Int32 → Int32 → Int32 → hq_S → Option hq_S} {s : hq_S} {y : hq_S} (hd : 0 ≤ d) (e39 : ∀ (a1 : Int32) (a2 : Int32) (a3 : Int32) (a4 : Int32) (o5 : Option Value) (o6 : Option Value) (s : hq_S), q39 a1 a2 a3 a4 s = some y → hq_R (mm_O xs) d mc_X12_laysFrom 39 [some (.ref 174), some (.int a1), some (.int a2), some (.int a3), some (.int a4), o5, o6] [] s g none y) (h : f_X12_laysFrom_L39_B n q39 a1 a2 a3 a4 s = some y) : hq_R (mm_O xs) d mc_X12_laysFrom 39 [some (.ref 174), some (.int a1), some (.int a2), some (.int a3), some (.int a4), o5, o6] [] s g none y := by
  unfold f_X12_laysFrom_L39_B at h
  refine hq_p 1 40 [some (.ref 174), some (.int a1), some (.int a2), some (.int a3), some (.int a4), o5, o6] [.int a3] (fun n h => rfl) ?_
  by_cases c2 : a3 = 0
  · rw [if_pos c2] at h
    refine hq_izT rfl (hq_c_eq_T c2) ?_
    cases h
    exact ⟨1, rfl⟩
  · rw [if_neg c2] at h
    refine hq_izF rfl (hq_c_eq_F c2) ?_
    refine hq_p 8 53 [some (.ref 174), some (.int a1), some (.int (a2 ||| a3)), some (.int a3), some (.int a4), some (.int (0 : Int32)), some (.int (0 : Int32))] [] (fun n h => rfl) ?_
    exact f_X12_laysFrom_L53_run hd e39 h
theorem f_X12_laysFrom_L39_run {xs : List Int32} {n m d g : Nat} {a1 : Int32} {a2 : Int32} {a3 : Int32} {a4 : Int32} {o5 : Option Value} {o6 : Option Value} {s : hq_S} {y : hq_S} (hd : 0 ≤ d) (h : f_X12_laysFrom_L39 n m a1 a2 a3 a4 s = some y) : hq_R (mm_O xs) d mc_X12_laysFrom 39 [some (.ref 174), some (.int a1), some (.int a2), some (.int a3), some (.int a4), o5, o6] [] s g none y := by
  induction m generalizing a1 a2 a3 a4 o5 o6 s with
  | zero => cases h
  | succ m ih => exact f_X12_laysFrom_L39_Brun (n := n) hd (fun a1 a2 a3 a4 o5 o6 s h => ih h) h
def f_X12_laysFrom_L9_B (n : Nat) (q9 : Int32 → Int32 → Int32 → Int32 → hq_S → Option hq_S) (a1 : Int32) (a2 : Int32) (a3 : Int32) (a4 : Int32) (s : hq_S) : Option hq_S := if a4 < (10 : Int32) then (hq_st s 207 100 (((10 : Int32) * a1) + a4) (99 : Int32)).bind fun s9 => q9 a1 a2 a3 (a4 + (1 : Int32)) s9 else f_X12_laysFrom_L39 n n a1 a2 a3 (0 : Int32) s
def f_X12_laysFrom_L9 (n : Nat) (m : Nat) : Int32 → Int32 → Int32 → Int32 → hq_S → Option hq_S := Nat.rec (fun _ _ _ _ _ => none) (fun _ q => f_X12_laysFrom_L9_B n q) m
theorem f_X12_laysFrom_L9_Brun {xs : List Int32} {n d g : Nat} {a1 : Int32} {a2 : Int32} {a3 : Int32} {a4 : Int32} {q9 : Int32 → Int32 → Int32 → Int32 → hq_S → Option hq_S} {s : hq_S} {y : hq_S} (hd : 0 ≤ d) (e9 : ∀ (a1 : Int32) (a2 : Int32) (a3 : Int32) (a4 : Int32) (s : hq_S), q9 a1 a2 a3 a4 s = some y → hq_R (mm_O xs) d mc_X12_laysFrom 9 [some (.ref 174), some (.int a1), some (.int a2), some (.int a3), some (.int a4), none, none] [] s g none y) (h : f_X12_laysFrom_L9_B n q9 a1 a2 a3 a4 s = some y) : hq_R (mm_O xs) d mc_X12_laysFrom 9 [some (.ref 174), some (.int a1), some (.int a2), some (.int a3), some (.int a4), none, none] [] s g none y := by
  unfold f_X12_laysFrom_L9_B at h
  refine hq_p 2 13 [some (.ref 174), some (.int a1), some (.int a2), some (.int a3), some (.int a4), none, none] [.int (10 : Int32), .int a4] (fun n h => rfl) ?_
  by_cases c1 : a4 < (10 : Int32)
  · rw [if_pos c1] at h
    refine hq_icF rfl (hq_c_ge_F c1) ?_
    refine hq_p 1 17 [some (.ref 174), some (.int a1), some (.int a2), some (.int a3), some (.int a4), none, none] [.ref 174] (fun n h => rfl) ?_
    refine hq_gf (x := .ref 207) rfl rfl rfl rfl rfl ?_
    refine hq_p 6 29 [some (.ref 174), some (.int a1), some (.int a2), some (.int a3), some (.int a4), none, none] [.int (99 : Int32), .int (((10 : Int32) * a1) + a4), .ref 207] (fun n h => rfl) ?_
    obtain ⟨s9, hs9, h⟩ := hq_bind h
    refine hq_iastore rfl rfl rfl hs9 ?_
    refine hq_p 2 9 [some (.ref 174), some (.int a1), some (.int a2), some (.int a3), some (.int (a4 + (1 : Int32))), none, none] [] (fun n h => rfl) ?_
    exact e9 a1 a2 a3 (a4 + (1 : Int32)) s9 h
  · rw [if_neg c1] at h
    refine hq_icT rfl (hq_c_ge_T c1) ?_
    refine hq_p 2 39 [some (.ref 174), some (.int a1), some (.int a2), some (.int a3), some (.int (0 : Int32)), none, none] [] (fun n h => rfl) ?_
    exact f_X12_laysFrom_L39_run hd h
theorem f_X12_laysFrom_L9_run {xs : List Int32} {n m d g : Nat} {a1 : Int32} {a2 : Int32} {a3 : Int32} {a4 : Int32} {s : hq_S} {y : hq_S} (hd : 0 ≤ d) (h : f_X12_laysFrom_L9 n m a1 a2 a3 a4 s = some y) : hq_R (mm_O xs) d mc_X12_laysFrom 9 [some (.ref 174), some (.int a1), some (.int a2), some (.int a3), some (.int a4), none, none] [] s g none y := by
  induction m generalizing a1 a2 a3 a4 s with
  | zero => cases h
  | succ m ih => exact f_X12_laysFrom_L9_Brun (n := n) hd (fun a1 a2 a3 a4 s h => ih h) h
def f_X12_laysFrom (n : Nat) (a1 : Int32) (s : hq_S) : Option hq_S := f_X12_laysFrom_L9 n n a1 (0 : Int32) ((1 : Int32) <<< (a1 &&& 31)) (0 : Int32) s
theorem f_X12_laysFrom_run {xs : List Int32} {n d g : Nat} {a1 : Int32} {s : hq_S} {y : hq_S} (hd : 0 ≤ d) (h : f_X12_laysFrom n a1 s = some y) : hq_R (mm_O xs) d mc_X12_laysFrom 0 [some (.ref 174), some (.int a1), none, none, none, none, none] [] s g none y := by
  unfold f_X12_laysFrom at h
  refine hq_p 8 9 [some (.ref 174), some (.int a1), some (.int (0 : Int32)), some (.int ((1 : Int32) <<< (a1 &&& 31))), some (.int (0 : Int32)), none, none] [] (fun n h => rfl) ?_
  exact f_X12_laysFrom_L9_run hd h
