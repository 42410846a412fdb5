def f_X12_name_L7_B (n : Nat) (q7 : Int32 → hq_S → Option hq_S) (a1 : Int32) (s : hq_S) : Option hq_S := if a1 < (6 : Int32) then (if ((hq_gi s 174 25) + a1) < (hq_gi s 174 24) then (hq_ld s 175 700 ((hq_gi s 174 25) + a1)).bind fun x5 => some ((x5 - (97 : Int32)) + (1 : Int32)) else some (0 : Int32)).bind fun z3 => (hq_pi s 174 27 0 (((hq_gi s 174 27) <<< ((5 : Int32) &&& 31)) ||| z3)).bind fun s6 => q7 (a1 + (1 : Int32)) s6 else some s
def f_X12_name_L7 (n : Nat) (m : Nat) : Int32 → hq_S → Option hq_S := Nat.rec (fun _ _ => none) (fun _ q => f_X12_name_L7_B n q) m
theorem f_X12_name_L7_Brun {xs : List Int32} {n d g : Nat} {a1 : Int32} {q7 : Int32 → hq_S → Option hq_S} {s : hq_S} {y : hq_S} (hd : 0 ≤ d) (e7 : ∀ (a1 : Int32) (s : hq_S), q7 a1 s = some y → hq_R (mm_O xs) d mc_X12_name 7 [some (.ref 174), some (.int a1)] [] s g none y) (h : f_X12_name_L7_B n q7 a1 s = some y) : hq_R (mm_O xs) d mc_X12_name 7 [some (.ref 174), some (.int a1)] [] s g none y := by
  unfold f_X12_name_L7_B at h
  refine hq_p 2 10 [some (.ref 174), some (.int a1)] [.int (6 : Int32), .int a1] (fun n h => rfl) ?_
  by_cases c2 : a1 < (6 : Int32)
  · rw [if_pos c2] at h
    refine hq_icF rfl (hq_c_ge_F c2) ?_
    refine hq_p 2 15 [some (.ref 174), some (.int a1)] [.ref 174, .ref 174] (fun n h => rfl) ?_
    refine hq_gf (x := .int (hq_gi s 174 27)) rfl rfl rfl rfl rfl ?_
    refine hq_p 3 21 [some (.ref 174), some (.int a1)] [.ref 174, .int ((hq_gi s 174 27) <<< ((5 : Int32) &&& 31)), .ref 174] (fun n h => rfl) ?_
    refine hq_gf (x := .int (hq_gi s 174 25)) rfl rfl rfl rfl rfl ?_
    refine hq_p 3 27 [some (.ref 174), some (.int a1)] [.ref 174, .int ((hq_gi s 174 25) + a1), .int ((hq_gi s 174 27) <<< ((5 : Int32) &&& 31)), .ref 174] (fun n h => rfl) ?_
    refine hq_gf (x := .int (hq_gi s 174 24)) rfl rfl rfl rfl rfl ?_
    obtain ⟨z3, hz3, h⟩ := hq_bind h
    suffices hT : hq_R (mm_O xs) d mc_X12_name 53 [some (.ref 174), some (.int a1)] [.int z3, .int ((hq_gi s 174 27) <<< ((5 : Int32) &&& 31)), .ref 174] s g none y from by
      clear h
      have h := hz3
      by_cases c4 : ((hq_gi s 174 25) + a1) < (hq_gi s 174 24)
      · rw [if_pos c4] at h
        refine hq_icF rfl (hq_c_ge_F c4) ?_
        refine hq_p 1 34 [some (.ref 174), some (.int a1)] [.ref 174, .int ((hq_gi s 174 27) <<< ((5 : Int32) &&& 31)), .ref 174] (fun n h => rfl) ?_
        refine hq_gf (x := .ref 175) rfl rfl rfl rfl rfl ?_
        refine hq_p 1 38 [some (.ref 174), some (.int a1)] [.ref 174, .ref 175, .int ((hq_gi s 174 27) <<< ((5 : Int32) &&& 31)), .ref 174] (fun n h => rfl) ?_
        refine hq_gf (x := .int (hq_gi s 174 25)) rfl rfl rfl rfl rfl ?_
        refine hq_p 2 43 [some (.ref 174), some (.int a1)] [.int ((hq_gi s 174 25) + a1), .ref 175, .int ((hq_gi s 174 27) <<< ((5 : Int32) &&& 31)), .ref 174] (fun n h => rfl) ?_
        obtain ⟨x5, hx5, h⟩ := hq_bind h
        refine hq_iaload rfl rfl List.length_replicate hx5 ?_
        refine hq_bip (97 : Int32) rfl (by decide) ?_
        refine hq_p 4 53 [some (.ref 174), some (.int a1)] [.int ((x5 - (97 : Int32)) + (1 : Int32)), .int ((hq_gi s 174 27) <<< ((5 : Int32) &&& 31)), .ref 174] (fun n h => rfl) ?_
        cases h
        exact hT
      · rw [if_neg c4] at h
        refine hq_icT rfl (hq_c_ge_T c4) ?_
        refine hq_p 1 53 [some (.ref 174), some (.int a1)] [.int (0 : Int32), .int ((hq_gi s 174 27) <<< ((5 : Int32) &&& 31)), .ref 174] (fun n h => rfl) ?_
        cases h
        exact hT
    refine hq_p 1 54 [some (.ref 174), some (.int a1)] [.int (((hq_gi s 174 27) <<< ((5 : Int32) &&& 31)) ||| z3), .ref 174] (fun n h => rfl) ?_
    obtain ⟨s6, hs6, h⟩ := hq_bind h
    refine hq_pfi rfl rfl rfl rfl rfl hs6 ?_
    refine hq_p 2 7 [some (.ref 174), some (.int (a1 + (1 : Int32)))] [] (fun n h => rfl) ?_
    exact e7 (a1 + (1 : Int32)) s6 h
  · rw [if_neg c2] at h
    refine hq_icT rfl (hq_c_ge_T c2) ?_
    have h := Option.some.inj h
    subst h
    exact ⟨1, rfl⟩
theorem f_X12_name_L7_run {xs : List Int32} {n m d g : Nat} {a1 : Int32} {s : hq_S} {y : hq_S} (hd : 0 ≤ d) (h : f_X12_name_L7 n m a1 s = some y) : hq_R (mm_O xs) d mc_X12_name 7 [some (.ref 174), some (.int a1)] [] s g none y := by
  induction m generalizing a1 s with
  | zero => cases h
  | succ m ih => exact f_X12_name_L7_Brun (n := n) hd (fun a1 s h => ih h) h
def f_X12_name (n : Nat) (s : hq_S) : Option hq_S := (hq_pi s 174 27 0 (0 : Int32)).bind fun s1 => f_X12_name_L7 n n (0 : Int32) s1
theorem f_X12_name_run {xs : List Int32} {n d g : Nat} {s : hq_S} {y : hq_S} (hd : 0 ≤ d) (h : f_X12_name n s = some y) : hq_R (mm_O xs) d mc_X12_name 0 [some (.ref 174), none] [] s g none y := by
  unfold f_X12_name at h
  refine hq_p 2 2 [some (.ref 174), none] [.int (0 : Int32), .ref 174] (fun n h => rfl) ?_
  obtain ⟨s1, hs1, h⟩ := hq_bind h
  refine hq_pfi rfl rfl rfl rfl rfl hs1 ?_
  refine hq_p 2 7 [some (.ref 174), some (.int (0 : Int32))] [] (fun n h => rfl) ?_
  exact f_X12_name_L7_run hd h
def f_X12_sign (n : Nat) (a1 : Int32) (s : hq_S) : Option hq_S := (hq_pi s 174 24 0 ((hq_gi s 174 24) + (1 : Int32))).bind fun s1 => (if a1 = (59 : Int32) then some (3 : Int32) else if a1 = (40 : Int32) then some (3 : Int32) else if a1 = (41 : Int32) then some (3 : Int32) else if a1 = (43 : Int32) then some (3 : Int32) else if a1 = (45 : Int32) then some (3 : Int32) else if a1 = (42 : Int32) then some (3 : Int32) else if a1 = (47 : Int32) then some (3 : Int32) else if a1 = (60 : Int32) then some (3 : Int32) else if a1 = (61 : Int32) then some (3 : Int32) else if a1 = (62 : Int32) then some (3 : Int32) else some (5 : Int32)).bind fun z2 => (hq_pi s1 174 26 0 z2).bind fun s13 => (hq_pi s13 174 27 0 a1).bind fun s14 => (if a1 = (60 : Int32) then (f_X12_here n s14).bind fun y17 => if y17.1 = (61 : Int32) then (hq_pi y17.2 174 27 0 (256 : Int32)).bind fun s19 => some s19 else some y17.2 else some s14).bind fun z15 => (if a1 = (60 : Int32) then (f_X12_here n z15).bind fun y22 => if y22.1 = (62 : Int32) then (hq_pi y22.2 174 27 0 (257 : Int32)).bind fun s24 => some s24 else some y22.2 else some z15).bind fun z20 => (if a1 = (62 : Int32) then (f_X12_here n z20).bind fun y27 => if y27.1 = (61 : Int32) then (hq_pi y27.2 174 27 0 (258 : Int32)).bind fun s29 => some s29 else some y27.2 else some z20).bind fun z25 => if (hq_gi z25 174 27) < (256 : Int32) then some z25 else (hq_pi z25 174 24 0 ((hq_gi z25 174 24) + (1 : Int32))).bind fun s31 => some s31
theorem f_X12_sign_run {xs : List Int32} {n d g : Nat} {a1 : Int32} {s : hq_S} {y : hq_S} (hd : 1 ≤ d) (h : f_X12_sign n a1 s = some y) : hq_R (mm_O xs) d mc_X12_sign 0 [some (.ref 174), some (.int a1)] [] s g none y := by
  unfold f_X12_sign at h
  refine hq_p 2 2 [some (.ref 174), some (.int a1)] [.ref 174, .ref 174] (fun n h => rfl) ?_
  refine hq_gf (x := .int (hq_gi s 174 24)) rfl rfl rfl rfl rfl ?_
  refine hq_p 2 7 [some (.ref 174), some (.int a1)] [.int ((hq_gi s 174 24) + (1 : Int32)), .ref 174] (fun n h => rfl) ?_
  obtain ⟨s1, hs1, h⟩ := hq_bind h
  refine hq_pfi rfl rfl rfl rfl rfl hs1 ?_
  refine hq_p 2 12 [some (.ref 174), some (.int a1)] [.int a1, .ref 174] (fun n h => rfl) ?_
  refine hq_bip (59 : Int32) rfl (by decide) ?_
  obtain ⟨z2, hz2, h⟩ := hq_bind h
  suffices hT : hq_R (mm_O xs) d mc_X12_sign 76 [some (.ref 174), some (.int a1)] [.int z2, .ref 174] s1 g none y from by
    clear h
    have h := hz2
    by_cases c3 : a1 = (59 : Int32)
    · rw [if_pos c3] at h
      refine hq_icT rfl (hq_c_eq_T c3) ?_
      refine hq_p 2 76 [some (.ref 174), some (.int a1)] [.int (3 : Int32), .ref 174] (fun n h => rfl) ?_
      cases h
      exact hT
    · rw [if_neg c3] at h
      refine hq_icF rfl (hq_c_eq_F c3) ?_
      refine hq_p 1 18 [some (.ref 174), some (.int a1)] [.int a1, .ref 174] (fun n h => rfl) ?_
      refine hq_bip (40 : Int32) rfl (by decide) ?_
      by_cases c4 : a1 = (40 : Int32)
      · rw [if_pos c4] at h
        refine hq_icT rfl (hq_c_eq_T c4) ?_
        refine hq_p 2 76 [some (.ref 174), some (.int a1)] [.int (3 : Int32), .ref 174] (fun n h => rfl) ?_
        cases h
        exact hT
      · rw [if_neg c4] at h
        refine hq_icF rfl (hq_c_eq_F c4) ?_
        refine hq_p 1 24 [some (.ref 174), some (.int a1)] [.int a1, .ref 174] (fun n h => rfl) ?_
        refine hq_bip (41 : Int32) rfl (by decide) ?_
        by_cases c5 : a1 = (41 : Int32)
        · rw [if_pos c5] at h
          refine hq_icT rfl (hq_c_eq_T c5) ?_
          refine hq_p 2 76 [some (.ref 174), some (.int a1)] [.int (3 : Int32), .ref 174] (fun n h => rfl) ?_
          cases h
          exact hT
        · rw [if_neg c5] at h
          refine hq_icF rfl (hq_c_eq_F c5) ?_
          refine hq_p 1 30 [some (.ref 174), some (.int a1)] [.int a1, .ref 174] (fun n h => rfl) ?_
          refine hq_bip (43 : Int32) rfl (by decide) ?_
          by_cases c6 : a1 = (43 : Int32)
          · rw [if_pos c6] at h
            refine hq_icT rfl (hq_c_eq_T c6) ?_
            refine hq_p 2 76 [some (.ref 174), some (.int a1)] [.int (3 : Int32), .ref 174] (fun n h => rfl) ?_
            cases h
            exact hT
          · rw [if_neg c6] at h
            refine hq_icF rfl (hq_c_eq_F c6) ?_
            refine hq_p 1 36 [some (.ref 174), some (.int a1)] [.int a1, .ref 174] (fun n h => rfl) ?_
            refine hq_bip (45 : Int32) rfl (by decide) ?_
            by_cases c7 : a1 = (45 : Int32)
            · rw [if_pos c7] at h
              refine hq_icT rfl (hq_c_eq_T c7) ?_
              refine hq_p 2 76 [some (.ref 174), some (.int a1)] [.int (3 : Int32), .ref 174] (fun n h => rfl) ?_
              cases h
              exact hT
            · rw [if_neg c7] at h
              refine hq_icF rfl (hq_c_eq_F c7) ?_
              refine hq_p 1 42 [some (.ref 174), some (.int a1)] [.int a1, .ref 174] (fun n h => rfl) ?_
              refine hq_bip (42 : Int32) rfl (by decide) ?_
              by_cases c8 : a1 = (42 : Int32)
              · rw [if_pos c8] at h
                refine hq_icT rfl (hq_c_eq_T c8) ?_
                refine hq_p 2 76 [some (.ref 174), some (.int a1)] [.int (3 : Int32), .ref 174] (fun n h => rfl) ?_
                cases h
                exact hT
              · rw [if_neg c8] at h
                refine hq_icF rfl (hq_c_eq_F c8) ?_
                refine hq_p 1 48 [some (.ref 174), some (.int a1)] [.int a1, .ref 174] (fun n h => rfl) ?_
                refine hq_bip (47 : Int32) rfl (by decide) ?_
                by_cases c9 : a1 = (47 : Int32)
                · rw [if_pos c9] at h
                  refine hq_icT rfl (hq_c_eq_T c9) ?_
                  refine hq_p 2 76 [some (.ref 174), some (.int a1)] [.int (3 : Int32), .ref 174] (fun n h => rfl) ?_
                  cases h
                  exact hT
                · rw [if_neg c9] at h
                  refine hq_icF rfl (hq_c_eq_F c9) ?_
                  refine hq_p 1 54 [some (.ref 174), some (.int a1)] [.int a1, .ref 174] (fun n h => rfl) ?_
                  refine hq_bip (60 : Int32) rfl (by decide) ?_
                  by_cases c10 : a1 = (60 : Int32)
                  · rw [if_pos c10] at h
                    refine hq_icT rfl (hq_c_eq_T c10) ?_
                    refine hq_p 2 76 [some (.ref 174), some (.int a1)] [.int (3 : Int32), .ref 174] (fun n h => rfl) ?_
                    cases h
                    exact hT
                  · rw [if_neg c10] at h
                    refine hq_icF rfl (hq_c_eq_F c10) ?_
                    refine hq_p 1 60 [some (.ref 174), some (.int a1)] [.int a1, .ref 174] (fun n h => rfl) ?_
                    refine hq_bip (61 : Int32) rfl (by decide) ?_
                    by_cases c11 : a1 = (61 : Int32)
                    · rw [if_pos c11] at h
                      refine hq_icT rfl (hq_c_eq_T c11) ?_
                      refine hq_p 2 76 [some (.ref 174), some (.int a1)] [.int (3 : Int32), .ref 174] (fun n h => rfl) ?_
                      cases h
                      exact hT
                    · rw [if_neg c11] at h
                      refine hq_icF rfl (hq_c_eq_F c11) ?_
                      refine hq_p 1 66 [some (.ref 174), some (.int a1)] [.int a1, .ref 174] (fun n h => rfl) ?_
                      refine hq_bip (62 : Int32) rfl (by decide) ?_
                      by_cases c12 : a1 = (62 : Int32)
                      · rw [if_pos c12] at h
                        refine hq_icF rfl (hq_c_ne_F c12) ?_
                        refine hq_p 2 76 [some (.ref 174), some (.int a1)] [.int (3 : Int32), .ref 174] (fun n h => rfl) ?_
                        cases h
                        exact hT
                      · rw [if_neg c12] at h
                        refine hq_icT rfl (hq_c_ne_T c12) ?_
                        refine hq_p 1 76 [some (.ref 174), some (.int a1)] [.int (5 : Int32), .ref 174] (fun n h => rfl) ?_
                        cases h
                        exact hT
  obtain ⟨s13, hs13, h⟩ := hq_bind h
  refine hq_pfi rfl rfl rfl rfl rfl hs13 ?_
  refine hq_p 2 81 [some (.ref 174), some (.int a1)] [.int a1, .ref 174] (fun n h => rfl) ?_
  obtain ⟨s14, hs14, h⟩ := hq_bind h
  refine hq_pfi rfl rfl rfl rfl rfl hs14 ?_
  refine hq_p 1 85 [some (.ref 174), some (.int a1)] [.int a1] (fun n h => rfl) ?_
  refine hq_bip (60 : Int32) rfl (by decide) ?_
  obtain ⟨z15, hz15, h⟩ := hq_bind h
  suffices hT : hq_R (mm_O xs) d mc_X12_sign 106 [some (.ref 174), some (.int a1)] [] z15 g none y from by
    clear h
    have h := hz15
    by_cases c16 : a1 = (60 : Int32)
    · rw [if_pos c16] at h
      refine hq_icF rfl (hq_c_ne_F c16) ?_
      refine hq_p 1 91 [some (.ref 174), some (.int a1)] [.ref 174] (fun n h => rfl) ?_
      obtain ⟨y17, hy17, h⟩ := hq_bind h
      refine hq_inv rfl rfl (Nat.le_trans (by decide) hd) rfl rfl (hq_rcv rfl rfl) (f_X12_here_run (Nat.le_sub_of_add_le (Nat.le_trans (by decide) hd)) hy17) rfl ?_
      refine hq_bip (61 : Int32) rfl (by decide) ?_
      by_cases c18 : y17.1 = (61 : Int32)
      · rw [if_pos c18] at h
        refine hq_icF rfl (hq_c_ne_F c18) ?_
        refine hq_p 1 100 [some (.ref 174), some (.int a1)] [.ref 174] (fun n h => rfl) ?_
        refine hq_sip (256 : Int32) rfl (by decide) ?_
        obtain ⟨s19, hs19, h⟩ := hq_bind h
        refine hq_pfi rfl rfl rfl rfl rfl hs19 ?_
        cases h
        exact hT
      · rw [if_neg c18] at h
        refine hq_icT rfl (hq_c_ne_T c18) ?_
        cases h
        exact hT
    · rw [if_neg c16] at h
      refine hq_icT rfl (hq_c_ne_T c16) ?_
      cases h
      exact hT
  refine hq_p 1 107 [some (.ref 174), some (.int a1)] [.int a1] (fun n h => rfl) ?_
  refine hq_bip (60 : Int32) rfl (by decide) ?_
  obtain ⟨z20, hz20, h⟩ := hq_bind h
  suffices hT : hq_R (mm_O xs) d mc_X12_sign 128 [some (.ref 174), some (.int a1)] [] z20 g none y from by
    clear h
    have h := hz20
    by_cases c21 : a1 = (60 : Int32)
    · rw [if_pos c21] at h
      refine hq_icF rfl (hq_c_ne_F c21) ?_
      refine hq_p 1 113 [some (.ref 174), some (.int a1)] [.ref 174] (fun n h => rfl) ?_
      obtain ⟨y22, hy22, h⟩ := hq_bind h
      refine hq_inv rfl rfl (Nat.le_trans (by decide) hd) rfl rfl (hq_rcv rfl rfl) (f_X12_here_run (Nat.le_sub_of_add_le (Nat.le_trans (by decide) hd)) hy22) rfl ?_
      refine hq_bip (62 : Int32) rfl (by decide) ?_
      by_cases c23 : y22.1 = (62 : Int32)
      · rw [if_pos c23] at h
        refine hq_icF rfl (hq_c_ne_F c23) ?_
        refine hq_p 1 122 [some (.ref 174), some (.int a1)] [.ref 174] (fun n h => rfl) ?_
        refine hq_sip (257 : Int32) rfl (by decide) ?_
        obtain ⟨s24, hs24, h⟩ := hq_bind h
        refine hq_pfi rfl rfl rfl rfl rfl hs24 ?_
        cases h
        exact hT
      · rw [if_neg c23] at h
        refine hq_icT rfl (hq_c_ne_T c23) ?_
        cases h
        exact hT
    · rw [if_neg c21] at h
      refine hq_icT rfl (hq_c_ne_T c21) ?_
      cases h
      exact hT
  refine hq_p 1 129 [some (.ref 174), some (.int a1)] [.int a1] (fun n h => rfl) ?_
  refine hq_bip (62 : Int32) rfl (by decide) ?_
  obtain ⟨z25, hz25, h⟩ := hq_bind h
  suffices hT : hq_R (mm_O xs) d mc_X12_sign 150 [some (.ref 174), some (.int a1)] [] z25 g none y from by
    clear h
    have h := hz25
    by_cases c26 : a1 = (62 : Int32)
    · rw [if_pos c26] at h
      refine hq_icF rfl (hq_c_ne_F c26) ?_
      refine hq_p 1 135 [some (.ref 174), some (.int a1)] [.ref 174] (fun n h => rfl) ?_
      obtain ⟨y27, hy27, h⟩ := hq_bind h
      refine hq_inv rfl rfl (Nat.le_trans (by decide) hd) rfl rfl (hq_rcv rfl rfl) (f_X12_here_run (Nat.le_sub_of_add_le (Nat.le_trans (by decide) hd)) hy27) rfl ?_
      refine hq_bip (61 : Int32) rfl (by decide) ?_
      by_cases c28 : y27.1 = (61 : Int32)
      · rw [if_pos c28] at h
        refine hq_icF rfl (hq_c_ne_F c28) ?_
        refine hq_p 1 144 [some (.ref 174), some (.int a1)] [.ref 174] (fun n h => rfl) ?_
        refine hq_sip (258 : Int32) rfl (by decide) ?_
        obtain ⟨s29, hs29, h⟩ := hq_bind h
        refine hq_pfi rfl rfl rfl rfl rfl hs29 ?_
        cases h
        exact hT
      · rw [if_neg c28] at h
        refine hq_icT rfl (hq_c_ne_T c28) ?_
        cases h
        exact hT
    · rw [if_neg c26] at h
      refine hq_icT rfl (hq_c_ne_T c26) ?_
      cases h
      exact hT
  refine hq_p 1 151 [some (.ref 174), some (.int a1)] [.ref 174] (fun n h => rfl) ?_
  refine hq_gf (x := .int (hq_gi z25 174 27)) rfl rfl rfl rfl rfl ?_
  refine hq_sip (256 : Int32) rfl (by decide) ?_
  by_cases c30 : (hq_gi z25 174 27) < (256 : Int32)
  · rw [if_pos c30] at h
    refine hq_icT rfl (hq_c_lt_T c30) ?_
    have h := Option.some.inj h
    subst h
    exact ⟨1, rfl⟩
  · rw [if_neg c30] at h
    refine hq_icF rfl (hq_c_lt_F c30) ?_
    refine hq_p 2 162 [some (.ref 174), some (.int a1)] [.ref 174, .ref 174] (fun n h => rfl) ?_
    refine hq_gf (x := .int (hq_gi z25 174 24)) rfl rfl rfl rfl rfl ?_
    refine hq_p 2 167 [some (.ref 174), some (.int a1)] [.int ((hq_gi z25 174 24) + (1 : Int32)), .ref 174] (fun n h => rfl) ?_
    obtain ⟨s31, hs31, h⟩ := hq_bind h
    refine hq_pfi rfl rfl rfl rfl rfl hs31 ?_
    have h := Option.some.inj h
    subst h
    exact ⟨1, rfl⟩
def f_X12_token_J18 (n : Nat) (q0 : hq_S → Option hq_S) (s : hq_S) : Option hq_S := (hq_pi s 174 24 0 ((hq_gi s 174 24) + (1 : Int32))).bind fun s3 => q0 s3
theorem f_X12_token_J18_run {xs : List Int32} {n d g : Nat} {q0 : hq_S → Option hq_S} {s : hq_S} {y : hq_S} (hd : 7 ≤ d) (e0 : ∀ (s : hq_S), q0 s = some y → hq_R (mm_O xs) d mc_X12_token 0 [some (.ref 174), none] [] s g none y) (h : f_X12_token_J18 n q0 s = some y) : hq_R (mm_O xs) d mc_X12_token 18 [some (.ref 174), none] [] s g none y := by
  unfold f_X12_token_J18 at h
  refine hq_p 2 20 [some (.ref 174), none] [.ref 174, .ref 174] (fun n h => rfl) ?_
  refine hq_gf (x := .int (hq_gi s 174 24)) rfl rfl rfl rfl rfl ?_
  refine hq_p 2 25 [some (.ref 174), none] [.int ((hq_gi s 174 24) + (1 : Int32)), .ref 174] (fun n h => rfl) ?_
  obtain ⟨s3, hs3, h⟩ := hq_bind h
  refine hq_pfi rfl rfl rfl rfl rfl hs3 ?_
  refine hq_p 1 0 [some (.ref 174), none] [] (fun n h => rfl) ?_
  exact e0 s3 h
def f_X12_token_L162_B (n : Nat) (q162 : Int32 → hq_S → Option hq_S) (a1 : Int32) (s : hq_S) : Option hq_S := (f_X12_here n s).bind fun y16 => (f_X12_isDigit n y16.1 y16.2).bind fun y17 => if y17.1 = 0 then some y17.2 else (if (99999 : Int32) < (hq_gi y17.2 174 27) then some ((hq_gi y17.2 174 27), y17.2) else (f_X12_here n y17.2).bind fun y21 => some (((((10 : Int32) * (hq_gi y17.2 174 27)) + y21.1) - (48 : Int32)), y21.2)).bind fun z19 => (hq_pi z19.2 174 27 0 z19.1).bind fun s22 => (hq_pi s22 174 24 0 ((hq_gi s22 174 24) + (1 : Int32))).bind fun s23 => q162 a1 s23
def f_X12_token_L162 (n : Nat) (m : Nat) : Int32 → hq_S → Option hq_S := Nat.rec (fun _ _ => none) (fun _ q => f_X12_token_L162_B n q) m
theorem f_X12_token_L162_Brun {xs : List Int32} {n d g : Nat} {a1 : Int32} {q162 : Int32 → hq_S → Option hq_S} {s : hq_S} {y : hq_S} (hd : 7 ≤ d) (e162 : ∀ (a1 : Int32) (s : hq_S), q162 a1 s = some y → hq_R (mm_O xs) d mc_X12_token 162 [some (.ref 174), some (.int a1)] [] s g none y) (h : f_X12_token_L162_B n q162 a1 s = some y) : hq_R (mm_O xs) d mc_X12_token 162 [some (.ref 174), some (.int a1)] [] s g none y := by
  unfold f_X12_token_L162_B at h
  refine hq_p 1 163 [some (.ref 174), some (.int a1)] [.ref 174] (fun n h => rfl) ?_
  obtain ⟨y16, hy16, h⟩ := hq_bind h
  refine hq_inv rfl rfl (Nat.le_trans (by decide) hd) rfl rfl (hq_rcv rfl rfl) (f_X12_here_run (Nat.le_sub_of_add_le (Nat.le_trans (by decide) hd)) hy16) rfl ?_
  obtain ⟨y17, hy17, h⟩ := hq_bind h
  refine hq_ist rfl rfl rfl (Nat.le_trans (by decide) hd) rfl (f_X12_isDigit_run (Nat.le_sub_of_add_le (Nat.le_trans (by decide) hd)) hy17) rfl ?_
  by_cases c18 : y17.1 = 0
  · rw [if_pos c18] at h
    refine hq_izT rfl (hq_c_eq_T c18) ?_
    have h := Option.some.inj h
    subst h
    exact ⟨1, rfl⟩
  · rw [if_neg c18] at h
    refine hq_izF rfl (hq_c_eq_F c18) ?_
    refine hq_p 2 174 [some (.ref 174), some (.int a1)] [.ref 174, .ref 174] (fun n h => rfl) ?_
    refine hq_gf (x := .int (hq_gi y17.2 174 27)) rfl rfl rfl rfl rfl ?_
    refine hq_lcn (99999 : Int32) rfl (by decide) ?_
    obtain ⟨z19, hz19, h⟩ := hq_bind h
    suffices hT : hq_R (mm_O xs) d mc_X12_token 204 [some (.ref 174), some (.int a1)] [.int z19.1, .ref 174] z19.2 g none y from by
      clear h
      have h := hz19
      by_cases c20 : (99999 : Int32) < (hq_gi y17.2 174 27)
      · rw [if_pos c20] at h
        refine hq_icF rfl (hq_c_le_F c20) ?_
        refine hq_p 1 183 [some (.ref 174), some (.int a1)] [.ref 174, .ref 174] (fun n h => rfl) ?_
        refine hq_gf (x := .int (hq_gi y17.2 174 27)) rfl rfl rfl rfl rfl ?_
        refine hq_p 1 204 [some (.ref 174), some (.int a1)] [.int (hq_gi y17.2 174 27), .ref 174] (fun n h => rfl) ?_
        cases h
        exact hT
      · rw [if_neg c20] at h
        refine hq_icT rfl (hq_c_le_T c20) ?_
        refine hq_p 2 192 [some (.ref 174), some (.int a1)] [.ref 174, .int (10 : Int32), .ref 174] (fun n h => rfl) ?_
        refine hq_gf (x := .int (hq_gi y17.2 174 27)) rfl rfl rfl rfl rfl ?_
        refine hq_p 2 197 [some (.ref 174), some (.int a1)] [.ref 174, .int ((10 : Int32) * (hq_gi y17.2 174 27)), .ref 174] (fun n h => rfl) ?_
        obtain ⟨y21, hy21, h⟩ := hq_bind h
        refine hq_inv rfl rfl (Nat.le_trans (by decide) hd) rfl rfl (hq_rcv rfl rfl) (f_X12_here_run (Nat.le_sub_of_add_le (Nat.le_trans (by decide) hd)) hy21) rfl ?_
        refine hq_p 1 201 [some (.ref 174), some (.int a1)] [.int (((10 : Int32) * (hq_gi y17.2 174 27)) + y21.1), .ref 174] (fun n h => rfl) ?_
        refine hq_bip (48 : Int32) rfl (by decide) ?_
        refine hq_p 1 204 [some (.ref 174), some (.int a1)] [.int ((((10 : Int32) * (hq_gi y17.2 174 27)) + y21.1) - (48 : Int32)), .ref 174] (fun n h => rfl) ?_
        cases h
        exact hT
    obtain ⟨s22, hs22, h⟩ := hq_bind h
    refine hq_pfi rfl rfl rfl rfl rfl hs22 ?_
    refine hq_p 2 209 [some (.ref 174), some (.int a1)] [.ref 174, .ref 174] (fun n h => rfl) ?_
    refine hq_gf (x := .int (hq_gi s22 174 24)) rfl rfl rfl rfl rfl ?_
    refine hq_p 2 214 [some (.ref 174), some (.int a1)] [.int ((hq_gi s22 174 24) + (1 : Int32)), .ref 174] (fun n h => rfl) ?_
    obtain ⟨s23, hs23, h⟩ := hq_bind h
    refine hq_pfi rfl rfl rfl rfl rfl hs23 ?_
    refine hq_p 1 162 [some (.ref 174), some (.int a1)] [] (fun n h => rfl) ?_
    exact e162 a1 s23 h
theorem f_X12_token_L162_run {xs : List Int32} {n m d g : Nat} {a1 : Int32} {s : hq_S} {y : hq_S} (hd : 7 ≤ d) (h : f_X12_token_L162 n m a1 s = some y) : hq_R (mm_O xs) d mc_X12_token 162 [some (.ref 174), some (.int a1)] [] s g none y := by
  induction m generalizing a1 s with
  | zero => cases h
  | succ m ih => exact f_X12_token_L162_Brun (n := n) hd (fun a1 s h => ih h) h
def f_X12_token_L64_B (n : Nat) (q64 : Int32 → hq_S → Option hq_S) (a1 : Int32) (s : hq_S) : Option hq_S := (f_X12_here n s).bind fun y24 => (f_X12_isSmall n y24.1 y24.2).bind fun y25 => if y25.1 = 0 then (f_X12_word n y25.2).bind fun y27 => (hq_pi y27.2 174 27 0 y27.1).bind fun s28 => (if (hq_gi s28 174 27) = (-1 : Int32) then if (6 : Int32) < ((hq_gi s28 174 24) - (hq_gi s28 174 25)) then some (5 : Int32) else some (1 : Int32) else some (0 : Int32)).bind fun z29 => (hq_pi s28 174 26 0 z29).bind fun s32 => if (hq_gi s32 174 26) = (1 : Int32) then (f_X12_name n s32).bind fun s34 => some s34 else some s32 else (hq_pi y25.2 174 24 0 ((hq_gi y25.2 174 24) + (1 : Int32))).bind fun s35 => q64 a1 s35
def f_X12_token_L64 (n : Nat) (m : Nat) : Int32 → hq_S → Option hq_S := Nat.rec (fun _ _ => none) (fun _ q => f_X12_token_L64_B n q) m
theorem f_X12_token_L64_Brun {xs : List Int32} {n d g : Nat} {a1 : Int32} {q64 : Int32 → hq_S → Option hq_S} {s : hq_S} {y : hq_S} (hd : 7 ≤ d) (e64 : ∀ (a1 : Int32) (s : hq_S), q64 a1 s = some y → hq_R (mm_O xs) d mc_X12_token 64 [some (.ref 174), some (.int a1)] [] s g none y) (h : f_X12_token_L64_B n q64 a1 s = some y) : hq_R (mm_O xs) d mc_X12_token 64 [some (.ref 174), some (.int a1)] [] s g none y := by
  unfold f_X12_token_L64_B at h
  refine hq_p 1 65 [some (.ref 174), some (.int a1)] [.ref 174] (fun n h => rfl) ?_
  obtain ⟨y24, hy24, h⟩ := hq_bind h
  refine hq_inv rfl rfl (Nat.le_trans (by decide) hd) rfl rfl (hq_rcv rfl rfl) (f_X12_here_run (Nat.le_sub_of_add_le (Nat.le_trans (by decide) hd)) hy24) rfl ?_
  obtain ⟨y25, hy25, h⟩ := hq_bind h
  refine hq_ist rfl rfl rfl (Nat.le_trans (by decide) hd) rfl (f_X12_isSmall_run (Nat.le_sub_of_add_le (Nat.le_trans (by decide) hd)) hy25) rfl ?_
  by_cases c26 : y25.1 = 0
  · rw [if_pos c26] at h
    refine hq_izT rfl (hq_c_eq_T c26) ?_
    refine hq_p 2 89 [some (.ref 174), some (.int a1)] [.ref 174, .ref 174] (fun n h => rfl) ?_
    obtain ⟨y27, hy27, h⟩ := hq_bind h
    refine hq_inv rfl rfl (Nat.le_trans (by decide) hd) rfl rfl (hq_rcv rfl rfl) (f_X12_word_run (Nat.le_sub_of_add_le (Nat.le_trans (by decide) hd)) hy27) rfl ?_
    obtain ⟨s28, hs28, h⟩ := hq_bind h
    refine hq_pfi rfl rfl rfl rfl rfl hs28 ?_
    refine hq_p 2 97 [some (.ref 174), some (.int a1)] [.ref 174, .ref 174] (fun n h => rfl) ?_
    refine hq_gf (x := .int (hq_gi s28 174 27)) rfl rfl rfl rfl rfl ?_
    refine hq_icn (-1 : Int32) rfl (by decide) ?_
    obtain ⟨z29, hz29, h⟩ := hq_bind h
    suffices hT : hq_R (mm_O xs) d mc_X12_token 127 [some (.ref 174), some (.int a1)] [.int z29, .ref 174] s28 g none y from by
      clear h
      have h := hz29
      by_cases c30 : (hq_gi s28 174 27) = (-1 : Int32)
      · rw [if_pos c30] at h
        refine hq_icT rfl (hq_c_eq_T c30) ?_
        refine hq_p 1 109 [some (.ref 174), some (.int a1)] [.ref 174, .ref 174] (fun n h => rfl) ?_
        refine hq_gf (x := .int (hq_gi s28 174 24)) rfl rfl rfl rfl rfl ?_
        refine hq_p 1 113 [some (.ref 174), some (.int a1)] [.ref 174, .int (hq_gi s28 174 24), .ref 174] (fun n h => rfl) ?_
        refine hq_gf (x := .int (hq_gi s28 174 25)) rfl rfl rfl rfl rfl ?_
        refine hq_p 2 119 [some (.ref 174), some (.int a1)] [.int (6 : Int32), .int ((hq_gi s28 174 24) - (hq_gi s28 174 25)), .ref 174] (fun n h => rfl) ?_
        by_cases c31 : (6 : Int32) < ((hq_gi s28 174 24) - (hq_gi s28 174 25))
        · rw [if_pos c31] at h
          refine hq_icF rfl (hq_c_le_F c31) ?_
          refine hq_p 2 127 [some (.ref 174), some (.int a1)] [.int (5 : Int32), .ref 174] (fun n h => rfl) ?_
          cases h
          exact hT
        · rw [if_neg c31] at h
          refine hq_icT rfl (hq_c_le_T c31) ?_
          refine hq_p 1 127 [some (.ref 174), some (.int a1)] [.int (1 : Int32), .ref 174] (fun n h => rfl) ?_
          cases h
          exact hT
      · rw [if_neg c30] at h
        refine hq_icF rfl (hq_c_eq_F c30) ?_
        refine hq_p 2 127 [some (.ref 174), some (.int a1)] [.int (0 : Int32), .ref 174] (fun n h => rfl) ?_
        cases h
        exact hT
    obtain ⟨s32, hs32, h⟩ := hq_bind h
    refine hq_pfi rfl rfl rfl rfl rfl hs32 ?_
    refine hq_p 1 131 [some (.ref 174), some (.int a1)] [.ref 174] (fun n h => rfl) ?_
    refine hq_gf (x := .int (hq_gi s32 174 26)) rfl rfl rfl rfl rfl ?_
    refine hq_p 1 135 [some (.ref 174), some (.int a1)] [.int (1 : Int32), .int (hq_gi s32 174 26)] (fun n h => rfl) ?_
    by_cases c33 : (hq_gi s32 174 26) = (1 : Int32)
    · rw [if_pos c33] at h
      refine hq_icF rfl (hq_c_ne_F c33) ?_
      refine hq_p 1 139 [some (.ref 174), some (.int a1)] [.ref 174] (fun n h => rfl) ?_
      obtain ⟨s34, hs34, h⟩ := hq_bind h
      refine hq_inv rfl rfl (Nat.le_trans (by decide) hd) rfl rfl (hq_rcv rfl rfl) (f_X12_name_run (Nat.le_sub_of_add_le (Nat.le_trans (by decide) hd)) hs34) rfl ?_
      refine hq_p 1 225 [some (.ref 174), some (.int a1)] [] (fun n h => rfl) ?_
      have h := Option.some.inj h
      subst h
      exact ⟨1, rfl⟩
    · rw [if_neg c33] at h
      refine hq_icT rfl (hq_c_ne_T c33) ?_
      have h := Option.some.inj h
      subst h
      exact ⟨1, rfl⟩
  · rw [if_neg c26] at h
    refine hq_izF rfl (hq_c_eq_F c26) ?_
    refine hq_p 2 76 [some (.ref 174), some (.int a1)] [.ref 174, .ref 174] (fun n h => rfl) ?_
    refine hq_gf (x := .int (hq_gi y25.2 174 24)) rfl rfl rfl rfl rfl ?_
    refine hq_p 2 81 [some (.ref 174), some (.int a1)] [.int ((hq_gi y25.2 174 24) + (1 : Int32)), .ref 174] (fun n h => rfl) ?_
    obtain ⟨s35, hs35, h⟩ := hq_bind h
    refine hq_pfi rfl rfl rfl rfl rfl hs35 ?_
    refine hq_p 1 64 [some (.ref 174), some (.int a1)] [] (fun n h => rfl) ?_
    exact e64 a1 s35 h
theorem f_X12_token_L64_run {xs : List Int32} {n m d g : Nat} {a1 : Int32} {s : hq_S} {y : hq_S} (hd : 7 ≤ d) (h : f_X12_token_L64 n m a1 s = some y) : hq_R (mm_O xs) d mc_X12_token 64 [some (.ref 174), some (.int a1)] [] s g none y := by
  induction m generalizing a1 s with
  | zero => cases h
  | succ m ih => exact f_X12_token_L64_Brun (n := n) hd (fun a1 s h => ih h) h
def f_X12_token_L0_B (n : Nat) (q0 : hq_S → Option hq_S) (s : hq_S) : Option hq_S := (f_X12_here n s).bind fun y1 => if y1.1 = (10 : Int32) then f_X12_token_J18 n q0 y1.2 else (f_X12_here n y1.2).bind fun y4 => if y4.1 = (32 : Int32) then f_X12_token_J18 n q0 y4.2 else (hq_pi y4.2 174 25 0 (hq_gi y4.2 174 24)).bind fun s6 => (f_X12_here n s6).bind fun y7 => if y7.1 = (-1 : Int32) then (hq_pi y7.2 174 26 0 (4 : Int32)).bind fun s36 => some s36 else (f_X12_isSmall n y7.1 y7.2).bind fun y9 => if y9.1 = 0 then (f_X12_isDigit n y7.1 y9.2).bind fun y11 => if y11.1 = 0 then (f_X12_sign n y7.1 y11.2).bind fun s13 => some s13 else (hq_pi y11.2 174 26 0 (2 : Int32)).bind fun s14 => (hq_pi s14 174 27 0 (0 : Int32)).bind fun s15 => f_X12_token_L162 n n y7.1 s15 else f_X12_token_L64 n n y7.1 y9.2
def f_X12_token_L0 (n : Nat) (m : Nat) : hq_S → Option hq_S := Nat.rec (fun _ => none) (fun _ q => f_X12_token_L0_B n q) m
theorem f_X12_token_L0_Brun {xs : List Int32} {n d g : Nat} {q0 : hq_S → Option hq_S} {s : hq_S} {y : hq_S} (hd : 7 ≤ d) (e0 : ∀ (s : hq_S), q0 s = some y → hq_R (mm_O xs) d mc_X12_token 0 [some (.ref 174), none] [] s g none y) (h : f_X12_token_L0_B n q0 s = some y) : hq_R (mm_O xs) d mc_X12_token 0 [some (.ref 174), none] [] s g none y := by
  unfold f_X12_token_L0_B at h
  refine hq_p 1 1 [some (.ref 174), none] [.ref 174] (fun n h => rfl) ?_
  obtain ⟨y1, hy1, h⟩ := hq_bind h
  refine hq_inv rfl rfl (Nat.le_trans (by decide) hd) rfl rfl (hq_rcv rfl rfl) (f_X12_here_run (Nat.le_sub_of_add_le (Nat.le_trans (by decide) hd)) hy1) rfl ?_
  refine hq_p 1 6 [some (.ref 174), none] [.int (10 : Int32), .int y1.1] (fun n h => rfl) ?_
  by_cases c2 : y1.1 = (10 : Int32)
  · rw [if_pos c2] at h
    refine hq_icT rfl (hq_c_eq_T c2) ?_
    exact f_X12_token_J18_run hd e0 h
  · rw [if_neg c2] at h
    refine hq_icF rfl (hq_c_eq_F c2) ?_
    refine hq_p 1 10 [some (.ref 174), none] [.ref 174] (fun n h => rfl) ?_
    obtain ⟨y4, hy4, h⟩ := hq_bind h
    refine hq_inv rfl rfl (Nat.le_trans (by decide) hd) rfl rfl (hq_rcv rfl rfl) (f_X12_here_run (Nat.le_sub_of_add_le (Nat.le_trans (by decide) hd)) hy4) rfl ?_
    refine hq_bip (32 : Int32) rfl (by decide) ?_
    by_cases c5 : y4.1 = (32 : Int32)
    · rw [if_pos c5] at h
      refine hq_icF rfl (hq_c_ne_F c5) ?_
      exact f_X12_token_J18_run hd e0 h
    · rw [if_neg c5] at h
      refine hq_icT rfl (hq_c_ne_T c5) ?_
      refine hq_p 2 33 [some (.ref 174), none] [.ref 174, .ref 174] (fun n h => rfl) ?_
      refine hq_gf (x := .int (hq_gi y4.2 174 24)) rfl rfl rfl rfl rfl ?_
      obtain ⟨s6, hs6, h⟩ := hq_bind h
      refine hq_pfi rfl rfl rfl rfl rfl hs6 ?_
      refine hq_p 1 40 [some (.ref 174), none] [.ref 174] (fun n h => rfl) ?_
      obtain ⟨y7, hy7, h⟩ := hq_bind h
      refine hq_inv rfl rfl (Nat.le_trans (by decide) hd) rfl rfl (hq_rcv rfl rfl) (f_X12_here_run (Nat.le_sub_of_add_le (Nat.le_trans (by decide) hd)) hy7) rfl ?_
      refine hq_p 2 45 [some (.ref 174), some (.int y7.1)] [.int y7.1] (fun n h => rfl) ?_
      refine hq_icn (-1 : Int32) rfl (by decide) ?_
      by_cases c8 : y7.1 = (-1 : Int32)
      · rw [if_pos c8] at h
        refine hq_icF rfl (hq_c_ne_F c8) ?_
        refine hq_p 2 51 [some (.ref 174), some (.int y7.1)] [.int (4 : Int32), .ref 174] (fun n h => rfl) ?_
        obtain ⟨s36, hs36, h⟩ := hq_bind h
        refine hq_pfi rfl rfl rfl rfl rfl hs36 ?_
        refine hq_p 1 225 [some (.ref 174), some (.int y7.1)] [] (fun n h => rfl) ?_
        have h := Option.some.inj h
        subst h
        exact ⟨1, rfl⟩
      · rw [if_neg c8] at h
        refine hq_icT rfl (hq_c_ne_T c8) ?_
        refine hq_p 1 58 [some (.ref 174), some (.int y7.1)] [.int y7.1] (fun n h => rfl) ?_
        obtain ⟨y9, hy9, h⟩ := hq_bind h
        refine hq_ist rfl rfl rfl (Nat.le_trans (by decide) hd) rfl (f_X12_isSmall_run (Nat.le_sub_of_add_le (Nat.le_trans (by decide) hd)) hy9) rfl ?_
        by_cases c10 : y9.1 = 0
        · rw [if_pos c10] at h
          refine hq_izT rfl (hq_c_eq_T c10) ?_
          refine hq_p 1 146 [some (.ref 174), some (.int y7.1)] [.int y7.1] (fun n h => rfl) ?_
          obtain ⟨y11, hy11, h⟩ := hq_bind h
          refine hq_ist rfl rfl rfl (Nat.le_trans (by decide) hd) rfl (f_X12_isDigit_run (Nat.le_sub_of_add_le (Nat.le_trans (by decide) hd)) hy11) rfl ?_
          by_cases c12 : y11.1 = 0
          · rw [if_pos c12] at h
            refine hq_izT rfl (hq_c_eq_T c12) ?_
            refine hq_p 2 222 [some (.ref 174), some (.int y7.1)] [.int y7.1, .ref 174] (fun n h => rfl) ?_
            obtain ⟨s13, hs13, h⟩ := hq_bind h
            refine hq_inv rfl rfl (Nat.le_trans (by decide) hd) rfl rfl (hq_rcv rfl rfl) (f_X12_sign_run (Nat.le_sub_of_add_le (Nat.le_trans (by decide) hd)) hs13) rfl ?_
            have h := Option.some.inj h
            subst h
            exact ⟨1, rfl⟩
          · rw [if_neg c12] at h
            refine hq_izF rfl (hq_c_eq_F c12) ?_
            refine hq_p 2 154 [some (.ref 174), some (.int y7.1)] [.int (2 : Int32), .ref 174] (fun n h => rfl) ?_
            obtain ⟨s14, hs14, h⟩ := hq_bind h
            refine hq_pfi rfl rfl rfl rfl rfl hs14 ?_
            refine hq_p 2 159 [some (.ref 174), some (.int y7.1)] [.int (0 : Int32), .ref 174] (fun n h => rfl) ?_
            obtain ⟨s15, hs15, h⟩ := hq_bind h
            refine hq_pfi rfl rfl rfl rfl rfl hs15 ?_
            exact f_X12_token_L162_run hd h
        · rw [if_neg c10] at h
          refine hq_izF rfl (hq_c_eq_F c10) ?_
          exact f_X12_token_L64_run hd h
theorem f_X12_token_L0_run {xs : List Int32} {n m d g : Nat} {s : hq_S} {y : hq_S} (hd : 7 ≤ d) (h : f_X12_token_L0 n m s = some y) : hq_R (mm_O xs) d mc_X12_token 0 [some (.ref 174), none] [] s g none y := by
  induction m generalizing s with
  | zero => cases h
  | succ m ih => exact f_X12_token_L0_Brun (n := n) hd (fun s h => ih h) h
def f_X12_token (n : Nat) (s : hq_S) : Option hq_S := f_X12_token_L0 n n s
theorem f_X12_token_run {xs : List Int32} {n d g : Nat} {s : hq_S} {y : hq_S} (hd : 7 ≤ d) (h : f_X12_token n s = some y) : hq_R (mm_O xs) d mc_X12_token 0 [some (.ref 174), none] [] s g none y := by
  unfold f_X12_token at h
  exact f_X12_token_L0_run hd h
def f_X12_wrong (n : Nat) (a1 : Int32) (s : hq_S) : Option hq_S := if (hq_gi s 174 28) = 0 then (hq_pi s 174 28 0 a1).bind fun s2 => (hq_pi s2 174 29 0 (hq_gi s2 174 25)).bind fun s3 => some s3 else some s
theorem f_X12_wrong_run {xs : List Int32} {n d g : Nat} {a1 : Int32} {s : hq_S} {y : hq_S} (hd : 0 ≤ d) (h : f_X12_wrong n a1 s = some y) : hq_R (mm_O xs) d mc_X12_wrong 0 [some (.ref 174), some (.int a1)] [] s g none y := by
  unfold f_X12_wrong at h
  refine hq_p 1 1 [some (.ref 174), some (.int a1)] [.ref 174] (fun n h => rfl) ?_
  refine hq_gf (x := .int (hq_gi s 174 28)) rfl rfl rfl rfl rfl ?_
  by_cases c1 : (hq_gi s 174 28) = 0
  · rw [if_pos c1] at h
    refine hq_izT rfl (hq_c_eq_T c1) ?_
    refine hq_p 2 10 [some (.ref 174), some (.int a1)] [.int a1, .ref 174] (fun n h => rfl) ?_
    obtain ⟨s2, hs2, h⟩ := hq_bind h
    refine hq_pfi rfl rfl rfl rfl rfl hs2 ?_
    refine hq_p 2 15 [some (.ref 174), some (.int a1)] [.ref 174, .ref 174] (fun n h => rfl) ?_
    refine hq_gf (x := .int (hq_gi s2 174 25)) rfl rfl rfl rfl rfl ?_
    obtain ⟨s3, hs3, h⟩ := hq_bind h
    refine hq_pfi rfl rfl rfl rfl rfl hs3 ?_
    have h := Option.some.inj h
    subst h
    exact ⟨1, rfl⟩
  · rw [if_neg c1] at h
    refine hq_izF rfl (hq_c_eq_F c1) ?_
    have h := Option.some.inj h
    subst h
    exact ⟨1, rfl⟩
def f_X12_isWord (n : Nat) (a1 : Int32) (s : hq_S) : Option (Int32 × hq_S) := if (hq_gi s 174 28) = 0 then if (hq_gi s 174 26) = 0 then if (hq_gi s 174 27) = a1 then some ((1 : Int32), s) else some ((0 : Int32), s) else some ((0 : Int32), s) else some ((0 : Int32), s)
theorem f_X12_isWord_run {xs : List Int32} {n d g : Nat} {a1 : Int32} {s : hq_S} {y : (Int32 × hq_S)} (hd : 0 ≤ d) (h : f_X12_isWord n a1 s = some y) : hq_R (mm_O xs) d mc_X12_isWord 0 [some (.ref 174), some (.int a1)] [] s g (some (.int y.1)) y.2 := by
  unfold f_X12_isWord at h
  refine hq_p 1 1 [some (.ref 174), some (.int a1)] [.ref 174] (fun n h => rfl) ?_
  refine hq_gf (x := .int (hq_gi s 174 28)) rfl rfl rfl rfl rfl ?_
  by_cases c1 : (hq_gi s 174 28) = 0
  · rw [if_pos c1] at h
    refine hq_izF rfl (hq_c_ne_F c1) ?_
    refine hq_p 1 8 [some (.ref 174), some (.int a1)] [.ref 174] (fun n h => rfl) ?_
    refine hq_gf (x := .int (hq_gi s 174 26)) rfl rfl rfl rfl rfl ?_
    by_cases c2 : (hq_gi s 174 26) = 0
    · rw [if_pos c2] at h
      refine hq_izF rfl (hq_c_ne_F c2) ?_
      refine hq_p 1 15 [some (.ref 174), some (.int a1)] [.ref 174] (fun n h => rfl) ?_
      refine hq_gf (x := .int (hq_gi s 174 27)) rfl rfl rfl rfl rfl ?_
      refine hq_p 1 19 [some (.ref 174), some (.int a1)] [.int a1, .int (hq_gi s 174 27)] (fun n h => rfl) ?_
      by_cases c3 : (hq_gi s 174 27) = a1
      · rw [if_pos c3] at h
        refine hq_icF rfl (hq_c_ne_F c3) ?_
        refine hq_p 2 27 [some (.ref 174), some (.int a1)] [.int (1 : Int32)] (fun n h => rfl) ?_
        have h := Option.some.inj h
        subst h
        exact ⟨1, rfl⟩
      · rw [if_neg c3] at h
        refine hq_icT rfl (hq_c_ne_T c3) ?_
        refine hq_p 1 27 [some (.ref 174), some (.int a1)] [.int (0 : Int32)] (fun n h => rfl) ?_
        have h := Option.some.inj h
        subst h
        exact ⟨1, rfl⟩
    · rw [if_neg c2] at h
      refine hq_izT rfl (hq_c_ne_T c2) ?_
      refine hq_p 1 27 [some (.ref 174), some (.int a1)] [.int (0 : Int32)] (fun n h => rfl) ?_
      have h := Option.some.inj h
      subst h
      exact ⟨1, rfl⟩
  · rw [if_neg c1] at h
    refine hq_izT rfl (hq_c_ne_T c1) ?_
    refine hq_p 1 27 [some (.ref 174), some (.int a1)] [.int (0 : Int32)] (fun n h => rfl) ?_
    have h := Option.some.inj h
    subst h
    exact ⟨1, rfl⟩
def f_X12_isSign (n : Nat) (a1 : Int32) (s : hq_S) : Option (Int32 × hq_S) := if (hq_gi s 174 28) = 0 then if (hq_gi s 174 26) = (3 : Int32) then if (hq_gi s 174 27) = a1 then some ((1 : Int32), s) else some ((0 : Int32), s) else some ((0 : Int32), s) else some ((0 : Int32), s)
theorem f_X12_isSign_run {xs : List Int32} {n d g : Nat} {a1 : Int32} {s : hq_S} {y : (Int32 × hq_S)} (hd : 0 ≤ d) (h : f_X12_isSign n a1 s = some y) : hq_R (mm_O xs) d mc_X12_isSign 0 [some (.ref 174), some (.int a1)] [] s g (some (.int y.1)) y.2 := by
  unfold f_X12_isSign at h
  refine hq_p 1 1 [some (.ref 174), some (.int a1)] [.ref 174] (fun n h => rfl) ?_
  refine hq_gf (x := .int (hq_gi s 174 28)) rfl rfl rfl rfl rfl ?_
  by_cases c1 : (hq_gi s 174 28) = 0
  · rw [if_pos c1] at h
    refine hq_izF rfl (hq_c_ne_F c1) ?_
    refine hq_p 1 8 [some (.ref 174), some (.int a1)] [.ref 174] (fun n h => rfl) ?_
    refine hq_gf (x := .int (hq_gi s 174 26)) rfl rfl rfl rfl rfl ?_
    refine hq_p 1 12 [some (.ref 174), some (.int a1)] [.int (3 : Int32), .int (hq_gi s 174 26)] (fun n h => rfl) ?_
    by_cases c2 : (hq_gi s 174 26) = (3 : Int32)
    · rw [if_pos c2] at h
      refine hq_icF rfl (hq_c_ne_F c2) ?_
      refine hq_p 1 16 [some (.ref 174), some (.int a1)] [.ref 174] (fun n h => rfl) ?_
      refine hq_gf (x := .int (hq_gi s 174 27)) rfl rfl rfl rfl rfl ?_
      refine hq_p 1 20 [some (.ref 174), some (.int a1)] [.int a1, .int (hq_gi s 174 27)] (fun n h => rfl) ?_
      by_cases c3 : (hq_gi s 174 27) = a1
      · rw [if_pos c3] at h
        refine hq_icF rfl (hq_c_ne_F c3) ?_
        refine hq_p 2 28 [some (.ref 174), some (.int a1)] [.int (1 : Int32)] (fun n h => rfl) ?_
        have h := Option.some.inj h
        subst h
        exact ⟨1, rfl⟩
      · rw [if_neg c3] at h
        refine hq_icT rfl (hq_c_ne_T c3) ?_
        refine hq_p 1 28 [some (.ref 174), some (.int a1)] [.int (0 : Int32)] (fun n h => rfl) ?_
        have h := Option.some.inj h
        subst h
        exact ⟨1, rfl⟩
    · rw [if_neg c2] at h
      refine hq_icT rfl (hq_c_ne_T c2) ?_
      refine hq_p 1 28 [some (.ref 174), some (.int a1)] [.int (0 : Int32)] (fun n h => rfl) ?_
      have h := Option.some.inj h
      subst h
      exact ⟨1, rfl⟩
  · rw [if_neg c1] at h
    refine hq_izT rfl (hq_c_ne_T c1) ?_
    refine hq_p 1 28 [some (.ref 174), some (.int a1)] [.int (0 : Int32)] (fun n h => rfl) ?_
    have h := Option.some.inj h
    subst h
    exact ⟨1, rfl⟩
def f_X12_goOn (n : Nat) (s : hq_S) : Option hq_S := if (hq_gi s 174 28) = 0 then (f_X12_token n s).bind fun s2 => some s2 else some s
theorem f_X12_goOn_run {xs : List Int32} {n d g : Nat} {s : hq_S} {y : hq_S} (hd : 8 ≤ d) (h : f_X12_goOn n s = some y) : hq_R (mm_O xs) d mc_X12_goOn 0 [some (.ref 174)] [] s g none y := by
  unfold f_X12_goOn at h
  refine hq_p 1 1 [some (.ref 174)] [.ref 174] (fun n h => rfl) ?_
  refine hq_gf (x := .int (hq_gi s 174 28)) rfl rfl rfl rfl rfl ?_
  by_cases c1 : (hq_gi s 174 28) = 0
  · rw [if_pos c1] at h
    refine hq_izF rfl (hq_c_ne_F c1) ?_
    refine hq_p 1 8 [some (.ref 174)] [.ref 174] (fun n h => rfl) ?_
    obtain ⟨s2, hs2, h⟩ := hq_bind h
    refine hq_inv rfl rfl (Nat.le_trans (by decide) hd) rfl rfl (hq_rcv rfl rfl) (f_X12_token_run (Nat.le_sub_of_add_le (Nat.le_trans (by decide) hd)) hs2) rfl ?_
    have h := Option.some.inj h
    subst h
    exact ⟨1, rfl⟩
  · rw [if_neg c1] at h
    refine hq_izT rfl (hq_c_ne_T c1) ?_
    have h := Option.some.inj h
    subst h
    exact ⟨1, rfl⟩
def f_X12_numeral (n : Nat) (a1 : Int32) (a2 : Int32) (s : hq_S) : Option (Int32 × hq_S) := if (hq_gi s 174 28) = 0 then (if (hq_gi s 174 26) = (2 : Int32) then if (hq_gi s 174 27) < a1 then (f_X12_wrong n (2 : Int32) s).bind fun s5 => some s5 else if a2 < (hq_gi s 174 27) then (f_X12_wrong n (2 : Int32) s).bind fun s7 => some s7 else some s else (f_X12_wrong n (1 : Int32) s).bind fun s8 => some s8).bind fun z2 => if (hq_gi z2 174 28) = 0 then (f_X12_token n z2).bind fun s10 => some ((hq_gi z2 174 27), s10) else some (a1, z2) else some (a1, s)
theorem f_X12_numeral_run {xs : List Int32} {n d g : Nat} {a1 : Int32} {a2 : Int32} {s : hq_S} {y : (Int32 × hq_S)} (hd : 8 ≤ d) (h : f_X12_numeral n a1 a2 s = some y) : hq_R (mm_O xs) d mc_X12_numeral 0 [some (.ref 174), some (.int a1), some (.int a2), none] [] s g (some (.int y.1)) y.2 := by
  unfold f_X12_numeral at h
  refine hq_p 1 1 [some (.ref 174), some (.int a1), some (.int a2), none] [.ref 174] (fun n h => rfl) ?_
  refine hq_gf (x := .int (hq_gi s 174 28)) rfl rfl rfl rfl rfl ?_
  by_cases c1 : (hq_gi s 174 28) = 0
  · rw [if_pos c1] at h
    refine hq_izT rfl (hq_c_eq_T c1) ?_
    refine hq_p 1 10 [some (.ref 174), some (.int a1), some (.int a2), none] [.ref 174] (fun n h => rfl) ?_
    refine hq_gf (x := .int (hq_gi s 174 26)) rfl rfl rfl rfl rfl ?_
    refine hq_p 1 14 [some (.ref 174), some (.int a1), some (.int a2), none] [.int (2 : Int32), .int (hq_gi s 174 26)] (fun n h => rfl) ?_
    obtain ⟨z2, hz2, h⟩ := hq_bind h
    suffices hT : hq_R (mm_O xs) d mc_X12_numeral 46 [some (.ref 174), some (.int a1), some (.int a2), none] [] z2 g (some (.int y.1)) y.2 from by
      clear h
      have h := hz2
      by_cases c3 : (hq_gi s 174 26) = (2 : Int32)
      · rw [if_pos c3] at h
        refine hq_icT rfl (hq_c_eq_T c3) ?_
        refine hq_p 1 26 [some (.ref 174), some (.int a1), some (.int a2), none] [.ref 174] (fun n h => rfl) ?_
        refine hq_gf (x := .int (hq_gi s 174 27)) rfl rfl rfl rfl rfl ?_
        refine hq_p 1 30 [some (.ref 174), some (.int a1), some (.int a2), none] [.int a1, .int (hq_gi s 174 27)] (fun n h => rfl) ?_
        by_cases c4 : (hq_gi s 174 27) < a1
        · rw [if_pos c4] at h
          refine hq_icT rfl (hq_c_lt_T c4) ?_
          refine hq_p 2 43 [some (.ref 174), some (.int a1), some (.int a2), none] [.int (2 : Int32), .ref 174] (fun n h => rfl) ?_
          obtain ⟨s5, hs5, h⟩ := hq_bind h
          refine hq_inv rfl rfl (Nat.le_trans (by decide) hd) rfl rfl (hq_rcv rfl rfl) (f_X12_wrong_run (Nat.le_sub_of_add_le (Nat.le_trans (by decide) hd)) hs5) rfl ?_
          cases h
          exact hT
        · rw [if_neg c4] at h
          refine hq_icF rfl (hq_c_lt_F c4) ?_
          refine hq_p 1 34 [some (.ref 174), some (.int a1), some (.int a2), none] [.ref 174] (fun n h => rfl) ?_
          refine hq_gf (x := .int (hq_gi s 174 27)) rfl rfl rfl rfl rfl ?_
          refine hq_p 1 38 [some (.ref 174), some (.int a1), some (.int a2), none] [.int a2, .int (hq_gi s 174 27)] (fun n h => rfl) ?_
          by_cases c6 : a2 < (hq_gi s 174 27)
          · rw [if_pos c6] at h
            refine hq_icF rfl (hq_c_le_F c6) ?_
            refine hq_p 2 43 [some (.ref 174), some (.int a1), some (.int a2), none] [.int (2 : Int32), .ref 174] (fun n h => rfl) ?_
            obtain ⟨s7, hs7, h⟩ := hq_bind h
            refine hq_inv rfl rfl (Nat.le_trans (by decide) hd) rfl rfl (hq_rcv rfl rfl) (f_X12_wrong_run (Nat.le_sub_of_add_le (Nat.le_trans (by decide) hd)) hs7) rfl ?_
            cases h
            exact hT
          · rw [if_neg c6] at h
            refine hq_icT rfl (hq_c_le_T c6) ?_
            cases h
            exact hT
      · rw [if_neg c3] at h
        refine hq_icF rfl (hq_c_eq_F c3) ?_
        refine hq_p 2 19 [some (.ref 174), some (.int a1), some (.int a2), none] [.int (1 : Int32), .ref 174] (fun n h => rfl) ?_
        obtain ⟨s8, hs8, h⟩ := hq_bind h
        refine hq_inv rfl rfl (Nat.le_trans (by decide) hd) rfl rfl (hq_rcv rfl rfl) (f_X12_wrong_run (Nat.le_sub_of_add_le (Nat.le_trans (by decide) hd)) hs8) rfl ?_
        refine hq_p 1 46 [some (.ref 174), some (.int a1), some (.int a2), none] [] (fun n h => rfl) ?_
        cases h
        exact hT
    refine hq_p 1 47 [some (.ref 174), some (.int a1), some (.int a2), none] [.ref 174] (fun n h => rfl) ?_
    refine hq_gf (x := .int (hq_gi z2 174 28)) rfl rfl rfl rfl rfl ?_
    by_cases c9 : (hq_gi z2 174 28) = 0
    · rw [if_pos c9] at h
      refine hq_izT rfl (hq_c_eq_T c9) ?_
      refine hq_p 1 56 [some (.ref 174), some (.int a1), some (.int a2), none] [.ref 174] (fun n h => rfl) ?_
      refine hq_gf (x := .int (hq_gi z2 174 27)) rfl rfl rfl rfl rfl ?_
      refine hq_p 2 61 [some (.ref 174), some (.int a1), some (.int a2), some (.int (hq_gi z2 174 27))] [.ref 174] (fun n h => rfl) ?_
      obtain ⟨s10, hs10, h⟩ := hq_bind h
      refine hq_inv rfl rfl (Nat.le_trans (by decide) hd) rfl rfl (hq_rcv rfl rfl) (f_X12_token_run (Nat.le_sub_of_add_le (Nat.le_trans (by decide) hd)) hs10) rfl ?_
      refine hq_p 1 65 [some (.ref 174), some (.int a1), some (.int a2), some (.int (hq_gi z2 174 27))] [.int (hq_gi z2 174 27)] (fun n h => rfl) ?_
      have h := Option.some.inj h
      subst h
      exact ⟨1, rfl⟩
    · rw [if_neg c9] at h
      refine hq_izF rfl (hq_c_eq_F c9) ?_
      refine hq_p 1 54 [some (.ref 174), some (.int a1), some (.int a2), none] [.int a1] (fun n h => rfl) ?_
      have h := Option.some.inj h
      subst h
      exact ⟨1, rfl⟩
  · rw [if_neg c1] at h
    refine hq_izF rfl (hq_c_eq_F c1) ?_
    refine hq_p 1 8 [some (.ref 174), some (.int a1), some (.int a2), none] [.int a1] (fun n h => rfl) ?_
    have h := Option.some.inj h
    subst h
    exact ⟨1, rfl⟩
def f_X12_found_L3_B (n : Nat) (q3 : Nat → Int32 → Int32 → Int32 → Int32 → hq_S → Option (Int32 × hq_S)) (k0 : Nat) (a1 : Int32) (a2 : Int32) (a3 : Int32) (a4 : Int32) (s : hq_S) : Option (Int32 × hq_S) := if a4 < a2 then (hq_ldiA s k0 (a1 + a4)).bind fun x2 => if x2 = a3 then some (a4, s) else q3 k0 a1 a2 a3 (a4 + (1 : Int32)) s else some ((-1 : Int32), s)
def f_X12_found_L3 (n : Nat) (m : Nat) : Nat → Int32 → Int32 → Int32 → Int32 → hq_S → Option (Int32 × hq_S) := Nat.rec (fun _ _ _ _ _ _ => none) (fun _ q => f_X12_found_L3_B n q) m
theorem f_X12_found_L3_Brun {xs : List Int32} {n d g : Nat} {k0 : Nat} {a1 : Int32} {a2 : Int32} {a3 : Int32} {a4 : Int32} {q3 : Nat → Int32 → Int32 → Int32 → Int32 → hq_S → Option (Int32 × hq_S)} {s : hq_S} {y : (Int32 × hq_S)} (hd : 0 ≤ d) (e3 : ∀ (k0 : Nat) (a1 : Int32) (a2 : Int32) (a3 : Int32) (a4 : Int32) (s : hq_S), q3 k0 a1 a2 a3 a4 s = some y → hq_R (mm_O xs) d mc_X12_found 3 [some (.ref k0), some (.int a1), some (.int a2), some (.int a3), some (.int a4)] [] s g (some (.int y.1)) y.2) (h : f_X12_found_L3_B n q3 k0 a1 a2 a3 a4 s = some y) : hq_R (mm_O xs) d mc_X12_found 3 [some (.ref k0), some (.int a1), some (.int a2), some (.int a3), some (.int a4)] [] s g (some (.int y.1)) y.2 := by
  unfold f_X12_found_L3_B at h
  refine hq_p 2 6 [some (.ref k0), some (.int a1), some (.int a2), some (.int a3), some (.int a4)] [.int a2, .int a4] (fun n h => rfl) ?_
  by_cases c1 : a4 < a2
  · rw [if_pos c1] at h
    refine hq_icF rfl (hq_c_ge_F c1) ?_
    refine hq_p 4 14 [some (.ref k0), some (.int a1), some (.int a2), some (.int a3), some (.int a4)] [.int (a1 + a4), .ref k0] (fun n h => rfl) ?_
    obtain ⟨x2, hx2, h⟩ := hq_bind h
    refine hq_ialoadA rfl hx2 ?_
    refine hq_p 1 16 [some (.ref k0), some (.int a1), some (.int a2), some (.int a3), some (.int a4)] [.int a3, .int x2] (fun n h => rfl) ?_
    by_cases c3 : x2 = a3
    · rw [if_pos c3] at h
      refine hq_icF rfl (hq_c_ne_F c3) ?_
      refine hq_p 1 21 [some (.ref k0), some (.int a1), some (.int a2), some (.int a3), some (.int a4)] [.int a4] (fun n h => rfl) ?_
      have h := Option.some.inj h
      subst h
      exact ⟨1, rfl⟩
    · rw [if_neg c3] at h
      refine hq_icT rfl (hq_c_ne_T c3) ?_
      refine hq_p 2 3 [some (.ref k0), some (.int a1), some (.int a2), some (.int a3), some (.int (a4 + (1 : Int32)))] [] (fun n h => rfl) ?_
      exact e3 k0 a1 a2 a3 (a4 + (1 : Int32)) s h
  · rw [if_neg c1] at h
    refine hq_icT rfl (hq_c_ge_T c1) ?_
    refine hq_icn (-1 : Int32) rfl (by decide) ?_
    have h := Option.some.inj h
    subst h
    exact ⟨1, rfl⟩
theorem f_X12_found_L3_run {xs : List Int32} {n m d g : Nat} {k0 : Nat} {a1 : Int32} {a2 : Int32} {a3 : Int32} {a4 : Int32} {s : hq_S} {y : (Int32 × hq_S)} (hd : 0 ≤ d) (h : f_X12_found_L3 n m k0 a1 a2 a3 a4 s = some y) : hq_R (mm_O xs) d mc_X12_found 3 [some (.ref k0), some (.int a1), some (.int a2), some (.int a3), some (.int a4)] [] s g (some (.int y.1)) y.2 := by
  induction m generalizing k0 a1 a2 a3 a4 s with
  | zero => cases h
  | succ m ih => exact f_X12_found_L3_Brun (n := n) hd (fun k0 a1 a2 a3 a4 s h => ih h) h
def f_X12_found (n : Nat) (k0 : Nat) (a1 : Int32) (a2 : Int32) (a3 : Int32) (s : hq_S) : Option (Int32 × hq_S) := f_X12_found_L3 n n k0 a1 a2 a3 (0 : Int32) s
theorem f_X12_found_run {xs : List Int32} {n d g : Nat} {k0 : Nat} {a1 : Int32} {a2 : Int32} {a3 : Int32} {s : hq_S} {y : (Int32 × hq_S)} (hd : 0 ≤ d) (h : f_X12_found n k0 a1 a2 a3 s = some y) : hq_R (mm_O xs) d mc_X12_found 0 [some (.ref k0), some (.int a1), some (.int a2), some (.int a3), none] [] s g (some (.int y.1)) y.2 := by
  unfold f_X12_found at h
  refine hq_p 2 3 [some (.ref k0), some (.int a1), some (.int a2), some (.int a3), some (.int (0 : Int32))] [] (fun n h => rfl) ?_
  exact f_X12_found_L3_run hd h
def f_X12_fresh (n : Nat) (k1 : Nat) (a2 : Int32) (a3 : Int32) (s : hq_S) : Option (Int32 × hq_S) := if (hq_gi s 174 28) = 0 then (if (hq_gi s 174 26) = (1 : Int32) then (f_X12_found n k1 a2 a3 (hq_gi s 174 27) s).bind fun y4 => if y4.1 = (-1 : Int32) then some y4.2 else (f_X12_wrong n (3 : Int32) y4.2).bind fun s6 => some s6 else (f_X12_wrong n (1 : Int32) s).bind fun s7 => some s7).bind fun z2 => if (hq_gi z2 174 28) = 0 then (f_X12_token n z2).bind fun s9 => some ((hq_gi z2 174 27), s9) else some ((0 : Int32), z2) else some ((0 : Int32), s)
theorem f_X12_fresh_run {xs : List Int32} {n d g : Nat} {k1 : Nat} {a2 : Int32} {a3 : Int32} {s : hq_S} {y : (Int32 × hq_S)} (hd : 8 ≤ d) (h : f_X12_fresh n k1 a2 a3 s = some y) : hq_R (mm_O xs) d mc_X12_fresh 0 [some (.ref 174), some (.ref k1), some (.int a2), some (.int a3), none] [] s g (some (.int y.1)) y.2 := by
  unfold f_X12_fresh at h
  refine hq_p 1 1 [some (.ref 174), some (.ref k1), some (.int a2), some (.int a3), none] [.ref 174] (fun n h => rfl) ?_
  refine hq_gf (x := .int (hq_gi s 174 28)) rfl rfl rfl rfl rfl ?_
  by_cases c1 : (hq_gi s 174 28) = 0
  · rw [if_pos c1] at h
    refine hq_izT rfl (hq_c_eq_T c1) ?_
    refine hq_p 1 10 [some (.ref 174), some (.ref k1), some (.int a2), some (.int a3), none] [.ref 174] (fun n h => rfl) ?_
    refine hq_gf (x := .int (hq_gi s 174 26)) rfl rfl rfl rfl rfl ?_
    refine hq_p 1 14 [some (.ref 174), some (.ref k1), some (.int a2), some (.int a3), none] [.int (1 : Int32), .int (hq_gi s 174 26)] (fun n h => rfl) ?_
    obtain ⟨z2, hz2, h⟩ := hq_bind h
    suffices hT : hq_R (mm_O xs) d mc_X12_fresh 44 [some (.ref 174), some (.ref k1), some (.int a2), some (.int a3), none] [] z2 g (some (.int y.1)) y.2 from by
      clear h
      have h := hz2
      by_cases c3 : (hq_gi s 174 26) = (1 : Int32)
      · rw [if_pos c3] at h
        refine hq_icT rfl (hq_c_eq_T c3) ?_
        refine hq_p 4 29 [some (.ref 174), some (.ref k1), some (.int a2), some (.int a3), none] [.ref 174, .int a3, .int a2, .ref k1] (fun n h => rfl) ?_
        refine hq_gf (x := .int (hq_gi s 174 27)) rfl rfl rfl rfl rfl ?_
        obtain ⟨y4, hy4, h⟩ := hq_bind h
        refine hq_ist rfl rfl rfl (Nat.le_trans (by decide) hd) rfl (f_X12_found_run (Nat.le_sub_of_add_le (Nat.le_trans (by decide) hd)) hy4) rfl ?_
        refine hq_icn (-1 : Int32) rfl (by decide) ?_
        by_cases c5 : y4.1 = (-1 : Int32)
        · rw [if_pos c5] at h
          refine hq_icT rfl (hq_c_eq_T c5) ?_
          cases h
          exact hT
        · rw [if_neg c5] at h
          refine hq_icF rfl (hq_c_eq_F c5) ?_
          refine hq_p 2 41 [some (.ref 174), some (.ref k1), some (.int a2), some (.int a3), none] [.int (3 : Int32), .ref 174] (fun n h => rfl) ?_
          obtain ⟨s6, hs6, h⟩ := hq_bind h
          refine hq_inv rfl rfl (Nat.le_trans (by decide) hd) rfl rfl (hq_rcv rfl rfl) (f_X12_wrong_run (Nat.le_sub_of_add_le (Nat.le_trans (by decide) hd)) hs6) rfl ?_
          cases h
          exact hT
      · rw [if_neg c3] at h
        refine hq_icF rfl (hq_c_eq_F c3) ?_
        refine hq_p 2 19 [some (.ref 174), some (.ref k1), some (.int a2), some (.int a3), none] [.int (1 : Int32), .ref 174] (fun n h => rfl) ?_
        obtain ⟨s7, hs7, h⟩ := hq_bind h
        refine hq_inv rfl rfl (Nat.le_trans (by decide) hd) rfl rfl (hq_rcv rfl rfl) (f_X12_wrong_run (Nat.le_sub_of_add_le (Nat.le_trans (by decide) hd)) hs7) rfl ?_
        refine hq_p 1 44 [some (.ref 174), some (.ref k1), some (.int a2), some (.int a3), none] [] (fun n h => rfl) ?_
        cases h
        exact hT
    refine hq_p 1 45 [some (.ref 174), some (.ref k1), some (.int a2), some (.int a3), none] [.ref 174] (fun n h => rfl) ?_
    refine hq_gf (x := .int (hq_gi z2 174 28)) rfl rfl rfl rfl rfl ?_
    by_cases c8 : (hq_gi z2 174 28) = 0
    · rw [if_pos c8] at h
      refine hq_izT rfl (hq_c_eq_T c8) ?_
      refine hq_p 1 54 [some (.ref 174), some (.ref k1), some (.int a2), some (.int a3), none] [.ref 174] (fun n h => rfl) ?_
      refine hq_gf (x := .int (hq_gi z2 174 27)) rfl rfl rfl rfl rfl ?_
      refine hq_p 2 60 [some (.ref 174), some (.ref k1), some (.int a2), some (.int a3), some (.int (hq_gi z2 174 27))] [.ref 174] (fun n h => rfl) ?_
      obtain ⟨s9, hs9, h⟩ := hq_bind h
      refine hq_inv rfl rfl (Nat.le_trans (by decide) hd) rfl rfl (hq_rcv rfl rfl) (f_X12_token_run (Nat.le_sub_of_add_le (Nat.le_trans (by decide) hd)) hs9) rfl ?_
      refine hq_p 1 65 [some (.ref 174), some (.ref k1), some (.int a2), some (.int a3), some (.int (hq_gi z2 174 27))] [.int (hq_gi z2 174 27)] (fun n h => rfl) ?_
      have h := Option.some.inj h
      subst h
      exact ⟨1, rfl⟩
    · rw [if_neg c8] at h
      refine hq_izF rfl (hq_c_eq_F c8) ?_
      refine hq_p 1 52 [some (.ref 174), some (.ref k1), some (.int a2), some (.int a3), none] [.int (0 : Int32)] (fun n h => rfl) ?_
      have h := Option.some.inj h
      subst h
      exact ⟨1, rfl⟩
  · rw [if_neg c1] at h
    refine hq_izF rfl (hq_c_eq_F c1) ?_
    refine hq_p 1 8 [some (.ref 174), some (.ref k1), some (.int a2), some (.int a3), none] [.int (0 : Int32)] (fun n h => rfl) ?_
    have h := Option.some.inj h
    subst h
    exact ⟨1, rfl⟩
def f_X12_fresher (n : Nat) (a1 : Int32) (s : hq_S) : Option (Int32 × hq_S) := (hq_ld s 176 14 ((7 : Int32) + a1)).bind fun x1 => some (x1, s)
theorem f_X12_fresher_run {xs : List Int32} {n d g : Nat} {a1 : Int32} {s : hq_S} {y : (Int32 × hq_S)} (hd : 0 ≤ d) (h : f_X12_fresher n a1 s = some y) : hq_R (mm_O xs) d mc_X12_fresher 0 [some (.ref 174), some (.int a1)] [] s g (some (.int y.1)) y.2 := by
  unfold f_X12_fresher at h
  refine hq_p 1 1 [some (.ref 174), some (.int a1)] [.ref 174] (fun n h => rfl) ?_
  refine hq_gf (x := .ref 176) rfl rfl rfl rfl rfl ?_
  refine hq_p 3 8 [some (.ref 174), some (.int a1)] [.int ((7 : Int32) + a1), .ref 176] (fun n h => rfl) ?_
  obtain ⟨x1, hx1, h⟩ := hq_bind h
  refine hq_iaload rfl rfl rfl hx1 ?_
  have h := Option.some.inj h
  subst h
  exact ⟨1, rfl⟩
def f_X12_reads (n : Nat) (a1 : Int32) (a2 : Int32) (s : hq_S) : Option hq_S := (hq_st s 176 14 ((7 : Int32) + a1) a2).bind fun s1 => some s1
theorem f_X12_reads_run {xs : List Int32} {n d g : Nat} {a1 : Int32} {a2 : Int32} {s : hq_S} {y : hq_S} (hd : 0 ≤ d) (h : f_X12_reads n a1 a2 s = some y) : hq_R (mm_O xs) d mc_X12_reads 0 [some (.ref 174), some (.int a1), some (.int a2)] [] s g none y := by
  unfold f_X12_reads at h
  refine hq_p 1 1 [some (.ref 174), some (.int a1), some (.int a2)] [.ref 174] (fun n h => rfl) ?_
  refine hq_gf (x := .ref 176) rfl rfl rfl rfl rfl ?_
  refine hq_p 4 9 [some (.ref 174), some (.int a1), some (.int a2)] [.int a2, .int ((7 : Int32) + a1), .ref 176] (fun n h => rfl) ?_
  obtain ⟨s1, hs1, h⟩ := hq_bind h
  refine hq_iastore rfl rfl rfl hs1 ?_
  have h := Option.some.inj h
  subst h
  exact ⟨1, rfl⟩
def f_X12_atHand (n : Nat) (k1 : Nat) (a2 : Int32) (a3 : Int32) (s : hq_S) : Option (Int32 × hq_S) := if (hq_gi s 174 28) = 0 then (if (hq_gi s 174 26) = (1 : Int32) then some s else (f_X12_wrong n (1 : Int32) s).bind fun s4 => some s4).bind fun z2 => (if (hq_gi z2 174 28) = 0 then (f_X12_found n k1 a2 a3 (hq_gi z2 174 27) z2).bind fun y7 => some (y7.1, y7.2) else some ((0 : Int32), z2)).bind fun z5 => (if (hq_gi z5.2 174 28) = 0 then if z5.1 = (-1 : Int32) then (f_X12_wrong n (4 : Int32) z5.2).bind fun s11 => some s11 else some z5.2 else some z5.2).bind fun z8 => if (hq_gi z8 174 28) = 0 then some (z5.1, z8) else some ((0 : Int32), z8) else some ((0 : Int32), s)
theorem f_X12_atHand_run {xs : List Int32} {n d g : Nat} {k1 : Nat} {a2 : Int32} {a3 : Int32} {s : hq_S} {y : (Int32 × hq_S)} (hd : 1 ≤ d) (h : f_X12_atHand n k1 a2 a3 s = some y) : hq_R (mm_O xs) d mc_X12_atHand 0 [some (.ref 174), some (.ref k1), some (.int a2), some (.int a3), none] [] s g (some (.int y.1)) y.2 := by
  unfold f_X12_atHand at h
  refine hq_p 1 1 [some (.ref 174), some (.ref k1), some (.int a2), some (.int a3), none] [.ref 174] (fun n h => rfl) ?_
  refine hq_gf (x := .int (hq_gi s 174 28)) rfl rfl rfl rfl rfl ?_
  by_cases c1 : (hq_gi s 174 28) = 0
  · rw [if_pos c1] at h
    refine hq_izT rfl (hq_c_eq_T c1) ?_
    refine hq_p 1 10 [some (.ref 174), some (.ref k1), some (.int a2), some (.int a3), none] [.ref 174] (fun n h => rfl) ?_
    refine hq_gf (x := .int (hq_gi s 174 26)) rfl rfl rfl rfl rfl ?_
    refine hq_p 1 14 [some (.ref 174), some (.ref k1), some (.int a2), some (.int a3), none] [.int (1 : Int32), .int (hq_gi s 174 26)] (fun n h => rfl) ?_
    obtain ⟨z2, hz2, h⟩ := hq_bind h
    suffices hT : hq_R (mm_O xs) d mc_X12_atHand 22 [some (.ref 174), some (.ref k1), some (.int a2), some (.int a3), none] [] z2 g (some (.int y.1)) y.2 from by
      clear h
      have h := hz2
      by_cases c3 : (hq_gi s 174 26) = (1 : Int32)
      · rw [if_pos c3] at h
        refine hq_icT rfl (hq_c_eq_T c3) ?_
        cases h
        exact hT
      · rw [if_neg c3] at h
        refine hq_icF rfl (hq_c_eq_F c3) ?_
        refine hq_p 2 19 [some (.ref 174), some (.ref k1), some (.int a2), some (.int a3), none] [.int (1 : Int32), .ref 174] (fun n h => rfl) ?_
        obtain ⟨s4, hs4, h⟩ := hq_bind h
        refine hq_inv rfl rfl (Nat.le_trans (by decide) hd) rfl rfl (hq_rcv rfl rfl) (f_X12_wrong_run (Nat.le_sub_of_add_le (Nat.le_trans (by decide) hd)) hs4) rfl ?_
        cases h
        exact hT
    refine hq_p 1 23 [some (.ref 174), some (.ref k1), some (.int a2), some (.int a3), none] [.ref 174] (fun n h => rfl) ?_
    refine hq_gf (x := .int (hq_gi z2 174 28)) rfl rfl rfl rfl rfl ?_
    obtain ⟨z5, hz5, h⟩ := hq_bind h
    suffices hT : hq_R (mm_O xs) d mc_X12_atHand 43 [some (.ref 174), some (.ref k1), some (.int a2), some (.int a3), none] [.int z5.1] z5.2 g (some (.int y.1)) y.2 from by
      clear h
      have h := hz5
      by_cases c6 : (hq_gi z2 174 28) = 0
      · rw [if_pos c6] at h
        refine hq_izF rfl (hq_c_ne_F c6) ?_
        refine hq_p 4 33 [some (.ref 174), some (.ref k1), some (.int a2), some (.int a3), none] [.ref 174, .int a3, .int a2, .ref k1] (fun n h => rfl) ?_
        refine hq_gf (x := .int (hq_gi z2 174 27)) rfl rfl rfl rfl rfl ?_
        obtain ⟨y7, hy7, h⟩ := hq_bind h
        refine hq_ist rfl rfl rfl (Nat.le_trans (by decide) hd) rfl (f_X12_found_run (Nat.le_sub_of_add_le (Nat.le_trans (by decide) hd)) hy7) rfl ?_
        refine hq_p 1 43 [some (.ref 174), some (.ref k1), some (.int a2), some (.int a3), none] [.int y7.1] (fun n h => rfl) ?_
        cases h
        exact hT
      · rw [if_neg c6] at h
        refine hq_izT rfl (hq_c_ne_T c6) ?_
        refine hq_p 1 43 [some (.ref 174), some (.ref k1), some (.int a2), some (.int a3), none] [.int (0 : Int32)] (fun n h => rfl) ?_
        cases h
        exact hT
    refine hq_p 2 46 [some (.ref 174), some (.ref k1), some (.int a2), some (.int a3), some (.int z5.1)] [.ref 174] (fun n h => rfl) ?_
    refine hq_gf (x := .int (hq_gi z5.2 174 28)) rfl rfl rfl rfl rfl ?_
    obtain ⟨z8, hz8, h⟩ := hq_bind h
    suffices hT : hq_R (mm_O xs) d mc_X12_atHand 63 [some (.ref 174), some (.ref k1), some (.int a2), some (.int a3), some (.int z5.1)] [] z8 g (some (.int y.1)) y.2 from by
      clear h
      have h := hz8
      by_cases c9 : (hq_gi z5.2 174 28) = 0
      · rw [if_pos c9] at h
        refine hq_izF rfl (hq_c_ne_F c9) ?_
        refine hq_p 1 54 [some (.ref 174), some (.ref k1), some (.int a2), some (.int a3), some (.int z5.1)] [.int z5.1] (fun n h => rfl) ?_
        refine hq_icn (-1 : Int32) rfl (by decide) ?_
        by_cases c10 : z5.1 = (-1 : Int32)
        · rw [if_pos c10] at h
          refine hq_icF rfl (hq_c_ne_F c10) ?_
          refine hq_p 2 60 [some (.ref 174), some (.ref k1), some (.int a2), some (.int a3), some (.int z5.1)] [.int (4 : Int32), .ref 174] (fun n h => rfl) ?_
          obtain ⟨s11, hs11, h⟩ := hq_bind h
          refine hq_inv rfl rfl (Nat.le_trans (by decide) hd) rfl rfl (hq_rcv rfl rfl) (f_X12_wrong_run (Nat.le_sub_of_add_le (Nat.le_trans (by decide) hd)) hs11) rfl ?_
          cases h
          exact hT
        · rw [if_neg c10] at h
          refine hq_icT rfl (hq_c_ne_T c10) ?_
          cases h
          exact hT
      · rw [if_neg c9] at h
        refine hq_izT rfl (hq_c_ne_T c9) ?_
        cases h
        exact hT
    refine hq_p 1 64 [some (.ref 174), some (.ref k1), some (.int a2), some (.int a3), some (.int z5.1)] [.ref 174] (fun n h => rfl) ?_
    refine hq_gf (x := .int (hq_gi z8 174 28)) rfl rfl rfl rfl rfl ?_
    by_cases c12 : (hq_gi z8 174 28) = 0
    · rw [if_pos c12] at h
      refine hq_izT rfl (hq_c_eq_T c12) ?_
      refine hq_p 1 76 [some (.ref 174), some (.ref k1), some (.int a2), some (.int a3), some (.int z5.1)] [.int z5.1] (fun n h => rfl) ?_
      have h := Option.some.inj h
      subst h
      exact ⟨1, rfl⟩
    · rw [if_neg c12] at h
      refine hq_izF rfl (hq_c_eq_F c12) ?_
      refine hq_p 2 76 [some (.ref 174), some (.ref k1), some (.int a2), some (.int a3), some (.int z5.1)] [.int (0 : Int32)] (fun n h => rfl) ?_
      have h := Option.some.inj h
      subst h
      exact ⟨1, rfl⟩
  · rw [if_neg c1] at h
    refine hq_izF rfl (hq_c_eq_F c1) ?_
    refine hq_p 1 8 [some (.ref 174), some (.ref k1), some (.int a2), some (.int a3), none] [.int (0 : Int32)] (fun n h => rfl) ?_
    have h := Option.some.inj h
    subst h
    exact ⟨1, rfl⟩
def f_X12_cornerAtHand (n : Nat) (s : hq_S) : Option (Int32 × hq_S) := (f_X12_fresher n (0 : Int32) s).bind fun y1 => (f_X12_atHand n 177 (10 : Int32) y1.1 y1.2).bind fun y2 => some (y2.1, y2.2)
theorem f_X12_cornerAtHand_run {xs : List Int32} {n d g : Nat} {s : hq_S} {y : (Int32 × hq_S)} (hd : 2 ≤ d) (h : f_X12_cornerAtHand n s = some y) : hq_R (mm_O xs) d mc_X12_cornerAtHand 0 [some (.ref 174)] [] s g (some (.int y.1)) y.2 := by
  unfold f_X12_cornerAtHand at h
  refine hq_p 2 2 [some (.ref 174)] [.ref 174, .ref 174] (fun n h => rfl) ?_
  refine hq_gf (x := .ref 177) rfl rfl rfl rfl rfl ?_
  refine hq_p 3 9 [some (.ref 174)] [.int (0 : Int32), .ref 174, .int (10 : Int32), .ref 177, .ref 174] (fun n h => rfl) ?_
  obtain ⟨y1, hy1, h⟩ := hq_bind h
  refine hq_inv rfl rfl (Nat.le_trans (by decide) hd) rfl rfl (hq_rcv rfl rfl) (f_X12_fresher_run (Nat.le_sub_of_add_le (Nat.le_trans (by decide) hd)) hy1) rfl ?_
  obtain ⟨y2, hy2, h⟩ := hq_bind h
  refine hq_inv rfl rfl (Nat.le_trans (by decide) hd) rfl rfl (hq_rcv rfl rfl) (f_X12_atHand_run (Nat.le_sub_of_add_le (Nat.le_trans (by decide) hd)) hy2) rfl ?_
  have h := Option.some.inj h
  subst h
  exact ⟨1, rfl⟩
def f_X12_cornerAhead (n : Nat) (s : hq_S) : Option (Int32 × hq_S) := (f_X12_cornerAtHand n s).bind fun y1 => (f_X12_goOn n y1.2).bind fun s2 => some (y1.1, s2)
theorem f_X12_cornerAhead_run {xs : List Int32} {n d g : Nat} {s : hq_S} {y : (Int32 × hq_S)} (hd : 9 ≤ d) (h : f_X12_cornerAhead n s = some y) : hq_R (mm_O xs) d mc_X12_cornerAhead 0 [some (.ref 174), none] [] s g (some (.int y.1)) y.2 := by
  unfold f_X12_cornerAhead at h
  refine hq_p 1 1 [some (.ref 174), none] [.ref 174] (fun n h => rfl) ?_
  obtain ⟨y1, hy1, h⟩ := hq_bind h
  refine hq_inv rfl rfl (Nat.le_trans (by decide) hd) rfl rfl (hq_rcv rfl rfl) (f_X12_cornerAtHand_run (Nat.le_sub_of_add_le (Nat.le_trans (by decide) hd)) hy1) rfl ?_
  refine hq_p 2 6 [some (.ref 174), some (.int y1.1)] [.ref 174] (fun n h => rfl) ?_
  obtain ⟨s2, hs2, h⟩ := hq_bind h
  refine hq_inv rfl rfl (Nat.le_trans (by decide) hd) rfl rfl (hq_rcv rfl rfl) (f_X12_goOn_run (Nat.le_sub_of_add_le (Nat.le_trans (by decide) hd)) hs2) rfl ?_
  refine hq_p 1 10 [some (.ref 174), some (.int y1.1)] [.int y1.1] (fun n h => rfl) ?_
  have h := Option.some.inj h
  subst h
  exact ⟨1, rfl⟩
def f_X12_isFull (n : Nat) (a1 : Int32) (s : hq_S) : Option (Int32 × hq_S) := if a1 = (0 : Int32) then (f_X12_fresher n (0 : Int32) s).bind fun y2 => if y2.1 = (10 : Int32) then some ((1 : Int32), y2.2) else some ((0 : Int32), y2.2) else if a1 = (1 : Int32) then (f_X12_fresher n (1 : Int32) s).bind fun y5 => if y5.1 = (20 : Int32) then some ((1 : Int32), y5.2) else some ((0 : Int32), y5.2) else if a1 = (2 : Int32) then (f_X12_fresher n (1 : Int32) s).bind fun y8 => if y8.1 = (20 : Int32) then some ((1 : Int32), y8.2) else some ((0 : Int32), y8.2) else if a1 = (3 : Int32) then (f_X12_fresher n (2 : Int32) s).bind fun y11 => if y11.1 = (3 : Int32) then some ((1 : Int32), y11.2) else some ((0 : Int32), y11.2) else if a1 = (4 : Int32) then some ((0 : Int32), s) else if a1 = (5 : Int32) then (f_X12_fresher n (3 : Int32) s).bind fun y15 => if y15.1 = (4 : Int32) then some ((1 : Int32), y15.2) else some ((0 : Int32), y15.2) else some ((0 : Int32), s)
theorem f_X12_isFull_run {xs : List Int32} {n d g : Nat} {a1 : Int32} {s : hq_S} {y : (Int32 × hq_S)} (hd : 1 ≤ d) (h : f_X12_isFull n a1 s = some y) : hq_R (mm_O xs) d mc_X12_isFull 0 [some (.ref 174), some (.int a1)] [] s g (some (.int y.1)) y.2 := by
  unfold f_X12_isFull at h
  refine hq_p 1 1 [some (.ref 174), some (.int a1)] [.int a1] (fun n h => rfl) ?_
  by_cases c1 : a1 = (0 : Int32)
  · rw [if_pos c1] at h
    refine hq_tsw rfl (show _ = some 40 from by rw [c1]; decide) ?_
    refine hq_p 2 42 [some (.ref 174), some (.int a1)] [.int (0 : Int32), .ref 174] (fun n h => rfl) ?_
    obtain ⟨y2, hy2, h⟩ := hq_bind h
    refine hq_inv rfl rfl (Nat.le_trans (by decide) hd) rfl rfl (hq_rcv rfl rfl) (f_X12_fresher_run (Nat.le_sub_of_add_le (Nat.le_trans (by decide) hd)) hy2) rfl ?_
    refine hq_p 1 47 [some (.ref 174), some (.int a1)] [.int (10 : Int32), .int y2.1] (fun n h => rfl) ?_
    by_cases c3 : y2.1 = (10 : Int32)
    · rw [if_pos c3] at h
      refine hq_icF rfl (hq_c_ne_F c3) ?_
      refine hq_p 2 55 [some (.ref 174), some (.int a1)] [.int (1 : Int32)] (fun n h => rfl) ?_
      have h := Option.some.inj h
      subst h
      exact ⟨1, rfl⟩
    · rw [if_neg c3] at h
      refine hq_icT rfl (hq_c_ne_T c3) ?_
      refine hq_p 1 55 [some (.ref 174), some (.int a1)] [.int (0 : Int32)] (fun n h => rfl) ?_
      have h := Option.some.inj h
      subst h
      exact ⟨1, rfl⟩
  rw [if_neg c1] at h
  by_cases c4 : a1 = (1 : Int32)
  · rw [if_pos c4] at h
    refine hq_tsw rfl (show _ = some 56 from by rw [c4]; decide) ?_
    refine hq_p 2 58 [some (.ref 174), some (.int a1)] [.int (1 : Int32), .ref 174] (fun n h => rfl) ?_
    obtain ⟨y5, hy5, h⟩ := hq_bind h
    refine hq_inv rfl rfl (Nat.le_trans (by decide) hd) rfl rfl (hq_rcv rfl rfl) (f_X12_fresher_run (Nat.le_sub_of_add_le (Nat.le_trans (by decide) hd)) hy5) rfl ?_
    refine hq_bip (20 : Int32) rfl (by decide) ?_
    by_cases c6 : y5.1 = (20 : Int32)
    · rw [if_pos c6] at h
      refine hq_icF rfl (hq_c_ne_F c6) ?_
      refine hq_p 2 71 [some (.ref 174), some (.int a1)] [.int (1 : Int32)] (fun n h => rfl) ?_
      have h := Option.some.inj h
      subst h
      exact ⟨1, rfl⟩
    · rw [if_neg c6] at h
      refine hq_icT rfl (hq_c_ne_T c6) ?_
      refine hq_p 1 71 [some (.ref 174), some (.int a1)] [.int (0 : Int32)] (fun n h => rfl) ?_
      have h := Option.some.inj h
      subst h
      exact ⟨1, rfl⟩
  rw [if_neg c4] at h
  by_cases c7 : a1 = (2 : Int32)
  · rw [if_pos c7] at h
    refine hq_tsw rfl (show _ = some 56 from by rw [c7]; decide) ?_
    refine hq_p 2 58 [some (.ref 174), some (.int a1)] [.int (1 : Int32), .ref 174] (fun n h => rfl) ?_
    obtain ⟨y8, hy8, h⟩ := hq_bind h
    refine hq_inv rfl rfl (Nat.le_trans (by decide) hd) rfl rfl (hq_rcv rfl rfl) (f_X12_fresher_run (Nat.le_sub_of_add_le (Nat.le_trans (by decide) hd)) hy8) rfl ?_
    refine hq_bip (20 : Int32) rfl (by decide) ?_
    by_cases c9 : y8.1 = (20 : Int32)
    · rw [if_pos c9] at h
      refine hq_icF rfl (hq_c_ne_F c9) ?_
      refine hq_p 2 71 [some (.ref 174), some (.int a1)] [.int (1 : Int32)] (fun n h => rfl) ?_
      have h := Option.some.inj h
      subst h
      exact ⟨1, rfl⟩
    · rw [if_neg c9] at h
      refine hq_icT rfl (hq_c_ne_T c9) ?_
      refine hq_p 1 71 [some (.ref 174), some (.int a1)] [.int (0 : Int32)] (fun n h => rfl) ?_
      have h := Option.some.inj h
      subst h
      exact ⟨1, rfl⟩
  rw [if_neg c7] at h
  by_cases c10 : a1 = (3 : Int32)
  · rw [if_pos c10] at h
    refine hq_tsw rfl (show _ = some 72 from by rw [c10]; decide) ?_
    refine hq_p 2 74 [some (.ref 174), some (.int a1)] [.int (2 : Int32), .ref 174] (fun n h => rfl) ?_
    obtain ⟨y11, hy11, h⟩ := hq_bind h
    refine hq_inv rfl rfl (Nat.le_trans (by decide) hd) rfl rfl (hq_rcv rfl rfl) (f_X12_fresher_run (Nat.le_sub_of_add_le (Nat.le_trans (by decide) hd)) hy11) rfl ?_
    refine hq_p 1 78 [some (.ref 174), some (.int a1)] [.int (3 : Int32), .int y11.1] (fun n h => rfl) ?_
    by_cases c12 : y11.1 = (3 : Int32)
    · rw [if_pos c12] at h
      refine hq_icF rfl (hq_c_ne_F c12) ?_
      refine hq_p 2 86 [some (.ref 174), some (.int a1)] [.int (1 : Int32)] (fun n h => rfl) ?_
      have h := Option.some.inj h
      subst h
      exact ⟨1, rfl⟩
    · rw [if_neg c12] at h
      refine hq_icT rfl (hq_c_ne_T c12) ?_
      refine hq_p 1 86 [some (.ref 174), some (.int a1)] [.int (0 : Int32)] (fun n h => rfl) ?_
      have h := Option.some.inj h
      subst h
      exact ⟨1, rfl⟩
  rw [if_neg c10] at h
  by_cases c13 : a1 = (4 : Int32)
  · rw [if_pos c13] at h
    refine hq_tsw rfl (show _ = some 102 from by rw [c13]; decide) ?_
    refine hq_p 1 103 [some (.ref 174), some (.int a1)] [.int (0 : Int32)] (fun n h => rfl) ?_
    have h := Option.some.inj h
    subst h
    exact ⟨1, rfl⟩
  rw [if_neg c13] at h
  by_cases c14 : a1 = (5 : Int32)
  · rw [if_pos c14] at h
    refine hq_tsw rfl (show _ = some 87 from by rw [c14]; decide) ?_
    refine hq_p 2 89 [some (.ref 174), some (.int a1)] [.int (3 : Int32), .ref 174] (fun n h => rfl) ?_
    obtain ⟨y15, hy15, h⟩ := hq_bind h
    refine hq_inv rfl rfl (Nat.le_trans (by decide) hd) rfl rfl (hq_rcv rfl rfl) (f_X12_fresher_run (Nat.le_sub_of_add_le (Nat.le_trans (by decide) hd)) hy15) rfl ?_
    refine hq_p 1 93 [some (.ref 174), some (.int a1)] [.int (4 : Int32), .int y15.1] (fun n h => rfl) ?_
    by_cases c16 : y15.1 = (4 : Int32)
    · rw [if_pos c16] at h
      refine hq_icF rfl (hq_c_ne_F c16) ?_
      refine hq_p 2 101 [some (.ref 174), some (.int a1)] [.int (1 : Int32)] (fun n h => rfl) ?_
      have h := Option.some.inj h
      subst h
      exact ⟨1, rfl⟩
    · rw [if_neg c16] at h
      refine hq_icT rfl (hq_c_ne_T c16) ?_
      refine hq_p 1 101 [some (.ref 174), some (.int a1)] [.int (0 : Int32)] (fun n h => rfl) ?_
      have h := Option.some.inj h
      subst h
      exact ⟨1, rfl⟩
  rw [if_neg c14] at h
  refine hq_tsw rfl (hq_tsw_d [(0 : Int32), (1 : Int32), (2 : Int32), (3 : Int32), (4 : Int32), (5 : Int32)] (by decide) rfl ⟨c1, c4, c7, c10, c13, c14, trivial⟩) ?_
  refine hq_p 1 103 [some (.ref 174), some (.int a1)] [.int (0 : Int32)] (fun n h => rfl) ?_
  have h := Option.some.inj h
  subst h
  exact ⟨1, rfl⟩
def f_X12_laneLine_L66_B (n : Nat) (q66 : Int32 → Int32 → Int32 → hq_S → Option hq_S) (a1 : Int32) (a2 : Int32) (a3 : Int32) (s : hq_S) : Option hq_S := if a3 < a2 then (hq_ld s 180 40 a3).bind fun x17 => (hq_ld s 180 40 a2).bind fun x18 => (if x17 = x18 then (hq_ld s 181 40 a3).bind fun x21 => (hq_ld s 181 40 a2).bind fun x22 => if x21 = x22 then some (1 : Int32) else some (0 : Int32) else some (0 : Int32)).bind fun z19 => (if a1 = 0 then (hq_ld s 180 40 a3).bind fun x26 => (hq_ld s 181 40 a2).bind fun x27 => if x26 = x27 then (hq_ld s 181 40 a3).bind fun x29 => (hq_ld s 180 40 a2).bind fun x30 => if x29 = x30 then some (1 : Int32) else some (0 : Int32) else some (0 : Int32) else some (0 : Int32)).bind fun z24 => (if (hq_gi s 174 28) = 0 then (hq_ld s 182 40 a3).bind fun x34 => if x34 = a1 then if z19 = 0 then if z24 = 0 then some s else (f_X12_wrong n (3 : Int32) s).bind fun s39 => some s39 else (f_X12_wrong n (3 : Int32) s).bind fun s37 => some s37 else some s else some s).bind fun z32 => q66 a1 a2 (a3 + (1 : Int32)) z32 else (f_X12_goOn n s).bind fun s14 => (f_X12_fresher n (1 : Int32) s14).bind fun y15 => (f_X12_reads n (1 : Int32) (y15.1 + (1 : Int32)) y15.2).bind fun s16 => some s16
def f_X12_laneLine_L66 (n : Nat) (m : Nat) : Int32 → Int32 → Int32 → hq_S → Option hq_S := Nat.rec (fun _ _ _ _ => none) (fun _ q => f_X12_laneLine_L66_B n q) m
theorem f_X12_laneLine_L66_Brun {xs : List Int32} {n d g : Nat} {a1 : Int32} {a2 : Int32} {a3 : Int32} {o4 : Option Value} {o5 : Option Value} {q66 : Int32 → Int32 → Int32 → hq_S → Option hq_S} {s : hq_S} {y : hq_S} (hd : 10 ≤ d) (e66 : ∀ (a1 : Int32) (a2 : Int32) (a3 : Int32) (o4 : Option Value) (o5 : Option Value) (s : hq_S), q66 a1 a2 a3 s = some y → hq_R (mm_O xs) d mc_X12_laneLine 66 [some (.ref 174), some (.int a1), some (.int a2), some (.int a3), o4, o5] [] s g none y) (h : f_X12_laneLine_L66_B n q66 a1 a2 a3 s = some y) : hq_R (mm_O xs) d mc_X12_laneLine 66 [some (.ref 174), some (.int a1), some (.int a2), some (.int a3), o4, o5] [] s g none y := by
  unfold f_X12_laneLine_L66_B at h
  refine hq_p 2 68 [some (.ref 174), some (.int a1), some (.int a2), some (.int a3), o4, o5] [.int a2, .int a3] (fun n h => rfl) ?_
  by_cases c13 : a3 < a2
  · rw [if_pos c13] at h
    refine hq_icF rfl (hq_c_ge_F c13) ?_
    refine hq_p 1 72 [some (.ref 174), some (.int a1), some (.int a2), some (.int a3), o4, o5] [.ref 174] (fun n h => rfl) ?_
    refine hq_gf (x := .ref 180) rfl rfl rfl rfl rfl ?_
    refine hq_p 1 76 [some (.ref 174), some (.int a1), some (.int a2), some (.int a3), o4, o5] [.int a3, .ref 180] (fun n h => rfl) ?_
    obtain ⟨x17, hx17, h⟩ := hq_bind h
    refine hq_iaload rfl rfl List.length_replicate hx17 ?_
    refine hq_p 1 78 [some (.ref 174), some (.int a1), some (.int a2), some (.int a3), o4, o5] [.ref 174, .int x17] (fun n h => rfl) ?_
    refine hq_gf (x := .ref 180) rfl rfl rfl rfl rfl ?_
    refine hq_p 1 82 [some (.ref 174), some (.int a1), some (.int a2), some (.int a3), o4, o5] [.int a2, .ref 180, .int x17] (fun n h => rfl) ?_
    obtain ⟨x18, hx18, h⟩ := hq_bind h
    refine hq_iaload rfl rfl List.length_replicate hx18 ?_
    obtain ⟨z19, hz19, h⟩ := hq_bind h
    suffices hT : hq_R (mm_O xs) d mc_X12_laneLine 106 [some (.ref 174), some (.int a1), some (.int a2), some (.int a3), o4, o5] [.int z19] s g none y from by
      clear h
      have h := hz19
      by_cases c20 : x17 = x18
      · rw [if_pos c20] at h
        refine hq_icF rfl (hq_c_ne_F c20) ?_
        refine hq_p 1 87 [some (.ref 174), some (.int a1), some (.int a2), some (.int a3), o4, o5] [.ref 174] (fun n h => rfl) ?_
        refine hq_gf (x := .ref 181) rfl rfl rfl rfl rfl ?_
        refine hq_p 1 91 [some (.ref 174), some (.int a1), some (.int a2), some (.int a3), o4, o5] [.int a3, .ref 181] (fun n h => rfl) ?_
        obtain ⟨x21, hx21, h⟩ := hq_bind h
        refine hq_iaload rfl rfl List.length_replicate hx21 ?_
        refine hq_p 1 93 [some (.ref 174), some (.int a1), some (.int a2), some (.int a3), o4, o5] [.ref 174, .int x21] (fun n h => rfl) ?_
        refine hq_gf (x := .ref 181) rfl rfl rfl rfl rfl ?_
        refine hq_p 1 97 [some (.ref 174), some (.int a1), some (.int a2), some (.int a3), o4, o5] [.int a2, .ref 181, .int x21] (fun n h => rfl) ?_
        obtain ⟨x22, hx22, h⟩ := hq_bind h
        refine hq_iaload rfl rfl List.length_replicate hx22 ?_
        by_cases c23 : x21 = x22
        · rw [if_pos c23] at h
          refine hq_icF rfl (hq_c_ne_F c23) ?_
          refine hq_p 2 106 [some (.ref 174), some (.int a1), some (.int a2), some (.int a3), o4, o5] [.int (1 : Int32)] (fun n h => rfl) ?_
          cases h
          exact hT
        · rw [if_neg c23] at h
          refine hq_icT rfl (hq_c_ne_T c23) ?_
          refine hq_p 1 106 [some (.ref 174), some (.int a1), some (.int a2), some (.int a3), o4, o5] [.int (0 : Int32)] (fun n h => rfl) ?_
          cases h
          exact hT
      · rw [if_neg c20] at h
        refine hq_icT rfl (hq_c_ne_T c20) ?_
        refine hq_p 1 106 [some (.ref 174), some (.int a1), some (.int a2), some (.int a3), o4, o5] [.int (0 : Int32)] (fun n h => rfl) ?_
        cases h
        exact hT
    refine hq_p 2 109 [some (.ref 174), some (.int a1), some (.int a2), some (.int a3), some (.int z19), o5] [.int a1] (fun n h => rfl) ?_
    obtain ⟨z24, hz24, h⟩ := hq_bind h
    suffices hT : hq_R (mm_O xs) d mc_X12_laneLine 147 [some (.ref 174), some (.int a1), some (.int a2), some (.int a3), some (.int z19), o5] [.int z24] s g none y from by
      clear h
      have h := hz24
      by_cases c25 : a1 = 0
      · rw [if_pos c25] at h
        refine hq_izF rfl (hq_c_ne_F c25) ?_
        refine hq_p 1 113 [some (.ref 174), some (.int a1), some (.int a2), some (.int a3), some (.int z19), o5] [.ref 174] (fun n h => rfl) ?_
        refine hq_gf (x := .ref 180) rfl rfl rfl rfl rfl ?_
        refine hq_p 1 117 [some (.ref 174), some (.int a1), some (.int a2), some (.int a3), some (.int z19), o5] [.int a3, .ref 180] (fun n h => rfl) ?_
        obtain ⟨x26, hx26, h⟩ := hq_bind h
        refine hq_iaload rfl rfl List.length_replicate hx26 ?_
        refine hq_p 1 119 [some (.ref 174), some (.int a1), some (.int a2), some (.int a3), some (.int z19), o5] [.ref 174, .int x26] (fun n h => rfl) ?_
        refine hq_gf (x := .ref 181) rfl rfl rfl rfl rfl ?_
        refine hq_p 1 123 [some (.ref 174), some (.int a1), some (.int a2), some (.int a3), some (.int z19), o5] [.int a2, .ref 181, .int x26] (fun n h => rfl) ?_
        obtain ⟨x27, hx27, h⟩ := hq_bind h
        refine hq_iaload rfl rfl List.length_replicate hx27 ?_
        by_cases c28 : x26 = x27
        · rw [if_pos c28] at h
          refine hq_icF rfl (hq_c_ne_F c28) ?_
          refine hq_p 1 128 [some (.ref 174), some (.int a1), some (.int a2), some (.int a3), some (.int z19), o5] [.ref 174] (fun n h => rfl) ?_
          refine hq_gf (x := .ref 181) rfl rfl rfl rfl rfl ?_
          refine hq_p 1 132 [some (.ref 174), some (.int a1), some (.int a2), some (.int a3), some (.int z19), o5] [.int a3, .ref 181] (fun n h => rfl) ?_
          obtain ⟨x29, hx29, h⟩ := hq_bind h
          refine hq_iaload rfl rfl List.length_replicate hx29 ?_
          refine hq_p 1 134 [some (.ref 174), some (.int a1), some (.int a2), some (.int a3), some (.int z19), o5] [.ref 174, .int x29] (fun n h => rfl) ?_
          refine hq_gf (x := .ref 180) rfl rfl rfl rfl rfl ?_
          refine hq_p 1 138 [some (.ref 174), some (.int a1), some (.int a2), some (.int a3), some (.int z19), o5] [.int a2, .ref 180, .int x29] (fun n h => rfl) ?_
          obtain ⟨x30, hx30, h⟩ := hq_bind h
          refine hq_iaload rfl rfl List.length_replicate hx30 ?_
          by_cases c31 : x29 = x30
          · rw [if_pos c31] at h
            refine hq_icF rfl (hq_c_ne_F c31) ?_
            refine hq_p 2 147 [some (.ref 174), some (.int a1), some (.int a2), some (.int a3), some (.int z19), o5] [.int (1 : Int32)] (fun n h => rfl) ?_
            cases h
            exact hT
          · rw [if_neg c31] at h
            refine hq_icT rfl (hq_c_ne_T c31) ?_
            refine hq_p 1 147 [some (.ref 174), some (.int a1), some (.int a2), some (.int a3), some (.int z19), o5] [.int (0 : Int32)] (fun n h => rfl) ?_
            cases h
            exact hT
        · rw [if_neg c28] at h
          refine hq_icT rfl (hq_c_ne_T c28) ?_
          refine hq_p 1 147 [some (.ref 174), some (.int a1), some (.int a2), some (.int a3), some (.int z19), o5] [.int (0 : Int32)] (fun n h => rfl) ?_
          cases h
          exact hT
      · rw [if_neg c25] at h
        refine hq_izT rfl (hq_c_ne_T c25) ?_
        refine hq_p 1 147 [some (.ref 174), some (.int a1), some (.int a2), some (.int a3), some (.int z19), o5] [.int (0 : Int32)] (fun n h => rfl) ?_
        cases h
        exact hT
    refine hq_p 2 150 [some (.ref 174), some (.int a1), some (.int a2), some (.int a3), some (.int z19), some (.int z24)] [.ref 174] (fun n h => rfl) ?_
    refine hq_gf (x := .int (hq_gi s 174 28)) rfl rfl rfl rfl rfl ?_
    obtain ⟨z32, hz32, h⟩ := hq_bind h
    suffices hT : hq_R (mm_O xs) d mc_X12_laneLine 181 [some (.ref 174), some (.int a1), some (.int a2), some (.int a3), some (.int z19), some (.int z24)] [] z32 g none y from by
      clear h
      have h := hz32
      by_cases c33 : (hq_gi s 174 28) = 0
      · rw [if_pos c33] at h
        refine hq_izF rfl (hq_c_ne_F c33) ?_
        refine hq_p 1 157 [some (.ref 174), some (.int a1), some (.int a2), some (.int a3), some (.int z19), some (.int z24)] [.ref 174] (fun n h => rfl) ?_
        refine hq_gf (x := .ref 182) rfl rfl rfl rfl rfl ?_
        refine hq_p 1 161 [some (.ref 174), some (.int a1), some (.int a2), some (.int a3), some (.int z19), some (.int z24)] [.int a3, .ref 182] (fun n h => rfl) ?_
        obtain ⟨x34, hx34, h⟩ := hq_bind h
        refine hq_iaload rfl rfl List.length_replicate hx34 ?_
        refine hq_p 1 163 [some (.ref 174), some (.int a1), some (.int a2), some (.int a3), some (.int z19), some (.int z24)] [.int a1, .int x34] (fun n h => rfl) ?_
        by_cases c35 : x34 = a1
        · rw [if_pos c35] at h
          refine hq_icF rfl (hq_c_ne_F c35) ?_
          refine hq_p 1 168 [some (.ref 174), some (.int a1), some (.int a2), some (.int a3), some (.int z19), some (.int z24)] [.int z19] (fun n h => rfl) ?_
          by_cases c36 : z19 = 0
          · rw [if_pos c36] at h
            refine hq_izF rfl (hq_c_ne_F c36) ?_
            refine hq_p 1 173 [some (.ref 174), some (.int a1), some (.int a2), some (.int a3), some (.int z19), some (.int z24)] [.int z24] (fun n h => rfl) ?_
            by_cases c38 : z24 = 0
            · rw [if_pos c38] at h
              refine hq_izT rfl (hq_c_eq_T c38) ?_
              cases h
              exact hT
            · rw [if_neg c38] at h
              refine hq_izF rfl (hq_c_eq_F c38) ?_
              refine hq_p 2 178 [some (.ref 174), some (.int a1), some (.int a2), some (.int a3), some (.int z19), some (.int z24)] [.int (3 : Int32), .ref 174] (fun n h => rfl) ?_
              obtain ⟨s39, hs39, h⟩ := hq_bind h
              refine hq_inv rfl rfl (Nat.le_trans (by decide) hd) rfl rfl (hq_rcv rfl rfl) (f_X12_wrong_run (Nat.le_sub_of_add_le (Nat.le_trans (by decide) hd)) hs39) rfl ?_
              cases h
              exact hT
          · rw [if_neg c36] at h
            refine hq_izT rfl (hq_c_ne_T c36) ?_
            refine hq_p 2 178 [some (.ref 174), some (.int a1), some (.int a2), some (.int a3), some (.int z19), some (.int z24)] [.int (3 : Int32), .ref 174] (fun n h => rfl) ?_
            obtain ⟨s37, hs37, h⟩ := hq_bind h
            refine hq_inv rfl rfl (Nat.le_trans (by decide) hd) rfl rfl (hq_rcv rfl rfl) (f_X12_wrong_run (Nat.le_sub_of_add_le (Nat.le_trans (by decide) hd)) hs37) rfl ?_
            cases h
            exact hT
        · rw [if_neg c35] at h
          refine hq_icT rfl (hq_c_ne_T c35) ?_
          cases h
          exact hT
      · rw [if_neg c33] at h
        refine hq_izT rfl (hq_c_ne_T c33) ?_
        cases h
        exact hT
    refine hq_p 2 66 [some (.ref 174), some (.int a1), some (.int a2), some (.int (a3 + (1 : Int32))), some (.int z19), some (.int z24)] [] (fun n h => rfl) ?_
    exact e66 a1 a2 (a3 + (1 : Int32)) _ _ z32 h
  · rw [if_neg c13] at h
    refine hq_icT rfl (hq_c_ge_T c13) ?_
    refine hq_p 1 188 [some (.ref 174), some (.int a1), some (.int a2), some (.int a3), o4, o5] [.ref 174] (fun n h => rfl) ?_
    obtain ⟨s14, hs14, h⟩ := hq_bind h
    refine hq_inv rfl rfl (Nat.le_trans (by decide) hd) rfl rfl (hq_rcv rfl rfl) (f_X12_goOn_run (Nat.le_sub_of_add_le (Nat.le_trans (by decide) hd)) hs14) rfl ?_
    refine hq_p 4 195 [some (.ref 174), some (.int a1), some (.int a2), some (.int a3), o4, o5] [.int (1 : Int32), .ref 174, .int (1 : Int32), .ref 174] (fun n h => rfl) ?_
    obtain ⟨y15, hy15, h⟩ := hq_bind h
    refine hq_inv rfl rfl (Nat.le_trans (by decide) hd) rfl rfl (hq_rcv rfl rfl) (f_X12_fresher_run (Nat.le_sub_of_add_le (Nat.le_trans (by decide) hd)) hy15) rfl ?_
    refine hq_p 2 200 [some (.ref 174), some (.int a1), some (.int a2), some (.int a3), o4, o5] [.int (y15.1 + (1 : Int32)), .int (1 : Int32), .ref 174] (fun n h => rfl) ?_
    obtain ⟨s16, hs16, h⟩ := hq_bind h
    refine hq_inv rfl rfl (Nat.le_trans (by decide) hd) rfl rfl (hq_rcv rfl rfl) (f_X12_reads_run (Nat.le_sub_of_add_le (Nat.le_trans (by decide) hd)) hs16) rfl ?_
    have h := Option.some.inj h
    subst h
    exact ⟨1, rfl⟩
theorem f_X12_laneLine_L66_run {xs : List Int32} {n m d g : Nat} {a1 : Int32} {a2 : Int32} {a3 : Int32} {o4 : Option Value} {o5 : Option Value} {s : hq_S} {y : hq_S} (hd : 10 ≤ d) (h : f_X12_laneLine_L66 n m a1 a2 a3 s = some y) : hq_R (mm_O xs) d mc_X12_laneLine 66 [some (.ref 174), some (.int a1), some (.int a2), some (.int a3), o4, o5] [] s g none y := by
  induction m generalizing a1 a2 a3 o4 o5 s with
  | zero => cases h
  | succ m ih => exact f_X12_laneLine_L66_Brun (n := n) hd (fun a1 a2 a3 o4 o5 s h => ih h) h
def f_X12_laneLine (n : Nat) (a1 : Int32) (s : hq_S) : Option hq_S := (f_X12_fresher n (1 : Int32) s).bind fun y1 => (f_X12_cornerAhead n y1.2).bind fun y2 => (hq_st y2.2 180 40 ((20 : Int32) + y1.1) y2.1).bind fun s3 => (f_X12_cornerAtHand n s3).bind fun y4 => (hq_st y4.2 181 40 ((20 : Int32) + y1.1) y4.1).bind fun s5 => (hq_st s5 182 40 ((20 : Int32) + y1.1) a1).bind fun s6 => (if (hq_gi s6 174 28) = 0 then (hq_ld s6 180 40 ((20 : Int32) + y1.1)).bind fun x9 => (hq_ld s6 181 40 ((20 : Int32) + y1.1)).bind fun x10 => if x9 = x10 then (f_X12_wrong n (5 : Int32) s6).bind fun s12 => some s12 else some s6 else some s6).bind fun z7 => f_X12_laneLine_L66 n n a1 ((20 : Int32) + y1.1) (20 : Int32) z7
theorem f_X12_laneLine_run {xs : List Int32} {n d g : Nat} {a1 : Int32} {s : hq_S} {y : hq_S} (hd : 10 ≤ d) (h : f_X12_laneLine n a1 s = some y) : hq_R (mm_O xs) d mc_X12_laneLine 0 [some (.ref 174), some (.int a1), none, none, none, none] [] s g none y := by
  unfold f_X12_laneLine at h
  refine hq_bip (20 : Int32) rfl (by decide) ?_
  refine hq_p 2 4 [some (.ref 174), some (.int a1), none, none, none, none] [.int (1 : Int32), .ref 174, .int (20 : Int32)] (fun n h => rfl) ?_
  obtain ⟨y1, hy1, h⟩ := hq_bind h
  refine hq_inv rfl rfl (Nat.le_trans (by decide) hd) rfl rfl (hq_rcv rfl rfl) (f_X12_fresher_run (Nat.le_sub_of_add_le (Nat.le_trans (by decide) hd)) hy1) rfl ?_
  refine hq_p 3 10 [some (.ref 174), some (.int a1), some (.int ((20 : Int32) + y1.1)), none, none, none] [.ref 174] (fun n h => rfl) ?_
  refine hq_gf (x := .ref 180) rfl rfl rfl rfl rfl ?_
  refine hq_p 2 15 [some (.ref 174), some (.int a1), some (.int ((20 : Int32) + y1.1)), none, none, none] [.ref 174, .int ((20 : Int32) + y1.1), .ref 180] (fun n h => rfl) ?_
  obtain ⟨y2, hy2, h⟩ := hq_bind h
  refine hq_inv rfl rfl (Nat.le_trans (by decide) hd) rfl rfl (hq_rcv rfl rfl) (f_X12_cornerAhead_run (Nat.le_sub_of_add_le (Nat.le_trans (by decide) hd)) hy2) rfl ?_
  obtain ⟨s3, hs3, h⟩ := hq_bind h
  refine hq_iastore rfl rfl List.length_replicate hs3 ?_
  refine hq_p 1 20 [some (.ref 174), some (.int a1), some (.int ((20 : Int32) + y1.1)), none, none, none] [.ref 174] (fun n h => rfl) ?_
  refine hq_gf (x := .ref 181) rfl rfl rfl rfl rfl ?_
  refine hq_p 2 25 [some (.ref 174), some (.int a1), some (.int ((20 : Int32) + y1.1)), none, none, none] [.ref 174, .int ((20 : Int32) + y1.1), .ref 181] (fun n h => rfl) ?_
  obtain ⟨y4, hy4, h⟩ := hq_bind h
  refine hq_inv rfl rfl (Nat.le_trans (by decide) hd) rfl rfl (hq_rcv rfl rfl) (f_X12_cornerAtHand_run (Nat.le_sub_of_add_le (Nat.le_trans (by decide) hd)) hy4) rfl ?_
  obtain ⟨s5, hs5, h⟩ := hq_bind h
  refine hq_iastore rfl rfl List.length_replicate hs5 ?_
  refine hq_p 1 30 [some (.ref 174), some (.int a1), some (.int ((20 : Int32) + y1.1)), none, none, none] [.ref 174] (fun n h => rfl) ?_
  refine hq_gf (x := .ref 182) rfl rfl rfl rfl rfl ?_
  refine hq_p 2 35 [some (.ref 174), some (.int a1), some (.int ((20 : Int32) + y1.1)), none, none, none] [.int a1, .int ((20 : Int32) + y1.1), .ref 182] (fun n h => rfl) ?_
  obtain ⟨s6, hs6, h⟩ := hq_bind h
  refine hq_iastore rfl rfl List.length_replicate hs6 ?_
  refine hq_p 1 37 [some (.ref 174), some (.int a1), some (.int ((20 : Int32) + y1.1)), none, none, none] [.ref 174] (fun n h => rfl) ?_
  refine hq_gf (x := .int (hq_gi s6 174 28)) rfl rfl rfl rfl rfl ?_
  obtain ⟨z7, hz7, h⟩ := hq_bind h
  suffices hT : hq_R (mm_O xs) d mc_X12_laneLine 63 [some (.ref 174), some (.int a1), some (.int ((20 : Int32) + y1.1)), none, none, none] [] z7 g none y from by
    clear h
    have h := hz7
    by_cases c8 : (hq_gi s6 174 28) = 0
    · rw [if_pos c8] at h
      refine hq_izF rfl (hq_c_ne_F c8) ?_
      refine hq_p 1 44 [some (.ref 174), some (.int a1), some (.int ((20 : Int32) + y1.1)), none, none, none] [.ref 174] (fun n h => rfl) ?_
      refine hq_gf (x := .ref 180) rfl rfl rfl rfl rfl ?_
      refine hq_p 1 48 [some (.ref 174), some (.int a1), some (.int ((20 : Int32) + y1.1)), none, none, none] [.int ((20 : Int32) + y1.1), .ref 180] (fun n h => rfl) ?_
      obtain ⟨x9, hx9, h⟩ := hq_bind h
      refine hq_iaload rfl rfl List.length_replicate hx9 ?_
      refine hq_p 1 50 [some (.ref 174), some (.int a1), some (.int ((20 : Int32) + y1.1)), none, none, none] [.ref 174, .int x9] (fun n h => rfl) ?_
      refine hq_gf (x := .ref 181) rfl rfl rfl rfl rfl ?_
      refine hq_p 1 54 [some (.ref 174), some (.int a1), some (.int ((20 : Int32) + y1.1)), none, none, none] [.int ((20 : Int32) + y1.1), .ref 181, .int x9] (fun n h => rfl) ?_
      obtain ⟨x10, hx10, h⟩ := hq_bind h
      refine hq_iaload rfl rfl List.length_replicate hx10 ?_
      by_cases c11 : x9 = x10
      · rw [if_pos c11] at h
        refine hq_icF rfl (hq_c_ne_F c11) ?_
        refine hq_p 2 60 [some (.ref 174), some (.int a1), some (.int ((20 : Int32) + y1.1)), none, none, none] [.int (5 : Int32), .ref 174] (fun n h => rfl) ?_
        obtain ⟨s12, hs12, h⟩ := hq_bind h
        refine hq_inv rfl rfl (Nat.le_trans (by decide) hd) rfl rfl (hq_rcv rfl rfl) (f_X12_wrong_run (Nat.le_sub_of_add_le (Nat.le_trans (by decide) hd)) hs12) rfl ?_
        cases h
        exact hT
      · rw [if_neg c11] at h
        refine hq_icT rfl (hq_c_ne_T c11) ?_
        cases h
        exact hT
    · rw [if_neg c8] at h
      refine hq_izT rfl (hq_c_ne_T c8) ?_
      cases h
      exact hT
  refine hq_bip (20 : Int32) rfl (by decide) ?_
  refine hq_p 1 66 [some (.ref 174), some (.int a1), some (.int ((20 : Int32) + y1.1)), some (.int (20 : Int32)), none, none] [] (fun n h => rfl) ?_
  exact f_X12_laneLine_L66_run hd h
def f_X12_beatLine_L46_B (n : Nat) (q46 : Int32 → Int32 → Int32 → hq_S → Option hq_S) (a1 : Int32) (a2 : Int32) (a3 : Int32) (s : hq_S) : Option hq_S := if (hq_gi s 174 28) = 0 then if a3 = 0 then some s else (if a2 = (8 : Int32) then (f_X12_wrong n (2 : Int32) s).bind fun s13 => some s13 else some s).bind fun z11 => (f_X12_cornerAhead n z11).bind fun y14 => if (hq_gi y14.2 174 28) = 0 then (hq_st y14.2 186 48 (((8 : Int32) * a1) + a2) y14.1).bind fun s16 => (hq_st s16 185 6 a1 (a2 + (1 : Int32))).bind fun s17 => (if (hq_gi s17 174 26) = (1 : Int32) then some (1 : Int32) else some (0 : Int32)).bind fun z18 => q46 a1 (a2 + (1 : Int32)) z18 s17 else some y14.2 else some s
def f_X12_beatLine_L46 (n : Nat) (m : Nat) : Int32 → Int32 → Int32 → hq_S → Option hq_S := Nat.rec (fun _ _ _ _ => none) (fun _ q => f_X12_beatLine_L46_B n q) m
theorem f_X12_beatLine_L46_Brun {xs : List Int32} {n d g : Nat} {a1 : Int32} {a2 : Int32} {a3 : Int32} {o4 : Option Value} {q46 : Int32 → Int32 → Int32 → hq_S → Option hq_S} {s : hq_S} {y : hq_S} (hd : 10 ≤ d) (e46 : ∀ (a1 : Int32) (a2 : Int32) (a3 : Int32) (o4 : Option Value) (s : hq_S), q46 a1 a2 a3 s = some y → hq_R (mm_O xs) d mc_X12_beatLine 46 [some (.ref 174), some (.int a1), some (.int a2), some (.int a3), o4] [] s g none y) (h : f_X12_beatLine_L46_B n q46 a1 a2 a3 s = some y) : hq_R (mm_O xs) d mc_X12_beatLine 46 [some (.ref 174), some (.int a1), some (.int a2), some (.int a3), o4] [] s g none y := by
  unfold f_X12_beatLine_L46_B at h
  refine hq_p 1 47 [some (.ref 174), some (.int a1), some (.int a2), some (.int a3), o4] [.ref 174] (fun n h => rfl) ?_
  refine hq_gf (x := .int (hq_gi s 174 28)) rfl rfl rfl rfl rfl ?_
  by_cases c9 : (hq_gi s 174 28) = 0
  · rw [if_pos c9] at h
    refine hq_izF rfl (hq_c_ne_F c9) ?_
    refine hq_p 1 54 [some (.ref 174), some (.int a1), some (.int a2), some (.int a3), o4] [.int a3] (fun n h => rfl) ?_
    by_cases c10 : a3 = 0
    · rw [if_pos c10] at h
      refine hq_izT rfl (hq_c_eq_T c10) ?_
      have h := Option.some.inj h
      subst h
      exact ⟨1, rfl⟩
    · rw [if_neg c10] at h
      refine hq_izF rfl (hq_c_eq_F c10) ?_
      refine hq_p 2 60 [some (.ref 174), some (.int a1), some (.int a2), some (.int a3), o4] [.int (8 : Int32), .int a2] (fun n h => rfl) ?_
      obtain ⟨z11, hz11, h⟩ := hq_bind h
      suffices hT : hq_R (mm_O xs) d mc_X12_beatLine 68 [some (.ref 174), some (.int a1), some (.int a2), some (.int a3), o4] [] z11 g none y from by
        clear h
        have h := hz11
        by_cases c12 : a2 = (8 : Int32)
        · rw [if_pos c12] at h
          refine hq_icF rfl (hq_c_ne_F c12) ?_
          refine hq_p 2 65 [some (.ref 174), some (.int a1), some (.int a2), some (.int a3), o4] [.int (2 : Int32), .ref 174] (fun n h => rfl) ?_
          obtain ⟨s13, hs13, h⟩ := hq_bind h
          refine hq_inv rfl rfl (Nat.le_trans (by decide) hd) rfl rfl (hq_rcv rfl rfl) (f_X12_wrong_run (Nat.le_sub_of_add_le (Nat.le_trans (by decide) hd)) hs13) rfl ?_
          cases h
          exact hT
        · rw [if_neg c12] at h
          refine hq_icT rfl (hq_c_ne_T c12) ?_
          cases h
          exact hT
      refine hq_p 1 69 [some (.ref 174), some (.int a1), some (.int a2), some (.int a3), o4] [.ref 174] (fun n h => rfl) ?_
      obtain ⟨y14, hy14, h⟩ := hq_bind h
      refine hq_inv rfl rfl (Nat.le_trans (by decide) hd) rfl rfl (hq_rcv rfl rfl) (f_X12_cornerAhead_run (Nat.le_sub_of_add_le (Nat.le_trans (by decide) hd)) hy14) rfl ?_
      refine hq_p 2 75 [some (.ref 174), some (.int a1), some (.int a2), some (.int a3), some (.int y14.1)] [.ref 174] (fun n h => rfl) ?_
      refine hq_gf (x := .int (hq_gi y14.2 174 28)) rfl rfl rfl rfl rfl ?_
      by_cases c15 : (hq_gi y14.2 174 28) = 0
      · rw [if_pos c15] at h
        refine hq_izT rfl (hq_c_eq_T c15) ?_
        refine hq_p 1 83 [some (.ref 174), some (.int a1), some (.int a2), some (.int a3), some (.int y14.1)] [.ref 174] (fun n h => rfl) ?_
        refine hq_gf (x := .ref 186) rfl rfl rfl rfl rfl ?_
        refine hq_p 6 94 [some (.ref 174), some (.int a1), some (.int a2), some (.int a3), some (.int y14.1)] [.int y14.1, .int (((8 : Int32) * a1) + a2), .ref 186] (fun n h => rfl) ?_
        obtain ⟨s16, hs16, h⟩ := hq_bind h
        refine hq_iastore rfl rfl List.length_replicate hs16 ?_
        refine hq_p 2 99 [some (.ref 174), some (.int a1), some (.int (a2 + (1 : Int32))), some (.int a3), some (.int y14.1)] [.ref 174] (fun n h => rfl) ?_
        refine hq_gf (x := .ref 185) rfl rfl rfl rfl rfl ?_
        refine hq_p 2 104 [some (.ref 174), some (.int a1), some (.int (a2 + (1 : Int32))), some (.int a3), some (.int y14.1)] [.int (a2 + (1 : Int32)), .int a1, .ref 185] (fun n h => rfl) ?_
        obtain ⟨s17, hs17, h⟩ := hq_bind h
        refine hq_iastore rfl rfl List.length_replicate hs17 ?_
        refine hq_p 1 106 [some (.ref 174), some (.int a1), some (.int (a2 + (1 : Int32))), some (.int a3), some (.int y14.1)] [.ref 174] (fun n h => rfl) ?_
        refine hq_gf (x := .int (hq_gi s17 174 26)) rfl rfl rfl rfl rfl ?_
        refine hq_p 1 110 [some (.ref 174), some (.int a1), some (.int (a2 + (1 : Int32))), some (.int a3), some (.int y14.1)] [.int (1 : Int32), .int (hq_gi s17 174 26)] (fun n h => rfl) ?_
        obtain ⟨z18, hz18, h⟩ := hq_bind h
        suffices hT : hq_R (mm_O xs) d mc_X12_beatLine 118 [some (.ref 174), some (.int a1), some (.int (a2 + (1 : Int32))), some (.int a3), some (.int y14.1)] [.int z18] s17 g none y from by
          clear h
          have h := hz18
          by_cases c19 : (hq_gi s17 174 26) = (1 : Int32)
          · rw [if_pos c19] at h
            refine hq_icF rfl (hq_c_ne_F c19) ?_
            refine hq_p 2 118 [some (.ref 174), some (.int a1), some (.int (a2 + (1 : Int32))), some (.int a3), some (.int y14.1)] [.int (1 : Int32)] (fun n h => rfl) ?_
            cases h
            exact hT
          · rw [if_neg c19] at h
            refine hq_icT rfl (hq_c_ne_T c19) ?_
            refine hq_p 1 118 [some (.ref 174), some (.int a1), some (.int (a2 + (1 : Int32))), some (.int a3), some (.int y14.1)] [.int (0 : Int32)] (fun n h => rfl) ?_
            cases h
            exact hT
        refine hq_p 2 46 [some (.ref 174), some (.int a1), some (.int (a2 + (1 : Int32))), some (.int z18), some (.int y14.1)] [] (fun n h => rfl) ?_
        exact e46 a1 (a2 + (1 : Int32)) z18 _ s17 h
      · rw [if_neg c15] at h
        refine hq_izF rfl (hq_c_eq_F c15) ?_
        have h := Option.some.inj h
        subst h
        exact ⟨1, rfl⟩
  · rw [if_neg c9] at h
    refine hq_izT rfl (hq_c_ne_T c9) ?_
    have h := Option.some.inj h
    subst h
    exact ⟨1, rfl⟩
theorem f_X12_beatLine_L46_run {xs : List Int32} {n m d g : Nat} {a1 : Int32} {a2 : Int32} {a3 : Int32} {o4 : Option Value} {s : hq_S} {y : hq_S} (hd : 10 ≤ d) (h : f_X12_beatLine_L46 n m a1 a2 a3 s = some y) : hq_R (mm_O xs) d mc_X12_beatLine 46 [some (.ref 174), some (.int a1), some (.int a2), some (.int a3), o4] [] s g none y := by
  induction m generalizing a1 a2 a3 o4 s with
  | zero => cases h
  | succ m ih => exact f_X12_beatLine_L46_Brun (n := n) hd (fun a1 a2 a3 o4 s h => ih h) h
def f_X12_beatLine (n : Nat) (s : hq_S) : Option hq_S := (f_X12_fresher n (2 : Int32) s).bind fun y1 => (f_X12_atHand n 183 (3 : Int32) y1.1 y1.2).bind fun y2 => (if (hq_gi y2.2 174 28) = 0 then (hq_ld y2.2 185 6 ((3 : Int32) + y2.1)).bind fun x5 => if 0 < x5 then (f_X12_wrong n (3 : Int32) y2.2).bind fun s7 => some s7 else some y2.2 else some y2.2).bind fun z3 => (f_X12_goOn n z3).bind fun s8 => f_X12_beatLine_L46 n n ((3 : Int32) + y2.1) (0 : Int32) (1 : Int32) s8
theorem f_X12_beatLine_run {xs : List Int32} {n d g : Nat} {s : hq_S} {y : hq_S} (hd : 10 ≤ d) (h : f_X12_beatLine n s = some y) : hq_R (mm_O xs) d mc_X12_beatLine 0 [some (.ref 174), none, none, none, none] [] s g none y := by
  unfold f_X12_beatLine at h
  refine hq_p 3 3 [some (.ref 174), none, none, none, none] [.ref 174, .ref 174, .int (3 : Int32)] (fun n h => rfl) ?_
  refine hq_gf (x := .ref 183) rfl rfl rfl rfl rfl ?_
  refine hq_p 3 9 [some (.ref 174), none, none, none, none] [.int (2 : Int32), .ref 174, .int (3 : Int32), .ref 183, .ref 174, .int (3 : Int32)] (fun n h => rfl) ?_
  obtain ⟨y1, hy1, h⟩ := hq_bind h
  refine hq_inv rfl rfl (Nat.le_trans (by decide) hd) rfl rfl (hq_rcv rfl rfl) (f_X12_fresher_run (Nat.le_sub_of_add_le (Nat.le_trans (by decide) hd)) hy1) rfl ?_
  obtain ⟨y2, hy2, h⟩ := hq_bind h
  refine hq_inv rfl rfl (Nat.le_trans (by decide) hd) rfl rfl (hq_rcv rfl rfl) (f_X12_atHand_run (Nat.le_sub_of_add_le (Nat.le_trans (by decide) hd)) hy2) rfl ?_
  refine hq_p 3 18 [some (.ref 174), some (.int ((3 : Int32) + y2.1)), none, none, none] [.ref 174] (fun n h => rfl) ?_
  refine hq_gf (x := .int (hq_gi y2.2 174 28)) rfl rfl rfl rfl rfl ?_
  obtain ⟨z3, hz3, h⟩ := hq_bind h
  suffices hT : hq_R (mm_O xs) d mc_X12_beatLine 38 [some (.ref 174), some (.int ((3 : Int32) + y2.1)), none, none, none] [] z3 g none y from by
    clear h
    have h := hz3
    by_cases c4 : (hq_gi y2.2 174 28) = 0
    · rw [if_pos c4] at h
      refine hq_izF rfl (hq_c_ne_F c4) ?_
      refine hq_p 1 25 [some (.ref 174), some (.int ((3 : Int32) + y2.1)), none, none, none] [.ref 174] (fun n h => rfl) ?_
      refine hq_gf (x := .ref 185) rfl rfl rfl rfl rfl ?_
      refine hq_p 1 29 [some (.ref 174), some (.int ((3 : Int32) + y2.1)), none, none, none] [.int ((3 : Int32) + y2.1), .ref 185] (fun n h => rfl) ?_
      obtain ⟨x5, hx5, h⟩ := hq_bind h
      refine hq_iaload rfl rfl List.length_replicate hx5 ?_
      by_cases c6 : 0 < x5
      · rw [if_pos c6] at h
        refine hq_izF rfl (hq_c_le_F c6) ?_
        refine hq_p 2 35 [some (.ref 174), some (.int ((3 : Int32) + y2.1)), none, none, none] [.int (3 : Int32), .ref 174] (fun n h => rfl) ?_
        obtain ⟨s7, hs7, h⟩ := hq_bind h
        refine hq_inv rfl rfl (Nat.le_trans (by decide) hd) rfl rfl (hq_rcv rfl rfl) (f_X12_wrong_run (Nat.le_sub_of_add_le (Nat.le_trans (by decide) hd)) hs7) rfl ?_
        cases h
        exact hT
      · rw [if_neg c6] at h
        refine hq_izT rfl (hq_c_le_T c6) ?_
        cases h
        exact hT
    · rw [if_neg c4] at h
      refine hq_izT rfl (hq_c_ne_T c4) ?_
      cases h
      exact hT
  refine hq_p 1 39 [some (.ref 174), some (.int ((3 : Int32) + y2.1)), none, none, none] [.ref 174] (fun n h => rfl) ?_
  obtain ⟨s8, hs8, h⟩ := hq_bind h
  refine hq_inv rfl rfl (Nat.le_trans (by decide) hd) rfl rfl (hq_rcv rfl rfl) (f_X12_goOn_run (Nat.le_sub_of_add_le (Nat.le_trans (by decide) hd)) hs8) rfl ?_
  refine hq_p 4 46 [some (.ref 174), some (.int ((3 : Int32) + y2.1)), some (.int (0 : Int32)), some (.int (1 : Int32)), none] [] (fun n h => rfl) ?_
  exact f_X12_beatLine_L46_run hd h
def f_X12_knot (n : Nat) (s : hq_S) : Option hq_S := if (hq_gi s 174 28) = 0 then if (hq_gi s 174 33) = (64 : Int32) then (f_X12_wrong n (2 : Int32) s).bind fun s4 => some s4 else (hq_pi s 174 33 0 ((hq_gi s 174 33) + (1 : Int32))).bind fun s3 => some s3 else some s
theorem f_X12_knot_run {xs : List Int32} {n d g : Nat} {s : hq_S} {y : hq_S} (hd : 1 ≤ d) (h : f_X12_knot n s = some y) : hq_R (mm_O xs) d mc_X12_knot 0 [some (.ref 174)] [] s g none y := by
  unfold f_X12_knot at h
  refine hq_p 1 1 [some (.ref 174)] [.ref 174] (fun n h => rfl) ?_
  refine hq_gf (x := .int (hq_gi s 174 28)) rfl rfl rfl rfl rfl ?_
  by_cases c1 : (hq_gi s 174 28) = 0
  · rw [if_pos c1] at h
    refine hq_izT rfl (hq_c_eq_T c1) ?_
    refine hq_p 1 9 [some (.ref 174)] [.ref 174] (fun n h => rfl) ?_
    refine hq_gf (x := .int (hq_gi s 174 33)) rfl rfl rfl rfl rfl ?_
    refine hq_bip (64 : Int32) rfl (by decide) ?_
    by_cases c2 : (hq_gi s 174 33) = (64 : Int32)
    · rw [if_pos c2] at h
      refine hq_icF rfl (hq_c_ne_F c2) ?_
      refine hq_p 2 19 [some (.ref 174)] [.int (2 : Int32), .ref 174] (fun n h => rfl) ?_
      obtain ⟨s4, hs4, h⟩ := hq_bind h
      refine hq_inv rfl rfl (Nat.le_trans (by decide) hd) rfl rfl (hq_rcv rfl rfl) (f_X12_wrong_run (Nat.le_sub_of_add_le (Nat.le_trans (by decide) hd)) hs4) rfl ?_
      refine hq_p 1 35 [some (.ref 174)] [] (fun n h => rfl) ?_
      have h := Option.some.inj h
      subst h
      exact ⟨1, rfl⟩
    · rw [if_neg c2] at h
      refine hq_icT rfl (hq_c_ne_T c2) ?_
      refine hq_p 2 27 [some (.ref 174)] [.ref 174, .ref 174] (fun n h => rfl) ?_
      refine hq_gf (x := .int (hq_gi s 174 33)) rfl rfl rfl rfl rfl ?_
      refine hq_p 2 32 [some (.ref 174)] [.int ((hq_gi s 174 33) + (1 : Int32)), .ref 174] (fun n h => rfl) ?_
      obtain ⟨s3, hs3, h⟩ := hq_bind h
      refine hq_pfi rfl rfl rfl rfl rfl hs3 ?_
      have h := Option.some.inj h
      subst h
      exact ⟨1, rfl⟩
  · rw [if_neg c1] at h
    refine hq_izF rfl (hq_c_eq_F c1) ?_
    have h := Option.some.inj h
    subst h
    exact ⟨1, rfl⟩
def f_X12_puts (n : Nat) (a1 : Int32) (a2 : Int32) (s : hq_S) : Option hq_S := if (hq_gi s 174 28) = 0 then (f_X12_fresher n (6 : Int32) s).bind fun y2 => (hq_st y2.2 192 128 ((64 : Int32) + y2.1) a1).bind fun s3 => (f_X12_fresher n (6 : Int32) s3).bind fun y4 => (hq_st y4.2 193 128 ((64 : Int32) + y4.1) a2).bind fun s5 => (f_X12_fresher n (6 : Int32) s5).bind fun y6 => (f_X12_reads n (6 : Int32) (y6.1 + (1 : Int32)) y6.2).bind fun s7 => some s7 else some s
theorem f_X12_puts_run {xs : List Int32} {n d g : Nat} {a1 : Int32} {a2 : Int32} {s : hq_S} {y : hq_S} (hd : 1 ≤ d) (h : f_X12_puts n a1 a2 s = some y) : hq_R (mm_O xs) d mc_X12_puts 0 [some (.ref 174), some (.int a1), some (.int a2)] [] s g none y := by
  unfold f_X12_puts at h
  refine hq_p 1 1 [some (.ref 174), some (.int a1), some (.int a2)] [.ref 174] (fun n h => rfl) ?_
  refine hq_gf (x := .int (hq_gi s 174 28)) rfl rfl rfl rfl rfl ?_
  by_cases c1 : (hq_gi s 174 28) = 0
  · rw [if_pos c1] at h
    refine hq_izT rfl (hq_c_eq_T c1) ?_
    refine hq_p 1 9 [some (.ref 174), some (.int a1), some (.int a2)] [.ref 174] (fun n h => rfl) ?_
    refine hq_gf (x := .ref 192) rfl rfl rfl rfl rfl ?_
    refine hq_bip (64 : Int32) rfl (by decide) ?_
    refine hq_p 2 17 [some (.ref 174), some (.int a1), some (.int a2)] [.int (6 : Int32), .ref 174, .int (64 : Int32), .ref 192] (fun n h => rfl) ?_
    obtain ⟨y2, hy2, h⟩ := hq_bind h
    refine hq_inv rfl rfl (Nat.le_trans (by decide) hd) rfl rfl (hq_rcv rfl rfl) (f_X12_fresher_run (Nat.le_sub_of_add_le (Nat.le_trans (by decide) hd)) hy2) rfl ?_
    refine hq_p 2 22 [some (.ref 174), some (.int a1), some (.int a2)] [.int a1, .int ((64 : Int32) + y2.1), .ref 192] (fun n h => rfl) ?_
    obtain ⟨s3, hs3, h⟩ := hq_bind h
    refine hq_iastore rfl rfl List.length_replicate hs3 ?_
    refine hq_p 1 24 [some (.ref 174), some (.int a1), some (.int a2)] [.ref 174] (fun n h => rfl) ?_
    refine hq_gf (x := .ref 193) rfl rfl rfl rfl rfl ?_
    refine hq_bip (64 : Int32) rfl (by decide) ?_
    refine hq_p 2 32 [some (.ref 174), some (.int a1), some (.int a2)] [.int (6 : Int32), .ref 174, .int (64 : Int32), .ref 193] (fun n h => rfl) ?_
    obtain ⟨y4, hy4, h⟩ := hq_bind h
    refine hq_inv rfl rfl (Nat.le_trans (by decide) hd) rfl rfl (hq_rcv rfl rfl) (f_X12_fresher_run (Nat.le_sub_of_add_le (Nat.le_trans (by decide) hd)) hy4) rfl ?_
    refine hq_p 2 37 [some (.ref 174), some (.int a1), some (.int a2)] [.int a2, .int ((64 : Int32) + y4.1), .ref 193] (fun n h => rfl) ?_
    obtain ⟨s5, hs5, h⟩ := hq_bind h
    refine hq_iastore rfl rfl List.length_replicate hs5 ?_
    refine hq_p 4 44 [some (.ref 174), some (.int a1), some (.int a2)] [.int (6 : Int32), .ref 174, .int (6 : Int32), .ref 174] (fun n h => rfl) ?_
    obtain ⟨y6, hy6, h⟩ := hq_bind h
    refine hq_inv rfl rfl (Nat.le_trans (by decide) hd) rfl rfl (hq_rcv rfl rfl) (f_X12_fresher_run (Nat.le_sub_of_add_le (Nat.le_trans (by decide) hd)) hy6) rfl ?_
    refine hq_p 2 49 [some (.ref 174), some (.int a1), some (.int a2)] [.int (y6.1 + (1 : Int32)), .int (6 : Int32), .ref 174] (fun n h => rfl) ?_
    obtain ⟨s7, hs7, h⟩ := hq_bind h
    refine hq_inv rfl rfl (Nat.le_trans (by decide) hd) rfl rfl (hq_rcv rfl rfl) (f_X12_reads_run (Nat.le_sub_of_add_le (Nat.le_trans (by decide) hd)) hs7) rfl ?_
    have h := Option.some.inj h
    subst h
    exact ⟨1, rfl⟩
  · rw [if_neg c1] at h
    refine hq_izF rfl (hq_c_eq_F c1) ?_
    have h := Option.some.inj h
    subst h
    exact ⟨1, rfl⟩
