def f_X7_nightsToSweep_J119 (n : Nat) (k1 : Nat) (a2 : Int32) (a3 : Int32) (a6 : Int32) (a7 : Int32) (s : hq_S) : Option (Int32 × hq_S) := (hq_ld s 161 1024 a3).bind fun x5 => if x5 = (-1 : Int32) then some ((-2 : Int32), s) else (hq_ld s 161 1024 a3).bind fun x7 => some (x7, s)
theorem f_X7_nightsToSweep_J119_run {xs : List Int32} {n d g : Nat} {k1 : Nat} {a2 : Int32} {a3 : Int32} {a6 : Int32} {a7 : Int32} {o8 : Option Value} {s : hq_S} {y : (Int32 × hq_S)} (hd : 2 ≤ d) (m1_ : hq_isS k1) (h : f_X7_nightsToSweep_J119 n k1 a2 a3 a6 a7 s = some y) : hq_R (mm_O xs) d mc_X7_nightsToSweep 119 [some (.ref 159), some (.ref k1), some (.int a2), some (.int a3), some (.ref 160), some (.ref 161), some (.int a6), some (.int a7), o8] [] s g (some (.int y.1)) y.2 := by
  unfold f_X7_nightsToSweep_J119 at h
  refine hq_p 2 122 [some (.ref 159), some (.ref k1), some (.int a2), some (.int a3), some (.ref 160), some (.ref 161), some (.int a6), some (.int a7), o8] [.int a3, .ref 161] (fun n h => rfl) ?_
  obtain ⟨x5, hx5, h⟩ := hq_bind h
  refine hq_iaload rfl rfl List.length_replicate hx5 ?_
  refine hq_icn (-1 : Int32) rfl (by decide) ?_
  by_cases c6 : x5 = (-1 : Int32)
  · rw [if_pos c6] at h
    refine hq_icF rfl (hq_c_ne_F c6) ?_
    refine hq_bip (-2 : Int32) rfl (by decide) ?_
    refine hq_p 1 136 [some (.ref 159), some (.ref k1), some (.int a2), some (.int a3), some (.ref 160), some (.ref 161), some (.int a6), some (.int a7), o8] [.int (-2 : Int32)] (fun n h => rfl) ?_
    have h := Option.some.inj h
    subst h
    exact ⟨1, rfl⟩
  · rw [if_neg c6] at h
    refine hq_icT rfl (hq_c_ne_T c6) ?_
    refine hq_p 2 135 [some (.ref 159), some (.ref k1), some (.int a2), some (.int a3), some (.ref 160), some (.ref 161), some (.int a6), some (.int a7), o8] [.int a3, .ref 161] (fun n h => rfl) ?_
    obtain ⟨x7, hx7, h⟩ := hq_bind h
    refine hq_iaload rfl rfl List.length_replicate hx7 ?_
    have h := Option.some.inj h
    subst h
    exact ⟨1, rfl⟩
def f_X7_nightsToSweep_L71_B (n : Nat) (q44 : Nat → Int32 → Int32 → Int32 → Int32 → hq_S → Option (Int32 × hq_S)) (q71 : Nat → Int32 → Int32 → Int32 → Int32 → Int32 → hq_S → Option (Int32 × hq_S)) (k1 : Nat) (a2 : Int32) (a3 : Int32) (a6 : Int32) (a7 : Int32) (a8 : Int32) (s : hq_S) : Option (Int32 × hq_S) := if a3 < a8 then q44 k1 a2 a3 a6 (a7 + (1 : Int32)) s else (hq_ld s 160 1024 a8).bind fun x12 => (hq_ld s 161 1024 x12).bind fun x13 => (if x13 = (a7 - (1 : Int32)) then (f_X7_solveAround n a8 a3 a2 a7 s).bind fun y16 => some ((a6 ||| y16.1), y16.2) else some (a6, s)).bind fun z14 => q71 k1 a2 a3 z14.1 a7 (a8 + (1 : Int32)) z14.2
def f_X7_nightsToSweep_L71 (n : Nat) (q44 : Nat → Int32 → Int32 → Int32 → Int32 → hq_S → Option (Int32 × hq_S)) (m : Nat) : Nat → Int32 → Int32 → Int32 → Int32 → Int32 → hq_S → Option (Int32 × hq_S) := Nat.rec (fun _ _ _ _ _ _ _ => none) (fun _ q => f_X7_nightsToSweep_L71_B n q44 q) m
theorem f_X7_nightsToSweep_L71_Brun {xs : List Int32} {n d g : Nat} {k1 : Nat} {a2 : Int32} {a3 : Int32} {a6 : Int32} {a7 : Int32} {a8 : Int32} {q44 : Nat → Int32 → Int32 → Int32 → Int32 → hq_S → Option (Int32 × hq_S)} {q71 : Nat → Int32 → Int32 → Int32 → Int32 → Int32 → hq_S → Option (Int32 × hq_S)} {s : hq_S} {y : (Int32 × hq_S)} (hd : 2 ≤ d) (e44 : ∀ (k1 : Nat) (a2 : Int32) (a3 : Int32) (a6 : Int32) (a7 : Int32) (o8 : Option Value) (s : hq_S) (m1_ : hq_isS k1), q44 k1 a2 a3 a6 a7 s = some y → hq_R (mm_O xs) d mc_X7_nightsToSweep 44 [some (.ref 159), some (.ref k1), some (.int a2), some (.int a3), some (.ref 160), some (.ref 161), some (.int a6), some (.int a7), o8] [] s g (some (.int y.1)) y.2) (e71 : ∀ (k1 : Nat) (a2 : Int32) (a3 : Int32) (a6 : Int32) (a7 : Int32) (a8 : Int32) (s : hq_S) (m1_ : hq_isS k1), q71 k1 a2 a3 a6 a7 a8 s = some y → hq_R (mm_O xs) d mc_X7_nightsToSweep 71 [some (.ref 159), some (.ref k1), some (.int a2), some (.int a3), some (.ref 160), some (.ref 161), some (.int a6), some (.int a7), some (.int a8)] [] s g (some (.int y.1)) y.2) (m1_ : hq_isS k1) (h : f_X7_nightsToSweep_L71_B n q44 q71 k1 a2 a3 a6 a7 a8 s = some y) : hq_R (mm_O xs) d mc_X7_nightsToSweep 71 [some (.ref 159), some (.ref k1), some (.int a2), some (.int a3), some (.ref 160), some (.ref 161), some (.int a6), some (.int a7), some (.int a8)] [] s g (some (.int y.1)) y.2 := by
  unfold f_X7_nightsToSweep_L71_B at h
  refine hq_p 2 74 [some (.ref 159), some (.ref k1), some (.int a2), some (.int a3), some (.ref 160), some (.ref 161), some (.int a6), some (.int a7), some (.int a8)] [.int a3, .int a8] (fun n h => rfl) ?_
  by_cases c11 : a3 < a8
  · rw [if_pos c11] at h
    refine hq_icT rfl (hq_c_gt_T c11) ?_
    refine hq_p 2 44 [some (.ref 159), some (.ref k1), some (.int a2), some (.int a3), some (.ref 160), some (.ref 161), some (.int a6), some (.int (a7 + (1 : Int32))), some (.int a8)] [] (fun n h => rfl) ?_
    exact e44 k1 a2 a3 a6 (a7 + (1 : Int32)) _ s m1_ h
  · rw [if_neg c11] at h
    refine hq_icF rfl (hq_c_gt_F c11) ?_
    refine hq_p 3 83 [some (.ref 159), some (.ref k1), some (.int a2), some (.int a3), some (.ref 160), some (.ref 161), some (.int a6), some (.int a7), some (.int a8)] [.int a8, .ref 160, .ref 161] (fun n h => rfl) ?_
    obtain ⟨x12, hx12, h⟩ := hq_bind h
    refine hq_iaload rfl rfl List.length_replicate hx12 ?_
    obtain ⟨x13, hx13, h⟩ := hq_bind h
    refine hq_iaload rfl rfl List.length_replicate hx13 ?_
    refine hq_p 3 89 [some (.ref 159), some (.ref k1), some (.int a2), some (.int a3), some (.ref 160), some (.ref 161), some (.int a6), some (.int a7), some (.int a8)] [.int (a7 - (1 : Int32)), .int x13] (fun n h => rfl) ?_
    obtain ⟨z14, hz14, h⟩ := hq_bind h
    suffices hT : hq_R (mm_O xs) d mc_X7_nightsToSweep 107 [some (.ref 159), some (.ref k1), some (.int a2), some (.int a3), some (.ref 160), some (.ref 161), some (.int z14.1), some (.int a7), some (.int a8)] [] z14.2 g (some (.int y.1)) y.2 from by
      clear h
      have h := hz14
      by_cases c15 : x13 = (a7 - (1 : Int32))
      · rw [if_pos c15] at h
        refine hq_icF rfl (hq_c_ne_F c15) ?_
        refine hq_p 6 101 [some (.ref 159), some (.ref k1), some (.int a2), some (.int a3), some (.ref 160), some (.ref 161), some (.int a6), some (.int a7), some (.int a8)] [.int a7, .int a2, .int a3, .int a8, .ref 159, .int a6] (fun n h => rfl) ?_
        obtain ⟨y16, hy16, h⟩ := hq_bind h
        refine hq_inv rfl rfl (Nat.le_trans (by decide) hd) rfl rfl (hq_rcv rfl rfl) (f_X7_solveAround_run (Nat.le_sub_of_add_le (Nat.le_trans (by decide) hd)) hy16) rfl ?_
        refine hq_p 2 107 [some (.ref 159), some (.ref k1), some (.int a2), some (.int a3), some (.ref 160), some (.ref 161), some (.int (a6 ||| y16.1)), some (.int a7), some (.int a8)] [] (fun n h => rfl) ?_
        cases h
        exact hT
      · rw [if_neg c15] at h
        refine hq_icT rfl (hq_c_ne_T c15) ?_
        cases h
        exact hT
    refine hq_p 2 71 [some (.ref 159), some (.ref k1), some (.int a2), some (.int a3), some (.ref 160), some (.ref 161), some (.int z14.1), some (.int a7), some (.int (a8 + (1 : Int32)))] [] (fun n h => rfl) ?_
    exact e71 k1 a2 a3 z14.1 a7 (a8 + (1 : Int32)) z14.2 m1_ h
theorem f_X7_nightsToSweep_L71_run {xs : List Int32} {n m d g : Nat} {k1 : Nat} {a2 : Int32} {a3 : Int32} {a6 : Int32} {a7 : Int32} {a8 : Int32} {q44 : Nat → Int32 → Int32 → Int32 → Int32 → hq_S → Option (Int32 × hq_S)} {s : hq_S} {y : (Int32 × hq_S)} (hd : 2 ≤ d) (e44 : ∀ (k1 : Nat) (a2 : Int32) (a3 : Int32) (a6 : Int32) (a7 : Int32) (o8 : Option Value) (s : hq_S) (m1_ : hq_isS k1), q44 k1 a2 a3 a6 a7 s = some y → hq_R (mm_O xs) d mc_X7_nightsToSweep 44 [some (.ref 159), some (.ref k1), some (.int a2), some (.int a3), some (.ref 160), some (.ref 161), some (.int a6), some (.int a7), o8] [] s g (some (.int y.1)) y.2) (m1_ : hq_isS k1) (h : f_X7_nightsToSweep_L71 n q44 m k1 a2 a3 a6 a7 a8 s = some y) : hq_R (mm_O xs) d mc_X7_nightsToSweep 71 [some (.ref 159), some (.ref k1), some (.int a2), some (.int a3), some (.ref 160), some (.ref 161), some (.int a6), some (.int a7), some (.int a8)] [] s g (some (.int y.1)) y.2 := by
  induction m generalizing k1 a2 a3 a6 a7 a8 s with
  | zero => cases h
  | succ m ih => exact f_X7_nightsToSweep_L71_Brun (n := n) hd e44 (fun k1 a2 a3 a6 a7 a8 s m1_ h => ih m1_ h) m1_ h
def f_X7_nightsToSweep_L44_B (n : Nat) (q44 : Nat → Int32 → Int32 → Int32 → Int32 → hq_S → Option (Int32 × hq_S)) (k1 : Nat) (a2 : Int32) (a3 : Int32) (a6 : Int32) (a7 : Int32) (s : hq_S) : Option (Int32 × hq_S) := if (1024 : Int32) < a7 then f_X7_nightsToSweep_J119 n k1 a2 a3 a6 a7 s else if a6 = 0 then f_X7_nightsToSweep_J119 n k1 a2 a3 a6 a7 s else (hq_ld s 161 1024 a3).bind fun x9 => if x9 = (-1 : Int32) then f_X7_nightsToSweep_L71 n q44 n k1 a2 a3 (0 : Int32) a7 (0 : Int32) s else f_X7_nightsToSweep_J119 n k1 a2 a3 a6 a7 s
def f_X7_nightsToSweep_L44 (n : Nat) (m : Nat) : Nat → Int32 → Int32 → Int32 → Int32 → hq_S → Option (Int32 × hq_S) := Nat.rec (fun _ _ _ _ _ _ => none) (fun _ q => f_X7_nightsToSweep_L44_B n q) m
theorem f_X7_nightsToSweep_L44_Brun {xs : List Int32} {n d g : Nat} {k1 : Nat} {a2 : Int32} {a3 : Int32} {a6 : Int32} {a7 : Int32} {o8 : Option Value} {q44 : Nat → Int32 → Int32 → Int32 → Int32 → hq_S → Option (Int32 × hq_S)} {s : hq_S} {y : (Int32 × hq_S)} (hd : 2 ≤ d) (e44 : ∀ (k1 : Nat) (a2 : Int32) (a3 : Int32) (a6 : Int32) (a7 : Int32) (o8 : Option Value) (s : hq_S) (m1_ : hq_isS k1), q44 k1 a2 a3 a6 a7 s = some y → hq_R (mm_O xs) d mc_X7_nightsToSweep 44 [some (.ref 159), some (.ref k1), some (.int a2), some (.int a3), some (.ref 160), some (.ref 161), some (.int a6), some (.int a7), o8] [] s g (some (.int y.1)) y.2) (m1_ : hq_isS k1) (h : f_X7_nightsToSweep_L44_B n q44 k1 a2 a3 a6 a7 s = some y) : hq_R (mm_O xs) d mc_X7_nightsToSweep 44 [some (.ref 159), some (.ref k1), some (.int a2), some (.int a3), some (.ref 160), some (.ref 161), some (.int a6), some (.int a7), o8] [] s g (some (.int y.1)) y.2 := by
  unfold f_X7_nightsToSweep_L44_B at h
  refine hq_p 1 46 [some (.ref 159), some (.ref k1), some (.int a2), some (.int a3), some (.ref 160), some (.ref 161), some (.int a6), some (.int a7), o8] [.int a7] (fun n h => rfl) ?_
  refine hq_sip (1024 : Int32) rfl (by decide) ?_
  by_cases c4 : (1024 : Int32) < a7
  · rw [if_pos c4] at h
    refine hq_icT rfl (hq_c_gt_T c4) ?_
    exact f_X7_nightsToSweep_J119_run hd m1_ h
  · rw [if_neg c4] at h
    refine hq_icF rfl (hq_c_gt_F c4) ?_
    refine hq_p 1 54 [some (.ref 159), some (.ref k1), some (.int a2), some (.int a3), some (.ref 160), some (.ref 161), some (.int a6), some (.int a7), o8] [.int a6] (fun n h => rfl) ?_
    by_cases c8 : a6 = 0
    · rw [if_pos c8] at h
      refine hq_izT rfl (hq_c_eq_T c8) ?_
      exact f_X7_nightsToSweep_J119_run hd m1_ h
    · rw [if_neg c8] at h
      refine hq_izF rfl (hq_c_eq_F c8) ?_
      refine hq_p 2 60 [some (.ref 159), some (.ref k1), some (.int a2), some (.int a3), some (.ref 160), some (.ref 161), some (.int a6), some (.int a7), o8] [.int a3, .ref 161] (fun n h => rfl) ?_
      obtain ⟨x9, hx9, h⟩ := hq_bind h
      refine hq_iaload rfl rfl List.length_replicate hx9 ?_
      refine hq_icn (-1 : Int32) rfl (by decide) ?_
      by_cases c10 : x9 = (-1 : Int32)
      · rw [if_pos c10] at h
        refine hq_icF rfl (hq_c_ne_F c10) ?_
        refine hq_p 4 71 [some (.ref 159), some (.ref k1), some (.int a2), some (.int a3), some (.ref 160), some (.ref 161), some (.int (0 : Int32)), some (.int a7), some (.int (0 : Int32))] [] (fun n h => rfl) ?_
        exact f_X7_nightsToSweep_L71_run hd e44 m1_ h
      · rw [if_neg c10] at h
        refine hq_icT rfl (hq_c_ne_T c10) ?_
        exact f_X7_nightsToSweep_J119_run hd m1_ h
theorem f_X7_nightsToSweep_L44_run {xs : List Int32} {n m d g : Nat} {k1 : Nat} {a2 : Int32} {a3 : Int32} {a6 : Int32} {a7 : Int32} {o8 : Option Value} {s : hq_S} {y : (Int32 × hq_S)} (hd : 2 ≤ d) (m1_ : hq_isS k1) (h : f_X7_nightsToSweep_L44 n m k1 a2 a3 a6 a7 s = some y) : hq_R (mm_O xs) d mc_X7_nightsToSweep 44 [some (.ref 159), some (.ref k1), some (.int a2), some (.int a3), some (.ref 160), some (.ref 161), some (.int a6), some (.int a7), o8] [] s g (some (.int y.1)) y.2 := by
  induction m generalizing k1 a2 a3 a6 a7 o8 s with
  | zero => cases h
  | succ m ih => exact f_X7_nightsToSweep_L44_Brun (n := n) hd (fun k1 a2 a3 a6 a7 o8 s m1_ h => ih m1_ h) m1_ h
def f_X7_nightsToSweep (n : Nat) (k1 : Nat) (a2 : Int32) (s : hq_S) : Option (Int32 × hq_S) := (f_X7_letGo n k1 160 s).bind fun s1 => (f_J7_fill_53178 n 161 (-1 : Int32) s1).bind fun s2 => (hq_st s2 161 1024 (0 : Int32) (0 : Int32)).bind fun s3 => f_X7_nightsToSweep_L44 n n k1 a2 (((1 : Int32) <<< ((hq_gi s k1 0) &&& 31)) - (1 : Int32)) (1 : Int32) (1 : Int32) s3
theorem f_X7_nightsToSweep_run {xs : List Int32} {n d g : Nat} {k1 : Nat} {a2 : Int32} {s : hq_S} {y : (Int32 × hq_S)} (hd : 2 ≤ d) (m1_ : hq_isS k1) (h : f_X7_nightsToSweep n k1 a2 s = some y) : hq_R (mm_O xs) d mc_X7_nightsToSweep 0 [some (.ref 159), some (.ref k1), some (.int a2), none, none, none, none, none, none] [] s g (some (.int y.1)) y.2 := by
  unfold f_X7_nightsToSweep at h
  refine hq_p 2 2 [some (.ref 159), some (.ref k1), some (.int a2), none, none, none, none, none, none] [.ref k1, .int (1 : Int32)] (fun n h => rfl) ?_
  refine hq_gf (x := .int (hq_gi s k1 0)) rfl (hq_shS m1_) rfl rfl rfl ?_
  refine hq_p 5 10 [some (.ref 159), some (.ref k1), some (.int a2), some (.int (((1 : Int32) <<< ((hq_gi s k1 0) &&& 31)) - (1 : Int32))), none, none, none, none, none] [.ref 159] (fun n h => rfl) ?_
  refine hq_gf (x := .ref 160) rfl rfl rfl rfl rfl ?_
  refine hq_p 2 16 [some (.ref 159), some (.ref k1), some (.int a2), some (.int (((1 : Int32) <<< ((hq_gi s k1 0) &&& 31)) - (1 : Int32))), some (.ref 160), none, none, none, none] [.ref 159] (fun n h => rfl) ?_
  refine hq_gf (x := .ref 161) rfl rfl rfl rfl rfl ?_
  refine hq_p 3 24 [some (.ref 159), some (.ref k1), some (.int a2), some (.int (((1 : Int32) <<< ((hq_gi s k1 0) &&& 31)) - (1 : Int32))), some (.ref 160), some (.ref 161), none, none, none] [.ref 160, .ref k1] (fun n h => rfl) ?_
  obtain ⟨s1, hs1, h⟩ := hq_bind h
  refine hq_ist rfl rfl rfl (Nat.le_trans (by decide) hd) rfl (f_X7_letGo_run (Nat.le_sub_of_add_le (Nat.le_trans (by decide) hd)) m1_ hs1) rfl ?_
  refine hq_p 1 29 [some (.ref 159), some (.ref k1), some (.int a2), some (.int (((1 : Int32) <<< ((hq_gi s k1 0) &&& 31)) - (1 : Int32))), some (.ref 160), some (.ref 161), none, none, none] [.ref 161] (fun n h => rfl) ?_
  refine hq_icn (-1 : Int32) rfl (by decide) ?_
  obtain ⟨s2, hs2, h⟩ := hq_bind h
  refine hq_ist rfl rfl rfl (Nat.le_trans (by decide) hd) rfl (f_J7_fill_53178_run (Nat.le_sub_of_add_le (Nat.le_trans (by decide) hd)) hs2) rfl ?_
  refine hq_p 3 37 [some (.ref 159), some (.ref k1), some (.int a2), some (.int (((1 : Int32) <<< ((hq_gi s k1 0) &&& 31)) - (1 : Int32))), some (.ref 160), some (.ref 161), none, none, none] [.int (0 : Int32), .int (0 : Int32), .ref 161] (fun n h => rfl) ?_
  obtain ⟨s3, hs3, h⟩ := hq_bind h
  refine hq_iastore rfl rfl List.length_replicate hs3 ?_
  refine hq_p 4 44 [some (.ref 159), some (.ref k1), some (.int a2), some (.int (((1 : Int32) <<< ((hq_gi s k1 0) &&& 31)) - (1 : Int32))), some (.ref 160), some (.ref 161), some (.int (1 : Int32)), some (.int (1 : Int32)), none] [] (fun n h => rfl) ?_
  exact f_X7_nightsToSweep_L44_run hd m1_ h
def f_X7_firstLook_J71 (n : Nat) (q29 : Nat → Int32 → Int32 → Int32 → Int32 → hq_S → Option (Int32 × hq_S)) (k1 : Nat) (a2 : Int32) (a3 : Int32) (a4 : Int32) (a5 : Int32) (s : hq_S) : Option (Int32 × hq_S) := q29 k1 a2 a3 a4 (a5 + (1 : Int32)) s
theorem f_X7_firstLook_J71_run {xs : List Int32} {n d g : Nat} {k1 : Nat} {a2 : Int32} {a3 : Int32} {a4 : Int32} {a5 : Int32} {q29 : Nat → Int32 → Int32 → Int32 → Int32 → hq_S → Option (Int32 × hq_S)} {s : hq_S} {y : (Int32 × hq_S)} (hd : 3 ≤ d) (e29 : ∀ (k1 : Nat) (a2 : Int32) (a3 : Int32) (a4 : Int32) (a5 : Int32) (s : hq_S) (m1_ : hq_isS k1), q29 k1 a2 a3 a4 a5 s = some y → hq_R (mm_O xs) d mc_X7_firstLook 29 [some (.ref 159), some (.ref k1), some (.int a2), some (.int a3), some (.int a4), some (.int a5)] [] s g (some (.int y.1)) y.2) (m1_ : hq_isS k1) (h : f_X7_firstLook_J71 n q29 k1 a2 a3 a4 a5 s = some y) : hq_R (mm_O xs) d mc_X7_firstLook 71 [some (.ref 159), some (.ref k1), some (.int a2), some (.int a3), some (.int a4), some (.int a5)] [] s g (some (.int y.1)) y.2 := by
  unfold f_X7_firstLook_J71 at h
  refine hq_p 2 29 [some (.ref 159), some (.ref k1), some (.int a2), some (.int a3), some (.int a4), some (.int (a5 + (1 : Int32)))] [] (fun n h => rfl) ?_
  exact e29 k1 a2 a3 a4 (a5 + (1 : Int32)) s m1_ h
def f_X7_firstLook_L29_B (n : Nat) (q29 : Nat → Int32 → Int32 → Int32 → Int32 → hq_S → Option (Int32 × hq_S)) (k1 : Nat) (a2 : Int32) (a3 : Int32) (a4 : Int32) (a5 : Int32) (s : hq_S) : Option (Int32 × hq_S) := if a4 < a5 then some ((0 : Int32), s) else (f_J6_bitCount_0f7a4 n a5 s).bind fun y4 => if a2 < y4.1 then f_X7_firstLook_J71 n q29 k1 a2 a3 a4 a5 y4.2 else (hq_ld y4.2 160 1024 (a4 &&& (a5 ^^^ (-1 : Int32)))).bind fun x6 => (hq_ld y4.2 161 1024 x6).bind fun x7 => if x7 = (a3 - (1 : Int32)) then some (a5, y4.2) else f_X7_firstLook_J71 n q29 k1 a2 a3 a4 a5 y4.2
def f_X7_firstLook_L29 (n : Nat) (m : Nat) : Nat → Int32 → Int32 → Int32 → Int32 → hq_S → Option (Int32 × hq_S) := Nat.rec (fun _ _ _ _ _ _ => none) (fun _ q => f_X7_firstLook_L29_B n q) m
theorem f_X7_firstLook_L29_Brun {xs : List Int32} {n d g : Nat} {k1 : Nat} {a2 : Int32} {a3 : Int32} {a4 : Int32} {a5 : Int32} {q29 : Nat → Int32 → Int32 → Int32 → Int32 → hq_S → Option (Int32 × hq_S)} {s : hq_S} {y : (Int32 × hq_S)} (hd : 3 ≤ d) (e29 : ∀ (k1 : Nat) (a2 : Int32) (a3 : Int32) (a4 : Int32) (a5 : Int32) (s : hq_S) (m1_ : hq_isS k1), q29 k1 a2 a3 a4 a5 s = some y → hq_R (mm_O xs) d mc_X7_firstLook 29 [some (.ref 159), some (.ref k1), some (.int a2), some (.int a3), some (.int a4), some (.int a5)] [] s g (some (.int y.1)) y.2) (m1_ : hq_isS k1) (h : f_X7_firstLook_L29_B n q29 k1 a2 a3 a4 a5 s = some y) : hq_R (mm_O xs) d mc_X7_firstLook 29 [some (.ref 159), some (.ref k1), some (.int a2), some (.int a3), some (.int a4), some (.int a5)] [] s g (some (.int y.1)) y.2 := by
  unfold f_X7_firstLook_L29_B at h
  refine hq_p 2 33 [some (.ref 159), some (.ref k1), some (.int a2), some (.int a3), some (.int a4), some (.int a5)] [.int a4, .int a5] (fun n h => rfl) ?_
  by_cases c3 : a4 < a5
  · rw [if_pos c3] at h
    refine hq_icT rfl (hq_c_gt_T c3) ?_
    refine hq_p 1 78 [some (.ref 159), some (.ref k1), some (.int a2), some (.int a3), some (.int a4), some (.int a5)] [.int (0 : Int32)] (fun n h => rfl) ?_
    have h := Option.some.inj h
    subst h
    exact ⟨1, rfl⟩
  · rw [if_neg c3] at h
    refine hq_icF rfl (hq_c_gt_F c3) ?_
    refine hq_p 1 38 [some (.ref 159), some (.ref k1), some (.int a2), some (.int a3), some (.int a4), some (.int a5)] [.int a5] (fun n h => rfl) ?_
    obtain ⟨y4, hy4, h⟩ := hq_bind h
    refine hq_ist rfl rfl rfl (Nat.le_trans (by decide) hd) rfl (f_J6_bitCount_0f7a4_run (Nat.le_sub_of_add_le (Nat.le_trans (by decide) hd)) hy4) rfl ?_
    refine hq_p 1 42 [some (.ref 159), some (.ref k1), some (.int a2), some (.int a3), some (.int a4), some (.int a5)] [.int a2, .int y4.1] (fun n h => rfl) ?_
    by_cases c5 : a2 < y4.1
    · rw [if_pos c5] at h
      refine hq_icT rfl (hq_c_gt_T c5) ?_
      exact f_X7_firstLook_J71_run hd e29 m1_ h
    · rw [if_neg c5] at h
      refine hq_icF rfl (hq_c_gt_F c5) ?_
      refine hq_p 1 46 [some (.ref 159), some (.ref k1), some (.int a2), some (.int a3), some (.int a4), some (.int a5)] [.ref 159] (fun n h => rfl) ?_
      refine hq_gf (x := .ref 161) rfl rfl rfl rfl rfl ?_
      refine hq_p 1 50 [some (.ref 159), some (.ref k1), some (.int a2), some (.int a3), some (.int a4), some (.int a5)] [.ref 159, .ref 161] (fun n h => rfl) ?_
      refine hq_gf (x := .ref 160) rfl rfl rfl rfl rfl ?_
      refine hq_p 2 57 [some (.ref 159), some (.ref k1), some (.int a2), some (.int a3), some (.int a4), some (.int a5)] [.int a5, .int a4, .ref 160, .ref 161] (fun n h => rfl) ?_
      refine hq_icn (-1 : Int32) rfl (by decide) ?_
      refine hq_p 2 60 [some (.ref 159), some (.ref k1), some (.int a2), some (.int a3), some (.int a4), some (.int a5)] [.int (a4 &&& (a5 ^^^ (-1 : Int32))), .ref 160, .ref 161] (fun n h => rfl) ?_
      obtain ⟨x6, hx6, h⟩ := hq_bind h
      refine hq_iaload rfl rfl List.length_replicate hx6 ?_
      obtain ⟨x7, hx7, h⟩ := hq_bind h
      refine hq_iaload rfl rfl List.length_replicate hx7 ?_
      refine hq_p 3 65 [some (.ref 159), some (.ref k1), some (.int a2), some (.int a3), some (.int a4), some (.int a5)] [.int (a3 - (1 : Int32)), .int x7] (fun n h => rfl) ?_
      by_cases c8 : x7 = (a3 - (1 : Int32))
      · rw [if_pos c8] at h
        refine hq_icF rfl (hq_c_ne_F c8) ?_
        refine hq_p 1 70 [some (.ref 159), some (.ref k1), some (.int a2), some (.int a3), some (.int a4), some (.int a5)] [.int a5] (fun n h => rfl) ?_
        have h := Option.some.inj h
        subst h
        exact ⟨1, rfl⟩
      · rw [if_neg c8] at h
        refine hq_icT rfl (hq_c_ne_T c8) ?_
        exact f_X7_firstLook_J71_run hd e29 m1_ h
theorem f_X7_firstLook_L29_run {xs : List Int32} {n m d g : Nat} {k1 : Nat} {a2 : Int32} {a3 : Int32} {a4 : Int32} {a5 : Int32} {s : hq_S} {y : (Int32 × hq_S)} (hd : 3 ≤ d) (m1_ : hq_isS k1) (h : f_X7_firstLook_L29 n m k1 a2 a3 a4 a5 s = some y) : hq_R (mm_O xs) d mc_X7_firstLook 29 [some (.ref 159), some (.ref k1), some (.int a2), some (.int a3), some (.int a4), some (.int a5)] [] s g (some (.int y.1)) y.2 := by
  induction m generalizing k1 a2 a3 a4 a5 s with
  | zero => cases h
  | succ m ih => exact f_X7_firstLook_L29_Brun (n := n) hd (fun k1 a2 a3 a4 a5 s m1_ h => ih m1_ h) m1_ h
def f_X7_firstLook (n : Nat) (k1 : Nat) (a2 : Int32) (s : hq_S) : Option (Int32 × hq_S) := (f_X7_nightsToSweep n k1 a2 s).bind fun y1 => if y1.1 = (-2 : Int32) then some ((-2 : Int32), y1.2) else f_X7_firstLook_L29 n n k1 a2 y1.1 (((1 : Int32) <<< ((hq_gi y1.2 k1 0) &&& 31)) - (1 : Int32)) (0 : Int32) y1.2
theorem f_X7_firstLook_run {xs : List Int32} {n d g : Nat} {k1 : Nat} {a2 : Int32} {s : hq_S} {y : (Int32 × hq_S)} (hd : 3 ≤ d) (m1_ : hq_isS k1) (h : f_X7_firstLook n k1 a2 s = some y) : hq_R (mm_O xs) d mc_X7_firstLook 0 [some (.ref 159), some (.ref k1), some (.int a2), none, none, none] [] s g (some (.int y.1)) y.2 := by
  unfold f_X7_firstLook at h
  refine hq_p 3 3 [some (.ref 159), some (.ref k1), some (.int a2), none, none, none] [.int a2, .ref k1, .ref 159] (fun n h => rfl) ?_
  obtain ⟨y1, hy1, h⟩ := hq_bind h
  refine hq_inv rfl rfl (Nat.le_trans (by decide) hd) rfl rfl (hq_rcv rfl rfl) (f_X7_nightsToSweep_run (Nat.le_sub_of_add_le (Nat.le_trans (by decide) hd)) m1_ hy1) rfl ?_
  refine hq_p 3 9 [some (.ref 159), some (.ref k1), some (.int a2), some (.int y1.1), none, none] [.ref k1, .int (1 : Int32)] (fun n h => rfl) ?_
  refine hq_gf (x := .int (hq_gi y1.2 k1 0)) rfl (hq_shS m1_) rfl rfl rfl ?_
  refine hq_p 5 18 [some (.ref 159), some (.ref k1), some (.int a2), some (.int y1.1), some (.int (((1 : Int32) <<< ((hq_gi y1.2 k1 0) &&& 31)) - (1 : Int32))), none] [.int y1.1] (fun n h => rfl) ?_
  refine hq_bip (-2 : Int32) rfl (by decide) ?_
  by_cases c2 : y1.1 = (-2 : Int32)
  · rw [if_pos c2] at h
    refine hq_icF rfl (hq_c_ne_F c2) ?_
    refine hq_bip (-2 : Int32) rfl (by decide) ?_
    have h := Option.some.inj h
    subst h
    exact ⟨1, rfl⟩
  · rw [if_neg c2] at h
    refine hq_icT rfl (hq_c_ne_T c2) ?_
    refine hq_p 2 29 [some (.ref 159), some (.ref k1), some (.int a2), some (.int y1.1), some (.int (((1 : Int32) <<< ((hq_gi y1.2 k1 0) &&& 31)) - (1 : Int32))), some (.int (0 : Int32))] [] (fun n h => rfl) ?_
    exact f_X7_firstLook_L29_run hd m1_ h
def f_X8_nextToAny_L4_B (n : Nat) (q4 : Nat → Int32 → Int32 → Int32 → hq_S → Option (Int32 × hq_S)) (k0 : Nat) (a1 : Int32) (a2 : Int32) (a3 : Int32) (s : hq_S) : Option (Int32 × hq_S) := if a3 < (hq_gi s k0 0) then (if ((a1 >>> (a3 &&& 31)) &&& (1 : Int32)) = (1 : Int32) then (hq_ld s (k0 + 1) 10 a3).bind fun x4 => some x4 else some (0 : Int32)).bind fun z2 => q4 k0 a1 (a2 ||| z2) (a3 + (1 : Int32)) s else some (a2, s)
def f_X8_nextToAny_L4 (n : Nat) (m : Nat) : Nat → Int32 → Int32 → Int32 → hq_S → Option (Int32 × hq_S) := Nat.rec (fun _ _ _ _ _ => none) (fun _ q => f_X8_nextToAny_L4_B n q) m
theorem f_X8_nextToAny_L4_Brun {xs : List Int32} {n d g : Nat} {k0 : Nat} {a1 : Int32} {a2 : Int32} {a3 : Int32} {q4 : Nat → Int32 → Int32 → Int32 → hq_S → Option (Int32 × hq_S)} {s : hq_S} {y : (Int32 × hq_S)} (hd : 0 ≤ d) (e4 : ∀ (k0 : Nat) (a1 : Int32) (a2 : Int32) (a3 : Int32) (s : hq_S) (m0_ : hq_isS k0), q4 k0 a1 a2 a3 s = some y → hq_R (mm_O xs) d mc_X8_nextToAny 4 [some (.ref k0), some (.int a1), some (.int a2), some (.int a3)] [] s g (some (.int y.1)) y.2) (m0_ : hq_isS k0) (h : f_X8_nextToAny_L4_B n q4 k0 a1 a2 a3 s = some y) : hq_R (mm_O xs) d mc_X8_nextToAny 4 [some (.ref k0), some (.int a1), some (.int a2), some (.int a3)] [] s g (some (.int y.1)) y.2 := by
  unfold f_X8_nextToAny_L4_B at h
  refine hq_p 2 6 [some (.ref k0), some (.int a1), some (.int a2), some (.int a3)] [.ref k0, .int a3] (fun n h => rfl) ?_
  refine hq_gf (x := .int (hq_gi s k0 0)) rfl (hq_shS m0_) rfl rfl rfl ?_
  by_cases c1 : a3 < (hq_gi s k0 0)
  · rw [if_pos c1] at h
    refine hq_icF rfl (hq_c_ge_F c1) ?_
    refine hq_p 7 19 [some (.ref k0), some (.int a1), some (.int a2), some (.int a3)] [.int (1 : Int32), .int ((a1 >>> (a3 &&& 31)) &&& (1 : Int32)), .int a2] (fun n h => rfl) ?_
    obtain ⟨z2, hz2, h⟩ := hq_bind h
    suffices hT : hq_R (mm_O xs) d mc_X8_nextToAny 32 [some (.ref k0), some (.int a1), some (.int a2), some (.int a3)] [.int z2, .int a2] s g (some (.int y.1)) y.2 from by
      clear h
      have h := hz2
      by_cases c3 : ((a1 >>> (a3 &&& 31)) &&& (1 : Int32)) = (1 : Int32)
      · rw [if_pos c3] at h
        refine hq_icF rfl (hq_c_ne_F c3) ?_
        refine hq_p 1 23 [some (.ref k0), some (.int a1), some (.int a2), some (.int a3)] [.ref k0, .int a2] (fun n h => rfl) ?_
        refine hq_gf (x := .ref (k0 + 1)) rfl (hq_shS m0_) rfl rfl (hq_fldr (hq_shS_u m0_)) ?_
        refine hq_p 1 27 [some (.ref k0), some (.int a1), some (.int a2), some (.int a3)] [.int a3, .ref (k0 + 1), .int a2] (fun n h => rfl) ?_
        obtain ⟨x4, hx4, h⟩ := hq_bind h
        refine hq_iaload rfl (hq_shS_1 m0_) List.length_replicate hx4 ?_
        refine hq_p 1 32 [some (.ref k0), some (.int a1), some (.int a2), some (.int a3)] [.int x4, .int a2] (fun n h => rfl) ?_
        cases h
        exact hT
      · rw [if_neg c3] at h
        refine hq_icT rfl (hq_c_ne_T c3) ?_
        refine hq_p 1 32 [some (.ref k0), some (.int a1), some (.int a2), some (.int a3)] [.int (0 : Int32), .int a2] (fun n h => rfl) ?_
        cases h
        exact hT
    refine hq_p 4 4 [some (.ref k0), some (.int a1), some (.int (a2 ||| z2)), some (.int (a3 + (1 : Int32)))] [] (fun n h => rfl) ?_
    exact e4 k0 a1 (a2 ||| z2) (a3 + (1 : Int32)) s m0_ h
  · rw [if_neg c1] at h
    refine hq_icT rfl (hq_c_ge_T c1) ?_
    refine hq_p 1 41 [some (.ref k0), some (.int a1), some (.int a2), some (.int a3)] [.int a2] (fun n h => rfl) ?_
    have h := Option.some.inj h
    subst h
    exact ⟨1, rfl⟩
theorem f_X8_nextToAny_L4_run {xs : List Int32} {n m d g : Nat} {k0 : Nat} {a1 : Int32} {a2 : Int32} {a3 : Int32} {s : hq_S} {y : (Int32 × hq_S)} (hd : 0 ≤ d) (m0_ : hq_isS k0) (h : f_X8_nextToAny_L4 n m k0 a1 a2 a3 s = some y) : hq_R (mm_O xs) d mc_X8_nextToAny 4 [some (.ref k0), some (.int a1), some (.int a2), some (.int a3)] [] s g (some (.int y.1)) y.2 := by
  induction m generalizing k0 a1 a2 a3 s with
  | zero => cases h
  | succ m ih => exact f_X8_nextToAny_L4_Brun (n := n) hd (fun k0 a1 a2 a3 s m0_ h => ih m0_ h) m0_ h
def f_X8_nextToAny (n : Nat) (k0 : Nat) (a1 : Int32) (s : hq_S) : Option (Int32 × hq_S) := f_X8_nextToAny_L4 n n k0 a1 (0 : Int32) (0 : Int32) s
theorem f_X8_nextToAny_run {xs : List Int32} {n d g : Nat} {k0 : Nat} {a1 : Int32} {s : hq_S} {y : (Int32 × hq_S)} (hd : 0 ≤ d) (m0_ : hq_isS k0) (h : f_X8_nextToAny n k0 a1 s = some y) : hq_R (mm_O xs) d mc_X8_nextToAny 0 [some (.ref k0), some (.int a1), none, none] [] s g (some (.int y.1)) y.2 := by
  unfold f_X8_nextToAny at h
  refine hq_p 4 4 [some (.ref k0), some (.int a1), some (.int (0 : Int32)), some (.int (0 : Int32))] [] (fun n h => rfl) ?_
  exact f_X8_nextToAny_L4_run hd m0_ h
def f_X7_goOn_L10_B (n : Nat) (q10 : Nat → Int32 → Int32 → Nat → Int32 → Int32 → hq_S → Option hq_S) (k0 : Nat) (a1 : Int32) (a2 : Int32) (k3 : Nat) (a4 : Int32) (a5 : Int32) (s : hq_S) : Option hq_S := if a5 < (hq_gi s k0 0) then (if ((a4 >>> (a5 &&& 31)) &&& (1 : Int32)) = (1 : Int32) then (hq_ldiA s k3 (a1 ||| ((1 : Int32) <<< (a5 &&& 31)))).bind fun x5 => (hq_stiA s k3 (a1 ||| ((1 : Int32) <<< (a5 &&& 31))) (x5 ||| ((1 : Int32) <<< (a5 &&& 31)))).bind fun s6 => some s6 else some s).bind fun z3 => q10 k0 a1 a2 k3 a4 (a5 + (1 : Int32)) z3 else some s
def f_X7_goOn_L10 (n : Nat) (m : Nat) : Nat → Int32 → Int32 → Nat → Int32 → Int32 → hq_S → Option hq_S := Nat.rec (fun _ _ _ _ _ _ _ => none) (fun _ q => f_X7_goOn_L10_B n q) m
theorem f_X7_goOn_L10_Brun {xs : List Int32} {n d g : Nat} {k0 : Nat} {a1 : Int32} {a2 : Int32} {k3 : Nat} {a4 : Int32} {a5 : Int32} {q10 : Nat → Int32 → Int32 → Nat → Int32 → Int32 → hq_S → Option hq_S} {s : hq_S} {y : hq_S} (hd : 1 ≤ d) (e10 : ∀ (k0 : Nat) (a1 : Int32) (a2 : Int32) (k3 : Nat) (a4 : Int32) (a5 : Int32) (s : hq_S) (m0_ : hq_isS k0), q10 k0 a1 a2 k3 a4 a5 s = some y → hq_R (mm_O xs) d mc_X7_goOn 10 [some (.ref k0), some (.int a1), some (.int a2), some (.ref k3), some (.int a4), some (.int a5)] [] s g none y) (m0_ : hq_isS k0) (h : f_X7_goOn_L10_B n q10 k0 a1 a2 k3 a4 a5 s = some y) : hq_R (mm_O xs) d mc_X7_goOn 10 [some (.ref k0), some (.int a1), some (.int a2), some (.ref k3), some (.int a4), some (.int a5)] [] s g none y := by
  unfold f_X7_goOn_L10_B at h
  refine hq_p 2 13 [some (.ref k0), some (.int a1), some (.int a2), some (.ref k3), some (.int a4), some (.int a5)] [.ref k0, .int a5] (fun n h => rfl) ?_
  refine hq_gf (x := .int (hq_gi s k0 0)) rfl (hq_shS m0_) rfl rfl rfl ?_
  by_cases c2 : a5 < (hq_gi s k0 0)
  · rw [if_pos c2] at h
    refine hq_icF rfl (hq_c_ge_F c2) ?_
    refine hq_p 6 27 [some (.ref k0), some (.int a1), some (.int a2), some (.ref k3), some (.int a4), some (.int a5)] [.int (1 : Int32), .int ((a4 >>> (a5 &&& 31)) &&& (1 : Int32))] (fun n h => rfl) ?_
    obtain ⟨z3, hz3, h⟩ := hq_bind h
    suffices hT : hq_R (mm_O xs) d mc_X7_goOn 45 [some (.ref k0), some (.int a1), some (.int a2), some (.ref k3), some (.int a4), some (.int a5)] [] z3 g none y from by
      clear h
      have h := hz3
      by_cases c4 : ((a4 >>> (a5 &&& 31)) &&& (1 : Int32)) = (1 : Int32)
      · rw [if_pos c4] at h
        refine hq_icF rfl (hq_c_ne_F c4) ?_
        refine hq_p 7 38 [some (.ref k0), some (.int a1), some (.int a2), some (.ref k3), some (.int a4), some (.int a5)] [.int (a1 ||| ((1 : Int32) <<< (a5 &&& 31))), .ref k3, .int (a1 ||| ((1 : Int32) <<< (a5 &&& 31))), .ref k3] (fun n h => rfl) ?_
        obtain ⟨x5, hx5, h⟩ := hq_bind h
        refine hq_ialoadA rfl hx5 ?_
        refine hq_p 4 44 [some (.ref k0), some (.int a1), some (.int a2), some (.ref k3), some (.int a4), some (.int a5)] [.int (x5 ||| ((1 : Int32) <<< (a5 &&& 31))), .int (a1 ||| ((1 : Int32) <<< (a5 &&& 31))), .ref k3] (fun n h => rfl) ?_
        obtain ⟨s6, hs6, h⟩ := hq_bind h
        refine hq_iastoreA rfl hs6 ?_
        cases h
        exact hT
      · rw [if_neg c4] at h
        refine hq_icT rfl (hq_c_ne_T c4) ?_
        cases h
        exact hT
    refine hq_p 2 10 [some (.ref k0), some (.int a1), some (.int a2), some (.ref k3), some (.int a4), some (.int (a5 + (1 : Int32)))] [] (fun n h => rfl) ?_
    exact e10 k0 a1 a2 k3 a4 (a5 + (1 : Int32)) z3 m0_ h
  · rw [if_neg c2] at h
    refine hq_icT rfl (hq_c_ge_T c2) ?_
    have h := Option.some.inj h
    subst h
    exact ⟨1, rfl⟩
theorem f_X7_goOn_L10_run {xs : List Int32} {n m d g : Nat} {k0 : Nat} {a1 : Int32} {a2 : Int32} {k3 : Nat} {a4 : Int32} {a5 : Int32} {s : hq_S} {y : hq_S} (hd : 1 ≤ d) (m0_ : hq_isS k0) (h : f_X7_goOn_L10 n m k0 a1 a2 k3 a4 a5 s = some y) : hq_R (mm_O xs) d mc_X7_goOn 10 [some (.ref k0), some (.int a1), some (.int a2), some (.ref k3), some (.int a4), some (.int a5)] [] s g none y := by
  induction m generalizing k0 a1 a2 k3 a4 a5 s with
  | zero => cases h
  | succ m ih => exact f_X7_goOn_L10_Brun (n := n) hd (fun k0 a1 a2 k3 a4 a5 s m0_ h => ih m0_ h) m0_ h
def f_X7_goOn (n : Nat) (k0 : Nat) (a1 : Int32) (a2 : Int32) (k3 : Nat) (s : hq_S) : Option hq_S := (f_X8_nextToAny n k0 a2 s).bind fun y1 => f_X7_goOn_L10 n n k0 a1 a2 k3 y1.1 (0 : Int32) y1.2
theorem f_X7_goOn_run {xs : List Int32} {n d g : Nat} {k0 : Nat} {a1 : Int32} {a2 : Int32} {k3 : Nat} {s : hq_S} {y : hq_S} (hd : 1 ≤ d) (m0_ : hq_isS k0) (h : f_X7_goOn n k0 a1 a2 k3 s = some y) : hq_R (mm_O xs) d mc_X7_goOn 0 [some (.ref k0), some (.int a1), some (.int a2), some (.ref k3), none, none] [] s g none y := by
  unfold f_X7_goOn at h
  refine hq_p 2 2 [some (.ref k0), some (.int a1), some (.int a2), some (.ref k3), none, none] [.int a2, .ref k0] (fun n h => rfl) ?_
  obtain ⟨y1, hy1, h⟩ := hq_bind h
  refine hq_inv rfl rfl (Nat.le_trans (by decide) hd) rfl rfl (hq_rcv (hq_shS m0_) rfl) (f_X8_nextToAny_run (Nat.le_sub_of_add_le (Nat.le_trans (by decide) hd)) m0_ hy1) rfl ?_
  refine hq_p 3 10 [some (.ref k0), some (.int a1), some (.int a2), some (.ref k3), some (.int y1.1), some (.int (0 : Int32))] [] (fun n h => rfl) ?_
  exact f_X7_goOn_L10_run hd m0_ h
def f_X7_lanesOfRound_L122_B (n : Nat) (q60 : Nat → Int32 → Int32 → Nat → Nat → Int32 → hq_S → Option (Int32 × hq_S)) (q122 : Nat → Int32 → Int32 → Nat → Nat → Int32 → Int32 → hq_S → Option (Int32 × hq_S)) (k1 : Nat) (a2 : Int32) (a3 : Int32) (k5 : Nat) (k6 : Nat) (a7 : Int32) (a8 : Int32) (s : hq_S) : Option (Int32 × hq_S) := if a3 < a8 then q60 k1 a2 a3 k6 k5 (a7 + (1 : Int32)) s else (hq_ldiA s k6 a8).bind fun x11 => (hq_ld s 160 1024 a8).bind fun x12 => (hq_stiA s k6 a8 (x11 &&& (x12 ^^^ (-1 : Int32)))).bind fun s13 => (hq_ld s13 160 1024 a8).bind fun x14 => (hq_ldiA s13 k6 a8).bind fun x15 => (hq_st s13 160 1024 a8 (x14 ||| x15)).bind fun s16 => q122 k1 a2 a3 k5 k6 a7 (a8 + (1 : Int32)) s16
def f_X7_lanesOfRound_L122 (n : Nat) (q60 : Nat → Int32 → Int32 → Nat → Nat → Int32 → hq_S → Option (Int32 × hq_S)) (m : Nat) : Nat → Int32 → Int32 → Nat → Nat → Int32 → Int32 → hq_S → Option (Int32 × hq_S) := Nat.rec (fun _ _ _ _ _ _ _ _ => none) (fun _ q => f_X7_lanesOfRound_L122_B n q60 q) m
theorem f_X7_lanesOfRound_L122_Brun {xs : List Int32} {n d g : Nat} {k1 : Nat} {a2 : Int32} {a3 : Int32} {k5 : Nat} {k6 : Nat} {a7 : Int32} {a8 : Int32} {q60 : Nat → Int32 → Int32 → Nat → Nat → Int32 → hq_S → Option (Int32 × hq_S)} {q122 : Nat → Int32 → Int32 → Nat → Nat → Int32 → Int32 → hq_S → Option (Int32 × hq_S)} {s : hq_S} {y : (Int32 × hq_S)} (hd : 2 ≤ d) (e60 : ∀ (k1 : Nat) (a2 : Int32) (a3 : Int32) (k5 : Nat) (k6 : Nat) (a7 : Int32) (o8 : Option Value) (s : hq_S) (m1_ : hq_isS k1), q60 k1 a2 a3 k5 k6 a7 s = some y → hq_R (mm_O xs) d mc_X7_lanesOfRound 60 [some (.ref 159), some (.ref k1), some (.int a2), some (.int a3), some (.ref 160), some (.ref k5), some (.ref k6), some (.int a7), o8] [] s g (some (.int y.1)) y.2) (e122 : ∀ (k1 : Nat) (a2 : Int32) (a3 : Int32) (k5 : Nat) (k6 : Nat) (a7 : Int32) (a8 : Int32) (s : hq_S) (m1_ : hq_isS k1), q122 k1 a2 a3 k5 k6 a7 a8 s = some y → hq_R (mm_O xs) d mc_X7_lanesOfRound 122 [some (.ref 159), some (.ref k1), some (.int a2), some (.int a3), some (.ref 160), some (.ref k5), some (.ref k6), some (.int a7), some (.int a8)] [] s g (some (.int y.1)) y.2) (m1_ : hq_isS k1) (h : f_X7_lanesOfRound_L122_B n q60 q122 k1 a2 a3 k5 k6 a7 a8 s = some y) : hq_R (mm_O xs) d mc_X7_lanesOfRound 122 [some (.ref 159), some (.ref k1), some (.int a2), some (.int a3), some (.ref 160), some (.ref k5), some (.ref k6), some (.int a7), some (.int a8)] [] s g (some (.int y.1)) y.2 := by
  unfold f_X7_lanesOfRound_L122_B at h
  refine hq_p 2 125 [some (.ref 159), some (.ref k1), some (.int a2), some (.int a3), some (.ref 160), some (.ref k5), some (.ref k6), some (.int a7), some (.int a8)] [.int a3, .int a8] (fun n h => rfl) ?_
  by_cases c10 : a3 < a8
  · rw [if_pos c10] at h
    refine hq_icT rfl (hq_c_gt_T c10) ?_
    refine hq_p 8 60 [some (.ref 159), some (.ref k1), some (.int a2), some (.int a3), some (.ref 160), some (.ref k6), some (.ref k5), some (.int (a7 + (1 : Int32))), some (.ref k5)] [] (fun n h => rfl) ?_
    exact e60 k1 a2 a3 k6 k5 (a7 + (1 : Int32)) _ s m1_ h
  · rw [if_neg c10] at h
    refine hq_icF rfl (hq_c_gt_F c10) ?_
    refine hq_p 3 133 [some (.ref 159), some (.ref k1), some (.int a2), some (.int a3), some (.ref 160), some (.ref k5), some (.ref k6), some (.int a7), some (.int a8)] [.int a8, .ref k6, .int a8, .ref k6] (fun n h => rfl) ?_
    obtain ⟨x11, hx11, h⟩ := hq_bind h
    refine hq_ialoadA rfl hx11 ?_
    refine hq_p 2 138 [some (.ref 159), some (.ref k1), some (.int a2), some (.int a3), some (.ref 160), some (.ref k5), some (.ref k6), some (.int a7), some (.int a8)] [.int a8, .ref 160, .int x11, .int a8, .ref k6] (fun n h => rfl) ?_
    obtain ⟨x12, hx12, h⟩ := hq_bind h
    refine hq_iaload rfl rfl List.length_replicate hx12 ?_
    refine hq_icn (-1 : Int32) rfl (by decide) ?_
    refine hq_p 2 142 [some (.ref 159), some (.ref k1), some (.int a2), some (.int a3), some (.ref 160), some (.ref k5), some (.ref k6), some (.int a7), some (.int a8)] [.int (x11 &&& (x12 ^^^ (-1 : Int32))), .int a8, .ref k6] (fun n h => rfl) ?_
    obtain ⟨s13, hs13, h⟩ := hq_bind h
    refine hq_iastoreA rfl hs13 ?_
    refine hq_p 3 148 [some (.ref 159), some (.ref k1), some (.int a2), some (.int a3), some (.ref 160), some (.ref k5), some (.ref k6), some (.int a7), some (.int a8)] [.int a8, .ref 160, .int a8, .ref 160] (fun n h => rfl) ?_
    obtain ⟨x14, hx14, h⟩ := hq_bind h
    refine hq_iaload rfl rfl List.length_replicate hx14 ?_
    refine hq_p 2 153 [some (.ref 159), some (.ref k1), some (.int a2), some (.int a3), some (.ref 160), some (.ref k5), some (.ref k6), some (.int a7), some (.int a8)] [.int a8, .ref k6, .int x14, .int a8, .ref 160] (fun n h => rfl) ?_
    obtain ⟨x15, hx15, h⟩ := hq_bind h
    refine hq_ialoadA rfl hx15 ?_
    refine hq_p 1 155 [some (.ref 159), some (.ref k1), some (.int a2), some (.int a3), some (.ref 160), some (.ref k5), some (.ref k6), some (.int a7), some (.int a8)] [.int (x14 ||| x15), .int a8, .ref 160] (fun n h => rfl) ?_
    obtain ⟨s16, hs16, h⟩ := hq_bind h
    refine hq_iastore rfl rfl List.length_replicate hs16 ?_
    refine hq_p 2 122 [some (.ref 159), some (.ref k1), some (.int a2), some (.int a3), some (.ref 160), some (.ref k5), some (.ref k6), some (.int a7), some (.int (a8 + (1 : Int32)))] [] (fun n h => rfl) ?_
    exact e122 k1 a2 a3 k5 k6 a7 (a8 + (1 : Int32)) s16 m1_ h
theorem f_X7_lanesOfRound_L122_run {xs : List Int32} {n m d g : Nat} {k1 : Nat} {a2 : Int32} {a3 : Int32} {k5 : Nat} {k6 : Nat} {a7 : Int32} {a8 : Int32} {q60 : Nat → Int32 → Int32 → Nat → Nat → Int32 → hq_S → Option (Int32 × hq_S)} {s : hq_S} {y : (Int32 × hq_S)} (hd : 2 ≤ d) (e60 : ∀ (k1 : Nat) (a2 : Int32) (a3 : Int32) (k5 : Nat) (k6 : Nat) (a7 : Int32) (o8 : Option Value) (s : hq_S) (m1_ : hq_isS k1), q60 k1 a2 a3 k5 k6 a7 s = some y → hq_R (mm_O xs) d mc_X7_lanesOfRound 60 [some (.ref 159), some (.ref k1), some (.int a2), some (.int a3), some (.ref 160), some (.ref k5), some (.ref k6), some (.int a7), o8] [] s g (some (.int y.1)) y.2) (m1_ : hq_isS k1) (h : f_X7_lanesOfRound_L122 n q60 m k1 a2 a3 k5 k6 a7 a8 s = some y) : hq_R (mm_O xs) d mc_X7_lanesOfRound 122 [some (.ref 159), some (.ref k1), some (.int a2), some (.int a3), some (.ref 160), some (.ref k5), some (.ref k6), some (.int a7), some (.int a8)] [] s g (some (.int y.1)) y.2 := by
  induction m generalizing k1 a2 a3 k5 k6 a7 a8 s with
  | zero => cases h
  | succ m ih => exact f_X7_lanesOfRound_L122_Brun (n := n) hd e60 (fun k1 a2 a3 k5 k6 a7 a8 s m1_ h => ih m1_ h) m1_ h
def f_X7_lanesOfRound_L86_B (n : Nat) (q60 : Nat → Int32 → Int32 → Nat → Nat → Int32 → hq_S → Option (Int32 × hq_S)) (q86 : Nat → Int32 → Int32 → Nat → Nat → Int32 → Int32 → hq_S → Option (Int32 × hq_S)) (k1 : Nat) (a2 : Int32) (a3 : Int32) (k5 : Nat) (k6 : Nat) (a7 : Int32) (a8 : Int32) (s : hq_S) : Option (Int32 × hq_S) := if a3 < a8 then f_X7_lanesOfRound_L122 n q60 n k1 a2 a3 k5 k6 a7 (0 : Int32) s else (hq_ldiA s k5 a8).bind fun x17 => (if x17 = 0 then some s else (hq_ldiA s k5 a8).bind fun x20 => (f_X7_goOn n k1 a8 x20 k6 s).bind fun s21 => some s21).bind fun z18 => q86 k1 a2 a3 k5 k6 a7 (a8 + (1 : Int32)) z18
def f_X7_lanesOfRound_L86 (n : Nat) (q60 : Nat → Int32 → Int32 → Nat → Nat → Int32 → hq_S → Option (Int32 × hq_S)) (m : Nat) : Nat → Int32 → Int32 → Nat → Nat → Int32 → Int32 → hq_S → Option (Int32 × hq_S) := Nat.rec (fun _ _ _ _ _ _ _ _ => none) (fun _ q => f_X7_lanesOfRound_L86_B n q60 q) m
theorem f_X7_lanesOfRound_L86_Brun {xs : List Int32} {n d g : Nat} {k1 : Nat} {a2 : Int32} {a3 : Int32} {k5 : Nat} {k6 : Nat} {a7 : Int32} {a8 : Int32} {q60 : Nat → Int32 → Int32 → Nat → Nat → Int32 → hq_S → Option (Int32 × hq_S)} {q86 : Nat → Int32 → Int32 → Nat → Nat → Int32 → Int32 → hq_S → Option (Int32 × hq_S)} {s : hq_S} {y : (Int32 × hq_S)} (hd : 2 ≤ d) (e60 : ∀ (k1 : Nat) (a2 : Int32) (a3 : Int32) (k5 : Nat) (k6 : Nat) (a7 : Int32) (o8 : Option Value) (s : hq_S) (m1_ : hq_isS k1), q60 k1 a2 a3 k5 k6 a7 s = some y → hq_R (mm_O xs) d mc_X7_lanesOfRound 60 [some (.ref 159), some (.ref k1), some (.int a2), some (.int a3), some (.ref 160), some (.ref k5), some (.ref k6), some (.int a7), o8] [] s g (some (.int y.1)) y.2) (e86 : ∀ (k1 : Nat) (a2 : Int32) (a3 : Int32) (k5 : Nat) (k6 : Nat) (a7 : Int32) (a8 : Int32) (s : hq_S) (m1_ : hq_isS k1), q86 k1 a2 a3 k5 k6 a7 a8 s = some y → hq_R (mm_O xs) d mc_X7_lanesOfRound 86 [some (.ref 159), some (.ref k1), some (.int a2), some (.int a3), some (.ref 160), some (.ref k5), some (.ref k6), some (.int a7), some (.int a8)] [] s g (some (.int y.1)) y.2) (m1_ : hq_isS k1) (h : f_X7_lanesOfRound_L86_B n q60 q86 k1 a2 a3 k5 k6 a7 a8 s = some y) : hq_R (mm_O xs) d mc_X7_lanesOfRound 86 [some (.ref 159), some (.ref k1), some (.int a2), some (.int a3), some (.ref 160), some (.ref k5), some (.ref k6), some (.int a7), some (.int a8)] [] s g (some (.int y.1)) y.2 := by
  unfold f_X7_lanesOfRound_L86_B at h
  refine hq_p 2 89 [some (.ref 159), some (.ref k1), some (.int a2), some (.int a3), some (.ref 160), some (.ref k5), some (.ref k6), some (.int a7), some (.int a8)] [.int a3, .int a8] (fun n h => rfl) ?_
  by_cases c9 : a3 < a8
  · rw [if_pos c9] at h
    refine hq_icT rfl (hq_c_gt_T c9) ?_
    refine hq_p 2 122 [some (.ref 159), some (.ref k1), some (.int a2), some (.int a3), some (.ref 160), some (.ref k5), some (.ref k6), some (.int a7), some (.int (0 : Int32))] [] (fun n h => rfl) ?_
    exact f_X7_lanesOfRound_L122_run hd e60 m1_ h
  · rw [if_neg c9] at h
    refine hq_icF rfl (hq_c_gt_F c9) ?_
    refine hq_p 2 96 [some (.ref 159), some (.ref k1), some (.int a2), some (.int a3), some (.ref 160), some (.ref k5), some (.ref k6), some (.int a7), some (.int a8)] [.int a8, .ref k5] (fun n h => rfl) ?_
    obtain ⟨x17, hx17, h⟩ := hq_bind h
    refine hq_ialoadA rfl hx17 ?_
    obtain ⟨z18, hz18, h⟩ := hq_bind h
    suffices hT : hq_R (mm_O xs) d mc_X7_lanesOfRound 113 [some (.ref 159), some (.ref k1), some (.int a2), some (.int a3), some (.ref 160), some (.ref k5), some (.ref k6), some (.int a7), some (.int a8)] [] z18 g (some (.int y.1)) y.2 from by
      clear h
      have h := hz18
      by_cases c19 : x17 = 0
      · rw [if_pos c19] at h
        refine hq_izT rfl (hq_c_eq_T c19) ?_
        cases h
        exact hT
      · rw [if_neg c19] at h
        refine hq_izF rfl (hq_c_eq_F c19) ?_
        refine hq_p 4 107 [some (.ref 159), some (.ref k1), some (.int a2), some (.int a3), some (.ref 160), some (.ref k5), some (.ref k6), some (.int a7), some (.int a8)] [.int a8, .ref k5, .int a8, .ref k1] (fun n h => rfl) ?_
        obtain ⟨x20, hx20, h⟩ := hq_bind h
        refine hq_ialoadA rfl hx20 ?_
        refine hq_p 1 110 [some (.ref 159), some (.ref k1), some (.int a2), some (.int a3), some (.ref 160), some (.ref k5), some (.ref k6), some (.int a7), some (.int a8)] [.ref k6, .int x20, .int a8, .ref k1] (fun n h => rfl) ?_
        obtain ⟨s21, hs21, h⟩ := hq_bind h
        refine hq_ist rfl rfl rfl (Nat.le_trans (by decide) hd) rfl (f_X7_goOn_run (Nat.le_sub_of_add_le (Nat.le_trans (by decide) hd)) m1_ hs21) rfl ?_
        cases h
        exact hT
    refine hq_p 2 86 [some (.ref 159), some (.ref k1), some (.int a2), some (.int a3), some (.ref 160), some (.ref k5), some (.ref k6), some (.int a7), some (.int (a8 + (1 : Int32)))] [] (fun n h => rfl) ?_
    exact e86 k1 a2 a3 k5 k6 a7 (a8 + (1 : Int32)) z18 m1_ h
theorem f_X7_lanesOfRound_L86_run {xs : List Int32} {n m d g : Nat} {k1 : Nat} {a2 : Int32} {a3 : Int32} {k5 : Nat} {k6 : Nat} {a7 : Int32} {a8 : Int32} {q60 : Nat → Int32 → Int32 → Nat → Nat → Int32 → hq_S → Option (Int32 × hq_S)} {s : hq_S} {y : (Int32 × hq_S)} (hd : 2 ≤ d) (e60 : ∀ (k1 : Nat) (a2 : Int32) (a3 : Int32) (k5 : Nat) (k6 : Nat) (a7 : Int32) (o8 : Option Value) (s : hq_S) (m1_ : hq_isS k1), q60 k1 a2 a3 k5 k6 a7 s = some y → hq_R (mm_O xs) d mc_X7_lanesOfRound 60 [some (.ref 159), some (.ref k1), some (.int a2), some (.int a3), some (.ref 160), some (.ref k5), some (.ref k6), some (.int a7), o8] [] s g (some (.int y.1)) y.2) (m1_ : hq_isS k1) (h : f_X7_lanesOfRound_L86 n q60 m k1 a2 a3 k5 k6 a7 a8 s = some y) : hq_R (mm_O xs) d mc_X7_lanesOfRound 86 [some (.ref 159), some (.ref k1), some (.int a2), some (.int a3), some (.ref 160), some (.ref k5), some (.ref k6), some (.int a7), some (.int a8)] [] s g (some (.int y.1)) y.2 := by
  induction m generalizing k1 a2 a3 k5 k6 a7 a8 s with
  | zero => cases h
  | succ m ih => exact f_X7_lanesOfRound_L86_Brun (n := n) hd e60 (fun k1 a2 a3 k5 k6 a7 a8 s m1_ h => ih m1_ h) m1_ h
def f_X7_lanesOfRound_L60_B (n : Nat) (q60 : Nat → Int32 → Int32 → Nat → Nat → Int32 → hq_S → Option (Int32 × hq_S)) (k1 : Nat) (a2 : Int32) (a3 : Int32) (k5 : Nat) (k6 : Nat) (a7 : Int32) (s : hq_S) : Option (Int32 × hq_S) := if (100 : Int32) < a7 then some ((-2 : Int32), s) else (hq_ldiA s k5 a3).bind fun x6 => if x6 = 0 then (f_J7_fill_53178 n k6 (0 : Int32) s).bind fun s8 => f_X7_lanesOfRound_L86 n q60 n k1 a2 a3 k5 k6 a7 (0 : Int32) s8 else some (a7, s)
def f_X7_lanesOfRound_L60 (n : Nat) (m : Nat) : Nat → Int32 → Int32 → Nat → Nat → Int32 → hq_S → Option (Int32 × hq_S) := Nat.rec (fun _ _ _ _ _ _ _ => none) (fun _ q => f_X7_lanesOfRound_L60_B n q) m
theorem f_X7_lanesOfRound_L60_Brun {xs : List Int32} {n d g : Nat} {k1 : Nat} {a2 : Int32} {a3 : Int32} {k5 : Nat} {k6 : Nat} {a7 : Int32} {o8 : Option Value} {q60 : Nat → Int32 → Int32 → Nat → Nat → Int32 → hq_S → Option (Int32 × hq_S)} {s : hq_S} {y : (Int32 × hq_S)} (hd : 2 ≤ d) (e60 : ∀ (k1 : Nat) (a2 : Int32) (a3 : Int32) (k5 : Nat) (k6 : Nat) (a7 : Int32) (o8 : Option Value) (s : hq_S) (m1_ : hq_isS k1), q60 k1 a2 a3 k5 k6 a7 s = some y → hq_R (mm_O xs) d mc_X7_lanesOfRound 60 [some (.ref 159), some (.ref k1), some (.int a2), some (.int a3), some (.ref 160), some (.ref k5), some (.ref k6), some (.int a7), o8] [] s g (some (.int y.1)) y.2) (m1_ : hq_isS k1) (h : f_X7_lanesOfRound_L60_B n q60 k1 a2 a3 k5 k6 a7 s = some y) : hq_R (mm_O xs) d mc_X7_lanesOfRound 60 [some (.ref 159), some (.ref k1), some (.int a2), some (.int a3), some (.ref 160), some (.ref k5), some (.ref k6), some (.int a7), o8] [] s g (some (.int y.1)) y.2 := by
  unfold f_X7_lanesOfRound_L60_B at h
  refine hq_p 1 62 [some (.ref 159), some (.ref k1), some (.int a2), some (.int a3), some (.ref 160), some (.ref k5), some (.ref k6), some (.int a7), o8] [.int a7] (fun n h => rfl) ?_
  refine hq_bip (100 : Int32) rfl (by decide) ?_
  by_cases c5 : (100 : Int32) < a7
  · rw [if_pos c5] at h
    refine hq_icT rfl (hq_c_gt_T c5) ?_
    refine hq_bip (-2 : Int32) rfl (by decide) ?_
    have h := Option.some.inj h
    subst h
    exact ⟨1, rfl⟩
  · rw [if_neg c5] at h
    refine hq_icF rfl (hq_c_gt_F c5) ?_
    refine hq_p 2 70 [some (.ref 159), some (.ref k1), some (.int a2), some (.int a3), some (.ref 160), some (.ref k5), some (.ref k6), some (.int a7), o8] [.int a3, .ref k5] (fun n h => rfl) ?_
    obtain ⟨x6, hx6, h⟩ := hq_bind h
    refine hq_ialoadA rfl hx6 ?_
    by_cases c7 : x6 = 0
    · rw [if_pos c7] at h
      refine hq_izT rfl (hq_c_eq_T c7) ?_
      refine hq_p 2 80 [some (.ref 159), some (.ref k1), some (.int a2), some (.int a3), some (.ref 160), some (.ref k5), some (.ref k6), some (.int a7), o8] [.int (0 : Int32), .ref k6] (fun n h => rfl) ?_
      obtain ⟨s8, hs8, h⟩ := hq_bind h
      refine hq_ist rfl rfl rfl (Nat.le_trans (by decide) hd) rfl (f_J7_fill_53178_run (Nat.le_sub_of_add_le (Nat.le_trans (by decide) hd)) hs8) rfl ?_
      refine hq_p 2 86 [some (.ref 159), some (.ref k1), some (.int a2), some (.int a3), some (.ref 160), some (.ref k5), some (.ref k6), some (.int a7), some (.int (0 : Int32))] [] (fun n h => rfl) ?_
      exact f_X7_lanesOfRound_L86_run hd e60 m1_ h
    · rw [if_neg c7] at h
      refine hq_izF rfl (hq_c_eq_F c7) ?_
      refine hq_p 1 76 [some (.ref 159), some (.ref k1), some (.int a2), some (.int a3), some (.ref 160), some (.ref k5), some (.ref k6), some (.int a7), o8] [.int a7] (fun n h => rfl) ?_
      have h := Option.some.inj h
      subst h
      exact ⟨1, rfl⟩
theorem f_X7_lanesOfRound_L60_run {xs : List Int32} {n m d g : Nat} {k1 : Nat} {a2 : Int32} {a3 : Int32} {k5 : Nat} {k6 : Nat} {a7 : Int32} {o8 : Option Value} {s : hq_S} {y : (Int32 × hq_S)} (hd : 2 ≤ d) (m1_ : hq_isS k1) (h : f_X7_lanesOfRound_L60 n m k1 a2 a3 k5 k6 a7 s = some y) : hq_R (mm_O xs) d mc_X7_lanesOfRound 60 [some (.ref 159), some (.ref k1), some (.int a2), some (.int a3), some (.ref 160), some (.ref k5), some (.ref k6), some (.int a7), o8] [] s g (some (.int y.1)) y.2 := by
  induction m generalizing k1 a2 a3 k5 k6 a7 o8 s with
  | zero => cases h
  | succ m ih => exact f_X7_lanesOfRound_L60_Brun (n := n) hd (fun k1 a2 a3 k5 k6 a7 o8 s m1_ h => ih m1_ h) m1_ h
def f_X7_lanesOfRound (n : Nat) (k1 : Nat) (a2 : Int32) (s : hq_S) : Option (Int32 × hq_S) := (f_J7_fill_53178 n 160 (0 : Int32) s).bind fun s1 => (f_J7_fill_53178 n 161 (0 : Int32) s1).bind fun s2 => (hq_st s2 160 1024 ((1 : Int32) <<< (a2 &&& 31)) ((1 : Int32) <<< (a2 &&& 31))).bind fun s3 => (hq_st s3 161 1024 ((1 : Int32) <<< (a2 &&& 31)) ((1 : Int32) <<< (a2 &&& 31))).bind fun s4 => f_X7_lanesOfRound_L60 n n k1 a2 (((1 : Int32) <<< ((hq_gi s k1 0) &&& 31)) - (1 : Int32)) 161 162 (0 : Int32) s4
theorem f_X7_lanesOfRound_run {xs : List Int32} {n d g : Nat} {k1 : Nat} {a2 : Int32} {s : hq_S} {y : (Int32 × hq_S)} (hd : 2 ≤ d) (m1_ : hq_isS k1) (h : f_X7_lanesOfRound n k1 a2 s = some y) : hq_R (mm_O xs) d mc_X7_lanesOfRound 0 [some (.ref 159), some (.ref k1), some (.int a2), none, none, none, none, none, none] [] s g (some (.int y.1)) y.2 := by
  unfold f_X7_lanesOfRound at h
  refine hq_p 2 2 [some (.ref 159), some (.ref k1), some (.int a2), none, none, none, none, none, none] [.ref k1, .int (1 : Int32)] (fun n h => rfl) ?_
  refine hq_gf (x := .int (hq_gi s k1 0)) rfl (hq_shS m1_) rfl rfl rfl ?_
  refine hq_p 5 10 [some (.ref 159), some (.ref k1), some (.int a2), some (.int (((1 : Int32) <<< ((hq_gi s k1 0) &&& 31)) - (1 : Int32))), none, none, none, none, none] [.ref 159] (fun n h => rfl) ?_
  refine hq_gf (x := .ref 160) rfl rfl rfl rfl rfl ?_
  refine hq_p 2 16 [some (.ref 159), some (.ref k1), some (.int a2), some (.int (((1 : Int32) <<< ((hq_gi s k1 0) &&& 31)) - (1 : Int32))), some (.ref 160), none, none, none, none] [.ref 159] (fun n h => rfl) ?_
  refine hq_gf (x := .ref 161) rfl rfl rfl rfl rfl ?_
  refine hq_p 2 22 [some (.ref 159), some (.ref k1), some (.int a2), some (.int (((1 : Int32) <<< ((hq_gi s k1 0) &&& 31)) - (1 : Int32))), some (.ref 160), some (.ref 161), none, none, none] [.ref 159] (fun n h => rfl) ?_
  refine hq_gf (x := .ref 162) rfl rfl rfl rfl rfl ?_
  refine hq_p 3 30 [some (.ref 159), some (.ref k1), some (.int a2), some (.int (((1 : Int32) <<< ((hq_gi s k1 0) &&& 31)) - (1 : Int32))), some (.ref 160), some (.ref 161), some (.ref 162), none, none] [.int (0 : Int32), .ref 160] (fun n h => rfl) ?_
  obtain ⟨s1, hs1, h⟩ := hq_bind h
  refine hq_ist rfl rfl rfl (Nat.le_trans (by decide) hd) rfl (f_J7_fill_53178_run (Nat.le_sub_of_add_le (Nat.le_trans (by decide) hd)) hs1) rfl ?_
  refine hq_p 2 36 [some (.ref 159), some (.ref k1), some (.int a2), some (.int (((1 : Int32) <<< ((hq_gi s k1 0) &&& 31)) - (1 : Int32))), some (.ref 160), some (.ref 161), some (.ref 162), none, none] [.int (0 : Int32), .ref 161] (fun n h => rfl) ?_
  obtain ⟨s2, hs2, h⟩ := hq_bind h
  refine hq_ist rfl rfl rfl (Nat.le_trans (by decide) hd) rfl (f_J7_fill_53178_run (Nat.le_sub_of_add_le (Nat.le_trans (by decide) hd)) hs2) rfl ?_
  refine hq_p 7 47 [some (.ref 159), some (.ref k1), some (.int a2), some (.int (((1 : Int32) <<< ((hq_gi s k1 0) &&& 31)) - (1 : Int32))), some (.ref 160), some (.ref 161), some (.ref 162), none, none] [.int ((1 : Int32) <<< (a2 &&& 31)), .int ((1 : Int32) <<< (a2 &&& 31)), .ref 160] (fun n h => rfl) ?_
  obtain ⟨s3, hs3, h⟩ := hq_bind h
  refine hq_iastore rfl rfl List.length_replicate hs3 ?_
  refine hq_p 7 56 [some (.ref 159), some (.ref k1), some (.int a2), some (.int (((1 : Int32) <<< ((hq_gi s k1 0) &&& 31)) - (1 : Int32))), some (.ref 160), some (.ref 161), some (.ref 162), none, none] [.int ((1 : Int32) <<< (a2 &&& 31)), .int ((1 : Int32) <<< (a2 &&& 31)), .ref 161] (fun n h => rfl) ?_
  obtain ⟨s4, hs4, h⟩ := hq_bind h
  refine hq_iastore rfl rfl List.length_replicate hs4 ?_
  refine hq_p 2 60 [some (.ref 159), some (.ref k1), some (.int a2), some (.int (((1 : Int32) <<< ((hq_gi s k1 0) &&& 31)) - (1 : Int32))), some (.ref 160), some (.ref 161), some (.ref 162), some (.int (0 : Int32)), none] [] (fun n h => rfl) ?_
  exact f_X7_lanesOfRound_L60_run hd m1_ h
def f_X8_measureFrom_L56_B (n : Nat) (q41 : Nat → Int32 → Int32 → Int32 → Int32 → Int32 → hq_S → Option hq_S) (q56 : Nat → Int32 → Int32 → Int32 → Int32 → Int32 → Int32 → hq_S → Option hq_S) (k0 : Nat) (a1 : Int32) (a2 : Int32) (a3 : Int32) (a4 : Int32) (a5 : Int32) (a6 : Int32) (s : hq_S) : Option hq_S := if a6 < (hq_gi s k0 0) then (if ((a4 >>> (a6 &&& 31)) &&& (1 : Int32)) = (1 : Int32) then some a5 else (hq_ld s (k0 + 2) 100 (a2 + a6)).bind fun x8 => some x8).bind fun z6 => (hq_st s (k0 + 2) 100 (a2 + a6) z6).bind fun s9 => q56 k0 a1 a2 a3 a4 a5 (a6 + (1 : Int32)) s9 else (f_X8_nextToAny n k0 a4 s).bind fun y5 => q41 k0 a1 a2 (a3 ||| a4) (y5.1 &&& ((a3 ||| a4) ^^^ (-1 : Int32))) (a5 + (1 : Int32)) y5.2
def f_X8_measureFrom_L56 (n : Nat) (q41 : Nat → Int32 → Int32 → Int32 → Int32 → Int32 → hq_S → Option hq_S) (m : Nat) : Nat → Int32 → Int32 → Int32 → Int32 → Int32 → Int32 → hq_S → Option hq_S := Nat.rec (fun _ _ _ _ _ _ _ _ => none) (fun _ q => f_X8_measureFrom_L56_B n q41 q) m
theorem f_X8_measureFrom_L56_Brun {xs : List Int32} {n d g : Nat} {k0 : Nat} {a1 : Int32} {a2 : Int32} {a3 : Int32} {a4 : Int32} {a5 : Int32} {a6 : Int32} {q41 : Nat → Int32 → Int32 → Int32 → Int32 → Int32 → hq_S → Option hq_S} {q56 : Nat → Int32 → Int32 → Int32 → Int32 → Int32 → Int32 → hq_S → Option hq_S} {s : hq_S} {y : hq_S} (hd : 1 ≤ d) (e41 : ∀ (k0 : Nat) (a1 : Int32) (a2 : Int32) (a3 : Int32) (a4 : Int32) (a5 : Int32) (o6 : Option Value) (s : hq_S) (m0_ : hq_isS k0), q41 k0 a1 a2 a3 a4 a5 s = some y → hq_R (mm_O xs) d mc_X8_measureFrom 41 [some (.ref k0), some (.int a1), some (.int a2), some (.int a3), some (.int a4), some (.int a5), o6] [] s g none y) (e56 : ∀ (k0 : Nat) (a1 : Int32) (a2 : Int32) (a3 : Int32) (a4 : Int32) (a5 : Int32) (a6 : Int32) (s : hq_S) (m0_ : hq_isS k0), q56 k0 a1 a2 a3 a4 a5 a6 s = some y → hq_R (mm_O xs) d mc_X8_measureFrom 56 [some (.ref k0), some (.int a1), some (.int a2), some (.int a3), some (.int a4), some (.int a5), some (.int a6)] [] s g none y) (m0_ : hq_isS k0) (h : f_X8_measureFrom_L56_B n q41 q56 k0 a1 a2 a3 a4 a5 a6 s = some y) : hq_R (mm_O xs) d mc_X8_measureFrom 56 [some (.ref k0), some (.int a1), some (.int a2), some (.int a3), some (.int a4), some (.int a5), some (.int a6)] [] s g none y := by
  unfold f_X8_measureFrom_L56_B at h
  refine hq_p 2 59 [some (.ref k0), some (.int a1), some (.int a2), some (.int a3), some (.int a4), some (.int a5), some (.int a6)] [.ref k0, .int a6] (fun n h => rfl) ?_
  refine hq_gf (x := .int (hq_gi s k0 0)) rfl (hq_shS m0_) rfl rfl rfl ?_
  by_cases c4 : a6 < (hq_gi s k0 0)
  · rw [if_pos c4] at h
    refine hq_icF rfl (hq_c_ge_F c4) ?_
    refine hq_p 1 66 [some (.ref k0), some (.int a1), some (.int a2), some (.int a3), some (.int a4), some (.int a5), some (.int a6)] [.ref k0] (fun n h => rfl) ?_
    refine hq_gf (x := .ref (k0 + 2)) rfl (hq_shS m0_) rfl rfl (hq_fldr (hq_shS_u m0_)) ?_
    refine hq_p 9 81 [some (.ref k0), some (.int a1), some (.int a2), some (.int a3), some (.int a4), some (.int a5), some (.int a6)] [.int (1 : Int32), .int ((a4 >>> (a6 &&& 31)) &&& (1 : Int32)), .int (a2 + a6), .ref (k0 + 2)] (fun n h => rfl) ?_
    obtain ⟨z6, hz6, h⟩ := hq_bind h
    suffices hT : hq_R (mm_O xs) d mc_X8_measureFrom 98 [some (.ref k0), some (.int a1), some (.int a2), some (.int a3), some (.int a4), some (.int a5), some (.int a6)] [.int z6, .int (a2 + a6), .ref (k0 + 2)] s g none y from by
      clear h
      have h := hz6
      by_cases c7 : ((a4 >>> (a6 &&& 31)) &&& (1 : Int32)) = (1 : Int32)
      · rw [if_pos c7] at h
        refine hq_icF rfl (hq_c_ne_F c7) ?_
        refine hq_p 2 98 [some (.ref k0), some (.int a1), some (.int a2), some (.int a3), some (.int a4), some (.int a5), some (.int a6)] [.int a5, .int (a2 + a6), .ref (k0 + 2)] (fun n h => rfl) ?_
        cases h
        exact hT
      · rw [if_neg c7] at h
        refine hq_icT rfl (hq_c_ne_T c7) ?_
        refine hq_p 1 90 [some (.ref k0), some (.int a1), some (.int a2), some (.int a3), some (.int a4), some (.int a5), some (.int a6)] [.ref k0, .int (a2 + a6), .ref (k0 + 2)] (fun n h => rfl) ?_
        refine hq_gf (x := .ref (k0 + 2)) rfl (hq_shS m0_) rfl rfl (hq_fldr (hq_shS_u m0_)) ?_
        refine hq_p 3 97 [some (.ref k0), some (.int a1), some (.int a2), some (.int a3), some (.int a4), some (.int a5), some (.int a6)] [.int (a2 + a6), .ref (k0 + 2), .int (a2 + a6), .ref (k0 + 2)] (fun n h => rfl) ?_
        obtain ⟨x8, hx8, h⟩ := hq_bind h
        refine hq_iaload rfl (hq_shS_2 m0_) List.length_replicate hx8 ?_
        cases h
        exact hT
    obtain ⟨s9, hs9, h⟩ := hq_bind h
    refine hq_iastore rfl (hq_shS_2 m0_) List.length_replicate hs9 ?_
    refine hq_p 2 56 [some (.ref k0), some (.int a1), some (.int a2), some (.int a3), some (.int a4), some (.int a5), some (.int (a6 + (1 : Int32)))] [] (fun n h => rfl) ?_
    exact e56 k0 a1 a2 a3 a4 a5 (a6 + (1 : Int32)) s9 m0_ h
  · rw [if_neg c4] at h
    refine hq_icT rfl (hq_c_ge_T c4) ?_
    refine hq_p 6 113 [some (.ref k0), some (.int a1), some (.int a2), some (.int (a3 ||| a4)), some (.int a4), some (.int a5), some (.int a6)] [.int a4, .ref k0] (fun n h => rfl) ?_
    obtain ⟨y5, hy5, h⟩ := hq_bind h
    refine hq_inv rfl rfl (Nat.le_trans (by decide) hd) rfl rfl (hq_rcv (hq_shS m0_) rfl) (f_X8_nextToAny_run (Nat.le_sub_of_add_le (Nat.le_trans (by decide) hd)) m0_ hy5) rfl ?_
    refine hq_p 1 117 [some (.ref k0), some (.int a1), some (.int a2), some (.int (a3 ||| a4)), some (.int a4), some (.int a5), some (.int a6)] [.int (a3 ||| a4), .int y5.1] (fun n h => rfl) ?_
    refine hq_icn (-1 : Int32) rfl (by decide) ?_
    refine hq_p 5 41 [some (.ref k0), some (.int a1), some (.int a2), some (.int (a3 ||| a4)), some (.int (y5.1 &&& ((a3 ||| a4) ^^^ (-1 : Int32)))), some (.int (a5 + (1 : Int32))), some (.int a6)] [] (fun n h => rfl) ?_
    exact e41 k0 a1 a2 (a3 ||| a4) (y5.1 &&& ((a3 ||| a4) ^^^ (-1 : Int32))) (a5 + (1 : Int32)) _ y5.2 m0_ h
theorem f_X8_measureFrom_L56_run {xs : List Int32} {n m d g : Nat} {k0 : Nat} {a1 : Int32} {a2 : Int32} {a3 : Int32} {a4 : Int32} {a5 : Int32} {a6 : Int32} {q41 : Nat → Int32 → Int32 → Int32 → Int32 → Int32 → hq_S → Option hq_S} {s : hq_S} {y : hq_S} (hd : 1 ≤ d) (e41 : ∀ (k0 : Nat) (a1 : Int32) (a2 : Int32) (a3 : Int32) (a4 : Int32) (a5 : Int32) (o6 : Option Value) (s : hq_S) (m0_ : hq_isS k0), q41 k0 a1 a2 a3 a4 a5 s = some y → hq_R (mm_O xs) d mc_X8_measureFrom 41 [some (.ref k0), some (.int a1), some (.int a2), some (.int a3), some (.int a4), some (.int a5), o6] [] s g none y) (m0_ : hq_isS k0) (h : f_X8_measureFrom_L56 n q41 m k0 a1 a2 a3 a4 a5 a6 s = some y) : hq_R (mm_O xs) d mc_X8_measureFrom 56 [some (.ref k0), some (.int a1), some (.int a2), some (.int a3), some (.int a4), some (.int a5), some (.int a6)] [] s g none y := by
  induction m generalizing k0 a1 a2 a3 a4 a5 a6 s with
  | zero => cases h
  | succ m ih => exact f_X8_measureFrom_L56_Brun (n := n) hd e41 (fun k0 a1 a2 a3 a4 a5 a6 s m0_ h => ih m0_ h) m0_ h
def f_X8_measureFrom_L41_B (n : Nat) (q41 : Nat → Int32 → Int32 → Int32 → Int32 → Int32 → hq_S → Option hq_S) (k0 : Nat) (a1 : Int32) (a2 : Int32) (a3 : Int32) (a4 : Int32) (a5 : Int32) (s : hq_S) : Option hq_S := if a5 < (10 : Int32) then if a4 = 0 then some s else f_X8_measureFrom_L56 n q41 n k0 a1 a2 a3 a4 a5 (0 : Int32) s else some s
def f_X8_measureFrom_L41 (n : Nat) (m : Nat) : Nat → Int32 → Int32 → Int32 → Int32 → Int32 → hq_S → Option hq_S := Nat.rec (fun _ _ _ _ _ _ _ => none) (fun _ q => f_X8_measureFrom_L41_B n q) m
theorem f_X8_measureFrom_L41_Brun {xs : List Int32} {n d g : Nat} {k0 : Nat} {a1 : Int32} {a2 : Int32} {a3 : Int32} {a4 : Int32} {a5 : Int32} {o6 : Option Value} {q41 : Nat → Int32 → Int32 → Int32 → Int32 → Int32 → hq_S → Option hq_S} {s : hq_S} {y : hq_S} (hd : 1 ≤ d) (e41 : ∀ (k0 : Nat) (a1 : Int32) (a2 : Int32) (a3 : Int32) (a4 : Int32) (a5 : Int32) (o6 : Option Value) (s : hq_S) (m0_ : hq_isS k0), q41 k0 a1 a2 a3 a4 a5 s = some y → hq_R (mm_O xs) d mc_X8_measureFrom 41 [some (.ref k0), some (.int a1), some (.int a2), some (.int a3), some (.int a4), some (.int a5), o6] [] s g none y) (m0_ : hq_isS k0) (h : f_X8_measureFrom_L41_B n q41 k0 a1 a2 a3 a4 a5 s = some y) : hq_R (mm_O xs) d mc_X8_measureFrom 41 [some (.ref k0), some (.int a1), some (.int a2), some (.int a3), some (.int a4), some (.int a5), o6] [] s g none y := by
  unfold f_X8_measureFrom_L41_B at h
  refine hq_p 2 45 [some (.ref k0), some (.int a1), some (.int a2), some (.int a3), some (.int a4), some (.int a5), o6] [.int (10 : Int32), .int a5] (fun n h => rfl) ?_
  by_cases c2 : a5 < (10 : Int32)
  · rw [if_pos c2] at h
    refine hq_icF rfl (hq_c_ge_F c2) ?_
    refine hq_p 1 50 [some (.ref k0), some (.int a1), some (.int a2), some (.int a3), some (.int a4), some (.int a5), o6] [.int a4] (fun n h => rfl) ?_
    by_cases c3 : a4 = 0
    · rw [if_pos c3] at h
      refine hq_izT rfl (hq_c_eq_T c3) ?_
      have h := Option.some.inj h
      subst h
      exact ⟨1, rfl⟩
    · rw [if_neg c3] at h
      refine hq_izF rfl (hq_c_eq_F c3) ?_
      refine hq_p 2 56 [some (.ref k0), some (.int a1), some (.int a2), some (.int a3), some (.int a4), some (.int a5), some (.int (0 : Int32))] [] (fun n h => rfl) ?_
      exact f_X8_measureFrom_L56_run hd e41 m0_ h
  · rw [if_neg c2] at h
    refine hq_icT rfl (hq_c_ge_T c2) ?_
    have h := Option.some.inj h
    subst h
    exact ⟨1, rfl⟩
theorem f_X8_measureFrom_L41_run {xs : List Int32} {n m d g : Nat} {k0 : Nat} {a1 : Int32} {a2 : Int32} {a3 : Int32} {a4 : Int32} {a5 : Int32} {o6 : Option Value} {s : hq_S} {y : hq_S} (hd : 1 ≤ d) (m0_ : hq_isS k0) (h : f_X8_measureFrom_L41 n m k0 a1 a2 a3 a4 a5 s = some y) : hq_R (mm_O xs) d mc_X8_measureFrom 41 [some (.ref k0), some (.int a1), some (.int a2), some (.int a3), some (.int a4), some (.int a5), o6] [] s g none y := by
  induction m generalizing k0 a1 a2 a3 a4 a5 o6 s with
  | zero => cases h
  | succ m ih => exact f_X8_measureFrom_L41_Brun (n := n) hd (fun k0 a1 a2 a3 a4 a5 o6 s m0_ h => ih m0_ h) m0_ h
def f_X8_measureFrom_L7_B (n : Nat) (q7 : Nat → Int32 → Int32 → Int32 → hq_S → Option hq_S) (k0 : Nat) (a1 : Int32) (a2 : Int32) (a3 : Int32) (s : hq_S) : Option hq_S := if a3 < (hq_gi s k0 0) then (hq_st s (k0 + 2) 100 (a2 + a3) (99 : Int32)).bind fun s10 => q7 k0 a1 a2 (a3 + (1 : Int32)) s10 else f_X8_measureFrom_L41 n n k0 a1 a2 (0 : Int32) ((1 : Int32) <<< (a1 &&& 31)) (0 : Int32) s
def f_X8_measureFrom_L7 (n : Nat) (m : Nat) : Nat → Int32 → Int32 → Int32 → hq_S → Option hq_S := Nat.rec (fun _ _ _ _ _ => none) (fun _ q => f_X8_measureFrom_L7_B n q) m
theorem f_X8_measureFrom_L7_Brun {xs : List Int32} {n d g : Nat} {k0 : Nat} {a1 : Int32} {a2 : Int32} {a3 : Int32} {q7 : Nat → Int32 → Int32 → Int32 → hq_S → Option hq_S} {s : hq_S} {y : hq_S} (hd : 1 ≤ d) (e7 : ∀ (k0 : Nat) (a1 : Int32) (a2 : Int32) (a3 : Int32) (s : hq_S) (m0_ : hq_isS k0), q7 k0 a1 a2 a3 s = some y → hq_R (mm_O xs) d mc_X8_measureFrom 7 [some (.ref k0), some (.int a1), some (.int a2), some (.int a3), none, none, none] [] s g none y) (m0_ : hq_isS k0) (h : f_X8_measureFrom_L7_B n q7 k0 a1 a2 a3 s = some y) : hq_R (mm_O xs) d mc_X8_measureFrom 7 [some (.ref k0), some (.int a1), some (.int a2), some (.int a3), none, none, none] [] s g none y := by
  unfold f_X8_measureFrom_L7_B at h
  refine hq_p 2 9 [some (.ref k0), some (.int a1), some (.int a2), some (.int a3), none, none, none] [.ref k0, .int a3] (fun n h => rfl) ?_
  refine hq_gf (x := .int (hq_gi s k0 0)) rfl (hq_shS m0_) rfl rfl rfl ?_
  by_cases c1 : a3 < (hq_gi s k0 0)
  · rw [if_pos c1] at h
    refine hq_icF rfl (hq_c_ge_F c1) ?_
    refine hq_p 1 16 [some (.ref k0), some (.int a1), some (.int a2), some (.int a3), none, none, none] [.ref k0] (fun n h => rfl) ?_
    refine hq_gf (x := .ref (k0 + 2)) rfl (hq_shS m0_) rfl rfl (hq_fldr (hq_shS_u m0_)) ?_
    refine hq_p 3 22 [some (.ref k0), some (.int a1), some (.int a2), some (.int a3), none, none, none] [.int (a2 + a3), .ref (k0 + 2)] (fun n h => rfl) ?_
    refine hq_bip (99 : Int32) rfl (by decide) ?_
    obtain ⟨s10, hs10, h⟩ := hq_bind h
    refine hq_iastore rfl (hq_shS_2 m0_) List.length_replicate hs10 ?_
    refine hq_p 2 7 [some (.ref k0), some (.int a1), some (.int a2), some (.int (a3 + (1 : Int32))), none, none, none] [] (fun n h => rfl) ?_
    exact e7 k0 a1 a2 (a3 + (1 : Int32)) s10 m0_ h
  · rw [if_neg c1] at h
    refine hq_icT rfl (hq_c_ge_T c1) ?_
    refine hq_p 8 41 [some (.ref k0), some (.int a1), some (.int a2), some (.int (0 : Int32)), some (.int ((1 : Int32) <<< (a1 &&& 31))), some (.int (0 : Int32)), none] [] (fun n h => rfl) ?_
    exact f_X8_measureFrom_L41_run hd m0_ h
theorem f_X8_measureFrom_L7_run {xs : List Int32} {n m d g : Nat} {k0 : Nat} {a1 : Int32} {a2 : Int32} {a3 : Int32} {s : hq_S} {y : hq_S} (hd : 1 ≤ d) (m0_ : hq_isS k0) (h : f_X8_measureFrom_L7 n m k0 a1 a2 a3 s = some y) : hq_R (mm_O xs) d mc_X8_measureFrom 7 [some (.ref k0), some (.int a1), some (.int a2), some (.int a3), none, none, none] [] s g none y := by
  induction m generalizing k0 a1 a2 a3 s with
  | zero => cases h
  | succ m ih => exact f_X8_measureFrom_L7_Brun (n := n) hd (fun k0 a1 a2 a3 s m0_ h => ih m0_ h) m0_ h
def f_X8_measureFrom (n : Nat) (k0 : Nat) (a1 : Int32) (s : hq_S) : Option hq_S := f_X8_measureFrom_L7 n n k0 a1 (a1 * (10 : Int32)) (0 : Int32) s
theorem f_X8_measureFrom_run {xs : List Int32} {n d g : Nat} {k0 : Nat} {a1 : Int32} {s : hq_S} {y : hq_S} (hd : 1 ≤ d) (m0_ : hq_isS k0) (h : f_X8_measureFrom n k0 a1 s = some y) : hq_R (mm_O xs) d mc_X8_measureFrom 0 [some (.ref k0), some (.int a1), none, none, none, none, none] [] s g none y := by
  unfold f_X8_measureFrom at h
  refine hq_p 6 7 [some (.ref k0), some (.int a1), some (.int (a1 * (10 : Int32))), some (.int (0 : Int32)), none, none, none] [] (fun n h => rfl) ?_
  exact f_X8_measureFrom_L7_run hd m0_ h
def f_X8_build_L127_B (n : Nat) (q127 : Nat → Nat → Int32 → Int32 → Int32 → hq_S → Option hq_S) (k0 : Nat) (k1 : Nat) (a2 : Int32) (a3 : Int32) (a4 : Int32) (s : hq_S) : Option hq_S := if a4 < (hq_gi s k0 0) then (f_X8_measureFrom n k0 a4 s).bind fun s5 => q127 k0 k1 a2 a3 (a4 + (1 : Int32)) s5 else some s
def f_X8_build_L127 (n : Nat) (m : Nat) : Nat → Nat → Int32 → Int32 → Int32 → hq_S → Option hq_S := Nat.rec (fun _ _ _ _ _ _ => none) (fun _ q => f_X8_build_L127_B n q) m
theorem f_X8_build_L127_Brun {xs : List Int32} {n d g : Nat} {k0 : Nat} {k1 : Nat} {a2 : Int32} {a3 : Int32} {a4 : Int32} {o5 : Option Value} {q127 : Nat → Nat → Int32 → Int32 → Int32 → hq_S → Option hq_S} {s : hq_S} {y : hq_S} (hd : 2 ≤ d) (e127 : ∀ (k0 : Nat) (k1 : Nat) (a2 : Int32) (a3 : Int32) (a4 : Int32) (o5 : Option Value) (s : hq_S) (m0_ : hq_isS k0) (m1_ : hq_isT k1), q127 k0 k1 a2 a3 a4 s = some y → hq_R (mm_O xs) d mc_X8_build 127 [some (.ref k0), some (.ref k1), some (.int a2), some (.int a3), some (.int a4), o5] [] s g none y) (m0_ : hq_isS k0) (m1_ : hq_isT k1) (h : f_X8_build_L127_B n q127 k0 k1 a2 a3 a4 s = some y) : hq_R (mm_O xs) d mc_X8_build 127 [some (.ref k0), some (.ref k1), some (.int a2), some (.int a3), some (.int a4), o5] [] s g none y := by
  unfold f_X8_build_L127_B at h
  refine hq_p 2 130 [some (.ref k0), some (.ref k1), some (.int a2), some (.int a3), some (.int a4), o5] [.ref k0, .int a4] (fun n h => rfl) ?_
  refine hq_gf (x := .int (hq_gi s k0 0)) rfl (hq_shS m0_) rfl rfl rfl ?_
  by_cases c4 : a4 < (hq_gi s k0 0)
  · rw [if_pos c4] at h
    refine hq_icF rfl (hq_c_ge_F c4) ?_
    refine hq_p 2 139 [some (.ref k0), some (.ref k1), some (.int a2), some (.int a3), some (.int a4), o5] [.int a4, .ref k0] (fun n h => rfl) ?_
    obtain ⟨s5, hs5, h⟩ := hq_bind h
    refine hq_inv rfl rfl (Nat.le_trans (by decide) hd) rfl rfl (hq_rcv (hq_shS m0_) rfl) (f_X8_measureFrom_run (Nat.le_sub_of_add_le (Nat.le_trans (by decide) hd)) m0_ hs5) rfl ?_
    refine hq_p 2 127 [some (.ref k0), some (.ref k1), some (.int a2), some (.int a3), some (.int (a4 + (1 : Int32))), o5] [] (fun n h => rfl) ?_
    exact e127 k0 k1 a2 a3 (a4 + (1 : Int32)) _ s5 m0_ m1_ h
  · rw [if_neg c4] at h
    refine hq_icT rfl (hq_c_ge_T c4) ?_
    have h := Option.some.inj h
    subst h
    exact ⟨1, rfl⟩
theorem f_X8_build_L127_run {xs : List Int32} {n m d g : Nat} {k0 : Nat} {k1 : Nat} {a2 : Int32} {a3 : Int32} {a4 : Int32} {o5 : Option Value} {s : hq_S} {y : hq_S} (hd : 2 ≤ d) (m0_ : hq_isS k0) (m1_ : hq_isT k1) (h : f_X8_build_L127 n m k0 k1 a2 a3 a4 s = some y) : hq_R (mm_O xs) d mc_X8_build 127 [some (.ref k0), some (.ref k1), some (.int a2), some (.int a3), some (.int a4), o5] [] s g none y := by
  induction m generalizing k0 k1 a2 a3 a4 o5 s with
  | zero => cases h
  | succ m ih => exact f_X8_build_L127_Brun (n := n) hd (fun k0 k1 a2 a3 a4 o5 s m0_ m1_ h => ih m0_ m1_ h) m0_ m1_ h
def f_X8_build_J118 (n : Nat) (q19 : Nat → Nat → Int32 → Int32 → Int32 → hq_S → Option hq_S) (k0 : Nat) (k1 : Nat) (a2 : Int32) (a3 : Int32) (a4 : Int32) (s : hq_S) : Option hq_S := q19 k0 k1 a2 a3 (a4 + (1 : Int32)) s
theorem f_X8_build_J118_run {xs : List Int32} {n d g : Nat} {k0 : Nat} {k1 : Nat} {a2 : Int32} {a3 : Int32} {a4 : Int32} {o5 : Option Value} {q19 : Nat → Nat → Int32 → Int32 → Int32 → hq_S → Option hq_S} {s : hq_S} {y : hq_S} (hd : 2 ≤ d) (e19 : ∀ (k0 : Nat) (k1 : Nat) (a2 : Int32) (a3 : Int32) (a4 : Int32) (o5 : Option Value) (s : hq_S) (m0_ : hq_isS k0) (m1_ : hq_isT k1), q19 k0 k1 a2 a3 a4 s = some y → hq_R (mm_O xs) d mc_X8_build 19 [some (.ref k0), some (.ref k1), some (.int a2), some (.int a3), some (.int a4), o5] [] s g none y) (m0_ : hq_isS k0) (m1_ : hq_isT k1) (h : f_X8_build_J118 n q19 k0 k1 a2 a3 a4 s = some y) : hq_R (mm_O xs) d mc_X8_build 118 [some (.ref k0), some (.ref k1), some (.int a2), some (.int a3), some (.int a4), o5] [] s g none y := by
  unfold f_X8_build_J118 at h
  refine hq_p 2 19 [some (.ref k0), some (.ref k1), some (.int a2), some (.int a3), some (.int (a4 + (1 : Int32))), o5] [] (fun n h => rfl) ?_
  exact e19 k0 k1 a2 a3 (a4 + (1 : Int32)) _ s m0_ m1_ h
def f_X8_build_J41 (n : Nat) (q19 : Nat → Nat → Int32 → Int32 → Int32 → hq_S → Option hq_S) (k0 : Nat) (k1 : Nat) (a2 : Int32) (a3 : Int32) (a4 : Int32) (s : hq_S) : Option hq_S := (hq_ld s (k1 + 3) 20 a4).bind fun x8 => (hq_ld s (k0 + 1) 10 x8).bind fun x9 => (hq_ld s (k1 + 4) 20 a4).bind fun x10 => (hq_st s (k0 + 1) 10 x8 (x9 ||| ((1 : Int32) <<< (x10 &&& 31)))).bind fun s11 => (if a3 = 0 then (f_X10_isOneWay n k1 a4 s11).bind fun y14 => if y14.1 = 0 then some ((1 : Int32), y14.2) else some ((0 : Int32), y14.2) else some ((1 : Int32), s11)).bind fun z12 => (hq_ld z12.2 (k1 + 4) 20 a4).bind fun x16 => (hq_ld z12.2 (k0 + 1) 10 x16).bind fun x17 => (if z12.1 = 0 then some (0 : Int32) else (hq_ld z12.2 (k1 + 3) 20 a4).bind fun x20 => some ((1 : Int32) <<< (x20 &&& 31))).bind fun z18 => (hq_st z12.2 (k0 + 1) 10 x16 (x17 ||| z18)).bind fun s21 => f_X8_build_J118 n q19 k0 k1 a2 a3 a4 s21
theorem f_X8_build_J41_run {xs : List Int32} {n d g : Nat} {k0 : Nat} {k1 : Nat} {a2 : Int32} {a3 : Int32} {a4 : Int32} {o5 : Option Value} {q19 : Nat → Nat → Int32 → Int32 → Int32 → hq_S → Option hq_S} {s : hq_S} {y : hq_S} (hd : 2 ≤ d) (e19 : ∀ (k0 : Nat) (k1 : Nat) (a2 : Int32) (a3 : Int32) (a4 : Int32) (o5 : Option Value) (s : hq_S) (m0_ : hq_isS k0) (m1_ : hq_isT k1), q19 k0 k1 a2 a3 a4 s = some y → hq_R (mm_O xs) d mc_X8_build 19 [some (.ref k0), some (.ref k1), some (.int a2), some (.int a3), some (.int a4), o5] [] s g none y) (m0_ : hq_isS k0) (m1_ : hq_isT k1) (h : f_X8_build_J41 n q19 k0 k1 a2 a3 a4 s = some y) : hq_R (mm_O xs) d mc_X8_build 41 [some (.ref k0), some (.ref k1), some (.int a2), some (.int a3), some (.int a4), o5] [] s g none y := by
  unfold f_X8_build_J41 at h
  refine hq_p 1 42 [some (.ref k0), some (.ref k1), some (.int a2), some (.int a3), some (.int a4), o5] [.ref k0] (fun n h => rfl) ?_
  refine hq_gf (x := .ref (k0 + 1)) rfl (hq_shS m0_) rfl rfl (hq_fldr (hq_shS_u m0_)) ?_
  refine hq_p 1 46 [some (.ref k0), some (.ref k1), some (.int a2), some (.int a3), some (.int a4), o5] [.ref k1, .ref (k0 + 1)] (fun n h => rfl) ?_
  refine hq_gf (x := .ref (k1 + 3)) rfl (hq_shT m1_) rfl rfl (hq_fldr (hq_shT_u m1_)) ?_
  refine hq_p 1 51 [some (.ref k0), some (.ref k1), some (.int a2), some (.int a3), some (.int a4), o5] [.int a4, .ref (k1 + 3), .ref (k0 + 1)] (fun n h => rfl) ?_
  obtain ⟨x8, hx8, h⟩ := hq_bind h
  refine hq_iaload rfl (hq_shT_3 m1_) List.length_replicate hx8 ?_
  refine hq_p 1 53 [some (.ref k0), some (.ref k1), some (.int a2), some (.int a3), some (.int a4), o5] [.int x8, .ref (k0 + 1), .int x8, .ref (k0 + 1)] (fun n h => rfl) ?_
  obtain ⟨x9, hx9, h⟩ := hq_bind h
  refine hq_iaload rfl (hq_shS_1 m0_) List.length_replicate hx9 ?_
  refine hq_p 2 56 [some (.ref k0), some (.ref k1), some (.int a2), some (.int a3), some (.int a4), o5] [.ref k1, .int (1 : Int32), .int x9, .int x8, .ref (k0 + 1)] (fun n h => rfl) ?_
  refine hq_gf (x := .ref (k1 + 4)) rfl (hq_shT m1_) rfl rfl (hq_fldr (hq_shT_u m1_)) ?_
  refine hq_p 1 61 [some (.ref k0), some (.ref k1), some (.int a2), some (.int a3), some (.int a4), o5] [.int a4, .ref (k1 + 4), .int (1 : Int32), .int x9, .int x8, .ref (k0 + 1)] (fun n h => rfl) ?_
  obtain ⟨x10, hx10, h⟩ := hq_bind h
  refine hq_iaload rfl (hq_shT_4 m1_) List.length_replicate hx10 ?_
  refine hq_p 2 64 [some (.ref k0), some (.ref k1), some (.int a2), some (.int a3), some (.int a4), o5] [.int (x9 ||| ((1 : Int32) <<< (x10 &&& 31))), .int x8, .ref (k0 + 1)] (fun n h => rfl) ?_
  obtain ⟨s11, hs11, h⟩ := hq_bind h
  refine hq_iastore rfl (hq_shS_1 m0_) List.length_replicate hs11 ?_
  refine hq_p 1 66 [some (.ref k0), some (.ref k1), some (.int a2), some (.int a3), some (.int a4), o5] [.int a3] (fun n h => rfl) ?_
  obtain ⟨z12, hz12, h⟩ := hq_bind h
  suffices hT : hq_R (mm_O xs) d mc_X8_build 83 [some (.ref k0), some (.ref k1), some (.int a2), some (.int a3), some (.int a4), o5] [.int z12.1] z12.2 g none y from by
    clear h
    have h := hz12
    by_cases c13 : a3 = 0
    · rw [if_pos c13] at h
      refine hq_izF rfl (hq_c_ne_F c13) ?_
      refine hq_p 2 72 [some (.ref k0), some (.ref k1), some (.int a2), some (.int a3), some (.int a4), o5] [.int a4, .ref k1] (fun n h => rfl) ?_
      obtain ⟨y14, hy14, h⟩ := hq_bind h
      refine hq_inv rfl rfl (Nat.le_trans (by decide) hd) rfl rfl (hq_rcv (hq_shT m1_) rfl) (f_X10_isOneWay_run (Nat.le_sub_of_add_le (Nat.le_trans (by decide) hd)) m1_ hy14) rfl ?_
      by_cases c15 : y14.1 = 0
      · rw [if_pos c15] at h
        refine hq_izF rfl (hq_c_ne_F c15) ?_
        refine hq_p 2 83 [some (.ref k0), some (.ref k1), some (.int a2), some (.int a3), some (.int a4), o5] [.int (1 : Int32)] (fun n h => rfl) ?_
        cases h
        exact hT
      · rw [if_neg c15] at h
        refine hq_izT rfl (hq_c_ne_T c15) ?_
        refine hq_p 1 83 [some (.ref k0), some (.ref k1), some (.int a2), some (.int a3), some (.int a4), o5] [.int (0 : Int32)] (fun n h => rfl) ?_
        cases h
        exact hT
    · rw [if_neg c13] at h
      refine hq_izT rfl (hq_c_ne_T c13) ?_
      refine hq_p 2 83 [some (.ref k0), some (.ref k1), some (.int a2), some (.int a3), some (.int a4), o5] [.int (1 : Int32)] (fun n h => rfl) ?_
      cases h
      exact hT
  refine hq_p 2 86 [some (.ref k0), some (.ref k1), some (.int a2), some (.int a3), some (.int a4), some (.int z12.1)] [.ref k0] (fun n h => rfl) ?_
  refine hq_gf (x := .ref (k0 + 1)) rfl (hq_shS m0_) rfl rfl (hq_fldr (hq_shS_u m0_)) ?_
  refine hq_p 1 90 [some (.ref k0), some (.ref k1), some (.int a2), some (.int a3), some (.int a4), some (.int z12.1)] [.ref k1, .ref (k0 + 1)] (fun n h => rfl) ?_
  refine hq_gf (x := .ref (k1 + 4)) rfl (hq_shT m1_) rfl rfl (hq_fldr (hq_shT_u m1_)) ?_
  refine hq_p 1 95 [some (.ref k0), some (.ref k1), some (.int a2), some (.int a3), some (.int a4), some (.int z12.1)] [.int a4, .ref (k1 + 4), .ref (k0 + 1)] (fun n h => rfl) ?_
  obtain ⟨x16, hx16, h⟩ := hq_bind h
  refine hq_iaload rfl (hq_shT_4 m1_) List.length_replicate hx16 ?_
  refine hq_p 1 97 [some (.ref k0), some (.ref k1), some (.int a2), some (.int a3), some (.int a4), some (.int z12.1)] [.int x16, .ref (k0 + 1), .int x16, .ref (k0 + 1)] (fun n h => rfl) ?_
  obtain ⟨x17, hx17, h⟩ := hq_bind h
  refine hq_iaload rfl (hq_shS_1 m0_) List.length_replicate hx17 ?_
  refine hq_p 1 100 [some (.ref k0), some (.ref k1), some (.int a2), some (.int a3), some (.int a4), some (.int z12.1)] [.int z12.1, .int x17, .int x16, .ref (k0 + 1)] (fun n h => rfl) ?_
  obtain ⟨z18, hz18, h⟩ := hq_bind h
  suffices hT : hq_R (mm_O xs) d mc_X8_build 116 [some (.ref k0), some (.ref k1), some (.int a2), some (.int a3), some (.int a4), some (.int z12.1)] [.int z18, .int x17, .int x16, .ref (k0 + 1)] z12.2 g none y from by
    clear h
    have h := hz18
    by_cases c19 : z12.1 = 0
    · rw [if_pos c19] at h
      refine hq_izT rfl (hq_c_eq_T c19) ?_
      refine hq_p 1 116 [some (.ref k0), some (.ref k1), some (.int a2), some (.int a3), some (.int a4), some (.int z12.1)] [.int (0 : Int32), .int x17, .int x16, .ref (k0 + 1)] (fun n h => rfl) ?_
      cases h
      exact hT
    · rw [if_neg c19] at h
      refine hq_izF rfl (hq_c_eq_F c19) ?_
      refine hq_p 2 105 [some (.ref k0), some (.ref k1), some (.int a2), some (.int a3), some (.int a4), some (.int z12.1)] [.ref k1, .int (1 : Int32), .int x17, .int x16, .ref (k0 + 1)] (fun n h => rfl) ?_
      refine hq_gf (x := .ref (k1 + 3)) rfl (hq_shT m1_) rfl rfl (hq_fldr (hq_shT_u m1_)) ?_
      refine hq_p 1 110 [some (.ref k0), some (.ref k1), some (.int a2), some (.int a3), some (.int a4), some (.int z12.1)] [.int a4, .ref (k1 + 3), .int (1 : Int32), .int x17, .int x16, .ref (k0 + 1)] (fun n h => rfl) ?_
      obtain ⟨x20, hx20, h⟩ := hq_bind h
      refine hq_iaload rfl (hq_shT_3 m1_) List.length_replicate hx20 ?_
      refine hq_p 2 116 [some (.ref k0), some (.ref k1), some (.int a2), some (.int a3), some (.int a4), some (.int z12.1)] [.int ((1 : Int32) <<< (x20 &&& 31)), .int x17, .int x16, .ref (k0 + 1)] (fun n h => rfl) ?_
      cases h
      exact hT
  refine hq_p 1 117 [some (.ref k0), some (.ref k1), some (.int a2), some (.int a3), some (.int a4), some (.int z12.1)] [.int (x17 ||| z18), .int x16, .ref (k0 + 1)] (fun n h => rfl) ?_
  obtain ⟨s21, hs21, h⟩ := hq_bind h
  refine hq_iastore rfl (hq_shS_1 m0_) List.length_replicate hs21 ?_
  exact f_X8_build_J118_run hd e19 m0_ m1_ h
def f_X8_build_L19_B (n : Nat) (q19 : Nat → Nat → Int32 → Int32 → Int32 → hq_S → Option hq_S) (k0 : Nat) (k1 : Nat) (a2 : Int32) (a3 : Int32) (a4 : Int32) (s : hq_S) : Option hq_S := if a4 < (hq_gi s k1 3) then if a3 = 0 then if ((a2 >>> (a4 &&& 31)) &&& (1 : Int32)) = 0 then f_X8_build_J41 n q19 k0 k1 a2 a3 a4 s else f_X8_build_J118 n q19 k0 k1 a2 a3 a4 s else f_X8_build_J41 n q19 k0 k1 a2 a3 a4 s else f_X8_build_L127 n n k0 k1 a2 a3 (0 : Int32) s
def f_X8_build_L19 (n : Nat) (m : Nat) : Nat → Nat → Int32 → Int32 → Int32 → hq_S → Option hq_S := Nat.rec (fun _ _ _ _ _ _ => none) (fun _ q => f_X8_build_L19_B n q) m
theorem f_X8_build_L19_Brun {xs : List Int32} {n d g : Nat} {k0 : Nat} {k1 : Nat} {a2 : Int32} {a3 : Int32} {a4 : Int32} {o5 : Option Value} {q19 : Nat → Nat → Int32 → Int32 → Int32 → hq_S → Option hq_S} {s : hq_S} {y : hq_S} (hd : 2 ≤ d) (e19 : ∀ (k0 : Nat) (k1 : Nat) (a2 : Int32) (a3 : Int32) (a4 : Int32) (o5 : Option Value) (s : hq_S) (m0_ : hq_isS k0) (m1_ : hq_isT k1), q19 k0 k1 a2 a3 a4 s = some y → hq_R (mm_O xs) d mc_X8_build 19 [some (.ref k0), some (.ref k1), some (.int a2), some (.int a3), some (.int a4), o5] [] s g none y) (m0_ : hq_isS k0) (m1_ : hq_isT k1) (h : f_X8_build_L19_B n q19 k0 k1 a2 a3 a4 s = some y) : hq_R (mm_O xs) d mc_X8_build 19 [some (.ref k0), some (.ref k1), some (.int a2), some (.int a3), some (.int a4), o5] [] s g none y := by
  unfold f_X8_build_L19_B at h
  refine hq_p 2 22 [some (.ref k0), some (.ref k1), some (.int a2), some (.int a3), some (.int a4), o5] [.ref k1, .int a4] (fun n h => rfl) ?_
  refine hq_gf (x := .int (hq_gi s k1 3)) rfl (hq_shT m1_) rfl rfl rfl ?_
  by_cases c3 : a4 < (hq_gi s k1 3)
  · rw [if_pos c3] at h
    refine hq_icF rfl (hq_c_ge_F c3) ?_
    refine hq_p 1 29 [some (.ref k0), some (.ref k1), some (.int a2), some (.int a3), some (.int a4), o5] [.int a3] (fun n h => rfl) ?_
    by_cases c7 : a3 = 0
    · rw [if_pos c7] at h
      refine hq_izF rfl (hq_c_ne_F c7) ?_
      refine hq_p 5 38 [some (.ref k0), some (.ref k1), some (.int a2), some (.int a3), some (.int a4), o5] [.int ((a2 >>> (a4 &&& 31)) &&& (1 : Int32))] (fun n h => rfl) ?_
      by_cases c22 : ((a2 >>> (a4 &&& 31)) &&& (1 : Int32)) = 0
      · rw [if_pos c22] at h
        refine hq_izF rfl (hq_c_ne_F c22) ?_
        exact f_X8_build_J41_run hd e19 m0_ m1_ h
      · rw [if_neg c22] at h
        refine hq_izT rfl (hq_c_ne_T c22) ?_
        exact f_X8_build_J118_run hd e19 m0_ m1_ h
    · rw [if_neg c7] at h
      refine hq_izT rfl (hq_c_ne_T c7) ?_
      exact f_X8_build_J41_run hd e19 m0_ m1_ h
  · rw [if_neg c3] at h
    refine hq_icT rfl (hq_c_ge_T c3) ?_
    refine hq_p 2 127 [some (.ref k0), some (.ref k1), some (.int a2), some (.int a3), some (.int (0 : Int32)), o5] [] (fun n h => rfl) ?_
    exact f_X8_build_L127_run hd m0_ m1_ h
theorem f_X8_build_L19_run {xs : List Int32} {n m d g : Nat} {k0 : Nat} {k1 : Nat} {a2 : Int32} {a3 : Int32} {a4 : Int32} {o5 : Option Value} {s : hq_S} {y : hq_S} (hd : 2 ≤ d) (m0_ : hq_isS k0) (m1_ : hq_isT k1) (h : f_X8_build_L19 n m k0 k1 a2 a3 a4 s = some y) : hq_R (mm_O xs) d mc_X8_build 19 [some (.ref k0), some (.ref k1), some (.int a2), some (.int a3), some (.int a4), o5] [] s g none y := by
  induction m generalizing k0 k1 a2 a3 a4 o5 s with
  | zero => cases h
  | succ m ih => exact f_X8_build_L19_Brun (n := n) hd (fun k0 k1 a2 a3 a4 o5 s m0_ m1_ h => ih m0_ m1_ h) m0_ m1_ h
def f_X8_build (n : Nat) (k0 : Nat) (k1 : Nat) (a2 : Int32) (a3 : Int32) (s : hq_S) : Option hq_S := (hq_pi s k0 0 0 (hq_gi s k1 0)).bind fun s1 => (f_J7_fill_53178 n (k0 + 1) (0 : Int32) s1).bind fun s2 => f_X8_build_L19 n n k0 k1 a2 a3 (0 : Int32) s2
theorem f_X8_build_run {xs : List Int32} {n d g : Nat} {k0 : Nat} {k1 : Nat} {a2 : Int32} {a3 : Int32} {s : hq_S} {y : hq_S} (hd : 2 ≤ d) (m0_ : hq_isS k0) (m1_ : hq_isT k1) (h : f_X8_build n k0 k1 a2 a3 s = some y) : hq_R (mm_O xs) d mc_X8_build 0 [some (.ref k0), some (.ref k1), some (.int a2), some (.int a3), none, none] [] s g none y := by
  unfold f_X8_build at h
  refine hq_p 2 2 [some (.ref k0), some (.ref k1), some (.int a2), some (.int a3), none, none] [.ref k1, .ref k0] (fun n h => rfl) ?_
  refine hq_gf (x := .int (hq_gi s k1 0)) rfl (hq_shT m1_) rfl rfl rfl ?_
  obtain ⟨s1, hs1, h⟩ := hq_bind h
  refine hq_pfi rfl (hq_shS m0_) rfl rfl rfl hs1 ?_
  refine hq_p 1 9 [some (.ref k0), some (.ref k1), some (.int a2), some (.int a3), none, none] [.ref k0] (fun n h => rfl) ?_
  refine hq_gf (x := .ref (k0 + 1)) rfl (hq_shS m0_) rfl rfl (hq_fldr (hq_shS_u m0_)) ?_
  refine hq_p 1 13 [some (.ref k0), some (.ref k1), some (.int a2), some (.int a3), none, none] [.int (0 : Int32), .ref (k0 + 1)] (fun n h => rfl) ?_
  obtain ⟨s2, hs2, h⟩ := hq_bind h
  refine hq_ist rfl rfl rfl (Nat.le_trans (by decide) hd) rfl (f_J7_fill_53178_run (Nat.le_sub_of_add_le (Nat.le_trans (by decide) hd)) hs2) rfl ?_
  refine hq_p 2 19 [some (.ref k0), some (.ref k1), some (.int a2), some (.int a3), some (.int (0 : Int32)), none] [] (fun n h => rfl) ?_
  exact f_X8_build_L19_run hd m0_ m1_ h
def f_X8_reached_L4_B (n : Nat) (q4 : Nat → Int32 → Int32 → Int32 → hq_S → Option (Int32 × hq_S)) (k0 : Nat) (a1 : Int32) (a2 : Int32) (a3 : Int32) (s : hq_S) : Option (Int32 × hq_S) := if a3 < (hq_gi s k0 0) then (f_X8_lanesBetween n k0 a1 a3 s).bind fun y2 => (if y2.1 < (99 : Int32) then some ((1 : Int32) <<< (a3 &&& 31)) else some (0 : Int32)).bind fun z3 => q4 k0 a1 (a2 ||| z3) (a3 + (1 : Int32)) y2.2 else some (a2, s)
def f_X8_reached_L4 (n : Nat) (m : Nat) : Nat → Int32 → Int32 → Int32 → hq_S → Option (Int32 × hq_S) := Nat.rec (fun _ _ _ _ _ => none) (fun _ q => f_X8_reached_L4_B n q) m
theorem f_X8_reached_L4_Brun {xs : List Int32} {n d g : Nat} {k0 : Nat} {a1 : Int32} {a2 : Int32} {a3 : Int32} {q4 : Nat → Int32 → Int32 → Int32 → hq_S → Option (Int32 × hq_S)} {s : hq_S} {y : (Int32 × hq_S)} (hd : 1 ≤ d) (e4 : ∀ (k0 : Nat) (a1 : Int32) (a2 : Int32) (a3 : Int32) (s : hq_S) (m0_ : hq_isS k0), q4 k0 a1 a2 a3 s = some y → hq_R (mm_O xs) d mc_X8_reached 4 [some (.ref k0), some (.int a1), some (.int a2), some (.int a3)] [] s g (some (.int y.1)) y.2) (m0_ : hq_isS k0) (h : f_X8_reached_L4_B n q4 k0 a1 a2 a3 s = some y) : hq_R (mm_O xs) d mc_X8_reached 4 [some (.ref k0), some (.int a1), some (.int a2), some (.int a3)] [] s g (some (.int y.1)) y.2 := by
  unfold f_X8_reached_L4_B at h
  refine hq_p 2 6 [some (.ref k0), some (.int a1), some (.int a2), some (.int a3)] [.ref k0, .int a3] (fun n h => rfl) ?_
  refine hq_gf (x := .int (hq_gi s k0 0)) rfl (hq_shS m0_) rfl rfl rfl ?_
  by_cases c1 : a3 < (hq_gi s k0 0)
  · rw [if_pos c1] at h
    refine hq_icF rfl (hq_c_ge_F c1) ?_
    refine hq_p 4 16 [some (.ref k0), some (.int a1), some (.int a2), some (.int a3)] [.int a3, .int a1, .ref k0, .int a2] (fun n h => rfl) ?_
    obtain ⟨y2, hy2, h⟩ := hq_bind h
    refine hq_inv rfl rfl (Nat.le_trans (by decide) hd) rfl rfl (hq_rcv (hq_shS m0_) rfl) (f_X8_lanesBetween_run (Nat.le_sub_of_add_le (Nat.le_trans (by decide) hd)) m0_ hy2) rfl ?_
    refine hq_bip (99 : Int32) rfl (by decide) ?_
    obtain ⟨z3, hz3, h⟩ := hq_bind h
    suffices hT : hq_R (mm_O xs) d mc_X8_reached 31 [some (.ref k0), some (.int a1), some (.int a2), some (.int a3)] [.int z3, .int a2] y2.2 g (some (.int y.1)) y.2 from by
      clear h
      have h := hz3
      by_cases c4 : y2.1 < (99 : Int32)
      · rw [if_pos c4] at h
        refine hq_icF rfl (hq_c_ge_F c4) ?_
        refine hq_p 4 31 [some (.ref k0), some (.int a1), some (.int a2), some (.int a3)] [.int ((1 : Int32) <<< (a3 &&& 31)), .int a2] (fun n h => rfl) ?_
        cases h
        exact hT
      · rw [if_neg c4] at h
        refine hq_icT rfl (hq_c_ge_T c4) ?_
        refine hq_p 1 31 [some (.ref k0), some (.int a1), some (.int a2), some (.int a3)] [.int (0 : Int32), .int a2] (fun n h => rfl) ?_
        cases h
        exact hT
    refine hq_p 4 4 [some (.ref k0), some (.int a1), some (.int (a2 ||| z3)), some (.int (a3 + (1 : Int32)))] [] (fun n h => rfl) ?_
    exact e4 k0 a1 (a2 ||| z3) (a3 + (1 : Int32)) y2.2 m0_ h
  · rw [if_neg c1] at h
    refine hq_icT rfl (hq_c_ge_T c1) ?_
    refine hq_p 1 40 [some (.ref k0), some (.int a1), some (.int a2), some (.int a3)] [.int a2] (fun n h => rfl) ?_
    have h := Option.some.inj h
    subst h
    exact ⟨1, rfl⟩
theorem f_X8_reached_L4_run {xs : List Int32} {n m d g : Nat} {k0 : Nat} {a1 : Int32} {a2 : Int32} {a3 : Int32} {s : hq_S} {y : (Int32 × hq_S)} (hd : 1 ≤ d) (m0_ : hq_isS k0) (h : f_X8_reached_L4 n m k0 a1 a2 a3 s = some y) : hq_R (mm_O xs) d mc_X8_reached 4 [some (.ref k0), some (.int a1), some (.int a2), some (.int a3)] [] s g (some (.int y.1)) y.2 := by
  induction m generalizing k0 a1 a2 a3 s with
  | zero => cases h
  | succ m ih => exact f_X8_reached_L4_Brun (n := n) hd (fun k0 a1 a2 a3 s m0_ h => ih m0_ h) m0_ h
def f_X8_reached (n : Nat) (k0 : Nat) (a1 : Int32) (s : hq_S) : Option (Int32 × hq_S) := f_X8_reached_L4 n n k0 a1 (0 : Int32) (0 : Int32) s
theorem f_X8_reached_run {xs : List Int32} {n d g : Nat} {k0 : Nat} {a1 : Int32} {s : hq_S} {y : (Int32 × hq_S)} (hd : 1 ≤ d) (m0_ : hq_isS k0) (h : f_X8_reached n k0 a1 s = some y) : hq_R (mm_O xs) d mc_X8_reached 0 [some (.ref k0), some (.int a1), none, none] [] s g (some (.int y.1)) y.2 := by
  unfold f_X8_reached at h
  refine hq_p 4 4 [some (.ref k0), some (.int a1), some (.int (0 : Int32)), some (.int (0 : Int32))] [] (fun n h => rfl) ?_
  exact f_X8_reached_L4_run hd m0_ h
def f_X8_howManyParts_L17_B (n : Nat) (q4 : Nat → Int32 → Int32 → hq_S → Option (Int32 × hq_S)) (q17 : Nat → Int32 → Int32 → Int32 → Int32 → hq_S → Option (Int32 × hq_S)) (k0 : Nat) (a1 : Int32) (a2 : Int32) (a3 : Int32) (a4 : Int32) (s : hq_S) : Option (Int32 × hq_S) := if a4 < a2 then (f_X8_lanesBetween n k0 a2 a4 s).bind fun y5 => (if y5.1 = (99 : Int32) then some ((1 : Int32), y5.2) else (f_X8_lanesBetween n k0 a4 a2 y5.2).bind fun y8 => if y8.1 = (99 : Int32) then some ((1 : Int32), y8.2) else some ((0 : Int32), y8.2)).bind fun z6 => q17 k0 a1 a2 (a3 &&& z6.1) (a4 + (1 : Int32)) z6.2 else (if a3 = 0 then some (0 : Int32) else some (1 : Int32)).bind fun z3 => q4 k0 (a1 + z3) (a2 + (1 : Int32)) s
def f_X8_howManyParts_L17 (n : Nat) (q4 : Nat → Int32 → Int32 → hq_S → Option (Int32 × hq_S)) (m : Nat) : Nat → Int32 → Int32 → Int32 → Int32 → hq_S → Option (Int32 × hq_S) := Nat.rec (fun _ _ _ _ _ _ => none) (fun _ q => f_X8_howManyParts_L17_B n q4 q) m
theorem f_X8_howManyParts_L17_Brun {xs : List Int32} {n d g : Nat} {k0 : Nat} {a1 : Int32} {a2 : Int32} {a3 : Int32} {a4 : Int32} {q4 : Nat → Int32 → Int32 → hq_S → Option (Int32 × hq_S)} {q17 : Nat → Int32 → Int32 → Int32 → Int32 → hq_S → Option (Int32 × hq_S)} {s : hq_S} {y : (Int32 × hq_S)} (hd : 1 ≤ d) (e4 : ∀ (k0 : Nat) (a1 : Int32) (a2 : Int32) (o3 : Option Value) (o4 : Option Value) (s : hq_S) (m0_ : hq_isS k0), q4 k0 a1 a2 s = some y → hq_R (mm_O xs) d mc_X8_howManyParts 4 [some (.ref k0), some (.int a1), some (.int a2), o3, o4] [] s g (some (.int y.1)) y.2) (e17 : ∀ (k0 : Nat) (a1 : Int32) (a2 : Int32) (a3 : Int32) (a4 : Int32) (s : hq_S) (m0_ : hq_isS k0), q17 k0 a1 a2 a3 a4 s = some y → hq_R (mm_O xs) d mc_X8_howManyParts 17 [some (.ref k0), some (.int a1), some (.int a2), some (.int a3), some (.int a4)] [] s g (some (.int y.1)) y.2) (m0_ : hq_isS k0) (h : f_X8_howManyParts_L17_B n q4 q17 k0 a1 a2 a3 a4 s = some y) : hq_R (mm_O xs) d mc_X8_howManyParts 17 [some (.ref k0), some (.int a1), some (.int a2), some (.int a3), some (.int a4)] [] s g (some (.int y.1)) y.2 := by
  unfold f_X8_howManyParts_L17_B at h
  refine hq_p 2 20 [some (.ref k0), some (.int a1), some (.int a2), some (.int a3), some (.int a4)] [.int a2, .int a4] (fun n h => rfl) ?_
  by_cases c2 : a4 < a2
  · rw [if_pos c2] at h
    refine hq_icF rfl (hq_c_ge_F c2) ?_
    refine hq_p 4 28 [some (.ref k0), some (.int a1), some (.int a2), some (.int a3), some (.int a4)] [.int a4, .int a2, .ref k0, .int a3] (fun n h => rfl) ?_
    obtain ⟨y5, hy5, h⟩ := hq_bind h
    refine hq_inv rfl rfl (Nat.le_trans (by decide) hd) rfl rfl (hq_rcv (hq_shS m0_) rfl) (f_X8_lanesBetween_run (Nat.le_sub_of_add_le (Nat.le_trans (by decide) hd)) m0_ hy5) rfl ?_
    refine hq_bip (99 : Int32) rfl (by decide) ?_
    obtain ⟨z6, hz6, h⟩ := hq_bind h
    suffices hT : hq_R (mm_O xs) d mc_X8_howManyParts 53 [some (.ref k0), some (.int a1), some (.int a2), some (.int a3), some (.int a4)] [.int z6.1, .int a3] z6.2 g (some (.int y.1)) y.2 from by
      clear h
      have h := hz6
      by_cases c7 : y5.1 = (99 : Int32)
      · rw [if_pos c7] at h
        refine hq_icT rfl (hq_c_eq_T c7) ?_
        refine hq_p 2 53 [some (.ref k0), some (.int a1), some (.int a2), some (.int a3), some (.int a4)] [.int (1 : Int32), .int a3] (fun n h => rfl) ?_
        cases h
        exact hT
      · rw [if_neg c7] at h
        refine hq_icF rfl (hq_c_eq_F c7) ?_
        refine hq_p 3 40 [some (.ref k0), some (.int a1), some (.int a2), some (.int a3), some (.int a4)] [.int a2, .int a4, .ref k0, .int a3] (fun n h => rfl) ?_
        obtain ⟨y8, hy8, h⟩ := hq_bind h
        refine hq_inv rfl rfl (Nat.le_trans (by decide) hd) rfl rfl (hq_rcv (hq_shS m0_) rfl) (f_X8_lanesBetween_run (Nat.le_sub_of_add_le (Nat.le_trans (by decide) hd)) m0_ hy8) rfl ?_
        refine hq_bip (99 : Int32) rfl (by decide) ?_
        by_cases c9 : y8.1 = (99 : Int32)
        · rw [if_pos c9] at h
          refine hq_icF rfl (hq_c_ne_F c9) ?_
          refine hq_p 2 53 [some (.ref k0), some (.int a1), some (.int a2), some (.int a3), some (.int a4)] [.int (1 : Int32), .int a3] (fun n h => rfl) ?_
          cases h
          exact hT
        · rw [if_neg c9] at h
          refine hq_icT rfl (hq_c_ne_T c9) ?_
          refine hq_p 1 53 [some (.ref k0), some (.int a1), some (.int a2), some (.int a3), some (.int a4)] [.int (0 : Int32), .int a3] (fun n h => rfl) ?_
          cases h
          exact hT
    refine hq_p 4 17 [some (.ref k0), some (.int a1), some (.int a2), some (.int (a3 &&& z6.1)), some (.int (a4 + (1 : Int32)))] [] (fun n h => rfl) ?_
    exact e17 k0 a1 a2 (a3 &&& z6.1) (a4 + (1 : Int32)) z6.2 m0_ h
  · rw [if_neg c2] at h
    refine hq_icT rfl (hq_c_ge_T c2) ?_
    refine hq_p 2 63 [some (.ref k0), some (.int a1), some (.int a2), some (.int a3), some (.int a4)] [.int a3, .int a1] (fun n h => rfl) ?_
    obtain ⟨z3, hz3, h⟩ := hq_bind h
    suffices hT : hq_R (mm_O xs) d mc_X8_howManyParts 71 [some (.ref k0), some (.int a1), some (.int a2), some (.int a3), some (.int a4)] [.int z3, .int a1] s g (some (.int y.1)) y.2 from by
      clear h
      have h := hz3
      by_cases c4 : a3 = 0
      · rw [if_pos c4] at h
        refine hq_izT rfl (hq_c_eq_T c4) ?_
        refine hq_p 1 71 [some (.ref k0), some (.int a1), some (.int a2), some (.int a3), some (.int a4)] [.int (0 : Int32), .int a1] (fun n h => rfl) ?_
        cases h
        exact hT
      · rw [if_neg c4] at h
        refine hq_izF rfl (hq_c_eq_F c4) ?_
        refine hq_p 2 71 [some (.ref k0), some (.int a1), some (.int a2), some (.int a3), some (.int a4)] [.int (1 : Int32), .int a1] (fun n h => rfl) ?_
        cases h
        exact hT
    refine hq_p 4 4 [some (.ref k0), some (.int (a1 + z3)), some (.int (a2 + (1 : Int32))), some (.int a3), some (.int a4)] [] (fun n h => rfl) ?_
    exact e4 k0 (a1 + z3) (a2 + (1 : Int32)) _ _ s m0_ h
theorem f_X8_howManyParts_L17_run {xs : List Int32} {n m d g : Nat} {k0 : Nat} {a1 : Int32} {a2 : Int32} {a3 : Int32} {a4 : Int32} {q4 : Nat → Int32 → Int32 → hq_S → Option (Int32 × hq_S)} {s : hq_S} {y : (Int32 × hq_S)} (hd : 1 ≤ d) (e4 : ∀ (k0 : Nat) (a1 : Int32) (a2 : Int32) (o3 : Option Value) (o4 : Option Value) (s : hq_S) (m0_ : hq_isS k0), q4 k0 a1 a2 s = some y → hq_R (mm_O xs) d mc_X8_howManyParts 4 [some (.ref k0), some (.int a1), some (.int a2), o3, o4] [] s g (some (.int y.1)) y.2) (m0_ : hq_isS k0) (h : f_X8_howManyParts_L17 n q4 m k0 a1 a2 a3 a4 s = some y) : hq_R (mm_O xs) d mc_X8_howManyParts 17 [some (.ref k0), some (.int a1), some (.int a2), some (.int a3), some (.int a4)] [] s g (some (.int y.1)) y.2 := by
  induction m generalizing k0 a1 a2 a3 a4 s with
  | zero => cases h
  | succ m ih => exact f_X8_howManyParts_L17_Brun (n := n) hd e4 (fun k0 a1 a2 a3 a4 s m0_ h => ih m0_ h) m0_ h
def f_X8_howManyParts_L4_B (n : Nat) (q4 : Nat → Int32 → Int32 → hq_S → Option (Int32 × hq_S)) (k0 : Nat) (a1 : Int32) (a2 : Int32) (s : hq_S) : Option (Int32 × hq_S) := if a2 < (hq_gi s k0 0) then f_X8_howManyParts_L17 n q4 n k0 a1 a2 (1 : Int32) (0 : Int32) s else some (a1, s)
def f_X8_howManyParts_L4 (n : Nat) (m : Nat) : Nat → Int32 → Int32 → hq_S → Option (Int32 × hq_S) := Nat.rec (fun _ _ _ _ => none) (fun _ q => f_X8_howManyParts_L4_B n q) m
theorem f_X8_howManyParts_L4_Brun {xs : List Int32} {n d g : Nat} {k0 : Nat} {a1 : Int32} {a2 : Int32} {o3 : Option Value} {o4 : Option Value} {q4 : Nat → Int32 → Int32 → hq_S → Option (Int32 × hq_S)} {s : hq_S} {y : (Int32 × hq_S)} (hd : 1 ≤ d) (e4 : ∀ (k0 : Nat) (a1 : Int32) (a2 : Int32) (o3 : Option Value) (o4 : Option Value) (s : hq_S) (m0_ : hq_isS k0), q4 k0 a1 a2 s = some y → hq_R (mm_O xs) d mc_X8_howManyParts 4 [some (.ref k0), some (.int a1), some (.int a2), o3, o4] [] s g (some (.int y.1)) y.2) (m0_ : hq_isS k0) (h : f_X8_howManyParts_L4_B n q4 k0 a1 a2 s = some y) : hq_R (mm_O xs) d mc_X8_howManyParts 4 [some (.ref k0), some (.int a1), some (.int a2), o3, o4] [] s g (some (.int y.1)) y.2 := by
  unfold f_X8_howManyParts_L4_B at h
  refine hq_p 2 6 [some (.ref k0), some (.int a1), some (.int a2), o3, o4] [.ref k0, .int a2] (fun n h => rfl) ?_
  refine hq_gf (x := .int (hq_gi s k0 0)) rfl (hq_shS m0_) rfl rfl rfl ?_
  by_cases c1 : a2 < (hq_gi s k0 0)
  · rw [if_pos c1] at h
    refine hq_icF rfl (hq_c_ge_F c1) ?_
    refine hq_p 4 17 [some (.ref k0), some (.int a1), some (.int a2), some (.int (1 : Int32)), some (.int (0 : Int32))] [] (fun n h => rfl) ?_
    exact f_X8_howManyParts_L17_run hd e4 m0_ h
  · rw [if_neg c1] at h
    refine hq_icT rfl (hq_c_ge_T c1) ?_
    refine hq_p 1 80 [some (.ref k0), some (.int a1), some (.int a2), o3, o4] [.int a1] (fun n h => rfl) ?_
    have h := Option.some.inj h
    subst h
    exact ⟨1, rfl⟩
theorem f_X8_howManyParts_L4_run {xs : List Int32} {n m d g : Nat} {k0 : Nat} {a1 : Int32} {a2 : Int32} {o3 : Option Value} {o4 : Option Value} {s : hq_S} {y : (Int32 × hq_S)} (hd : 1 ≤ d) (m0_ : hq_isS k0) (h : f_X8_howManyParts_L4 n m k0 a1 a2 s = some y) : hq_R (mm_O xs) d mc_X8_howManyParts 4 [some (.ref k0), some (.int a1), some (.int a2), o3, o4] [] s g (some (.int y.1)) y.2 := by
  induction m generalizing k0 a1 a2 o3 o4 s with
  | zero => cases h
  | succ m ih => exact f_X8_howManyParts_L4_Brun (n := n) hd (fun k0 a1 a2 o3 o4 s m0_ h => ih m0_ h) m0_ h
def f_X8_howManyParts (n : Nat) (k0 : Nat) (s : hq_S) : Option (Int32 × hq_S) := f_X8_howManyParts_L4 n n k0 (0 : Int32) (0 : Int32) s
theorem f_X8_howManyParts_run {xs : List Int32} {n d g : Nat} {k0 : Nat} {s : hq_S} {y : (Int32 × hq_S)} (hd : 1 ≤ d) (m0_ : hq_isS k0) (h : f_X8_howManyParts n k0 s = some y) : hq_R (mm_O xs) d mc_X8_howManyParts 0 [some (.ref k0), none, none, none, none] [] s g (some (.int y.1)) y.2 := by
  unfold f_X8_howManyParts at h
  refine hq_p 4 4 [some (.ref k0), some (.int (0 : Int32)), some (.int (0 : Int32)), none, none] [] (fun n h => rfl) ?_
  exact f_X8_howManyParts_L4_run hd m0_ h
def f_J7_fill_d0a16_L6_B (n : Nat) (q6 : Nat → Int64 → Int32 → Int32 → hq_S → Option hq_S) (k0 : Nat) (j1 : Int64) (a3 : Int32) (a4 : Int32) (s : hq_S) : Option hq_S := if a3 < a4 then (hq_stjA s k0 a3 j1).bind fun s3 => q6 k0 j1 (a3 + (1 : Int32)) a4 s3 else some s
def f_J7_fill_d0a16_L6 (n : Nat) (m : Nat) : Nat → Int64 → Int32 → Int32 → hq_S → Option hq_S := Nat.rec (fun _ _ _ _ _ => none) (fun _ q => f_J7_fill_d0a16_L6_B n q) m
theorem f_J7_fill_d0a16_L6_Brun {xs : List Int32} {n d g : Nat} {k0 : Nat} {j1 : Int64} {a3 : Int32} {a4 : Int32} {q6 : Nat → Int64 → Int32 → Int32 → hq_S → Option hq_S} {s : hq_S} {y : hq_S} (hd : 0 ≤ d) (e6 : ∀ (k0 : Nat) (j1 : Int64) (a3 : Int32) (a4 : Int32) (s : hq_S), q6 k0 j1 a3 a4 s = some y → hq_R (mm_O xs) d mc_J7_fill_d0a16 6 [some (.ref k0), some (.long j1), none, some (.int a3), some (.int a4)] [] s g none y) (h : f_J7_fill_d0a16_L6_B n q6 k0 j1 a3 a4 s = some y) : hq_R (mm_O xs) d mc_J7_fill_d0a16 6 [some (.ref k0), some (.long j1), none, some (.int a3), some (.int a4)] [] s g none y := by
  unfold f_J7_fill_d0a16_L6_B at h
  refine hq_p 2 9 [some (.ref k0), some (.long j1), none, some (.int a3), some (.int a4)] [.int a4, .int a3] (fun n h => rfl) ?_
  by_cases c2 : a3 < a4
  · rw [if_pos c2] at h
    refine hq_icF rfl (hq_c_ge_F c2) ?_
    refine hq_p 3 15 [some (.ref k0), some (.long j1), none, some (.int a3), some (.int a4)] [.long j1, .int a3, .ref k0] (fun n h => rfl) ?_
    obtain ⟨s3, hs3, h⟩ := hq_bind h
    refine hq_lastoreA rfl hs3 ?_
    refine hq_p 2 6 [some (.ref k0), some (.long j1), none, some (.int (a3 + (1 : Int32))), some (.int a4)] [] (fun n h => rfl) ?_
    exact e6 k0 j1 (a3 + (1 : Int32)) a4 s3 h
  · rw [if_neg c2] at h
    refine hq_icT rfl (hq_c_ge_T c2) ?_
    have h := Option.some.inj h
    subst h
    exact ⟨1, rfl⟩
theorem f_J7_fill_d0a16_L6_run {xs : List Int32} {n m d g : Nat} {k0 : Nat} {j1 : Int64} {a3 : Int32} {a4 : Int32} {s : hq_S} {y : hq_S} (hd : 0 ≤ d) (h : f_J7_fill_d0a16_L6 n m k0 j1 a3 a4 s = some y) : hq_R (mm_O xs) d mc_J7_fill_d0a16 6 [some (.ref k0), some (.long j1), none, some (.int a3), some (.int a4)] [] s g none y := by
  induction m generalizing k0 j1 a3 a4 s with
  | zero => cases h
  | succ m ih => exact f_J7_fill_d0a16_L6_Brun (n := n) hd (fun k0 j1 a3 a4 s h => ih h) h
def f_J7_fill_d0a16 (n : Nat) (k0 : Nat) (j1 : Int64) (s : hq_S) : Option hq_S := (hq_alA k0).bind fun x1 => f_J7_fill_d0a16_L6 n n k0 j1 (0 : Int32) x1 s
theorem f_J7_fill_d0a16_run {xs : List Int32} {n d g : Nat} {k0 : Nat} {j1 : Int64} {s : hq_S} {y : hq_S} (hd : 0 ≤ d) (h : f_J7_fill_d0a16 n k0 j1 s = some y) : hq_R (mm_O xs) d mc_J7_fill_d0a16 0 [some (.ref k0), some (.long j1), none, none, none] [] s g none y := by
  unfold f_J7_fill_d0a16 at h
  refine hq_p 3 3 [some (.ref k0), some (.long j1), none, some (.int (0 : Int32)), none] [.ref k0] (fun n h => rfl) ?_
  obtain ⟨x1, hx1, h⟩ := hq_bind h
  refine hq_alenA rfl hx1 ?_
  refine hq_p 1 6 [some (.ref k0), some (.long j1), none, some (.int (0 : Int32)), some (.int x1)] [] (fun n h => rfl) ?_
  exact f_J7_fill_d0a16_L6_run hd h
def f_X8_shareOut_L39_B (n : Nat) (q39 : Nat → Int32 → Int32 → Int32 → Int64 → Int32 → hq_S → Option hq_S) (k0 : Nat) (a1 : Int32) (a2 : Int32) (a3 : Int32) (j4 : Int64) (a6 : Int32) (s : hq_S) : Option hq_S := if a6 < (hq_gi s k0 0) then (hq_ldj s (k0 + 3) 10 a6).bind fun x7 => (if ((a2 >>> (a6 &&& 31)) &&& (1 : Int32)) = (1 : Int32) then some j4 else some (0 : Int64)).bind fun z8 => (hq_stj s (k0 + 3) 10 a6 (x7 + z8)).bind fun s10 => q39 k0 a1 a2 a3 j4 (a6 + (1 : Int32)) s10 else some s
def f_X8_shareOut_L39 (n : Nat) (m : Nat) : Nat → Int32 → Int32 → Int32 → Int64 → Int32 → hq_S → Option hq_S := Nat.rec (fun _ _ _ _ _ _ _ => none) (fun _ q => f_X8_shareOut_L39_B n q) m
theorem f_X8_shareOut_L39_Brun {xs : List Int32} {n d g : Nat} {k0 : Nat} {a1 : Int32} {a2 : Int32} {a3 : Int32} {j4 : Int64} {a6 : Int32} {q39 : Nat → Int32 → Int32 → Int32 → Int64 → Int32 → hq_S → Option hq_S} {s : hq_S} {y : hq_S} (hd : 1 ≤ d) (e39 : ∀ (k0 : Nat) (a1 : Int32) (a2 : Int32) (a3 : Int32) (j4 : Int64) (a6 : Int32) (s : hq_S) (m0_ : hq_isS k0), q39 k0 a1 a2 a3 j4 a6 s = some y → hq_R (mm_O xs) d mc_X8_shareOut 39 [some (.ref k0), some (.int a1), some (.int a2), some (.int a3), some (.long j4), none, some (.int a6)] [] s g none y) (m0_ : hq_isS k0) (h : f_X8_shareOut_L39_B n q39 k0 a1 a2 a3 j4 a6 s = some y) : hq_R (mm_O xs) d mc_X8_shareOut 39 [some (.ref k0), some (.int a1), some (.int a2), some (.int a3), some (.long j4), none, some (.int a6)] [] s g none y := by
  unfold f_X8_shareOut_L39_B at h
  refine hq_p 2 42 [some (.ref k0), some (.int a1), some (.int a2), some (.int a3), some (.long j4), none, some (.int a6)] [.ref k0, .int a6] (fun n h => rfl) ?_
  refine hq_gf (x := .int (hq_gi s k0 0)) rfl (hq_shS m0_) rfl rfl rfl ?_
  by_cases c6 : a6 < (hq_gi s k0 0)
  · rw [if_pos c6] at h
    refine hq_icF rfl (hq_c_ge_F c6) ?_
    refine hq_p 1 49 [some (.ref k0), some (.int a1), some (.int a2), some (.int a3), some (.long j4), none, some (.int a6)] [.ref k0] (fun n h => rfl) ?_
    refine hq_gf (x := .ref (k0 + 3)) rfl (hq_shS m0_) rfl rfl (hq_fldr (hq_shS_u m0_)) ?_
    refine hq_p 2 55 [some (.ref k0), some (.int a1), some (.int a2), some (.int a3), some (.long j4), none, some (.int a6)] [.int a6, .ref (k0 + 3), .int a6, .ref (k0 + 3)] (fun n h => rfl) ?_
    obtain ⟨x7, hx7, h⟩ := hq_bind h
    refine hq_laload rfl (hq_shS_3 m0_) List.length_replicate hx7 ?_
    refine hq_p 6 63 [some (.ref k0), some (.int a1), some (.int a2), some (.int a3), some (.long j4), none, some (.int a6)] [.int (1 : Int32), .int ((a2 >>> (a6 &&& 31)) &&& (1 : Int32)), .long x7, .int a6, .ref (k0 + 3)] (fun n h => rfl) ?_
    obtain ⟨z8, hz8, h⟩ := hq_bind h
    suffices hT : hq_R (mm_O xs) d mc_X8_shareOut 72 [some (.ref k0), some (.int a1), some (.int a2), some (.int a3), some (.long j4), none, some (.int a6)] [.long z8, .long x7, .int a6, .ref (k0 + 3)] s g none y from by
      clear h
      have h := hz8
      by_cases c9 : ((a2 >>> (a6 &&& 31)) &&& (1 : Int32)) = (1 : Int32)
      · rw [if_pos c9] at h
        refine hq_icF rfl (hq_c_ne_F c9) ?_
        refine hq_p 2 72 [some (.ref k0), some (.int a1), some (.int a2), some (.int a3), some (.long j4), none, some (.int a6)] [.long j4, .long x7, .int a6, .ref (k0 + 3)] (fun n h => rfl) ?_
        cases h
        exact hT
      · rw [if_neg c9] at h
        refine hq_icT rfl (hq_c_ne_T c9) ?_
        refine hq_p 1 72 [some (.ref k0), some (.int a1), some (.int a2), some (.int a3), some (.long j4), none, some (.int a6)] [.long (0 : Int64), .long x7, .int a6, .ref (k0 + 3)] (fun n h => rfl) ?_
        cases h
        exact hT
    refine hq_p 1 73 [some (.ref k0), some (.int a1), some (.int a2), some (.int a3), some (.long j4), none, some (.int a6)] [.long (x7 + z8), .int a6, .ref (k0 + 3)] (fun n h => rfl) ?_
    obtain ⟨s10, hs10, h⟩ := hq_bind h
    refine hq_lastore rfl (hq_shS_3 m0_) List.length_replicate hs10 ?_
    refine hq_p 2 39 [some (.ref k0), some (.int a1), some (.int a2), some (.int a3), some (.long j4), none, some (.int (a6 + (1 : Int32)))] [] (fun n h => rfl) ?_
    exact e39 k0 a1 a2 a3 j4 (a6 + (1 : Int32)) s10 m0_ h
  · rw [if_neg c6] at h
    refine hq_icT rfl (hq_c_ge_T c6) ?_
    have h := Option.some.inj h
    subst h
    exact ⟨1, rfl⟩
theorem f_X8_shareOut_L39_run {xs : List Int32} {n m d g : Nat} {k0 : Nat} {a1 : Int32} {a2 : Int32} {a3 : Int32} {j4 : Int64} {a6 : Int32} {s : hq_S} {y : hq_S} (hd : 1 ≤ d) (m0_ : hq_isS k0) (h : f_X8_shareOut_L39 n m k0 a1 a2 a3 j4 a6 s = some y) : hq_R (mm_O xs) d mc_X8_shareOut 39 [some (.ref k0), some (.int a1), some (.int a2), some (.int a3), some (.long j4), none, some (.int a6)] [] s g none y := by
  induction m generalizing k0 a1 a2 a3 j4 a6 s with
  | zero => cases h
  | succ m ih => exact f_X8_shareOut_L39_Brun (n := n) hd (fun k0 a1 a2 a3 j4 a6 s m0_ h => ih m0_ h) m0_ h
def f_X8_shareOut (n : Nat) (k0 : Nat) (a1 : Int32) (s : hq_S) : Option hq_S := (hq_ld s (k0 + 1) 10 a1).bind fun x1 => (f_J6_bitCount_0f7a4 n (x1 ||| ((1 : Int32) <<< (a1 &&& 31))) s).bind fun y2 => if y2.1 = 0 then some y2.2 else (hq_ldj y2.2 (k0 + 4) 10 a1).bind fun x4 => (hq_ldiv (2520 : Int64) y2.1.toInt64).bind fun x5 => f_X8_shareOut_L39 n n k0 a1 (x1 ||| ((1 : Int32) <<< (a1 &&& 31))) y2.1 (x4 * x5) (0 : Int32) y2.2
theorem f_X8_shareOut_run {xs : List Int32} {n d g : Nat} {k0 : Nat} {a1 : Int32} {s : hq_S} {y : hq_S} (hd : 1 ≤ d) (m0_ : hq_isS k0) (h : f_X8_shareOut n k0 a1 s = some y) : hq_R (mm_O xs) d mc_X8_shareOut 0 [some (.ref k0), some (.int a1), none, none, none, none, none] [] s g none y := by
  unfold f_X8_shareOut at h
  refine hq_p 1 1 [some (.ref k0), some (.int a1), none, none, none, none, none] [.ref k0] (fun n h => rfl) ?_
  refine hq_gf (x := .ref (k0 + 1)) rfl (hq_shS m0_) rfl rfl (hq_fldr (hq_shS_u m0_)) ?_
  refine hq_p 1 5 [some (.ref k0), some (.int a1), none, none, none, none, none] [.int a1, .ref (k0 + 1)] (fun n h => rfl) ?_
  obtain ⟨x1, hx1, h⟩ := hq_bind h
  refine hq_iaload rfl (hq_shS_1 m0_) List.length_replicate hx1 ?_
  refine hq_p 6 12 [some (.ref k0), some (.int a1), some (.int (x1 ||| ((1 : Int32) <<< (a1 &&& 31)))), none, none, none, none] [.int (x1 ||| ((1 : Int32) <<< (a1 &&& 31)))] (fun n h => rfl) ?_
  obtain ⟨y2, hy2, h⟩ := hq_bind h
  refine hq_ist rfl rfl rfl (Nat.le_trans (by decide) hd) rfl (f_J6_bitCount_0f7a4_run (Nat.le_sub_of_add_le (Nat.le_trans (by decide) hd)) hy2) rfl ?_
  refine hq_p 2 17 [some (.ref k0), some (.int a1), some (.int (x1 ||| ((1 : Int32) <<< (a1 &&& 31)))), some (.int y2.1), none, none, none] [.int y2.1] (fun n h => rfl) ?_
  by_cases c3 : y2.1 = 0
  · rw [if_pos c3] at h
    refine hq_izF rfl (hq_c_ne_F c3) ?_
    have h := Option.some.inj h
    subst h
    exact ⟨1, rfl⟩
  · rw [if_neg c3] at h
    refine hq_izT rfl (hq_c_ne_T c3) ?_
    refine hq_p 1 22 [some (.ref k0), some (.int a1), some (.int (x1 ||| ((1 : Int32) <<< (a1 &&& 31)))), some (.int y2.1), none, none, none] [.ref k0] (fun n h => rfl) ?_
    refine hq_gf (x := .ref (k0 + 4)) rfl (hq_shS m0_) rfl rfl (hq_fldr (hq_shS_u m0_)) ?_
    refine hq_p 1 26 [some (.ref k0), some (.int a1), some (.int (x1 ||| ((1 : Int32) <<< (a1 &&& 31)))), some (.int y2.1), none, none, none] [.int a1, .ref (k0 + 4)] (fun n h => rfl) ?_
    obtain ⟨x4, hx4, h⟩ := hq_bind h
    refine hq_laload rfl (hq_shS_4 m0_) List.length_replicate hx4 ?_
    refine hq_lc2 (2520 : Int64) rfl (by decide) ?_
    refine hq_p 2 32 [some (.ref k0), some (.int a1), some (.int (x1 ||| ((1 : Int32) <<< (a1 &&& 31)))), some (.int y2.1), none, none, none] [.long y2.1.toInt64, .long (2520 : Int64), .long x4] (fun n h => rfl) ?_
    obtain ⟨x5, hx5, h⟩ := hq_bind h
    refine hq_ldiv_ rfl hx5 ?_
    refine hq_p 4 39 [some (.ref k0), some (.int a1), some (.int (x1 ||| ((1 : Int32) <<< (a1 &&& 31)))), some (.int y2.1), some (.long (x4 * x5)), none, some (.int (0 : Int32))] [] (fun n h => rfl) ?_
    exact f_X8_shareOut_L39_run hd m0_ h
def f_X8_drunkWeight_L50_B (n : Nat) (q18 : Nat → Int32 → Int32 → Int32 → Int32 → hq_S → Option (Int64 × hq_S)) (q50 : Nat → Int32 → Int32 → Int32 → Int32 → Int32 → hq_S → Option (Int64 × hq_S)) (k0 : Nat) (a1 : Int32) (a2 : Int32) (a3 : Int32) (a4 : Int32) (a5 : Int32) (s : hq_S) : Option (Int64 × hq_S) := if a5 < (hq_gi s k0 0) then (f_X8_shareOut n k0 a5 s).bind fun s8 => q50 k0 a1 a2 a3 a4 (a5 + (1 : Int32)) s8 else q18 k0 a1 a2 a3 (a4 + (1 : Int32)) s
def f_X8_drunkWeight_L50 (n : Nat) (q18 : Nat → Int32 → Int32 → Int32 → Int32 → hq_S → Option (Int64 × hq_S)) (m : Nat) : Nat → Int32 → Int32 → Int32 → Int32 → Int32 → hq_S → Option (Int64 × hq_S) := Nat.rec (fun _ _ _ _ _ _ _ => none) (fun _ q => f_X8_drunkWeight_L50_B n q18 q) m
theorem f_X8_drunkWeight_L50_Brun {xs : List Int32} {n d g : Nat} {k0 : Nat} {a1 : Int32} {a2 : Int32} {a3 : Int32} {a4 : Int32} {a5 : Int32} {q18 : Nat → Int32 → Int32 → Int32 → Int32 → hq_S → Option (Int64 × hq_S)} {q50 : Nat → Int32 → Int32 → Int32 → Int32 → Int32 → hq_S → Option (Int64 × hq_S)} {s : hq_S} {y : (Int64 × hq_S)} (hd : 2 ≤ d) (e18 : ∀ (k0 : Nat) (a1 : Int32) (a2 : Int32) (a3 : Int32) (a4 : Int32) (o5 : Option Value) (s : hq_S) (m0_ : hq_isS k0), q18 k0 a1 a2 a3 a4 s = some y → hq_R (mm_O xs) d mc_X8_drunkWeight 18 [some (.ref k0), some (.int a1), some (.int a2), some (.int a3), some (.int a4), o5] [] s g (some (.long y.1)) y.2) (e50 : ∀ (k0 : Nat) (a1 : Int32) (a2 : Int32) (a3 : Int32) (a4 : Int32) (a5 : Int32) (s : hq_S) (m0_ : hq_isS k0), q50 k0 a1 a2 a3 a4 a5 s = some y → hq_R (mm_O xs) d mc_X8_drunkWeight 50 [some (.ref k0), some (.int a1), some (.int a2), some (.int a3), some (.int a4), some (.int a5)] [] s g (some (.long y.1)) y.2) (m0_ : hq_isS k0) (h : f_X8_drunkWeight_L50_B n q18 q50 k0 a1 a2 a3 a4 a5 s = some y) : hq_R (mm_O xs) d mc_X8_drunkWeight 50 [some (.ref k0), some (.int a1), some (.int a2), some (.int a3), some (.int a4), some (.int a5)] [] s g (some (.long y.1)) y.2 := by
  unfold f_X8_drunkWeight_L50_B at h
  refine hq_p 2 53 [some (.ref k0), some (.int a1), some (.int a2), some (.int a3), some (.int a4), some (.int a5)] [.ref k0, .int a5] (fun n h => rfl) ?_
  refine hq_gf (x := .int (hq_gi s k0 0)) rfl (hq_shS m0_) rfl rfl rfl ?_
  by_cases c7 : a5 < (hq_gi s k0 0)
  · rw [if_pos c7] at h
    refine hq_icF rfl (hq_c_ge_F c7) ?_
    refine hq_p 2 62 [some (.ref k0), some (.int a1), some (.int a2), some (.int a3), some (.int a4), some (.int a5)] [.int a5, .ref k0] (fun n h => rfl) ?_
    obtain ⟨s8, hs8, h⟩ := hq_bind h
    refine hq_inv rfl rfl (Nat.le_trans (by decide) hd) rfl rfl (hq_rcv (hq_shS m0_) rfl) (f_X8_shareOut_run (Nat.le_sub_of_add_le (Nat.le_trans (by decide) hd)) m0_ hs8) rfl ?_
    refine hq_p 2 50 [some (.ref k0), some (.int a1), some (.int a2), some (.int a3), some (.int a4), some (.int (a5 + (1 : Int32)))] [] (fun n h => rfl) ?_
    exact e50 k0 a1 a2 a3 a4 (a5 + (1 : Int32)) s8 m0_ h
  · rw [if_neg c7] at h
    refine hq_icT rfl (hq_c_ge_T c7) ?_
    refine hq_p 2 18 [some (.ref k0), some (.int a1), some (.int a2), some (.int a3), some (.int (a4 + (1 : Int32))), some (.int a5)] [] (fun n h => rfl) ?_
    exact e18 k0 a1 a2 a3 (a4 + (1 : Int32)) _ s m0_ h
theorem f_X8_drunkWeight_L50_run {xs : List Int32} {n m d g : Nat} {k0 : Nat} {a1 : Int32} {a2 : Int32} {a3 : Int32} {a4 : Int32} {a5 : Int32} {q18 : Nat → Int32 → Int32 → Int32 → Int32 → hq_S → Option (Int64 × hq_S)} {s : hq_S} {y : (Int64 × hq_S)} (hd : 2 ≤ d) (e18 : ∀ (k0 : Nat) (a1 : Int32) (a2 : Int32) (a3 : Int32) (a4 : Int32) (o5 : Option Value) (s : hq_S) (m0_ : hq_isS k0), q18 k0 a1 a2 a3 a4 s = some y → hq_R (mm_O xs) d mc_X8_drunkWeight 18 [some (.ref k0), some (.int a1), some (.int a2), some (.int a3), some (.int a4), o5] [] s g (some (.long y.1)) y.2) (m0_ : hq_isS k0) (h : f_X8_drunkWeight_L50 n q18 m k0 a1 a2 a3 a4 a5 s = some y) : hq_R (mm_O xs) d mc_X8_drunkWeight 50 [some (.ref k0), some (.int a1), some (.int a2), some (.int a3), some (.int a4), some (.int a5)] [] s g (some (.long y.1)) y.2 := by
  induction m generalizing k0 a1 a2 a3 a4 a5 s with
  | zero => cases h
  | succ m ih => exact f_X8_drunkWeight_L50_Brun (n := n) hd e18 (fun k0 a1 a2 a3 a4 a5 s m0_ h => ih m0_ h) m0_ h
def f_X8_drunkWeight_L18_B (n : Nat) (q18 : Nat → Int32 → Int32 → Int32 → Int32 → hq_S → Option (Int64 × hq_S)) (k0 : Nat) (a1 : Int32) (a2 : Int32) (a3 : Int32) (a4 : Int32) (s : hq_S) : Option (Int64 × hq_S) := if a4 < a3 then (hq_cpj s (k0 + 3) 10 (k0 + 4) 10 (0 : Int32) (0 : Int32) (10 : Int32)).bind fun s5 => (f_J7_fill_d0a16 n (k0 + 3) (0 : Int64) s5).bind fun s6 => f_X8_drunkWeight_L50 n q18 n k0 a1 a2 a3 a4 (0 : Int32) s6 else (hq_ldj s (k0 + 3) 10 a2).bind fun x4 => some (x4, s)
def f_X8_drunkWeight_L18 (n : Nat) (m : Nat) : Nat → Int32 → Int32 → Int32 → Int32 → hq_S → Option (Int64 × hq_S) := Nat.rec (fun _ _ _ _ _ _ => none) (fun _ q => f_X8_drunkWeight_L18_B n q) m
theorem f_X8_drunkWeight_L18_Brun {xs : List Int32} {n d g : Nat} {k0 : Nat} {a1 : Int32} {a2 : Int32} {a3 : Int32} {a4 : Int32} {o5 : Option Value} {q18 : Nat → Int32 → Int32 → Int32 → Int32 → hq_S → Option (Int64 × hq_S)} {s : hq_S} {y : (Int64 × hq_S)} (hd : 2 ≤ d) (e18 : ∀ (k0 : Nat) (a1 : Int32) (a2 : Int32) (a3 : Int32) (a4 : Int32) (o5 : Option Value) (s : hq_S) (m0_ : hq_isS k0), q18 k0 a1 a2 a3 a4 s = some y → hq_R (mm_O xs) d mc_X8_drunkWeight 18 [some (.ref k0), some (.int a1), some (.int a2), some (.int a3), some (.int a4), o5] [] s g (some (.long y.1)) y.2) (m0_ : hq_isS k0) (h : f_X8_drunkWeight_L18_B n q18 k0 a1 a2 a3 a4 s = some y) : hq_R (mm_O xs) d mc_X8_drunkWeight 18 [some (.ref k0), some (.int a1), some (.int a2), some (.int a3), some (.int a4), o5] [] s g (some (.long y.1)) y.2 := by
  unfold f_X8_drunkWeight_L18_B at h
  refine hq_p 2 21 [some (.ref k0), some (.int a1), some (.int a2), some (.int a3), some (.int a4), o5] [.int a3, .int a4] (fun n h => rfl) ?_
  by_cases c3 : a4 < a3
  · rw [if_pos c3] at h
    refine hq_icF rfl (hq_c_ge_F c3) ?_
    refine hq_p 1 25 [some (.ref k0), some (.int a1), some (.int a2), some (.int a3), some (.int a4), o5] [.ref k0] (fun n h => rfl) ?_
    refine hq_gf (x := .ref (k0 + 3)) rfl (hq_shS m0_) rfl rfl (hq_fldr (hq_shS_u m0_)) ?_
    refine hq_p 2 30 [some (.ref k0), some (.int a1), some (.int a2), some (.int a3), some (.int a4), o5] [.ref k0, .int (0 : Int32), .ref (k0 + 3)] (fun n h => rfl) ?_
    refine hq_gf (x := .ref (k0 + 4)) rfl (hq_shS m0_) rfl rfl (hq_fldr (hq_shS_u m0_)) ?_
    refine hq_p 2 36 [some (.ref k0), some (.int a1), some (.int a2), some (.int a3), some (.int a4), o5] [.int (10 : Int32), .int (0 : Int32), .ref (k0 + 4), .int (0 : Int32), .ref (k0 + 3)] (fun n h => rfl) ?_
    obtain ⟨s5, hs5, h⟩ := hq_bind h
    refine hq_copyj_ rfl (hq_shS_3 m0_) List.length_replicate (hq_shS_4 m0_) List.length_replicate hs5 rfl (Nat.le_trans (by decide) hd) ?_
    refine hq_p 1 40 [some (.ref k0), some (.int a1), some (.int a2), some (.int a3), some (.int a4), o5] [.ref k0] (fun n h => rfl) ?_
    refine hq_gf (x := .ref (k0 + 3)) rfl (hq_shS m0_) rfl rfl (hq_fldr (hq_shS_u m0_)) ?_
    refine hq_p 1 44 [some (.ref k0), some (.int a1), some (.int a2), some (.int a3), some (.int a4), o5] [.long (0 : Int64), .ref (k0 + 3)] (fun n h => rfl) ?_
    obtain ⟨s6, hs6, h⟩ := hq_bind h
    refine hq_ist rfl rfl rfl (Nat.le_trans (by decide) hd) rfl (f_J7_fill_d0a16_run (Nat.le_sub_of_add_le (Nat.le_trans (by decide) hd)) hs6) rfl ?_
    refine hq_p 2 50 [some (.ref k0), some (.int a1), some (.int a2), some (.int a3), some (.int a4), some (.int (0 : Int32))] [] (fun n h => rfl) ?_
    exact f_X8_drunkWeight_L50_run hd e18 m0_ h
  · rw [if_neg c3] at h
    refine hq_icT rfl (hq_c_ge_T c3) ?_
    refine hq_p 1 78 [some (.ref k0), some (.int a1), some (.int a2), some (.int a3), some (.int a4), o5] [.ref k0] (fun n h => rfl) ?_
    refine hq_gf (x := .ref (k0 + 3)) rfl (hq_shS m0_) rfl rfl (hq_fldr (hq_shS_u m0_)) ?_
    refine hq_p 1 82 [some (.ref k0), some (.int a1), some (.int a2), some (.int a3), some (.int a4), o5] [.int a2, .ref (k0 + 3)] (fun n h => rfl) ?_
    obtain ⟨x4, hx4, h⟩ := hq_bind h
    refine hq_laload rfl (hq_shS_3 m0_) List.length_replicate hx4 ?_
    have h := Option.some.inj h
    subst h
    exact ⟨1, rfl⟩
theorem f_X8_drunkWeight_L18_run {xs : List Int32} {n m d g : Nat} {k0 : Nat} {a1 : Int32} {a2 : Int32} {a3 : Int32} {a4 : Int32} {o5 : Option Value} {s : hq_S} {y : (Int64 × hq_S)} (hd : 2 ≤ d) (m0_ : hq_isS k0) (h : f_X8_drunkWeight_L18 n m k0 a1 a2 a3 a4 s = some y) : hq_R (mm_O xs) d mc_X8_drunkWeight 18 [some (.ref k0), some (.int a1), some (.int a2), some (.int a3), some (.int a4), o5] [] s g (some (.long y.1)) y.2 := by
  induction m generalizing k0 a1 a2 a3 a4 o5 s with
  | zero => cases h
  | succ m ih => exact f_X8_drunkWeight_L18_Brun (n := n) hd (fun k0 a1 a2 a3 a4 o5 s m0_ h => ih m0_ h) m0_ h
def f_X8_drunkWeight (n : Nat) (k0 : Nat) (a1 : Int32) (a2 : Int32) (a3 : Int32) (s : hq_S) : Option (Int64 × hq_S) := (f_J7_fill_d0a16 n (k0 + 3) (0 : Int64) s).bind fun s1 => (hq_stj s1 (k0 + 3) 10 a1 (1 : Int64)).bind fun s2 => f_X8_drunkWeight_L18 n n k0 a1 a2 a3 (0 : Int32) s2
theorem f_X8_drunkWeight_run {xs : List Int32} {n d g : Nat} {k0 : Nat} {a1 : Int32} {a2 : Int32} {a3 : Int32} {s : hq_S} {y : (Int64 × hq_S)} (hd : 2 ≤ d) (m0_ : hq_isS k0) (h : f_X8_drunkWeight n k0 a1 a2 a3 s = some y) : hq_R (mm_O xs) d mc_X8_drunkWeight 0 [some (.ref k0), some (.int a1), some (.int a2), some (.int a3), none, none] [] s g (some (.long y.1)) y.2 := by
  unfold f_X8_drunkWeight at h
  refine hq_p 1 1 [some (.ref k0), some (.int a1), some (.int a2), some (.int a3), none, none] [.ref k0] (fun n h => rfl) ?_
  refine hq_gf (x := .ref (k0 + 3)) rfl (hq_shS m0_) rfl rfl (hq_fldr (hq_shS_u m0_)) ?_
  refine hq_p 1 5 [some (.ref k0), some (.int a1), some (.int a2), some (.int a3), none, none] [.long (0 : Int64), .ref (k0 + 3)] (fun n h => rfl) ?_
  obtain ⟨s1, hs1, h⟩ := hq_bind h
  refine hq_ist rfl rfl rfl (Nat.le_trans (by decide) hd) rfl (f_J7_fill_d0a16_run (Nat.le_sub_of_add_le (Nat.le_trans (by decide) hd)) hs1) rfl ?_
  refine hq_p 1 9 [some (.ref k0), some (.int a1), some (.int a2), some (.int a3), none, none] [.ref k0] (fun n h => rfl) ?_
  refine hq_gf (x := .ref (k0 + 3)) rfl (hq_shS m0_) rfl rfl (hq_fldr (hq_shS_u m0_)) ?_
  refine hq_p 2 14 [some (.ref k0), some (.int a1), some (.int a2), some (.int a3), none, none] [.long (1 : Int64), .int a1, .ref (k0 + 3)] (fun n h => rfl) ?_
  obtain ⟨s2, hs2, h⟩ := hq_bind h
  refine hq_lastore rfl (hq_shS_3 m0_) List.length_replicate hs2 ?_
  refine hq_p 2 18 [some (.ref k0), some (.int a1), some (.int a2), some (.int a3), some (.int (0 : Int32)), none] [] (fun n h => rfl) ?_
  exact f_X8_drunkWeight_L18_run hd m0_ h
def f_X10_lanesOutOf_L5_B (n : Nat) (q5 : Nat → Int32 → Int32 → Int32 → Int32 → hq_S → Option (Int32 × hq_S)) (k0 : Nat) (a1 : Int32) (a2 : Int32) (a3 : Int32) (a4 : Int32) (s : hq_S) : Option (Int32 × hq_S) := if a4 < (hq_gi s k0 3) then (hq_ld s (k0 + 3) 20 a4).bind fun x2 => (if ((a1 >>> (x2 &&& 31)) &&& (1 : Int32)) = (1 : Int32) then some (1 : Int32) else some (0 : Int32)).bind fun z3 => (hq_ld s (k0 + 4) 20 a4).bind fun x5 => (if ((a1 >>> (x5 &&& 31)) &&& (1 : Int32)) = (1 : Int32) then some (1 : Int32) else some (0 : Int32)).bind fun z6 => (if z3 = 0 then if z6 = 0 then some ((0 : Int32), s) else if z3 = 0 then (f_X10_isOneWay n k0 a4 s).bind fun y12 => if y12.1 = 0 then some ((1 : Int32), y12.2) else some ((0 : Int32), y12.2) else some ((0 : Int32), s) else if z6 = 0 then some ((1 : Int32), s) else if z6 = 0 then some ((0 : Int32), s) else if z3 = 0 then (f_X10_isOneWay n k0 a4 s).bind fun y17 => if y17.1 = 0 then some ((1 : Int32), y17.2) else some ((0 : Int32), y17.2) else some ((0 : Int32), s)).bind fun z8 => (if z8.1 = 0 then some (0 : Int32) else if ((a2 >>> (a4 &&& 31)) &&& (1 : Int32)) = 0 then some (1 : Int32) else some (0 : Int32)).bind fun z19 => q5 k0 a1 a2 (a3 + z19) (a4 + (1 : Int32)) z8.2 else some (a3, s)
def f_X10_lanesOutOf_L5 (n : Nat) (m : Nat) : Nat → Int32 → Int32 → Int32 → Int32 → hq_S → Option (Int32 × hq_S) := Nat.rec (fun _ _ _ _ _ _ => none) (fun _ q => f_X10_lanesOutOf_L5_B n q) m
theorem f_X10_lanesOutOf_L5_Brun {xs : List Int32} {n d g : Nat} {k0 : Nat} {a1 : Int32} {a2 : Int32} {a3 : Int32} {a4 : Int32} {o5 : Option Value} {o6 : Option Value} {o7 : Option Value} {q5 : Nat → Int32 → Int32 → Int32 → Int32 → hq_S → Option (Int32 × hq_S)} {s : hq_S} {y : (Int32 × hq_S)} (hd : 1 ≤ d) (e5 : ∀ (k0 : Nat) (a1 : Int32) (a2 : Int32) (a3 : Int32) (a4 : Int32) (o5 : Option Value) (o6 : Option Value) (o7 : Option Value) (s : hq_S) (m0_ : hq_isT k0), q5 k0 a1 a2 a3 a4 s = some y → hq_R (mm_O xs) d mc_X10_lanesOutOf 5 [some (.ref k0), some (.int a1), some (.int a2), some (.int a3), some (.int a4), o5, o6, o7] [] s g (some (.int y.1)) y.2) (m0_ : hq_isT k0) (h : f_X10_lanesOutOf_L5_B n q5 k0 a1 a2 a3 a4 s = some y) : hq_R (mm_O xs) d mc_X10_lanesOutOf 5 [some (.ref k0), some (.int a1), some (.int a2), some (.int a3), some (.int a4), o5, o6, o7] [] s g (some (.int y.1)) y.2 := by
  unfold f_X10_lanesOutOf_L5_B at h
  refine hq_p 2 8 [some (.ref k0), some (.int a1), some (.int a2), some (.int a3), some (.int a4), o5, o6, o7] [.ref k0, .int a4] (fun n h => rfl) ?_
  refine hq_gf (x := .int (hq_gi s k0 3)) rfl (hq_shT m0_) rfl rfl rfl ?_
  by_cases c1 : a4 < (hq_gi s k0 3)
  · rw [if_pos c1] at h
    refine hq_icF rfl (hq_c_ge_F c1) ?_
    refine hq_p 2 16 [some (.ref k0), some (.int a1), some (.int a2), some (.int a3), some (.int a4), o5, o6, o7] [.ref k0, .int a1] (fun n h => rfl) ?_
    refine hq_gf (x := .ref (k0 + 3)) rfl (hq_shT m0_) rfl rfl (hq_fldr (hq_shT_u m0_)) ?_
    refine hq_p 1 21 [some (.ref k0), some (.int a1), some (.int a2), some (.int a3), some (.int a4), o5, o6, o7] [.int a4, .ref (k0 + 3), .int a1] (fun n h => rfl) ?_
    obtain ⟨x2, hx2, h⟩ := hq_bind h
    refine hq_iaload rfl (hq_shT_3 m0_) List.length_replicate hx2 ?_
    refine hq_p 4 26 [some (.ref k0), some (.int a1), some (.int a2), some (.int a3), some (.int a4), o5, o6, o7] [.int (1 : Int32), .int ((a1 >>> (x2 &&& 31)) &&& (1 : Int32))] (fun n h => rfl) ?_
    obtain ⟨z3, hz3, h⟩ := hq_bind h
    suffices hT : hq_R (mm_O xs) d mc_X10_lanesOutOf 34 [some (.ref k0), some (.int a1), some (.int a2), some (.int a3), some (.int a4), o5, o6, o7] [.int z3] s g (some (.int y.1)) y.2 from by
      clear h
      have h := hz3
      by_cases c4 : ((a1 >>> (x2 &&& 31)) &&& (1 : Int32)) = (1 : Int32)
      · rw [if_pos c4] at h
        refine hq_icF rfl (hq_c_ne_F c4) ?_
        refine hq_p 2 34 [some (.ref k0), some (.int a1), some (.int a2), some (.int a3), some (.int a4), o5, o6, o7] [.int (1 : Int32)] (fun n h => rfl) ?_
        cases h
        exact hT
      · rw [if_neg c4] at h
        refine hq_icT rfl (hq_c_ne_T c4) ?_
        refine hq_p 1 34 [some (.ref k0), some (.int a1), some (.int a2), some (.int a3), some (.int a4), o5, o6, o7] [.int (0 : Int32)] (fun n h => rfl) ?_
        cases h
        exact hT
    refine hq_p 3 38 [some (.ref k0), some (.int a1), some (.int a2), some (.int a3), some (.int a4), some (.int z3), o6, o7] [.ref k0, .int a1] (fun n h => rfl) ?_
    refine hq_gf (x := .ref (k0 + 4)) rfl (hq_shT m0_) rfl rfl (hq_fldr (hq_shT_u m0_)) ?_
    refine hq_p 1 43 [some (.ref k0), some (.int a1), some (.int a2), some (.int a3), some (.int a4), some (.int z3), o6, o7] [.int a4, .ref (k0 + 4), .int a1] (fun n h => rfl) ?_
    obtain ⟨x5, hx5, h⟩ := hq_bind h
    refine hq_iaload rfl (hq_shT_4 m0_) List.length_replicate hx5 ?_
    refine hq_p 4 48 [some (.ref k0), some (.int a1), some (.int a2), some (.int a3), some (.int a4), some (.int z3), o6, o7] [.int (1 : Int32), .int ((a1 >>> (x5 &&& 31)) &&& (1 : Int32))] (fun n h => rfl) ?_
    obtain ⟨z6, hz6, h⟩ := hq_bind h
    suffices hT : hq_R (mm_O xs) d mc_X10_lanesOutOf 56 [some (.ref k0), some (.int a1), some (.int a2), some (.int a3), some (.int a4), some (.int z3), o6, o7] [.int z6] s g (some (.int y.1)) y.2 from by
      clear h
      have h := hz6
      by_cases c7 : ((a1 >>> (x5 &&& 31)) &&& (1 : Int32)) = (1 : Int32)
      · rw [if_pos c7] at h
        refine hq_icF rfl (hq_c_ne_F c7) ?_
        refine hq_p 2 56 [some (.ref k0), some (.int a1), some (.int a2), some (.int a3), some (.int a4), some (.int z3), o6, o7] [.int (1 : Int32)] (fun n h => rfl) ?_
        cases h
        exact hT
      · rw [if_neg c7] at h
        refine hq_icT rfl (hq_c_ne_T c7) ?_
        refine hq_p 1 56 [some (.ref k0), some (.int a1), some (.int a2), some (.int a3), some (.int a4), some (.int z3), o6, o7] [.int (0 : Int32)] (fun n h => rfl) ?_
        cases h
        exact hT
    refine hq_p 2 60 [some (.ref k0), some (.int a1), some (.int a2), some (.int a3), some (.int a4), some (.int z3), some (.int z6), o7] [.int z3] (fun n h => rfl) ?_
    obtain ⟨z8, hz8, h⟩ := hq_bind h
    suffices hT : hq_R (mm_O xs) d mc_X10_lanesOutOf 92 [some (.ref k0), some (.int a1), some (.int a2), some (.int a3), some (.int a4), some (.int z3), some (.int z6), o7] [.int z8.1] z8.2 g (some (.int y.1)) y.2 from by
      clear h
      have h := hz8
      by_cases c9 : z3 = 0
      · rw [if_pos c9] at h
        refine hq_izT rfl (hq_c_eq_T c9) ?_
        refine hq_p 1 70 [some (.ref k0), some (.int a1), some (.int a2), some (.int a3), some (.int a4), some (.int z3), some (.int z6), o7] [.int z6] (fun n h => rfl) ?_
        by_cases c10 : z6 = 0
        · rw [if_pos c10] at h
          refine hq_izT rfl (hq_c_eq_T c10) ?_
          refine hq_p 1 92 [some (.ref k0), some (.int a1), some (.int a2), some (.int a3), some (.int a4), some (.int z3), some (.int z6), o7] [.int (0 : Int32)] (fun n h => rfl) ?_
          cases h
          exact hT
        · rw [if_neg c10] at h
          refine hq_izF rfl (hq_c_eq_F c10) ?_
          refine hq_p 1 75 [some (.ref k0), some (.int a1), some (.int a2), some (.int a3), some (.int a4), some (.int z3), some (.int z6), o7] [.int z3] (fun n h => rfl) ?_
          by_cases c11 : z3 = 0
          · rw [if_pos c11] at h
            refine hq_izF rfl (hq_c_ne_F c11) ?_
            refine hq_p 2 81 [some (.ref k0), some (.int a1), some (.int a2), some (.int a3), some (.int a4), some (.int z3), some (.int z6), o7] [.int a4, .ref k0] (fun n h => rfl) ?_
            obtain ⟨y12, hy12, h⟩ := hq_bind h
            refine hq_inv rfl rfl (Nat.le_trans (by decide) hd) rfl rfl (hq_rcv (hq_shT m0_) rfl) (f_X10_isOneWay_run (Nat.le_sub_of_add_le (Nat.le_trans (by decide) hd)) m0_ hy12) rfl ?_
            by_cases c13 : y12.1 = 0
            · rw [if_pos c13] at h
              refine hq_izF rfl (hq_c_ne_F c13) ?_
              refine hq_p 2 92 [some (.ref k0), some (.int a1), some (.int a2), some (.int a3), some (.int a4), some (.int z3), some (.int z6), o7] [.int (1 : Int32)] (fun n h => rfl) ?_
              cases h
              exact hT
            · rw [if_neg c13] at h
              refine hq_izT rfl (hq_c_ne_T c13) ?_
              refine hq_p 1 92 [some (.ref k0), some (.int a1), some (.int a2), some (.int a3), some (.int a4), some (.int z3), some (.int z6), o7] [.int (0 : Int32)] (fun n h => rfl) ?_
              cases h
              exact hT
          · rw [if_neg c11] at h
            refine hq_izT rfl (hq_c_ne_T c11) ?_
            refine hq_p 1 92 [some (.ref k0), some (.int a1), some (.int a2), some (.int a3), some (.int a4), some (.int z3), some (.int z6), o7] [.int (0 : Int32)] (fun n h => rfl) ?_
            cases h
            exact hT
      · rw [if_neg c9] at h
        refine hq_izF rfl (hq_c_eq_F c9) ?_
        refine hq_p 1 65 [some (.ref k0), some (.int a1), some (.int a2), some (.int a3), some (.int a4), some (.int z3), some (.int z6), o7] [.int z6] (fun n h => rfl) ?_
        by_cases c14 : z6 = 0
        · rw [if_pos c14] at h
          refine hq_izT rfl (hq_c_eq_T c14) ?_
          refine hq_p 2 92 [some (.ref k0), some (.int a1), some (.int a2), some (.int a3), some (.int a4), some (.int z3), some (.int z6), o7] [.int (1 : Int32)] (fun n h => rfl) ?_
          cases h
          exact hT
        · rw [if_neg c14] at h
          refine hq_izF rfl (hq_c_eq_F c14) ?_
          refine hq_p 1 70 [some (.ref k0), some (.int a1), some (.int a2), some (.int a3), some (.int a4), some (.int z3), some (.int z6), o7] [.int z6] (fun n h => rfl) ?_
          by_cases c15 : z6 = 0
          · rw [if_pos c15] at h
            refine hq_izT rfl (hq_c_eq_T c15) ?_
            refine hq_p 1 92 [some (.ref k0), some (.int a1), some (.int a2), some (.int a3), some (.int a4), some (.int z3), some (.int z6), o7] [.int (0 : Int32)] (fun n h => rfl) ?_
            cases h
            exact hT
          · rw [if_neg c15] at h
            refine hq_izF rfl (hq_c_eq_F c15) ?_
            refine hq_p 1 75 [some (.ref k0), some (.int a1), some (.int a2), some (.int a3), some (.int a4), some (.int z3), some (.int z6), o7] [.int z3] (fun n h => rfl) ?_
            by_cases c16 : z3 = 0
            · rw [if_pos c16] at h
              refine hq_izF rfl (hq_c_ne_F c16) ?_
              refine hq_p 2 81 [some (.ref k0), some (.int a1), some (.int a2), some (.int a3), some (.int a4), some (.int z3), some (.int z6), o7] [.int a4, .ref k0] (fun n h => rfl) ?_
              obtain ⟨y17, hy17, h⟩ := hq_bind h
              refine hq_inv rfl rfl (Nat.le_trans (by decide) hd) rfl rfl (hq_rcv (hq_shT m0_) rfl) (f_X10_isOneWay_run (Nat.le_sub_of_add_le (Nat.le_trans (by decide) hd)) m0_ hy17) rfl ?_
              by_cases c18 : y17.1 = 0
              · rw [if_pos c18] at h
                refine hq_izF rfl (hq_c_ne_F c18) ?_
                refine hq_p 2 92 [some (.ref k0), some (.int a1), some (.int a2), some (.int a3), some (.int a4), some (.int z3), some (.int z6), o7] [.int (1 : Int32)] (fun n h => rfl) ?_
                cases h
                exact hT
              · rw [if_neg c18] at h
                refine hq_izT rfl (hq_c_ne_T c18) ?_
                refine hq_p 1 92 [some (.ref k0), some (.int a1), some (.int a2), some (.int a3), some (.int a4), some (.int z3), some (.int z6), o7] [.int (0 : Int32)] (fun n h => rfl) ?_
                cases h
                exact hT
            · rw [if_neg c16] at h
              refine hq_izT rfl (hq_c_ne_T c16) ?_
              refine hq_p 1 92 [some (.ref k0), some (.int a1), some (.int a2), some (.int a3), some (.int a4), some (.int z3), some (.int z6), o7] [.int (0 : Int32)] (fun n h => rfl) ?_
              cases h
              exact hT
    refine hq_p 3 97 [some (.ref k0), some (.int a1), some (.int a2), some (.int a3), some (.int a4), some (.int z3), some (.int z6), some (.int z8.1)] [.int z8.1, .int a3] (fun n h => rfl) ?_
    obtain ⟨z19, hz19, h⟩ := hq_bind h
    suffices hT : hq_R (mm_O xs) d mc_X10_lanesOutOf 114 [some (.ref k0), some (.int a1), some (.int a2), some (.int a3), some (.int a4), some (.int z3), some (.int z6), some (.int z8.1)] [.int z19, .int a3] z8.2 g (some (.int y.1)) y.2 from by
      clear h
      have h := hz19
      by_cases c20 : z8.1 = 0
      · rw [if_pos c20] at h
        refine hq_izT rfl (hq_c_eq_T c20) ?_
        refine hq_p 1 114 [some (.ref k0), some (.int a1), some (.int a2), some (.int a3), some (.int a4), some (.int z3), some (.int z6), some (.int z8.1)] [.int (0 : Int32), .int a3] (fun n h => rfl) ?_
        cases h
        exact hT
      · rw [if_neg c20] at h
        refine hq_izF rfl (hq_c_eq_F c20) ?_
        refine hq_p 5 106 [some (.ref k0), some (.int a1), some (.int a2), some (.int a3), some (.int a4), some (.int z3), some (.int z6), some (.int z8.1)] [.int ((a2 >>> (a4 &&& 31)) &&& (1 : Int32)), .int a3] (fun n h => rfl) ?_
        by_cases c21 : ((a2 >>> (a4 &&& 31)) &&& (1 : Int32)) = 0
        · rw [if_pos c21] at h
          refine hq_izF rfl (hq_c_ne_F c21) ?_
          refine hq_p 2 114 [some (.ref k0), some (.int a1), some (.int a2), some (.int a3), some (.int a4), some (.int z3), some (.int z6), some (.int z8.1)] [.int (1 : Int32), .int a3] (fun n h => rfl) ?_
          cases h
          exact hT
        · rw [if_neg c21] at h
          refine hq_izT rfl (hq_c_ne_T c21) ?_
          refine hq_p 1 114 [some (.ref k0), some (.int a1), some (.int a2), some (.int a3), some (.int a4), some (.int z3), some (.int z6), some (.int z8.1)] [.int (0 : Int32), .int a3] (fun n h => rfl) ?_
          cases h
          exact hT
    refine hq_p 4 5 [some (.ref k0), some (.int a1), some (.int a2), some (.int (a3 + z19)), some (.int (a4 + (1 : Int32))), some (.int z3), some (.int z6), some (.int z8.1)] [] (fun n h => rfl) ?_
    exact e5 k0 a1 a2 (a3 + z19) (a4 + (1 : Int32)) _ _ _ z8.2 m0_ h
  · rw [if_neg c1] at h
    refine hq_icT rfl (hq_c_ge_T c1) ?_
    refine hq_p 1 123 [some (.ref k0), some (.int a1), some (.int a2), some (.int a3), some (.int a4), o5, o6, o7] [.int a3] (fun n h => rfl) ?_
    have h := Option.some.inj h
    subst h
    exact ⟨1, rfl⟩
theorem f_X10_lanesOutOf_L5_run {xs : List Int32} {n m d g : Nat} {k0 : Nat} {a1 : Int32} {a2 : Int32} {a3 : Int32} {a4 : Int32} {o5 : Option Value} {o6 : Option Value} {o7 : Option Value} {s : hq_S} {y : (Int32 × hq_S)} (hd : 1 ≤ d) (m0_ : hq_isT k0) (h : f_X10_lanesOutOf_L5 n m k0 a1 a2 a3 a4 s = some y) : hq_R (mm_O xs) d mc_X10_lanesOutOf 5 [some (.ref k0), some (.int a1), some (.int a2), some (.int a3), some (.int a4), o5, o6, o7] [] s g (some (.int y.1)) y.2 := by
  induction m generalizing k0 a1 a2 a3 a4 o5 o6 o7 s with
  | zero => cases h
  | succ m ih => exact f_X10_lanesOutOf_L5_Brun (n := n) hd (fun k0 a1 a2 a3 a4 o5 o6 o7 s m0_ h => ih m0_ h) m0_ h
def f_X10_lanesOutOf (n : Nat) (k0 : Nat) (a1 : Int32) (a2 : Int32) (s : hq_S) : Option (Int32 × hq_S) := f_X10_lanesOutOf_L5 n n k0 a1 a2 (0 : Int32) (0 : Int32) s
theorem f_X10_lanesOutOf_run {xs : List Int32} {n d g : Nat} {k0 : Nat} {a1 : Int32} {a2 : Int32} {s : hq_S} {y : (Int32 × hq_S)} (hd : 1 ≤ d) (m0_ : hq_isT k0) (h : f_X10_lanesOutOf n k0 a1 a2 s = some y) : hq_R (mm_O xs) d mc_X10_lanesOutOf 0 [some (.ref k0), some (.int a1), some (.int a2), none, none, none, none, none] [] s g (some (.int y.1)) y.2 := by
  unfold f_X10_lanesOutOf at h
  refine hq_p 4 5 [some (.ref k0), some (.int a1), some (.int a2), some (.int (0 : Int32)), some (.int (0 : Int32)), none, none, none] [] (fun n h => rfl) ?_
  exact f_X10_lanesOutOf_L5_run hd m0_ h
def f_X10_fewestBars_L7_B (n : Nat) (q7 : Nat → Int32 → Int32 → Int32 → Int32 → Int32 → hq_S → Option (Int32 × hq_S)) (k0 : Nat) (a1 : Int32) (a2 : Int32) (a3 : Int32) (a4 : Int32) (a5 : Int32) (s : hq_S) : Option (Int32 × hq_S) := if a5 < ((1 : Int32) <<< ((hq_gi s k0 0) &&& 31)) then (if ((a5 >>> (a2 &&& 31)) &&& (1 : Int32)) = (1 : Int32) then if ((a5 >>> (a3 &&& 31)) &&& (1 : Int32)) = 0 then (f_X10_lanesOutOf n k0 a5 a1 s).bind fun y5 => some ((hq_min a4 y5.1), y5.2) else some (a4, s) else some (a4, s)).bind fun z2 => q7 k0 a1 a2 a3 z2.1 (a5 + (1 : Int32)) z2.2 else some (a4, s)
def f_X10_fewestBars_L7 (n : Nat) (m : Nat) : Nat → Int32 → Int32 → Int32 → Int32 → Int32 → hq_S → Option (Int32 × hq_S) := Nat.rec (fun _ _ _ _ _ _ _ => none) (fun _ q => f_X10_fewestBars_L7_B n q) m
theorem f_X10_fewestBars_L7_Brun {xs : List Int32} {n d g : Nat} {k0 : Nat} {a1 : Int32} {a2 : Int32} {a3 : Int32} {a4 : Int32} {a5 : Int32} {q7 : Nat → Int32 → Int32 → Int32 → Int32 → Int32 → hq_S → Option (Int32 × hq_S)} {s : hq_S} {y : (Int32 × hq_S)} (hd : 2 ≤ d) (e7 : ∀ (k0 : Nat) (a1 : Int32) (a2 : Int32) (a3 : Int32) (a4 : Int32) (a5 : Int32) (s : hq_S) (m0_ : hq_isT k0), q7 k0 a1 a2 a3 a4 a5 s = some y → hq_R (mm_O xs) d mc_X10_fewestBars 7 [some (.ref k0), some (.int a1), some (.int a2), some (.int a3), some (.int a4), some (.int a5)] [] s g (some (.int y.1)) y.2) (m0_ : hq_isT k0) (h : f_X10_fewestBars_L7_B n q7 k0 a1 a2 a3 a4 a5 s = some y) : hq_R (mm_O xs) d mc_X10_fewestBars 7 [some (.ref k0), some (.int a1), some (.int a2), some (.int a3), some (.int a4), some (.int a5)] [] s g (some (.int y.1)) y.2 := by
  unfold f_X10_fewestBars_L7_B at h
  refine hq_p 3 11 [some (.ref k0), some (.int a1), some (.int a2), some (.int a3), some (.int a4), some (.int a5)] [.ref k0, .int (1 : Int32), .int a5] (fun n h => rfl) ?_
  refine hq_gf (x := .int (hq_gi s k0 0)) rfl (hq_shT m0_) rfl rfl rfl ?_
  refine hq_p 1 15 [some (.ref k0), some (.int a1), some (.int a2), some (.int a3), some (.int a4), some (.int a5)] [.int ((1 : Int32) <<< ((hq_gi s k0 0) &&& 31)), .int a5] (fun n h => rfl) ?_
  by_cases c1 : a5 < ((1 : Int32) <<< ((hq_gi s k0 0) &&& 31))
  · rw [if_pos c1] at h
    refine hq_icF rfl (hq_c_ge_F c1) ?_
    refine hq_p 6 25 [some (.ref k0), some (.int a1), some (.int a2), some (.int a3), some (.int a4), some (.int a5)] [.int (1 : Int32), .int ((a5 >>> (a2 &&& 31)) &&& (1 : Int32))] (fun n h => rfl) ?_
    obtain ⟨z2, hz2, h⟩ := hq_bind h
    suffices hT : hq_R (mm_O xs) d mc_X10_fewestBars 51 [some (.ref k0), some (.int a1), some (.int a2), some (.int a3), some (.int z2.1), some (.int a5)] [] z2.2 g (some (.int y.1)) y.2 from by
      clear h
      have h := hz2
      by_cases c3 : ((a5 >>> (a2 &&& 31)) &&& (1 : Int32)) = (1 : Int32)
      · rw [if_pos c3] at h
        refine hq_icF rfl (hq_c_ne_F c3) ?_
        refine hq_p 5 34 [some (.ref k0), some (.int a1), some (.int a2), some (.int a3), some (.int a4), some (.int a5)] [.int ((a5 >>> (a3 &&& 31)) &&& (1 : Int32))] (fun n h => rfl) ?_
        by_cases c4 : ((a5 >>> (a3 &&& 31)) &&& (1 : Int32)) = 0
        · rw [if_pos c4] at h
          refine hq_izF rfl (hq_c_ne_F c4) ?_
          refine hq_p 4 43 [some (.ref k0), some (.int a1), some (.int a2), some (.int a3), some (.int a4), some (.int a5)] [.int a1, .int a5, .ref k0, .int a4] (fun n h => rfl) ?_
          obtain ⟨y5, hy5, h⟩ := hq_bind h
          refine hq_inv rfl rfl (Nat.le_trans (by decide) hd) rfl rfl (hq_rcv (hq_shT m0_) rfl) (f_X10_lanesOutOf_run (Nat.le_sub_of_add_le (Nat.le_trans (by decide) hd)) m0_ hy5) rfl ?_
          refine hq_math rfl rfl rfl (Nat.le_trans (by decide) hd) ?_
          refine hq_p 1 51 [some (.ref k0), some (.int a1), some (.int a2), some (.int a3), some (.int (hq_min a4 y5.1)), some (.int a5)] [] (fun n h => rfl) ?_
          cases h
          exact hT
        · rw [if_neg c4] at h
          refine hq_izT rfl (hq_c_ne_T c4) ?_
          cases h
          exact hT
      · rw [if_neg c3] at h
        refine hq_icT rfl (hq_c_ne_T c3) ?_
        cases h
        exact hT
    refine hq_p 2 7 [some (.ref k0), some (.int a1), some (.int a2), some (.int a3), some (.int z2.1), some (.int (a5 + (1 : Int32)))] [] (fun n h => rfl) ?_
    exact e7 k0 a1 a2 a3 z2.1 (a5 + (1 : Int32)) z2.2 m0_ h
  · rw [if_neg c1] at h
    refine hq_icT rfl (hq_c_ge_T c1) ?_
    refine hq_p 1 59 [some (.ref k0), some (.int a1), some (.int a2), some (.int a3), some (.int a4), some (.int a5)] [.int a4] (fun n h => rfl) ?_
    have h := Option.some.inj h
    subst h
    exact ⟨1, rfl⟩
theorem f_X10_fewestBars_L7_run {xs : List Int32} {n m d g : Nat} {k0 : Nat} {a1 : Int32} {a2 : Int32} {a3 : Int32} {a4 : Int32} {a5 : Int32} {s : hq_S} {y : (Int32 × hq_S)} (hd : 2 ≤ d) (m0_ : hq_isT k0) (h : f_X10_fewestBars_L7 n m k0 a1 a2 a3 a4 a5 s = some y) : hq_R (mm_O xs) d mc_X10_fewestBars 7 [some (.ref k0), some (.int a1), some (.int a2), some (.int a3), some (.int a4), some (.int a5)] [] s g (some (.int y.1)) y.2 := by
  induction m generalizing k0 a1 a2 a3 a4 a5 s with
  | zero => cases h
  | succ m ih => exact f_X10_fewestBars_L7_Brun (n := n) hd (fun k0 a1 a2 a3 a4 a5 s m0_ h => ih m0_ h) m0_ h
def f_X10_fewestBars (n : Nat) (k0 : Nat) (a1 : Int32) (a2 : Int32) (a3 : Int32) (s : hq_S) : Option (Int32 × hq_S) := f_X10_fewestBars_L7 n n k0 a1 a2 a3 (20 : Int32) (0 : Int32) s
theorem f_X10_fewestBars_run {xs : List Int32} {n d g : Nat} {k0 : Nat} {a1 : Int32} {a2 : Int32} {a3 : Int32} {s : hq_S} {y : (Int32 × hq_S)} (hd : 2 ≤ d) (m0_ : hq_isT k0) (h : f_X10_fewestBars n k0 a1 a2 a3 s = some y) : hq_R (mm_O xs) d mc_X10_fewestBars 0 [some (.ref k0), some (.int a1), some (.int a2), some (.int a3), none, none] [] s g (some (.int y.1)) y.2 := by
  unfold f_X10_fewestBars at h
  refine hq_bip (20 : Int32) rfl (by decide) ?_
  refine hq_p 3 7 [some (.ref k0), some (.int a1), some (.int a2), some (.int a3), some (.int (20 : Int32)), some (.int (0 : Int32))] [] (fun n h => rfl) ?_
  exact f_X10_fewestBars_L7_run hd m0_ h
def f_X11_putFour_L3_B (n : Nat) (q3 : Int32 → Int32 → hq_S → Option hq_S) (a1 : Int32) (a2 : Int32) (s : hq_S) : Option hq_S := if a2 < 0 then some s else if (hq_gi s 0 1) < (700 : Int32) then (hq_st s 1 700 (hq_gi s 0 1) (hq_nar .byte (a1 >>> (a2 &&& 31)).toInt8.toInt32)).bind fun s3 => (hq_pi s3 0 1 0 ((hq_gi s3 0 1) + (1 : Int32))).bind fun s4 => q3 a1 (a2 + Int32.ofInt (-8)) s4 else some s
def f_X11_putFour_L3 (n : Nat) (m : Nat) : Int32 → Int32 → hq_S → Option hq_S := Nat.rec (fun _ _ _ => none) (fun _ q => f_X11_putFour_L3_B n q) m
theorem f_X11_putFour_L3_Brun {xs : List Int32} {n d g : Nat} {a1 : Int32} {a2 : Int32} {q3 : Int32 → Int32 → hq_S → Option hq_S} {s : hq_S} {y : hq_S} (hd : 0 ≤ d) (e3 : ∀ (a1 : Int32) (a2 : Int32) (s : hq_S), q3 a1 a2 s = some y → hq_R (mm_O xs) d mc_X11_putFour 3 [some (.ref 0), some (.int a1), some (.int a2)] [] s g none y) (h : f_X11_putFour_L3_B n q3 a1 a2 s = some y) : hq_R (mm_O xs) d mc_X11_putFour 3 [some (.ref 0), some (.int a1), some (.int a2)] [] s g none y := by
  unfold f_X11_putFour_L3_B at h
  refine hq_p 1 4 [some (.ref 0), some (.int a1), some (.int a2)] [.int a2] (fun n h => rfl) ?_
  by_cases c1 : a2 < 0
  · rw [if_pos c1] at h
    refine hq_izT rfl (hq_c_lt_T c1) ?_
    have h := Option.some.inj h
    subst h
    exact ⟨1, rfl⟩
  · rw [if_neg c1] at h
    refine hq_izF rfl (hq_c_lt_F c1) ?_
    refine hq_p 1 8 [some (.ref 0), some (.int a1), some (.int a2)] [.ref 0] (fun n h => rfl) ?_
    refine hq_gf (x := .int (hq_gi s 0 1)) rfl rfl rfl rfl rfl ?_
    refine hq_p 1 12 [some (.ref 0), some (.int a1), some (.int a2)] [.ref 0, .int (hq_gi s 0 1)] (fun n h => rfl) ?_
    refine hq_gf (x := .ref 1) rfl rfl rfl rfl rfl ?_
    refine hq_alen rfl rfl rfl List.length_replicate (x := (700 : Int32)) rfl ?_
    by_cases c2 : (hq_gi s 0 1) < (700 : Int32)
    · rw [if_pos c2] at h
      refine hq_icF rfl (hq_c_ge_F c2) ?_
      refine hq_p 1 20 [some (.ref 0), some (.int a1), some (.int a2)] [.ref 0] (fun n h => rfl) ?_
      refine hq_gf (x := .ref 1) rfl rfl rfl rfl rfl ?_
      refine hq_p 1 24 [some (.ref 0), some (.int a1), some (.int a2)] [.ref 0, .ref 1] (fun n h => rfl) ?_
      refine hq_gf (x := .int (hq_gi s 0 1)) rfl rfl rfl rfl rfl ?_
      refine hq_p 4 31 [some (.ref 0), some (.int a1), some (.int a2)] [.int (a1 >>> (a2 &&& 31)).toInt8.toInt32, .int (hq_gi s 0 1), .ref 1] (fun n h => rfl) ?_
      obtain ⟨s3, hs3, h⟩ := hq_bind h
      refine hq_bastore rfl rfl (by decide) List.length_replicate hs3 ?_
      refine hq_p 2 34 [some (.ref 0), some (.int a1), some (.int a2)] [.ref 0, .ref 0] (fun n h => rfl) ?_
      refine hq_gf (x := .int (hq_gi s3 0 1)) rfl rfl rfl rfl rfl ?_
      refine hq_p 2 39 [some (.ref 0), some (.int a1), some (.int a2)] [.int ((hq_gi s3 0 1) + (1 : Int32)), .ref 0] (fun n h => rfl) ?_
      obtain ⟨s4, hs4, h⟩ := hq_bind h
      refine hq_pfi rfl rfl rfl rfl rfl hs4 ?_
      refine hq_iinc (a2 + Int32.ofInt (-8)) [some (.ref 0), some (.int a1), some (.int (a2 + Int32.ofInt (-8)))] rfl rfl rfl rfl ?_
      refine hq_p 1 3 [some (.ref 0), some (.int a1), some (.int (a2 + Int32.ofInt (-8)))] [] (fun n h => rfl) ?_
      exact e3 a1 (a2 + Int32.ofInt (-8)) s4 h
    · rw [if_neg c2] at h
      refine hq_icT rfl (hq_c_ge_T c2) ?_
      have h := Option.some.inj h
      subst h
      exact ⟨1, rfl⟩
theorem f_X11_putFour_L3_run {xs : List Int32} {n m d g : Nat} {a1 : Int32} {a2 : Int32} {s : hq_S} {y : hq_S} (hd : 0 ≤ d) (h : f_X11_putFour_L3 n m a1 a2 s = some y) : hq_R (mm_O xs) d mc_X11_putFour 3 [some (.ref 0), some (.int a1), some (.int a2)] [] s g none y := by
  induction m generalizing a1 a2 s with
  | zero => cases h
  | succ m ih => exact f_X11_putFour_L3_Brun (n := n) hd (fun a1 a2 s h => ih h) h
def f_X11_putFour (n : Nat) (a1 : Int32) (s : hq_S) : Option hq_S := f_X11_putFour_L3 n n a1 (24 : Int32) s
theorem f_X11_putFour_run {xs : List Int32} {n d g : Nat} {a1 : Int32} {s : hq_S} {y : hq_S} (hd : 0 ≤ d) (h : f_X11_putFour n a1 s = some y) : hq_R (mm_O xs) d mc_X11_putFour 0 [some (.ref 0), some (.int a1), none] [] s g none y := by
  unfold f_X11_putFour at h
  refine hq_bip (24 : Int32) rfl (by decide) ?_
  refine hq_p 1 3 [some (.ref 0), some (.int a1), some (.int (24 : Int32))] [] (fun n h => rfl) ?_
  exact f_X11_putFour_L3_run hd h
def f_X11_feed (n : Nat) (a1 : Int32) (a2 : Int32) (a3 : Int32) (a4 : Int32) (a5 : Int32) (s : hq_S) : Option (Int32 × hq_S) := if (700 : Int32) < ((hq_gi s 0 1) + (20 : Int32)) then some ((-1 : Int32), s) else (f_X11_putFour n a1 s).bind fun s2 => (f_X11_putFour n a2 s2).bind fun s3 => (f_X11_putFour n a3 s3).bind fun s4 => (f_X11_putFour n a4 s4).bind fun s5 => (f_X11_putFour n a5 s5).bind fun s6 => some ((hq_gi s6 0 1), s6)
theorem f_X11_feed_run {xs : List Int32} {n d g : Nat} {a1 : Int32} {a2 : Int32} {a3 : Int32} {a4 : Int32} {a5 : Int32} {s : hq_S} {y : (Int32 × hq_S)} (hd : 1 ≤ d) (h : f_X11_feed n a1 a2 a3 a4 a5 s = some y) : hq_R (mm_O xs) d mc_X11_feed 0 [some (.ref 0), some (.int a1), some (.int a2), some (.int a3), some (.int a4), some (.int a5)] [] s g (some (.int y.1)) y.2 := by
  unfold f_X11_feed at h
  refine hq_p 1 1 [some (.ref 0), some (.int a1), some (.int a2), some (.int a3), some (.int a4), some (.int a5)] [.ref 0] (fun n h => rfl) ?_
  refine hq_gf (x := .int (hq_gi s 0 1)) rfl rfl rfl rfl rfl ?_
  refine hq_bip (20 : Int32) rfl (by decide) ?_
  refine hq_p 1 7 [some (.ref 0), some (.int a1), some (.int a2), some (.int a3), some (.int a4), some (.int a5)] [.int ((hq_gi s 0 1) + (20 : Int32))] (fun n h => rfl) ?_
  refine hq_sip (700 : Int32) rfl (by decide) ?_
  by_cases c1 : (700 : Int32) < ((hq_gi s 0 1) + (20 : Int32))
  · rw [if_pos c1] at h
    refine hq_icF rfl (hq_c_le_F c1) ?_
    refine hq_icn (-1 : Int32) rfl (by decide) ?_
    have h := Option.some.inj h
    subst h
    exact ⟨1, rfl⟩
  · rw [if_neg c1] at h
    refine hq_icT rfl (hq_c_le_T c1) ?_
    refine hq_p 2 17 [some (.ref 0), some (.int a1), some (.int a2), some (.int a3), some (.int a4), some (.int a5)] [.int a1, .ref 0] (fun n h => rfl) ?_
    obtain ⟨s2, hs2, h⟩ := hq_bind h
    refine hq_inv rfl rfl (Nat.le_trans (by decide) hd) rfl rfl (hq_rcv rfl rfl) (f_X11_putFour_run (Nat.le_sub_of_add_le (Nat.le_trans (by decide) hd)) hs2) rfl ?_
    refine hq_p 2 22 [some (.ref 0), some (.int a1), some (.int a2), some (.int a3), some (.int a4), some (.int a5)] [.int a2, .ref 0] (fun n h => rfl) ?_
    obtain ⟨s3, hs3, h⟩ := hq_bind h
    refine hq_inv rfl rfl (Nat.le_trans (by decide) hd) rfl rfl (hq_rcv rfl rfl) (f_X11_putFour_run (Nat.le_sub_of_add_le (Nat.le_trans (by decide) hd)) hs3) rfl ?_
    refine hq_p 2 27 [some (.ref 0), some (.int a1), some (.int a2), some (.int a3), some (.int a4), some (.int a5)] [.int a3, .ref 0] (fun n h => rfl) ?_
    obtain ⟨s4, hs4, h⟩ := hq_bind h
    refine hq_inv rfl rfl (Nat.le_trans (by decide) hd) rfl rfl (hq_rcv rfl rfl) (f_X11_putFour_run (Nat.le_sub_of_add_le (Nat.le_trans (by decide) hd)) hs4) rfl ?_
    refine hq_p 2 33 [some (.ref 0), some (.int a1), some (.int a2), some (.int a3), some (.int a4), some (.int a5)] [.int a4, .ref 0] (fun n h => rfl) ?_
    obtain ⟨s5, hs5, h⟩ := hq_bind h
    refine hq_inv rfl rfl (Nat.le_trans (by decide) hd) rfl rfl (hq_rcv rfl rfl) (f_X11_putFour_run (Nat.le_sub_of_add_le (Nat.le_trans (by decide) hd)) hs5) rfl ?_
    refine hq_p 2 39 [some (.ref 0), some (.int a1), some (.int a2), some (.int a3), some (.int a4), some (.int a5)] [.int a5, .ref 0] (fun n h => rfl) ?_
    obtain ⟨s6, hs6, h⟩ := hq_bind h
    refine hq_inv rfl rfl (Nat.le_trans (by decide) hd) rfl rfl (hq_rcv rfl rfl) (f_X11_putFour_run (Nat.le_sub_of_add_le (Nat.le_trans (by decide) hd)) hs6) rfl ?_
    refine hq_p 1 43 [some (.ref 0), some (.int a1), some (.int a2), some (.int a3), some (.int a4), some (.int a5)] [.ref 0] (fun n h => rfl) ?_
    refine hq_gf (x := .int (hq_gi s6 0 1)) rfl rfl rfl rfl rfl ?_
    have h := Option.some.inj h
    subst h
    exact ⟨1, rfl⟩
def f_X11_text (n : Nat) (a1 : Int32) (s : hq_S) : Option (Int32 × hq_S) := if a1 < 0 then some ((-2 : Int32), s) else if (hq_gi s 0 1) < a1 then some ((-2 : Int32), s) else (hq_pi s 0 1 0 (0 : Int32)).bind fun s3 => if hq_isT (hq_gr s3 0 3) then (f_X6_readText n 1 a1 (hq_gr s3 0 3) s3).bind fun y5 => if y5.1 = 0 then some ((-1 : Int32), y5.2) else if hq_isT (hq_gr y5.2 0 3) then if hq_isT (hq_gr y5.2 0 2) then (hq_pr y5.2 0 3 (hq_gr y5.2 0 2)).bind fun s9 => (hq_pr s9 0 2 (hq_gr y5.2 0 3)).bind fun s10 => if hq_isT (hq_gr s10 0 2) then (f_X5_copyFrom n 76 ((hq_gr s10 0 2) + 14) s10).bind fun s12 => if hq_isT (hq_gr s12 0 2) then (f_X8_build n 103 (hq_gr s12 0 2) (0 : Int32) (0 : Int32) s12).bind fun s14 => (f_X2_clear n s14).bind fun s15 => (f_X1_clear n s15).bind fun s16 => (hq_pi s16 0 7 1 (0 : Int32)).bind fun s17 => some ((hq_gi s17 48 9), s17) else none else none else none else none else none
theorem f_X11_text_run {xs : List Int32} {n d g : Nat} {a1 : Int32} {s : hq_S} {y : (Int32 × hq_S)} (hd : 7 ≤ d) (h : f_X11_text n a1 s = some y) : hq_R (mm_O xs) d mc_X11_text 0 [some (.ref 0), some (.int a1), none] [] s g (some (.int y.1)) y.2 := by
  unfold f_X11_text at h
  refine hq_p 1 1 [some (.ref 0), some (.int a1), none] [.int a1] (fun n h => rfl) ?_
  by_cases c1 : a1 < 0
  · rw [if_pos c1] at h
    refine hq_izT rfl (hq_c_lt_T c1) ?_
    refine hq_bip (-2 : Int32) rfl (by decide) ?_
    have h := Option.some.inj h
    subst h
    exact ⟨1, rfl⟩
  · rw [if_neg c1] at h
    refine hq_izF rfl (hq_c_lt_F c1) ?_
    refine hq_p 2 6 [some (.ref 0), some (.int a1), none] [.ref 0, .int a1] (fun n h => rfl) ?_
    refine hq_gf (x := .int (hq_gi s 0 1)) rfl rfl rfl rfl rfl ?_
    by_cases c2 : (hq_gi s 0 1) < a1
    · rw [if_pos c2] at h
      refine hq_icF rfl (hq_c_le_F c2) ?_
      refine hq_bip (-2 : Int32) rfl (by decide) ?_
      have h := Option.some.inj h
      subst h
      exact ⟨1, rfl⟩
    · rw [if_neg c2] at h
      refine hq_icT rfl (hq_c_le_T c2) ?_
      refine hq_p 2 17 [some (.ref 0), some (.int a1), none] [.int (0 : Int32), .ref 0] (fun n h => rfl) ?_
      obtain ⟨s3, hs3, h⟩ := hq_bind h
      refine hq_pfi rfl rfl rfl rfl rfl hs3 ?_
      refine hq_p 1 21 [some (.ref 0), some (.int a1), none] [.ref 0] (fun n h => rfl) ?_
      refine hq_gf (x := .ref 48) rfl rfl rfl rfl rfl ?_
      refine hq_p 1 25 [some (.ref 0), some (.int a1), none] [.ref 0, .ref 48] (fun n h => rfl) ?_
      refine hq_gf (x := .ref 1) rfl rfl rfl rfl rfl ?_
      refine hq_p 2 30 [some (.ref 0), some (.int a1), none] [.ref 0, .int a1, .ref 1, .ref 48] (fun n h => rfl) ?_
      refine hq_gf (x := .ref (hq_gr s3 0 3)) rfl rfl rfl rfl rfl ?_
      have m4 : hq_isT (hq_gr s3 0 3) := hq_ifT h
      rw [if_pos m4] at h
      obtain ⟨y5, hy5, h⟩ := hq_bind h
      refine hq_inv rfl rfl (Nat.le_trans (by decide) hd) rfl rfl (hq_rcv rfl rfl) (f_X6_readText_run (Nat.le_sub_of_add_le (Nat.le_trans (by decide) hd)) m4 hy5) rfl ?_
      by_cases c6 : y5.1 = 0
      · rw [if_pos c6] at h
        refine hq_izF rfl (hq_c_ne_F c6) ?_
        refine hq_icn (-1 : Int32) rfl (by decide) ?_
        have h := Option.some.inj h
        subst h
        exact ⟨1, rfl⟩
      · rw [if_neg c6] at h
        refine hq_izT rfl (hq_c_ne_T c6) ?_
        refine hq_p 1 42 [some (.ref 0), some (.int a1), none] [.ref 0] (fun n h => rfl) ?_
        refine hq_gf (x := .ref (hq_gr y5.2 0 3)) rfl rfl rfl rfl rfl ?_
        have m7 : hq_isT (hq_gr y5.2 0 3) := hq_ifT h
        rw [if_pos m7] at h
        refine hq_p 3 48 [some (.ref 0), some (.int a1), some (.ref (hq_gr y5.2 0 3))] [.ref 0, .ref 0] (fun n h => rfl) ?_
        refine hq_gf (x := .ref (hq_gr y5.2 0 2)) rfl rfl rfl rfl rfl ?_
        have m8 : hq_isT (hq_gr y5.2 0 2) := hq_ifT h
        rw [if_pos m8] at h
        obtain ⟨s9, hs9, h⟩ := hq_bind h
        refine hq_pfr rfl rfl rfl rfl rfl rfl hs9 ?_
        refine hq_p 2 56 [some (.ref 0), some (.int a1), some (.ref (hq_gr y5.2 0 3))] [.ref (hq_gr y5.2 0 3), .ref 0] (fun n h => rfl) ?_
        obtain ⟨s10, hs10, h⟩ := hq_bind h
        refine hq_pfr rfl rfl rfl rfl rfl rfl hs10 ?_
        refine hq_p 1 60 [some (.ref 0), some (.int a1), some (.ref (hq_gr y5.2 0 3))] [.ref 0] (fun n h => rfl) ?_
        refine hq_gf (x := .ref 76) rfl rfl rfl rfl rfl ?_
        refine hq_p 1 64 [some (.ref 0), some (.int a1), some (.ref (hq_gr y5.2 0 3))] [.ref 0, .ref 76] (fun n h => rfl) ?_
        refine hq_gf (x := .ref (hq_gr s10 0 2)) rfl rfl rfl rfl rfl ?_
        have m11 : hq_isT (hq_gr s10 0 2) := hq_ifT h
        rw [if_pos m11] at h
        refine hq_gf (x := .ref ((hq_gr s10 0 2) + 14)) rfl (hq_shT m11) rfl rfl (hq_fldr (hq_shT_u m11)) ?_
        obtain ⟨s12, hs12, h⟩ := hq_bind h
        refine hq_inv rfl rfl (Nat.le_trans (by decide) hd) rfl rfl (hq_rcv (hq_shN (by decide)) rfl) (f_X5_copyFrom_run (Nat.le_sub_of_add_le (Nat.le_trans (by decide) hd)) (by decide) (hq_shT_m14 m11) hs12) rfl ?_
        refine hq_p 1 74 [some (.ref 0), some (.int a1), some (.ref (hq_gr y5.2 0 3))] [.ref 0] (fun n h => rfl) ?_
        refine hq_gf (x := .ref 103) rfl rfl rfl rfl rfl ?_
        refine hq_p 1 78 [some (.ref 0), some (.int a1), some (.ref (hq_gr y5.2 0 3))] [.ref 0, .ref 103] (fun n h => rfl) ?_
        refine hq_gf (x := .ref (hq_gr s12 0 2)) rfl rfl rfl rfl rfl ?_
        have m13 : hq_isT (hq_gr s12 0 2) := hq_ifT h
        rw [if_pos m13] at h
        refine hq_p 2 83 [some (.ref 0), some (.int a1), some (.ref (hq_gr y5.2 0 3))] [.int (0 : Int32), .int (0 : Int32), .ref (hq_gr s12 0 2), .ref 103] (fun n h => rfl) ?_
        obtain ⟨s14, hs14, h⟩ := hq_bind h
        refine hq_inv rfl rfl (Nat.le_trans (by decide) hd) rfl rfl (hq_rcv (hq_shS (by decide)) rfl) (f_X8_build_run (Nat.le_sub_of_add_le (Nat.le_trans (by decide) hd)) (by decide) m13 hs14) rfl ?_
        refine hq_p 1 87 [some (.ref 0), some (.int a1), some (.ref (hq_gr y5.2 0 3))] [.ref 0] (fun n h => rfl) ?_
        refine hq_gf (x := .ref 163) rfl rfl rfl rfl rfl ?_
        obtain ⟨s15, hs15, h⟩ := hq_bind h
        refine hq_inv rfl rfl (Nat.le_trans (by decide) hd) rfl rfl (hq_rcv rfl rfl) (f_X2_clear_run (Nat.le_sub_of_add_le (Nat.le_trans (by decide) hd)) hs15) rfl ?_
        refine hq_p 1 94 [some (.ref 0), some (.int a1), some (.ref (hq_gr y5.2 0 3))] [.ref 0] (fun n h => rfl) ?_
        refine hq_gf (x := .ref 170) rfl rfl rfl rfl rfl ?_
        obtain ⟨s16, hs16, h⟩ := hq_bind h
        refine hq_inv rfl rfl (Nat.le_trans (by decide) hd) rfl rfl (hq_rcv rfl rfl) (f_X1_clear_run (Nat.le_sub_of_add_le (Nat.le_trans (by decide) hd)) hs16) rfl ?_
        refine hq_p 2 102 [some (.ref 0), some (.int a1), some (.ref (hq_gr y5.2 0 3))] [.int (0 : Int32), .ref 0] (fun n h => rfl) ?_
        obtain ⟨s17, hs17, h⟩ := hq_bind h
        refine hq_pfi rfl rfl rfl rfl rfl hs17 ?_
        refine hq_p 1 106 [some (.ref 0), some (.int a1), some (.ref (hq_gr y5.2 0 3))] [.ref 0] (fun n h => rfl) ?_
        refine hq_gf (x := .ref 48) rfl rfl rfl rfl rfl ?_
        refine hq_gf (x := .int (hq_gi s17 48 9)) rfl rfl rfl rfl rfl ?_
        have h := Option.some.inj h
        subst h
        exact ⟨1, rfl⟩
def f_X11_fault (n : Nat) (a1 : Int32) (s : hq_S) : Option (Int32 × hq_S) := if a1 = 0 then some ((hq_gi s 48 7), s) else if a1 = (1 : Int32) then some ((hq_gi s 48 8), s) else some ((-1 : Int32), s)
theorem f_X11_fault_run {xs : List Int32} {n d g : Nat} {a1 : Int32} {s : hq_S} {y : (Int32 × hq_S)} (hd : 0 ≤ d) (h : f_X11_fault n a1 s = some y) : hq_R (mm_O xs) d mc_X11_fault 0 [some (.ref 0), some (.int a1)] [] s g (some (.int y.1)) y.2 := by
  unfold f_X11_fault at h
  refine hq_p 1 1 [some (.ref 0), some (.int a1)] [.int a1] (fun n h => rfl) ?_
  by_cases c1 : a1 = 0
  · rw [if_pos c1] at h
    refine hq_izF rfl (hq_c_ne_F c1) ?_
    refine hq_p 1 5 [some (.ref 0), some (.int a1)] [.ref 0] (fun n h => rfl) ?_
    refine hq_gf (x := .ref 48) rfl rfl rfl rfl rfl ?_
    refine hq_gf (x := .int (hq_gi s 48 7)) rfl rfl rfl rfl rfl ?_
    have h := Option.some.inj h
    subst h
    exact ⟨1, rfl⟩
  · rw [if_neg c1] at h
    refine hq_izT rfl (hq_c_ne_T c1) ?_
    refine hq_p 2 14 [some (.ref 0), some (.int a1)] [.int (1 : Int32), .int a1] (fun n h => rfl) ?_
    by_cases c2 : a1 = (1 : Int32)
    · rw [if_pos c2] at h
      refine hq_icF rfl (hq_c_ne_F c2) ?_
      refine hq_p 1 18 [some (.ref 0), some (.int a1)] [.ref 0] (fun n h => rfl) ?_
      refine hq_gf (x := .ref 48) rfl rfl rfl rfl rfl ?_
      refine hq_gf (x := .int (hq_gi s 48 8)) rfl rfl rfl rfl rfl ?_
      refine hq_p 1 28 [some (.ref 0), some (.int a1)] [.int (hq_gi s 48 8)] (fun n h => rfl) ?_
      have h := Option.some.inj h
      subst h
      exact ⟨1, rfl⟩
    · rw [if_neg c2] at h
      refine hq_icT rfl (hq_c_ne_T c2) ?_
      refine hq_icn (-1 : Int32) rfl (by decide) ?_
      have h := Option.some.inj h
      subst h
      exact ⟨1, rfl⟩
